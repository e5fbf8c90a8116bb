/-! Longs as integers; decimals: both sides. -/
def ll (z : Int) : Int64 := Int64.ofInt z
theorem ll_toInt {a : Int} (h1 : -9223372036854775808 ≤ a) (h2 : a ≤ 9223372036854775807) : (ll a).toInt = a := by
  unfold ll
  rw [Int64.toInt_ofInt]
  simp only [Int64.size]
  exact Int.bmod_eq_of_le (by omega) (by omega)
theorem ll_add (a b : Int) : ll a + ll b = ll (a + b) := (Int64.ofInt_add a b).symm
theorem ll_sub (a b : Int) : ll a - ll b = ll (a - b) := (Int64.ofInt_sub a b).symm
theorem ll_mul (a b : Int) : ll a * ll b = ll (a * b) := (Int64.ofInt_mul a b).symm
theorem ll_lt {a b : Int} (h1 : -9223372036854775808 ≤ a) (h2 : a ≤ 9223372036854775807) (h3 : -9223372036854775808 ≤ b) (h4 : b ≤ 9223372036854775807) : (ll a < ll b) ↔ a < b := by
  rw [Int64.lt_iff_toInt_lt, ll_toInt h1 h2, ll_toInt h3 h4]
theorem ll_le {a b : Int} (h1 : -9223372036854775808 ≤ a) (h2 : a ≤ 9223372036854775807) (h3 : -9223372036854775808 ≤ b) (h4 : b ≤ 9223372036854775807) : (ll a ≤ ll b) ↔ a ≤ b := by
  rw [Int64.le_iff_toInt_le, ll_toInt h1 h2, ll_toInt h3 h4]
theorem ll_eq {a b : Int} (h1 : -9223372036854775808 ≤ a) (h2 : a ≤ 9223372036854775807) (h3 : -9223372036854775808 ≤ b) (h4 : b ≤ 9223372036854775807) : (ll a = ll b) ↔ a = b := by
  rw [← Int64.toInt_inj, ll_toInt h1 h2, ll_toInt h3 h4]
theorem ll_div {a b : Int} (h1 : 0 ≤ a) (h2 : a ≤ 9223372036854775807) (h3 : 0 < b) (h4 : b ≤ 9223372036854775807) : ll a / ll b = ll (a / b) := by
  rw [← Int64.toInt_inj, Int64.toInt_div, ll_toInt (by omega) h2, ll_toInt (by omega) h4]
  have hq := Int.ediv_le_self b h1
  have hq0 := Int.ediv_nonneg h1 (Int.le_of_lt h3)
  rw [ll_toInt (by omega) (by omega), Int.tdiv_eq_ediv_of_nonneg h1]
  exact Int.bmod_eq_of_le (by omega) (by omega)
theorem ll_of_ii {a : Int} (h1 : -2147483648 ≤ a) (h2 : a ≤ 2147483647) : (ii a).toInt64 = ll a := by
  rw [← Int64.toInt_inj, Int32.toInt_toInt64, ii_toInt h1 h2, ll_toInt (by omega) (by omega)]
theorem ll_to32 (a : Int) : (ll a).toInt32 = ii a := Int64.toInt32_ofInt
/-- digits of base 10 -/
def dgs (v : Nat) : Nat → List UInt8
  | 0 => [UInt8.ofNat (48 + v % 10)]
  | k + 1 => UInt8.ofNat (48 + v / 10 ^ (k + 1) % 10) :: dgs v k
def lgF : Nat → Nat → Nat
  | 0, _ => 0
  | f + 1, v => if v < 10 then 0 else lgF f (v / 10) + 1
def decs (v : Nat) : List UInt8 := dgs v (lgF 9 v)
theorem dgs_len (v : Nat) : ∀ k, (dgs v k).length = k + 1
  | 0 => rfl
  | k + 1 => by simp [dgs, dgs_len v k]
theorem lgF_le : ∀ (f v : Nat), lgF f v ≤ f
  | 0, _ => Nat.le_refl _
  | f + 1, v => by
    unfold lgF
    by_cases h : v < 10
    · rw [if_pos h]; omega
    · rw [if_neg h]; have := lgF_le f (v / 10); omega
theorem decs_len (v : Nat) : (decs v).length ≤ 10 := by
  unfold decs
  rw [dgs_len]
  have := lgF_le 9 v
  omega
theorem ten_le {j : Nat} (h : j ≤ 9) : 10 ^ j ≤ 1000000000 := Nat.pow_le_pow_right (n := 10) (by decide) h
theorem dgs_hd (v k : Nat) : ∃ t, dgs v k = UInt8.ofNat (48 + v / 10 ^ k % 10) :: t ∧ (k = 0 → t = []) ∧ (∀ j, k = j + 1 → t = dgs v j) := by
  cases k with
  | zero => exact ⟨[], by simp [dgs], fun _ => rfl, fun j h => by omega⟩
  | succ k => exact ⟨dgs v k, rfl, fun h => by omega, fun j h => by rw [Nat.succ.inj h]⟩
theorem dig_ll {v j : Nat} (hv : v ≤ 4294967295) (hj : j ≤ 9) : ((ll (v : Int) / ll ((10 ^ j : Nat) : Int)) - (ll (v : Int) / ll ((10 ^ j : Nat) : Int)) / 10 * 10).toInt32 = ii ((v / 10 ^ j % 10 : Nat) : Int) := by
  have h10 := ten_le hj
  have hp : 0 < 10 ^ j := Nat.pow_pos (by decide)
  rw [ll_div (by omega) (by omega) (by omega) (by omega), ← Int.natCast_ediv]
  have hq : v / 10 ^ j ≤ 4294967295 := Nat.le_trans (Nat.div_le_self _ _) hv
  generalize v / 10 ^ j = z at hq ⊢
  rw [show (10 : Int64) = ll 10 from rfl, ll_div (by omega) (by omega) (by decide) (by decide), ll_mul, ll_sub, ll_to32]
  congr 1
  omega
section DEC
variable {M : zM} {r : Nat} {bs : List UInt8}
theorem s_putDecimal {v : Nat} {post : zM → Prop} (hv : v ≤ 4294967295) (h : Rw M r bs) (hroom : bs.length + (decs v).length ≤ ln (r + 1)) (k : ∀ M', Only [r, r + 1] M M' → Rw M' r (bs ++ decs v) → post M') : Wp_Ro_putDecimal r (ll v) M post := by
  unfold Wp_Ro_putDecimal
  intro K5 K34 h5 h34
  have out : ∀ (j : Nat) (o : List UInt8) (M1 : zM), j ≤ 9 → Only [r, r + 1] M M1 → Rw M1 r o → o ++ dgs v j = bs ++ decs v → K34 (ll ((10 ^ j : Nat) : Int)) M1 := by
    intro j
    induction j with
    | zero =>
      intro o M1 hj ho hR he
      have hol := congrArg List.length he
      simp only [List.length_append, dgs_len] at hol
      have hd := dig_ll hv hj
      refine h34 _ _ ⟨fun c => ?_, fun _ => ⟨by decide, ?_⟩⟩
      · rw [lg_cmp_le] at c
        exact absurd c (by decide)
      · rw [hd, show (48 : Int32) = ii 48 from rfl, ii_add, show ((48 : Int) + ((v / 10 ^ 0 % 10 : Nat) : Int)) = ((48 + v % 10 : Nat) : Int) by simp]
        refine s_put hR (by omega) (fun M2 o2 R2 => ?_)
        rintro y rfl
        refine h34 _ _ ⟨fun _ => ?_, fun c => absurd (by decide) c⟩
        rw [b8_nat] at R2
        have he' : o ++ [UInt8.ofNat (48 + v % 10)] = bs ++ decs v := he
        rw [he'] at R2
        exact k M2 (ho.trans o2) R2
    | succ j ih =>
      intro o M1 hj ho hR he
      have h10 := ten_le hj
      have hp : 0 < 10 ^ (j + 1) := Nat.pow_pos (by decide)
      have hol := congrArg List.length he
      simp only [List.length_append, dgs_len] at hol
      have hd := dig_ll hv hj
      refine h34 _ _ ⟨fun c => ?_, fun _ => ⟨?_, ?_⟩⟩
      · rw [lg_cmp_le, show (0 : Int64) = ll 0 from rfl, ll_le (by omega) (by omega) (by omega) (by omega)] at c
        omega
      · rw [show (0 : Int64) = ll 0 from rfl, ll_eq (by omega) (by omega) (by omega) (by omega)]
        omega
      · rw [hd, show (48 : Int32) = ii 48 from rfl, ii_add, show ((48 : Int) + ((v / 10 ^ (j + 1) % 10 : Nat) : Int)) = ((48 + v / 10 ^ (j + 1) % 10 : Nat) : Int) by omega]
        refine s_put hR (by omega) (fun M2 o2 R2 => ?_)
        rintro y rfl
        have e10 : ll ((10 ^ (j + 1) : Nat) : Int) / 10 = ll ((10 ^ j : Nat) : Int) := by
          rw [show (10 : Int64) = ll 10 from rfl, ll_div (by omega) (by omega) (by decide) (by decide)]
          congr 1
          rw [Nat.pow_succ]
          omega
        rw [e10]
        rw [b8_nat] at R2
        refine ih _ M2 (by omega) (ho.trans o2) R2 ?_
        rw [← he]
        simp [dgs]
  suffices H : ∀ (f j : Nat), j + f = 9 → lgF 9 v = j + lgF f (v / 10 ^ j) → K5 (ll ((10 ^ j : Nat) : Int)) (ii ((j + 1 : Nat) : Int)) M from H 9 0 rfl (by simp)
  intro f
  induction f with
  | zero =>
    intro j hj hl
    have ej : j = 9 := by omega
    subst ej
    refine h5 _ _ _ ⟨fun _ => out 9 bs M (by omega) Only.rf h ?_, fun c => absurd (by decide) c⟩
    have hl' : lgF 9 v = 9 := hl
    unfold decs
    rw [hl']
  | succ f ih =>
    intro j hj hl
    have h10 := ten_le (show j ≤ 9 by omega)
    have hp : 0 < 10 ^ j := Nat.pow_pos (by decide)
    have hq : v / 10 ^ j ≤ 4294967295 := Nat.le_trans (Nat.div_le_self _ _) hv
    refine h5 _ _ _ ⟨fun c => ?_, fun _ => ⟨?_, ?_⟩⟩
    · rw [show (10 : Int32) = ii 10 from rfl, ii_le (by omega) (by omega) (by omega) (by omega)] at c
      omega
    · rw [show (0 : Int64) = ll 0 from rfl, ll_eq (by omega) (by omega) (by omega) (by omega)]
      omega
    · have hdd : v / 10 ^ (j + 1) = v / 10 ^ j / 10 := by rw [Nat.pow_succ, ← Nat.div_div_eq_div_mul]
      rw [ll_div (by omega) (by omega) (by omega) (by omega), ← Int.natCast_ediv, lg_cmp_lt, show (10 : Int64) = ll 10 from rfl]
      generalize v / 10 ^ j = z at hq hl hdd ⊢
      have hl2 : lgF (f + 1) z = if z < 10 then 0 else lgF f (z / 10) + 1 := rfl
      rw [hl2] at hl
      rw [ll_lt (by omega) (by omega) (by decide) (by decide)]
      refine ⟨fun c => ?_, fun c => ?_⟩
      · rw [if_pos (by omega)] at hl
        refine out j bs M (by omega) Only.rf h ?_
        unfold decs
        rw [hl]
        rfl
      · rw [if_neg (by omega)] at hl
        rintro y rfl x rfl
        rw [ll_mul, show (1 : Int32) = ii 1 from rfl, ii_add, show (((10 ^ j : Nat) : Int) * 10) = ((10 ^ (j + 1) : Nat) : Int) by rw [Nat.pow_succ]; omega]
        refine ih (j + 1) (by omega) ?_
        rw [hl, hdd]
        omega
end DEC
