/-- a byte as it stands in an array -/
def sb (b : UInt8) : Int32 := b.toInt8.toInt32
/-- what a byte array keeps of an int -/
def b8 (x : Int32) : UInt8 := x.toInt8.toUInt8
theorem nar_b8 (x : Int32) : vp_nar .byte x = sb (b8 x) := by
  rw [vp_nar_byte]
  unfold sb b8
  simp
theorem nar_b8' (x : Int32) : vp_nar .byte x.toInt8.toInt32 = sb (b8 x) := by
  rw [vp_nar_byte]
  unfold sb b8
  simp
theorem u8_all {P : UInt8 → Prop} (h : ∀ i : Fin 256, P (UInt8.ofNat i.val)) (b : UInt8) : P b := by
  have := h ⟨b.toNat, UInt8.toNat_lt b⟩
  simpa using this
theorem sb_and (b : UInt8) : sb b &&& ii 255 = ii (b.toNat : Int) := u8_all (P := fun b => sb b &&& ii 255 = ii (b.toNat : Int)) (by decide +kernel) b
theorem b8_sb (b : UInt8) : b8 (sb b) = b := u8_all (P := fun b => b8 (sb b) = b) (by decide +kernel) b
theorem sb_inj {a b : UInt8} (h : sb a = sb b) : a = b := by rw [← b8_sb a, h, b8_sb]
theorem sb_iff {a b : UInt8} : sb a = sb b ↔ a = b := ⟨sb_inj, fun h => by rw [h]⟩
theorem sb_fits (b : UInt8) : fits .byte (.int (sb b)) = true := u8_all (P := fun b => fits .byte (.int (sb b)) = true) (by decide +kernel) b
theorem sb_ii (b : UInt8) : sb b = ii (if b.toNat < 128 then (b.toNat : Int) else b.toNat - 256) := u8_all (P := fun b => sb b = ii (if b.toNat < 128 then (b.toNat : Int) else b.toNat - 256)) (by decide +kernel) b
theorem b8_ii (a : Int) : b8 (ii a) = UInt8.ofNat (a % 256).toNat := by
  unfold b8
  apply UInt8.toNat_inj.mp
  show ((ii a).toInt8.toUInt8).toBitVec.toNat = _
  have e : ((ii a).toInt8.toUInt8).toBitVec = (BitVec.ofInt 32 a).setWidth 8 := by
    show ((ii a).toInt8).toBitVec = _
    rw [Int32.toBitVec_toInt8, BitVec.signExtend_eq_setWidth_of_le _ (by decide)]
    rfl
  rw [e, BitVec.toNat_setWidth, BitVec.toNat_ofInt]
  show (a % 4294967296).toNat % 256 = (a % 256).toNat % 256
  omega
theorem b8_nat (n : Nat) : b8 (ii n) = UInt8.ofNat n := by
  rw [b8_ii]
  apply UInt8.toNat_inj.mp
  show ((n : Int) % 256).toNat % 256 = n % 256
  omega
theorem b8_xor (x y : Int32) : b8 (x ^^^ y) = b8 x ^^^ b8 y := by
  unfold b8
  simp
theorem ii_nneg {a : Int} (h1 : -2147483648 ≤ a) (h2 : a ≤ 2147483647) : (ii a < 0) ↔ a < 0 := by
  rw [show (0 : Int32) = ii 0 from rfl, ii_lt h1 h2 (by decide) (by decide)]
theorem ii_in {a : Int} {n : Nat} (h1 : 0 ≤ a) (h2 : a < n) (h3 : a ≤ 2147483647) : vp_in (ii a) n := by
  unfold vp_in
  rw [ii_nneg (by omega) h3, ii_nat (by omega) h3]
  omega
theorem ln_small (k : Nat) : ln k ≤ 70000 := by
  by_cases h : k < N0
  · exact (by decide +kernel : ∀ k, k < N0 → ln k ≤ 70000) k h
  · have : layL.length ≤ k := by
      have e : layL.length = N0 := by decide +kernel
      omega
    unfold ln
    rw [List.getD_eq_getElem?_getD, List.getElem?_eq_none this]
    decide
/-- all but these places is as it was -/
def Only (S : List Nat) (M M' : zM) : Prop := (∀ k, k ∉ S → M'.1 k = M.1 k) ∧ M'.2 = M.2
theorem Only.rf {S : List Nat} {M : zM} : Only S M M := ⟨fun _ _ => rfl, rfl⟩
theorem Only.trans {S : List Nat} {M M' M'' : zM} (h : Only S M M') (h' : Only S M' M'') : Only S M M'' := ⟨fun k hk => (h'.1 k hk).trans (h.1 k hk), h'.2.trans h.2⟩
theorem Only.mono {S S' : List Nat} {M M' : zM} (h : Only S M M') (hs : ∀ k, k ∈ S → k ∈ S') : Only S' M M' := ⟨fun k hk => h.1 k (fun q => hk (hs k q)), h.2⟩
theorem Only.zI {S : List Nat} {M M' : zM} {k j : Nat} {v : Int32} (h : Only S M M') (hk : k ∈ S) : Only S M (zI M' k j v) := ⟨fun a ha => (zI_o (fun e => ha (by rw [e]; exact hk))).trans (h.1 a ha), h.2⟩
theorem Only.zA {S : List Nat} {M M' : zM} {k : Nat} {f : Nat → Int32} (h : Only S M M') (hk : k ∈ S) : Only S M (zA M' k f) := ⟨fun a ha => (zA_o (fun e => ha (by rw [e]; exact hk))).trans (h.1 a ha), h.2⟩
theorem zI_g (M : zM) (k j : Nat) (v : Int32) (a b : Nat) : (zI M k j v).1 a b = if a = k ∧ b = j then v else M.1 a b := by
  show (if a = k then upd (M.1 a) j v else M.1 a) b = _
  by_cases h : a = k
  · subst h
    rw [if_pos rfl]
    show (if b = j then v else M.1 a b) = _
    simp
  · rw [if_neg h, if_neg (fun q => h q.1)]
theorem zA_g (M : zM) (k : Nat) (f : Nat → Int32) (a : Nat) : (zA M k f).1 a = if a = k then f else M.1 a := rfl
/-- a row at place r holds the bytes bs -/
def Rw (M : zM) (r : Nat) (bs : List UInt8) : Prop := M.1 r 1 = ii bs.length ∧ bs.length ≤ ln (r + 1) ∧ ∀ (i : Nat) (h : i < bs.length), M.1 (r + 1) i = sb bs[i]
/-- an array at place k begins with the bytes bs -/
def Ab (M : zM) (k : Nat) (bs : List UInt8) : Prop := bs.length ≤ ln k ∧ ∀ (i : Nat) (h : i < bs.length), M.1 k i = sb bs[i]
theorem Rw.only {S : List Nat} {M M' : zM} {r : Nat} {bs : List UInt8} (h : Rw M r bs) (ho : Only S M M') (h1 : r ∉ S) (h2 : r + 1 ∉ S) : Rw M' r bs := ⟨by rw [ho.1 r h1]; exact h.1, h.2.1, fun i hi => by rw [ho.1 _ h2]; exact h.2.2 i hi⟩
theorem Ab.only {S : List Nat} {M M' : zM} {k : Nat} {bs : List UInt8} (h : Ab M k bs) (ho : Only S M M') (h1 : k ∉ S) : Ab M' k bs := ⟨h.1, fun i hi => by rw [ho.1 _ h1]; exact h.2 i hi⟩
theorem Rw.len {M : zM} {r : Nat} {bs : List UInt8} (h : Rw M r bs) : bs.length ≤ 70000 := Nat.le_trans h.2.1 (ln_small _)
