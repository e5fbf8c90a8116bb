/-! MailChain tells what codes stand for. -/
section EXP2
variable {M : zM} {q a r : Nat} {rs out : List UInt8}
/-- the table's entries from 257 to below n are sound -/
def TbI (M : zM) (q n : Nat) : Prop := ∀ j, 257 ≤ j → j < n → ∃ st sz : Nat, M.1 (q + 1) j = ii st ∧ M.1 (q + 2) j = ii sz ∧ st ≤ 16000 ∧ 1 ≤ sz ∧ sz ≤ 16001
theorem s_Ex_tell {code nx : Nat} {post : Int32 → zM → Prop} (hl1 : ln (q + 1) = 16384) (hl2 : ln (q + 2) = 16384) (hlr : ln (r + 1) = 16000) (hR : Rw M r out) (f3 : M.1 q 3 = ii nx) (hnx : 257 ≤ nx) (hnx2 : nx ≤ 16384) (hc : code < 65536) (hT : TbI M q nx) (d : ∀ j, j ≤ 2 → q + j ≠ r ∧ q + j ≠ r + 1)
    (k0 : (code = 256 ∨ (257 ≤ code ∧ nx ≤ code) ∨ (code < 256 ∧ 16000 < out.length + 1) ∨ (257 ≤ code ∧ code < nx ∧ ∃ sz : Nat, M.1 (q + 2) code = ii sz ∧ sz ≤ 16001 ∧ 16000 < out.length + sz) ∨ 16384 ≤ nx) → post 0 M)
    (k1 : ∀ (M' : zM) (out' : List UInt8) (sz : Nat), Only [q + 1, q + 2, r, r + 1] M M' → Rw M' r out' → out'.length = out.length + sz → 1 ≤ sz → out'.length ≤ 16000 → nx < 16384 → M'.1 (q + 1) nx = ii out.length → M'.1 (q + 2) nx = ii ((sz + 1 : Nat) : Int) → (∀ j, j ≠ nx → M'.1 (q + 1) j = M.1 (q + 1) j ∧ M'.1 (q + 2) j = M.1 (q + 2) j) → (code < 256 → sz = 1 ∧ out' = out ++ [UInt8.ofNat code]) → (257 ≤ code → code < nx ∧ M.1 (q + 2) code = ii sz ∧ ∀ (st : Nat) (X : List UInt8), M.1 (q + 1) code = ii st → st < out.length → X.length = sz → (∀ (j : Nat) (hj : j < sz), (out ++ X)[st + j]? = X[j]?) → out' = out ++ X) → post 1 M') : Wp_Ex_tell q (ii code) r M post := by
  have hol : out.length ≤ 16000 := by have := hR.2.1; omega
  have d0 := d 0 (by omega)
  have d1 := d 1 (by omega)
  have d2 := d 2 (by omega)
  unfold Wp_Ex_tell
  intro K24 K46 K72 h24 h46 h72
  rw [f3, show (256 : Int32) = ii 256 from rfl, show (257 : Int32) = ii 257 from rfl, ii_eq (by omega) (by omega) (by omega) (by omega), ii_lt (by omega) (by omega) (by omega) (by omega), ii_lt (by omega) (by omega) (by omega) (by omega)]
  have main : code ≠ 256 → (code < 256 ∨ (257 ≤ code ∧ code < nx)) → K24 M := by
    intro hne hcc
    refine h24 _ ?_
    rintro x rfl
    rw [hR.1, show (256 : Int32) = ii 256 from rfl, ii_le (by omega) (by omega) (by omega) (by omega)]
    -- the size is known
    have go : ∀ sz : Nat, 1 ≤ sz → sz ≤ 16001 → (code < 256 → sz = 1) → (257 ≤ code → M.1 (q + 2) code = ii sz) → K46 (ii out.length) (ii sz) M := by
      intro sz s1 s2 hs1 hs2
      refine h46 _ _ _ (s_room hR ?_)
      rw [hlr, ii_lt (by omega) (by omega) (by omega) (by omega), f3, show (16384 : Int32) = ii 16384 from rfl, ii_lt (by omega) (by omega) (by omega) (by omega)]
      refine ⟨fun z => k0 ?_, fun z => ⟨fun z2 => ?_, fun z2 => k0 (Or.inr (Or.inr (Or.inr (Or.inr (by omega)))))⟩⟩
      · rcases hcc with c | c
        · have := hs1 c
          exact Or.inr (Or.inr (Or.inl ⟨c, by omega⟩))
        · exact Or.inr (Or.inr (Or.inr (Or.inl ⟨c.1, c.2, sz, hs2 c.1, s2, by omega⟩)))
      · suffices H : ∀ (m i : Nat) (M1 : zM) (o1 : List UInt8), i + m = sz → Only [r, r + 1] M M1 → Rw M1 r o1 → o1.length = out.length + i → (code < 256 → i ≤ 1 ∧ o1 = out ++ [UInt8.ofNat code].take i) → (257 ≤ code → ∀ (st : Nat) (X : List UInt8), M.1 (q + 1) code = ii st → st < out.length → X.length = sz → (∀ (j : Nat) (hj : j < sz), (out ++ X)[st + j]? = X[j]?) → o1 = out ++ X.take i) → K72 (ii out.length) (ii sz) (ii i) M1 from
          H sz 0 M out (Nat.zero_add _) Only.rf hR rfl (fun _ => ⟨by omega, by simp⟩) (fun _ st X _ _ _ _ => by simp)
        intro m
        induction m with
        | zero =>
          intro i M1 o1 hi oo R1 hlen hA hB
          have ei : i = sz := by omega
          subst ei
          have g3 : M1.1 q 3 = ii nx := by rw [oo.1 q (by simp; omega)]; exact f3
          refine h72 _ _ _ _ ⟨fun _ => ?_, fun z => absurd (by rw [ii_le (by omega) (by omega) (by omega) (by omega)]; omega) z⟩
          rw [g3]
          refine ⟨ii_in (by omega) (by omega) (by omega), ?_⟩
          rintro M4 h4
          have g34 : M4.1 q 3 = ii nx := by rw [h4, zI_o (by omega)]; exact g3
          rw [g34]
          refine ⟨ii_in (by omega) (by omega) (by omega), ?_⟩
          rw [ii_nat (by omega) (by omega), Int.toNat_natCast] at h4 ⊢
          rw [show (1 : Int32) = ii 1 from rfl, ii_add]
          rintro M5 h5
          have o5 : Only [q + 1, q + 2, r, r + 1] M M5 := by
            rw [h5, h4]
            exact ((oo.mono (by simp)).zI (by simp)).zI (by simp)
          have oA : Only [q + 1, q + 2] M1 M5 := by
            rw [h5, h4]
            exact (Only.rf.zI (by simp)).zI (by simp)
          refine k1 M5 o1 i o5 (R1.only oA (by simp; omega) (by simp; omega)) hlen s1 (by have := R1.2.1; omega) (by omega) ?_ ?_ (fun j hj => ⟨?_, ?_⟩) (fun c => ⟨hs1 c, ?_⟩) (fun c => ⟨by omega, hs2 c, fun st X e1 e2 e3 e4 => ?_⟩)
          · rw [h5, zI_o (by omega), h4, zI_g, if_pos ⟨rfl, rfl⟩]
          · rw [h5, zI_g, if_pos ⟨rfl, rfl⟩]
            rfl
          · rw [h5, zI_o (by omega), h4, zI_g, if_neg (fun z => hj z.2), oo.1 (q + 1) (by simp; omega)]
          · rw [h5, zI_g, if_neg (fun z => hj z.2), h4, zI_o (by omega), oo.1 (q + 2) (by simp; omega)]
          · have := (hA c).2
            rw [hs1 c] at this
            exact this
          · have := hB c st X e1 e2 e3 e4
            rw [← e3, List.take_length] at this
            exact this
        | succ m ih =>
          intro i M1 o1 hi oo R1 hlen hA hB
          refine h72 _ _ _ _ ⟨fun z => ?_, fun _ => ?_⟩
          · rw [ii_le (by omega) (by omega) (by omega) (by omega)] at z
            omega
          · rw [show (256 : Int32) = ii 256 from rfl, ii_le (by omega) (by omega) (by omega) (by omega)]
            refine ⟨fun z => ⟨ii_in (by omega) (by omega) (by omega), ?_⟩, fun z => ?_⟩
            · have hcn : 257 ≤ code ∧ code < nx := by rcases hcc with c | c; omega; exact c
              obtain ⟨st, sz', t1, t2, t3, t4, t5⟩ := hT code hcn.1 hcn.2
              rw [ii_nat (by omega) (by omega), Int.toNat_natCast, oo.1 (q + 1) (by simp; omega), t1, ii_add]
              refine s_at R1 (by omega) (by omega) ?_
              refine s_put R1 (by rw [hlr]; omega) (fun M2 o2 R2 => ?_)
              rintro x rfl
              rw [show (1 : Int32) = ii 1 from rfl, ii_add]
              refine ih (i + 1) M2 _ (by omega) (oo.trans o2) R2 (by rw [List.length_append]; simp; omega) (fun c => by omega) (fun c st' X e1 e2 e3 e4 => ?_)
              have hst : st' = st := by
                have := e1.symm.trans t1
                rw [ii_eq (by omega) (by omega) (by omega) (by omega)] at this
                omega
              subst hst
              have ho := hB c st' X e1 e2 e3 e4
              have hiX : i < X.length := by omega
              have hg : gt o1 ((st' : Int) + i) = ((X[i].toNat : Nat) : Int) := by
                have hin : st' + i < o1.length := by omega
                rw [show ((st' : Int) + i) = ((st' + i : Nat) : Int) by omega, gt_in hin]
                have e5 := e4 i (by omega)
                rw [List.getElem?_eq_getElem hiX] at e5
                have e6 : o1[st' + i]? = (out ++ X)[st' + i]? := by
                  rw [ho]
                  by_cases cc : st' + i < out.length
                  · rw [List.getElem?_append_left cc, List.getElem?_append_left cc]
                  · rw [List.getElem?_append_right (by omega), List.getElem?_append_right (by omega), List.getElem?_take_of_lt (by omega)]
                rw [e5, List.getElem?_eq_getElem hin] at e6
                rw [Option.some.inj e6]
              rw [hg, b8_nat, UInt8.ofNat_toNat, ho, List.append_assoc, List.take_append_getElem hiX]
            · have hcl : code < 256 := by omega
              refine s_put R1 (by rw [hlr]; omega) (fun M2 o2 R2 => ?_)
              rintro x rfl
              rw [show (1 : Int32) = ii 1 from rfl, ii_add]
              have h1 := hs1 hcl
              refine ih (i + 1) M2 _ (by omega) (oo.trans o2) R2 (by rw [List.length_append]; simp; omega) (fun c => ⟨by omega, ?_⟩) (fun c => by omega)
              have hi0 : i = 0 := by omega
              rw [b8_nat, (hA c).2, hi0]
              simp
    refine ⟨fun z => ⟨ii_in (by omega) (by omega) (by omega), ?_⟩, fun z => go 1 (by omega) (by omega) (fun _ => rfl) (fun c => by omega)⟩
    have hcn : 257 ≤ code ∧ code < nx := by rcases hcc with c | c; omega; exact c
    obtain ⟨st, sz, t1, t2, t3, t4, t5⟩ := hT code hcn.1 hcn.2
    rw [ii_nat (by omega) (by omega), Int.toNat_natCast, t2]
    exact go sz t4 t5 (fun c => by omega) (fun _ => t2)
  refine ⟨fun z => k0 (Or.inl (by omega)), fun z => ⟨fun z2 => main (by omega) (Or.inl (by omega)), fun z2 => ⟨fun z3 => main (by omega) (Or.inr (by omega)), fun z3 => k0 (Or.inr (Or.inl (by omega)))⟩⟩⟩
end EXP2
