/-! At the law's entry: the tables, the texts, the statics. -/
section ENTRY
variable {s : State} {b : Nat}
theorem hA0 : ∀ a : Nat, a < s.heap.size → ¬ zAb s.heap.size a := fun a h z => by
  have := z.1
  omega
theorem arr_K {c : ClassId} {k : Class} {comp : ClassId} {ty : FieldType} (f2 : s.vm.classes[c]? = some k) (f3 : k.kind = .array comp ty) (hty : ∀ C, ty ≠ .object C) : ArrOfT s c ty := fun N z => ⟨(fun k h => by cases h), k, f2, comp, f3⟩
theorem en_K (hts : ∀ w ∈ lw_tbl, w.before #[Value.ref b] s = true) : ∃ (D : va_G) (aC : Nat → ClassId), va_K D kcl (ztyl aC) s := by
  have ht := tb_all hts
  obtain ⟨c0, i0, k0⟩ := u_known ht u_in_Mc (ht _ w_33)
  obtain ⟨c1, i1, k1⟩ := u_known ht u_in_Ro (ht _ w_41)
  obtain ⟨c2, i2, k2⟩ := u_known ht u_in_En (ht _ w_71)
  obtain ⟨c3, i3, k3⟩ := u_known ht u_in_Tr (ht _ w_64)
  obtain ⟨c4, i4, k4⟩ := u_known ht u_in_Ma (ht _ w_149)
  obtain ⟨c5, i5, k5⟩ := u_known ht u_in_Pl (ht _ w_190)
  obtain ⟨c6, i6, k6⟩ := u_known ht u_in_Bo (ht _ w_178)
  obtain ⟨c7, i7, k7⟩ := u_known ht u_in_Sq (ht _ w_240)
  obtain ⟨c8, i8, k8⟩ := u_known ht u_in_Ex (ht _ w_274)
  obtain ⟨c9, i9, k9⟩ := u_known ht u_in_Mo (ht _ w_1259)
  obtain ⟨cB, kB, pB, b1, b2, b3⟩ := Cond.arrayClass_spec (ht _ w_62)
  obtain ⟨cI, kI, pI, j1, j2, j3⟩ := Cond.arrayClass_spec (ht _ w_176)
  obtain ⟨cZ, kZ, pZ, z1, z2, z3⟩ := Cond.arrayClass_spec (ht _ w_1456)
  obtain ⟨cL, kL, pL, l1, l2, l3⟩ := Cond.arrayClass_spec (ht _ w_1747)
  obtain ⟨pE, cE, kE, e1, e2, e3, e4, e5⟩ := Cond.arrayOver_spec (hts _ (tl_9 (Cond.arrayOver (.object "MailChain$Entry")) (by simp [tl9])))
  refine ⟨(fun c => [c0, c1, c2, c3, c4, c5, c6, c7, c8, c9].getD c c0, fun c => [i0, i1, i2, i3, i4, i5, i6, i7, i8, i9].getD c i0), fun k => if k = 20 then cB else if k = 21 then cI else if k = 22 then cZ else if k = 23 then cL else cE, fun c q hq => ?_, fun k q hq => ?_⟩
  · match c, hq with
    | 0, hq => obtain rfl := Option.some.inj (show some (R_Mc, F_Mc, 14) = some q from hq); exact k0
    | 1, hq => obtain rfl := Option.some.inj (show some (R_Ro, F_Ro, 2) = some q from hq); exact k1
    | 2, hq => obtain rfl := Option.some.inj (show some (R_En, F_En, 9) = some q from hq); exact k2
    | 3, hq => obtain rfl := Option.some.inj (show some (R_Tr, F_Tr, 4) = some q from hq); exact k3
    | 4, hq => obtain rfl := Option.some.inj (show some (R_Ma, F_Ma, 5) = some q from hq); exact k4
    | 5, hq => obtain rfl := Option.some.inj (show some (R_Pl, F_Pl, 5) = some q from hq); exact k5
    | 6, hq => obtain rfl := Option.some.inj (show some (R_Bo, F_Bo, 7) = some q from hq); exact k6
    | 7, hq => obtain rfl := Option.some.inj (show some (R_Sq, F_Sq, 9) = some q from hq); exact k7
    | 8, hq => obtain rfl := Option.some.inj (show some (R_Ex, F_Ex, 7) = some q from hq); exact k8
    | 9, hq => obtain rfl := Option.some.inj (show some (R_Mo, F_Mo, 62) = some q from hq); exact k9
    | n + 10, hq =>
      have h := (List.getElem?_eq_some_iff.mp hq).1
      rw [show kcl.length = 10 from rfl] at h
      omega
  · match k, hq with
    | 0, hq =>
      obtain rfl := Option.some.inj (show some (cB, FieldType.byte) = some q from hq)
      exact ⟨arr_K b2 b3 (fun C h => by cases h), b1⟩
    | 1, hq =>
      obtain rfl := Option.some.inj (show some (cI, FieldType.int) = some q from hq)
      exact ⟨arr_K j2 j3 (fun C h => by cases h), j1⟩
    | 2, hq =>
      obtain rfl := Option.some.inj (show some (cZ, FieldType.boolean) = some q from hq)
      exact ⟨arr_K z2 z3 (fun C h => by cases h), z1⟩
    | 3, hq =>
      obtain rfl := Option.some.inj (show some (cL, FieldType.long) = some q from hq)
      exact ⟨arr_K l2 l3 (fun C h => by cases h), l1⟩
    | 4, hq =>
      obtain rfl := Option.some.inj (show some (cE, FieldType.object "MailChain$Entry") = some q from hq)
      exact ⟨fun N z => ⟨(fun k h => by cases h), kE, e3, pE, e4⟩, kE, pE, e3, e4, e1, e5⟩
    | n + 5, hq =>
      have h := (List.getElem?_eq_some_iff.mp hq).1
      exact absurd h (by unfold ztyl; simp)
theorem zLs_of {C n d : String} (h : (Cond.laysStatic C n d).before #[Value.ref b] s = true) : zLs C n d s.heap.size s := by
  obtain ⟨c, k, i, f, a, cell, h1, h2, h3, h4, h5, h6, h7, h8, h9⟩ := Cond.laysStatic_spec h
  exact ⟨c, k, i, f, a, cell, h1, h2, h3, h4, h5, h6, h7, h8, h9, hA0 a (Array.getElem?_eq_some_iff.mp h5).1⟩
theorem en_S (hts : ∀ w ∈ lw_tbl, w.before #[Value.ref b] s = true) (hgv : (Jvm.Cond.and given_1 narrow_1).before #[Value.ref b] s = true) : ∃ aS : Nat → Nat, zSx s.heap.size aS s := by
  have hn : ∀ w ∈ nrL, w.before #[Value.ref b] s = true := flat_of_before _ hgv
  have t9 : ∀ w ∈ tl9, w.before #[Value.ref b] s = true := fun w hw => hts w (tl_9 w hw)
  have n7 : ∀ w ∈ nr7, w.before #[Value.ref b] s = true := fun w hw => hn w (nr_7 w hw)
  obtain ⟨t, ht, hT⟩ := va_Tof (args := #[Value.ref b]) (s := s) (tm := rmT) (ty := .int) (N := 16) (f := fun j => .int (remL.getD j 0)) (A := zAb s.heap.size) (by decide) (n7 _ (by simp [nr7])) (va_eqt (n7 (Cond.eq (.length rmT) (.int 16)) (by simp [nr7]))) (fun j hj => va_eqt (hn _ (nr_rm j hj))) hA0
  obtain ⟨adK, adV, hS, hE⟩ := vk_Sof (args := #[Value.ref b]) (s := s) (N := 9) (tm := stm) (len := strLen) (byt := strByt) (A := zAb s.heap.size) (by decide +kernel) (fun i hi => hn _ (nr_ex i hi)) (fun i hi => hn _ (nr_co i hi)) (fun i hi => hn _ (nr_ar i hi)) (fun i hi => hn _ (nr_le i hi)) (fun i hi j hj => hn _ (nr_el i hi j hj)) (fun i j hi hj hne => (prL_all i hi j hj hne).imp (fun q => hn _ (nr_ne (i, j) q)) (fun q => hn _ (nr_ne (j, i) q))) hA0
  have aK : ∀ i, i < 9 → (fun i => if i < 100 then adK i else adV (i - 100)) i = adK i := fun i hi => if_pos (by omega)
  have aV : ∀ i, i < 9 → (fun i => if i < 100 then adK i else adV (i - 100)) (100 + i) = adV i := fun i hi => by
    show (if 100 + i < 100 then _ else _) = _
    rw [if_neg (by omega), show 100 + i - 100 = i by omega]
  refine ⟨fun i => if i < 100 then adK i else adV (i - 100), ⟨t, va_Zref (t9 _ (by simp [tl9])) (t9 _ (by simp [tl9])) ht hA0, hT⟩, ⟨fun i hi => ?_, fun i j hi hj q => ?_⟩, fun i hi => ?_, va_Zof (t9 _ (by simp [tl9])) (t9 _ (by simp [tl9])) (va_eqi (n7 _ (by simp [nr7]))) hA0, va_Zqof (t9 _ (by simp [tl9])) (t9 _ (by simp [tl9])) (n7 _ (by simp [nr7])) hA0, va_Zqof (t9 _ (by simp [tl9])) (t9 _ (by simp [tl9])) (n7 _ (by simp [nr7])) hA0, va_Zqof (t9 _ (by simp [tl9])) (t9 _ (by simp [tl9])) (n7 _ (by simp [nr7])) hA0, fun q hq => va_Nw.of rfl (hts _ (tl_nf q hq)), fun q hq => va_Nw.of rfl (hts _ (tl_nm q hq)), fun k h1 h2 => va_Nw.of rfl (hts _ (tl_ca k h1 h2)), fun q hq => va_Nc.of (hn _ (nr_nc q hq)), fun q hq => va_Nw.of rfl (hts _ (tl_de q hq)), zLs_of (t9 _ (by simp [tl9])), zLs_of (t9 _ (by simp [tl9]))⟩
  · have h := hS.1 i hi
    rw [aK i hi]
    show _ ∧ _ ∧ va_OF "java/lang/String" "value" "[B" (.ref ((fun i => if i < 100 then adK i else adV (i - 100)) (100 + i))) _ _ _ _ ∧ va_T .byte ((fun i => if i < 100 then adK i else adV (i - 100)) (100 + i)) _ _ _ _ _
    rw [aV i hi]
    exact h
  · rw [aK i hi, aK j hj] at q
    exact hS.2 i j hi hj q
  · have ev : (stm i).eval #[Value.ref b] s none [] s = some (.ref (adK (strNo i))) := by
      by_cases c : i < 9
      · rw [show strNo i = i from (show ∀ i, i < 9 → strNo i = i by decide) i c]
        exact hE i c
      · obtain ⟨m, rfl⟩ : ∃ m, i = 9 + m := ⟨i - 9, by omega⟩
        rw [show strNo (9 + m) = m from (show ∀ m, m < 4 → strNo (9 + m) = m by decide) m (by omega)]
        exact va_eqR (hn _ (nr_eq m (by omega))) (hE m (by omega))
    have hno : strNo i < 9 := (show ∀ i, i < 13 → strNo i < 9 by decide) i hi
    show vk_R _ _ _ ((fun i => if i < 100 then adK i else adV (i - 100)) (strNo i)) s
    rw [aK _ hno]
    exact vk_R.of (hts _ (tl_sr i hi)) ev
end ENTRY
