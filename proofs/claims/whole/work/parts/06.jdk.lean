theorem d_pc_0 : decode b_JPreconditions_checkIndex 0 = .ok (.iload_n 0, 1) := by decide +kernel
theorem d_pc_1 : decode b_JPreconditions_checkIndex 1 = .ok (.ifCond .lt 8, 3) := by decide +kernel
theorem d_pc_4 : decode b_JPreconditions_checkIndex 4 = .ok (.iload_n 0, 1) := by decide +kernel
theorem d_pc_5 : decode b_JPreconditions_checkIndex 5 = .ok (.iload_n 1, 1) := by decide +kernel
theorem d_pc_6 : decode b_JPreconditions_checkIndex 6 = .ok (.if_icmp .lt 10, 3) := by decide +kernel
theorem d_pc_16 : decode b_JPreconditions_checkIndex 16 = .ok (.iload_n 0, 1) := by decide +kernel
theorem d_pc_17 : decode b_JPreconditions_checkIndex 17 = .ok (.ireturn, 1) := by decide +kernel
theorem d_ci_0 : decode b_JString_checkIndex 0 = .ok (.iload_n 0, 1) := by decide +kernel
theorem d_ci_1 : decode b_JString_checkIndex 1 = .ok (.iload_n 1, 1) := by decide +kernel
theorem d_ci_2 : decode b_JString_checkIndex 2 = .ok (.getstatic 1053, 3) := by decide +kernel
theorem d_ci_5 : decode b_JString_checkIndex 5 = .ok (.invokestatic 1059, 3) := by decide +kernel
theorem d_ci_8 : decode b_JString_checkIndex 8 = .ok (.pop, 1) := by decide +kernel
theorem d_ci_9 : decode b_JString_checkIndex 9 = .ok (.return_, 1) := by decide +kernel
set_option maxRecDepth 100000 in
set_option maxHeartbeats 4000000 in
/-- Preconditions.checkIndex where the index is in range -/
theorem Met_pc (l : Launch) (B : Nat) (D : va_G) (aC : Nat → ClassId) (aS : Nat → Nat) {i n : Int32} {v : Value} {M : zM} {post : Int32 → zM → Prop} (hv : v = .null ∨ ∃ t : Nat, v = .ref t) (h : ¬ i < 0 ∧ i < n ∧ post i M) : Met l y_JPreconditions_checkIndex (wo y_JPreconditions_checkIndex b_JPreconditions_checkIndex 3 (some FieldType.int)) { frames := 0, cells := 0, slots := 0, locals := 0 } (va_Pc [.int i, .int n, v] (zWl B D aC aS M)) (zQi B D aC post) 0 0 (zAb B) := by
  obtain ⟨h1, h2, h3⟩ := h
  rcases hv with rfl | ⟨t, rfl⟩
  · refine z_met (own := "jdk/internal/util/Preconditions") (lv0 := [(0, .int i), (1, .int n), (2, .null)]) (by decide) rfl (Nat.le_of_ble_eq_true rfl) rfl ?_
    intro p e s m below meth c fx hr hlo
    refine a_iload_n fx 0 d_pc_0 rfl rfl ?_
    refine a_if_lt fx 9 d_pc_1 rfl (fun hc => absurd hc h1) (fun hc => ?_)
    refine a_iload_n fx 0 d_pc_4 rfl rfl ?_
    refine a_iload_n fx 1 d_pc_5 rfl rfl ?_
    refine a_icmp_lt fx 16 d_pc_6 rfl (fun hc => ?_) (fun hc => absurd h2 hc)
    refine a_iload_n fx 0 d_pc_16 rfl rfl ?_
    exact a_iret fx hlo hr h3 d_pc_17
  · refine z_met (own := "jdk/internal/util/Preconditions") (lv0 := [(0, .int i), (1, .int n), (2, .ref t)]) (by decide) rfl (Nat.le_of_ble_eq_true rfl) rfl ?_
    intro p e s m below meth c fx hr hlo
    refine a_iload_n fx 0 d_pc_0 rfl rfl ?_
    refine a_if_lt fx 9 d_pc_1 rfl (fun hc => absurd hc h1) (fun hc => ?_)
    refine a_iload_n fx 0 d_pc_4 rfl rfl ?_
    refine a_iload_n fx 1 d_pc_5 rfl rfl ?_
    refine a_icmp_lt fx 16 d_pc_6 rfl (fun hc => ?_) (fun hc => absurd h2 hc)
    refine a_iload_n fx 0 d_pc_16 rfl rfl ?_
    exact a_iret fx hlo hr h3 d_pc_17
/-- String.checkIndex where the index is in range -/
def Wp_JString_checkIndex (i0 i1 : Int32) (M : zM) (post : zM → Prop) : Prop := ¬ i0 < 0 ∧ i0 < i1 ∧ post M
set_option maxRecDepth 100000 in
set_option maxHeartbeats 4000000 in
theorem Met_JString_checkIndex (l : Launch) (B : Nat) (D : va_G) (aC : Nat → ClassId) (aS : Nat → Nat) {i0 i1 : Int32} {M : zM} {post : zM → Prop} (h : Wp_JString_checkIndex i0 i1 M post) : Met l y_JString_checkIndex (wo y_JString_checkIndex b_JString_checkIndex 2 none) { frames := 1, cells := 0, slots := 0, locals := 22 } (va_Pc [.int i0, .int i1] (zWl B D aC aS M)) (zQv B D aC post) 0 0 (zAb B) := by
  refine z_met (own := "java/lang/String") (lv0 := [(0, .int i0), (1, .int i1)]) (by decide) rfl (Nat.le_of_ble_eq_true rfl) rfl ?_
  intro p e s m below meth c fx hr hlo
  obtain ⟨h1, h2, h3⟩ := h
  refine a_iload_n fx 0 d_ci_0 rfl rfl ?_
  refine a_iload_n fx 1 d_ci_1 rfl rfl ?_
  refine a_getq fx fx.2.2.2.2.2.1.2.2.2.2.2.2.2.1 w_423 d_ci_2 (fun v hv => ?_)
  refine a_calli (rest := []) (a_runS (As := [.int i0, .int i1, v]) fx cv_JPreconditions_checkIndex w_425 (Met_pc l B D aC aS (post := fun r M2 => r = i0 ∧ M2 = M) hv ⟨h1, h2, rfl, rfl⟩) rfl rfl (Nat.le_of_ble_eq_true rfl) rfl rfl ⟨Nat.le_of_ble_eq_true rfl, Nat.le_of_ble_eq_true rfl⟩ d_ci_5 ⟨Nat.le_of_ble_eq_true rfl, Nat.le_of_ble_eq_true rfl⟩) (fun r M2 hh => ?_)
  obtain ⟨rfl, rfl⟩ := hh
  refine a_pop fx d_ci_8 rfl ?_
  exact a_vret fx hlo hr h3 d_ci_9
/-- java/lang/String.coder()B -/
def Wp_JString_coder (s0 : Nat) (M : zM) (post : Int32 → zM → Prop) : Prop := (((1 : Int32) = 0 → (post 1 M)) ∧ (¬ (1 : Int32) = 0 → (post 0 M)))
/-- java/lang/String.isLatin1()Z -/
def Wp_JString_isLatin1 (s0 : Nat) (M : zM) (post : Int32 → zM → Prop) : Prop := (((1 : Int32) = 0 → (post 0 M)) ∧ (¬ (1 : Int32) = 0 → ((¬ (0 : Int32) = 0 → (post 0 M)) ∧ ((0 : Int32) = 0 → (post 1 M)))))
/-- java/lang/String.length()I -/
def Wp_JString_length (s0 : Nat) (M : zM) (post : Int32 → zM → Prop) : Prop := (Wp_JString_coder s0 M (fun x2 M1 => (post ((Int32.ofNat (strLen.getD s0 0)) >>> (x2 &&& 31)) M1)))
/-- java/lang/StringLatin1.charAt([BI)C -/
def Wp_JStringLatin1_charAt (s0 : Nat) (i1 : Int32) (M : zM) (post : Int32 → zM → Prop) : Prop := (Wp_JString_checkIndex i1 (Int32.ofNat (strLen.getD s0 0)) M (fun M1 => (vp_in i1 (strLen.getD s0 0) ∧ (narrow .char (.int ((((((strByt.getD s0 []).getD (i1).toNatClampNeg 0) &&& 255)).toUInt32 % 65536).toInt32)) = .int ((((((strByt.getD s0 []).getD (i1).toNatClampNeg 0) &&& 255)).toUInt32 % 65536).toInt32) ∧ post ((((((strByt.getD s0 []).getD (i1).toNatClampNeg 0) &&& 255)).toUInt32 % 65536).toInt32) M1))))
/-- java/lang/String.charAt(I)C -/
def Wp_JString_charAt (s0 : Nat) (i1 : Int32) (M : zM) (post : Int32 → zM → Prop) : Prop := (Wp_JString_isLatin1 s0 M (fun x2 M1 => ((x2 = 0 → (False)) ∧ (¬ x2 = 0 → (Wp_JStringLatin1_charAt s0 i1 M1 (fun x4 M3 => (narrow .char (.int x4) = .int x4 ∧ post x4 M3)))))))
/-- java/util/Arrays.fill([II)V -/
def Wp_JArrays_fill (a0 : Nat) (i1 : Int32) (M : zM) (post : zM → Prop) : Prop := ∀ K5 : Int32 → Int32 → zM → Prop, (∀ (v2 : Int32) (v3 : Int32) (M : zM), ((v3 ≤ v2 → (post M)) ∧ (¬ v3 ≤ v2 → (vp_in v2 (ln a0) ∧ (∀ M2 : zM, M2 = zI M a0 (v2).toNatClampNeg i1 → (∀ x3 : Int32, x3 = v2 + 1 → (K5 x3 v3 M2)))))) → K5 v2 v3 M) → (∀ x1 : Int32, x1 = (Int32.ofNat (ln a0)) → (K5 0 x1 M))
/-- java/util/Arrays.rangeCheck(III)V -/
def Wp_JArrays_rangeCheck (i0 : Int32) (i1 : Int32) (i2 : Int32) (M : zM) (post : zM → Prop) : Prop := ((i1 ≤ i2 → ((0 ≤ i1 → ((i2 ≤ i0 → (post M)) ∧ (¬ i2 ≤ i0 → (False)))) ∧ (¬ 0 ≤ i1 → (False)))) ∧ (¬ i1 ≤ i2 → (False)))
/-- java/util/Arrays.fill([IIII)V -/
def Wp_JArrays_fillx (a0 : Nat) (i1 : Int32) (i2 : Int32) (i3 : Int32) (M : zM) (post : zM → Prop) : Prop := ∀ K10 : Int32 → zM → Prop, (∀ (v4 : Int32) (M : zM), ((i2 ≤ v4 → (post M)) ∧ (¬ i2 ≤ v4 → (vp_in v4 (ln a0) ∧ (∀ M2 : zM, M2 = zI M a0 (v4).toNatClampNeg i3 → (∀ x3 : Int32, x3 = v4 + 1 → (K10 x3 M2)))))) → K10 v4 M) → (Wp_JArrays_rangeCheck (Int32.ofNat (ln a0)) i1 i2 M (fun M1 => (K10 i1 M1)))
theorem d_JString_coder_0 : decode b_JString_coder 0 = .ok (.getstatic 38, 3) := by decide +kernel
theorem d_JString_coder_3 : decode b_JString_coder 3 = .ok (.ifCond .eq 10, 3) := by decide +kernel
theorem d_JString_coder_6 : decode b_JString_coder 6 = .ok (.aload_n 0, 1) := by decide +kernel
theorem d_JString_coder_7 : decode b_JString_coder 7 = .ok (.getfield 15, 3) := by decide +kernel
theorem d_JString_coder_10 : decode b_JString_coder 10 = .ok (.goto 4, 3) := by decide +kernel
theorem d_JString_coder_13 : decode b_JString_coder 13 = .ok (.iconst 1, 1) := by decide +kernel
theorem d_JString_coder_14 : decode b_JString_coder 14 = .ok (.ireturn, 1) := by decide +kernel
theorem d_JString_isLatin1_0 : decode b_JString_isLatin1 0 = .ok (.getstatic 38, 3) := by decide +kernel
theorem d_JString_isLatin1_3 : decode b_JString_isLatin1 3 = .ok (.ifCond .eq 14, 3) := by decide +kernel
theorem d_JString_isLatin1_6 : decode b_JString_isLatin1 6 = .ok (.aload_n 0, 1) := by decide +kernel
theorem d_JString_isLatin1_7 : decode b_JString_isLatin1 7 = .ok (.getfield 15, 3) := by decide +kernel
theorem d_JString_isLatin1_10 : decode b_JString_isLatin1 10 = .ok (.ifCond .ne 7, 3) := by decide +kernel
theorem d_JString_isLatin1_13 : decode b_JString_isLatin1 13 = .ok (.iconst 1, 1) := by decide +kernel
theorem d_JString_isLatin1_14 : decode b_JString_isLatin1 14 = .ok (.goto 4, 3) := by decide +kernel
theorem d_JString_isLatin1_17 : decode b_JString_isLatin1 17 = .ok (.iconst 0, 1) := by decide +kernel
theorem d_JString_isLatin1_18 : decode b_JString_isLatin1 18 = .ok (.ireturn, 1) := by decide +kernel
theorem d_JString_length_0 : decode b_JString_length 0 = .ok (.aload_n 0, 1) := by decide +kernel
theorem d_JString_length_1 : decode b_JString_length 1 = .ok (.getfield 9, 3) := by decide +kernel
theorem d_JString_length_4 : decode b_JString_length 4 = .ok (.arraylength, 1) := by decide +kernel
theorem d_JString_length_5 : decode b_JString_length 5 = .ok (.aload_n 0, 1) := by decide +kernel
theorem d_JString_length_6 : decode b_JString_length 6 = .ok (.invokevirtual 335, 3) := by decide +kernel
theorem d_JString_length_9 : decode b_JString_length 9 = .ok (.ishr, 1) := by decide +kernel
theorem d_JString_length_10 : decode b_JString_length 10 = .ok (.ireturn, 1) := by decide +kernel
theorem d_JStringLatin1_charAt_0 : decode b_JStringLatin1_charAt 0 = .ok (.iload_n 1, 1) := by decide +kernel
theorem d_JStringLatin1_charAt_1 : decode b_JStringLatin1_charAt 1 = .ok (.aload_n 0, 1) := by decide +kernel
theorem d_JStringLatin1_charAt_2 : decode b_JStringLatin1_charAt 2 = .ok (.arraylength, 1) := by decide +kernel
theorem d_JStringLatin1_charAt_3 : decode b_JStringLatin1_charAt 3 = .ok (.invokestatic 9, 3) := by decide +kernel
theorem d_JStringLatin1_charAt_6 : decode b_JStringLatin1_charAt 6 = .ok (.aload_n 0, 1) := by decide +kernel
theorem d_JStringLatin1_charAt_7 : decode b_JStringLatin1_charAt 7 = .ok (.iload_n 1, 1) := by decide +kernel
theorem d_JStringLatin1_charAt_8 : decode b_JStringLatin1_charAt 8 = .ok (.baload, 1) := by decide +kernel
theorem d_JStringLatin1_charAt_9 : decode b_JStringLatin1_charAt 9 = .ok (.sipush 255, 3) := by decide +kernel
theorem d_JStringLatin1_charAt_12 : decode b_JStringLatin1_charAt 12 = .ok (.iand, 1) := by decide +kernel
theorem d_JStringLatin1_charAt_13 : decode b_JStringLatin1_charAt 13 = .ok (.i2c, 1) := by decide +kernel
theorem d_JStringLatin1_charAt_14 : decode b_JStringLatin1_charAt 14 = .ok (.ireturn, 1) := by decide +kernel
theorem d_JString_charAt_0 : decode b_JString_charAt 0 = .ok (.aload_n 0, 1) := by decide +kernel
theorem d_JString_charAt_1 : decode b_JString_charAt 1 = .ok (.invokevirtual 492, 3) := by decide +kernel
theorem d_JString_charAt_4 : decode b_JString_charAt 4 = .ok (.ifCond .eq 12, 3) := by decide +kernel
theorem d_JString_charAt_7 : decode b_JString_charAt 7 = .ok (.aload_n 0, 1) := by decide +kernel
theorem d_JString_charAt_8 : decode b_JString_charAt 8 = .ok (.getfield 9, 3) := by decide +kernel
theorem d_JString_charAt_11 : decode b_JString_charAt 11 = .ok (.iload_n 1, 1) := by decide +kernel
theorem d_JString_charAt_12 : decode b_JString_charAt 12 = .ok (.invokestatic 495, 3) := by decide +kernel
theorem d_JString_charAt_15 : decode b_JString_charAt 15 = .ok (.ireturn, 1) := by decide +kernel
theorem d_JString_charAt_16 : decode b_JString_charAt 16 = .ok (.aload_n 0, 1) := by decide +kernel
theorem d_JString_charAt_17 : decode b_JString_charAt 17 = .ok (.getfield 9, 3) := by decide +kernel
theorem d_JString_charAt_20 : decode b_JString_charAt 20 = .ok (.iload_n 1, 1) := by decide +kernel
theorem d_JArrays_fill_0 : decode b_JArrays_fill 0 = .ok (.iconst 0, 1) := by decide +kernel
theorem d_JArrays_fill_1 : decode b_JArrays_fill 1 = .ok (.istore_n 2, 1) := by decide +kernel
theorem d_JArrays_fill_2 : decode b_JArrays_fill 2 = .ok (.aload_n 0, 1) := by decide +kernel
theorem d_JArrays_fill_3 : decode b_JArrays_fill 3 = .ok (.arraylength, 1) := by decide +kernel
theorem d_JArrays_fill_4 : decode b_JArrays_fill 4 = .ok (.istore_n 3, 1) := by decide +kernel
theorem d_JArrays_fill_5 : decode b_JArrays_fill 5 = .ok (.iload_n 2, 1) := by decide +kernel
theorem d_JArrays_fill_6 : decode b_JArrays_fill 6 = .ok (.iload_n 3, 1) := by decide +kernel
theorem d_JArrays_fill_7 : decode b_JArrays_fill 7 = .ok (.if_icmp .ge 13, 3) := by decide +kernel
theorem d_JArrays_fill_10 : decode b_JArrays_fill 10 = .ok (.aload_n 0, 1) := by decide +kernel
theorem d_JArrays_fill_11 : decode b_JArrays_fill 11 = .ok (.iload_n 2, 1) := by decide +kernel
theorem d_JArrays_fill_12 : decode b_JArrays_fill 12 = .ok (.iload_n 1, 1) := by decide +kernel
theorem d_JArrays_fill_13 : decode b_JArrays_fill 13 = .ok (.iastore, 1) := by decide +kernel
theorem d_JArrays_fill_14 : decode b_JArrays_fill 14 = .ok (.iinc 2 1, 3) := by decide +kernel
theorem d_JArrays_fill_17 : decode b_JArrays_fill 17 = .ok (.goto (-12), 3) := by decide +kernel
theorem d_JArrays_fill_20 : decode b_JArrays_fill 20 = .ok (.return_, 1) := by decide +kernel
theorem d_JArrays_rangeCheck_0 : decode b_JArrays_rangeCheck 0 = .ok (.iload_n 1, 1) := by decide +kernel
theorem d_JArrays_rangeCheck_1 : decode b_JArrays_rangeCheck 1 = .ok (.iload_n 2, 1) := by decide +kernel
theorem d_JArrays_rangeCheck_2 : decode b_JArrays_rangeCheck 2 = .ok (.if_icmp .le 44, 3) := by decide +kernel
theorem d_JArrays_rangeCheck_46 : decode b_JArrays_rangeCheck 46 = .ok (.iload_n 1, 1) := by decide +kernel
theorem d_JArrays_rangeCheck_47 : decode b_JArrays_rangeCheck 47 = .ok (.ifCond .ge 12, 3) := by decide +kernel
theorem d_JArrays_rangeCheck_59 : decode b_JArrays_rangeCheck 59 = .ok (.iload_n 2, 1) := by decide +kernel
theorem d_JArrays_rangeCheck_60 : decode b_JArrays_rangeCheck 60 = .ok (.iload_n 0, 1) := by decide +kernel
theorem d_JArrays_rangeCheck_61 : decode b_JArrays_rangeCheck 61 = .ok (.if_icmp .le 12, 3) := by decide +kernel
theorem d_JArrays_rangeCheck_73 : decode b_JArrays_rangeCheck 73 = .ok (.return_, 1) := by decide +kernel
theorem d_JArrays_fillx_0 : decode b_JArrays_fillx 0 = .ok (.aload_n 0, 1) := by decide +kernel
theorem d_JArrays_fillx_1 : decode b_JArrays_fillx 1 = .ok (.arraylength, 1) := by decide +kernel
theorem d_JArrays_fillx_2 : decode b_JArrays_fillx 2 = .ok (.iload_n 1, 1) := by decide +kernel
theorem d_JArrays_fillx_3 : decode b_JArrays_fillx 3 = .ok (.iload_n 2, 1) := by decide +kernel
theorem d_JArrays_fillx_4 : decode b_JArrays_fillx 4 = .ok (.invokestatic 13, 3) := by decide +kernel
theorem d_JArrays_fillx_7 : decode b_JArrays_fillx 7 = .ok (.iload_n 1, 1) := by decide +kernel
theorem d_JArrays_fillx_8 : decode b_JArrays_fillx 8 = .ok (.istore 4, 2) := by decide +kernel
theorem d_JArrays_fillx_10 : decode b_JArrays_fillx 10 = .ok (.iload 4, 2) := by decide +kernel
theorem d_JArrays_fillx_12 : decode b_JArrays_fillx 12 = .ok (.iload_n 2, 1) := by decide +kernel
theorem d_JArrays_fillx_13 : decode b_JArrays_fillx 13 = .ok (.if_icmp .ge 14, 3) := by decide +kernel
theorem d_JArrays_fillx_16 : decode b_JArrays_fillx 16 = .ok (.aload_n 0, 1) := by decide +kernel
theorem d_JArrays_fillx_17 : decode b_JArrays_fillx 17 = .ok (.iload 4, 2) := by decide +kernel
theorem d_JArrays_fillx_19 : decode b_JArrays_fillx 19 = .ok (.iload_n 3, 1) := by decide +kernel
theorem d_JArrays_fillx_20 : decode b_JArrays_fillx 20 = .ok (.iastore, 1) := by decide +kernel
theorem d_JArrays_fillx_21 : decode b_JArrays_fillx 21 = .ok (.iinc 4 1, 3) := by decide +kernel
theorem d_JArrays_fillx_24 : decode b_JArrays_fillx 24 = .ok (.goto (-14), 3) := by decide +kernel
theorem d_JArrays_fillx_27 : decode b_JArrays_fillx 27 = .ok (.return_, 1) := by decide +kernel
set_option maxRecDepth 100000 in
set_option maxHeartbeats 4000000 in
theorem Met_JString_coder (l : Launch) (B : Nat) (D : va_G) (aC : Nat → ClassId) (aS : Nat → Nat) {s0 : Nat} {M : zM} {post : Int32 → zM → Prop} (hs0 : s0 < 9) (h : Wp_JString_coder s0 M post) : Met l y_JString_coder (wo y_JString_coder b_JString_coder 1 (some FieldType.byte)) { frames := 0, cells := 0, slots := 0, locals := 0 } (va_Pc [.ref (aS s0)] (zWl B D aC aS M)) (zQi B D aC post) 0 0 (zAb B) := by
  refine z_met (own := "java/lang/String") (lv0 := [(0, .ref (aS s0))]) (by decide) rfl (Nat.le_of_ble_eq_true rfl) rfl ?_
  intro p e s m below meth c fx hr hlo
  delta Wp_JString_coder at h
  refine a_comp fx w_407 d_JString_coder_0 ?_
  refine a_if_eq fx 13 d_JString_coder_3 rfl (fun hc => ?_) (fun hc => ?_)
  · have h := h.1 hc
    refine a_iconst (v := 1) fx d_JString_coder_13 rfl ?_
    exact a_zret fx hlo hr rfl h d_JString_coder_14
  · have h := h.2 hc
    refine a_aload_n fx 0 d_JString_coder_6 rfl rfl ?_
    refine a_scod fx hs0 w_866 d_JString_coder_7 ?_
    refine a_goto fx 14 d_JString_coder_10 rfl ?_
    exact a_zret fx hlo hr rfl h d_JString_coder_14
set_option maxRecDepth 100000 in
set_option maxHeartbeats 4000000 in
theorem Met_JString_isLatin1 (l : Launch) (B : Nat) (D : va_G) (aC : Nat → ClassId) (aS : Nat → Nat) {s0 : Nat} {M : zM} {post : Int32 → zM → Prop} (hs0 : s0 < 9) (h : Wp_JString_isLatin1 s0 M post) : Met l y_JString_isLatin1 (wo y_JString_isLatin1 b_JString_isLatin1 1 (some FieldType.boolean)) { frames := 0, cells := 0, slots := 0, locals := 0 } (va_Pc [.ref (aS s0)] (zWl B D aC aS M)) (zQi B D aC post) 0 0 (zAb B) := by
  refine z_met (own := "java/lang/String") (lv0 := [(0, .ref (aS s0))]) (by decide) rfl (Nat.le_of_ble_eq_true rfl) rfl ?_
  intro p e s m below meth c fx hr hlo
  delta Wp_JString_isLatin1 at h
  refine a_comp fx w_407 d_JString_isLatin1_0 ?_
  refine a_if_eq fx 17 d_JString_isLatin1_3 rfl (fun hc => ?_) (fun hc => ?_)
  · have h := h.1 hc
    refine a_iconst (v := 0) fx d_JString_isLatin1_17 rfl ?_
    exact a_zret fx hlo hr rfl h d_JString_isLatin1_18
  · have h := h.2 hc
    refine a_aload_n fx 0 d_JString_isLatin1_6 rfl rfl ?_
    refine a_scod fx hs0 w_866 d_JString_isLatin1_7 ?_
    refine a_if_ne fx 17 d_JString_isLatin1_10 rfl (fun hc => ?_) (fun hc => ?_)
    · have h := h.1 hc
      refine a_iconst (v := 0) fx d_JString_isLatin1_17 rfl ?_
      exact a_zret fx hlo hr rfl h d_JString_isLatin1_18
    · have h := h.2 hc
      refine a_iconst (v := 1) fx d_JString_isLatin1_13 rfl ?_
      refine a_goto fx 18 d_JString_isLatin1_14 rfl ?_
      exact a_zret fx hlo hr rfl h d_JString_isLatin1_18
set_option maxRecDepth 100000 in
set_option maxHeartbeats 4000000 in
theorem Met_JString_length (l : Launch) (B : Nat) (D : va_G) (aC : Nat → ClassId) (aS : Nat → Nat) {s0 : Nat} {M : zM} {post : Int32 → zM → Prop} (hs0 : s0 < 9) (h : Wp_JString_length s0 M post) : Met l y_JString_length (wo y_JString_length b_JString_length 1 (some FieldType.int)) { frames := 1, cells := 0, slots := 0, locals := 20 } (va_Pc [.ref (aS s0)] (zWl B D aC aS M)) (zQi B D aC post) 0 0 (zAb B) := by
  refine z_met (own := "java/lang/String") (lv0 := [(0, .ref (aS s0))]) (by decide) rfl (Nat.le_of_ble_eq_true rfl) rfl ?_
  intro p e s m below meth c fx hr hlo
  delta Wp_JString_length at h
  refine a_aload_n fx 0 d_JString_length_0 rfl rfl ?_
  refine a_sval fx hs0 w_865 d_JString_length_1 ?_
  refine a_slen fx hs0 d_JString_length_4 ?_
  refine a_aload_n fx 0 d_JString_length_5 rfl rfl ?_
  refine a_calli (rest := [.int (Int32.ofNat (strLen.getD s0 0))]) (a_runVs (As := []) fx cv_JString_coder w_403 (Met_JString_coder l B D aC aS (hs0 := hs0) h) hs0 rfl rfl (Nat.le_of_ble_eq_true rfl) rfl rfl ⟨Nat.le_of_ble_eq_true rfl, Nat.le_of_ble_eq_true rfl⟩ d_JString_length_6 ⟨Nat.le_of_ble_eq_true rfl, Nat.le_of_ble_eq_true rfl⟩) (fun x2 M1 h => ?_)
  refine a_ishr fx d_JString_length_9 ?_
  exact a_iret fx hlo hr h d_JString_length_10
set_option maxRecDepth 100000 in
set_option maxHeartbeats 4000000 in
theorem Met_JStringLatin1_charAt (l : Launch) (B : Nat) (D : va_G) (aC : Nat → ClassId) (aS : Nat → Nat) {s0 : Nat} {i1 : Int32} {M : zM} {post : Int32 → zM → Prop} (hs0 : s0 < 9) (h : Wp_JStringLatin1_charAt s0 i1 M post) : Met l y_JStringLatin1_charAt (wo y_JStringLatin1_charAt b_JStringLatin1_charAt 2 (some FieldType.char)) { frames := 2, cells := 0, slots := 0, locals := 43 } (va_Pc [.ref (aS (100 + s0)), .int i1] (zWl B D aC aS M)) (zQi B D aC post) 0 0 (zAb B) := by
  refine z_met (own := "java/lang/StringLatin1") (lv0 := [(0, .ref (aS (100 + s0))), (1, .int i1)]) (by decide) rfl (Nat.le_of_ble_eq_true rfl) rfl ?_
  intro p e s m below meth c fx hr hlo
  delta Wp_JStringLatin1_charAt at h
  refine a_iload_n fx 1 d_JStringLatin1_charAt_0 rfl rfl ?_
  refine a_aload_n fx 0 d_JStringLatin1_charAt_1 rfl rfl ?_
  refine a_slen fx hs0 d_JStringLatin1_charAt_2 ?_
  refine a_callv (rest := []) (a_runS (As := [.int i1, .int (Int32.ofNat (strLen.getD s0 0))]) fx  cv_JString_checkIndex w_420 (Met_JString_checkIndex l B D aC aS  h) rfl rfl (Nat.le_of_ble_eq_true rfl) rfl rfl ⟨Nat.le_of_ble_eq_true rfl, Nat.le_of_ble_eq_true rfl⟩ d_JStringLatin1_charAt_3 ⟨Nat.le_of_ble_eq_true rfl, Nat.le_of_ble_eq_true rfl⟩) (fun M1 h => ?_)
  refine a_aload_n fx 0 d_JStringLatin1_charAt_6 rfl rfl ?_
  refine a_iload_n fx 1 d_JStringLatin1_charAt_7 rfl rfl ?_
  obtain ⟨hin, h⟩ := h
  refine a_sbld fx hs0 hin d_JStringLatin1_charAt_8 ?_
  refine a_sipush (v := 255) fx d_JStringLatin1_charAt_9 rfl ?_
  refine a_iand fx d_JStringLatin1_charAt_12 ?_
  refine a_i2c fx d_JStringLatin1_charAt_13 ?_
  exact a_zret fx hlo hr h.1 h.2 d_JStringLatin1_charAt_14
set_option maxRecDepth 100000 in
set_option maxHeartbeats 4000000 in
theorem Met_JString_charAt (l : Launch) (B : Nat) (D : va_G) (aC : Nat → ClassId) (aS : Nat → Nat) {s0 : Nat} {i1 : Int32} {M : zM} {post : Int32 → zM → Prop} (hs0 : s0 < 9) (h : Wp_JString_charAt s0 i1 M post) : Met l y_JString_charAt (wo y_JString_charAt b_JString_charAt 2 (some FieldType.char)) { frames := 3, cells := 0, slots := 0, locals := 64 } (va_Pc [.ref (aS s0), .int i1] (zWl B D aC aS M)) (zQi B D aC post) 0 0 (zAb B) := by
  refine z_met (own := "java/lang/String") (lv0 := [(0, .ref (aS s0)), (1, .int i1)]) (by decide) rfl (Nat.le_of_ble_eq_true rfl) rfl ?_
  intro p e s m below meth c fx hr hlo
  delta Wp_JString_charAt at h
  refine a_aload_n fx 0 d_JString_charAt_0 rfl rfl ?_
  refine a_calli (rest := []) (a_runVs (As := []) fx cv_JString_isLatin1 w_413 (Met_JString_isLatin1 l B D aC aS (hs0 := hs0) h) hs0 rfl rfl (Nat.le_of_ble_eq_true rfl) rfl rfl ⟨Nat.le_of_ble_eq_true rfl, Nat.le_of_ble_eq_true rfl⟩ d_JString_charAt_1 ⟨Nat.le_of_ble_eq_true rfl, Nat.le_of_ble_eq_true rfl⟩) (fun x2 M1 h => ?_)
  refine a_if_eq fx 16 d_JString_charAt_4 rfl (fun hc => ?_) (fun hc => ?_)
  · have h := h.1 hc
    refine a_aload_n fx 0 d_JString_charAt_16 rfl rfl ?_
    refine a_sval fx hs0 w_865 d_JString_charAt_17 ?_
    refine a_iload_n fx 1 d_JString_charAt_20 rfl rfl ?_
    exact False.elim h
  · have h := h.2 hc
    refine a_aload_n fx 0 d_JString_charAt_7 rfl rfl ?_
    refine a_sval fx hs0 w_865 d_JString_charAt_8 ?_
    refine a_iload_n fx 1 d_JString_charAt_11 rfl rfl ?_
    refine a_calli (rest := []) (a_runS (As := [.ref (aS (100 + s0)), .int i1]) fx  cv_JStringLatin1_charAt w_417 (Met_JStringLatin1_charAt l B D aC aS (hs0 := hs0) h) rfl rfl (Nat.le_of_ble_eq_true rfl) rfl rfl ⟨Nat.le_of_ble_eq_true rfl, Nat.le_of_ble_eq_true rfl⟩ d_JString_charAt_12 ⟨Nat.le_of_ble_eq_true rfl, Nat.le_of_ble_eq_true rfl⟩) (fun x4 M3 h => ?_)
    exact a_zret fx hlo hr h.1 h.2 d_JString_charAt_15
set_option maxRecDepth 100000 in
set_option maxHeartbeats 4000000 in
theorem Met_JArrays_fill (l : Launch) (B : Nat) (D : va_G) (aC : Nat → ClassId) (aS : Nat → Nat) {a0 : Nat} {i1 : Int32} {M : zM} {post : zM → Prop} (hk0 : a0 < N0) (ht0 : tg a0 = 21) (h : Wp_JArrays_fill a0 i1 M post) : Met l y_JArrays_fill (wo y_JArrays_fill b_JArrays_fill 4 none) { frames := 0, cells := 0, slots := 0, locals := 0 } (va_Pc [.ref (B + a0), .int i1] (zWl B D aC aS M)) (zQv B D aC post) 0 0 (zAb B) := by
  refine z_met (own := "java/util/Arrays") (lv0 := [(0, .ref (B + a0)), (1, .int i1)]) (by decide) rfl (Nat.le_of_ble_eq_true rfl) rfl ?_
  intro p e s m below meth c fx hr hlo
  delta Wp_JArrays_fill at h
  have h := h (fun v2 v3 M => zAt p l e { frames := 0, cells := 0, slots := 0, locals := 0 } s m ([.ref (B + a0), .int i1] : List Value).toArray below meth c 0 0 (MQ below (zQv B D aC post) ([.ref (B + a0), .int i1] : List Value).toArray s 0 0 (zAb B)) B D aC 4 5 [(0, .ref (B + a0)), (1, .int i1), (2, .int v2), (3, .int v3)] [] M)
  have h := h (by
    intro v2 v3 M h
    refine a_iload_n fx 2 d_JArrays_fill_5 rfl rfl ?_
    refine a_iload_n fx 3 d_JArrays_fill_6 rfl rfl ?_
    refine a_icmp_ge fx 20 d_JArrays_fill_7 rfl (fun hc => ?_) (fun hc => ?_)
    · have h := h.1 hc
      exact a_vret fx hlo hr h d_JArrays_fill_20
    · have h := h.2 hc
      refine a_aload_n fx 0 d_JArrays_fill_10 rfl rfl ?_
      refine a_iload_n fx 2 d_JArrays_fill_11 rfl rfl ?_
      refine a_iload_n fx 1 d_JArrays_fill_12 rfl rfl ?_
      obtain ⟨hin, h⟩ := h
      refine a_iast fx hk0 ht0 hin d_JArrays_fill_13 (a_mem (fun M2 eM2 => ?_))
      have h := h M2 eM2
      obtain ⟨x3, ex3⟩ : ∃ z : Int32, z = v2 + 1 := ⟨_, rfl⟩
      have h := h x3 ex3
      refine a_iinc (lv2 := [(2, .int x3), (0, .ref (B + a0)), (1, .int i1), (3, .int v3)]) fx 2 d_JArrays_fill_14 rfl ex3.symm (by decide) rfl ?_
      refine a_goto fx 5 d_JArrays_fill_17 rfl ?_
      refine a_sub [1, 2, 0, 3] rfl ?_
      exact h)
  refine a_iconst (v := 0) fx d_JArrays_fill_0 rfl ?_
  refine a_istore_n (lv2 := [(2, .int 0), (0, .ref (B + a0)), (1, .int i1)]) fx d_JArrays_fill_1 rfl (by decide) rfl ?_
  refine a_aload_n fx 1 d_JArrays_fill_2 rfl rfl ?_
  refine a_alen fx 1 hk0 ht0 (by decide) (by decide) rfl d_JArrays_fill_3 ?_
  refine a_topi (fun x1 ex1 => ?_)
  have h := h x1 ex1
  refine a_istore_n (lv2 := [(3, .int x1), (2, .int 0), (0, .ref (B + a0)), (1, .int i1)]) fx d_JArrays_fill_4 rfl (by decide) rfl ?_
  refine a_sub [2, 3, 1, 0] rfl ?_
  exact h
set_option maxRecDepth 100000 in
set_option maxHeartbeats 4000000 in
theorem Met_JArrays_rangeCheck (l : Launch) (B : Nat) (D : va_G) (aC : Nat → ClassId) (aS : Nat → Nat) {i0 : Int32} {i1 : Int32} {i2 : Int32} {M : zM} {post : zM → Prop}  (h : Wp_JArrays_rangeCheck i0 i1 i2 M post) : Met l y_JArrays_rangeCheck (wo y_JArrays_rangeCheck b_JArrays_rangeCheck 3 none) { frames := 0, cells := 0, slots := 0, locals := 0 } (va_Pc [.int i0, .int i1, .int i2] (zWl B D aC aS M)) (zQv B D aC post) 0 0 (zAb B) := by
  refine z_met (own := "java/util/Arrays") (lv0 := [(0, .int i0), (1, .int i1), (2, .int i2)]) (by decide) rfl (Nat.le_of_ble_eq_true rfl) rfl ?_
  intro p e s m below meth c fx hr hlo
  delta Wp_JArrays_rangeCheck at h
  refine a_iload_n fx 1 d_JArrays_rangeCheck_0 rfl rfl ?_
  refine a_iload_n fx 2 d_JArrays_rangeCheck_1 rfl rfl ?_
  refine a_icmp_le fx 46 d_JArrays_rangeCheck_2 rfl (fun hc => ?_) (fun hc => ?_)
  · have h := h.1 hc
    refine a_iload_n fx 1 d_JArrays_rangeCheck_46 rfl rfl ?_
    refine a_if_ge fx 59 d_JArrays_rangeCheck_47 rfl (fun hc => ?_) (fun hc => ?_)
    · have h := h.1 hc
      refine a_iload_n fx 2 d_JArrays_rangeCheck_59 rfl rfl ?_
      refine a_iload_n fx 0 d_JArrays_rangeCheck_60 rfl rfl ?_
      refine a_icmp_le fx 73 d_JArrays_rangeCheck_61 rfl (fun hc => ?_) (fun hc => ?_)
      · have h := h.1 hc
        exact a_vret fx hlo hr h d_JArrays_rangeCheck_73
      · have h := h.2 hc
        exact False.elim h
    · have h := h.2 hc
      exact False.elim h
  · have h := h.2 hc
    exact False.elim h
set_option maxRecDepth 100000 in
set_option maxHeartbeats 4000000 in
theorem Met_JArrays_fillx (l : Launch) (B : Nat) (D : va_G) (aC : Nat → ClassId) (aS : Nat → Nat) {a0 : Nat} {i1 : Int32} {i2 : Int32} {i3 : Int32} {M : zM} {post : zM → Prop} (hk0 : a0 < N0) (ht0 : tg a0 = 21) (h : Wp_JArrays_fillx a0 i1 i2 i3 M post) : Met l y_JArrays_fillx (wo y_JArrays_fillx b_JArrays_fillx 5 none) { frames := 1, cells := 0, slots := 0, locals := 22 } (va_Pc [.ref (B + a0), .int i1, .int i2, .int i3] (zWl B D aC aS M)) (zQv B D aC post) 0 0 (zAb B) := by
  refine z_met (own := "java/util/Arrays") (lv0 := [(0, .ref (B + a0)), (1, .int i1), (2, .int i2), (3, .int i3)]) (by decide) rfl (Nat.le_of_ble_eq_true rfl) rfl ?_
  intro p e s m below meth c fx hr hlo
  delta Wp_JArrays_fillx at h
  have h := h (fun v4 M => zAt p l e { frames := 1, cells := 0, slots := 0, locals := 22 } s m ([.ref (B + a0), .int i1, .int i2, .int i3] : List Value).toArray below meth c 0 0 (MQ below (zQv B D aC post) ([.ref (B + a0), .int i1, .int i2, .int i3] : List Value).toArray s 0 0 (zAb B)) B D aC 5 10 [(0, .ref (B + a0)), (1, .int i1), (2, .int i2), (3, .int i3), (4, .int v4)] [] M)
  have h := h (by
    intro v4 M h
    refine a_iload fx 4 d_JArrays_fillx_10 rfl ?_
    refine a_iload_n fx 2 d_JArrays_fillx_12 rfl rfl ?_
    refine a_icmp_ge fx 27 d_JArrays_fillx_13 rfl (fun hc => ?_) (fun hc => ?_)
    · have h := h.1 hc
      exact a_vret fx hlo hr h d_JArrays_fillx_27
    · have h := h.2 hc
      refine a_aload_n fx 0 d_JArrays_fillx_16 rfl rfl ?_
      refine a_iload fx 4 d_JArrays_fillx_17 rfl ?_
      refine a_iload_n fx 3 d_JArrays_fillx_19 rfl rfl ?_
      obtain ⟨hin, h⟩ := h
      refine a_iast fx hk0 ht0 hin d_JArrays_fillx_20 (a_mem (fun M2 eM2 => ?_))
      have h := h M2 eM2
      obtain ⟨x3, ex3⟩ : ∃ z : Int32, z = v4 + 1 := ⟨_, rfl⟩
      have h := h x3 ex3
      refine a_iinc (lv2 := [(4, .int x3), (0, .ref (B + a0)), (1, .int i1), (2, .int i2), (3, .int i3)]) fx 4 d_JArrays_fillx_21 rfl ex3.symm (by decide) rfl ?_
      refine a_goto fx 10 d_JArrays_fillx_24 rfl ?_
      refine a_sub [1, 2, 3, 4, 0] rfl ?_
      exact h)
  refine a_aload_n fx 0 d_JArrays_fillx_0 rfl rfl ?_
  refine a_alen fx 1 hk0 ht0 (by decide) (by decide) rfl d_JArrays_fillx_1 ?_
  refine a_iload_n fx 1 d_JArrays_fillx_2 rfl rfl ?_
  refine a_iload_n fx 2 d_JArrays_fillx_3 rfl rfl ?_
  refine a_callv (rest := []) (a_runS (As := [.int (Int32.ofNat (ln a0)), .int i1, .int i2]) fx  cv_JArrays_rangeCheck w_594 (Met_JArrays_rangeCheck l B D aC aS  h) rfl rfl (Nat.le_of_ble_eq_true rfl) rfl rfl ⟨Nat.le_of_ble_eq_true rfl, Nat.le_of_ble_eq_true rfl⟩ d_JArrays_fillx_4 ⟨Nat.le_of_ble_eq_true rfl, Nat.le_of_ble_eq_true rfl⟩) (fun M1 h => ?_)
  refine a_iload_n fx 1 d_JArrays_fillx_7 rfl rfl ?_
  refine a_istore (lv2 := [(4, .int i1), (0, .ref (B + a0)), (1, .int i1), (2, .int i2), (3, .int i3)]) fx d_JArrays_fillx_8 (by decide) rfl ?_
  refine a_sub [1, 2, 3, 4, 0] rfl ?_
  exact h
