/-- MailChainModel.linkedNow(I)I -/
def Wp_Mo_linkedNow (a0 : Nat) (i1 : Int32) (M : zM) (post : Int32 → zM → Prop) : Prop := ∀ K19 : Int32 → zM → Prop, ∀ K33 : Int32 → Int32 → zM → Prop, ∀ K76 : Int32 → Int32 → Int32 → zM → Prop, ∀ K156 : Int32 → Int32 → Nat → zM → Prop, (∀ (w0 : Int32) (M : zM), ((w0 = 0 → (K33 w0 0 M)) ∧ (¬ w0 = 0 → (Wp_Mo_at 0 i1 M (fun x2 M1 => (K33 w0 x2 M1))))) → K19 w0 M) → (∀ (v2 : Int32) (w0 : Int32) (M : zM), (Wp_Mo_look a0 (a0 + 7) 0 (M.1 a0 7) M (fun M3 => ((60 < (M3.1 a0 7) → (K76 v2 w0 0 M3)) ∧ (¬ 60 < (M3.1 a0 7) → (Wp_Mo_isPath a0 M3 (fun x5 M4 => ((x5 = 0 → (K76 v2 w0 0 M4)) ∧ (¬ x5 = 0 → (Wp_Mo_hasParent a0 0 M4 (fun x7 M6 => ((x7 = 0 → (K76 v2 w0 0 M6)) ∧ (¬ x7 = 0 → (K76 v2 w0 1 M6))))))))))))) → K33 v2 w0 M) → (∀ (v2 : Int32) (v3 : Int32) (w0 : Int32) (M : zM), ((¬ v2 = 0 → (vp_in v3 (ln (a0 + 11)) ∧ ((¬ (M.1 (a0 + 11) (v3).toNatClampNeg) = 1 → (K156 v3 2 a0 M)) ∧ ((M.1 (a0 + 11) (v3).toNatClampNeg) = 1 → ((¬ w0 = 0 → (Wp_Mo_find a0 0 (M.1 a0 24) M (fun x9 M8 => ((x9 < 0 → (vp_in (0 : Int32) (ln (a0 + 8)) ∧ (((M8.1 (a0 + 8) ((0 : Int32)).toNatClampNeg) = 40 → (K156 v3 4 a0 M8)) ∧ (¬ (M8.1 (a0 + 8) ((0 : Int32)).toNatClampNeg) = 40 → (Wp_Mo_bytesOf a0 0 M8 (fun x11 M10 => (vp_in v3 (ln (a0 + 17)) ∧ (((x11 + (M10.1 (a0 + 17) (v3).toNatClampNeg)) ≤ 6000 → (K156 v3 0 a0 M10)) ∧ (¬ (x11 + (M10.1 (a0 + 17) (v3).toNatClampNeg)) ≤ 6000 → (K156 v3 4 a0 M10)))))))))) ∧ (¬ x9 < 0 → (K156 v3 3 a0 M8)))))) ∧ (w0 = 0 → (K156 v3 2 a0 M))))))) ∧ (v2 = 0 → (K156 v3 1 a0 M))) → K76 v2 v3 w0 M) → (∀ (v3 : Int32) (w0 : Int32) (w1 : Nat) (M : zM), w1 < N0 ∧ tg w1 = 9 ∧ (∀ M12 : zM, M12 = zI M w1 6 w0 → (((M12.1 a0 6) ≤ 0 → (Wp_Mo_copyEntry a0 40 v3 M12 (fun M13 => (Wp_Mo_enter a0 0 M13 (fun x15 M14 => (∀ x16 : Int32, x16 = (M14.1 a0 24) → (Wp_Mo_copyAttributes a0 x15 40 M14 (fun M17 => (vp_in x15 (ln (a0 + 10)) ∧ (∀ M18 : zM, M18 = zI M17 (a0 + 10) (x15).toNatClampNeg x16 → (vp_in (0 : Int32) (ln (a0 + 8)) ∧ (post (M18.1 (a0 + 8) ((0 : Int32)).toNatClampNeg) M18)))))))))))) ∧ (¬ (M12.1 a0 6) ≤ 0 → (post 0 M12)))) → K156 v3 w0 w1 M) → ((i1 < 0 → (K19 0 M)) ∧ (¬ i1 < 0 → (vp_in (0 : Int32) (ln (a0 + 8)) ∧ (((M.1 (a0 + 8) ((0 : Int32)).toNatClampNeg) ≤ i1 → (K19 0 M)) ∧ (¬ (M.1 (a0 + 8) ((0 : Int32)).toNatClampNeg) ≤ i1 → (K19 1 M))))))
/-- MailChainModel.link(I)I -/
def Wp_Mo_link (a0 : Nat) (i1 : Int32) (M : zM) (post : Int32 → zM → Prop) : Prop := (Wp_Mo_linkedNow a0 i1 M (fun x2 M1 => (∀ M3 : zM, M3 = zI M1 a0 7 0 → (post x2 M3))))
/-- MailChainModel.clear()I -/
def Wp_Mo_clear (a0 : Nat) (M : zM) (post : Int32 → zM → Prop) : Prop := (∀ M1 : zM, M1 = zI M a0 6 0 → (vp_in (0 : Int32) (ln (a0 + 8)) ∧ (∀ x2 : Int32, x2 = (M1.1 (a0 + 8) ((0 : Int32)).toNatClampNeg) → (vp_in (0 : Int32) (ln (a0 + 8)) ∧ (∀ M3 : zM, M3 = zI M1 (a0 + 8) ((0 : Int32)).toNatClampNeg 0 → (vp_in (0 : Int32) (ln (a0 + 19)) ∧ (∀ M4 : zM, M4 = zI M3 (a0 + 19) ((0 : Int32)).toNatClampNeg 0 → (post x2 M4))))))))
/-- MailChainModel.octal(JI)V -/
def Wp_Mo_octal (a0 : Nat) (l1 : Int64) (i3 : Int32) (M : zM) (post : zM → Prop) : Prop := ∀ K7 : Int32 → zM → Prop, (∀ (v4 : Int32) (M : zM), ((v4 < 0 → (post M)) ∧ (¬ v4 < 0 → (vp_in (M.1 a0 25) (ln (a0 + 22)) ∧ (∀ M2 : zM, M2 = zI M (a0 + 22) ((M.1 a0 25)).toNatClampNeg (vp_nar .byte (((48 + ((((l1 >>> ((v4).toInt64 &&& 63)) &&& 7)).toInt32))).toInt8.toInt32)) → (∀ M3 : zM, M3 = zI M2 a0 25 ((M2.1 a0 25) + 1) → (∀ x4 : Int32, x4 = v4 + (-3) → (K7 x4 M3))))))) → K7 v4 M) → (∀ x1 : Int32, x1 = ((3 * i3) - 3) → (K7 x1 M))
/-- MailChainModel.zero()V -/
def Wp_Mo_zero (a0 : Nat) (M : zM) (post : zM → Prop) : Prop := (vp_in (M.1 a0 25) (ln (a0 + 22)) ∧ (∀ M1 : zM, M1 = zI M (a0 + 22) ((M.1 a0 25)).toNatClampNeg (vp_nar .byte 0) → (∀ M2 : zM, M2 = zI M1 a0 25 ((M1.1 a0 25) + 1) → (post M2))))
/-- MailChainModel.header(IIIIIIII)V -/
def Wp_Mo_header (a0 : Nat) (i1 : Int32) (i2 : Int32) (i3 : Int32) (i4 : Int32) (i5 : Int32) (i6 : Int32) (i7 : Int32) (i8 : Int32) (M : zM) (post : zM → Prop) : Prop := (Wp_Mo_octal a0 29127 6 M (fun M1 => (Wp_Mo_octal a0 0 6 M1 (fun M2 => (Wp_Mo_octal a0 ((i1).toInt64) 6 M2 (fun M3 => (Wp_Mo_octal a0 ((i2).toInt64) 6 M3 (fun M4 => (Wp_Mo_octal a0 ((i3).toInt64) 6 M4 (fun M5 => (Wp_Mo_octal a0 ((i4).toInt64) 6 M5 (fun M6 => (Wp_Mo_octal a0 ((i5).toInt64) 6 M6 (fun M7 => (Wp_Mo_octal a0 0 6 M7 (fun M8 => (Wp_Mo_octal a0 ((i6).toInt64) 11 M8 (fun M9 => (Wp_Mo_octal a0 (((i7 + 1)).toInt64) 6 M9 (fun M10 => (Wp_Mo_octal a0 ((i8).toInt64) 11 M10 (fun M11 => (post M11)))))))))))))))))))))))
/-- MailChainModel.firstOf(II)I -/
def Wp_Mo_firstOf (a0 : Nat) (i1 : Int32) (i2 : Int32) (M : zM) (post : Int32 → zM → Prop) : Prop := ∀ K12 : Int32 → Int32 → Int32 → zM → Prop, (∀ (v3 : Int32) (v4 : Int32) (v5 : Int32) (M : zM), ((v5 < 0 → (post v4 M)) ∧ (¬ v5 < 0 → (Wp_Mo_at i1 v5 M (fun x4 M3 => (vp_in v3 (ln (a0 + 11)) ∧ ((¬ (M3.1 (a0 + 11) (v3).toNatClampNeg) = 1 → (∀ x5 : Int32, x5 = v5 + (-1) → (K12 v3 v4 x5 M3))) ∧ ((M3.1 (a0 + 11) (v3).toNatClampNeg) = 1 → (vp_in x4 (ln (a0 + 11)) ∧ ((¬ (M3.1 (a0 + 11) (x4).toNatClampNeg) = 1 → (∀ x6 : Int32, x6 = v5 + (-1) → (K12 v3 v4 x6 M3))) ∧ ((M3.1 (a0 + 11) (x4).toNatClampNeg) = 1 → (vp_in x4 (ln (a0 + 18)) ∧ (vp_in v3 (ln (a0 + 18)) ∧ ((¬ (M3.1 (a0 + 18) (x4).toNatClampNeg) = (M3.1 (a0 + 18) (v3).toNatClampNeg) → (∀ x7 : Int32, x7 = v5 + (-1) → (K12 v3 v4 x7 M3))) ∧ ((M3.1 (a0 + 18) (x4).toNatClampNeg) = (M3.1 (a0 + 18) (v3).toNatClampNeg) → (∀ x8 : Int32, x8 = v5 + (-1) → (K12 v3 v5 x8 M3)))))))))))))))) → K12 v3 v4 v5 M) → (Wp_Mo_at i1 i2 M (fun x2 M1 => (K12 x2 i2 i2 M1)))
/-- MailChainModel.linksOf(II)I -/
def Wp_Mo_linksOf (a0 : Nat) (i1 : Int32) (i2 : Int32) (M : zM) (post : Int32 → zM → Prop) : Prop := ∀ K13 : Int32 → Int32 → Int32 → zM → Prop, (∀ (v3 : Int32) (v4 : Int32) (v5 : Int32) (M : zM), (vp_in i1 (ln (a0 + 8)) ∧ (((M.1 (a0 + 8) (i1).toNatClampNeg) ≤ v5 → (post v4 M)) ∧ (¬ (M.1 (a0 + 8) (i1).toNatClampNeg) ≤ v5 → (Wp_Mo_firstOf a0 i1 v5 M (fun x4 M3 => ((¬ x4 = v3 → (∀ x5 : Int32, x5 = v5 + 1 → (K13 v3 v4 x5 M3))) ∧ (x4 = v3 → (∀ x6 : Int32, x6 = (v4 + 1) → (∀ x7 : Int32, x7 = v5 + 1 → (K13 v3 x6 x7 M3)))))))))) → K13 v3 v4 v5 M) → (Wp_Mo_firstOf a0 i1 i2 M (fun x2 M1 => (K13 x2 0 0 M1)))
/-- MailChainModel.archiveOf(I)V -/
def Wp_Mo_archiveOf (a0 : Nat) (i1 : Int32) (M : zM) (post : zM → Prop) : Prop := ∀ K7 : Int32 → zM → Prop, ∀ K55 : Int32 → Int32 → Int32 → zM → Prop, ∀ K117 : Int32 → Int32 → Int32 → zM → Prop, ∀ K172 : Int32 → Int32 → Int32 → zM → Prop, ∀ K249 : Int32 → zM → Prop, (∀ (v2 : Int32) (M : zM), (vp_in i1 (ln (a0 + 8)) ∧ (((M.1 (a0 + 8) (i1).toNatClampNeg) ≤ v2 → (Wp_Mo_header a0 0 0 0 0 1 0 10 0 M (fun M2 => (K249 0 M2)))) ∧ (¬ (M.1 (a0 + 8) (i1).toNatClampNeg) ≤ v2 → (Wp_Mo_at i1 v2 M (fun x4 M3 => (vp_in x4 (ln (a0 + 11)) ∧ ((¬ (M3.1 (a0 + 11) (x4).toNatClampNeg) = 0 → (vp_in x4 (ln (a0 + 11)) ∧ ((¬ (M3.1 (a0 + 11) (x4).toNatClampNeg) = 1 → (K55 v2 x4 40960 M3)) ∧ ((M3.1 (a0 + 11) (x4).toNatClampNeg) = 1 → (K55 v2 x4 32768 M3))))) ∧ ((M3.1 (a0 + 11) (x4).toNatClampNeg) = 0 → (K55 v2 x4 16384 M3))))))))) → K7 v2 M) → (∀ (v2 : Int32) (v3 : Int32) (w0 : Int32) (M : zM), (Wp_Mo_firstOf a0 i1 v2 M (fun x10 M9 => (vp_in v3 (ln (a0 + 12)) ∧ (vp_in v3 (ln (a0 + 13)) ∧ (vp_in v3 (ln (a0 + 14)) ∧ (Wp_Mo_linksOf a0 i1 v2 M9 (fun x12 M11 => (vp_in v3 (ln (a0 + 15)) ∧ (vp_in v3 (ln (a0 + 10)) ∧ (vp_in v3 (ln (a0 + 17)) ∧ (Wp_Mo_header a0 (x10 + 1) (w0 + (M9.1 (a0 + 12) (v3).toNatClampNeg)) (M9.1 (a0 + 13) (v3).toNatClampNeg) (M9.1 (a0 + 14) (v3).toNatClampNeg) x12 (M11.1 (a0 + 15) (v3).toNatClampNeg) (M11.1 (a0 + 10) (v3).toNatClampNeg) (M11.1 (a0 + 17) (v3).toNatClampNeg) M11 (fun M13 => (K117 v2 v3 0 M13))))))))))))) → K55 v2 v3 w0 M) → (∀ (v2 : Int32) (v3 : Int32) (v5 : Int32) (M : zM), (vp_in v3 (ln (a0 + 10)) ∧ (((M.1 (a0 + 10) (v3).toNatClampNeg) ≤ v5 → (Wp_Mo_zero a0 M (fun M14 => (K172 v2 v3 0 M14)))) ∧ (¬ (M.1 (a0 + 10) (v3).toNatClampNeg) ≤ v5 → (vp_in ((60 * v3) + v5) (ln (a0 + 9)) ∧ (vp_in (M.1 a0 25) (ln (a0 + 22)) ∧ (∀ M15 : zM, M15 = zI M (a0 + 22) ((M.1 a0 25)).toNatClampNeg (vp_nar .byte (M.1 (a0 + 9) (((60 * v3) + v5)).toNatClampNeg)) → (∀ M16 : zM, M16 = zI M15 a0 25 ((M15.1 a0 25) + 1) → (∀ x17 : Int32, x17 = v5 + 1 → (K117 v2 v3 x17 M16))))))))) → K117 v2 v3 v5 M) → (∀ (v2 : Int32) (v3 : Int32) (v5 : Int32) (M : zM), (vp_in v3 (ln (a0 + 17)) ∧ (((M.1 (a0 + 17) (v3).toNatClampNeg) ≤ v5 → (∀ x18 : Int32, x18 = v2 + 1 → (K7 x18 M))) ∧ (¬ (M.1 (a0 + 17) (v3).toNatClampNeg) ≤ v5 → (vp_in v3 (ln (a0 + 16)) ∧ (vp_in (((20000 * i1) + (M.1 (a0 + 16) (v3).toNatClampNeg)) + v5) (ln (a0 + 20)) ∧ (vp_in (M.1 a0 25) (ln (a0 + 22)) ∧ (∀ M19 : zM, M19 = zI M (a0 + 22) ((M.1 a0 25)).toNatClampNeg (vp_nar .byte (M.1 (a0 + 20) ((((20000 * i1) + (M.1 (a0 + 16) (v3).toNatClampNeg)) + v5)).toNatClampNeg)) → (∀ M20 : zM, M20 = zI M19 a0 25 ((M19.1 a0 25) + 1) → (∀ x21 : Int32, x21 = v5 + 1 → (K172 v2 v3 x21 M20)))))))))) → K172 v2 v3 v5 M) → (∀ (v2 : Int32) (M : zM), ((10 ≤ v2 → (Wp_Mo_zero a0 M (fun M5 => (post M5)))) ∧ (¬ 10 ≤ v2 → (vp_in v2 (ln (a0 + 1)) ∧ (vp_in (M.1 a0 25) (ln (a0 + 22)) ∧ (∀ M6 : zM, M6 = zI M (a0 + 22) ((M.1 a0 25)).toNatClampNeg (vp_nar .byte (M.1 (a0 + 1) (v2).toNatClampNeg)) → (∀ M7 : zM, M7 = zI M6 a0 25 ((M6.1 a0 25) + 1) → (∀ x8 : Int32, x8 = v2 + 1 → (K249 x8 M7)))))))) → K249 v2 M) → (∀ M1 : zM, M1 = zI M a0 25 0 → (K7 0 M1))
/-- MailChainModel.isLarge(I)Z -/
def Wp_Mo_isLarge (a0 : Nat) (i1 : Int32) (M : zM) (post : Int32 → zM → Prop) : Prop := ∀ K4 : Int32 → Int32 → zM → Prop, (∀ (v2 : Int32) (v3 : Int32) (M : zM), (vp_in i1 (ln (a0 + 8)) ∧ (((M.1 (a0 + 8) (i1).toNatClampNeg) ≤ v3 → (narrow .boolean (.int v2) = .int v2 ∧ post v2 M)) ∧ (¬ (M.1 (a0 + 8) (i1).toNatClampNeg) ≤ v3 → ((¬ v2 = 0 → (∀ x1 : Int32, x1 = v3 + 1 → (K4 1 x1 M))) ∧ (v2 = 0 → (Wp_Mo_at i1 v3 M (fun x3 M2 => (vp_in x3 (ln (a0 + 13)) ∧ ((262143 < (M2.1 (a0 + 13) (x3).toNatClampNeg) → (∀ x4 : Int32, x4 = v3 + 1 → (K4 1 x4 M2))) ∧ (¬ 262143 < (M2.1 (a0 + 13) (x3).toNatClampNeg) → (Wp_Mo_at i1 v3 M2 (fun x6 M5 => (vp_in x6 (ln (a0 + 14)) ∧ (((M5.1 (a0 + 14) (x6).toNatClampNeg) ≤ 262143 → (∀ x7 : Int32, x7 = v3 + 1 → (K4 0 x7 M5))) ∧ (¬ (M5.1 (a0 + 14) (x6).toNatClampNeg) ≤ 262143 → (∀ x8 : Int32, x8 = v3 + 1 → (K4 1 x8 M5))))))))))))))))) → K4 v2 v3 M) → (K4 0 0 M)
/-- MailChainModel.clearTable()V -/
def Wp_Mo_clearTable (a0 : Nat) (M : zM) (post : zM → Prop) : Prop := ∀ K9 : Int32 → zM → Prop, (∀ (v1 : Int32) (M : zM), ((65536 < v1 → (post M)) ∧ (¬ 65536 < v1 → (vp_in v1 (ln (a0 + 33)) ∧ (∀ M2 : zM, M2 = zI M (a0 + 33) (v1).toNatClampNeg 0 → (∀ x3 : Int32, x3 = v1 + 1 → (K9 x3 M2)))))) → K9 v1 M) → (∀ M1 : zM, M1 = zI M a0 53 257 → (K9 0 M1))
/-- MailChainModel.putBits(II)V -/
def Wp_Mo_putBits (a0 : Nat) (i1 : Int32) (i2 : Int32) (M : zM) (post : zM → Prop) : Prop := ∀ K2 : Int32 → zM → Prop, (∀ (v3 : Int32) (M : zM), ((i2 ≤ v3 → (post M)) ∧ (¬ i2 ≤ v3 → (∀ M1 : zM, M1 = zI M a0 56 ((M.1 a0 56) ||| (((i1 >>> (v3 &&& 31)) &&& 1) <<< ((M.1 a0 57) &&& 31))) → (∀ M2 : zM, M2 = zI M1 a0 57 ((M1.1 a0 57) + 1) → ((¬ (M2.1 a0 57) = 8 → (∀ x3 : Int32, x3 = v3 + 1 → (K2 x3 M2))) ∧ ((M2.1 a0 57) = 8 → (vp_in (M2.1 a0 27) (ln (a0 + 23)) ∧ (∀ M4 : zM, M4 = zI M2 (a0 + 23) ((M2.1 a0 27)).toNatClampNeg (vp_nar .byte (((M2.1 a0 56)).toInt8.toInt32)) → (∀ M5 : zM, M5 = zI M4 a0 27 ((M4.1 a0 27) + 1) → (∀ M6 : zM, M6 = zI M5 a0 56 0 → (∀ M7 : zM, M7 = zI M6 a0 57 0 → (∀ x8 : Int32, x8 = v3 + 1 → (K2 x8 M7))))))))))))) → K2 v3 M) → (K2 0 M)
/-- MailChainModel.fill()V -/
def Wp_Mo_fill (a0 : Nat) (M : zM) (post : zM → Prop) : Prop := ∀ K0 : zM → Prop, (∀ (M : zM), ((((M.1 a0 55) - (M.1 a0 55) / 8 * 8) = 0 → (∀ M1 : zM, M1 = zI M a0 55 0 → (post M1))) ∧ (¬ ((M.1 a0 55) - (M.1 a0 55) / 8 * 8) = 0 → (Wp_Mo_putBits a0 0 (M.1 a0 54) M (fun M2 => (∀ M3 : zM, M3 = zI M2 a0 55 ((M2.1 a0 55) + 1) → (K0 M3)))))) → K0 M) → (K0 M)
/-- MailChainModel.putCode(II)V -/
def Wp_Mo_putCode (a0 : Nat) (i1 : Int32) (i2 : Int32) (M : zM) (post : zM → Prop) : Prop := ∀ K0 : zM → Prop, ∀ K38 : zM → Prop, (∀ (M : zM), (((M.1 a0 53) ≤ (1 <<< ((M.1 a0 54) &&& 31)) → (K38 M)) ∧ (¬ (M.1 a0 53) ≤ (1 <<< ((M.1 a0 54) &&& 31)) → ((i2 ≤ (M.1 a0 54) → (K38 M)) ∧ (¬ i2 ≤ (M.1 a0 54) → (Wp_Mo_fill a0 M (fun M1 => (∀ M2 : zM, M2 = zI M1 a0 54 ((M1.1 a0 54) + 1) → (K0 M2)))))))) → K0 M) → (∀ (M : zM), (Wp_Mo_putBits a0 i1 (M.1 a0 54) M (fun M3 => (∀ M4 : zM, M4 = zI M3 a0 55 ((M3.1 a0 55) + 1) → (post M4)))) → K38 M) → (K0 M)
/-- MailChainModel.goOn(II)I -/
def Wp_Mo_goOn (a0 : Nat) (i1 : Int32) (i2 : Int32) (M : zM) (post : Int32 → zM → Prop) : Prop := ∀ K7 : Int32 → zM → Prop, (∀ (v3 : Int32) (M : zM), ((v3 ≤ 0 → (post v3 M)) ∧ (¬ v3 ≤ 0 → (vp_in v3 (ln (a0 + 35)) ∧ (((M.1 (a0 + 35) (v3).toNatClampNeg) = i2 → (post v3 M)) ∧ (¬ (M.1 (a0 + 35) (v3).toNatClampNeg) = i2 → (vp_in v3 (ln (a0 + 34)) ∧ (∀ x2 : Int32, x2 = (M.1 (a0 + 34) (v3).toNatClampNeg) → (K7 x2 M)))))))) → K7 v3 M) → (vp_in i1 (ln (a0 + 33)) ∧ (∀ x1 : Int32, x1 = (M.1 (a0 + 33) (i1).toNatClampNeg) → (K7 x1 M)))
/-- MailChainModel.compressRow([BII)V -/
def Wp_Mo_compressRow (a0 : Nat) (a1 : Nat) (i2 : Int32) (i3 : Int32) (M : zM) (post : zM → Prop) : Prop := ∀ K66 : Int32 → zM → Prop, ∀ K111 : Int32 → Int32 → Int32 → zM → Prop, ∀ K232 : Int32 → zM → Prop, (∀ (v4 : Int32) (M : zM), ((i2 ≤ v4 → (((M.1 a0 57) ≤ 0 → (post M)) ∧ (¬ (M.1 a0 57) ≤ 0 → (vp_in (M.1 a0 27) (ln (a0 + 23)) ∧ (∀ M11 : zM, M11 = zI M (a0 + 23) ((M.1 a0 27)).toNatClampNeg (vp_nar .byte (((M.1 a0 56)).toInt8.toInt32)) → (∀ M12 : zM, M12 = zI M11 a0 27 ((M11.1 a0 27) + 1) → (post M12))))))) ∧ (¬ i2 ≤ v4 → (vp_in v4 (ln a1) ∧ (∀ x13 : Int32, x13 = ((M.1 a1 (v4).toNatClampNeg) &&& 255) → (∀ x14 : Int32, x14 = v4 + 1 → ((i2 ≤ x14 → (K111 x14 x13 0 M)) ∧ (¬ i2 ≤ x14 → (vp_in x14 (ln a1) ∧ (Wp_Mo_goOn a0 x13 ((M.1 a1 (x14).toNatClampNeg) &&& 255) M (fun x16 M15 => (K111 x14 x13 x16 M15))))))))))) → K66 v4 M) → (∀ (v4 : Int32) (v5 : Int32) (v6 : Int32) (M : zM), ((v6 ≤ 0 → (Wp_Mo_putCode a0 v5 i3 M (fun M17 => ((i2 ≤ v4 → (K232 v4 M17)) ∧ (¬ i2 ≤ v4 → (((1 <<< (i3 &&& 31)) ≤ (M17.1 a0 53) → (K232 v4 M17)) ∧ (¬ (1 <<< (i3 &&& 31)) ≤ (M17.1 a0 53) → (vp_in v4 (ln a1) ∧ (vp_in (M17.1 a0 53) (ln (a0 + 35)) ∧ (∀ M18 : zM, M18 = zI M17 (a0 + 35) ((M17.1 a0 53)).toNatClampNeg ((M17.1 a1 (v4).toNatClampNeg) &&& 255) → (vp_in v5 (ln (a0 + 33)) ∧ (vp_in (M18.1 a0 53) (ln (a0 + 34)) ∧ (∀ M19 : zM, M19 = zI M18 (a0 + 34) ((M18.1 a0 53)).toNatClampNeg (M18.1 (a0 + 33) (v5).toNatClampNeg) → (vp_in v5 (ln (a0 + 33)) ∧ (∀ M20 : zM, M20 = zI M19 (a0 + 33) (v5).toNatClampNeg (M19.1 a0 53) → (∀ M21 : zM, M21 = zI M20 a0 53 ((M20.1 a0 53) + 1) → (K66 v4 M21))))))))))))))))) ∧ (¬ v6 ≤ 0 → (∀ x22 : Int32, x22 = v4 + 1 → ((i2 ≤ x22 → (K111 x22 v6 0 M)) ∧ (¬ i2 ≤ x22 → (vp_in x22 (ln a1) ∧ (Wp_Mo_goOn a0 v6 ((M.1 a1 (x22).toNatClampNeg) &&& 255) M (fun x24 M23 => (K111 x22 v6 x24 M23))))))))) → K111 v4 v5 v6 M) → (∀ (v4 : Int32) (M : zM), ((i2 ≤ v4 → (K66 v4 M)) ∧ (¬ i2 ≤ v4 → (Wp_Mo_putCode a0 256 i3 M (fun M25 => (Wp_Mo_fill a0 M25 (fun M26 => (∀ M27 : zM, M27 = zI M26 a0 54 9 → (Wp_Mo_clearTable a0 M27 (fun M28 => (K66 v4 M28)))))))))) → K232 v4 M) → (∀ M1 : zM, M1 = zI M a0 27 0 → (vp_in (0 : Int32) (ln (a0 + 23)) ∧ (∀ M2 : zM, M2 = zI M1 (a0 + 23) ((0 : Int32)).toNatClampNeg (vp_nar .byte 31) → (vp_in (1 : Int32) (ln (a0 + 23)) ∧ (∀ M3 : zM, M3 = zI M2 (a0 + 23) ((1 : Int32)).toNatClampNeg (vp_nar .byte (-99)) → (vp_in (2 : Int32) (ln (a0 + 23)) ∧ (∀ M4 : zM, M4 = zI M3 (a0 + 23) ((2 : Int32)).toNatClampNeg (vp_nar .byte (((128 + i3)).toInt8.toInt32)) → (∀ M5 : zM, M5 = zI M4 a0 27 3 → (∀ M6 : zM, M6 = zI M5 a0 56 0 → (∀ M7 : zM, M7 = zI M6 a0 57 0 → (∀ M8 : zM, M8 = zI M7 a0 55 0 → (∀ M9 : zM, M9 = zI M8 a0 54 9 → (Wp_Mo_clearTable a0 M9 (fun M10 => (K66 0 M10)))))))))))))))
/-- MailChainModel.code(I)I -/
def Wp_Mo_code (a0 : Nat) (i1 : Int32) (M : zM) (post : Int32 → zM → Prop) : Prop := ∀ K4 : Int32 → Int32 → zM → Prop, ∀ K49 : Int32 → Int32 → Int32 → zM → Prop, (∀ (v2 : Int32) (v3 : Int32) (M : zM), ((i1 ≤ v3 → (post v2 M)) ∧ (¬ i1 ≤ v3 → (((M.1 a0 45) ≤ ((M.1 a0 58) / 8) → (K49 v2 v3 0 M)) ∧ (¬ (M.1 a0 45) ≤ ((M.1 a0 58) / 8) → (vp_in ((M.1 a0 58) / 8) (ln (a0 + 31)) ∧ (K49 v2 v3 (((M.1 (a0 + 31) (((M.1 a0 58) / 8)).toNatClampNeg) >>> (((M.1 a0 58) - (M.1 a0 58) / 8 * 8) &&& 31)) &&& 1) M)))))) → K4 v2 v3 M) → (∀ (v2 : Int32) (v3 : Int32) (w0 : Int32) (M : zM), (∀ x1 : Int32, x1 = (v2 ||| (w0 <<< (v3 &&& 31))) → (∀ M2 : zM, M2 = zI M a0 58 ((M.1 a0 58) + 1) → (∀ x3 : Int32, x3 = v3 + 1 → (K4 x1 x3 M2)))) → K49 v2 v3 w0 M) → (K4 0 0 M)
/-- MailChainModel.firstByte(I)I -/
def Wp_Mo_firstByte (a0 : Nat) (i1 : Int32) (M : zM) (post : Int32 → zM → Prop) : Prop := ∀ K2 : Int32 → zM → Prop, (∀ (v2 : Int32) (M : zM), ((v2 ≤ 256 → (post v2 M)) ∧ (¬ v2 ≤ 256 → (vp_in v2 (ln (a0 + 36)) ∧ (∀ x1 : Int32, x1 = (M.1 (a0 + 36) (v2).toNatClampNeg) → (K2 x1 M))))) → K2 v2 M) → (K2 i1 M)
theorem d_Mo_linkedNow_0 : decode b_Mo_linkedNow 0 = .ok (.iload_n 1, 1) := by decide +kernel
theorem d_Mo_linkedNow_1 : decode b_Mo_linkedNow 1 = .ok (.ifCond .lt 17, 3) := by decide +kernel
theorem d_Mo_linkedNow_4 : decode b_Mo_linkedNow 4 = .ok (.iload_n 1, 1) := by decide +kernel
theorem d_Mo_linkedNow_5 : decode b_Mo_linkedNow 5 = .ok (.aload_n 0, 1) := by decide +kernel
theorem d_Mo_linkedNow_6 : decode b_Mo_linkedNow 6 = .ok (.getfield 31, 3) := by decide +kernel
theorem d_Mo_linkedNow_9 : decode b_Mo_linkedNow 9 = .ok (.iconst 0, 1) := by decide +kernel
theorem d_Mo_linkedNow_10 : decode b_Mo_linkedNow 10 = .ok (.iaload, 1) := by decide +kernel
theorem d_Mo_linkedNow_11 : decode b_Mo_linkedNow 11 = .ok (.if_icmp .ge 7, 3) := by decide +kernel
theorem d_Mo_linkedNow_14 : decode b_Mo_linkedNow 14 = .ok (.iconst 1, 1) := by decide +kernel
theorem d_Mo_linkedNow_15 : decode b_Mo_linkedNow 15 = .ok (.goto 4, 3) := by decide +kernel
theorem d_Mo_linkedNow_18 : decode b_Mo_linkedNow 18 = .ok (.iconst 0, 1) := by decide +kernel
theorem d_Mo_linkedNow_19 : decode b_Mo_linkedNow 19 = .ok (.istore_n 2, 1) := by decide +kernel
theorem d_Mo_linkedNow_20 : decode b_Mo_linkedNow 20 = .ok (.iload_n 2, 1) := by decide +kernel
theorem d_Mo_linkedNow_21 : decode b_Mo_linkedNow 21 = .ok (.ifCond .eq 11, 3) := by decide +kernel
theorem d_Mo_linkedNow_24 : decode b_Mo_linkedNow 24 = .ok (.iconst 0, 1) := by decide +kernel
theorem d_Mo_linkedNow_25 : decode b_Mo_linkedNow 25 = .ok (.iload_n 1, 1) := by decide +kernel
theorem d_Mo_linkedNow_26 : decode b_Mo_linkedNow 26 = .ok (.invokestatic 138, 3) := by decide +kernel
theorem d_Mo_linkedNow_29 : decode b_Mo_linkedNow 29 = .ok (.goto 4, 3) := by decide +kernel
theorem d_Mo_linkedNow_32 : decode b_Mo_linkedNow 32 = .ok (.iconst 0, 1) := by decide +kernel
theorem d_Mo_linkedNow_33 : decode b_Mo_linkedNow 33 = .ok (.istore_n 3, 1) := by decide +kernel
theorem d_Mo_linkedNow_34 : decode b_Mo_linkedNow 34 = .ok (.aload_n 0, 1) := by decide +kernel
theorem d_Mo_linkedNow_35 : decode b_Mo_linkedNow 35 = .ok (.aload_n 0, 1) := by decide +kernel
theorem d_Mo_linkedNow_36 : decode b_Mo_linkedNow 36 = .ok (.getfield 28, 3) := by decide +kernel
theorem d_Mo_linkedNow_39 : decode b_Mo_linkedNow 39 = .ok (.iconst 0, 1) := by decide +kernel
theorem d_Mo_linkedNow_40 : decode b_Mo_linkedNow 40 = .ok (.aload_n 0, 1) := by decide +kernel
theorem d_Mo_linkedNow_41 : decode b_Mo_linkedNow 41 = .ok (.getfield 132, 3) := by decide +kernel
theorem d_Mo_linkedNow_44 : decode b_Mo_linkedNow 44 = .ok (.invokevirtual 160, 3) := by decide +kernel
theorem d_Mo_linkedNow_47 : decode b_Mo_linkedNow 47 = .ok (.aload_n 0, 1) := by decide +kernel
theorem d_Mo_linkedNow_48 : decode b_Mo_linkedNow 48 = .ok (.getfield 132, 3) := by decide +kernel
theorem d_Mo_linkedNow_51 : decode b_Mo_linkedNow 51 = .ok (.bipush 60, 2) := by decide +kernel
theorem d_Mo_linkedNow_53 : decode b_Mo_linkedNow 53 = .ok (.if_icmp .gt 22, 3) := by decide +kernel
theorem d_Mo_linkedNow_56 : decode b_Mo_linkedNow 56 = .ok (.aload_n 0, 1) := by decide +kernel
theorem d_Mo_linkedNow_57 : decode b_Mo_linkedNow 57 = .ok (.invokevirtual 168, 3) := by decide +kernel
theorem d_Mo_linkedNow_60 : decode b_Mo_linkedNow 60 = .ok (.ifCond .eq 15, 3) := by decide +kernel
theorem d_Mo_linkedNow_63 : decode b_Mo_linkedNow 63 = .ok (.aload_n 0, 1) := by decide +kernel
theorem d_Mo_linkedNow_64 : decode b_Mo_linkedNow 64 = .ok (.iconst 0, 1) := by decide +kernel
theorem d_Mo_linkedNow_65 : decode b_Mo_linkedNow 65 = .ok (.invokevirtual 172, 3) := by decide +kernel
theorem d_Mo_linkedNow_68 : decode b_Mo_linkedNow 68 = .ok (.ifCond .eq 7, 3) := by decide +kernel
theorem d_Mo_linkedNow_71 : decode b_Mo_linkedNow 71 = .ok (.iconst 1, 1) := by decide +kernel
theorem d_Mo_linkedNow_72 : decode b_Mo_linkedNow 72 = .ok (.goto 4, 3) := by decide +kernel
theorem d_Mo_linkedNow_75 : decode b_Mo_linkedNow 75 = .ok (.iconst 0, 1) := by decide +kernel
theorem d_Mo_linkedNow_76 : decode b_Mo_linkedNow 76 = .ok (.istore 4, 2) := by decide +kernel
theorem d_Mo_linkedNow_78 : decode b_Mo_linkedNow 78 = .ok (.aload_n 0, 1) := by decide +kernel
theorem d_Mo_linkedNow_79 : decode b_Mo_linkedNow 79 = .ok (.iload_n 2, 1) := by decide +kernel
theorem d_Mo_linkedNow_80 : decode b_Mo_linkedNow 80 = .ok (.ifCond .ne 7, 3) := by decide +kernel
theorem d_Mo_linkedNow_83 : decode b_Mo_linkedNow 83 = .ok (.iconst 1, 1) := by decide +kernel
theorem d_Mo_linkedNow_84 : decode b_Mo_linkedNow 84 = .ok (.goto 72, 3) := by decide +kernel
theorem d_Mo_linkedNow_87 : decode b_Mo_linkedNow 87 = .ok (.aload_n 0, 1) := by decide +kernel
theorem d_Mo_linkedNow_88 : decode b_Mo_linkedNow 88 = .ok (.getfield 41, 3) := by decide +kernel
theorem d_Mo_linkedNow_91 : decode b_Mo_linkedNow 91 = .ok (.iload_n 3, 1) := by decide +kernel
theorem d_Mo_linkedNow_92 : decode b_Mo_linkedNow 92 = .ok (.iaload, 1) := by decide +kernel
theorem d_Mo_linkedNow_93 : decode b_Mo_linkedNow 93 = .ok (.iconst 1, 1) := by decide +kernel
theorem d_Mo_linkedNow_94 : decode b_Mo_linkedNow 94 = .ok (.if_icmp .ne 8, 3) := by decide +kernel
theorem d_Mo_linkedNow_97 : decode b_Mo_linkedNow 97 = .ok (.iload 4, 2) := by decide +kernel
theorem d_Mo_linkedNow_99 : decode b_Mo_linkedNow 99 = .ok (.ifCond .ne 7, 3) := by decide +kernel
theorem d_Mo_linkedNow_102 : decode b_Mo_linkedNow 102 = .ok (.iconst 2, 1) := by decide +kernel
theorem d_Mo_linkedNow_103 : decode b_Mo_linkedNow 103 = .ok (.goto 53, 3) := by decide +kernel
theorem d_Mo_linkedNow_106 : decode b_Mo_linkedNow 106 = .ok (.aload_n 0, 1) := by decide +kernel
theorem d_Mo_linkedNow_107 : decode b_Mo_linkedNow 107 = .ok (.iconst 0, 1) := by decide +kernel
theorem d_Mo_linkedNow_108 : decode b_Mo_linkedNow 108 = .ok (.aload_n 0, 1) := by decide +kernel
theorem d_Mo_linkedNow_109 : decode b_Mo_linkedNow 109 = .ok (.getfield 135, 3) := by decide +kernel
theorem d_Mo_linkedNow_112 : decode b_Mo_linkedNow 112 = .ok (.invokevirtual 145, 3) := by decide +kernel
theorem d_Mo_linkedNow_115 : decode b_Mo_linkedNow 115 = .ok (.ifCond .lt 7, 3) := by decide +kernel
theorem d_Mo_linkedNow_118 : decode b_Mo_linkedNow 118 = .ok (.iconst 3, 1) := by decide +kernel
theorem d_Mo_linkedNow_119 : decode b_Mo_linkedNow 119 = .ok (.goto 37, 3) := by decide +kernel
theorem d_Mo_linkedNow_122 : decode b_Mo_linkedNow 122 = .ok (.aload_n 0, 1) := by decide +kernel
theorem d_Mo_linkedNow_123 : decode b_Mo_linkedNow 123 = .ok (.getfield 31, 3) := by decide +kernel
theorem d_Mo_linkedNow_126 : decode b_Mo_linkedNow 126 = .ok (.iconst 0, 1) := by decide +kernel
theorem d_Mo_linkedNow_127 : decode b_Mo_linkedNow 127 = .ok (.iaload, 1) := by decide +kernel
theorem d_Mo_linkedNow_128 : decode b_Mo_linkedNow 128 = .ok (.bipush 40, 2) := by decide +kernel
theorem d_Mo_linkedNow_130 : decode b_Mo_linkedNow 130 = .ok (.if_icmp .eq 21, 3) := by decide +kernel
theorem d_Mo_linkedNow_133 : decode b_Mo_linkedNow 133 = .ok (.aload_n 0, 1) := by decide +kernel
theorem d_Mo_linkedNow_134 : decode b_Mo_linkedNow 134 = .ok (.iconst 0, 1) := by decide +kernel
theorem d_Mo_linkedNow_135 : decode b_Mo_linkedNow 135 = .ok (.invokevirtual 175, 3) := by decide +kernel
theorem d_Mo_linkedNow_138 : decode b_Mo_linkedNow 138 = .ok (.aload_n 0, 1) := by decide +kernel
theorem d_Mo_linkedNow_139 : decode b_Mo_linkedNow 139 = .ok (.getfield 59, 3) := by decide +kernel
theorem d_Mo_linkedNow_142 : decode b_Mo_linkedNow 142 = .ok (.iload_n 3, 1) := by decide +kernel
theorem d_Mo_linkedNow_143 : decode b_Mo_linkedNow 143 = .ok (.iaload, 1) := by decide +kernel
theorem d_Mo_linkedNow_144 : decode b_Mo_linkedNow 144 = .ok (.iadd, 1) := by decide +kernel
theorem d_Mo_linkedNow_145 : decode b_Mo_linkedNow 145 = .ok (.sipush 6000, 3) := by decide +kernel
theorem d_Mo_linkedNow_148 : decode b_Mo_linkedNow 148 = .ok (.if_icmp .le 7, 3) := by decide +kernel
theorem d_Mo_linkedNow_151 : decode b_Mo_linkedNow 151 = .ok (.iconst 4, 1) := by decide +kernel
theorem d_Mo_linkedNow_152 : decode b_Mo_linkedNow 152 = .ok (.goto 4, 3) := by decide +kernel
theorem d_Mo_linkedNow_155 : decode b_Mo_linkedNow 155 = .ok (.iconst 0, 1) := by decide +kernel
theorem d_Mo_linkedNow_156 : decode b_Mo_linkedNow 156 = .ok (.putfield 128, 3) := by decide +kernel
theorem d_Mo_linkedNow_159 : decode b_Mo_linkedNow 159 = .ok (.aload_n 0, 1) := by decide +kernel
theorem d_Mo_linkedNow_160 : decode b_Mo_linkedNow 160 = .ok (.getfield 128, 3) := by decide +kernel
theorem d_Mo_linkedNow_163 : decode b_Mo_linkedNow 163 = .ok (.ifCond .le 5, 3) := by decide +kernel
theorem d_Mo_linkedNow_166 : decode b_Mo_linkedNow 166 = .ok (.iconst 0, 1) := by decide +kernel
theorem d_Mo_linkedNow_167 : decode b_Mo_linkedNow 167 = .ok (.ireturn, 1) := by decide +kernel
theorem d_Mo_linkedNow_168 : decode b_Mo_linkedNow 168 = .ok (.aload_n 0, 1) := by decide +kernel
theorem d_Mo_linkedNow_169 : decode b_Mo_linkedNow 169 = .ok (.bipush 40, 2) := by decide +kernel
theorem d_Mo_linkedNow_171 : decode b_Mo_linkedNow 171 = .ok (.iload_n 3, 1) := by decide +kernel
theorem d_Mo_linkedNow_172 : decode b_Mo_linkedNow 172 = .ok (.invokevirtual 148, 3) := by decide +kernel
theorem d_Mo_linkedNow_175 : decode b_Mo_linkedNow 175 = .ok (.aload_n 0, 1) := by decide +kernel
theorem d_Mo_linkedNow_176 : decode b_Mo_linkedNow 176 = .ok (.iconst 0, 1) := by decide +kernel
theorem d_Mo_linkedNow_177 : decode b_Mo_linkedNow 177 = .ok (.invokevirtual 179, 3) := by decide +kernel
theorem d_Mo_linkedNow_180 : decode b_Mo_linkedNow 180 = .ok (.istore 5, 2) := by decide +kernel
theorem d_Mo_linkedNow_182 : decode b_Mo_linkedNow 182 = .ok (.aload_n 0, 1) := by decide +kernel
theorem d_Mo_linkedNow_183 : decode b_Mo_linkedNow 183 = .ok (.getfield 135, 3) := by decide +kernel
theorem d_Mo_linkedNow_186 : decode b_Mo_linkedNow 186 = .ok (.istore 6, 2) := by decide +kernel
theorem d_Mo_linkedNow_188 : decode b_Mo_linkedNow 188 = .ok (.aload_n 0, 1) := by decide +kernel
theorem d_Mo_linkedNow_189 : decode b_Mo_linkedNow 189 = .ok (.iload 5, 2) := by decide +kernel
theorem d_Mo_linkedNow_191 : decode b_Mo_linkedNow 191 = .ok (.bipush 40, 2) := by decide +kernel
theorem d_Mo_linkedNow_193 : decode b_Mo_linkedNow 193 = .ok (.invokevirtual 189, 3) := by decide +kernel
theorem d_Mo_linkedNow_196 : decode b_Mo_linkedNow 196 = .ok (.aload_n 0, 1) := by decide +kernel
theorem d_Mo_linkedNow_197 : decode b_Mo_linkedNow 197 = .ok (.getfield 38, 3) := by decide +kernel
theorem d_Mo_linkedNow_200 : decode b_Mo_linkedNow 200 = .ok (.iload 5, 2) := by decide +kernel
theorem d_Mo_linkedNow_202 : decode b_Mo_linkedNow 202 = .ok (.iload 6, 2) := by decide +kernel
theorem d_Mo_linkedNow_204 : decode b_Mo_linkedNow 204 = .ok (.iastore, 1) := by decide +kernel
theorem d_Mo_linkedNow_205 : decode b_Mo_linkedNow 205 = .ok (.aload_n 0, 1) := by decide +kernel
theorem d_Mo_linkedNow_206 : decode b_Mo_linkedNow 206 = .ok (.getfield 31, 3) := by decide +kernel
theorem d_Mo_linkedNow_209 : decode b_Mo_linkedNow 209 = .ok (.iconst 0, 1) := by decide +kernel
theorem d_Mo_linkedNow_210 : decode b_Mo_linkedNow 210 = .ok (.iaload, 1) := by decide +kernel
theorem d_Mo_linkedNow_211 : decode b_Mo_linkedNow 211 = .ok (.ireturn, 1) := by decide +kernel
theorem d_Mo_link_0 : decode b_Mo_link 0 = .ok (.aload_n 0, 1) := by decide +kernel
theorem d_Mo_link_1 : decode b_Mo_link 1 = .ok (.iload_n 1, 1) := by decide +kernel
theorem d_Mo_link_2 : decode b_Mo_link 2 = .ok (.invokevirtual 192, 3) := by decide +kernel
theorem d_Mo_link_5 : decode b_Mo_link 5 = .ok (.istore_n 2, 1) := by decide +kernel
theorem d_Mo_link_6 : decode b_Mo_link 6 = .ok (.aload_n 0, 1) := by decide +kernel
theorem d_Mo_link_7 : decode b_Mo_link 7 = .ok (.iconst 0, 1) := by decide +kernel
theorem d_Mo_link_8 : decode b_Mo_link 8 = .ok (.putfield 132, 3) := by decide +kernel
theorem d_Mo_link_11 : decode b_Mo_link 11 = .ok (.iload_n 2, 1) := by decide +kernel
theorem d_Mo_link_12 : decode b_Mo_link 12 = .ok (.ireturn, 1) := by decide +kernel
theorem d_Mo_clear_0 : decode b_Mo_clear 0 = .ok (.aload_n 0, 1) := by decide +kernel
theorem d_Mo_clear_1 : decode b_Mo_clear 1 = .ok (.iconst 0, 1) := by decide +kernel
theorem d_Mo_clear_2 : decode b_Mo_clear 2 = .ok (.putfield 128, 3) := by decide +kernel
theorem d_Mo_clear_5 : decode b_Mo_clear 5 = .ok (.aload_n 0, 1) := by decide +kernel
theorem d_Mo_clear_6 : decode b_Mo_clear 6 = .ok (.getfield 31, 3) := by decide +kernel
theorem d_Mo_clear_9 : decode b_Mo_clear 9 = .ok (.iconst 0, 1) := by decide +kernel
theorem d_Mo_clear_10 : decode b_Mo_clear 10 = .ok (.iaload, 1) := by decide +kernel
theorem d_Mo_clear_11 : decode b_Mo_clear 11 = .ok (.istore_n 1, 1) := by decide +kernel
theorem d_Mo_clear_12 : decode b_Mo_clear 12 = .ok (.aload_n 0, 1) := by decide +kernel
theorem d_Mo_clear_13 : decode b_Mo_clear 13 = .ok (.getfield 31, 3) := by decide +kernel
theorem d_Mo_clear_16 : decode b_Mo_clear 16 = .ok (.iconst 0, 1) := by decide +kernel
theorem d_Mo_clear_17 : decode b_Mo_clear 17 = .ok (.iconst 0, 1) := by decide +kernel
theorem d_Mo_clear_18 : decode b_Mo_clear 18 = .ok (.iastore, 1) := by decide +kernel
theorem d_Mo_clear_19 : decode b_Mo_clear 19 = .ok (.aload_n 0, 1) := by decide +kernel
theorem d_Mo_clear_20 : decode b_Mo_clear 20 = .ok (.getfield 65, 3) := by decide +kernel
theorem d_Mo_clear_23 : decode b_Mo_clear 23 = .ok (.iconst 0, 1) := by decide +kernel
theorem d_Mo_clear_24 : decode b_Mo_clear 24 = .ok (.iconst 0, 1) := by decide +kernel
theorem d_Mo_clear_25 : decode b_Mo_clear 25 = .ok (.iastore, 1) := by decide +kernel
theorem d_Mo_clear_26 : decode b_Mo_clear 26 = .ok (.iload_n 1, 1) := by decide +kernel
theorem d_Mo_clear_27 : decode b_Mo_clear 27 = .ok (.ireturn, 1) := by decide +kernel
theorem d_Mo_octal_0 : decode b_Mo_octal 0 = .ok (.iconst 3, 1) := by decide +kernel
theorem d_Mo_octal_1 : decode b_Mo_octal 1 = .ok (.iload_n 3, 1) := by decide +kernel
theorem d_Mo_octal_2 : decode b_Mo_octal 2 = .ok (.imul, 1) := by decide +kernel
theorem d_Mo_octal_3 : decode b_Mo_octal 3 = .ok (.iconst 3, 1) := by decide +kernel
theorem d_Mo_octal_4 : decode b_Mo_octal 4 = .ok (.isub, 1) := by decide +kernel
theorem d_Mo_octal_5 : decode b_Mo_octal 5 = .ok (.istore 4, 2) := by decide +kernel
theorem d_Mo_octal_7 : decode b_Mo_octal 7 = .ok (.iload 4, 2) := by decide +kernel
theorem d_Mo_octal_9 : decode b_Mo_octal 9 = .ok (.ifCond .lt 41, 3) := by decide +kernel
theorem d_Mo_octal_12 : decode b_Mo_octal 12 = .ok (.aload_n 0, 1) := by decide +kernel
theorem d_Mo_octal_13 : decode b_Mo_octal 13 = .ok (.getfield 75, 3) := by decide +kernel
theorem d_Mo_octal_16 : decode b_Mo_octal 16 = .ok (.aload_n 0, 1) := by decide +kernel
theorem d_Mo_octal_17 : decode b_Mo_octal 17 = .ok (.getfield 195, 3) := by decide +kernel
theorem d_Mo_octal_20 : decode b_Mo_octal 20 = .ok (.bipush 48, 2) := by decide +kernel
theorem d_Mo_octal_22 : decode b_Mo_octal 22 = .ok (.lload_n 1, 1) := by decide +kernel
theorem d_Mo_octal_23 : decode b_Mo_octal 23 = .ok (.iload 4, 2) := by decide +kernel
theorem d_Mo_octal_25 : decode b_Mo_octal 25 = .ok (.lshr, 1) := by decide +kernel
theorem d_Mo_octal_26 : decode b_Mo_octal 26 = .ok (.ldc2_w 198, 3) := by decide +kernel
theorem d_Mo_octal_29 : decode b_Mo_octal 29 = .ok (.land, 1) := by decide +kernel
theorem d_Mo_octal_30 : decode b_Mo_octal 30 = .ok (.l2i, 1) := by decide +kernel
theorem d_Mo_octal_31 : decode b_Mo_octal 31 = .ok (.iadd, 1) := by decide +kernel
theorem d_Mo_octal_32 : decode b_Mo_octal 32 = .ok (.i2b, 1) := by decide +kernel
theorem d_Mo_octal_33 : decode b_Mo_octal 33 = .ok (.bastore, 1) := by decide +kernel
theorem d_Mo_octal_34 : decode b_Mo_octal 34 = .ok (.aload_n 0, 1) := by decide +kernel
theorem d_Mo_octal_35 : decode b_Mo_octal 35 = .ok (.dup, 1) := by decide +kernel
theorem d_Mo_octal_36 : decode b_Mo_octal 36 = .ok (.getfield 195, 3) := by decide +kernel
theorem d_Mo_octal_39 : decode b_Mo_octal 39 = .ok (.iconst 1, 1) := by decide +kernel
theorem d_Mo_octal_40 : decode b_Mo_octal 40 = .ok (.iadd, 1) := by decide +kernel
theorem d_Mo_octal_41 : decode b_Mo_octal 41 = .ok (.putfield 195, 3) := by decide +kernel
theorem d_Mo_octal_44 : decode b_Mo_octal 44 = .ok (.iinc 4 (-3), 3) := by decide +kernel
theorem d_Mo_octal_47 : decode b_Mo_octal 47 = .ok (.goto (-40), 3) := by decide +kernel
theorem d_Mo_octal_50 : decode b_Mo_octal 50 = .ok (.return_, 1) := by decide +kernel
theorem d_Mo_zero_0 : decode b_Mo_zero 0 = .ok (.aload_n 0, 1) := by decide +kernel
theorem d_Mo_zero_1 : decode b_Mo_zero 1 = .ok (.getfield 75, 3) := by decide +kernel
theorem d_Mo_zero_4 : decode b_Mo_zero 4 = .ok (.aload_n 0, 1) := by decide +kernel
theorem d_Mo_zero_5 : decode b_Mo_zero 5 = .ok (.getfield 195, 3) := by decide +kernel
theorem d_Mo_zero_8 : decode b_Mo_zero 8 = .ok (.iconst 0, 1) := by decide +kernel
theorem d_Mo_zero_9 : decode b_Mo_zero 9 = .ok (.bastore, 1) := by decide +kernel
theorem d_Mo_zero_10 : decode b_Mo_zero 10 = .ok (.aload_n 0, 1) := by decide +kernel
theorem d_Mo_zero_11 : decode b_Mo_zero 11 = .ok (.dup, 1) := by decide +kernel
theorem d_Mo_zero_12 : decode b_Mo_zero 12 = .ok (.getfield 195, 3) := by decide +kernel
theorem d_Mo_zero_15 : decode b_Mo_zero 15 = .ok (.iconst 1, 1) := by decide +kernel
theorem d_Mo_zero_16 : decode b_Mo_zero 16 = .ok (.iadd, 1) := by decide +kernel
theorem d_Mo_zero_17 : decode b_Mo_zero 17 = .ok (.putfield 195, 3) := by decide +kernel
theorem d_Mo_zero_20 : decode b_Mo_zero 20 = .ok (.return_, 1) := by decide +kernel
theorem d_Mo_header_0 : decode b_Mo_header 0 = .ok (.aload_n 0, 1) := by decide +kernel
theorem d_Mo_header_1 : decode b_Mo_header 1 = .ok (.ldc2_w 200, 3) := by decide +kernel
theorem d_Mo_header_4 : decode b_Mo_header 4 = .ok (.bipush 6, 2) := by decide +kernel
theorem d_Mo_header_6 : decode b_Mo_header 6 = .ok (.invokevirtual 202, 3) := by decide +kernel
theorem d_Mo_header_9 : decode b_Mo_header 9 = .ok (.aload_n 0, 1) := by decide +kernel
theorem d_Mo_header_10 : decode b_Mo_header 10 = .ok (.lconst 0, 1) := by decide +kernel
theorem d_Mo_header_11 : decode b_Mo_header 11 = .ok (.bipush 6, 2) := by decide +kernel
theorem d_Mo_header_13 : decode b_Mo_header 13 = .ok (.invokevirtual 202, 3) := by decide +kernel
theorem d_Mo_header_16 : decode b_Mo_header 16 = .ok (.aload_n 0, 1) := by decide +kernel
theorem d_Mo_header_17 : decode b_Mo_header 17 = .ok (.iload_n 1, 1) := by decide +kernel
theorem d_Mo_header_18 : decode b_Mo_header 18 = .ok (.i2l, 1) := by decide +kernel
theorem d_Mo_header_19 : decode b_Mo_header 19 = .ok (.bipush 6, 2) := by decide +kernel
theorem d_Mo_header_21 : decode b_Mo_header 21 = .ok (.invokevirtual 202, 3) := by decide +kernel
theorem d_Mo_header_24 : decode b_Mo_header 24 = .ok (.aload_n 0, 1) := by decide +kernel
theorem d_Mo_header_25 : decode b_Mo_header 25 = .ok (.iload_n 2, 1) := by decide +kernel
theorem d_Mo_header_26 : decode b_Mo_header 26 = .ok (.i2l, 1) := by decide +kernel
theorem d_Mo_header_27 : decode b_Mo_header 27 = .ok (.bipush 6, 2) := by decide +kernel
theorem d_Mo_header_29 : decode b_Mo_header 29 = .ok (.invokevirtual 202, 3) := by decide +kernel
theorem d_Mo_header_32 : decode b_Mo_header 32 = .ok (.aload_n 0, 1) := by decide +kernel
theorem d_Mo_header_33 : decode b_Mo_header 33 = .ok (.iload_n 3, 1) := by decide +kernel
theorem d_Mo_header_34 : decode b_Mo_header 34 = .ok (.i2l, 1) := by decide +kernel
theorem d_Mo_header_35 : decode b_Mo_header 35 = .ok (.bipush 6, 2) := by decide +kernel
theorem d_Mo_header_37 : decode b_Mo_header 37 = .ok (.invokevirtual 202, 3) := by decide +kernel
theorem d_Mo_header_40 : decode b_Mo_header 40 = .ok (.aload_n 0, 1) := by decide +kernel
theorem d_Mo_header_41 : decode b_Mo_header 41 = .ok (.iload 4, 2) := by decide +kernel
theorem d_Mo_header_43 : decode b_Mo_header 43 = .ok (.i2l, 1) := by decide +kernel
theorem d_Mo_header_44 : decode b_Mo_header 44 = .ok (.bipush 6, 2) := by decide +kernel
theorem d_Mo_header_46 : decode b_Mo_header 46 = .ok (.invokevirtual 202, 3) := by decide +kernel
theorem d_Mo_header_49 : decode b_Mo_header 49 = .ok (.aload_n 0, 1) := by decide +kernel
theorem d_Mo_header_50 : decode b_Mo_header 50 = .ok (.iload 5, 2) := by decide +kernel
theorem d_Mo_header_52 : decode b_Mo_header 52 = .ok (.i2l, 1) := by decide +kernel
theorem d_Mo_header_53 : decode b_Mo_header 53 = .ok (.bipush 6, 2) := by decide +kernel
theorem d_Mo_header_55 : decode b_Mo_header 55 = .ok (.invokevirtual 202, 3) := by decide +kernel
theorem d_Mo_header_58 : decode b_Mo_header 58 = .ok (.aload_n 0, 1) := by decide +kernel
theorem d_Mo_header_59 : decode b_Mo_header 59 = .ok (.lconst 0, 1) := by decide +kernel
theorem d_Mo_header_60 : decode b_Mo_header 60 = .ok (.bipush 6, 2) := by decide +kernel
theorem d_Mo_header_62 : decode b_Mo_header 62 = .ok (.invokevirtual 202, 3) := by decide +kernel
theorem d_Mo_header_65 : decode b_Mo_header 65 = .ok (.aload_n 0, 1) := by decide +kernel
theorem d_Mo_header_66 : decode b_Mo_header 66 = .ok (.iload 6, 2) := by decide +kernel
theorem d_Mo_header_68 : decode b_Mo_header 68 = .ok (.i2l, 1) := by decide +kernel
theorem d_Mo_header_69 : decode b_Mo_header 69 = .ok (.bipush 11, 2) := by decide +kernel
theorem d_Mo_header_71 : decode b_Mo_header 71 = .ok (.invokevirtual 202, 3) := by decide +kernel
theorem d_Mo_header_74 : decode b_Mo_header 74 = .ok (.aload_n 0, 1) := by decide +kernel
theorem d_Mo_header_75 : decode b_Mo_header 75 = .ok (.iload 7, 2) := by decide +kernel
theorem d_Mo_header_77 : decode b_Mo_header 77 = .ok (.iconst 1, 1) := by decide +kernel
theorem d_Mo_header_78 : decode b_Mo_header 78 = .ok (.iadd, 1) := by decide +kernel
theorem d_Mo_header_79 : decode b_Mo_header 79 = .ok (.i2l, 1) := by decide +kernel
theorem d_Mo_header_80 : decode b_Mo_header 80 = .ok (.bipush 6, 2) := by decide +kernel
theorem d_Mo_header_82 : decode b_Mo_header 82 = .ok (.invokevirtual 202, 3) := by decide +kernel
theorem d_Mo_header_85 : decode b_Mo_header 85 = .ok (.aload_n 0, 1) := by decide +kernel
theorem d_Mo_header_86 : decode b_Mo_header 86 = .ok (.iload 8, 2) := by decide +kernel
theorem d_Mo_header_88 : decode b_Mo_header 88 = .ok (.i2l, 1) := by decide +kernel
theorem d_Mo_header_89 : decode b_Mo_header 89 = .ok (.bipush 11, 2) := by decide +kernel
theorem d_Mo_header_91 : decode b_Mo_header 91 = .ok (.invokevirtual 202, 3) := by decide +kernel
theorem d_Mo_header_94 : decode b_Mo_header 94 = .ok (.return_, 1) := by decide +kernel
theorem d_Mo_firstOf_0 : decode b_Mo_firstOf 0 = .ok (.iload_n 1, 1) := by decide +kernel
theorem d_Mo_firstOf_1 : decode b_Mo_firstOf 1 = .ok (.iload_n 2, 1) := by decide +kernel
theorem d_Mo_firstOf_2 : decode b_Mo_firstOf 2 = .ok (.invokestatic 138, 3) := by decide +kernel
theorem d_Mo_firstOf_5 : decode b_Mo_firstOf 5 = .ok (.istore_n 3, 1) := by decide +kernel
theorem d_Mo_firstOf_6 : decode b_Mo_firstOf 6 = .ok (.iload_n 2, 1) := by decide +kernel
theorem d_Mo_firstOf_7 : decode b_Mo_firstOf 7 = .ok (.istore 4, 2) := by decide +kernel
theorem d_Mo_firstOf_9 : decode b_Mo_firstOf 9 = .ok (.iload_n 2, 1) := by decide +kernel
theorem d_Mo_firstOf_10 : decode b_Mo_firstOf 10 = .ok (.istore 5, 2) := by decide +kernel
theorem d_Mo_firstOf_12 : decode b_Mo_firstOf 12 = .ok (.iload 5, 2) := by decide +kernel
theorem d_Mo_firstOf_14 : decode b_Mo_firstOf 14 = .ok (.ifCond .lt 63, 3) := by decide +kernel
theorem d_Mo_firstOf_17 : decode b_Mo_firstOf 17 = .ok (.iload_n 1, 1) := by decide +kernel
theorem d_Mo_firstOf_18 : decode b_Mo_firstOf 18 = .ok (.iload 5, 2) := by decide +kernel
theorem d_Mo_firstOf_20 : decode b_Mo_firstOf 20 = .ok (.invokestatic 138, 3) := by decide +kernel
theorem d_Mo_firstOf_23 : decode b_Mo_firstOf 23 = .ok (.istore 6, 2) := by decide +kernel
theorem d_Mo_firstOf_25 : decode b_Mo_firstOf 25 = .ok (.aload_n 0, 1) := by decide +kernel
theorem d_Mo_firstOf_26 : decode b_Mo_firstOf 26 = .ok (.getfield 41, 3) := by decide +kernel
theorem d_Mo_firstOf_29 : decode b_Mo_firstOf 29 = .ok (.iload_n 3, 1) := by decide +kernel
theorem d_Mo_firstOf_30 : decode b_Mo_firstOf 30 = .ok (.iaload, 1) := by decide +kernel
theorem d_Mo_firstOf_31 : decode b_Mo_firstOf 31 = .ok (.iconst 1, 1) := by decide +kernel
theorem d_Mo_firstOf_32 : decode b_Mo_firstOf 32 = .ok (.if_icmp .ne 35, 3) := by decide +kernel
theorem d_Mo_firstOf_35 : decode b_Mo_firstOf 35 = .ok (.aload_n 0, 1) := by decide +kernel
theorem d_Mo_firstOf_36 : decode b_Mo_firstOf 36 = .ok (.getfield 41, 3) := by decide +kernel
theorem d_Mo_firstOf_39 : decode b_Mo_firstOf 39 = .ok (.iload 6, 2) := by decide +kernel
theorem d_Mo_firstOf_41 : decode b_Mo_firstOf 41 = .ok (.iaload, 1) := by decide +kernel
theorem d_Mo_firstOf_42 : decode b_Mo_firstOf 42 = .ok (.iconst 1, 1) := by decide +kernel
theorem d_Mo_firstOf_43 : decode b_Mo_firstOf 43 = .ok (.if_icmp .ne 24, 3) := by decide +kernel
theorem d_Mo_firstOf_46 : decode b_Mo_firstOf 46 = .ok (.aload_n 0, 1) := by decide +kernel
theorem d_Mo_firstOf_47 : decode b_Mo_firstOf 47 = .ok (.getfield 62, 3) := by decide +kernel
theorem d_Mo_firstOf_50 : decode b_Mo_firstOf 50 = .ok (.iload 6, 2) := by decide +kernel
theorem d_Mo_firstOf_52 : decode b_Mo_firstOf 52 = .ok (.iaload, 1) := by decide +kernel
theorem d_Mo_firstOf_53 : decode b_Mo_firstOf 53 = .ok (.aload_n 0, 1) := by decide +kernel
theorem d_Mo_firstOf_54 : decode b_Mo_firstOf 54 = .ok (.getfield 62, 3) := by decide +kernel
theorem d_Mo_firstOf_57 : decode b_Mo_firstOf 57 = .ok (.iload_n 3, 1) := by decide +kernel
theorem d_Mo_firstOf_58 : decode b_Mo_firstOf 58 = .ok (.iaload, 1) := by decide +kernel
theorem d_Mo_firstOf_59 : decode b_Mo_firstOf 59 = .ok (.if_icmp .ne 8, 3) := by decide +kernel
theorem d_Mo_firstOf_62 : decode b_Mo_firstOf 62 = .ok (.iload 5, 2) := by decide +kernel
theorem d_Mo_firstOf_64 : decode b_Mo_firstOf 64 = .ok (.goto 5, 3) := by decide +kernel
theorem d_Mo_firstOf_67 : decode b_Mo_firstOf 67 = .ok (.iload 4, 2) := by decide +kernel
theorem d_Mo_firstOf_69 : decode b_Mo_firstOf 69 = .ok (.istore 4, 2) := by decide +kernel
theorem d_Mo_firstOf_71 : decode b_Mo_firstOf 71 = .ok (.iinc 5 (-1), 3) := by decide +kernel
theorem d_Mo_firstOf_74 : decode b_Mo_firstOf 74 = .ok (.goto (-62), 3) := by decide +kernel
theorem d_Mo_firstOf_77 : decode b_Mo_firstOf 77 = .ok (.iload 4, 2) := by decide +kernel
theorem d_Mo_firstOf_79 : decode b_Mo_firstOf 79 = .ok (.ireturn, 1) := by decide +kernel
theorem d_Mo_linksOf_0 : decode b_Mo_linksOf 0 = .ok (.aload_n 0, 1) := by decide +kernel
theorem d_Mo_linksOf_1 : decode b_Mo_linksOf 1 = .ok (.iload_n 1, 1) := by decide +kernel
theorem d_Mo_linksOf_2 : decode b_Mo_linksOf 2 = .ok (.iload_n 2, 1) := by decide +kernel
theorem d_Mo_linksOf_3 : decode b_Mo_linksOf 3 = .ok (.invokevirtual 206, 3) := by decide +kernel
theorem d_Mo_linksOf_6 : decode b_Mo_linksOf 6 = .ok (.istore_n 3, 1) := by decide +kernel
theorem d_Mo_linksOf_7 : decode b_Mo_linksOf 7 = .ok (.iconst 0, 1) := by decide +kernel
theorem d_Mo_linksOf_8 : decode b_Mo_linksOf 8 = .ok (.istore 4, 2) := by decide +kernel
theorem d_Mo_linksOf_10 : decode b_Mo_linksOf 10 = .ok (.iconst 0, 1) := by decide +kernel
theorem d_Mo_linksOf_11 : decode b_Mo_linksOf 11 = .ok (.istore 5, 2) := by decide +kernel
theorem d_Mo_linksOf_13 : decode b_Mo_linksOf 13 = .ok (.iload 5, 2) := by decide +kernel
theorem d_Mo_linksOf_15 : decode b_Mo_linksOf 15 = .ok (.aload_n 0, 1) := by decide +kernel
theorem d_Mo_linksOf_16 : decode b_Mo_linksOf 16 = .ok (.getfield 31, 3) := by decide +kernel
theorem d_Mo_linksOf_19 : decode b_Mo_linksOf 19 = .ok (.iload_n 1, 1) := by decide +kernel
theorem d_Mo_linksOf_20 : decode b_Mo_linksOf 20 = .ok (.iaload, 1) := by decide +kernel
theorem d_Mo_linksOf_21 : decode b_Mo_linksOf 21 = .ok (.if_icmp .ge 31, 3) := by decide +kernel
theorem d_Mo_linksOf_24 : decode b_Mo_linksOf 24 = .ok (.aload_n 0, 1) := by decide +kernel
theorem d_Mo_linksOf_25 : decode b_Mo_linksOf 25 = .ok (.iload_n 1, 1) := by decide +kernel
theorem d_Mo_linksOf_26 : decode b_Mo_linksOf 26 = .ok (.iload 5, 2) := by decide +kernel
theorem d_Mo_linksOf_28 : decode b_Mo_linksOf 28 = .ok (.invokevirtual 206, 3) := by decide +kernel
theorem d_Mo_linksOf_31 : decode b_Mo_linksOf 31 = .ok (.iload_n 3, 1) := by decide +kernel
theorem d_Mo_linksOf_32 : decode b_Mo_linksOf 32 = .ok (.if_icmp .ne 10, 3) := by decide +kernel
theorem d_Mo_linksOf_35 : decode b_Mo_linksOf 35 = .ok (.iload 4, 2) := by decide +kernel
theorem d_Mo_linksOf_37 : decode b_Mo_linksOf 37 = .ok (.iconst 1, 1) := by decide +kernel
theorem d_Mo_linksOf_38 : decode b_Mo_linksOf 38 = .ok (.iadd, 1) := by decide +kernel
theorem d_Mo_linksOf_39 : decode b_Mo_linksOf 39 = .ok (.goto 5, 3) := by decide +kernel
theorem d_Mo_linksOf_42 : decode b_Mo_linksOf 42 = .ok (.iload 4, 2) := by decide +kernel
theorem d_Mo_linksOf_44 : decode b_Mo_linksOf 44 = .ok (.istore 4, 2) := by decide +kernel
theorem d_Mo_linksOf_46 : decode b_Mo_linksOf 46 = .ok (.iinc 5 1, 3) := by decide +kernel
theorem d_Mo_linksOf_49 : decode b_Mo_linksOf 49 = .ok (.goto (-36), 3) := by decide +kernel
theorem d_Mo_linksOf_52 : decode b_Mo_linksOf 52 = .ok (.iload 4, 2) := by decide +kernel
theorem d_Mo_linksOf_54 : decode b_Mo_linksOf 54 = .ok (.ireturn, 1) := by decide +kernel
theorem d_Mo_archiveOf_0 : decode b_Mo_archiveOf 0 = .ok (.aload_n 0, 1) := by decide +kernel
theorem d_Mo_archiveOf_1 : decode b_Mo_archiveOf 1 = .ok (.iconst 0, 1) := by decide +kernel
theorem d_Mo_archiveOf_2 : decode b_Mo_archiveOf 2 = .ok (.putfield 195, 3) := by decide +kernel
theorem d_Mo_archiveOf_5 : decode b_Mo_archiveOf 5 = .ok (.iconst 0, 1) := by decide +kernel
theorem d_Mo_archiveOf_6 : decode b_Mo_archiveOf 6 = .ok (.istore_n 2, 1) := by decide +kernel
theorem d_Mo_archiveOf_7 : decode b_Mo_archiveOf 7 = .ok (.iload_n 2, 1) := by decide +kernel
theorem d_Mo_archiveOf_8 : decode b_Mo_archiveOf 8 = .ok (.aload_n 0, 1) := by decide +kernel
theorem d_Mo_archiveOf_9 : decode b_Mo_archiveOf 9 = .ok (.getfield 31, 3) := by decide +kernel
theorem d_Mo_archiveOf_12 : decode b_Mo_archiveOf 12 = .ok (.iload_n 1, 1) := by decide +kernel
theorem d_Mo_archiveOf_13 : decode b_Mo_archiveOf 13 = .ok (.iaload, 1) := by decide +kernel
theorem d_Mo_archiveOf_14 : decode b_Mo_archiveOf 14 = .ok (.if_icmp .ge 220, 3) := by decide +kernel
theorem d_Mo_archiveOf_17 : decode b_Mo_archiveOf 17 = .ok (.iload_n 1, 1) := by decide +kernel
theorem d_Mo_archiveOf_18 : decode b_Mo_archiveOf 18 = .ok (.iload_n 2, 1) := by decide +kernel
theorem d_Mo_archiveOf_19 : decode b_Mo_archiveOf 19 = .ok (.invokestatic 138, 3) := by decide +kernel
theorem d_Mo_archiveOf_22 : decode b_Mo_archiveOf 22 = .ok (.istore_n 3, 1) := by decide +kernel
theorem d_Mo_archiveOf_23 : decode b_Mo_archiveOf 23 = .ok (.aload_n 0, 1) := by decide +kernel
theorem d_Mo_archiveOf_24 : decode b_Mo_archiveOf 24 = .ok (.getfield 41, 3) := by decide +kernel
theorem d_Mo_archiveOf_27 : decode b_Mo_archiveOf 27 = .ok (.iload_n 3, 1) := by decide +kernel
theorem d_Mo_archiveOf_28 : decode b_Mo_archiveOf 28 = .ok (.iaload, 1) := by decide +kernel
theorem d_Mo_archiveOf_29 : decode b_Mo_archiveOf 29 = .ok (.ifCond .ne 9, 3) := by decide +kernel
theorem d_Mo_archiveOf_32 : decode b_Mo_archiveOf 32 = .ok (.sipush 16384, 3) := by decide +kernel
theorem d_Mo_archiveOf_35 : decode b_Mo_archiveOf 35 = .ok (.goto 20, 3) := by decide +kernel
theorem d_Mo_archiveOf_38 : decode b_Mo_archiveOf 38 = .ok (.aload_n 0, 1) := by decide +kernel
theorem d_Mo_archiveOf_39 : decode b_Mo_archiveOf 39 = .ok (.getfield 41, 3) := by decide +kernel
theorem d_Mo_archiveOf_42 : decode b_Mo_archiveOf 42 = .ok (.iload_n 3, 1) := by decide +kernel
theorem d_Mo_archiveOf_43 : decode b_Mo_archiveOf 43 = .ok (.iaload, 1) := by decide +kernel
theorem d_Mo_archiveOf_44 : decode b_Mo_archiveOf 44 = .ok (.iconst 1, 1) := by decide +kernel
theorem d_Mo_archiveOf_45 : decode b_Mo_archiveOf 45 = .ok (.if_icmp .ne 8, 3) := by decide +kernel
theorem d_Mo_archiveOf_48 : decode b_Mo_archiveOf 48 = .ok (.ldc 209, 2) := by decide +kernel
theorem d_Mo_archiveOf_50 : decode b_Mo_archiveOf 50 = .ok (.goto 5, 3) := by decide +kernel
theorem d_Mo_archiveOf_53 : decode b_Mo_archiveOf 53 = .ok (.ldc 210, 2) := by decide +kernel
theorem d_Mo_archiveOf_55 : decode b_Mo_archiveOf 55 = .ok (.istore 4, 2) := by decide +kernel
theorem d_Mo_archiveOf_57 : decode b_Mo_archiveOf 57 = .ok (.aload_n 0, 1) := by decide +kernel
theorem d_Mo_archiveOf_58 : decode b_Mo_archiveOf 58 = .ok (.aload_n 0, 1) := by decide +kernel
theorem d_Mo_archiveOf_59 : decode b_Mo_archiveOf 59 = .ok (.iload_n 1, 1) := by decide +kernel
theorem d_Mo_archiveOf_60 : decode b_Mo_archiveOf 60 = .ok (.iload_n 2, 1) := by decide +kernel
theorem d_Mo_archiveOf_61 : decode b_Mo_archiveOf 61 = .ok (.invokevirtual 206, 3) := by decide +kernel
theorem d_Mo_archiveOf_64 : decode b_Mo_archiveOf 64 = .ok (.iconst 1, 1) := by decide +kernel
theorem d_Mo_archiveOf_65 : decode b_Mo_archiveOf 65 = .ok (.iadd, 1) := by decide +kernel
theorem d_Mo_archiveOf_66 : decode b_Mo_archiveOf 66 = .ok (.iload 4, 2) := by decide +kernel
theorem d_Mo_archiveOf_68 : decode b_Mo_archiveOf 68 = .ok (.aload_n 0, 1) := by decide +kernel
theorem d_Mo_archiveOf_69 : decode b_Mo_archiveOf 69 = .ok (.getfield 44, 3) := by decide +kernel
theorem d_Mo_archiveOf_72 : decode b_Mo_archiveOf 72 = .ok (.iload_n 3, 1) := by decide +kernel
theorem d_Mo_archiveOf_73 : decode b_Mo_archiveOf 73 = .ok (.iaload, 1) := by decide +kernel
theorem d_Mo_archiveOf_74 : decode b_Mo_archiveOf 74 = .ok (.iadd, 1) := by decide +kernel
theorem d_Mo_archiveOf_75 : decode b_Mo_archiveOf 75 = .ok (.aload_n 0, 1) := by decide +kernel
theorem d_Mo_archiveOf_76 : decode b_Mo_archiveOf 76 = .ok (.getfield 47, 3) := by decide +kernel
theorem d_Mo_archiveOf_79 : decode b_Mo_archiveOf 79 = .ok (.iload_n 3, 1) := by decide +kernel
theorem d_Mo_archiveOf_80 : decode b_Mo_archiveOf 80 = .ok (.iaload, 1) := by decide +kernel
theorem d_Mo_archiveOf_81 : decode b_Mo_archiveOf 81 = .ok (.aload_n 0, 1) := by decide +kernel
theorem d_Mo_archiveOf_82 : decode b_Mo_archiveOf 82 = .ok (.getfield 50, 3) := by decide +kernel
theorem d_Mo_archiveOf_85 : decode b_Mo_archiveOf 85 = .ok (.iload_n 3, 1) := by decide +kernel
theorem d_Mo_archiveOf_86 : decode b_Mo_archiveOf 86 = .ok (.iaload, 1) := by decide +kernel
theorem d_Mo_archiveOf_87 : decode b_Mo_archiveOf 87 = .ok (.aload_n 0, 1) := by decide +kernel
theorem d_Mo_archiveOf_88 : decode b_Mo_archiveOf 88 = .ok (.iload_n 1, 1) := by decide +kernel
theorem d_Mo_archiveOf_89 : decode b_Mo_archiveOf 89 = .ok (.iload_n 2, 1) := by decide +kernel
theorem d_Mo_archiveOf_90 : decode b_Mo_archiveOf 90 = .ok (.invokevirtual 211, 3) := by decide +kernel
theorem d_Mo_archiveOf_93 : decode b_Mo_archiveOf 93 = .ok (.aload_n 0, 1) := by decide +kernel
theorem d_Mo_archiveOf_94 : decode b_Mo_archiveOf 94 = .ok (.getfield 53, 3) := by decide +kernel
theorem d_Mo_archiveOf_97 : decode b_Mo_archiveOf 97 = .ok (.iload_n 3, 1) := by decide +kernel
theorem d_Mo_archiveOf_98 : decode b_Mo_archiveOf 98 = .ok (.iaload, 1) := by decide +kernel
theorem d_Mo_archiveOf_99 : decode b_Mo_archiveOf 99 = .ok (.aload_n 0, 1) := by decide +kernel
theorem d_Mo_archiveOf_100 : decode b_Mo_archiveOf 100 = .ok (.getfield 38, 3) := by decide +kernel
theorem d_Mo_archiveOf_103 : decode b_Mo_archiveOf 103 = .ok (.iload_n 3, 1) := by decide +kernel
theorem d_Mo_archiveOf_104 : decode b_Mo_archiveOf 104 = .ok (.iaload, 1) := by decide +kernel
theorem d_Mo_archiveOf_105 : decode b_Mo_archiveOf 105 = .ok (.aload_n 0, 1) := by decide +kernel
theorem d_Mo_archiveOf_106 : decode b_Mo_archiveOf 106 = .ok (.getfield 59, 3) := by decide +kernel
theorem d_Mo_archiveOf_109 : decode b_Mo_archiveOf 109 = .ok (.iload_n 3, 1) := by decide +kernel
theorem d_Mo_archiveOf_110 : decode b_Mo_archiveOf 110 = .ok (.iaload, 1) := by decide +kernel
theorem d_Mo_archiveOf_111 : decode b_Mo_archiveOf 111 = .ok (.invokevirtual 214, 3) := by decide +kernel
theorem d_Mo_archiveOf_114 : decode b_Mo_archiveOf 114 = .ok (.iconst 0, 1) := by decide +kernel
theorem d_Mo_archiveOf_115 : decode b_Mo_archiveOf 115 = .ok (.istore 5, 2) := by decide +kernel
theorem d_Mo_archiveOf_117 : decode b_Mo_archiveOf 117 = .ok (.iload 5, 2) := by decide +kernel
theorem d_Mo_archiveOf_119 : decode b_Mo_archiveOf 119 = .ok (.aload_n 0, 1) := by decide +kernel
theorem d_Mo_archiveOf_120 : decode b_Mo_archiveOf 120 = .ok (.getfield 38, 3) := by decide +kernel
theorem d_Mo_archiveOf_123 : decode b_Mo_archiveOf 123 = .ok (.iload_n 3, 1) := by decide +kernel
theorem d_Mo_archiveOf_124 : decode b_Mo_archiveOf 124 = .ok (.iaload, 1) := by decide +kernel
theorem d_Mo_archiveOf_125 : decode b_Mo_archiveOf 125 = .ok (.if_icmp .ge 40, 3) := by decide +kernel
theorem d_Mo_archiveOf_128 : decode b_Mo_archiveOf 128 = .ok (.aload_n 0, 1) := by decide +kernel
theorem d_Mo_archiveOf_129 : decode b_Mo_archiveOf 129 = .ok (.getfield 75, 3) := by decide +kernel
theorem d_Mo_archiveOf_132 : decode b_Mo_archiveOf 132 = .ok (.aload_n 0, 1) := by decide +kernel
theorem d_Mo_archiveOf_133 : decode b_Mo_archiveOf 133 = .ok (.getfield 195, 3) := by decide +kernel
theorem d_Mo_archiveOf_136 : decode b_Mo_archiveOf 136 = .ok (.aload_n 0, 1) := by decide +kernel
theorem d_Mo_archiveOf_137 : decode b_Mo_archiveOf 137 = .ok (.getfield 35, 3) := by decide +kernel
theorem d_Mo_archiveOf_140 : decode b_Mo_archiveOf 140 = .ok (.bipush 60, 2) := by decide +kernel
theorem d_Mo_archiveOf_142 : decode b_Mo_archiveOf 142 = .ok (.iload_n 3, 1) := by decide +kernel
theorem d_Mo_archiveOf_143 : decode b_Mo_archiveOf 143 = .ok (.imul, 1) := by decide +kernel
theorem d_Mo_archiveOf_144 : decode b_Mo_archiveOf 144 = .ok (.iload 5, 2) := by decide +kernel
theorem d_Mo_archiveOf_146 : decode b_Mo_archiveOf 146 = .ok (.iadd, 1) := by decide +kernel
theorem d_Mo_archiveOf_147 : decode b_Mo_archiveOf 147 = .ok (.baload, 1) := by decide +kernel
theorem d_Mo_archiveOf_148 : decode b_Mo_archiveOf 148 = .ok (.bastore, 1) := by decide +kernel
theorem d_Mo_archiveOf_149 : decode b_Mo_archiveOf 149 = .ok (.aload_n 0, 1) := by decide +kernel
theorem d_Mo_archiveOf_150 : decode b_Mo_archiveOf 150 = .ok (.dup, 1) := by decide +kernel
theorem d_Mo_archiveOf_151 : decode b_Mo_archiveOf 151 = .ok (.getfield 195, 3) := by decide +kernel
theorem d_Mo_archiveOf_154 : decode b_Mo_archiveOf 154 = .ok (.iconst 1, 1) := by decide +kernel
theorem d_Mo_archiveOf_155 : decode b_Mo_archiveOf 155 = .ok (.iadd, 1) := by decide +kernel
theorem d_Mo_archiveOf_156 : decode b_Mo_archiveOf 156 = .ok (.putfield 195, 3) := by decide +kernel
theorem d_Mo_archiveOf_159 : decode b_Mo_archiveOf 159 = .ok (.iinc 5 1, 3) := by decide +kernel
theorem d_Mo_archiveOf_162 : decode b_Mo_archiveOf 162 = .ok (.goto (-45), 3) := by decide +kernel
theorem d_Mo_archiveOf_165 : decode b_Mo_archiveOf 165 = .ok (.aload_n 0, 1) := by decide +kernel
theorem d_Mo_archiveOf_166 : decode b_Mo_archiveOf 166 = .ok (.invokevirtual 218, 3) := by decide +kernel
theorem d_Mo_archiveOf_169 : decode b_Mo_archiveOf 169 = .ok (.iconst 0, 1) := by decide +kernel
theorem d_Mo_archiveOf_170 : decode b_Mo_archiveOf 170 = .ok (.istore 5, 2) := by decide +kernel
theorem d_Mo_archiveOf_172 : decode b_Mo_archiveOf 172 = .ok (.iload 5, 2) := by decide +kernel
theorem d_Mo_archiveOf_174 : decode b_Mo_archiveOf 174 = .ok (.aload_n 0, 1) := by decide +kernel
theorem d_Mo_archiveOf_175 : decode b_Mo_archiveOf 175 = .ok (.getfield 59, 3) := by decide +kernel
theorem d_Mo_archiveOf_178 : decode b_Mo_archiveOf 178 = .ok (.iload_n 3, 1) := by decide +kernel
theorem d_Mo_archiveOf_179 : decode b_Mo_archiveOf 179 = .ok (.iaload, 1) := by decide +kernel
theorem d_Mo_archiveOf_180 : decode b_Mo_archiveOf 180 = .ok (.if_icmp .ge 48, 3) := by decide +kernel
theorem d_Mo_archiveOf_183 : decode b_Mo_archiveOf 183 = .ok (.aload_n 0, 1) := by decide +kernel
theorem d_Mo_archiveOf_184 : decode b_Mo_archiveOf 184 = .ok (.getfield 75, 3) := by decide +kernel
theorem d_Mo_archiveOf_187 : decode b_Mo_archiveOf 187 = .ok (.aload_n 0, 1) := by decide +kernel
theorem d_Mo_archiveOf_188 : decode b_Mo_archiveOf 188 = .ok (.getfield 195, 3) := by decide +kernel
theorem d_Mo_archiveOf_191 : decode b_Mo_archiveOf 191 = .ok (.aload_n 0, 1) := by decide +kernel
theorem d_Mo_archiveOf_192 : decode b_Mo_archiveOf 192 = .ok (.getfield 69, 3) := by decide +kernel
theorem d_Mo_archiveOf_195 : decode b_Mo_archiveOf 195 = .ok (.sipush 20000, 3) := by decide +kernel
theorem d_Mo_archiveOf_198 : decode b_Mo_archiveOf 198 = .ok (.iload_n 1, 1) := by decide +kernel
theorem d_Mo_archiveOf_199 : decode b_Mo_archiveOf 199 = .ok (.imul, 1) := by decide +kernel
theorem d_Mo_archiveOf_200 : decode b_Mo_archiveOf 200 = .ok (.aload_n 0, 1) := by decide +kernel
theorem d_Mo_archiveOf_201 : decode b_Mo_archiveOf 201 = .ok (.getfield 56, 3) := by decide +kernel
theorem d_Mo_archiveOf_204 : decode b_Mo_archiveOf 204 = .ok (.iload_n 3, 1) := by decide +kernel
theorem d_Mo_archiveOf_205 : decode b_Mo_archiveOf 205 = .ok (.iaload, 1) := by decide +kernel
theorem d_Mo_archiveOf_206 : decode b_Mo_archiveOf 206 = .ok (.iadd, 1) := by decide +kernel
theorem d_Mo_archiveOf_207 : decode b_Mo_archiveOf 207 = .ok (.iload 5, 2) := by decide +kernel
theorem d_Mo_archiveOf_209 : decode b_Mo_archiveOf 209 = .ok (.iadd, 1) := by decide +kernel
theorem d_Mo_archiveOf_210 : decode b_Mo_archiveOf 210 = .ok (.baload, 1) := by decide +kernel
theorem d_Mo_archiveOf_211 : decode b_Mo_archiveOf 211 = .ok (.bastore, 1) := by decide +kernel
theorem d_Mo_archiveOf_212 : decode b_Mo_archiveOf 212 = .ok (.aload_n 0, 1) := by decide +kernel
theorem d_Mo_archiveOf_213 : decode b_Mo_archiveOf 213 = .ok (.dup, 1) := by decide +kernel
theorem d_Mo_archiveOf_214 : decode b_Mo_archiveOf 214 = .ok (.getfield 195, 3) := by decide +kernel
theorem d_Mo_archiveOf_217 : decode b_Mo_archiveOf 217 = .ok (.iconst 1, 1) := by decide +kernel
theorem d_Mo_archiveOf_218 : decode b_Mo_archiveOf 218 = .ok (.iadd, 1) := by decide +kernel
theorem d_Mo_archiveOf_219 : decode b_Mo_archiveOf 219 = .ok (.putfield 195, 3) := by decide +kernel
theorem d_Mo_archiveOf_222 : decode b_Mo_archiveOf 222 = .ok (.iinc 5 1, 3) := by decide +kernel
theorem d_Mo_archiveOf_225 : decode b_Mo_archiveOf 225 = .ok (.goto (-53), 3) := by decide +kernel
theorem d_Mo_archiveOf_228 : decode b_Mo_archiveOf 228 = .ok (.iinc 2 1, 3) := by decide +kernel
theorem d_Mo_archiveOf_231 : decode b_Mo_archiveOf 231 = .ok (.goto (-224), 3) := by decide +kernel
theorem d_Mo_archiveOf_234 : decode b_Mo_archiveOf 234 = .ok (.aload_n 0, 1) := by decide +kernel
theorem d_Mo_archiveOf_235 : decode b_Mo_archiveOf 235 = .ok (.iconst 0, 1) := by decide +kernel
theorem d_Mo_archiveOf_236 : decode b_Mo_archiveOf 236 = .ok (.iconst 0, 1) := by decide +kernel
theorem d_Mo_archiveOf_237 : decode b_Mo_archiveOf 237 = .ok (.iconst 0, 1) := by decide +kernel
theorem d_Mo_archiveOf_238 : decode b_Mo_archiveOf 238 = .ok (.iconst 0, 1) := by decide +kernel
theorem d_Mo_archiveOf_239 : decode b_Mo_archiveOf 239 = .ok (.iconst 1, 1) := by decide +kernel
theorem d_Mo_archiveOf_240 : decode b_Mo_archiveOf 240 = .ok (.iconst 0, 1) := by decide +kernel
theorem d_Mo_archiveOf_241 : decode b_Mo_archiveOf 241 = .ok (.bipush 10, 2) := by decide +kernel
theorem d_Mo_archiveOf_243 : decode b_Mo_archiveOf 243 = .ok (.iconst 0, 1) := by decide +kernel
theorem d_Mo_archiveOf_244 : decode b_Mo_archiveOf 244 = .ok (.invokevirtual 214, 3) := by decide +kernel
theorem d_Mo_archiveOf_247 : decode b_Mo_archiveOf 247 = .ok (.iconst 0, 1) := by decide +kernel
theorem d_Mo_archiveOf_248 : decode b_Mo_archiveOf 248 = .ok (.istore_n 2, 1) := by decide +kernel
theorem d_Mo_archiveOf_249 : decode b_Mo_archiveOf 249 = .ok (.iload_n 2, 1) := by decide +kernel
theorem d_Mo_archiveOf_250 : decode b_Mo_archiveOf 250 = .ok (.bipush 10, 2) := by decide +kernel
theorem d_Mo_archiveOf_252 : decode b_Mo_archiveOf 252 = .ok (.if_icmp .ge 34, 3) := by decide +kernel
theorem d_Mo_archiveOf_255 : decode b_Mo_archiveOf 255 = .ok (.aload_n 0, 1) := by decide +kernel
theorem d_Mo_archiveOf_256 : decode b_Mo_archiveOf 256 = .ok (.getfield 75, 3) := by decide +kernel
theorem d_Mo_archiveOf_259 : decode b_Mo_archiveOf 259 = .ok (.aload_n 0, 1) := by decide +kernel
theorem d_Mo_archiveOf_260 : decode b_Mo_archiveOf 260 = .ok (.getfield 195, 3) := by decide +kernel
theorem d_Mo_archiveOf_263 : decode b_Mo_archiveOf 263 = .ok (.aload_n 0, 1) := by decide +kernel
theorem d_Mo_archiveOf_264 : decode b_Mo_archiveOf 264 = .ok (.getfield 7, 3) := by decide +kernel
theorem d_Mo_archiveOf_267 : decode b_Mo_archiveOf 267 = .ok (.iload_n 2, 1) := by decide +kernel
theorem d_Mo_archiveOf_268 : decode b_Mo_archiveOf 268 = .ok (.baload, 1) := by decide +kernel
theorem d_Mo_archiveOf_269 : decode b_Mo_archiveOf 269 = .ok (.bastore, 1) := by decide +kernel
theorem d_Mo_archiveOf_270 : decode b_Mo_archiveOf 270 = .ok (.aload_n 0, 1) := by decide +kernel
theorem d_Mo_archiveOf_271 : decode b_Mo_archiveOf 271 = .ok (.dup, 1) := by decide +kernel
theorem d_Mo_archiveOf_272 : decode b_Mo_archiveOf 272 = .ok (.getfield 195, 3) := by decide +kernel
theorem d_Mo_archiveOf_275 : decode b_Mo_archiveOf 275 = .ok (.iconst 1, 1) := by decide +kernel
theorem d_Mo_archiveOf_276 : decode b_Mo_archiveOf 276 = .ok (.iadd, 1) := by decide +kernel
theorem d_Mo_archiveOf_277 : decode b_Mo_archiveOf 277 = .ok (.putfield 195, 3) := by decide +kernel
theorem d_Mo_archiveOf_280 : decode b_Mo_archiveOf 280 = .ok (.iinc 2 1, 3) := by decide +kernel
theorem d_Mo_archiveOf_283 : decode b_Mo_archiveOf 283 = .ok (.goto (-34), 3) := by decide +kernel
theorem d_Mo_archiveOf_286 : decode b_Mo_archiveOf 286 = .ok (.aload_n 0, 1) := by decide +kernel
theorem d_Mo_archiveOf_287 : decode b_Mo_archiveOf 287 = .ok (.invokevirtual 218, 3) := by decide +kernel
theorem d_Mo_archiveOf_290 : decode b_Mo_archiveOf 290 = .ok (.return_, 1) := by decide +kernel
theorem d_Mo_isLarge_0 : decode b_Mo_isLarge 0 = .ok (.iconst 0, 1) := by decide +kernel
theorem d_Mo_isLarge_1 : decode b_Mo_isLarge 1 = .ok (.istore_n 2, 1) := by decide +kernel
theorem d_Mo_isLarge_2 : decode b_Mo_isLarge 2 = .ok (.iconst 0, 1) := by decide +kernel
theorem d_Mo_isLarge_3 : decode b_Mo_isLarge 3 = .ok (.istore_n 3, 1) := by decide +kernel
theorem d_Mo_isLarge_4 : decode b_Mo_isLarge 4 = .ok (.iload_n 3, 1) := by decide +kernel
theorem d_Mo_isLarge_5 : decode b_Mo_isLarge 5 = .ok (.aload_n 0, 1) := by decide +kernel
theorem d_Mo_isLarge_6 : decode b_Mo_isLarge 6 = .ok (.getfield 31, 3) := by decide +kernel
theorem d_Mo_isLarge_9 : decode b_Mo_isLarge 9 = .ok (.iload_n 1, 1) := by decide +kernel
theorem d_Mo_isLarge_10 : decode b_Mo_isLarge 10 = .ok (.iaload, 1) := by decide +kernel
theorem d_Mo_isLarge_11 : decode b_Mo_isLarge 11 = .ok (.if_icmp .ge 49, 3) := by decide +kernel
theorem d_Mo_isLarge_14 : decode b_Mo_isLarge 14 = .ok (.iload_n 2, 1) := by decide +kernel
theorem d_Mo_isLarge_15 : decode b_Mo_isLarge 15 = .ok (.ifCond .ne 33, 3) := by decide +kernel
theorem d_Mo_isLarge_18 : decode b_Mo_isLarge 18 = .ok (.aload_n 0, 1) := by decide +kernel
theorem d_Mo_isLarge_19 : decode b_Mo_isLarge 19 = .ok (.getfield 47, 3) := by decide +kernel
theorem d_Mo_isLarge_22 : decode b_Mo_isLarge 22 = .ok (.iload_n 1, 1) := by decide +kernel
theorem d_Mo_isLarge_23 : decode b_Mo_isLarge 23 = .ok (.iload_n 3, 1) := by decide +kernel
theorem d_Mo_isLarge_24 : decode b_Mo_isLarge 24 = .ok (.invokestatic 138, 3) := by decide +kernel
theorem d_Mo_isLarge_27 : decode b_Mo_isLarge 27 = .ok (.iaload, 1) := by decide +kernel
theorem d_Mo_isLarge_28 : decode b_Mo_isLarge 28 = .ok (.ldc 221, 2) := by decide +kernel
theorem d_Mo_isLarge_30 : decode b_Mo_isLarge 30 = .ok (.if_icmp .gt 18, 3) := by decide +kernel
theorem d_Mo_isLarge_33 : decode b_Mo_isLarge 33 = .ok (.aload_n 0, 1) := by decide +kernel
theorem d_Mo_isLarge_34 : decode b_Mo_isLarge 34 = .ok (.getfield 50, 3) := by decide +kernel
theorem d_Mo_isLarge_37 : decode b_Mo_isLarge 37 = .ok (.iload_n 1, 1) := by decide +kernel
theorem d_Mo_isLarge_38 : decode b_Mo_isLarge 38 = .ok (.iload_n 3, 1) := by decide +kernel
theorem d_Mo_isLarge_39 : decode b_Mo_isLarge 39 = .ok (.invokestatic 138, 3) := by decide +kernel
theorem d_Mo_isLarge_42 : decode b_Mo_isLarge 42 = .ok (.iaload, 1) := by decide +kernel
theorem d_Mo_isLarge_43 : decode b_Mo_isLarge 43 = .ok (.ldc 221, 2) := by decide +kernel
theorem d_Mo_isLarge_45 : decode b_Mo_isLarge 45 = .ok (.if_icmp .le 7, 3) := by decide +kernel
theorem d_Mo_isLarge_48 : decode b_Mo_isLarge 48 = .ok (.iconst 1, 1) := by decide +kernel
theorem d_Mo_isLarge_49 : decode b_Mo_isLarge 49 = .ok (.goto 4, 3) := by decide +kernel
theorem d_Mo_isLarge_52 : decode b_Mo_isLarge 52 = .ok (.iconst 0, 1) := by decide +kernel
theorem d_Mo_isLarge_53 : decode b_Mo_isLarge 53 = .ok (.istore_n 2, 1) := by decide +kernel
theorem d_Mo_isLarge_54 : decode b_Mo_isLarge 54 = .ok (.iinc 3 1, 3) := by decide +kernel
theorem d_Mo_isLarge_57 : decode b_Mo_isLarge 57 = .ok (.goto (-53), 3) := by decide +kernel
theorem d_Mo_isLarge_60 : decode b_Mo_isLarge 60 = .ok (.iload_n 2, 1) := by decide +kernel
theorem d_Mo_isLarge_61 : decode b_Mo_isLarge 61 = .ok (.ireturn, 1) := by decide +kernel
theorem d_Mo_clearTable_0 : decode b_Mo_clearTable 0 = .ok (.aload_n 0, 1) := by decide +kernel
theorem d_Mo_clearTable_1 : decode b_Mo_clearTable 1 = .ok (.sipush 257, 3) := by decide +kernel
theorem d_Mo_clearTable_4 : decode b_Mo_clearTable 4 = .ok (.putfield 222, 3) := by decide +kernel
theorem d_Mo_clearTable_7 : decode b_Mo_clearTable 7 = .ok (.iconst 0, 1) := by decide +kernel
theorem d_Mo_clearTable_8 : decode b_Mo_clearTable 8 = .ok (.istore_n 1, 1) := by decide +kernel
theorem d_Mo_clearTable_9 : decode b_Mo_clearTable 9 = .ok (.iload_n 1, 1) := by decide +kernel
theorem d_Mo_clearTable_10 : decode b_Mo_clearTable 10 = .ok (.ldc 225, 2) := by decide +kernel
theorem d_Mo_clearTable_12 : decode b_Mo_clearTable 12 = .ok (.if_icmp .gt 16, 3) := by decide +kernel
theorem d_Mo_clearTable_15 : decode b_Mo_clearTable 15 = .ok (.aload_n 0, 1) := by decide +kernel
theorem d_Mo_clearTable_16 : decode b_Mo_clearTable 16 = .ok (.getfield 113, 3) := by decide +kernel
theorem d_Mo_clearTable_19 : decode b_Mo_clearTable 19 = .ok (.iload_n 1, 1) := by decide +kernel
theorem d_Mo_clearTable_20 : decode b_Mo_clearTable 20 = .ok (.iconst 0, 1) := by decide +kernel
theorem d_Mo_clearTable_21 : decode b_Mo_clearTable 21 = .ok (.iastore, 1) := by decide +kernel
theorem d_Mo_clearTable_22 : decode b_Mo_clearTable 22 = .ok (.iinc 1 1, 3) := by decide +kernel
theorem d_Mo_clearTable_25 : decode b_Mo_clearTable 25 = .ok (.goto (-16), 3) := by decide +kernel
theorem d_Mo_clearTable_28 : decode b_Mo_clearTable 28 = .ok (.return_, 1) := by decide +kernel
theorem d_Mo_putBits_0 : decode b_Mo_putBits 0 = .ok (.iconst 0, 1) := by decide +kernel
theorem d_Mo_putBits_1 : decode b_Mo_putBits 1 = .ok (.istore_n 3, 1) := by decide +kernel
theorem d_Mo_putBits_2 : decode b_Mo_putBits 2 = .ok (.iload_n 3, 1) := by decide +kernel
theorem d_Mo_putBits_3 : decode b_Mo_putBits 3 = .ok (.iload_n 2, 1) := by decide +kernel
theorem d_Mo_putBits_4 : decode b_Mo_putBits 4 = .ok (.if_icmp .ge 81, 3) := by decide +kernel
theorem d_Mo_putBits_7 : decode b_Mo_putBits 7 = .ok (.aload_n 0, 1) := by decide +kernel
theorem d_Mo_putBits_8 : decode b_Mo_putBits 8 = .ok (.aload_n 0, 1) := by decide +kernel
theorem d_Mo_putBits_9 : decode b_Mo_putBits 9 = .ok (.getfield 226, 3) := by decide +kernel
theorem d_Mo_putBits_12 : decode b_Mo_putBits 12 = .ok (.iload_n 1, 1) := by decide +kernel
theorem d_Mo_putBits_13 : decode b_Mo_putBits 13 = .ok (.iload_n 3, 1) := by decide +kernel
theorem d_Mo_putBits_14 : decode b_Mo_putBits 14 = .ok (.ishr, 1) := by decide +kernel
theorem d_Mo_putBits_15 : decode b_Mo_putBits 15 = .ok (.iconst 1, 1) := by decide +kernel
theorem d_Mo_putBits_16 : decode b_Mo_putBits 16 = .ok (.iand, 1) := by decide +kernel
theorem d_Mo_putBits_17 : decode b_Mo_putBits 17 = .ok (.aload_n 0, 1) := by decide +kernel
theorem d_Mo_putBits_18 : decode b_Mo_putBits 18 = .ok (.getfield 229, 3) := by decide +kernel
theorem d_Mo_putBits_21 : decode b_Mo_putBits 21 = .ok (.ishl, 1) := by decide +kernel
theorem d_Mo_putBits_22 : decode b_Mo_putBits 22 = .ok (.ior, 1) := by decide +kernel
theorem d_Mo_putBits_23 : decode b_Mo_putBits 23 = .ok (.putfield 226, 3) := by decide +kernel
theorem d_Mo_putBits_26 : decode b_Mo_putBits 26 = .ok (.aload_n 0, 1) := by decide +kernel
theorem d_Mo_putBits_27 : decode b_Mo_putBits 27 = .ok (.dup, 1) := by decide +kernel
theorem d_Mo_putBits_28 : decode b_Mo_putBits 28 = .ok (.getfield 229, 3) := by decide +kernel
theorem d_Mo_putBits_31 : decode b_Mo_putBits 31 = .ok (.iconst 1, 1) := by decide +kernel
theorem d_Mo_putBits_32 : decode b_Mo_putBits 32 = .ok (.iadd, 1) := by decide +kernel
theorem d_Mo_putBits_33 : decode b_Mo_putBits 33 = .ok (.putfield 229, 3) := by decide +kernel
theorem d_Mo_putBits_36 : decode b_Mo_putBits 36 = .ok (.aload_n 0, 1) := by decide +kernel
theorem d_Mo_putBits_37 : decode b_Mo_putBits 37 = .ok (.getfield 229, 3) := by decide +kernel
theorem d_Mo_putBits_40 : decode b_Mo_putBits 40 = .ok (.bipush 8, 2) := by decide +kernel
theorem d_Mo_putBits_42 : decode b_Mo_putBits 42 = .ok (.if_icmp .ne 37, 3) := by decide +kernel
theorem d_Mo_putBits_45 : decode b_Mo_putBits 45 = .ok (.aload_n 0, 1) := by decide +kernel
theorem d_Mo_putBits_46 : decode b_Mo_putBits 46 = .ok (.getfield 79, 3) := by decide +kernel
theorem d_Mo_putBits_49 : decode b_Mo_putBits 49 = .ok (.aload_n 0, 1) := by decide +kernel
theorem d_Mo_putBits_50 : decode b_Mo_putBits 50 = .ok (.getfield 232, 3) := by decide +kernel
theorem d_Mo_putBits_53 : decode b_Mo_putBits 53 = .ok (.aload_n 0, 1) := by decide +kernel
theorem d_Mo_putBits_54 : decode b_Mo_putBits 54 = .ok (.getfield 226, 3) := by decide +kernel
theorem d_Mo_putBits_57 : decode b_Mo_putBits 57 = .ok (.i2b, 1) := by decide +kernel
theorem d_Mo_putBits_58 : decode b_Mo_putBits 58 = .ok (.bastore, 1) := by decide +kernel
theorem d_Mo_putBits_59 : decode b_Mo_putBits 59 = .ok (.aload_n 0, 1) := by decide +kernel
theorem d_Mo_putBits_60 : decode b_Mo_putBits 60 = .ok (.dup, 1) := by decide +kernel
theorem d_Mo_putBits_61 : decode b_Mo_putBits 61 = .ok (.getfield 232, 3) := by decide +kernel
theorem d_Mo_putBits_64 : decode b_Mo_putBits 64 = .ok (.iconst 1, 1) := by decide +kernel
theorem d_Mo_putBits_65 : decode b_Mo_putBits 65 = .ok (.iadd, 1) := by decide +kernel
theorem d_Mo_putBits_66 : decode b_Mo_putBits 66 = .ok (.putfield 232, 3) := by decide +kernel
theorem d_Mo_putBits_69 : decode b_Mo_putBits 69 = .ok (.aload_n 0, 1) := by decide +kernel
theorem d_Mo_putBits_70 : decode b_Mo_putBits 70 = .ok (.iconst 0, 1) := by decide +kernel
theorem d_Mo_putBits_71 : decode b_Mo_putBits 71 = .ok (.putfield 226, 3) := by decide +kernel
theorem d_Mo_putBits_74 : decode b_Mo_putBits 74 = .ok (.aload_n 0, 1) := by decide +kernel
theorem d_Mo_putBits_75 : decode b_Mo_putBits 75 = .ok (.iconst 0, 1) := by decide +kernel
theorem d_Mo_putBits_76 : decode b_Mo_putBits 76 = .ok (.putfield 229, 3) := by decide +kernel
theorem d_Mo_putBits_79 : decode b_Mo_putBits 79 = .ok (.iinc 3 1, 3) := by decide +kernel
theorem d_Mo_putBits_82 : decode b_Mo_putBits 82 = .ok (.goto (-80), 3) := by decide +kernel
theorem d_Mo_putBits_85 : decode b_Mo_putBits 85 = .ok (.return_, 1) := by decide +kernel
theorem d_Mo_fill_0 : decode b_Mo_fill 0 = .ok (.aload_n 0, 1) := by decide +kernel
theorem d_Mo_fill_1 : decode b_Mo_fill 1 = .ok (.getfield 235, 3) := by decide +kernel
theorem d_Mo_fill_4 : decode b_Mo_fill 4 = .ok (.bipush 8, 2) := by decide +kernel
theorem d_Mo_fill_6 : decode b_Mo_fill 6 = .ok (.irem, 1) := by decide +kernel
theorem d_Mo_fill_7 : decode b_Mo_fill 7 = .ok (.ifCond .eq 25, 3) := by decide +kernel
theorem d_Mo_fill_10 : decode b_Mo_fill 10 = .ok (.aload_n 0, 1) := by decide +kernel
theorem d_Mo_fill_11 : decode b_Mo_fill 11 = .ok (.iconst 0, 1) := by decide +kernel
theorem d_Mo_fill_12 : decode b_Mo_fill 12 = .ok (.aload_n 0, 1) := by decide +kernel
theorem d_Mo_fill_13 : decode b_Mo_fill 13 = .ok (.getfield 238, 3) := by decide +kernel
theorem d_Mo_fill_16 : decode b_Mo_fill 16 = .ok (.invokevirtual 241, 3) := by decide +kernel
theorem d_Mo_fill_19 : decode b_Mo_fill 19 = .ok (.aload_n 0, 1) := by decide +kernel
theorem d_Mo_fill_20 : decode b_Mo_fill 20 = .ok (.dup, 1) := by decide +kernel
theorem d_Mo_fill_21 : decode b_Mo_fill 21 = .ok (.getfield 235, 3) := by decide +kernel
theorem d_Mo_fill_24 : decode b_Mo_fill 24 = .ok (.iconst 1, 1) := by decide +kernel
theorem d_Mo_fill_25 : decode b_Mo_fill 25 = .ok (.iadd, 1) := by decide +kernel
theorem d_Mo_fill_26 : decode b_Mo_fill 26 = .ok (.putfield 235, 3) := by decide +kernel
theorem d_Mo_fill_29 : decode b_Mo_fill 29 = .ok (.goto (-29), 3) := by decide +kernel
theorem d_Mo_fill_32 : decode b_Mo_fill 32 = .ok (.aload_n 0, 1) := by decide +kernel
theorem d_Mo_fill_33 : decode b_Mo_fill 33 = .ok (.iconst 0, 1) := by decide +kernel
theorem d_Mo_fill_34 : decode b_Mo_fill 34 = .ok (.putfield 235, 3) := by decide +kernel
theorem d_Mo_fill_37 : decode b_Mo_fill 37 = .ok (.return_, 1) := by decide +kernel
theorem d_Mo_putCode_0 : decode b_Mo_putCode 0 = .ok (.aload_n 0, 1) := by decide +kernel
theorem d_Mo_putCode_1 : decode b_Mo_putCode 1 = .ok (.getfield 222, 3) := by decide +kernel
theorem d_Mo_putCode_4 : decode b_Mo_putCode 4 = .ok (.iconst 1, 1) := by decide +kernel
theorem d_Mo_putCode_5 : decode b_Mo_putCode 5 = .ok (.aload_n 0, 1) := by decide +kernel
theorem d_Mo_putCode_6 : decode b_Mo_putCode 6 = .ok (.getfield 238, 3) := by decide +kernel
theorem d_Mo_putCode_9 : decode b_Mo_putCode 9 = .ok (.ishl, 1) := by decide +kernel
theorem d_Mo_putCode_10 : decode b_Mo_putCode 10 = .ok (.if_icmp .le 28, 3) := by decide +kernel
theorem d_Mo_putCode_13 : decode b_Mo_putCode 13 = .ok (.aload_n 0, 1) := by decide +kernel
theorem d_Mo_putCode_14 : decode b_Mo_putCode 14 = .ok (.getfield 238, 3) := by decide +kernel
theorem d_Mo_putCode_17 : decode b_Mo_putCode 17 = .ok (.iload_n 2, 1) := by decide +kernel
theorem d_Mo_putCode_18 : decode b_Mo_putCode 18 = .ok (.if_icmp .ge 20, 3) := by decide +kernel
theorem d_Mo_putCode_21 : decode b_Mo_putCode 21 = .ok (.aload_n 0, 1) := by decide +kernel
theorem d_Mo_putCode_22 : decode b_Mo_putCode 22 = .ok (.invokevirtual 244, 3) := by decide +kernel
theorem d_Mo_putCode_25 : decode b_Mo_putCode 25 = .ok (.aload_n 0, 1) := by decide +kernel
theorem d_Mo_putCode_26 : decode b_Mo_putCode 26 = .ok (.dup, 1) := by decide +kernel
theorem d_Mo_putCode_27 : decode b_Mo_putCode 27 = .ok (.getfield 238, 3) := by decide +kernel
theorem d_Mo_putCode_30 : decode b_Mo_putCode 30 = .ok (.iconst 1, 1) := by decide +kernel
theorem d_Mo_putCode_31 : decode b_Mo_putCode 31 = .ok (.iadd, 1) := by decide +kernel
theorem d_Mo_putCode_32 : decode b_Mo_putCode 32 = .ok (.putfield 238, 3) := by decide +kernel
theorem d_Mo_putCode_35 : decode b_Mo_putCode 35 = .ok (.goto (-35), 3) := by decide +kernel
theorem d_Mo_putCode_38 : decode b_Mo_putCode 38 = .ok (.aload_n 0, 1) := by decide +kernel
theorem d_Mo_putCode_39 : decode b_Mo_putCode 39 = .ok (.iload_n 1, 1) := by decide +kernel
theorem d_Mo_putCode_40 : decode b_Mo_putCode 40 = .ok (.aload_n 0, 1) := by decide +kernel
theorem d_Mo_putCode_41 : decode b_Mo_putCode 41 = .ok (.getfield 238, 3) := by decide +kernel
theorem d_Mo_putCode_44 : decode b_Mo_putCode 44 = .ok (.invokevirtual 241, 3) := by decide +kernel
theorem d_Mo_putCode_47 : decode b_Mo_putCode 47 = .ok (.aload_n 0, 1) := by decide +kernel
theorem d_Mo_putCode_48 : decode b_Mo_putCode 48 = .ok (.dup, 1) := by decide +kernel
theorem d_Mo_putCode_49 : decode b_Mo_putCode 49 = .ok (.getfield 235, 3) := by decide +kernel
theorem d_Mo_putCode_52 : decode b_Mo_putCode 52 = .ok (.iconst 1, 1) := by decide +kernel
theorem d_Mo_putCode_53 : decode b_Mo_putCode 53 = .ok (.iadd, 1) := by decide +kernel
theorem d_Mo_putCode_54 : decode b_Mo_putCode 54 = .ok (.putfield 235, 3) := by decide +kernel
theorem d_Mo_putCode_57 : decode b_Mo_putCode 57 = .ok (.return_, 1) := by decide +kernel
theorem d_Mo_goOn_0 : decode b_Mo_goOn 0 = .ok (.aload_n 0, 1) := by decide +kernel
theorem d_Mo_goOn_1 : decode b_Mo_goOn 1 = .ok (.getfield 113, 3) := by decide +kernel
theorem d_Mo_goOn_4 : decode b_Mo_goOn 4 = .ok (.iload_n 1, 1) := by decide +kernel
theorem d_Mo_goOn_5 : decode b_Mo_goOn 5 = .ok (.iaload, 1) := by decide +kernel
theorem d_Mo_goOn_6 : decode b_Mo_goOn 6 = .ok (.istore_n 3, 1) := by decide +kernel
theorem d_Mo_goOn_7 : decode b_Mo_goOn 7 = .ok (.iload_n 3, 1) := by decide +kernel
theorem d_Mo_goOn_8 : decode b_Mo_goOn 8 = .ok (.ifCond .le 23, 3) := by decide +kernel
theorem d_Mo_goOn_11 : decode b_Mo_goOn 11 = .ok (.aload_n 0, 1) := by decide +kernel
theorem d_Mo_goOn_12 : decode b_Mo_goOn 12 = .ok (.getfield 119, 3) := by decide +kernel
theorem d_Mo_goOn_15 : decode b_Mo_goOn 15 = .ok (.iload_n 3, 1) := by decide +kernel
theorem d_Mo_goOn_16 : decode b_Mo_goOn 16 = .ok (.iaload, 1) := by decide +kernel
theorem d_Mo_goOn_17 : decode b_Mo_goOn 17 = .ok (.iload_n 2, 1) := by decide +kernel
theorem d_Mo_goOn_18 : decode b_Mo_goOn 18 = .ok (.if_icmp .eq 13, 3) := by decide +kernel
theorem d_Mo_goOn_21 : decode b_Mo_goOn 21 = .ok (.aload_n 0, 1) := by decide +kernel
theorem d_Mo_goOn_22 : decode b_Mo_goOn 22 = .ok (.getfield 116, 3) := by decide +kernel
theorem d_Mo_goOn_25 : decode b_Mo_goOn 25 = .ok (.iload_n 3, 1) := by decide +kernel
theorem d_Mo_goOn_26 : decode b_Mo_goOn 26 = .ok (.iaload, 1) := by decide +kernel
theorem d_Mo_goOn_27 : decode b_Mo_goOn 27 = .ok (.istore_n 3, 1) := by decide +kernel
theorem d_Mo_goOn_28 : decode b_Mo_goOn 28 = .ok (.goto (-21), 3) := by decide +kernel
theorem d_Mo_goOn_31 : decode b_Mo_goOn 31 = .ok (.iload_n 3, 1) := by decide +kernel
theorem d_Mo_goOn_32 : decode b_Mo_goOn 32 = .ok (.ireturn, 1) := by decide +kernel
theorem d_Mo_compressRow_0 : decode b_Mo_compressRow 0 = .ok (.aload_n 0, 1) := by decide +kernel
theorem d_Mo_compressRow_1 : decode b_Mo_compressRow 1 = .ok (.iconst 0, 1) := by decide +kernel
theorem d_Mo_compressRow_2 : decode b_Mo_compressRow 2 = .ok (.putfield 232, 3) := by decide +kernel
theorem d_Mo_compressRow_5 : decode b_Mo_compressRow 5 = .ok (.aload_n 0, 1) := by decide +kernel
theorem d_Mo_compressRow_6 : decode b_Mo_compressRow 6 = .ok (.getfield 79, 3) := by decide +kernel
theorem d_Mo_compressRow_9 : decode b_Mo_compressRow 9 = .ok (.iconst 0, 1) := by decide +kernel
theorem d_Mo_compressRow_10 : decode b_Mo_compressRow 10 = .ok (.bipush 31, 2) := by decide +kernel
theorem d_Mo_compressRow_12 : decode b_Mo_compressRow 12 = .ok (.bastore, 1) := by decide +kernel
theorem d_Mo_compressRow_13 : decode b_Mo_compressRow 13 = .ok (.aload_n 0, 1) := by decide +kernel
theorem d_Mo_compressRow_14 : decode b_Mo_compressRow 14 = .ok (.getfield 79, 3) := by decide +kernel
theorem d_Mo_compressRow_17 : decode b_Mo_compressRow 17 = .ok (.iconst 1, 1) := by decide +kernel
theorem d_Mo_compressRow_18 : decode b_Mo_compressRow 18 = .ok (.bipush (-99), 2) := by decide +kernel
theorem d_Mo_compressRow_20 : decode b_Mo_compressRow 20 = .ok (.bastore, 1) := by decide +kernel
theorem d_Mo_compressRow_21 : decode b_Mo_compressRow 21 = .ok (.aload_n 0, 1) := by decide +kernel
theorem d_Mo_compressRow_22 : decode b_Mo_compressRow 22 = .ok (.getfield 79, 3) := by decide +kernel
theorem d_Mo_compressRow_25 : decode b_Mo_compressRow 25 = .ok (.iconst 2, 1) := by decide +kernel
theorem d_Mo_compressRow_26 : decode b_Mo_compressRow 26 = .ok (.sipush 128, 3) := by decide +kernel
theorem d_Mo_compressRow_29 : decode b_Mo_compressRow 29 = .ok (.iload_n 3, 1) := by decide +kernel
theorem d_Mo_compressRow_30 : decode b_Mo_compressRow 30 = .ok (.iadd, 1) := by decide +kernel
theorem d_Mo_compressRow_31 : decode b_Mo_compressRow 31 = .ok (.i2b, 1) := by decide +kernel
theorem d_Mo_compressRow_32 : decode b_Mo_compressRow 32 = .ok (.bastore, 1) := by decide +kernel
theorem d_Mo_compressRow_33 : decode b_Mo_compressRow 33 = .ok (.aload_n 0, 1) := by decide +kernel
theorem d_Mo_compressRow_34 : decode b_Mo_compressRow 34 = .ok (.iconst 3, 1) := by decide +kernel
theorem d_Mo_compressRow_35 : decode b_Mo_compressRow 35 = .ok (.putfield 232, 3) := by decide +kernel
theorem d_Mo_compressRow_38 : decode b_Mo_compressRow 38 = .ok (.aload_n 0, 1) := by decide +kernel
theorem d_Mo_compressRow_39 : decode b_Mo_compressRow 39 = .ok (.iconst 0, 1) := by decide +kernel
theorem d_Mo_compressRow_40 : decode b_Mo_compressRow 40 = .ok (.putfield 226, 3) := by decide +kernel
theorem d_Mo_compressRow_43 : decode b_Mo_compressRow 43 = .ok (.aload_n 0, 1) := by decide +kernel
theorem d_Mo_compressRow_44 : decode b_Mo_compressRow 44 = .ok (.iconst 0, 1) := by decide +kernel
theorem d_Mo_compressRow_45 : decode b_Mo_compressRow 45 = .ok (.putfield 229, 3) := by decide +kernel
theorem d_Mo_compressRow_48 : decode b_Mo_compressRow 48 = .ok (.aload_n 0, 1) := by decide +kernel
theorem d_Mo_compressRow_49 : decode b_Mo_compressRow 49 = .ok (.iconst 0, 1) := by decide +kernel
theorem d_Mo_compressRow_50 : decode b_Mo_compressRow 50 = .ok (.putfield 235, 3) := by decide +kernel
theorem d_Mo_compressRow_53 : decode b_Mo_compressRow 53 = .ok (.aload_n 0, 1) := by decide +kernel
theorem d_Mo_compressRow_54 : decode b_Mo_compressRow 54 = .ok (.bipush 9, 2) := by decide +kernel
theorem d_Mo_compressRow_56 : decode b_Mo_compressRow 56 = .ok (.putfield 238, 3) := by decide +kernel
theorem d_Mo_compressRow_59 : decode b_Mo_compressRow 59 = .ok (.aload_n 0, 1) := by decide +kernel
theorem d_Mo_compressRow_60 : decode b_Mo_compressRow 60 = .ok (.invokevirtual 247, 3) := by decide +kernel
theorem d_Mo_compressRow_63 : decode b_Mo_compressRow 63 = .ok (.iconst 0, 1) := by decide +kernel
theorem d_Mo_compressRow_64 : decode b_Mo_compressRow 64 = .ok (.istore 4, 2) := by decide +kernel
theorem d_Mo_compressRow_66 : decode b_Mo_compressRow 66 = .ok (.iload 4, 2) := by decide +kernel
theorem d_Mo_compressRow_68 : decode b_Mo_compressRow 68 = .ok (.iload_n 2, 1) := by decide +kernel
theorem d_Mo_compressRow_69 : decode b_Mo_compressRow 69 = .ok (.if_icmp .ge 194, 3) := by decide +kernel
theorem d_Mo_compressRow_72 : decode b_Mo_compressRow 72 = .ok (.aload_n 1, 1) := by decide +kernel
theorem d_Mo_compressRow_73 : decode b_Mo_compressRow 73 = .ok (.iload 4, 2) := by decide +kernel
theorem d_Mo_compressRow_75 : decode b_Mo_compressRow 75 = .ok (.baload, 1) := by decide +kernel
theorem d_Mo_compressRow_76 : decode b_Mo_compressRow 76 = .ok (.sipush 255, 3) := by decide +kernel
theorem d_Mo_compressRow_79 : decode b_Mo_compressRow 79 = .ok (.iand, 1) := by decide +kernel
theorem d_Mo_compressRow_80 : decode b_Mo_compressRow 80 = .ok (.istore 5, 2) := by decide +kernel
theorem d_Mo_compressRow_82 : decode b_Mo_compressRow 82 = .ok (.iinc 4 1, 3) := by decide +kernel
theorem d_Mo_compressRow_85 : decode b_Mo_compressRow 85 = .ok (.iload 4, 2) := by decide +kernel
theorem d_Mo_compressRow_87 : decode b_Mo_compressRow 87 = .ok (.iload_n 2, 1) := by decide +kernel
theorem d_Mo_compressRow_88 : decode b_Mo_compressRow 88 = .ok (.if_icmp .ge 20, 3) := by decide +kernel
theorem d_Mo_compressRow_91 : decode b_Mo_compressRow 91 = .ok (.aload_n 0, 1) := by decide +kernel
theorem d_Mo_compressRow_92 : decode b_Mo_compressRow 92 = .ok (.iload 5, 2) := by decide +kernel
theorem d_Mo_compressRow_94 : decode b_Mo_compressRow 94 = .ok (.aload_n 1, 1) := by decide +kernel
theorem d_Mo_compressRow_95 : decode b_Mo_compressRow 95 = .ok (.iload 4, 2) := by decide +kernel
theorem d_Mo_compressRow_97 : decode b_Mo_compressRow 97 = .ok (.baload, 1) := by decide +kernel
theorem d_Mo_compressRow_98 : decode b_Mo_compressRow 98 = .ok (.sipush 255, 3) := by decide +kernel
theorem d_Mo_compressRow_101 : decode b_Mo_compressRow 101 = .ok (.iand, 1) := by decide +kernel
theorem d_Mo_compressRow_102 : decode b_Mo_compressRow 102 = .ok (.invokevirtual 250, 3) := by decide +kernel
theorem d_Mo_compressRow_105 : decode b_Mo_compressRow 105 = .ok (.goto 4, 3) := by decide +kernel
theorem d_Mo_compressRow_108 : decode b_Mo_compressRow 108 = .ok (.iconst 0, 1) := by decide +kernel
theorem d_Mo_compressRow_109 : decode b_Mo_compressRow 109 = .ok (.istore 6, 2) := by decide +kernel
theorem d_Mo_compressRow_111 : decode b_Mo_compressRow 111 = .ok (.iload 6, 2) := by decide +kernel
theorem d_Mo_compressRow_113 : decode b_Mo_compressRow 113 = .ok (.ifCond .le 39, 3) := by decide +kernel
theorem d_Mo_compressRow_116 : decode b_Mo_compressRow 116 = .ok (.iload 6, 2) := by decide +kernel
theorem d_Mo_compressRow_118 : decode b_Mo_compressRow 118 = .ok (.istore 5, 2) := by decide +kernel
theorem d_Mo_compressRow_120 : decode b_Mo_compressRow 120 = .ok (.iinc 4 1, 3) := by decide +kernel
theorem d_Mo_compressRow_123 : decode b_Mo_compressRow 123 = .ok (.iload 4, 2) := by decide +kernel
theorem d_Mo_compressRow_125 : decode b_Mo_compressRow 125 = .ok (.iload_n 2, 1) := by decide +kernel
theorem d_Mo_compressRow_126 : decode b_Mo_compressRow 126 = .ok (.if_icmp .ge 20, 3) := by decide +kernel
theorem d_Mo_compressRow_129 : decode b_Mo_compressRow 129 = .ok (.aload_n 0, 1) := by decide +kernel
theorem d_Mo_compressRow_130 : decode b_Mo_compressRow 130 = .ok (.iload 5, 2) := by decide +kernel
theorem d_Mo_compressRow_132 : decode b_Mo_compressRow 132 = .ok (.aload_n 1, 1) := by decide +kernel
theorem d_Mo_compressRow_133 : decode b_Mo_compressRow 133 = .ok (.iload 4, 2) := by decide +kernel
theorem d_Mo_compressRow_135 : decode b_Mo_compressRow 135 = .ok (.baload, 1) := by decide +kernel
theorem d_Mo_compressRow_136 : decode b_Mo_compressRow 136 = .ok (.sipush 255, 3) := by decide +kernel
theorem d_Mo_compressRow_139 : decode b_Mo_compressRow 139 = .ok (.iand, 1) := by decide +kernel
theorem d_Mo_compressRow_140 : decode b_Mo_compressRow 140 = .ok (.invokevirtual 250, 3) := by decide +kernel
theorem d_Mo_compressRow_143 : decode b_Mo_compressRow 143 = .ok (.goto 4, 3) := by decide +kernel
theorem d_Mo_compressRow_146 : decode b_Mo_compressRow 146 = .ok (.iconst 0, 1) := by decide +kernel
theorem d_Mo_compressRow_147 : decode b_Mo_compressRow 147 = .ok (.istore 6, 2) := by decide +kernel
theorem d_Mo_compressRow_149 : decode b_Mo_compressRow 149 = .ok (.goto (-38), 3) := by decide +kernel
theorem d_Mo_compressRow_152 : decode b_Mo_compressRow 152 = .ok (.aload_n 0, 1) := by decide +kernel
theorem d_Mo_compressRow_153 : decode b_Mo_compressRow 153 = .ok (.iload 5, 2) := by decide +kernel
theorem d_Mo_compressRow_155 : decode b_Mo_compressRow 155 = .ok (.iload_n 3, 1) := by decide +kernel
theorem d_Mo_compressRow_156 : decode b_Mo_compressRow 156 = .ok (.invokevirtual 253, 3) := by decide +kernel
theorem d_Mo_compressRow_159 : decode b_Mo_compressRow 159 = .ok (.iload 4, 2) := by decide +kernel
theorem d_Mo_compressRow_161 : decode b_Mo_compressRow 161 = .ok (.iload_n 2, 1) := by decide +kernel
theorem d_Mo_compressRow_162 : decode b_Mo_compressRow 162 = .ok (.if_icmp .ge 70, 3) := by decide +kernel
theorem d_Mo_compressRow_165 : decode b_Mo_compressRow 165 = .ok (.aload_n 0, 1) := by decide +kernel
theorem d_Mo_compressRow_166 : decode b_Mo_compressRow 166 = .ok (.getfield 222, 3) := by decide +kernel
theorem d_Mo_compressRow_169 : decode b_Mo_compressRow 169 = .ok (.iconst 1, 1) := by decide +kernel
theorem d_Mo_compressRow_170 : decode b_Mo_compressRow 170 = .ok (.iload_n 3, 1) := by decide +kernel
theorem d_Mo_compressRow_171 : decode b_Mo_compressRow 171 = .ok (.ishl, 1) := by decide +kernel
theorem d_Mo_compressRow_172 : decode b_Mo_compressRow 172 = .ok (.if_icmp .ge 60, 3) := by decide +kernel
theorem d_Mo_compressRow_175 : decode b_Mo_compressRow 175 = .ok (.aload_n 0, 1) := by decide +kernel
theorem d_Mo_compressRow_176 : decode b_Mo_compressRow 176 = .ok (.getfield 119, 3) := by decide +kernel
theorem d_Mo_compressRow_179 : decode b_Mo_compressRow 179 = .ok (.aload_n 0, 1) := by decide +kernel
theorem d_Mo_compressRow_180 : decode b_Mo_compressRow 180 = .ok (.getfield 222, 3) := by decide +kernel
theorem d_Mo_compressRow_183 : decode b_Mo_compressRow 183 = .ok (.aload_n 1, 1) := by decide +kernel
theorem d_Mo_compressRow_184 : decode b_Mo_compressRow 184 = .ok (.iload 4, 2) := by decide +kernel
theorem d_Mo_compressRow_186 : decode b_Mo_compressRow 186 = .ok (.baload, 1) := by decide +kernel
theorem d_Mo_compressRow_187 : decode b_Mo_compressRow 187 = .ok (.sipush 255, 3) := by decide +kernel
theorem d_Mo_compressRow_190 : decode b_Mo_compressRow 190 = .ok (.iand, 1) := by decide +kernel
theorem d_Mo_compressRow_191 : decode b_Mo_compressRow 191 = .ok (.iastore, 1) := by decide +kernel
theorem d_Mo_compressRow_192 : decode b_Mo_compressRow 192 = .ok (.aload_n 0, 1) := by decide +kernel
theorem d_Mo_compressRow_193 : decode b_Mo_compressRow 193 = .ok (.getfield 116, 3) := by decide +kernel
theorem d_Mo_compressRow_196 : decode b_Mo_compressRow 196 = .ok (.aload_n 0, 1) := by decide +kernel
theorem d_Mo_compressRow_197 : decode b_Mo_compressRow 197 = .ok (.getfield 222, 3) := by decide +kernel
theorem d_Mo_compressRow_200 : decode b_Mo_compressRow 200 = .ok (.aload_n 0, 1) := by decide +kernel
theorem d_Mo_compressRow_201 : decode b_Mo_compressRow 201 = .ok (.getfield 113, 3) := by decide +kernel
theorem d_Mo_compressRow_204 : decode b_Mo_compressRow 204 = .ok (.iload 5, 2) := by decide +kernel
theorem d_Mo_compressRow_206 : decode b_Mo_compressRow 206 = .ok (.iaload, 1) := by decide +kernel
theorem d_Mo_compressRow_207 : decode b_Mo_compressRow 207 = .ok (.iastore, 1) := by decide +kernel
theorem d_Mo_compressRow_208 : decode b_Mo_compressRow 208 = .ok (.aload_n 0, 1) := by decide +kernel
theorem d_Mo_compressRow_209 : decode b_Mo_compressRow 209 = .ok (.getfield 113, 3) := by decide +kernel
theorem d_Mo_compressRow_212 : decode b_Mo_compressRow 212 = .ok (.iload 5, 2) := by decide +kernel
theorem d_Mo_compressRow_214 : decode b_Mo_compressRow 214 = .ok (.aload_n 0, 1) := by decide +kernel
theorem d_Mo_compressRow_215 : decode b_Mo_compressRow 215 = .ok (.getfield 222, 3) := by decide +kernel
theorem d_Mo_compressRow_218 : decode b_Mo_compressRow 218 = .ok (.iastore, 1) := by decide +kernel
theorem d_Mo_compressRow_219 : decode b_Mo_compressRow 219 = .ok (.aload_n 0, 1) := by decide +kernel
theorem d_Mo_compressRow_220 : decode b_Mo_compressRow 220 = .ok (.dup, 1) := by decide +kernel
theorem d_Mo_compressRow_221 : decode b_Mo_compressRow 221 = .ok (.getfield 222, 3) := by decide +kernel
theorem d_Mo_compressRow_224 : decode b_Mo_compressRow 224 = .ok (.iconst 1, 1) := by decide +kernel
theorem d_Mo_compressRow_225 : decode b_Mo_compressRow 225 = .ok (.iadd, 1) := by decide +kernel
theorem d_Mo_compressRow_226 : decode b_Mo_compressRow 226 = .ok (.putfield 222, 3) := by decide +kernel
theorem d_Mo_compressRow_229 : decode b_Mo_compressRow 229 = .ok (.goto 31, 3) := by decide +kernel
theorem d_Mo_compressRow_232 : decode b_Mo_compressRow 232 = .ok (.iload 4, 2) := by decide +kernel
theorem d_Mo_compressRow_234 : decode b_Mo_compressRow 234 = .ok (.iload_n 2, 1) := by decide +kernel
theorem d_Mo_compressRow_235 : decode b_Mo_compressRow 235 = .ok (.if_icmp .ge 25, 3) := by decide +kernel
theorem d_Mo_compressRow_238 : decode b_Mo_compressRow 238 = .ok (.aload_n 0, 1) := by decide +kernel
theorem d_Mo_compressRow_239 : decode b_Mo_compressRow 239 = .ok (.sipush 256, 3) := by decide +kernel
theorem d_Mo_compressRow_242 : decode b_Mo_compressRow 242 = .ok (.iload_n 3, 1) := by decide +kernel
theorem d_Mo_compressRow_243 : decode b_Mo_compressRow 243 = .ok (.invokevirtual 253, 3) := by decide +kernel
theorem d_Mo_compressRow_246 : decode b_Mo_compressRow 246 = .ok (.aload_n 0, 1) := by decide +kernel
theorem d_Mo_compressRow_247 : decode b_Mo_compressRow 247 = .ok (.invokevirtual 244, 3) := by decide +kernel
theorem d_Mo_compressRow_250 : decode b_Mo_compressRow 250 = .ok (.aload_n 0, 1) := by decide +kernel
theorem d_Mo_compressRow_251 : decode b_Mo_compressRow 251 = .ok (.bipush 9, 2) := by decide +kernel
theorem d_Mo_compressRow_253 : decode b_Mo_compressRow 253 = .ok (.putfield 238, 3) := by decide +kernel
theorem d_Mo_compressRow_256 : decode b_Mo_compressRow 256 = .ok (.aload_n 0, 1) := by decide +kernel
theorem d_Mo_compressRow_257 : decode b_Mo_compressRow 257 = .ok (.invokevirtual 247, 3) := by decide +kernel
theorem d_Mo_compressRow_260 : decode b_Mo_compressRow 260 = .ok (.goto (-194), 3) := by decide +kernel
theorem d_Mo_compressRow_263 : decode b_Mo_compressRow 263 = .ok (.aload_n 0, 1) := by decide +kernel
theorem d_Mo_compressRow_264 : decode b_Mo_compressRow 264 = .ok (.getfield 229, 3) := by decide +kernel
theorem d_Mo_compressRow_267 : decode b_Mo_compressRow 267 = .ok (.ifCond .le 27, 3) := by decide +kernel
theorem d_Mo_compressRow_270 : decode b_Mo_compressRow 270 = .ok (.aload_n 0, 1) := by decide +kernel
theorem d_Mo_compressRow_271 : decode b_Mo_compressRow 271 = .ok (.getfield 79, 3) := by decide +kernel
theorem d_Mo_compressRow_274 : decode b_Mo_compressRow 274 = .ok (.aload_n 0, 1) := by decide +kernel
theorem d_Mo_compressRow_275 : decode b_Mo_compressRow 275 = .ok (.getfield 232, 3) := by decide +kernel
theorem d_Mo_compressRow_278 : decode b_Mo_compressRow 278 = .ok (.aload_n 0, 1) := by decide +kernel
theorem d_Mo_compressRow_279 : decode b_Mo_compressRow 279 = .ok (.getfield 226, 3) := by decide +kernel
theorem d_Mo_compressRow_282 : decode b_Mo_compressRow 282 = .ok (.i2b, 1) := by decide +kernel
theorem d_Mo_compressRow_283 : decode b_Mo_compressRow 283 = .ok (.bastore, 1) := by decide +kernel
theorem d_Mo_compressRow_284 : decode b_Mo_compressRow 284 = .ok (.aload_n 0, 1) := by decide +kernel
theorem d_Mo_compressRow_285 : decode b_Mo_compressRow 285 = .ok (.dup, 1) := by decide +kernel
theorem d_Mo_compressRow_286 : decode b_Mo_compressRow 286 = .ok (.getfield 232, 3) := by decide +kernel
theorem d_Mo_compressRow_289 : decode b_Mo_compressRow 289 = .ok (.iconst 1, 1) := by decide +kernel
theorem d_Mo_compressRow_290 : decode b_Mo_compressRow 290 = .ok (.iadd, 1) := by decide +kernel
theorem d_Mo_compressRow_291 : decode b_Mo_compressRow 291 = .ok (.putfield 232, 3) := by decide +kernel
theorem d_Mo_compressRow_294 : decode b_Mo_compressRow 294 = .ok (.return_, 1) := by decide +kernel
theorem d_Mo_code_0 : decode b_Mo_code 0 = .ok (.iconst 0, 1) := by decide +kernel
theorem d_Mo_code_1 : decode b_Mo_code 1 = .ok (.istore_n 2, 1) := by decide +kernel
theorem d_Mo_code_2 : decode b_Mo_code 2 = .ok (.iconst 0, 1) := by decide +kernel
theorem d_Mo_code_3 : decode b_Mo_code 3 = .ok (.istore_n 3, 1) := by decide +kernel
theorem d_Mo_code_4 : decode b_Mo_code 4 = .ok (.iload_n 3, 1) := by decide +kernel
theorem d_Mo_code_5 : decode b_Mo_code 5 = .ok (.iload_n 1, 1) := by decide +kernel
theorem d_Mo_code_6 : decode b_Mo_code 6 = .ok (.if_icmp .ge 68, 3) := by decide +kernel
theorem d_Mo_code_9 : decode b_Mo_code 9 = .ok (.aload_n 0, 1) := by decide +kernel
theorem d_Mo_code_10 : decode b_Mo_code 10 = .ok (.getfield 256, 3) := by decide +kernel
theorem d_Mo_code_13 : decode b_Mo_code 13 = .ok (.bipush 8, 2) := by decide +kernel
theorem d_Mo_code_15 : decode b_Mo_code 15 = .ok (.idiv, 1) := by decide +kernel
theorem d_Mo_code_16 : decode b_Mo_code 16 = .ok (.aload_n 0, 1) := by decide +kernel
theorem d_Mo_code_17 : decode b_Mo_code 17 = .ok (.getfield 259, 3) := by decide +kernel
theorem d_Mo_code_20 : decode b_Mo_code 20 = .ok (.if_icmp .ge 28, 3) := by decide +kernel
theorem d_Mo_code_23 : decode b_Mo_code 23 = .ok (.aload_n 0, 1) := by decide +kernel
theorem d_Mo_code_24 : decode b_Mo_code 24 = .ok (.getfield 106, 3) := by decide +kernel
theorem d_Mo_code_27 : decode b_Mo_code 27 = .ok (.aload_n 0, 1) := by decide +kernel
theorem d_Mo_code_28 : decode b_Mo_code 28 = .ok (.getfield 256, 3) := by decide +kernel
theorem d_Mo_code_31 : decode b_Mo_code 31 = .ok (.bipush 8, 2) := by decide +kernel
theorem d_Mo_code_33 : decode b_Mo_code 33 = .ok (.idiv, 1) := by decide +kernel
theorem d_Mo_code_34 : decode b_Mo_code 34 = .ok (.baload, 1) := by decide +kernel
theorem d_Mo_code_35 : decode b_Mo_code 35 = .ok (.aload_n 0, 1) := by decide +kernel
theorem d_Mo_code_36 : decode b_Mo_code 36 = .ok (.getfield 256, 3) := by decide +kernel
theorem d_Mo_code_39 : decode b_Mo_code 39 = .ok (.bipush 8, 2) := by decide +kernel
theorem d_Mo_code_41 : decode b_Mo_code 41 = .ok (.irem, 1) := by decide +kernel
theorem d_Mo_code_42 : decode b_Mo_code 42 = .ok (.ishr, 1) := by decide +kernel
theorem d_Mo_code_43 : decode b_Mo_code 43 = .ok (.iconst 1, 1) := by decide +kernel
theorem d_Mo_code_44 : decode b_Mo_code 44 = .ok (.iand, 1) := by decide +kernel
theorem d_Mo_code_45 : decode b_Mo_code 45 = .ok (.goto 4, 3) := by decide +kernel
theorem d_Mo_code_48 : decode b_Mo_code 48 = .ok (.iconst 0, 1) := by decide +kernel
theorem d_Mo_code_49 : decode b_Mo_code 49 = .ok (.istore 4, 2) := by decide +kernel
theorem d_Mo_code_51 : decode b_Mo_code 51 = .ok (.iload_n 2, 1) := by decide +kernel
theorem d_Mo_code_52 : decode b_Mo_code 52 = .ok (.iload 4, 2) := by decide +kernel
theorem d_Mo_code_54 : decode b_Mo_code 54 = .ok (.iload_n 3, 1) := by decide +kernel
theorem d_Mo_code_55 : decode b_Mo_code 55 = .ok (.ishl, 1) := by decide +kernel
theorem d_Mo_code_56 : decode b_Mo_code 56 = .ok (.ior, 1) := by decide +kernel
theorem d_Mo_code_57 : decode b_Mo_code 57 = .ok (.istore_n 2, 1) := by decide +kernel
theorem d_Mo_code_58 : decode b_Mo_code 58 = .ok (.aload_n 0, 1) := by decide +kernel
theorem d_Mo_code_59 : decode b_Mo_code 59 = .ok (.dup, 1) := by decide +kernel
theorem d_Mo_code_60 : decode b_Mo_code 60 = .ok (.getfield 256, 3) := by decide +kernel
theorem d_Mo_code_63 : decode b_Mo_code 63 = .ok (.iconst 1, 1) := by decide +kernel
theorem d_Mo_code_64 : decode b_Mo_code 64 = .ok (.iadd, 1) := by decide +kernel
theorem d_Mo_code_65 : decode b_Mo_code 65 = .ok (.putfield 256, 3) := by decide +kernel
theorem d_Mo_code_68 : decode b_Mo_code 68 = .ok (.iinc 3 1, 3) := by decide +kernel
theorem d_Mo_code_71 : decode b_Mo_code 71 = .ok (.goto (-67), 3) := by decide +kernel
theorem d_Mo_code_74 : decode b_Mo_code 74 = .ok (.iload_n 2, 1) := by decide +kernel
theorem d_Mo_code_75 : decode b_Mo_code 75 = .ok (.ireturn, 1) := by decide +kernel
theorem d_Mo_firstByte_0 : decode b_Mo_firstByte 0 = .ok (.iload_n 1, 1) := by decide +kernel
theorem d_Mo_firstByte_1 : decode b_Mo_firstByte 1 = .ok (.istore_n 2, 1) := by decide +kernel
theorem d_Mo_firstByte_2 : decode b_Mo_firstByte 2 = .ok (.iload_n 2, 1) := by decide +kernel
theorem d_Mo_firstByte_3 : decode b_Mo_firstByte 3 = .ok (.sipush 256, 3) := by decide +kernel
theorem d_Mo_firstByte_6 : decode b_Mo_firstByte 6 = .ok (.if_icmp .le 13, 3) := by decide +kernel
theorem d_Mo_firstByte_9 : decode b_Mo_firstByte 9 = .ok (.aload_n 0, 1) := by decide +kernel
theorem d_Mo_firstByte_10 : decode b_Mo_firstByte 10 = .ok (.getfield 122, 3) := by decide +kernel
theorem d_Mo_firstByte_13 : decode b_Mo_firstByte 13 = .ok (.iload_n 2, 1) := by decide +kernel
theorem d_Mo_firstByte_14 : decode b_Mo_firstByte 14 = .ok (.iaload, 1) := by decide +kernel
theorem d_Mo_firstByte_15 : decode b_Mo_firstByte 15 = .ok (.istore_n 2, 1) := by decide +kernel
theorem d_Mo_firstByte_16 : decode b_Mo_firstByte 16 = .ok (.goto (-14), 3) := by decide +kernel
theorem d_Mo_firstByte_19 : decode b_Mo_firstByte 19 = .ok (.iload_n 2, 1) := by decide +kernel
theorem d_Mo_firstByte_20 : decode b_Mo_firstByte 20 = .ok (.ireturn, 1) := by decide +kernel
set_option maxRecDepth 100000 in
set_option maxHeartbeats 4000000 in
theorem Met_Mo_linkedNow (l : Launch) (B : Nat) (D : va_G) (aC : Nat → ClassId) (aS : Nat → Nat) {a0 : Nat} {i1 : Int32} {M : zM} {post : Int32 → zM → Prop} (hk0 : a0 < N0) (ht0 : tg a0 = 9) (h : Wp_Mo_linkedNow a0 i1 M post) : Met l y_Mo_linkedNow (wo y_Mo_linkedNow b_Mo_linkedNow 7 (some FieldType.int)) { frames := 3, cells := 0, slots := 0, locals := 72 } (va_Pc [.ref (B + a0), .int i1] (zWl B D aC aS M)) (zQi B D aC post) 0 0 (zAb B) := by
  refine z_met (own := "MailChainModel") (lv0 := [(0, .ref (B + a0)), (1, .int i1)]) (by decide) rfl (Nat.le_of_ble_eq_true rfl) rfl ?_
  intro p e s m below meth c fx hr hlo
  delta Wp_Mo_linkedNow at h
  have h := h (fun w0 M => zAt p l e { frames := 3, cells := 0, slots := 0, locals := 72 } s m ([.ref (B + a0), .int i1] : List Value).toArray below meth c 0 0 (MQ below (zQi B D aC post) ([.ref (B + a0), .int i1] : List Value).toArray s 0 0 (zAb B)) B D aC 7 19 [(0, .ref (B + a0)), (1, .int i1)] [.int w0] M)
  have h := h (fun v2 w0 M => zAt p l e { frames := 3, cells := 0, slots := 0, locals := 72 } s m ([.ref (B + a0), .int i1] : List Value).toArray below meth c 0 0 (MQ below (zQi B D aC post) ([.ref (B + a0), .int i1] : List Value).toArray s 0 0 (zAb B)) B D aC 7 33 [(0, .ref (B + a0)), (1, .int i1), (2, .int v2)] [.int w0] M)
  have h := h (fun v2 v3 w0 M => zAt p l e { frames := 3, cells := 0, slots := 0, locals := 72 } s m ([.ref (B + a0), .int i1] : List Value).toArray below meth c 0 0 (MQ below (zQi B D aC post) ([.ref (B + a0), .int i1] : List Value).toArray s 0 0 (zAb B)) B D aC 7 76 [(0, .ref (B + a0)), (1, .int i1), (2, .int v2), (3, .int v3)] [.int w0] M)
  have h := h (fun v3 w0 w1 M => zAt p l e { frames := 3, cells := 0, slots := 0, locals := 72 } s m ([.ref (B + a0), .int i1] : List Value).toArray below meth c 0 0 (MQ below (zQi B D aC post) ([.ref (B + a0), .int i1] : List Value).toArray s 0 0 (zAb B)) B D aC 7 156 [(0, .ref (B + a0)), (1, .int i1), (3, .int v3)] [.int w0, .ref (B + w1)] M)
  have h := h (by
    intro w0 M h
    refine a_istore_n (lv2 := [(2, .int w0), (0, .ref (B + a0)), (1, .int i1)]) fx d_Mo_linkedNow_19 rfl (by decide) rfl ?_
    refine a_iload_n fx 0 d_Mo_linkedNow_20 rfl rfl ?_
    refine a_if_eq fx 32 d_Mo_linkedNow_21 rfl (fun hc => ?_) (fun hc => ?_)
    · have h := h.1 hc
      refine a_iconst (v := 0) fx d_Mo_linkedNow_32 rfl ?_
      refine a_sub [1, 2, 0] rfl ?_
      exact h
    · have h := h.2 hc
      refine a_iconst (v := 0) fx d_Mo_linkedNow_24 rfl ?_
      refine a_iload_n fx 2 d_Mo_linkedNow_25 rfl rfl ?_
      refine a_calli (rest := []) (a_runS (As := [.int 0, .int i1]) fx  cv_Mo_at w_1503 (Met_Mo_at l B D aC aS  h) rfl rfl (Nat.le_of_ble_eq_true rfl) rfl rfl ⟨Nat.le_of_ble_eq_true rfl, Nat.le_of_ble_eq_true rfl⟩ d_Mo_linkedNow_26 ⟨Nat.le_of_ble_eq_true rfl, Nat.le_of_ble_eq_true rfl⟩) (fun x2 M1 h => ?_)
      refine a_goto fx 33 d_Mo_linkedNow_29 rfl ?_
      refine a_sub [1, 2, 0] rfl ?_
      exact h)
  have h := h (by
    intro v2 w0 M h
    refine a_istore_n (lv2 := [(3, .int w0), (0, .ref (B + a0)), (1, .int i1), (2, .int v2)]) fx d_Mo_linkedNow_33 rfl (by decide) rfl ?_
    refine a_aload_n fx 1 d_Mo_linkedNow_34 rfl rfl ?_
    refine a_aload_n fx 1 d_Mo_linkedNow_35 rfl rfl ?_
    refine a_getS fx (T := F_Mo) (j := 8) (hk := hk0) (ht := ht0) (ht2 := by decide) (hc := rfl) (hin := u_in_Mo) (hj := by decide) (hj2 := by decide) (hf := rfl) (n9 := 7) (hfo := rfl) (hT := rfl) (hw := w_1277) (hd := d_Mo_linkedNow_36) (kk := ?_)
    refine a_iconst (v := 0) fx d_Mo_linkedNow_39 rfl ?_
    refine a_aload_n fx 1 d_Mo_linkedNow_40 rfl rfl ?_
    refine a_getI fx (T := F_Mo) (j := 7) (hk := hk0) (ht := ht0) (ht2 := by decide) (hc := rfl) (hin := u_in_Mo) (hj := by decide) (hj2 := by decide) (hf := rfl) (hT := rfl) (hw := w_1276) (hd := d_Mo_linkedNow_41) (kk := ?_)
    refine a_callv (rest := []) (a_runV (As := [.ref (B + (a0 + 7)), .int 0, .int (M.1 a0 7)]) fx cv_Mo_look w_1480 (Met_Mo_look l B D aC aS (hk0 := hk0) (ht0 := ht0) (hk1 := (lo_9_8 hk0 ht0).1) (ht1 := (lo_9_8 hk0 ht0).2) h) hk0 ht0 (by decide) rfl rfl rfl (Nat.le_of_ble_eq_true rfl) rfl rfl ⟨Nat.le_of_ble_eq_true rfl, Nat.le_of_ble_eq_true rfl⟩ d_Mo_linkedNow_44 ⟨Nat.le_of_ble_eq_true rfl, Nat.le_of_ble_eq_true rfl⟩) (fun M3 h => ?_)
    refine a_aload_n fx 1 d_Mo_linkedNow_47 rfl rfl ?_
    refine a_getI fx (T := F_Mo) (j := 7) (hk := hk0) (ht := ht0) (ht2 := by decide) (hc := rfl) (hin := u_in_Mo) (hj := by decide) (hj2 := by decide) (hf := rfl) (hT := rfl) (hw := w_1276) (hd := d_Mo_linkedNow_48) (kk := ?_)
    refine a_bipush (v := 60) fx d_Mo_linkedNow_51 rfl ?_
    refine a_icmp_gt fx 75 d_Mo_linkedNow_53 rfl (fun hc => ?_) (fun hc => ?_)
    · have h := h.1 hc
      refine a_iconst (v := 0) fx d_Mo_linkedNow_75 rfl ?_
      refine a_sub [1, 2, 3, 0] rfl ?_
      exact h
    · have h := h.2 hc
      refine a_aload_n fx 1 d_Mo_linkedNow_56 rfl rfl ?_
      refine a_calli (rest := []) (a_runV (As := []) fx cv_Mo_isPath w_1491 (Met_Mo_isPath l B D aC aS (hk0 := hk0) (ht0 := ht0) h) hk0 ht0 (by decide) rfl rfl rfl (Nat.le_of_ble_eq_true rfl) rfl rfl ⟨Nat.le_of_ble_eq_true rfl, Nat.le_of_ble_eq_true rfl⟩ d_Mo_linkedNow_57 ⟨Nat.le_of_ble_eq_true rfl, Nat.le_of_ble_eq_true rfl⟩) (fun x5 M4 h => ?_)
      refine a_if_eq fx 75 d_Mo_linkedNow_60 rfl (fun hc => ?_) (fun hc => ?_)
      · have h := h.1 hc
        refine a_iconst (v := 0) fx d_Mo_linkedNow_75 rfl ?_
        refine a_sub [1, 2, 3, 0] rfl ?_
        exact h
      · have h := h.2 hc
        refine a_aload_n fx 1 d_Mo_linkedNow_63 rfl rfl ?_
        refine a_iconst (v := 0) fx d_Mo_linkedNow_64 rfl ?_
        refine a_calli (rest := []) (a_runV (As := [.int 0]) fx cv_Mo_hasParent w_1495 (Met_Mo_hasParent l B D aC aS (hk0 := hk0) (ht0 := ht0) h) hk0 ht0 (by decide) rfl rfl rfl (Nat.le_of_ble_eq_true rfl) rfl rfl ⟨Nat.le_of_ble_eq_true rfl, Nat.le_of_ble_eq_true rfl⟩ d_Mo_linkedNow_65 ⟨Nat.le_of_ble_eq_true rfl, Nat.le_of_ble_eq_true rfl⟩) (fun x7 M6 h => ?_)
        refine a_if_eq fx 75 d_Mo_linkedNow_68 rfl (fun hc => ?_) (fun hc => ?_)
        · have h := h.1 hc
          refine a_iconst (v := 0) fx d_Mo_linkedNow_75 rfl ?_
          refine a_sub [1, 2, 3, 0] rfl ?_
          exact h
        · have h := h.2 hc
          refine a_iconst (v := 1) fx d_Mo_linkedNow_71 rfl ?_
          refine a_goto fx 76 d_Mo_linkedNow_72 rfl ?_
          refine a_sub [1, 2, 3, 0] rfl ?_
          exact h)
  have h := h (by
    intro v2 v3 w0 M h
    refine a_istore (lv2 := [(4, .int w0), (0, .ref (B + a0)), (1, .int i1), (2, .int v2), (3, .int v3)]) fx d_Mo_linkedNow_76 (by decide) rfl ?_
    refine a_aload_n fx 1 d_Mo_linkedNow_78 rfl rfl ?_
    refine a_iload_n fx 3 d_Mo_linkedNow_79 rfl rfl ?_
    refine a_if_ne fx 87 d_Mo_linkedNow_80 rfl (fun hc => ?_) (fun hc => ?_)
    · have h := h.1 hc
      refine a_aload_n fx 1 d_Mo_linkedNow_87 rfl rfl ?_
      refine a_getS fx (T := F_Mo) (j := 12) (hk := hk0) (ht := ht0) (ht2 := by decide) (hc := rfl) (hin := u_in_Mo) (hj := by decide) (hj2 := by decide) (hf := rfl) (n9 := 11) (hfo := rfl) (hT := rfl) (hw := w_1281) (hd := d_Mo_linkedNow_88) (kk := ?_)
      refine a_iload_n fx 4 d_Mo_linkedNow_91 rfl rfl ?_
      obtain ⟨hin, h⟩ := h
      refine a_iald fx (lo_9_12 hk0 ht0).1 (lo_9_12 hk0 ht0).2 hin d_Mo_linkedNow_92 ?_
      refine a_iconst (v := 1) fx d_Mo_linkedNow_93 rfl ?_
      refine a_icmp_ne fx 102 d_Mo_linkedNow_94 rfl (fun hc => ?_) (fun hc => ?_)
      · have h := h.1 hc
        refine a_iconst (v := 2) fx d_Mo_linkedNow_102 rfl ?_
        refine a_goto fx 156 d_Mo_linkedNow_103 rfl ?_
        refine a_sub [1, 2, 4] rfl ?_
        exact h
      · have h := h.2 hc
        refine a_iload fx 0 d_Mo_linkedNow_97 rfl ?_
        refine a_if_ne fx 106 d_Mo_linkedNow_99 rfl (fun hc => ?_) (fun hc => ?_)
        · have h := h.1 hc
          refine a_aload_n fx 1 d_Mo_linkedNow_106 rfl rfl ?_
          refine a_iconst (v := 0) fx d_Mo_linkedNow_107 rfl ?_
          refine a_aload_n fx 1 d_Mo_linkedNow_108 rfl rfl ?_
          refine a_getI fx (T := F_Mo) (j := 24) (hk := hk0) (ht := ht0) (ht2 := by decide) (hc := rfl) (hin := u_in_Mo) (hj := by decide) (hj2 := by decide) (hf := rfl) (hT := rfl) (hw := w_1293) (hd := d_Mo_linkedNow_109) (kk := ?_)
          refine a_calli (rest := [.ref (B + a0)]) (a_runV (As := [.int 0, .int (M.1 a0 24)]) fx cv_Mo_find w_1499 (Met_Mo_find l B D aC aS (hk0 := hk0) (ht0 := ht0) h) hk0 ht0 (by decide) rfl rfl rfl (Nat.le_of_ble_eq_true rfl) rfl rfl ⟨Nat.le_of_ble_eq_true rfl, Nat.le_of_ble_eq_true rfl⟩ d_Mo_linkedNow_112 ⟨Nat.le_of_ble_eq_true rfl, Nat.le_of_ble_eq_true rfl⟩) (fun x9 M8 h => ?_)
          refine a_if_lt fx 122 d_Mo_linkedNow_115 rfl (fun hc => ?_) (fun hc => ?_)
          · have h := h.1 hc
            refine a_aload_n fx 1 d_Mo_linkedNow_122 rfl rfl ?_
            refine a_getS fx (T := F_Mo) (j := 9) (hk := hk0) (ht := ht0) (ht2 := by decide) (hc := rfl) (hin := u_in_Mo) (hj := by decide) (hj2 := by decide) (hf := rfl) (n9 := 8) (hfo := rfl) (hT := rfl) (hw := w_1278) (hd := d_Mo_linkedNow_123) (kk := ?_)
            refine a_iconst (v := 0) fx d_Mo_linkedNow_126 rfl ?_
            obtain ⟨hin, h⟩ := h
            refine a_iald fx (lo_9_9 hk0 ht0).1 (lo_9_9 hk0 ht0).2 hin d_Mo_linkedNow_127 ?_
            refine a_bipush (v := 40) fx d_Mo_linkedNow_128 rfl ?_
            refine a_icmp_eq fx 151 d_Mo_linkedNow_130 rfl (fun hc => ?_) (fun hc => ?_)
            · have h := h.1 hc
              refine a_iconst (v := 4) fx d_Mo_linkedNow_151 rfl ?_
              refine a_goto fx 156 d_Mo_linkedNow_152 rfl ?_
              refine a_sub [1, 2, 4] rfl ?_
              exact h
            · have h := h.2 hc
              refine a_aload_n fx 1 d_Mo_linkedNow_133 rfl rfl ?_
              refine a_iconst (v := 0) fx d_Mo_linkedNow_134 rfl ?_
              refine a_calli (rest := [.ref (B + a0)]) (a_runV (As := [.int 0]) fx cv_Mo_bytesOf w_1510 (Met_Mo_bytesOf l B D aC aS (hk0 := hk0) (ht0 := ht0) h) hk0 ht0 (by decide) rfl rfl rfl (Nat.le_of_ble_eq_true rfl) rfl rfl ⟨Nat.le_of_ble_eq_true rfl, Nat.le_of_ble_eq_true rfl⟩ d_Mo_linkedNow_135 ⟨Nat.le_of_ble_eq_true rfl, Nat.le_of_ble_eq_true rfl⟩) (fun x11 M10 h => ?_)
              refine a_aload_n fx 1 d_Mo_linkedNow_138 rfl rfl ?_
              refine a_getS fx (T := F_Mo) (j := 18) (hk := hk0) (ht := ht0) (ht2 := by decide) (hc := rfl) (hin := u_in_Mo) (hj := by decide) (hj2 := by decide) (hf := rfl) (n9 := 17) (hfo := rfl) (hT := rfl) (hw := w_1287) (hd := d_Mo_linkedNow_139) (kk := ?_)
              refine a_iload_n fx 4 d_Mo_linkedNow_142 rfl rfl ?_
              obtain ⟨hin, h⟩ := h
              refine a_iald fx (lo_9_18 hk0 ht0).1 (lo_9_18 hk0 ht0).2 hin d_Mo_linkedNow_143 ?_
              refine a_iadd fx d_Mo_linkedNow_144 ?_
              refine a_sipush (v := 6000) fx d_Mo_linkedNow_145 rfl ?_
              refine a_icmp_le fx 155 d_Mo_linkedNow_148 rfl (fun hc => ?_) (fun hc => ?_)
              · have h := h.1 hc
                refine a_iconst (v := 0) fx d_Mo_linkedNow_155 rfl ?_
                refine a_sub [1, 2, 4] rfl ?_
                exact h
              · have h := h.2 hc
                refine a_iconst (v := 4) fx d_Mo_linkedNow_151 rfl ?_
                refine a_goto fx 156 d_Mo_linkedNow_152 rfl ?_
                refine a_sub [1, 2, 4] rfl ?_
                exact h
          · have h := h.2 hc
            refine a_iconst (v := 3) fx d_Mo_linkedNow_118 rfl ?_
            refine a_goto fx 156 d_Mo_linkedNow_119 rfl ?_
            refine a_sub [1, 2, 4] rfl ?_
            exact h
        · have h := h.2 hc
          refine a_iconst (v := 2) fx d_Mo_linkedNow_102 rfl ?_
          refine a_goto fx 156 d_Mo_linkedNow_103 rfl ?_
          refine a_sub [1, 2, 4] rfl ?_
          exact h
    · have h := h.2 hc
      refine a_iconst (v := 1) fx d_Mo_linkedNow_83 rfl ?_
      refine a_goto fx 156 d_Mo_linkedNow_84 rfl ?_
      refine a_sub [1, 2, 4] rfl ?_
      exact h)
  have h := h (by
    intro v3 w0 w1 M h
    obtain ⟨hk_w1, ht_w1, h⟩ := h
    refine a_putI fx (T := F_Mo) (ty0 := t_Mo) (j := 6) (hk := hk_w1) (ht := ht_w1) (ht2 := by decide) (hc := rfl) (hin := u_in_Mo) (hty := t_Mo_ok) (hnm := n_Mo) (hj := by decide) (hj2 := by decide) (hf := rfl) (hT := rfl) (hfin := rfl) (hn := rfl) (hfit := rfl) (hw := w_1275) (hd := d_Mo_linkedNow_156) (kk := a_mem (fun M12 eM12 => ?_))
    have h := h M12 eM12
    refine a_aload_n fx 0 d_Mo_linkedNow_159 rfl rfl ?_
    refine a_getI fx (T := F_Mo) (j := 6) (hk := hk0) (ht := ht0) (ht2 := by decide) (hc := rfl) (hin := u_in_Mo) (hj := by decide) (hj2 := by decide) (hf := rfl) (hT := rfl) (hw := w_1275) (hd := d_Mo_linkedNow_160) (kk := ?_)
    refine a_if_le fx 168 d_Mo_linkedNow_163 rfl (fun hc => ?_) (fun hc => ?_)
    · have h := h.1 hc
      refine a_aload_n fx 0 d_Mo_linkedNow_168 rfl rfl ?_
      refine a_bipush (v := 40) fx d_Mo_linkedNow_169 rfl ?_
      refine a_iload_n fx 2 d_Mo_linkedNow_171 rfl rfl ?_
      refine a_callv (rest := []) (a_runV (As := [.int 40, .int v3]) fx cv_Mo_copyEntry w_1518 (Met_Mo_copyEntry l B D aC aS (hk0 := hk0) (ht0 := ht0) h) hk0 ht0 (by decide) rfl rfl rfl (Nat.le_of_ble_eq_true rfl) rfl rfl ⟨Nat.le_of_ble_eq_true rfl, Nat.le_of_ble_eq_true rfl⟩ d_Mo_linkedNow_172 ⟨Nat.le_of_ble_eq_true rfl, Nat.le_of_ble_eq_true rfl⟩) (fun M13 h => ?_)
      refine a_aload_n fx 0 d_Mo_linkedNow_175 rfl rfl ?_
      refine a_iconst (v := 0) fx d_Mo_linkedNow_176 rfl ?_
      refine a_calli (rest := []) (a_runV (As := [.int 0]) fx cv_Mo_enter w_1514 (Met_Mo_enter l B D aC aS (hk0 := hk0) (ht0 := ht0) h) hk0 ht0 (by decide) rfl rfl rfl (Nat.le_of_ble_eq_true rfl) rfl rfl ⟨Nat.le_of_ble_eq_true rfl, Nat.le_of_ble_eq_true rfl⟩ d_Mo_linkedNow_177 ⟨Nat.le_of_ble_eq_true rfl, Nat.le_of_ble_eq_true rfl⟩) (fun x15 M14 h => ?_)
      refine a_istore (lv2 := [(5, .int x15), (0, .ref (B + a0)), (1, .int i1), (3, .int v3)]) fx d_Mo_linkedNow_180 (by decide) rfl ?_
      refine a_aload_n fx 1 d_Mo_linkedNow_182 rfl rfl ?_
      refine a_getI fx (T := F_Mo) (j := 24) (hk := hk0) (ht := ht0) (ht2 := by decide) (hc := rfl) (hin := u_in_Mo) (hj := by decide) (hj2 := by decide) (hf := rfl) (hT := rfl) (hw := w_1293) (hd := d_Mo_linkedNow_183) (kk := ?_)
      refine a_topi (fun x16 ex16 => ?_)
      have h := h x16 ex16
      refine a_istore (lv2 := [(6, .int x16), (5, .int x15), (0, .ref (B + a0)), (1, .int i1), (3, .int v3)]) fx d_Mo_linkedNow_186 (by decide) rfl ?_
      refine a_aload_n fx 2 d_Mo_linkedNow_188 rfl rfl ?_
      refine a_iload fx 1 d_Mo_linkedNow_189 rfl ?_
      refine a_bipush (v := 40) fx d_Mo_linkedNow_191 rfl ?_
      refine a_callv (rest := []) (a_runV (As := [.int x15, .int 40]) fx cv_Mo_copyAttributes w_1530 (Met_Mo_copyAttributes l B D aC aS (hk0 := hk0) (ht0 := ht0) h) hk0 ht0 (by decide) rfl rfl rfl (Nat.le_of_ble_eq_true rfl) rfl rfl ⟨Nat.le_of_ble_eq_true rfl, Nat.le_of_ble_eq_true rfl⟩ d_Mo_linkedNow_193 ⟨Nat.le_of_ble_eq_true rfl, Nat.le_of_ble_eq_true rfl⟩) (fun M17 h => ?_)
      refine a_aload_n fx 2 d_Mo_linkedNow_196 rfl rfl ?_
      refine a_getS fx (T := F_Mo) (j := 11) (hk := hk0) (ht := ht0) (ht2 := by decide) (hc := rfl) (hin := u_in_Mo) (hj := by decide) (hj2 := by decide) (hf := rfl) (n9 := 10) (hfo := rfl) (hT := rfl) (hw := w_1280) (hd := d_Mo_linkedNow_197) (kk := ?_)
      refine a_iload fx 1 d_Mo_linkedNow_200 rfl ?_
      refine a_iload fx 0 d_Mo_linkedNow_202 rfl ?_
      obtain ⟨hin, h⟩ := h
      refine a_iast fx (lo_9_11 hk0 ht0).1 (lo_9_11 hk0 ht0).2 hin d_Mo_linkedNow_204 (a_mem (fun M18 eM18 => ?_))
      have h := h M18 eM18
      refine a_aload_n fx 2 d_Mo_linkedNow_205 rfl rfl ?_
      refine a_getS fx (T := F_Mo) (j := 9) (hk := hk0) (ht := ht0) (ht2 := by decide) (hc := rfl) (hin := u_in_Mo) (hj := by decide) (hj2 := by decide) (hf := rfl) (n9 := 8) (hfo := rfl) (hT := rfl) (hw := w_1278) (hd := d_Mo_linkedNow_206) (kk := ?_)
      refine a_iconst (v := 0) fx d_Mo_linkedNow_209 rfl ?_
      obtain ⟨hin, h⟩ := h
      refine a_iald fx (lo_9_9 hk0 ht0).1 (lo_9_9 hk0 ht0).2 hin d_Mo_linkedNow_210 ?_
      exact a_iret fx hlo hr h d_Mo_linkedNow_211
    · have h := h.2 hc
      refine a_iconst (v := 0) fx d_Mo_linkedNow_166 rfl ?_
      exact a_iret fx hlo hr h d_Mo_linkedNow_167)
  refine a_iload_n fx 1 d_Mo_linkedNow_0 rfl rfl ?_
  refine a_if_lt fx 18 d_Mo_linkedNow_1 rfl (fun hc => ?_) (fun hc => ?_)
  · have h := h.1 hc
    refine a_iconst (v := 0) fx d_Mo_linkedNow_18 rfl ?_
    refine a_sub [0, 1] rfl ?_
    exact h
  · have h := h.2 hc
    refine a_iload_n fx 1 d_Mo_linkedNow_4 rfl rfl ?_
    refine a_aload_n fx 0 d_Mo_linkedNow_5 rfl rfl ?_
    refine a_getS fx (T := F_Mo) (j := 9) (hk := hk0) (ht := ht0) (ht2 := by decide) (hc := rfl) (hin := u_in_Mo) (hj := by decide) (hj2 := by decide) (hf := rfl) (n9 := 8) (hfo := rfl) (hT := rfl) (hw := w_1278) (hd := d_Mo_linkedNow_6) (kk := ?_)
    refine a_iconst (v := 0) fx d_Mo_linkedNow_9 rfl ?_
    obtain ⟨hin, h⟩ := h
    refine a_iald fx (lo_9_9 hk0 ht0).1 (lo_9_9 hk0 ht0).2 hin d_Mo_linkedNow_10 ?_
    refine a_icmp_ge fx 18 d_Mo_linkedNow_11 rfl (fun hc => ?_) (fun hc => ?_)
    · have h := h.1 hc
      refine a_iconst (v := 0) fx d_Mo_linkedNow_18 rfl ?_
      refine a_sub [0, 1] rfl ?_
      exact h
    · have h := h.2 hc
      refine a_iconst (v := 1) fx d_Mo_linkedNow_14 rfl ?_
      refine a_goto fx 19 d_Mo_linkedNow_15 rfl ?_
      refine a_sub [0, 1] rfl ?_
      exact h
set_option maxRecDepth 100000 in
set_option maxHeartbeats 4000000 in
theorem Met_Mo_link (l : Launch) (B : Nat) (D : va_G) (aC : Nat → ClassId) (aS : Nat → Nat) {a0 : Nat} {i1 : Int32} {M : zM} {post : Int32 → zM → Prop} (hk0 : a0 < N0) (ht0 : tg a0 = 9) (h : Wp_Mo_link a0 i1 M post) : Met l y_Mo_link (wo y_Mo_link b_Mo_link 3 (some FieldType.int)) { frames := 4, cells := 0, slots := 0, locals := 98 } (va_Pc [.ref (B + a0), .int i1] (zWl B D aC aS M)) (zQi B D aC post) 0 0 (zAb B) := by
  refine z_met (own := "MailChainModel") (lv0 := [(0, .ref (B + a0)), (1, .int i1)]) (by decide) rfl (Nat.le_of_ble_eq_true rfl) rfl ?_
  intro p e s m below meth c fx hr hlo
  delta Wp_Mo_link at h
  refine a_aload_n fx 0 d_Mo_link_0 rfl rfl ?_
  refine a_iload_n fx 1 d_Mo_link_1 rfl rfl ?_
  refine a_calli (rest := []) (a_runV (As := [.int i1]) fx cv_Mo_linkedNow w_1526 (Met_Mo_linkedNow l B D aC aS (hk0 := hk0) (ht0 := ht0) h) hk0 ht0 (by decide) rfl rfl rfl (Nat.le_of_ble_eq_true rfl) rfl rfl ⟨Nat.le_of_ble_eq_true rfl, Nat.le_of_ble_eq_true rfl⟩ d_Mo_link_2 ⟨Nat.le_of_ble_eq_true rfl, Nat.le_of_ble_eq_true rfl⟩) (fun x2 M1 h => ?_)
  refine a_istore_n (lv2 := [(2, .int x2), (0, .ref (B + a0)), (1, .int i1)]) fx d_Mo_link_5 rfl (by decide) rfl ?_
  refine a_aload_n fx 1 d_Mo_link_6 rfl rfl ?_
  refine a_iconst (v := 0) fx d_Mo_link_7 rfl ?_
  refine a_putI fx (T := F_Mo) (ty0 := t_Mo) (j := 7) (hk := hk0) (ht := ht0) (ht2 := by decide) (hc := rfl) (hin := u_in_Mo) (hty := t_Mo_ok) (hnm := n_Mo) (hj := by decide) (hj2 := by decide) (hf := rfl) (hT := rfl) (hfin := rfl) (hn := rfl) (hfit := rfl) (hw := w_1276) (hd := d_Mo_link_8) (kk := a_mem (fun M3 eM3 => ?_))
  have h := h M3 eM3
  refine a_iload_n fx 0 d_Mo_link_11 rfl rfl ?_
  exact a_iret fx hlo hr h d_Mo_link_12
set_option maxRecDepth 100000 in
set_option maxHeartbeats 4000000 in
theorem Met_Mo_clear (l : Launch) (B : Nat) (D : va_G) (aC : Nat → ClassId) (aS : Nat → Nat) {a0 : Nat} {M : zM} {post : Int32 → zM → Prop} (hk0 : a0 < N0) (ht0 : tg a0 = 9) (h : Wp_Mo_clear a0 M post) : Met l y_Mo_clear (wo y_Mo_clear b_Mo_clear 2 (some FieldType.int)) { frames := 0, cells := 0, slots := 0, locals := 0 } (va_Pc [.ref (B + a0)] (zWl B D aC aS M)) (zQi B D aC post) 0 0 (zAb B) := by
  refine z_met (own := "MailChainModel") (lv0 := [(0, .ref (B + a0))]) (by decide) rfl (Nat.le_of_ble_eq_true rfl) rfl ?_
  intro p e s m below meth c fx hr hlo
  delta Wp_Mo_clear at h
  refine a_aload_n fx 0 d_Mo_clear_0 rfl rfl ?_
  refine a_iconst (v := 0) fx d_Mo_clear_1 rfl ?_
  refine a_putI fx (T := F_Mo) (ty0 := t_Mo) (j := 6) (hk := hk0) (ht := ht0) (ht2 := by decide) (hc := rfl) (hin := u_in_Mo) (hty := t_Mo_ok) (hnm := n_Mo) (hj := by decide) (hj2 := by decide) (hf := rfl) (hT := rfl) (hfin := rfl) (hn := rfl) (hfit := rfl) (hw := w_1275) (hd := d_Mo_clear_2) (kk := a_mem (fun M1 eM1 => ?_))
  have h := h M1 eM1
  refine a_aload_n fx 0 d_Mo_clear_5 rfl rfl ?_
  refine a_getS fx (T := F_Mo) (j := 9) (hk := hk0) (ht := ht0) (ht2 := by decide) (hc := rfl) (hin := u_in_Mo) (hj := by decide) (hj2 := by decide) (hf := rfl) (n9 := 8) (hfo := rfl) (hT := rfl) (hw := w_1278) (hd := d_Mo_clear_6) (kk := ?_)
  refine a_iconst (v := 0) fx d_Mo_clear_9 rfl ?_
  obtain ⟨hin, h⟩ := h
  refine a_iald fx (lo_9_9 hk0 ht0).1 (lo_9_9 hk0 ht0).2 hin d_Mo_clear_10 ?_
  refine a_topi (fun x2 ex2 => ?_)
  have h := h x2 ex2
  refine a_istore_n (lv2 := [(1, .int x2), (0, .ref (B + a0))]) fx d_Mo_clear_11 rfl (by decide) rfl ?_
  refine a_aload_n fx 1 d_Mo_clear_12 rfl rfl ?_
  refine a_getS fx (T := F_Mo) (j := 9) (hk := hk0) (ht := ht0) (ht2 := by decide) (hc := rfl) (hin := u_in_Mo) (hj := by decide) (hj2 := by decide) (hf := rfl) (n9 := 8) (hfo := rfl) (hT := rfl) (hw := w_1278) (hd := d_Mo_clear_13) (kk := ?_)
  refine a_iconst (v := 0) fx d_Mo_clear_16 rfl ?_
  refine a_iconst (v := 0) fx d_Mo_clear_17 rfl ?_
  obtain ⟨hin, h⟩ := h
  refine a_iast fx (lo_9_9 hk0 ht0).1 (lo_9_9 hk0 ht0).2 hin d_Mo_clear_18 (a_mem (fun M3 eM3 => ?_))
  have h := h M3 eM3
  refine a_aload_n fx 1 d_Mo_clear_19 rfl rfl ?_
  refine a_getS fx (T := F_Mo) (j := 20) (hk := hk0) (ht := ht0) (ht2 := by decide) (hc := rfl) (hin := u_in_Mo) (hj := by decide) (hj2 := by decide) (hf := rfl) (n9 := 19) (hfo := rfl) (hT := rfl) (hw := w_1289) (hd := d_Mo_clear_20) (kk := ?_)
  refine a_iconst (v := 0) fx d_Mo_clear_23 rfl ?_
  refine a_iconst (v := 0) fx d_Mo_clear_24 rfl ?_
  obtain ⟨hin, h⟩ := h
  refine a_iast fx (lo_9_20 hk0 ht0).1 (lo_9_20 hk0 ht0).2 hin d_Mo_clear_25 (a_mem (fun M4 eM4 => ?_))
  have h := h M4 eM4
  refine a_iload_n fx 0 d_Mo_clear_26 rfl rfl ?_
  exact a_iret fx hlo hr h d_Mo_clear_27
set_option maxRecDepth 100000 in
set_option maxHeartbeats 4000000 in
theorem Met_Mo_octal (l : Launch) (B : Nat) (D : va_G) (aC : Nat → ClassId) (aS : Nat → Nat) {a0 : Nat} {l1 : Int64} {i3 : Int32} {M : zM} {post : zM → Prop} (hk0 : a0 < N0) (ht0 : tg a0 = 9) (h : Wp_Mo_octal a0 l1 i3 M post) : Met l y_Mo_octal (wo y_Mo_octal b_Mo_octal 5 none) { frames := 0, cells := 0, slots := 0, locals := 0 } (va_Pc [.ref (B + a0), .long l1, .int i3] (zWl B D aC aS M)) (zQv B D aC post) 0 0 (zAb B) := by
  refine z_met (own := "MailChainModel") (lv0 := [(0, .ref (B + a0)), (1, .long l1), (3, .int i3)]) (by decide) rfl (Nat.le_of_ble_eq_true rfl) rfl ?_
  intro p e s m below meth c fx hr hlo
  delta Wp_Mo_octal at h
  have h := h (fun v4 M => zAt p l e { frames := 0, cells := 0, slots := 0, locals := 0 } s m ([.ref (B + a0), .long l1, .int i3] : List Value).toArray below meth c 0 0 (MQ below (zQv B D aC post) ([.ref (B + a0), .long l1, .int i3] : List Value).toArray s 0 0 (zAb B)) B D aC 5 7 [(0, .ref (B + a0)), (1, .long l1), (3, .int i3), (4, .int v4)] [] M)
  have h := h (by
    intro v4 M h
    refine a_iload fx 3 d_Mo_octal_7 rfl ?_
    refine a_if_lt fx 50 d_Mo_octal_9 rfl (fun hc => ?_) (fun hc => ?_)
    · have h := h.1 hc
      exact a_vret fx hlo hr h d_Mo_octal_50
    · have h := h.2 hc
      refine a_aload_n fx 0 d_Mo_octal_12 rfl rfl ?_
      refine a_getS fx (T := F_Mo) (j := 26) (hk := hk0) (ht := ht0) (ht2 := by decide) (hc := rfl) (hin := u_in_Mo) (hj := by decide) (hj2 := by decide) (hf := rfl) (n9 := 22) (hfo := rfl) (hT := rfl) (hw := w_1295) (hd := d_Mo_octal_13) (kk := ?_)
      refine a_aload_n fx 0 d_Mo_octal_16 rfl rfl ?_
      refine a_getI fx (T := F_Mo) (j := 25) (hk := hk0) (ht := ht0) (ht2 := by decide) (hc := rfl) (hin := u_in_Mo) (hj := by decide) (hj2 := by decide) (hf := rfl) (hT := rfl) (hw := w_1294) (hd := d_Mo_octal_17) (kk := ?_)
      refine a_bipush (v := 48) fx d_Mo_octal_20 rfl ?_
      refine a_lload_n fx 1 d_Mo_octal_22 rfl rfl ?_
      refine a_iload fx 3 d_Mo_octal_23 rfl ?_
      refine a_lshr fx d_Mo_octal_25 ?_
      refine a_ldc2 fx w_1581 d_Mo_octal_26 ?_
      refine a_land fx d_Mo_octal_29 ?_
      refine a_l2i fx d_Mo_octal_30 ?_
      refine a_iadd fx d_Mo_octal_31 ?_
      refine a_i2b fx d_Mo_octal_32 ?_
      obtain ⟨hin, h⟩ := h
      refine a_bast fx (lo_9_26 hk0 ht0).1 (lo_9_26 hk0 ht0).2 hin d_Mo_octal_33 (a_mem (fun M2 eM2 => ?_))
      have h := h M2 eM2
      refine a_aload_n fx 0 d_Mo_octal_34 rfl rfl ?_
      refine a_dup fx d_Mo_octal_35 rfl ?_
      refine a_getI fx (T := F_Mo) (j := 25) (hk := hk0) (ht := ht0) (ht2 := by decide) (hc := rfl) (hin := u_in_Mo) (hj := by decide) (hj2 := by decide) (hf := rfl) (hT := rfl) (hw := w_1294) (hd := d_Mo_octal_36) (kk := ?_)
      refine a_iconst (v := 1) fx d_Mo_octal_39 rfl ?_
      refine a_iadd fx d_Mo_octal_40 ?_
      refine a_putI fx (T := F_Mo) (ty0 := t_Mo) (j := 25) (hk := hk0) (ht := ht0) (ht2 := by decide) (hc := rfl) (hin := u_in_Mo) (hty := t_Mo_ok) (hnm := n_Mo) (hj := by decide) (hj2 := by decide) (hf := rfl) (hT := rfl) (hfin := rfl) (hn := rfl) (hfit := rfl) (hw := w_1294) (hd := d_Mo_octal_41) (kk := a_mem (fun M3 eM3 => ?_))
      have h := h M3 eM3
      obtain ⟨x4, ex4⟩ : ∃ z : Int32, z = v4 + (-3) := ⟨_, rfl⟩
      have h := h x4 ex4
      refine a_iinc (lv2 := [(4, .int x4), (0, .ref (B + a0)), (1, .long l1), (3, .int i3)]) fx 3 d_Mo_octal_44 rfl ex4.symm (by decide) rfl ?_
      refine a_goto fx 7 d_Mo_octal_47 rfl ?_
      refine a_sub [1, 2, 3, 0] rfl ?_
      exact h)
  refine a_iconst (v := 3) fx d_Mo_octal_0 rfl ?_
  refine a_iload_n fx 2 d_Mo_octal_1 rfl rfl ?_
  refine a_imul fx d_Mo_octal_2 ?_
  refine a_iconst (v := 3) fx d_Mo_octal_3 rfl ?_
  refine a_isub fx d_Mo_octal_4 ?_
  refine a_topi (fun x1 ex1 => ?_)
  have h := h x1 ex1
  refine a_istore (lv2 := [(4, .int x1), (0, .ref (B + a0)), (1, .long l1), (3, .int i3)]) fx d_Mo_octal_5 (by decide) rfl ?_
  refine a_sub [1, 2, 3, 0] rfl ?_
  exact h
set_option maxRecDepth 100000 in
set_option maxHeartbeats 4000000 in
theorem Met_Mo_zero (l : Launch) (B : Nat) (D : va_G) (aC : Nat → ClassId) (aS : Nat → Nat) {a0 : Nat} {M : zM} {post : zM → Prop} (hk0 : a0 < N0) (ht0 : tg a0 = 9) (h : Wp_Mo_zero a0 M post) : Met l y_Mo_zero (wo y_Mo_zero b_Mo_zero 1 none) { frames := 0, cells := 0, slots := 0, locals := 0 } (va_Pc [.ref (B + a0)] (zWl B D aC aS M)) (zQv B D aC post) 0 0 (zAb B) := by
  refine z_met (own := "MailChainModel") (lv0 := [(0, .ref (B + a0))]) (by decide) rfl (Nat.le_of_ble_eq_true rfl) rfl ?_
  intro p e s m below meth c fx hr hlo
  delta Wp_Mo_zero at h
  refine a_aload_n fx 0 d_Mo_zero_0 rfl rfl ?_
  refine a_getS fx (T := F_Mo) (j := 26) (hk := hk0) (ht := ht0) (ht2 := by decide) (hc := rfl) (hin := u_in_Mo) (hj := by decide) (hj2 := by decide) (hf := rfl) (n9 := 22) (hfo := rfl) (hT := rfl) (hw := w_1295) (hd := d_Mo_zero_1) (kk := ?_)
  refine a_aload_n fx 0 d_Mo_zero_4 rfl rfl ?_
  refine a_getI fx (T := F_Mo) (j := 25) (hk := hk0) (ht := ht0) (ht2 := by decide) (hc := rfl) (hin := u_in_Mo) (hj := by decide) (hj2 := by decide) (hf := rfl) (hT := rfl) (hw := w_1294) (hd := d_Mo_zero_5) (kk := ?_)
  refine a_iconst (v := 0) fx d_Mo_zero_8 rfl ?_
  obtain ⟨hin, h⟩ := h
  refine a_bast fx (lo_9_26 hk0 ht0).1 (lo_9_26 hk0 ht0).2 hin d_Mo_zero_9 (a_mem (fun M1 eM1 => ?_))
  have h := h M1 eM1
  refine a_aload_n fx 0 d_Mo_zero_10 rfl rfl ?_
  refine a_dup fx d_Mo_zero_11 rfl ?_
  refine a_getI fx (T := F_Mo) (j := 25) (hk := hk0) (ht := ht0) (ht2 := by decide) (hc := rfl) (hin := u_in_Mo) (hj := by decide) (hj2 := by decide) (hf := rfl) (hT := rfl) (hw := w_1294) (hd := d_Mo_zero_12) (kk := ?_)
  refine a_iconst (v := 1) fx d_Mo_zero_15 rfl ?_
  refine a_iadd fx d_Mo_zero_16 ?_
  refine a_putI fx (T := F_Mo) (ty0 := t_Mo) (j := 25) (hk := hk0) (ht := ht0) (ht2 := by decide) (hc := rfl) (hin := u_in_Mo) (hty := t_Mo_ok) (hnm := n_Mo) (hj := by decide) (hj2 := by decide) (hf := rfl) (hT := rfl) (hfin := rfl) (hn := rfl) (hfit := rfl) (hw := w_1294) (hd := d_Mo_zero_17) (kk := a_mem (fun M2 eM2 => ?_))
  have h := h M2 eM2
  exact a_vret fx hlo hr h d_Mo_zero_20
set_option maxRecDepth 100000 in
set_option maxHeartbeats 4000000 in
theorem Met_Mo_header (l : Launch) (B : Nat) (D : va_G) (aC : Nat → ClassId) (aS : Nat → Nat) {a0 : Nat} {i1 : Int32} {i2 : Int32} {i3 : Int32} {i4 : Int32} {i5 : Int32} {i6 : Int32} {i7 : Int32} {i8 : Int32} {M : zM} {post : zM → Prop} (hk0 : a0 < N0) (ht0 : tg a0 = 9) (h : Wp_Mo_header a0 i1 i2 i3 i4 i5 i6 i7 i8 M post) : Met l y_Mo_header (wo y_Mo_header b_Mo_header 9 none) { frames := 1, cells := 0, slots := 0, locals := 24 } (va_Pc [.ref (B + a0), .int i1, .int i2, .int i3, .int i4, .int i5, .int i6, .int i7, .int i8] (zWl B D aC aS M)) (zQv B D aC post) 0 0 (zAb B) := by
  refine z_met (own := "MailChainModel") (lv0 := [(0, .ref (B + a0)), (1, .int i1), (2, .int i2), (3, .int i3), (4, .int i4), (5, .int i5), (6, .int i6), (7, .int i7), (8, .int i8)]) (by decide) rfl (Nat.le_of_ble_eq_true rfl) rfl ?_
  intro p e s m below meth c fx hr hlo
  delta Wp_Mo_header at h
  refine a_aload_n fx 0 d_Mo_header_0 rfl rfl ?_
  refine a_ldc2 fx w_1576 d_Mo_header_1 ?_
  refine a_bipush (v := 6) fx d_Mo_header_4 rfl ?_
  refine a_callv (rest := []) (a_runV (As := [.long 29127, .int 6]) fx cv_Mo_octal w_1577 (Met_Mo_octal l B D aC aS (hk0 := hk0) (ht0 := ht0) h) hk0 ht0 (by decide) rfl rfl rfl (Nat.le_of_ble_eq_true rfl) rfl rfl ⟨Nat.le_of_ble_eq_true rfl, Nat.le_of_ble_eq_true rfl⟩ d_Mo_header_6 ⟨Nat.le_of_ble_eq_true rfl, Nat.le_of_ble_eq_true rfl⟩) (fun M1 h => ?_)
  refine a_aload_n fx 0 d_Mo_header_9 rfl rfl ?_
  refine a_lconst (v := 0) fx d_Mo_header_10 rfl ?_
  refine a_bipush (v := 6) fx d_Mo_header_11 rfl ?_
  refine a_callv (rest := []) (a_runV (As := [.long 0, .int 6]) fx cv_Mo_octal w_1577 (Met_Mo_octal l B D aC aS (hk0 := hk0) (ht0 := ht0) h) hk0 ht0 (by decide) rfl rfl rfl (Nat.le_of_ble_eq_true rfl) rfl rfl ⟨Nat.le_of_ble_eq_true rfl, Nat.le_of_ble_eq_true rfl⟩ d_Mo_header_13 ⟨Nat.le_of_ble_eq_true rfl, Nat.le_of_ble_eq_true rfl⟩) (fun M2 h => ?_)
  refine a_aload_n fx 0 d_Mo_header_16 rfl rfl ?_
  refine a_iload_n fx 1 d_Mo_header_17 rfl rfl ?_
  refine a_i2l fx d_Mo_header_18 ?_
  refine a_bipush (v := 6) fx d_Mo_header_19 rfl ?_
  refine a_callv (rest := []) (a_runV (As := [.long ((i1).toInt64), .int 6]) fx cv_Mo_octal w_1577 (Met_Mo_octal l B D aC aS (hk0 := hk0) (ht0 := ht0) h) hk0 ht0 (by decide) rfl rfl rfl (Nat.le_of_ble_eq_true rfl) rfl rfl ⟨Nat.le_of_ble_eq_true rfl, Nat.le_of_ble_eq_true rfl⟩ d_Mo_header_21 ⟨Nat.le_of_ble_eq_true rfl, Nat.le_of_ble_eq_true rfl⟩) (fun M3 h => ?_)
  refine a_aload_n fx 0 d_Mo_header_24 rfl rfl ?_
  refine a_iload_n fx 2 d_Mo_header_25 rfl rfl ?_
  refine a_i2l fx d_Mo_header_26 ?_
  refine a_bipush (v := 6) fx d_Mo_header_27 rfl ?_
  refine a_callv (rest := []) (a_runV (As := [.long ((i2).toInt64), .int 6]) fx cv_Mo_octal w_1577 (Met_Mo_octal l B D aC aS (hk0 := hk0) (ht0 := ht0) h) hk0 ht0 (by decide) rfl rfl rfl (Nat.le_of_ble_eq_true rfl) rfl rfl ⟨Nat.le_of_ble_eq_true rfl, Nat.le_of_ble_eq_true rfl⟩ d_Mo_header_29 ⟨Nat.le_of_ble_eq_true rfl, Nat.le_of_ble_eq_true rfl⟩) (fun M4 h => ?_)
  refine a_aload_n fx 0 d_Mo_header_32 rfl rfl ?_
  refine a_iload_n fx 3 d_Mo_header_33 rfl rfl ?_
  refine a_i2l fx d_Mo_header_34 ?_
  refine a_bipush (v := 6) fx d_Mo_header_35 rfl ?_
  refine a_callv (rest := []) (a_runV (As := [.long ((i3).toInt64), .int 6]) fx cv_Mo_octal w_1577 (Met_Mo_octal l B D aC aS (hk0 := hk0) (ht0 := ht0) h) hk0 ht0 (by decide) rfl rfl rfl (Nat.le_of_ble_eq_true rfl) rfl rfl ⟨Nat.le_of_ble_eq_true rfl, Nat.le_of_ble_eq_true rfl⟩ d_Mo_header_37 ⟨Nat.le_of_ble_eq_true rfl, Nat.le_of_ble_eq_true rfl⟩) (fun M5 h => ?_)
  refine a_aload_n fx 0 d_Mo_header_40 rfl rfl ?_
  refine a_iload fx 4 d_Mo_header_41 rfl ?_
  refine a_i2l fx d_Mo_header_43 ?_
  refine a_bipush (v := 6) fx d_Mo_header_44 rfl ?_
  refine a_callv (rest := []) (a_runV (As := [.long ((i4).toInt64), .int 6]) fx cv_Mo_octal w_1577 (Met_Mo_octal l B D aC aS (hk0 := hk0) (ht0 := ht0) h) hk0 ht0 (by decide) rfl rfl rfl (Nat.le_of_ble_eq_true rfl) rfl rfl ⟨Nat.le_of_ble_eq_true rfl, Nat.le_of_ble_eq_true rfl⟩ d_Mo_header_46 ⟨Nat.le_of_ble_eq_true rfl, Nat.le_of_ble_eq_true rfl⟩) (fun M6 h => ?_)
  refine a_aload_n fx 0 d_Mo_header_49 rfl rfl ?_
  refine a_iload fx 5 d_Mo_header_50 rfl ?_
  refine a_i2l fx d_Mo_header_52 ?_
  refine a_bipush (v := 6) fx d_Mo_header_53 rfl ?_
  refine a_callv (rest := []) (a_runV (As := [.long ((i5).toInt64), .int 6]) fx cv_Mo_octal w_1577 (Met_Mo_octal l B D aC aS (hk0 := hk0) (ht0 := ht0) h) hk0 ht0 (by decide) rfl rfl rfl (Nat.le_of_ble_eq_true rfl) rfl rfl ⟨Nat.le_of_ble_eq_true rfl, Nat.le_of_ble_eq_true rfl⟩ d_Mo_header_55 ⟨Nat.le_of_ble_eq_true rfl, Nat.le_of_ble_eq_true rfl⟩) (fun M7 h => ?_)
  refine a_aload_n fx 0 d_Mo_header_58 rfl rfl ?_
  refine a_lconst (v := 0) fx d_Mo_header_59 rfl ?_
  refine a_bipush (v := 6) fx d_Mo_header_60 rfl ?_
  refine a_callv (rest := []) (a_runV (As := [.long 0, .int 6]) fx cv_Mo_octal w_1577 (Met_Mo_octal l B D aC aS (hk0 := hk0) (ht0 := ht0) h) hk0 ht0 (by decide) rfl rfl rfl (Nat.le_of_ble_eq_true rfl) rfl rfl ⟨Nat.le_of_ble_eq_true rfl, Nat.le_of_ble_eq_true rfl⟩ d_Mo_header_62 ⟨Nat.le_of_ble_eq_true rfl, Nat.le_of_ble_eq_true rfl⟩) (fun M8 h => ?_)
  refine a_aload_n fx 0 d_Mo_header_65 rfl rfl ?_
  refine a_iload fx 6 d_Mo_header_66 rfl ?_
  refine a_i2l fx d_Mo_header_68 ?_
  refine a_bipush (v := 11) fx d_Mo_header_69 rfl ?_
  refine a_callv (rest := []) (a_runV (As := [.long ((i6).toInt64), .int 11]) fx cv_Mo_octal w_1577 (Met_Mo_octal l B D aC aS (hk0 := hk0) (ht0 := ht0) h) hk0 ht0 (by decide) rfl rfl rfl (Nat.le_of_ble_eq_true rfl) rfl rfl ⟨Nat.le_of_ble_eq_true rfl, Nat.le_of_ble_eq_true rfl⟩ d_Mo_header_71 ⟨Nat.le_of_ble_eq_true rfl, Nat.le_of_ble_eq_true rfl⟩) (fun M9 h => ?_)
  refine a_aload_n fx 0 d_Mo_header_74 rfl rfl ?_
  refine a_iload fx 7 d_Mo_header_75 rfl ?_
  refine a_iconst (v := 1) fx d_Mo_header_77 rfl ?_
  refine a_iadd fx d_Mo_header_78 ?_
  refine a_i2l fx d_Mo_header_79 ?_
  refine a_bipush (v := 6) fx d_Mo_header_80 rfl ?_
  refine a_callv (rest := []) (a_runV (As := [.long (((i7 + 1)).toInt64), .int 6]) fx cv_Mo_octal w_1577 (Met_Mo_octal l B D aC aS (hk0 := hk0) (ht0 := ht0) h) hk0 ht0 (by decide) rfl rfl rfl (Nat.le_of_ble_eq_true rfl) rfl rfl ⟨Nat.le_of_ble_eq_true rfl, Nat.le_of_ble_eq_true rfl⟩ d_Mo_header_82 ⟨Nat.le_of_ble_eq_true rfl, Nat.le_of_ble_eq_true rfl⟩) (fun M10 h => ?_)
  refine a_aload_n fx 0 d_Mo_header_85 rfl rfl ?_
  refine a_iload fx 8 d_Mo_header_86 rfl ?_
  refine a_i2l fx d_Mo_header_88 ?_
  refine a_bipush (v := 11) fx d_Mo_header_89 rfl ?_
  refine a_callv (rest := []) (a_runV (As := [.long ((i8).toInt64), .int 11]) fx cv_Mo_octal w_1577 (Met_Mo_octal l B D aC aS (hk0 := hk0) (ht0 := ht0) h) hk0 ht0 (by decide) rfl rfl rfl (Nat.le_of_ble_eq_true rfl) rfl rfl ⟨Nat.le_of_ble_eq_true rfl, Nat.le_of_ble_eq_true rfl⟩ d_Mo_header_91 ⟨Nat.le_of_ble_eq_true rfl, Nat.le_of_ble_eq_true rfl⟩) (fun M11 h => ?_)
  exact a_vret fx hlo hr h d_Mo_header_94
set_option maxRecDepth 100000 in
set_option maxHeartbeats 4000000 in
theorem Met_Mo_firstOf (l : Launch) (B : Nat) (D : va_G) (aC : Nat → ClassId) (aS : Nat → Nat) {a0 : Nat} {i1 : Int32} {i2 : Int32} {M : zM} {post : Int32 → zM → Prop} (hk0 : a0 < N0) (ht0 : tg a0 = 9) (h : Wp_Mo_firstOf a0 i1 i2 M post) : Met l y_Mo_firstOf (wo y_Mo_firstOf b_Mo_firstOf 7 (some FieldType.int)) { frames := 1, cells := 0, slots := 0, locals := 21 } (va_Pc [.ref (B + a0), .int i1, .int i2] (zWl B D aC aS M)) (zQi B D aC post) 0 0 (zAb B) := by
  refine z_met (own := "MailChainModel") (lv0 := [(0, .ref (B + a0)), (1, .int i1), (2, .int i2)]) (by decide) rfl (Nat.le_of_ble_eq_true rfl) rfl ?_
  intro p e s m below meth c fx hr hlo
  delta Wp_Mo_firstOf at h
  have h := h (fun v3 v4 v5 M => zAt p l e { frames := 1, cells := 0, slots := 0, locals := 21 } s m ([.ref (B + a0), .int i1, .int i2] : List Value).toArray below meth c 0 0 (MQ below (zQi B D aC post) ([.ref (B + a0), .int i1, .int i2] : List Value).toArray s 0 0 (zAb B)) B D aC 7 12 [(0, .ref (B + a0)), (1, .int i1), (2, .int i2), (3, .int v3), (4, .int v4), (5, .int v5)] [] M)
  have h := h (by
    intro v3 v4 v5 M h
    refine a_iload fx 5 d_Mo_firstOf_12 rfl ?_
    refine a_if_lt fx 77 d_Mo_firstOf_14 rfl (fun hc => ?_) (fun hc => ?_)
    · have h := h.1 hc
      refine a_iload fx 4 d_Mo_firstOf_77 rfl ?_
      exact a_iret fx hlo hr h d_Mo_firstOf_79
    · have h := h.2 hc
      refine a_iload_n fx 1 d_Mo_firstOf_17 rfl rfl ?_
      refine a_iload fx 5 d_Mo_firstOf_18 rfl ?_
      refine a_calli (rest := []) (a_runS (As := [.int i1, .int v5]) fx  cv_Mo_at w_1503 (Met_Mo_at l B D aC aS  h) rfl rfl (Nat.le_of_ble_eq_true rfl) rfl rfl ⟨Nat.le_of_ble_eq_true rfl, Nat.le_of_ble_eq_true rfl⟩ d_Mo_firstOf_20 ⟨Nat.le_of_ble_eq_true rfl, Nat.le_of_ble_eq_true rfl⟩) (fun x4 M3 h => ?_)
      refine a_istore (lv2 := [(6, .int x4), (0, .ref (B + a0)), (1, .int i1), (2, .int i2), (3, .int v3), (4, .int v4), (5, .int v5)]) fx d_Mo_firstOf_23 (by decide) rfl ?_
      refine a_aload_n fx 1 d_Mo_firstOf_25 rfl rfl ?_
      refine a_getS fx (T := F_Mo) (j := 12) (hk := hk0) (ht := ht0) (ht2 := by decide) (hc := rfl) (hin := u_in_Mo) (hj := by decide) (hj2 := by decide) (hf := rfl) (n9 := 11) (hfo := rfl) (hT := rfl) (hw := w_1281) (hd := d_Mo_firstOf_26) (kk := ?_)
      refine a_iload_n fx 4 d_Mo_firstOf_29 rfl rfl ?_
      obtain ⟨hin, h⟩ := h
      refine a_iald fx (lo_9_12 hk0 ht0).1 (lo_9_12 hk0 ht0).2 hin d_Mo_firstOf_30 ?_
      refine a_iconst (v := 1) fx d_Mo_firstOf_31 rfl ?_
      refine a_icmp_ne fx 67 d_Mo_firstOf_32 rfl (fun hc => ?_) (fun hc => ?_)
      · have h := h.1 hc
        refine a_iload fx 5 d_Mo_firstOf_67 rfl ?_
        refine a_istore (lv2 := [(4, .int v4), (6, .int x4), (0, .ref (B + a0)), (1, .int i1), (2, .int i2), (3, .int v3), (5, .int v5)]) fx d_Mo_firstOf_69 (by decide) rfl ?_
        obtain ⟨x5, ex5⟩ : ∃ z : Int32, z = v5 + (-1) := ⟨_, rfl⟩
        have h := h x5 ex5
        refine a_iinc (lv2 := [(5, .int x5), (4, .int v4), (6, .int x4), (0, .ref (B + a0)), (1, .int i1), (2, .int i2), (3, .int v3)]) fx 6 d_Mo_firstOf_71 rfl ex5.symm (by decide) rfl ?_
        refine a_goto fx 12 d_Mo_firstOf_74 rfl ?_
        refine a_sub [3, 4, 5, 6, 1, 0] rfl ?_
        exact h
      · have h := h.2 hc
        refine a_aload_n fx 1 d_Mo_firstOf_35 rfl rfl ?_
        refine a_getS fx (T := F_Mo) (j := 12) (hk := hk0) (ht := ht0) (ht2 := by decide) (hc := rfl) (hin := u_in_Mo) (hj := by decide) (hj2 := by decide) (hf := rfl) (n9 := 11) (hfo := rfl) (hT := rfl) (hw := w_1281) (hd := d_Mo_firstOf_36) (kk := ?_)
        refine a_iload fx 0 d_Mo_firstOf_39 rfl ?_
        obtain ⟨hin, h⟩ := h
        refine a_iald fx (lo_9_12 hk0 ht0).1 (lo_9_12 hk0 ht0).2 hin d_Mo_firstOf_41 ?_
        refine a_iconst (v := 1) fx d_Mo_firstOf_42 rfl ?_
        refine a_icmp_ne fx 67 d_Mo_firstOf_43 rfl (fun hc => ?_) (fun hc => ?_)
        · have h := h.1 hc
          refine a_iload fx 5 d_Mo_firstOf_67 rfl ?_
          refine a_istore (lv2 := [(4, .int v4), (6, .int x4), (0, .ref (B + a0)), (1, .int i1), (2, .int i2), (3, .int v3), (5, .int v5)]) fx d_Mo_firstOf_69 (by decide) rfl ?_
          obtain ⟨x6, ex6⟩ : ∃ z : Int32, z = v5 + (-1) := ⟨_, rfl⟩
          have h := h x6 ex6
          refine a_iinc (lv2 := [(5, .int x6), (4, .int v4), (6, .int x4), (0, .ref (B + a0)), (1, .int i1), (2, .int i2), (3, .int v3)]) fx 6 d_Mo_firstOf_71 rfl ex6.symm (by decide) rfl ?_
          refine a_goto fx 12 d_Mo_firstOf_74 rfl ?_
          refine a_sub [3, 4, 5, 6, 1, 0] rfl ?_
          exact h
        · have h := h.2 hc
          refine a_aload_n fx 1 d_Mo_firstOf_46 rfl rfl ?_
          refine a_getS fx (T := F_Mo) (j := 19) (hk := hk0) (ht := ht0) (ht2 := by decide) (hc := rfl) (hin := u_in_Mo) (hj := by decide) (hj2 := by decide) (hf := rfl) (n9 := 18) (hfo := rfl) (hT := rfl) (hw := w_1288) (hd := d_Mo_firstOf_47) (kk := ?_)
          refine a_iload fx 0 d_Mo_firstOf_50 rfl ?_
          obtain ⟨hin, h⟩ := h
          refine a_iald fx (lo_9_19 hk0 ht0).1 (lo_9_19 hk0 ht0).2 hin d_Mo_firstOf_52 ?_
          refine a_aload_n fx 1 d_Mo_firstOf_53 rfl rfl ?_
          refine a_getS fx (T := F_Mo) (j := 19) (hk := hk0) (ht := ht0) (ht2 := by decide) (hc := rfl) (hin := u_in_Mo) (hj := by decide) (hj2 := by decide) (hf := rfl) (n9 := 18) (hfo := rfl) (hT := rfl) (hw := w_1288) (hd := d_Mo_firstOf_54) (kk := ?_)
          refine a_iload_n fx 4 d_Mo_firstOf_57 rfl rfl ?_
          obtain ⟨hin, h⟩ := h
          refine a_iald fx (lo_9_19 hk0 ht0).1 (lo_9_19 hk0 ht0).2 hin d_Mo_firstOf_58 ?_
          refine a_icmp_ne fx 67 d_Mo_firstOf_59 rfl (fun hc => ?_) (fun hc => ?_)
          · have h := h.1 hc
            refine a_iload fx 5 d_Mo_firstOf_67 rfl ?_
            refine a_istore (lv2 := [(4, .int v4), (6, .int x4), (0, .ref (B + a0)), (1, .int i1), (2, .int i2), (3, .int v3), (5, .int v5)]) fx d_Mo_firstOf_69 (by decide) rfl ?_
            obtain ⟨x7, ex7⟩ : ∃ z : Int32, z = v5 + (-1) := ⟨_, rfl⟩
            have h := h x7 ex7
            refine a_iinc (lv2 := [(5, .int x7), (4, .int v4), (6, .int x4), (0, .ref (B + a0)), (1, .int i1), (2, .int i2), (3, .int v3)]) fx 6 d_Mo_firstOf_71 rfl ex7.symm (by decide) rfl ?_
            refine a_goto fx 12 d_Mo_firstOf_74 rfl ?_
            refine a_sub [3, 4, 5, 6, 1, 0] rfl ?_
            exact h
          · have h := h.2 hc
            refine a_iload fx 6 d_Mo_firstOf_62 rfl ?_
            refine a_goto fx 69 d_Mo_firstOf_64 rfl ?_
            refine a_istore (lv2 := [(4, .int v5), (6, .int x4), (0, .ref (B + a0)), (1, .int i1), (2, .int i2), (3, .int v3), (5, .int v5)]) fx d_Mo_firstOf_69 (by decide) rfl ?_
            obtain ⟨x8, ex8⟩ : ∃ z : Int32, z = v5 + (-1) := ⟨_, rfl⟩
            have h := h x8 ex8
            refine a_iinc (lv2 := [(5, .int x8), (4, .int v5), (6, .int x4), (0, .ref (B + a0)), (1, .int i1), (2, .int i2), (3, .int v3)]) fx 6 d_Mo_firstOf_71 rfl ex8.symm (by decide) rfl ?_
            refine a_goto fx 12 d_Mo_firstOf_74 rfl ?_
            refine a_sub [3, 4, 5, 6, 1, 0] rfl ?_
            exact h)
  refine a_iload_n fx 1 d_Mo_firstOf_0 rfl rfl ?_
  refine a_iload_n fx 2 d_Mo_firstOf_1 rfl rfl ?_
  refine a_calli (rest := []) (a_runS (As := [.int i1, .int i2]) fx  cv_Mo_at w_1503 (Met_Mo_at l B D aC aS  h) rfl rfl (Nat.le_of_ble_eq_true rfl) rfl rfl ⟨Nat.le_of_ble_eq_true rfl, Nat.le_of_ble_eq_true rfl⟩ d_Mo_firstOf_2 ⟨Nat.le_of_ble_eq_true rfl, Nat.le_of_ble_eq_true rfl⟩) (fun x2 M1 h => ?_)
  refine a_istore_n (lv2 := [(3, .int x2), (0, .ref (B + a0)), (1, .int i1), (2, .int i2)]) fx d_Mo_firstOf_5 rfl (by decide) rfl ?_
  refine a_iload_n fx 3 d_Mo_firstOf_6 rfl rfl ?_
  refine a_istore (lv2 := [(4, .int i2), (3, .int x2), (0, .ref (B + a0)), (1, .int i1), (2, .int i2)]) fx d_Mo_firstOf_7 (by decide) rfl ?_
  refine a_iload_n fx 4 d_Mo_firstOf_9 rfl rfl ?_
  refine a_istore (lv2 := [(5, .int i2), (4, .int i2), (3, .int x2), (0, .ref (B + a0)), (1, .int i1), (2, .int i2)]) fx d_Mo_firstOf_10 (by decide) rfl ?_
  refine a_sub [3, 4, 5, 2, 1, 0] rfl ?_
  exact h
set_option maxRecDepth 100000 in
set_option maxHeartbeats 4000000 in
theorem Met_Mo_linksOf (l : Launch) (B : Nat) (D : va_G) (aC : Nat → ClassId) (aS : Nat → Nat) {a0 : Nat} {i1 : Int32} {i2 : Int32} {M : zM} {post : Int32 → zM → Prop} (hk0 : a0 < N0) (ht0 : tg a0 = 9) (h : Wp_Mo_linksOf a0 i1 i2 M post) : Met l y_Mo_linksOf (wo y_Mo_linksOf b_Mo_linksOf 6 (some FieldType.int)) { frames := 2, cells := 0, slots := 0, locals := 47 } (va_Pc [.ref (B + a0), .int i1, .int i2] (zWl B D aC aS M)) (zQi B D aC post) 0 0 (zAb B) := by
  refine z_met (own := "MailChainModel") (lv0 := [(0, .ref (B + a0)), (1, .int i1), (2, .int i2)]) (by decide) rfl (Nat.le_of_ble_eq_true rfl) rfl ?_
  intro p e s m below meth c fx hr hlo
  delta Wp_Mo_linksOf at h
  have h := h (fun v3 v4 v5 M => zAt p l e { frames := 2, cells := 0, slots := 0, locals := 47 } s m ([.ref (B + a0), .int i1, .int i2] : List Value).toArray below meth c 0 0 (MQ below (zQi B D aC post) ([.ref (B + a0), .int i1, .int i2] : List Value).toArray s 0 0 (zAb B)) B D aC 6 13 [(0, .ref (B + a0)), (1, .int i1), (2, .int i2), (3, .int v3), (4, .int v4), (5, .int v5)] [] M)
  have h := h (by
    intro v3 v4 v5 M h
    refine a_iload fx 5 d_Mo_linksOf_13 rfl ?_
    refine a_aload_n fx 0 d_Mo_linksOf_15 rfl rfl ?_
    refine a_getS fx (T := F_Mo) (j := 9) (hk := hk0) (ht := ht0) (ht2 := by decide) (hc := rfl) (hin := u_in_Mo) (hj := by decide) (hj2 := by decide) (hf := rfl) (n9 := 8) (hfo := rfl) (hT := rfl) (hw := w_1278) (hd := d_Mo_linksOf_16) (kk := ?_)
    refine a_iload_n fx 1 d_Mo_linksOf_19 rfl rfl ?_
    obtain ⟨hin, h⟩ := h
    refine a_iald fx (lo_9_9 hk0 ht0).1 (lo_9_9 hk0 ht0).2 hin d_Mo_linksOf_20 ?_
    refine a_icmp_ge fx 52 d_Mo_linksOf_21 rfl (fun hc => ?_) (fun hc => ?_)
    · have h := h.1 hc
      refine a_iload fx 4 d_Mo_linksOf_52 rfl ?_
      exact a_iret fx hlo hr h d_Mo_linksOf_54
    · have h := h.2 hc
      refine a_aload_n fx 0 d_Mo_linksOf_24 rfl rfl ?_
      refine a_iload_n fx 1 d_Mo_linksOf_25 rfl rfl ?_
      refine a_iload fx 5 d_Mo_linksOf_26 rfl ?_
      refine a_calli (rest := []) (a_runV (As := [.int i1, .int v5]) fx cv_Mo_firstOf w_1564 (Met_Mo_firstOf l B D aC aS (hk0 := hk0) (ht0 := ht0) h) hk0 ht0 (by decide) rfl rfl rfl (Nat.le_of_ble_eq_true rfl) rfl rfl ⟨Nat.le_of_ble_eq_true rfl, Nat.le_of_ble_eq_true rfl⟩ d_Mo_linksOf_28 ⟨Nat.le_of_ble_eq_true rfl, Nat.le_of_ble_eq_true rfl⟩) (fun x4 M3 h => ?_)
      refine a_iload_n fx 3 d_Mo_linksOf_31 rfl rfl ?_
      refine a_icmp_ne fx 42 d_Mo_linksOf_32 rfl (fun hc => ?_) (fun hc => ?_)
      · have h := h.1 hc
        refine a_iload fx 4 d_Mo_linksOf_42 rfl ?_
        refine a_istore (lv2 := [(4, .int v4), (0, .ref (B + a0)), (1, .int i1), (2, .int i2), (3, .int v3), (5, .int v5)]) fx d_Mo_linksOf_44 (by decide) rfl ?_
        obtain ⟨x5, ex5⟩ : ∃ z : Int32, z = v5 + 1 := ⟨_, rfl⟩
        have h := h x5 ex5
        refine a_iinc (lv2 := [(5, .int x5), (4, .int v4), (0, .ref (B + a0)), (1, .int i1), (2, .int i2), (3, .int v3)]) fx 5 d_Mo_linksOf_46 rfl ex5.symm (by decide) rfl ?_
        refine a_goto fx 13 d_Mo_linksOf_49 rfl ?_
        refine a_sub [2, 3, 4, 5, 1, 0] rfl ?_
        exact h
      · have h := h.2 hc
        refine a_iload fx 4 d_Mo_linksOf_35 rfl ?_
        refine a_iconst (v := 1) fx d_Mo_linksOf_37 rfl ?_
        refine a_iadd fx d_Mo_linksOf_38 ?_
        refine a_goto fx 44 d_Mo_linksOf_39 rfl ?_
        refine a_topi (fun x6 ex6 => ?_)
        have h := h x6 ex6
        refine a_istore (lv2 := [(4, .int x6), (0, .ref (B + a0)), (1, .int i1), (2, .int i2), (3, .int v3), (5, .int v5)]) fx d_Mo_linksOf_44 (by decide) rfl ?_
        obtain ⟨x7, ex7⟩ : ∃ z : Int32, z = v5 + 1 := ⟨_, rfl⟩
        have h := h x7 ex7
        refine a_iinc (lv2 := [(5, .int x7), (4, .int x6), (0, .ref (B + a0)), (1, .int i1), (2, .int i2), (3, .int v3)]) fx 5 d_Mo_linksOf_46 rfl ex7.symm (by decide) rfl ?_
        refine a_goto fx 13 d_Mo_linksOf_49 rfl ?_
        refine a_sub [2, 3, 4, 5, 1, 0] rfl ?_
        exact h)
  refine a_aload_n fx 0 d_Mo_linksOf_0 rfl rfl ?_
  refine a_iload_n fx 1 d_Mo_linksOf_1 rfl rfl ?_
  refine a_iload_n fx 2 d_Mo_linksOf_2 rfl rfl ?_
  refine a_calli (rest := []) (a_runV (As := [.int i1, .int i2]) fx cv_Mo_firstOf w_1564 (Met_Mo_firstOf l B D aC aS (hk0 := hk0) (ht0 := ht0) h) hk0 ht0 (by decide) rfl rfl rfl (Nat.le_of_ble_eq_true rfl) rfl rfl ⟨Nat.le_of_ble_eq_true rfl, Nat.le_of_ble_eq_true rfl⟩ d_Mo_linksOf_3 ⟨Nat.le_of_ble_eq_true rfl, Nat.le_of_ble_eq_true rfl⟩) (fun x2 M1 h => ?_)
  refine a_istore_n (lv2 := [(3, .int x2), (0, .ref (B + a0)), (1, .int i1), (2, .int i2)]) fx d_Mo_linksOf_6 rfl (by decide) rfl ?_
  refine a_iconst (v := 0) fx d_Mo_linksOf_7 rfl ?_
  refine a_istore (lv2 := [(4, .int 0), (3, .int x2), (0, .ref (B + a0)), (1, .int i1), (2, .int i2)]) fx d_Mo_linksOf_8 (by decide) rfl ?_
  refine a_iconst (v := 0) fx d_Mo_linksOf_10 rfl ?_
  refine a_istore (lv2 := [(5, .int 0), (4, .int 0), (3, .int x2), (0, .ref (B + a0)), (1, .int i1), (2, .int i2)]) fx d_Mo_linksOf_11 (by decide) rfl ?_
  refine a_sub [3, 4, 5, 2, 1, 0] rfl ?_
  exact h
set_option maxRecDepth 100000 in
set_option maxHeartbeats 4000000 in
theorem Met_Mo_archiveOf (l : Launch) (B : Nat) (D : va_G) (aC : Nat → ClassId) (aS : Nat → Nat) {a0 : Nat} {i1 : Int32} {M : zM} {post : zM → Prop} (hk0 : a0 < N0) (ht0 : tg a0 = 9) (h : Wp_Mo_archiveOf a0 i1 M post) : Met l y_Mo_archiveOf (wo y_Mo_archiveOf b_Mo_archiveOf 6 none) { frames := 3, cells := 0, slots := 0, locals := 72 } (va_Pc [.ref (B + a0), .int i1] (zWl B D aC aS M)) (zQv B D aC post) 0 0 (zAb B) := by
  refine z_met (own := "MailChainModel") (lv0 := [(0, .ref (B + a0)), (1, .int i1)]) (by decide) rfl (Nat.le_of_ble_eq_true rfl) rfl ?_
  intro p e s m below meth c fx hr hlo
  delta Wp_Mo_archiveOf at h
  have h := h (fun v2 M => zAt p l e { frames := 3, cells := 0, slots := 0, locals := 72 } s m ([.ref (B + a0), .int i1] : List Value).toArray below meth c 0 0 (MQ below (zQv B D aC post) ([.ref (B + a0), .int i1] : List Value).toArray s 0 0 (zAb B)) B D aC 6 7 [(0, .ref (B + a0)), (1, .int i1), (2, .int v2)] [] M)
  have h := h (fun v2 v3 w0 M => zAt p l e { frames := 3, cells := 0, slots := 0, locals := 72 } s m ([.ref (B + a0), .int i1] : List Value).toArray below meth c 0 0 (MQ below (zQv B D aC post) ([.ref (B + a0), .int i1] : List Value).toArray s 0 0 (zAb B)) B D aC 6 55 [(0, .ref (B + a0)), (1, .int i1), (2, .int v2), (3, .int v3)] [.int w0] M)
  have h := h (fun v2 v3 v5 M => zAt p l e { frames := 3, cells := 0, slots := 0, locals := 72 } s m ([.ref (B + a0), .int i1] : List Value).toArray below meth c 0 0 (MQ below (zQv B D aC post) ([.ref (B + a0), .int i1] : List Value).toArray s 0 0 (zAb B)) B D aC 6 117 [(0, .ref (B + a0)), (1, .int i1), (2, .int v2), (3, .int v3), (5, .int v5)] [] M)
  have h := h (fun v2 v3 v5 M => zAt p l e { frames := 3, cells := 0, slots := 0, locals := 72 } s m ([.ref (B + a0), .int i1] : List Value).toArray below meth c 0 0 (MQ below (zQv B D aC post) ([.ref (B + a0), .int i1] : List Value).toArray s 0 0 (zAb B)) B D aC 6 172 [(0, .ref (B + a0)), (1, .int i1), (2, .int v2), (3, .int v3), (5, .int v5)] [] M)
  have h := h (fun v2 M => zAt p l e { frames := 3, cells := 0, slots := 0, locals := 72 } s m ([.ref (B + a0), .int i1] : List Value).toArray below meth c 0 0 (MQ below (zQv B D aC post) ([.ref (B + a0), .int i1] : List Value).toArray s 0 0 (zAb B)) B D aC 6 249 [(0, .ref (B + a0)), (1, .int i1), (2, .int v2)] [] M)
  have h := h (by
    intro v2 M h
    refine a_iload_n fx 2 d_Mo_archiveOf_7 rfl rfl ?_
    refine a_aload_n fx 0 d_Mo_archiveOf_8 rfl rfl ?_
    refine a_getS fx (T := F_Mo) (j := 9) (hk := hk0) (ht := ht0) (ht2 := by decide) (hc := rfl) (hin := u_in_Mo) (hj := by decide) (hj2 := by decide) (hf := rfl) (n9 := 8) (hfo := rfl) (hT := rfl) (hw := w_1278) (hd := d_Mo_archiveOf_9) (kk := ?_)
    refine a_iload_n fx 1 d_Mo_archiveOf_12 rfl rfl ?_
    obtain ⟨hin, h⟩ := h
    refine a_iald fx (lo_9_9 hk0 ht0).1 (lo_9_9 hk0 ht0).2 hin d_Mo_archiveOf_13 ?_
    refine a_icmp_ge fx 234 d_Mo_archiveOf_14 rfl (fun hc => ?_) (fun hc => ?_)
    · have h := h.1 hc
      refine a_aload_n fx 0 d_Mo_archiveOf_234 rfl rfl ?_
      refine a_iconst (v := 0) fx d_Mo_archiveOf_235 rfl ?_
      refine a_iconst (v := 0) fx d_Mo_archiveOf_236 rfl ?_
      refine a_iconst (v := 0) fx d_Mo_archiveOf_237 rfl ?_
      refine a_iconst (v := 0) fx d_Mo_archiveOf_238 rfl ?_
      refine a_iconst (v := 1) fx d_Mo_archiveOf_239 rfl ?_
      refine a_iconst (v := 0) fx d_Mo_archiveOf_240 rfl ?_
      refine a_bipush (v := 10) fx d_Mo_archiveOf_241 rfl ?_
      refine a_iconst (v := 0) fx d_Mo_archiveOf_243 rfl ?_
      refine a_callv (rest := []) (a_runV (As := [.int 0, .int 0, .int 0, .int 0, .int 1, .int 0, .int 10, .int 0]) fx cv_Mo_header w_1572 (Met_Mo_header l B D aC aS (hk0 := hk0) (ht0 := ht0) h) hk0 ht0 (by decide) rfl rfl rfl (Nat.le_of_ble_eq_true rfl) rfl rfl ⟨Nat.le_of_ble_eq_true rfl, Nat.le_of_ble_eq_true rfl⟩ d_Mo_archiveOf_244 ⟨Nat.le_of_ble_eq_true rfl, Nat.le_of_ble_eq_true rfl⟩) (fun M2 h => ?_)
      refine a_iconst (v := 0) fx d_Mo_archiveOf_247 rfl ?_
      refine a_istore_n (lv2 := [(2, .int 0), (0, .ref (B + a0)), (1, .int i1)]) fx d_Mo_archiveOf_248 rfl (by decide) rfl ?_
      refine a_sub [1, 2, 0] rfl ?_
      exact h
    · have h := h.2 hc
      refine a_iload_n fx 1 d_Mo_archiveOf_17 rfl rfl ?_
      refine a_iload_n fx 2 d_Mo_archiveOf_18 rfl rfl ?_
      refine a_calli (rest := []) (a_runS (As := [.int i1, .int v2]) fx  cv_Mo_at w_1503 (Met_Mo_at l B D aC aS  h) rfl rfl (Nat.le_of_ble_eq_true rfl) rfl rfl ⟨Nat.le_of_ble_eq_true rfl, Nat.le_of_ble_eq_true rfl⟩ d_Mo_archiveOf_19 ⟨Nat.le_of_ble_eq_true rfl, Nat.le_of_ble_eq_true rfl⟩) (fun x4 M3 h => ?_)
      refine a_istore_n (lv2 := [(3, .int x4), (0, .ref (B + a0)), (1, .int i1), (2, .int v2)]) fx d_Mo_archiveOf_22 rfl (by decide) rfl ?_
      refine a_aload_n fx 1 d_Mo_archiveOf_23 rfl rfl ?_
      refine a_getS fx (T := F_Mo) (j := 12) (hk := hk0) (ht := ht0) (ht2 := by decide) (hc := rfl) (hin := u_in_Mo) (hj := by decide) (hj2 := by decide) (hf := rfl) (n9 := 11) (hfo := rfl) (hT := rfl) (hw := w_1281) (hd := d_Mo_archiveOf_24) (kk := ?_)
      refine a_iload_n fx 0 d_Mo_archiveOf_27 rfl rfl ?_
      obtain ⟨hin, h⟩ := h
      refine a_iald fx (lo_9_12 hk0 ht0).1 (lo_9_12 hk0 ht0).2 hin d_Mo_archiveOf_28 ?_
      refine a_if_ne fx 38 d_Mo_archiveOf_29 rfl (fun hc => ?_) (fun hc => ?_)
      · have h := h.1 hc
        refine a_aload_n fx 1 d_Mo_archiveOf_38 rfl rfl ?_
        refine a_getS fx (T := F_Mo) (j := 12) (hk := hk0) (ht := ht0) (ht2 := by decide) (hc := rfl) (hin := u_in_Mo) (hj := by decide) (hj2 := by decide) (hf := rfl) (n9 := 11) (hfo := rfl) (hT := rfl) (hw := w_1281) (hd := d_Mo_archiveOf_39) (kk := ?_)
        refine a_iload_n fx 0 d_Mo_archiveOf_42 rfl rfl ?_
        obtain ⟨hin, h⟩ := h
        refine a_iald fx (lo_9_12 hk0 ht0).1 (lo_9_12 hk0 ht0).2 hin d_Mo_archiveOf_43 ?_
        refine a_iconst (v := 1) fx d_Mo_archiveOf_44 rfl ?_
        refine a_icmp_ne fx 53 d_Mo_archiveOf_45 rfl (fun hc => ?_) (fun hc => ?_)
        · have h := h.1 hc
          refine a_ldc fx w_1563 d_Mo_archiveOf_53 ?_
          refine a_sub [1, 2, 3, 0] rfl ?_
          exact h
        · have h := h.2 hc
          refine a_ldc fx w_1562 d_Mo_archiveOf_48 ?_
          refine a_goto fx 55 d_Mo_archiveOf_50 rfl ?_
          refine a_sub [1, 2, 3, 0] rfl ?_
          exact h
      · have h := h.2 hc
        refine a_sipush (v := 16384) fx d_Mo_archiveOf_32 rfl ?_
        refine a_goto fx 55 d_Mo_archiveOf_35 rfl ?_
        refine a_sub [1, 2, 3, 0] rfl ?_
        exact h)
  have h := h (by
    intro v2 v3 w0 M h
    refine a_istore (lv2 := [(4, .int w0), (0, .ref (B + a0)), (1, .int i1), (2, .int v2), (3, .int v3)]) fx d_Mo_archiveOf_55 (by decide) rfl ?_
    refine a_aload_n fx 1 d_Mo_archiveOf_57 rfl rfl ?_
    refine a_aload_n fx 1 d_Mo_archiveOf_58 rfl rfl ?_
    refine a_iload_n fx 2 d_Mo_archiveOf_59 rfl rfl ?_
    refine a_iload_n fx 3 d_Mo_archiveOf_60 rfl rfl ?_
    refine a_calli (rest := [.ref (B + a0)]) (a_runV (As := [.int i1, .int v2]) fx cv_Mo_firstOf w_1564 (Met_Mo_firstOf l B D aC aS (hk0 := hk0) (ht0 := ht0) h) hk0 ht0 (by decide) rfl rfl rfl (Nat.le_of_ble_eq_true rfl) rfl rfl ⟨Nat.le_of_ble_eq_true rfl, Nat.le_of_ble_eq_true rfl⟩ d_Mo_archiveOf_61 ⟨Nat.le_of_ble_eq_true rfl, Nat.le_of_ble_eq_true rfl⟩) (fun x10 M9 h => ?_)
    refine a_iconst (v := 1) fx d_Mo_archiveOf_64 rfl ?_
    refine a_iadd fx d_Mo_archiveOf_65 ?_
    refine a_iload fx 0 d_Mo_archiveOf_66 rfl ?_
    refine a_aload_n fx 1 d_Mo_archiveOf_68 rfl rfl ?_
    refine a_getS fx (T := F_Mo) (j := 13) (hk := hk0) (ht := ht0) (ht2 := by decide) (hc := rfl) (hin := u_in_Mo) (hj := by decide) (hj2 := by decide) (hf := rfl) (n9 := 12) (hfo := rfl) (hT := rfl) (hw := w_1282) (hd := d_Mo_archiveOf_69) (kk := ?_)
    refine a_iload_n fx 4 d_Mo_archiveOf_72 rfl rfl ?_
    obtain ⟨hin, h⟩ := h
    refine a_iald fx (lo_9_13 hk0 ht0).1 (lo_9_13 hk0 ht0).2 hin d_Mo_archiveOf_73 ?_
    refine a_iadd fx d_Mo_archiveOf_74 ?_
    refine a_aload_n fx 1 d_Mo_archiveOf_75 rfl rfl ?_
    refine a_getS fx (T := F_Mo) (j := 14) (hk := hk0) (ht := ht0) (ht2 := by decide) (hc := rfl) (hin := u_in_Mo) (hj := by decide) (hj2 := by decide) (hf := rfl) (n9 := 13) (hfo := rfl) (hT := rfl) (hw := w_1283) (hd := d_Mo_archiveOf_76) (kk := ?_)
    refine a_iload_n fx 4 d_Mo_archiveOf_79 rfl rfl ?_
    obtain ⟨hin, h⟩ := h
    refine a_iald fx (lo_9_14 hk0 ht0).1 (lo_9_14 hk0 ht0).2 hin d_Mo_archiveOf_80 ?_
    refine a_aload_n fx 1 d_Mo_archiveOf_81 rfl rfl ?_
    refine a_getS fx (T := F_Mo) (j := 15) (hk := hk0) (ht := ht0) (ht2 := by decide) (hc := rfl) (hin := u_in_Mo) (hj := by decide) (hj2 := by decide) (hf := rfl) (n9 := 14) (hfo := rfl) (hT := rfl) (hw := w_1284) (hd := d_Mo_archiveOf_82) (kk := ?_)
    refine a_iload_n fx 4 d_Mo_archiveOf_85 rfl rfl ?_
    obtain ⟨hin, h⟩ := h
    refine a_iald fx (lo_9_15 hk0 ht0).1 (lo_9_15 hk0 ht0).2 hin d_Mo_archiveOf_86 ?_
    refine a_aload_n fx 1 d_Mo_archiveOf_87 rfl rfl ?_
    refine a_iload_n fx 2 d_Mo_archiveOf_88 rfl rfl ?_
    refine a_iload_n fx 3 d_Mo_archiveOf_89 rfl rfl ?_
    refine a_calli (rest := [.int (M9.1 (a0 + 14) (v3).toNatClampNeg), .int (M9.1 (a0 + 13) (v3).toNatClampNeg), .int (w0 + (M9.1 (a0 + 12) (v3).toNatClampNeg)), .int (x10 + 1), .ref (B + a0)]) (a_runV (As := [.int i1, .int v2]) fx cv_Mo_linksOf w_1568 (Met_Mo_linksOf l B D aC aS (hk0 := hk0) (ht0 := ht0) h) hk0 ht0 (by decide) rfl rfl rfl (Nat.le_of_ble_eq_true rfl) rfl rfl ⟨Nat.le_of_ble_eq_true rfl, Nat.le_of_ble_eq_true rfl⟩ d_Mo_archiveOf_90 ⟨Nat.le_of_ble_eq_true rfl, Nat.le_of_ble_eq_true rfl⟩) (fun x12 M11 h => ?_)
    refine a_aload_n fx 1 d_Mo_archiveOf_93 rfl rfl ?_
    refine a_getS fx (T := F_Mo) (j := 16) (hk := hk0) (ht := ht0) (ht2 := by decide) (hc := rfl) (hin := u_in_Mo) (hj := by decide) (hj2 := by decide) (hf := rfl) (n9 := 15) (hfo := rfl) (hT := rfl) (hw := w_1285) (hd := d_Mo_archiveOf_94) (kk := ?_)
    refine a_iload_n fx 4 d_Mo_archiveOf_97 rfl rfl ?_
    obtain ⟨hin, h⟩ := h
    refine a_iald fx (lo_9_16 hk0 ht0).1 (lo_9_16 hk0 ht0).2 hin d_Mo_archiveOf_98 ?_
    refine a_aload_n fx 1 d_Mo_archiveOf_99 rfl rfl ?_
    refine a_getS fx (T := F_Mo) (j := 11) (hk := hk0) (ht := ht0) (ht2 := by decide) (hc := rfl) (hin := u_in_Mo) (hj := by decide) (hj2 := by decide) (hf := rfl) (n9 := 10) (hfo := rfl) (hT := rfl) (hw := w_1280) (hd := d_Mo_archiveOf_100) (kk := ?_)
    refine a_iload_n fx 4 d_Mo_archiveOf_103 rfl rfl ?_
    obtain ⟨hin, h⟩ := h
    refine a_iald fx (lo_9_11 hk0 ht0).1 (lo_9_11 hk0 ht0).2 hin d_Mo_archiveOf_104 ?_
    refine a_aload_n fx 1 d_Mo_archiveOf_105 rfl rfl ?_
    refine a_getS fx (T := F_Mo) (j := 18) (hk := hk0) (ht := ht0) (ht2 := by decide) (hc := rfl) (hin := u_in_Mo) (hj := by decide) (hj2 := by decide) (hf := rfl) (n9 := 17) (hfo := rfl) (hT := rfl) (hw := w_1287) (hd := d_Mo_archiveOf_106) (kk := ?_)
    refine a_iload_n fx 4 d_Mo_archiveOf_109 rfl rfl ?_
    obtain ⟨hin, h⟩ := h
    refine a_iald fx (lo_9_18 hk0 ht0).1 (lo_9_18 hk0 ht0).2 hin d_Mo_archiveOf_110 ?_
    refine a_callv (rest := []) (a_runV (As := [.int (x10 + 1), .int (w0 + (M9.1 (a0 + 12) (v3).toNatClampNeg)), .int (M9.1 (a0 + 13) (v3).toNatClampNeg), .int (M9.1 (a0 + 14) (v3).toNatClampNeg), .int x12, .int (M11.1 (a0 + 15) (v3).toNatClampNeg), .int (M11.1 (a0 + 10) (v3).toNatClampNeg), .int (M11.1 (a0 + 17) (v3).toNatClampNeg)]) fx cv_Mo_header w_1572 (Met_Mo_header l B D aC aS (hk0 := hk0) (ht0 := ht0) h) hk0 ht0 (by decide) rfl rfl rfl (Nat.le_of_ble_eq_true rfl) rfl rfl ⟨Nat.le_of_ble_eq_true rfl, Nat.le_of_ble_eq_true rfl⟩ d_Mo_archiveOf_111 ⟨Nat.le_of_ble_eq_true rfl, Nat.le_of_ble_eq_true rfl⟩) (fun M13 h => ?_)
    refine a_iconst (v := 0) fx d_Mo_archiveOf_114 rfl ?_
    refine a_istore (lv2 := [(5, .int 0), (4, .int w0), (0, .ref (B + a0)), (1, .int i1), (2, .int v2), (3, .int v3)]) fx d_Mo_archiveOf_115 (by decide) rfl ?_
    refine a_sub [2, 3, 4, 5, 0] rfl ?_
    exact h)
  have h := h (by
    intro v2 v3 v5 M h
    refine a_iload fx 4 d_Mo_archiveOf_117 rfl ?_
    refine a_aload_n fx 0 d_Mo_archiveOf_119 rfl rfl ?_
    refine a_getS fx (T := F_Mo) (j := 11) (hk := hk0) (ht := ht0) (ht2 := by decide) (hc := rfl) (hin := u_in_Mo) (hj := by decide) (hj2 := by decide) (hf := rfl) (n9 := 10) (hfo := rfl) (hT := rfl) (hw := w_1280) (hd := d_Mo_archiveOf_120) (kk := ?_)
    refine a_iload_n fx 3 d_Mo_archiveOf_123 rfl rfl ?_
    obtain ⟨hin, h⟩ := h
    refine a_iald fx (lo_9_11 hk0 ht0).1 (lo_9_11 hk0 ht0).2 hin d_Mo_archiveOf_124 ?_
    refine a_icmp_ge fx 165 d_Mo_archiveOf_125 rfl (fun hc => ?_) (fun hc => ?_)
    · have h := h.1 hc
      refine a_aload_n fx 0 d_Mo_archiveOf_165 rfl rfl ?_
      refine a_callv (rest := []) (a_runV (As := []) fx cv_Mo_zero w_1582 (Met_Mo_zero l B D aC aS (hk0 := hk0) (ht0 := ht0) h) hk0 ht0 (by decide) rfl rfl rfl (Nat.le_of_ble_eq_true rfl) rfl rfl ⟨Nat.le_of_ble_eq_true rfl, Nat.le_of_ble_eq_true rfl⟩ d_Mo_archiveOf_166 ⟨Nat.le_of_ble_eq_true rfl, Nat.le_of_ble_eq_true rfl⟩) (fun M14 h => ?_)
      refine a_iconst (v := 0) fx d_Mo_archiveOf_169 rfl ?_
      refine a_istore (lv2 := [(5, .int 0), (0, .ref (B + a0)), (1, .int i1), (2, .int v2), (3, .int v3)]) fx d_Mo_archiveOf_170 (by decide) rfl ?_
      refine a_sub [1, 2, 3, 4, 0] rfl ?_
      exact h
    · have h := h.2 hc
      refine a_aload_n fx 0 d_Mo_archiveOf_128 rfl rfl ?_
      refine a_getS fx (T := F_Mo) (j := 26) (hk := hk0) (ht := ht0) (ht2 := by decide) (hc := rfl) (hin := u_in_Mo) (hj := by decide) (hj2 := by decide) (hf := rfl) (n9 := 22) (hfo := rfl) (hT := rfl) (hw := w_1295) (hd := d_Mo_archiveOf_129) (kk := ?_)
      refine a_aload_n fx 0 d_Mo_archiveOf_132 rfl rfl ?_
      refine a_getI fx (T := F_Mo) (j := 25) (hk := hk0) (ht := ht0) (ht2 := by decide) (hc := rfl) (hin := u_in_Mo) (hj := by decide) (hj2 := by decide) (hf := rfl) (hT := rfl) (hw := w_1294) (hd := d_Mo_archiveOf_133) (kk := ?_)
      refine a_aload_n fx 0 d_Mo_archiveOf_136 rfl rfl ?_
      refine a_getS fx (T := F_Mo) (j := 10) (hk := hk0) (ht := ht0) (ht2 := by decide) (hc := rfl) (hin := u_in_Mo) (hj := by decide) (hj2 := by decide) (hf := rfl) (n9 := 9) (hfo := rfl) (hT := rfl) (hw := w_1279) (hd := d_Mo_archiveOf_137) (kk := ?_)
      refine a_bipush (v := 60) fx d_Mo_archiveOf_140 rfl ?_
      refine a_iload_n fx 3 d_Mo_archiveOf_142 rfl rfl ?_
      refine a_imul fx d_Mo_archiveOf_143 ?_
      refine a_iload fx 4 d_Mo_archiveOf_144 rfl ?_
      refine a_iadd fx d_Mo_archiveOf_146 ?_
      obtain ⟨hin, h⟩ := h
      refine a_bald fx (lo_9_10 hk0 ht0).1 (lo_9_10 hk0 ht0).2 hin d_Mo_archiveOf_147 ?_
      obtain ⟨hin, h⟩ := h
      refine a_bast fx (lo_9_26 hk0 ht0).1 (lo_9_26 hk0 ht0).2 hin d_Mo_archiveOf_148 (a_mem (fun M15 eM15 => ?_))
      have h := h M15 eM15
      refine a_aload_n fx 0 d_Mo_archiveOf_149 rfl rfl ?_
      refine a_dup fx d_Mo_archiveOf_150 rfl ?_
      refine a_getI fx (T := F_Mo) (j := 25) (hk := hk0) (ht := ht0) (ht2 := by decide) (hc := rfl) (hin := u_in_Mo) (hj := by decide) (hj2 := by decide) (hf := rfl) (hT := rfl) (hw := w_1294) (hd := d_Mo_archiveOf_151) (kk := ?_)
      refine a_iconst (v := 1) fx d_Mo_archiveOf_154 rfl ?_
      refine a_iadd fx d_Mo_archiveOf_155 ?_
      refine a_putI fx (T := F_Mo) (ty0 := t_Mo) (j := 25) (hk := hk0) (ht := ht0) (ht2 := by decide) (hc := rfl) (hin := u_in_Mo) (hty := t_Mo_ok) (hnm := n_Mo) (hj := by decide) (hj2 := by decide) (hf := rfl) (hT := rfl) (hfin := rfl) (hn := rfl) (hfit := rfl) (hw := w_1294) (hd := d_Mo_archiveOf_156) (kk := a_mem (fun M16 eM16 => ?_))
      have h := h M16 eM16
      obtain ⟨x17, ex17⟩ : ∃ z : Int32, z = v5 + 1 := ⟨_, rfl⟩
      have h := h x17 ex17
      refine a_iinc (lv2 := [(5, .int x17), (0, .ref (B + a0)), (1, .int i1), (2, .int v2), (3, .int v3)]) fx 4 d_Mo_archiveOf_159 rfl ex17.symm (by decide) rfl ?_
      refine a_goto fx 117 d_Mo_archiveOf_162 rfl ?_
      refine a_sub [1, 2, 3, 4, 0] rfl ?_
      exact h)
  have h := h (by
    intro v2 v3 v5 M h
    refine a_iload fx 4 d_Mo_archiveOf_172 rfl ?_
    refine a_aload_n fx 0 d_Mo_archiveOf_174 rfl rfl ?_
    refine a_getS fx (T := F_Mo) (j := 18) (hk := hk0) (ht := ht0) (ht2 := by decide) (hc := rfl) (hin := u_in_Mo) (hj := by decide) (hj2 := by decide) (hf := rfl) (n9 := 17) (hfo := rfl) (hT := rfl) (hw := w_1287) (hd := d_Mo_archiveOf_175) (kk := ?_)
    refine a_iload_n fx 3 d_Mo_archiveOf_178 rfl rfl ?_
    obtain ⟨hin, h⟩ := h
    refine a_iald fx (lo_9_18 hk0 ht0).1 (lo_9_18 hk0 ht0).2 hin d_Mo_archiveOf_179 ?_
    refine a_icmp_ge fx 228 d_Mo_archiveOf_180 rfl (fun hc => ?_) (fun hc => ?_)
    · have h := h.1 hc
      obtain ⟨x18, ex18⟩ : ∃ z : Int32, z = v2 + 1 := ⟨_, rfl⟩
      have h := h x18 ex18
      refine a_iinc (lv2 := [(2, .int x18), (0, .ref (B + a0)), (1, .int i1), (3, .int v3), (5, .int v5)]) fx 2 d_Mo_archiveOf_228 rfl ex18.symm (by decide) rfl ?_
      refine a_goto fx 7 d_Mo_archiveOf_231 rfl ?_
      refine a_sub [1, 2, 0] rfl ?_
      exact h
    · have h := h.2 hc
      refine a_aload_n fx 0 d_Mo_archiveOf_183 rfl rfl ?_
      refine a_getS fx (T := F_Mo) (j := 26) (hk := hk0) (ht := ht0) (ht2 := by decide) (hc := rfl) (hin := u_in_Mo) (hj := by decide) (hj2 := by decide) (hf := rfl) (n9 := 22) (hfo := rfl) (hT := rfl) (hw := w_1295) (hd := d_Mo_archiveOf_184) (kk := ?_)
      refine a_aload_n fx 0 d_Mo_archiveOf_187 rfl rfl ?_
      refine a_getI fx (T := F_Mo) (j := 25) (hk := hk0) (ht := ht0) (ht2 := by decide) (hc := rfl) (hin := u_in_Mo) (hj := by decide) (hj2 := by decide) (hf := rfl) (hT := rfl) (hw := w_1294) (hd := d_Mo_archiveOf_188) (kk := ?_)
      refine a_aload_n fx 0 d_Mo_archiveOf_191 rfl rfl ?_
      refine a_getS fx (T := F_Mo) (j := 21) (hk := hk0) (ht := ht0) (ht2 := by decide) (hc := rfl) (hin := u_in_Mo) (hj := by decide) (hj2 := by decide) (hf := rfl) (n9 := 20) (hfo := rfl) (hT := rfl) (hw := w_1290) (hd := d_Mo_archiveOf_192) (kk := ?_)
      refine a_sipush (v := 20000) fx d_Mo_archiveOf_195 rfl ?_
      refine a_iload_n fx 1 d_Mo_archiveOf_198 rfl rfl ?_
      refine a_imul fx d_Mo_archiveOf_199 ?_
      refine a_aload_n fx 0 d_Mo_archiveOf_200 rfl rfl ?_
      refine a_getS fx (T := F_Mo) (j := 17) (hk := hk0) (ht := ht0) (ht2 := by decide) (hc := rfl) (hin := u_in_Mo) (hj := by decide) (hj2 := by decide) (hf := rfl) (n9 := 16) (hfo := rfl) (hT := rfl) (hw := w_1286) (hd := d_Mo_archiveOf_201) (kk := ?_)
      refine a_iload_n fx 3 d_Mo_archiveOf_204 rfl rfl ?_
      obtain ⟨hin, h⟩ := h
      refine a_iald fx (lo_9_17 hk0 ht0).1 (lo_9_17 hk0 ht0).2 hin d_Mo_archiveOf_205 ?_
      refine a_iadd fx d_Mo_archiveOf_206 ?_
      refine a_iload fx 4 d_Mo_archiveOf_207 rfl ?_
      refine a_iadd fx d_Mo_archiveOf_209 ?_
      obtain ⟨hin, h⟩ := h
      refine a_bald fx (lo_9_21 hk0 ht0).1 (lo_9_21 hk0 ht0).2 hin d_Mo_archiveOf_210 ?_
      obtain ⟨hin, h⟩ := h
      refine a_bast fx (lo_9_26 hk0 ht0).1 (lo_9_26 hk0 ht0).2 hin d_Mo_archiveOf_211 (a_mem (fun M19 eM19 => ?_))
      have h := h M19 eM19
      refine a_aload_n fx 0 d_Mo_archiveOf_212 rfl rfl ?_
      refine a_dup fx d_Mo_archiveOf_213 rfl ?_
      refine a_getI fx (T := F_Mo) (j := 25) (hk := hk0) (ht := ht0) (ht2 := by decide) (hc := rfl) (hin := u_in_Mo) (hj := by decide) (hj2 := by decide) (hf := rfl) (hT := rfl) (hw := w_1294) (hd := d_Mo_archiveOf_214) (kk := ?_)
      refine a_iconst (v := 1) fx d_Mo_archiveOf_217 rfl ?_
      refine a_iadd fx d_Mo_archiveOf_218 ?_
      refine a_putI fx (T := F_Mo) (ty0 := t_Mo) (j := 25) (hk := hk0) (ht := ht0) (ht2 := by decide) (hc := rfl) (hin := u_in_Mo) (hty := t_Mo_ok) (hnm := n_Mo) (hj := by decide) (hj2 := by decide) (hf := rfl) (hT := rfl) (hfin := rfl) (hn := rfl) (hfit := rfl) (hw := w_1294) (hd := d_Mo_archiveOf_219) (kk := a_mem (fun M20 eM20 => ?_))
      have h := h M20 eM20
      obtain ⟨x21, ex21⟩ : ∃ z : Int32, z = v5 + 1 := ⟨_, rfl⟩
      have h := h x21 ex21
      refine a_iinc (lv2 := [(5, .int x21), (0, .ref (B + a0)), (1, .int i1), (2, .int v2), (3, .int v3)]) fx 4 d_Mo_archiveOf_222 rfl ex21.symm (by decide) rfl ?_
      refine a_goto fx 172 d_Mo_archiveOf_225 rfl ?_
      refine a_sub [1, 2, 3, 4, 0] rfl ?_
      exact h)
  have h := h (by
    intro v2 M h
    refine a_iload_n fx 2 d_Mo_archiveOf_249 rfl rfl ?_
    refine a_bipush (v := 10) fx d_Mo_archiveOf_250 rfl ?_
    refine a_icmp_ge fx 286 d_Mo_archiveOf_252 rfl (fun hc => ?_) (fun hc => ?_)
    · have h := h.1 hc
      refine a_aload_n fx 0 d_Mo_archiveOf_286 rfl rfl ?_
      refine a_callv (rest := []) (a_runV (As := []) fx cv_Mo_zero w_1582 (Met_Mo_zero l B D aC aS (hk0 := hk0) (ht0 := ht0) h) hk0 ht0 (by decide) rfl rfl rfl (Nat.le_of_ble_eq_true rfl) rfl rfl ⟨Nat.le_of_ble_eq_true rfl, Nat.le_of_ble_eq_true rfl⟩ d_Mo_archiveOf_287 ⟨Nat.le_of_ble_eq_true rfl, Nat.le_of_ble_eq_true rfl⟩) (fun M5 h => ?_)
      exact a_vret fx hlo hr h d_Mo_archiveOf_290
    · have h := h.2 hc
      refine a_aload_n fx 0 d_Mo_archiveOf_255 rfl rfl ?_
      refine a_getS fx (T := F_Mo) (j := 26) (hk := hk0) (ht := ht0) (ht2 := by decide) (hc := rfl) (hin := u_in_Mo) (hj := by decide) (hj2 := by decide) (hf := rfl) (n9 := 22) (hfo := rfl) (hT := rfl) (hw := w_1295) (hd := d_Mo_archiveOf_256) (kk := ?_)
      refine a_aload_n fx 0 d_Mo_archiveOf_259 rfl rfl ?_
      refine a_getI fx (T := F_Mo) (j := 25) (hk := hk0) (ht := ht0) (ht2 := by decide) (hc := rfl) (hin := u_in_Mo) (hj := by decide) (hj2 := by decide) (hf := rfl) (hT := rfl) (hw := w_1294) (hd := d_Mo_archiveOf_260) (kk := ?_)
      refine a_aload_n fx 0 d_Mo_archiveOf_263 rfl rfl ?_
      refine a_getS fx (T := F_Mo) (j := 0) (hk := hk0) (ht := ht0) (ht2 := by decide) (hc := rfl) (hin := u_in_Mo) (hj := by decide) (hj2 := by decide) (hf := rfl) (n9 := 1) (hfo := rfl) (hT := rfl) (hw := w_1269) (hd := d_Mo_archiveOf_264) (kk := ?_)
      refine a_iload_n fx 2 d_Mo_archiveOf_267 rfl rfl ?_
      obtain ⟨hin, h⟩ := h
      refine a_bald fx (lo_9_0 hk0 ht0).1 (lo_9_0 hk0 ht0).2 hin d_Mo_archiveOf_268 ?_
      obtain ⟨hin, h⟩ := h
      refine a_bast fx (lo_9_26 hk0 ht0).1 (lo_9_26 hk0 ht0).2 hin d_Mo_archiveOf_269 (a_mem (fun M6 eM6 => ?_))
      have h := h M6 eM6
      refine a_aload_n fx 0 d_Mo_archiveOf_270 rfl rfl ?_
      refine a_dup fx d_Mo_archiveOf_271 rfl ?_
      refine a_getI fx (T := F_Mo) (j := 25) (hk := hk0) (ht := ht0) (ht2 := by decide) (hc := rfl) (hin := u_in_Mo) (hj := by decide) (hj2 := by decide) (hf := rfl) (hT := rfl) (hw := w_1294) (hd := d_Mo_archiveOf_272) (kk := ?_)
      refine a_iconst (v := 1) fx d_Mo_archiveOf_275 rfl ?_
      refine a_iadd fx d_Mo_archiveOf_276 ?_
      refine a_putI fx (T := F_Mo) (ty0 := t_Mo) (j := 25) (hk := hk0) (ht := ht0) (ht2 := by decide) (hc := rfl) (hin := u_in_Mo) (hty := t_Mo_ok) (hnm := n_Mo) (hj := by decide) (hj2 := by decide) (hf := rfl) (hT := rfl) (hfin := rfl) (hn := rfl) (hfit := rfl) (hw := w_1294) (hd := d_Mo_archiveOf_277) (kk := a_mem (fun M7 eM7 => ?_))
      have h := h M7 eM7
      obtain ⟨x8, ex8⟩ : ∃ z : Int32, z = v2 + 1 := ⟨_, rfl⟩
      have h := h x8 ex8
      refine a_iinc (lv2 := [(2, .int x8), (0, .ref (B + a0)), (1, .int i1)]) fx 2 d_Mo_archiveOf_280 rfl ex8.symm (by decide) rfl ?_
      refine a_goto fx 249 d_Mo_archiveOf_283 rfl ?_
      refine a_sub [1, 2, 0] rfl ?_
      exact h)
  refine a_aload_n fx 0 d_Mo_archiveOf_0 rfl rfl ?_
  refine a_iconst (v := 0) fx d_Mo_archiveOf_1 rfl ?_
  refine a_putI fx (T := F_Mo) (ty0 := t_Mo) (j := 25) (hk := hk0) (ht := ht0) (ht2 := by decide) (hc := rfl) (hin := u_in_Mo) (hty := t_Mo_ok) (hnm := n_Mo) (hj := by decide) (hj2 := by decide) (hf := rfl) (hT := rfl) (hfin := rfl) (hn := rfl) (hfit := rfl) (hw := w_1294) (hd := d_Mo_archiveOf_2) (kk := a_mem (fun M1 eM1 => ?_))
  have h := h M1 eM1
  refine a_iconst (v := 0) fx d_Mo_archiveOf_5 rfl ?_
  refine a_istore_n (lv2 := [(2, .int 0), (0, .ref (B + a0)), (1, .int i1)]) fx d_Mo_archiveOf_6 rfl (by decide) rfl ?_
  refine a_sub [1, 2, 0] rfl ?_
  exact h
set_option maxRecDepth 100000 in
set_option maxHeartbeats 4000000 in
theorem Met_Mo_isLarge (l : Launch) (B : Nat) (D : va_G) (aC : Nat → ClassId) (aS : Nat → Nat) {a0 : Nat} {i1 : Int32} {M : zM} {post : Int32 → zM → Prop} (hk0 : a0 < N0) (ht0 : tg a0 = 9) (h : Wp_Mo_isLarge a0 i1 M post) : Met l y_Mo_isLarge (wo y_Mo_isLarge b_Mo_isLarge 4 (some FieldType.boolean)) { frames := 1, cells := 0, slots := 0, locals := 21 } (va_Pc [.ref (B + a0), .int i1] (zWl B D aC aS M)) (zQi B D aC post) 0 0 (zAb B) := by
  refine z_met (own := "MailChainModel") (lv0 := [(0, .ref (B + a0)), (1, .int i1)]) (by decide) rfl (Nat.le_of_ble_eq_true rfl) rfl ?_
  intro p e s m below meth c fx hr hlo
  delta Wp_Mo_isLarge at h
  have h := h (fun v2 v3 M => zAt p l e { frames := 1, cells := 0, slots := 0, locals := 21 } s m ([.ref (B + a0), .int i1] : List Value).toArray below meth c 0 0 (MQ below (zQi B D aC post) ([.ref (B + a0), .int i1] : List Value).toArray s 0 0 (zAb B)) B D aC 4 4 [(0, .ref (B + a0)), (1, .int i1), (2, .int v2), (3, .int v3)] [] M)
  have h := h (by
    intro v2 v3 M h
    refine a_iload_n fx 3 d_Mo_isLarge_4 rfl rfl ?_
    refine a_aload_n fx 0 d_Mo_isLarge_5 rfl rfl ?_
    refine a_getS fx (T := F_Mo) (j := 9) (hk := hk0) (ht := ht0) (ht2 := by decide) (hc := rfl) (hin := u_in_Mo) (hj := by decide) (hj2 := by decide) (hf := rfl) (n9 := 8) (hfo := rfl) (hT := rfl) (hw := w_1278) (hd := d_Mo_isLarge_6) (kk := ?_)
    refine a_iload_n fx 1 d_Mo_isLarge_9 rfl rfl ?_
    obtain ⟨hin, h⟩ := h
    refine a_iald fx (lo_9_9 hk0 ht0).1 (lo_9_9 hk0 ht0).2 hin d_Mo_isLarge_10 ?_
    refine a_icmp_ge fx 60 d_Mo_isLarge_11 rfl (fun hc => ?_) (fun hc => ?_)
    · have h := h.1 hc
      refine a_iload_n fx 2 d_Mo_isLarge_60 rfl rfl ?_
      exact a_zret fx hlo hr h.1 h.2 d_Mo_isLarge_61
    · have h := h.2 hc
      refine a_iload_n fx 2 d_Mo_isLarge_14 rfl rfl ?_
      refine a_if_ne fx 48 d_Mo_isLarge_15 rfl (fun hc => ?_) (fun hc => ?_)
      · have h := h.1 hc
        refine a_iconst (v := 1) fx d_Mo_isLarge_48 rfl ?_
        refine a_goto fx 53 d_Mo_isLarge_49 rfl ?_
        refine a_istore_n (lv2 := [(2, .int 1), (0, .ref (B + a0)), (1, .int i1), (3, .int v3)]) fx d_Mo_isLarge_53 rfl (by decide) rfl ?_
        obtain ⟨x1, ex1⟩ : ∃ z : Int32, z = v3 + 1 := ⟨_, rfl⟩
        have h := h x1 ex1
        refine a_iinc (lv2 := [(3, .int x1), (2, .int 1), (0, .ref (B + a0)), (1, .int i1)]) fx 3 d_Mo_isLarge_54 rfl ex1.symm (by decide) rfl ?_
        refine a_goto fx 4 d_Mo_isLarge_57 rfl ?_
        refine a_sub [2, 3, 1, 0] rfl ?_
        exact h
      · have h := h.2 hc
        refine a_aload_n fx 0 d_Mo_isLarge_18 rfl rfl ?_
        refine a_getS fx (T := F_Mo) (j := 14) (hk := hk0) (ht := ht0) (ht2 := by decide) (hc := rfl) (hin := u_in_Mo) (hj := by decide) (hj2 := by decide) (hf := rfl) (n9 := 13) (hfo := rfl) (hT := rfl) (hw := w_1283) (hd := d_Mo_isLarge_19) (kk := ?_)
        refine a_iload_n fx 1 d_Mo_isLarge_22 rfl rfl ?_
        refine a_iload_n fx 3 d_Mo_isLarge_23 rfl rfl ?_
        refine a_calli (rest := [.ref (B + (a0 + 13))]) (a_runS (As := [.int i1, .int v3]) fx  cv_Mo_at w_1503 (Met_Mo_at l B D aC aS  h) rfl rfl (Nat.le_of_ble_eq_true rfl) rfl rfl ⟨Nat.le_of_ble_eq_true rfl, Nat.le_of_ble_eq_true rfl⟩ d_Mo_isLarge_24 ⟨Nat.le_of_ble_eq_true rfl, Nat.le_of_ble_eq_true rfl⟩) (fun x3 M2 h => ?_)
        obtain ⟨hin, h⟩ := h
        refine a_iald fx (lo_9_14 hk0 ht0).1 (lo_9_14 hk0 ht0).2 hin d_Mo_isLarge_27 ?_
        refine a_ldc fx w_1557 d_Mo_isLarge_28 ?_
        refine a_icmp_gt fx 48 d_Mo_isLarge_30 rfl (fun hc => ?_) (fun hc => ?_)
        · have h := h.1 hc
          refine a_iconst (v := 1) fx d_Mo_isLarge_48 rfl ?_
          refine a_goto fx 53 d_Mo_isLarge_49 rfl ?_
          refine a_istore_n (lv2 := [(2, .int 1), (0, .ref (B + a0)), (1, .int i1), (3, .int v3)]) fx d_Mo_isLarge_53 rfl (by decide) rfl ?_
          obtain ⟨x4, ex4⟩ : ∃ z : Int32, z = v3 + 1 := ⟨_, rfl⟩
          have h := h x4 ex4
          refine a_iinc (lv2 := [(3, .int x4), (2, .int 1), (0, .ref (B + a0)), (1, .int i1)]) fx 3 d_Mo_isLarge_54 rfl ex4.symm (by decide) rfl ?_
          refine a_goto fx 4 d_Mo_isLarge_57 rfl ?_
          refine a_sub [2, 3, 1, 0] rfl ?_
          exact h
        · have h := h.2 hc
          refine a_aload_n fx 0 d_Mo_isLarge_33 rfl rfl ?_
          refine a_getS fx (T := F_Mo) (j := 15) (hk := hk0) (ht := ht0) (ht2 := by decide) (hc := rfl) (hin := u_in_Mo) (hj := by decide) (hj2 := by decide) (hf := rfl) (n9 := 14) (hfo := rfl) (hT := rfl) (hw := w_1284) (hd := d_Mo_isLarge_34) (kk := ?_)
          refine a_iload_n fx 1 d_Mo_isLarge_37 rfl rfl ?_
          refine a_iload_n fx 3 d_Mo_isLarge_38 rfl rfl ?_
          refine a_calli (rest := [.ref (B + (a0 + 14))]) (a_runS (As := [.int i1, .int v3]) fx  cv_Mo_at w_1503 (Met_Mo_at l B D aC aS  h) rfl rfl (Nat.le_of_ble_eq_true rfl) rfl rfl ⟨Nat.le_of_ble_eq_true rfl, Nat.le_of_ble_eq_true rfl⟩ d_Mo_isLarge_39 ⟨Nat.le_of_ble_eq_true rfl, Nat.le_of_ble_eq_true rfl⟩) (fun x6 M5 h => ?_)
          obtain ⟨hin, h⟩ := h
          refine a_iald fx (lo_9_15 hk0 ht0).1 (lo_9_15 hk0 ht0).2 hin d_Mo_isLarge_42 ?_
          refine a_ldc fx w_1557 d_Mo_isLarge_43 ?_
          refine a_icmp_le fx 52 d_Mo_isLarge_45 rfl (fun hc => ?_) (fun hc => ?_)
          · have h := h.1 hc
            refine a_iconst (v := 0) fx d_Mo_isLarge_52 rfl ?_
            refine a_istore_n (lv2 := [(2, .int 0), (0, .ref (B + a0)), (1, .int i1), (3, .int v3)]) fx d_Mo_isLarge_53 rfl (by decide) rfl ?_
            obtain ⟨x7, ex7⟩ : ∃ z : Int32, z = v3 + 1 := ⟨_, rfl⟩
            have h := h x7 ex7
            refine a_iinc (lv2 := [(3, .int x7), (2, .int 0), (0, .ref (B + a0)), (1, .int i1)]) fx 3 d_Mo_isLarge_54 rfl ex7.symm (by decide) rfl ?_
            refine a_goto fx 4 d_Mo_isLarge_57 rfl ?_
            refine a_sub [2, 3, 1, 0] rfl ?_
            exact h
          · have h := h.2 hc
            refine a_iconst (v := 1) fx d_Mo_isLarge_48 rfl ?_
            refine a_goto fx 53 d_Mo_isLarge_49 rfl ?_
            refine a_istore_n (lv2 := [(2, .int 1), (0, .ref (B + a0)), (1, .int i1), (3, .int v3)]) fx d_Mo_isLarge_53 rfl (by decide) rfl ?_
            obtain ⟨x8, ex8⟩ : ∃ z : Int32, z = v3 + 1 := ⟨_, rfl⟩
            have h := h x8 ex8
            refine a_iinc (lv2 := [(3, .int x8), (2, .int 1), (0, .ref (B + a0)), (1, .int i1)]) fx 3 d_Mo_isLarge_54 rfl ex8.symm (by decide) rfl ?_
            refine a_goto fx 4 d_Mo_isLarge_57 rfl ?_
            refine a_sub [2, 3, 1, 0] rfl ?_
            exact h)
  refine a_iconst (v := 0) fx d_Mo_isLarge_0 rfl ?_
  refine a_istore_n (lv2 := [(2, .int 0), (0, .ref (B + a0)), (1, .int i1)]) fx d_Mo_isLarge_1 rfl (by decide) rfl ?_
  refine a_iconst (v := 0) fx d_Mo_isLarge_2 rfl ?_
  refine a_istore_n (lv2 := [(3, .int 0), (2, .int 0), (0, .ref (B + a0)), (1, .int i1)]) fx d_Mo_isLarge_3 rfl (by decide) rfl ?_
  refine a_sub [2, 3, 1, 0] rfl ?_
  exact h
set_option maxRecDepth 100000 in
set_option maxHeartbeats 4000000 in
theorem Met_Mo_clearTable (l : Launch) (B : Nat) (D : va_G) (aC : Nat → ClassId) (aS : Nat → Nat) {a0 : Nat} {M : zM} {post : zM → Prop} (hk0 : a0 < N0) (ht0 : tg a0 = 9) (h : Wp_Mo_clearTable a0 M post) : Met l y_Mo_clearTable (wo y_Mo_clearTable b_Mo_clearTable 2 none) { frames := 0, cells := 0, slots := 0, locals := 0 } (va_Pc [.ref (B + a0)] (zWl B D aC aS M)) (zQv B D aC post) 0 0 (zAb B) := by
  refine z_met (own := "MailChainModel") (lv0 := [(0, .ref (B + a0))]) (by decide) rfl (Nat.le_of_ble_eq_true rfl) rfl ?_
  intro p e s m below meth c fx hr hlo
  delta Wp_Mo_clearTable at h
  have h := h (fun v1 M => zAt p l e { frames := 0, cells := 0, slots := 0, locals := 0 } s m ([.ref (B + a0)] : List Value).toArray below meth c 0 0 (MQ below (zQv B D aC post) ([.ref (B + a0)] : List Value).toArray s 0 0 (zAb B)) B D aC 2 9 [(0, .ref (B + a0)), (1, .int v1)] [] M)
  have h := h (by
    intro v1 M h
    refine a_iload_n fx 1 d_Mo_clearTable_9 rfl rfl ?_
    refine a_ldc fx w_1594 d_Mo_clearTable_10 ?_
    refine a_icmp_gt fx 28 d_Mo_clearTable_12 rfl (fun hc => ?_) (fun hc => ?_)
    · have h := h.1 hc
      exact a_vret fx hlo hr h d_Mo_clearTable_28
    · have h := h.2 hc
      refine a_aload_n fx 0 d_Mo_clearTable_15 rfl rfl ?_
      refine a_getS fx (T := F_Mo) (j := 49) (hk := hk0) (ht := ht0) (ht2 := by decide) (hc := rfl) (hin := u_in_Mo) (hj := by decide) (hj2 := by decide) (hf := rfl) (n9 := 33) (hfo := rfl) (hT := rfl) (hw := w_1318) (hd := d_Mo_clearTable_16) (kk := ?_)
      refine a_iload_n fx 1 d_Mo_clearTable_19 rfl rfl ?_
      refine a_iconst (v := 0) fx d_Mo_clearTable_20 rfl ?_
      obtain ⟨hin, h⟩ := h
      refine a_iast fx (lo_9_49 hk0 ht0).1 (lo_9_49 hk0 ht0).2 hin d_Mo_clearTable_21 (a_mem (fun M2 eM2 => ?_))
      have h := h M2 eM2
      obtain ⟨x3, ex3⟩ : ∃ z : Int32, z = v1 + 1 := ⟨_, rfl⟩
      have h := h x3 ex3
      refine a_iinc (lv2 := [(1, .int x3), (0, .ref (B + a0))]) fx 1 d_Mo_clearTable_22 rfl ex3.symm (by decide) rfl ?_
      refine a_goto fx 9 d_Mo_clearTable_25 rfl ?_
      refine a_sub [1, 0] rfl ?_
      exact h)
  refine a_aload_n fx 0 d_Mo_clearTable_0 rfl rfl ?_
  refine a_sipush (v := 257) fx d_Mo_clearTable_1 rfl ?_
  refine a_putI fx (T := F_Mo) (ty0 := t_Mo) (j := 53) (hk := hk0) (ht := ht0) (ht2 := by decide) (hc := rfl) (hin := u_in_Mo) (hty := t_Mo_ok) (hnm := n_Mo) (hj := by decide) (hj2 := by decide) (hf := rfl) (hT := rfl) (hfin := rfl) (hn := rfl) (hfit := rfl) (hw := w_1322) (hd := d_Mo_clearTable_4) (kk := a_mem (fun M1 eM1 => ?_))
  have h := h M1 eM1
  refine a_iconst (v := 0) fx d_Mo_clearTable_7 rfl ?_
  refine a_istore_n (lv2 := [(1, .int 0), (0, .ref (B + a0))]) fx d_Mo_clearTable_8 rfl (by decide) rfl ?_
  refine a_sub [1, 0] rfl ?_
  exact h
set_option maxRecDepth 100000 in
set_option maxHeartbeats 4000000 in
theorem Met_Mo_putBits (l : Launch) (B : Nat) (D : va_G) (aC : Nat → ClassId) (aS : Nat → Nat) {a0 : Nat} {i1 : Int32} {i2 : Int32} {M : zM} {post : zM → Prop} (hk0 : a0 < N0) (ht0 : tg a0 = 9) (h : Wp_Mo_putBits a0 i1 i2 M post) : Met l y_Mo_putBits (wo y_Mo_putBits b_Mo_putBits 4 none) { frames := 0, cells := 0, slots := 0, locals := 0 } (va_Pc [.ref (B + a0), .int i1, .int i2] (zWl B D aC aS M)) (zQv B D aC post) 0 0 (zAb B) := by
  refine z_met (own := "MailChainModel") (lv0 := [(0, .ref (B + a0)), (1, .int i1), (2, .int i2)]) (by decide) rfl (Nat.le_of_ble_eq_true rfl) rfl ?_
  intro p e s m below meth c fx hr hlo
  delta Wp_Mo_putBits at h
  have h := h (fun v3 M => zAt p l e { frames := 0, cells := 0, slots := 0, locals := 0 } s m ([.ref (B + a0), .int i1, .int i2] : List Value).toArray below meth c 0 0 (MQ below (zQv B D aC post) ([.ref (B + a0), .int i1, .int i2] : List Value).toArray s 0 0 (zAb B)) B D aC 4 2 [(0, .ref (B + a0)), (1, .int i1), (2, .int i2), (3, .int v3)] [] M)
  have h := h (by
    intro v3 M h
    refine a_iload_n fx 3 d_Mo_putBits_2 rfl rfl ?_
    refine a_iload_n fx 2 d_Mo_putBits_3 rfl rfl ?_
    refine a_icmp_ge fx 85 d_Mo_putBits_4 rfl (fun hc => ?_) (fun hc => ?_)
    · have h := h.1 hc
      exact a_vret fx hlo hr h d_Mo_putBits_85
    · have h := h.2 hc
      refine a_aload_n fx 0 d_Mo_putBits_7 rfl rfl ?_
      refine a_aload_n fx 0 d_Mo_putBits_8 rfl rfl ?_
      refine a_getI fx (T := F_Mo) (j := 56) (hk := hk0) (ht := ht0) (ht2 := by decide) (hc := rfl) (hin := u_in_Mo) (hj := by decide) (hj2 := by decide) (hf := rfl) (hT := rfl) (hw := w_1325) (hd := d_Mo_putBits_9) (kk := ?_)
      refine a_iload_n fx 1 d_Mo_putBits_12 rfl rfl ?_
      refine a_iload_n fx 3 d_Mo_putBits_13 rfl rfl ?_
      refine a_ishr fx d_Mo_putBits_14 ?_
      refine a_iconst (v := 1) fx d_Mo_putBits_15 rfl ?_
      refine a_iand fx d_Mo_putBits_16 ?_
      refine a_aload_n fx 0 d_Mo_putBits_17 rfl rfl ?_
      refine a_getI fx (T := F_Mo) (j := 57) (hk := hk0) (ht := ht0) (ht2 := by decide) (hc := rfl) (hin := u_in_Mo) (hj := by decide) (hj2 := by decide) (hf := rfl) (hT := rfl) (hw := w_1326) (hd := d_Mo_putBits_18) (kk := ?_)
      refine a_ishl fx d_Mo_putBits_21 ?_
      refine a_ior fx d_Mo_putBits_22 ?_
      refine a_putI fx (T := F_Mo) (ty0 := t_Mo) (j := 56) (hk := hk0) (ht := ht0) (ht2 := by decide) (hc := rfl) (hin := u_in_Mo) (hty := t_Mo_ok) (hnm := n_Mo) (hj := by decide) (hj2 := by decide) (hf := rfl) (hT := rfl) (hfin := rfl) (hn := rfl) (hfit := rfl) (hw := w_1325) (hd := d_Mo_putBits_23) (kk := a_mem (fun M1 eM1 => ?_))
      have h := h M1 eM1
      refine a_aload_n fx 0 d_Mo_putBits_26 rfl rfl ?_
      refine a_dup fx d_Mo_putBits_27 rfl ?_
      refine a_getI fx (T := F_Mo) (j := 57) (hk := hk0) (ht := ht0) (ht2 := by decide) (hc := rfl) (hin := u_in_Mo) (hj := by decide) (hj2 := by decide) (hf := rfl) (hT := rfl) (hw := w_1326) (hd := d_Mo_putBits_28) (kk := ?_)
      refine a_iconst (v := 1) fx d_Mo_putBits_31 rfl ?_
      refine a_iadd fx d_Mo_putBits_32 ?_
      refine a_putI fx (T := F_Mo) (ty0 := t_Mo) (j := 57) (hk := hk0) (ht := ht0) (ht2 := by decide) (hc := rfl) (hin := u_in_Mo) (hty := t_Mo_ok) (hnm := n_Mo) (hj := by decide) (hj2 := by decide) (hf := rfl) (hT := rfl) (hfin := rfl) (hn := rfl) (hfit := rfl) (hw := w_1326) (hd := d_Mo_putBits_33) (kk := a_mem (fun M2 eM2 => ?_))
      have h := h M2 eM2
      refine a_aload_n fx 0 d_Mo_putBits_36 rfl rfl ?_
      refine a_getI fx (T := F_Mo) (j := 57) (hk := hk0) (ht := ht0) (ht2 := by decide) (hc := rfl) (hin := u_in_Mo) (hj := by decide) (hj2 := by decide) (hf := rfl) (hT := rfl) (hw := w_1326) (hd := d_Mo_putBits_37) (kk := ?_)
      refine a_bipush (v := 8) fx d_Mo_putBits_40 rfl ?_
      refine a_icmp_ne fx 79 d_Mo_putBits_42 rfl (fun hc => ?_) (fun hc => ?_)
      · have h := h.1 hc
        obtain ⟨x3, ex3⟩ : ∃ z : Int32, z = v3 + 1 := ⟨_, rfl⟩
        have h := h x3 ex3
        refine a_iinc (lv2 := [(3, .int x3), (0, .ref (B + a0)), (1, .int i1), (2, .int i2)]) fx 3 d_Mo_putBits_79 rfl ex3.symm (by decide) rfl ?_
        refine a_goto fx 2 d_Mo_putBits_82 rfl ?_
        refine a_sub [1, 2, 3, 0] rfl ?_
        exact h
      · have h := h.2 hc
        refine a_aload_n fx 0 d_Mo_putBits_45 rfl rfl ?_
        refine a_getS fx (T := F_Mo) (j := 28) (hk := hk0) (ht := ht0) (ht2 := by decide) (hc := rfl) (hin := u_in_Mo) (hj := by decide) (hj2 := by decide) (hf := rfl) (n9 := 23) (hfo := rfl) (hT := rfl) (hw := w_1297) (hd := d_Mo_putBits_46) (kk := ?_)
        refine a_aload_n fx 0 d_Mo_putBits_49 rfl rfl ?_
        refine a_getI fx (T := F_Mo) (j := 27) (hk := hk0) (ht := ht0) (ht2 := by decide) (hc := rfl) (hin := u_in_Mo) (hj := by decide) (hj2 := by decide) (hf := rfl) (hT := rfl) (hw := w_1296) (hd := d_Mo_putBits_50) (kk := ?_)
        refine a_aload_n fx 0 d_Mo_putBits_53 rfl rfl ?_
        refine a_getI fx (T := F_Mo) (j := 56) (hk := hk0) (ht := ht0) (ht2 := by decide) (hc := rfl) (hin := u_in_Mo) (hj := by decide) (hj2 := by decide) (hf := rfl) (hT := rfl) (hw := w_1325) (hd := d_Mo_putBits_54) (kk := ?_)
        refine a_i2b fx d_Mo_putBits_57 ?_
        obtain ⟨hin, h⟩ := h
        refine a_bast fx (lo_9_28 hk0 ht0).1 (lo_9_28 hk0 ht0).2 hin d_Mo_putBits_58 (a_mem (fun M4 eM4 => ?_))
        have h := h M4 eM4
        refine a_aload_n fx 0 d_Mo_putBits_59 rfl rfl ?_
        refine a_dup fx d_Mo_putBits_60 rfl ?_
        refine a_getI fx (T := F_Mo) (j := 27) (hk := hk0) (ht := ht0) (ht2 := by decide) (hc := rfl) (hin := u_in_Mo) (hj := by decide) (hj2 := by decide) (hf := rfl) (hT := rfl) (hw := w_1296) (hd := d_Mo_putBits_61) (kk := ?_)
        refine a_iconst (v := 1) fx d_Mo_putBits_64 rfl ?_
        refine a_iadd fx d_Mo_putBits_65 ?_
        refine a_putI fx (T := F_Mo) (ty0 := t_Mo) (j := 27) (hk := hk0) (ht := ht0) (ht2 := by decide) (hc := rfl) (hin := u_in_Mo) (hty := t_Mo_ok) (hnm := n_Mo) (hj := by decide) (hj2 := by decide) (hf := rfl) (hT := rfl) (hfin := rfl) (hn := rfl) (hfit := rfl) (hw := w_1296) (hd := d_Mo_putBits_66) (kk := a_mem (fun M5 eM5 => ?_))
        have h := h M5 eM5
        refine a_aload_n fx 0 d_Mo_putBits_69 rfl rfl ?_
        refine a_iconst (v := 0) fx d_Mo_putBits_70 rfl ?_
        refine a_putI fx (T := F_Mo) (ty0 := t_Mo) (j := 56) (hk := hk0) (ht := ht0) (ht2 := by decide) (hc := rfl) (hin := u_in_Mo) (hty := t_Mo_ok) (hnm := n_Mo) (hj := by decide) (hj2 := by decide) (hf := rfl) (hT := rfl) (hfin := rfl) (hn := rfl) (hfit := rfl) (hw := w_1325) (hd := d_Mo_putBits_71) (kk := a_mem (fun M6 eM6 => ?_))
        have h := h M6 eM6
        refine a_aload_n fx 0 d_Mo_putBits_74 rfl rfl ?_
        refine a_iconst (v := 0) fx d_Mo_putBits_75 rfl ?_
        refine a_putI fx (T := F_Mo) (ty0 := t_Mo) (j := 57) (hk := hk0) (ht := ht0) (ht2 := by decide) (hc := rfl) (hin := u_in_Mo) (hty := t_Mo_ok) (hnm := n_Mo) (hj := by decide) (hj2 := by decide) (hf := rfl) (hT := rfl) (hfin := rfl) (hn := rfl) (hfit := rfl) (hw := w_1326) (hd := d_Mo_putBits_76) (kk := a_mem (fun M7 eM7 => ?_))
        have h := h M7 eM7
        obtain ⟨x8, ex8⟩ : ∃ z : Int32, z = v3 + 1 := ⟨_, rfl⟩
        have h := h x8 ex8
        refine a_iinc (lv2 := [(3, .int x8), (0, .ref (B + a0)), (1, .int i1), (2, .int i2)]) fx 3 d_Mo_putBits_79 rfl ex8.symm (by decide) rfl ?_
        refine a_goto fx 2 d_Mo_putBits_82 rfl ?_
        refine a_sub [1, 2, 3, 0] rfl ?_
        exact h)
  refine a_iconst (v := 0) fx d_Mo_putBits_0 rfl ?_
  refine a_istore_n (lv2 := [(3, .int 0), (0, .ref (B + a0)), (1, .int i1), (2, .int i2)]) fx d_Mo_putBits_1 rfl (by decide) rfl ?_
  refine a_sub [1, 2, 3, 0] rfl ?_
  exact h
set_option maxRecDepth 100000 in
set_option maxHeartbeats 4000000 in
theorem Met_Mo_fill (l : Launch) (B : Nat) (D : va_G) (aC : Nat → ClassId) (aS : Nat → Nat) {a0 : Nat} {M : zM} {post : zM → Prop} (hk0 : a0 < N0) (ht0 : tg a0 = 9) (h : Wp_Mo_fill a0 M post) : Met l y_Mo_fill (wo y_Mo_fill b_Mo_fill 1 none) { frames := 1, cells := 0, slots := 0, locals := 23 } (va_Pc [.ref (B + a0)] (zWl B D aC aS M)) (zQv B D aC post) 0 0 (zAb B) := by
  refine z_met (own := "MailChainModel") (lv0 := [(0, .ref (B + a0))]) (by decide) rfl (Nat.le_of_ble_eq_true rfl) rfl ?_
  intro p e s m below meth c fx hr hlo
  delta Wp_Mo_fill at h
  have h := h (fun M => zAt p l e { frames := 1, cells := 0, slots := 0, locals := 23 } s m ([.ref (B + a0)] : List Value).toArray below meth c 0 0 (MQ below (zQv B D aC post) ([.ref (B + a0)] : List Value).toArray s 0 0 (zAb B)) B D aC 1 0 [(0, .ref (B + a0))] [] M)
  have h := h (by
    intro M h
    refine a_aload_n fx 0 d_Mo_fill_0 rfl rfl ?_
    refine a_getI fx (T := F_Mo) (j := 55) (hk := hk0) (ht := ht0) (ht2 := by decide) (hc := rfl) (hin := u_in_Mo) (hj := by decide) (hj2 := by decide) (hf := rfl) (hT := rfl) (hw := w_1324) (hd := d_Mo_fill_1) (kk := ?_)
    refine a_bipush (v := 8) fx d_Mo_fill_4 rfl ?_
    refine a_irem fx d_Mo_fill_6 (by decide) ?_
    refine a_if_eq fx 32 d_Mo_fill_7 rfl (fun hc => ?_) (fun hc => ?_)
    · have h := h.1 hc
      refine a_aload_n fx 0 d_Mo_fill_32 rfl rfl ?_
      refine a_iconst (v := 0) fx d_Mo_fill_33 rfl ?_
      refine a_putI fx (T := F_Mo) (ty0 := t_Mo) (j := 55) (hk := hk0) (ht := ht0) (ht2 := by decide) (hc := rfl) (hin := u_in_Mo) (hty := t_Mo_ok) (hnm := n_Mo) (hj := by decide) (hj2 := by decide) (hf := rfl) (hT := rfl) (hfin := rfl) (hn := rfl) (hfit := rfl) (hw := w_1324) (hd := d_Mo_fill_34) (kk := a_mem (fun M1 eM1 => ?_))
      have h := h M1 eM1
      exact a_vret fx hlo hr h d_Mo_fill_37
    · have h := h.2 hc
      refine a_aload_n fx 0 d_Mo_fill_10 rfl rfl ?_
      refine a_iconst (v := 0) fx d_Mo_fill_11 rfl ?_
      refine a_aload_n fx 0 d_Mo_fill_12 rfl rfl ?_
      refine a_getI fx (T := F_Mo) (j := 54) (hk := hk0) (ht := ht0) (ht2 := by decide) (hc := rfl) (hin := u_in_Mo) (hj := by decide) (hj2 := by decide) (hf := rfl) (hT := rfl) (hw := w_1323) (hd := d_Mo_fill_13) (kk := ?_)
      refine a_callv (rest := []) (a_runV (As := [.int 0, .int (M.1 a0 54)]) fx cv_Mo_putBits w_1607 (Met_Mo_putBits l B D aC aS (hk0 := hk0) (ht0 := ht0) h) hk0 ht0 (by decide) rfl rfl rfl (Nat.le_of_ble_eq_true rfl) rfl rfl ⟨Nat.le_of_ble_eq_true rfl, Nat.le_of_ble_eq_true rfl⟩ d_Mo_fill_16 ⟨Nat.le_of_ble_eq_true rfl, Nat.le_of_ble_eq_true rfl⟩) (fun M2 h => ?_)
      refine a_aload_n fx 0 d_Mo_fill_19 rfl rfl ?_
      refine a_dup fx d_Mo_fill_20 rfl ?_
      refine a_getI fx (T := F_Mo) (j := 55) (hk := hk0) (ht := ht0) (ht2 := by decide) (hc := rfl) (hin := u_in_Mo) (hj := by decide) (hj2 := by decide) (hf := rfl) (hT := rfl) (hw := w_1324) (hd := d_Mo_fill_21) (kk := ?_)
      refine a_iconst (v := 1) fx d_Mo_fill_24 rfl ?_
      refine a_iadd fx d_Mo_fill_25 ?_
      refine a_putI fx (T := F_Mo) (ty0 := t_Mo) (j := 55) (hk := hk0) (ht := ht0) (ht2 := by decide) (hc := rfl) (hin := u_in_Mo) (hty := t_Mo_ok) (hnm := n_Mo) (hj := by decide) (hj2 := by decide) (hf := rfl) (hT := rfl) (hfin := rfl) (hn := rfl) (hfit := rfl) (hw := w_1324) (hd := d_Mo_fill_26) (kk := a_mem (fun M3 eM3 => ?_))
      have h := h M3 eM3
      refine a_goto fx 0 d_Mo_fill_29 rfl ?_
      refine a_sub [0] rfl ?_
      exact h)
  refine a_sub [0] rfl ?_
  exact h
set_option maxRecDepth 100000 in
set_option maxHeartbeats 4000000 in
theorem Met_Mo_putCode (l : Launch) (B : Nat) (D : va_G) (aC : Nat → ClassId) (aS : Nat → Nat) {a0 : Nat} {i1 : Int32} {i2 : Int32} {M : zM} {post : zM → Prop} (hk0 : a0 < N0) (ht0 : tg a0 = 9) (h : Wp_Mo_putCode a0 i1 i2 M post) : Met l y_Mo_putCode (wo y_Mo_putCode b_Mo_putCode 3 none) { frames := 2, cells := 0, slots := 0, locals := 43 } (va_Pc [.ref (B + a0), .int i1, .int i2] (zWl B D aC aS M)) (zQv B D aC post) 0 0 (zAb B) := by
  refine z_met (own := "MailChainModel") (lv0 := [(0, .ref (B + a0)), (1, .int i1), (2, .int i2)]) (by decide) rfl (Nat.le_of_ble_eq_true rfl) rfl ?_
  intro p e s m below meth c fx hr hlo
  delta Wp_Mo_putCode at h
  have h := h (fun M => zAt p l e { frames := 2, cells := 0, slots := 0, locals := 43 } s m ([.ref (B + a0), .int i1, .int i2] : List Value).toArray below meth c 0 0 (MQ below (zQv B D aC post) ([.ref (B + a0), .int i1, .int i2] : List Value).toArray s 0 0 (zAb B)) B D aC 3 0 [(0, .ref (B + a0)), (1, .int i1), (2, .int i2)] [] M)
  have h := h (fun M => zAt p l e { frames := 2, cells := 0, slots := 0, locals := 43 } s m ([.ref (B + a0), .int i1, .int i2] : List Value).toArray below meth c 0 0 (MQ below (zQv B D aC post) ([.ref (B + a0), .int i1, .int i2] : List Value).toArray s 0 0 (zAb B)) B D aC 3 38 [(0, .ref (B + a0)), (1, .int i1), (2, .int i2)] [] M)
  have h := h (by
    intro M h
    refine a_aload_n fx 0 d_Mo_putCode_0 rfl rfl ?_
    refine a_getI fx (T := F_Mo) (j := 53) (hk := hk0) (ht := ht0) (ht2 := by decide) (hc := rfl) (hin := u_in_Mo) (hj := by decide) (hj2 := by decide) (hf := rfl) (hT := rfl) (hw := w_1322) (hd := d_Mo_putCode_1) (kk := ?_)
    refine a_iconst (v := 1) fx d_Mo_putCode_4 rfl ?_
    refine a_aload_n fx 0 d_Mo_putCode_5 rfl rfl ?_
    refine a_getI fx (T := F_Mo) (j := 54) (hk := hk0) (ht := ht0) (ht2 := by decide) (hc := rfl) (hin := u_in_Mo) (hj := by decide) (hj2 := by decide) (hf := rfl) (hT := rfl) (hw := w_1323) (hd := d_Mo_putCode_6) (kk := ?_)
    refine a_ishl fx d_Mo_putCode_9 ?_
    refine a_icmp_le fx 38 d_Mo_putCode_10 rfl (fun hc => ?_) (fun hc => ?_)
    · have h := h.1 hc
      refine a_sub [0, 1, 2] rfl ?_
      exact h
    · have h := h.2 hc
      refine a_aload_n fx 0 d_Mo_putCode_13 rfl rfl ?_
      refine a_getI fx (T := F_Mo) (j := 54) (hk := hk0) (ht := ht0) (ht2 := by decide) (hc := rfl) (hin := u_in_Mo) (hj := by decide) (hj2 := by decide) (hf := rfl) (hT := rfl) (hw := w_1323) (hd := d_Mo_putCode_14) (kk := ?_)
      refine a_iload_n fx 2 d_Mo_putCode_17 rfl rfl ?_
      refine a_icmp_ge fx 38 d_Mo_putCode_18 rfl (fun hc => ?_) (fun hc => ?_)
      · have h := h.1 hc
        refine a_sub [0, 1, 2] rfl ?_
        exact h
      · have h := h.2 hc
        refine a_aload_n fx 0 d_Mo_putCode_21 rfl rfl ?_
        refine a_callv (rest := []) (a_runV (As := []) fx cv_Mo_fill w_1603 (Met_Mo_fill l B D aC aS (hk0 := hk0) (ht0 := ht0) h) hk0 ht0 (by decide) rfl rfl rfl (Nat.le_of_ble_eq_true rfl) rfl rfl ⟨Nat.le_of_ble_eq_true rfl, Nat.le_of_ble_eq_true rfl⟩ d_Mo_putCode_22 ⟨Nat.le_of_ble_eq_true rfl, Nat.le_of_ble_eq_true rfl⟩) (fun M1 h => ?_)
        refine a_aload_n fx 0 d_Mo_putCode_25 rfl rfl ?_
        refine a_dup fx d_Mo_putCode_26 rfl ?_
        refine a_getI fx (T := F_Mo) (j := 54) (hk := hk0) (ht := ht0) (ht2 := by decide) (hc := rfl) (hin := u_in_Mo) (hj := by decide) (hj2 := by decide) (hf := rfl) (hT := rfl) (hw := w_1323) (hd := d_Mo_putCode_27) (kk := ?_)
        refine a_iconst (v := 1) fx d_Mo_putCode_30 rfl ?_
        refine a_iadd fx d_Mo_putCode_31 ?_
        refine a_putI fx (T := F_Mo) (ty0 := t_Mo) (j := 54) (hk := hk0) (ht := ht0) (ht2 := by decide) (hc := rfl) (hin := u_in_Mo) (hty := t_Mo_ok) (hnm := n_Mo) (hj := by decide) (hj2 := by decide) (hf := rfl) (hT := rfl) (hfin := rfl) (hn := rfl) (hfit := rfl) (hw := w_1323) (hd := d_Mo_putCode_32) (kk := a_mem (fun M2 eM2 => ?_))
        have h := h M2 eM2
        refine a_goto fx 0 d_Mo_putCode_35 rfl ?_
        refine a_sub [0, 1, 2] rfl ?_
        exact h)
  have h := h (by
    intro M h
    refine a_aload_n fx 0 d_Mo_putCode_38 rfl rfl ?_
    refine a_iload_n fx 1 d_Mo_putCode_39 rfl rfl ?_
    refine a_aload_n fx 0 d_Mo_putCode_40 rfl rfl ?_
    refine a_getI fx (T := F_Mo) (j := 54) (hk := hk0) (ht := ht0) (ht2 := by decide) (hc := rfl) (hin := u_in_Mo) (hj := by decide) (hj2 := by decide) (hf := rfl) (hT := rfl) (hw := w_1323) (hd := d_Mo_putCode_41) (kk := ?_)
    refine a_callv (rest := []) (a_runV (As := [.int i1, .int (M.1 a0 54)]) fx cv_Mo_putBits w_1607 (Met_Mo_putBits l B D aC aS (hk0 := hk0) (ht0 := ht0) h) hk0 ht0 (by decide) rfl rfl rfl (Nat.le_of_ble_eq_true rfl) rfl rfl ⟨Nat.le_of_ble_eq_true rfl, Nat.le_of_ble_eq_true rfl⟩ d_Mo_putCode_44 ⟨Nat.le_of_ble_eq_true rfl, Nat.le_of_ble_eq_true rfl⟩) (fun M3 h => ?_)
    refine a_aload_n fx 0 d_Mo_putCode_47 rfl rfl ?_
    refine a_dup fx d_Mo_putCode_48 rfl ?_
    refine a_getI fx (T := F_Mo) (j := 55) (hk := hk0) (ht := ht0) (ht2 := by decide) (hc := rfl) (hin := u_in_Mo) (hj := by decide) (hj2 := by decide) (hf := rfl) (hT := rfl) (hw := w_1324) (hd := d_Mo_putCode_49) (kk := ?_)
    refine a_iconst (v := 1) fx d_Mo_putCode_52 rfl ?_
    refine a_iadd fx d_Mo_putCode_53 ?_
    refine a_putI fx (T := F_Mo) (ty0 := t_Mo) (j := 55) (hk := hk0) (ht := ht0) (ht2 := by decide) (hc := rfl) (hin := u_in_Mo) (hty := t_Mo_ok) (hnm := n_Mo) (hj := by decide) (hj2 := by decide) (hf := rfl) (hT := rfl) (hfin := rfl) (hn := rfl) (hfit := rfl) (hw := w_1324) (hd := d_Mo_putCode_54) (kk := a_mem (fun M4 eM4 => ?_))
    have h := h M4 eM4
    exact a_vret fx hlo hr h d_Mo_putCode_57)
  refine a_sub [0, 1, 2] rfl ?_
  exact h
set_option maxRecDepth 100000 in
set_option maxHeartbeats 4000000 in
theorem Met_Mo_goOn (l : Launch) (B : Nat) (D : va_G) (aC : Nat → ClassId) (aS : Nat → Nat) {a0 : Nat} {i1 : Int32} {i2 : Int32} {M : zM} {post : Int32 → zM → Prop} (hk0 : a0 < N0) (ht0 : tg a0 = 9) (h : Wp_Mo_goOn a0 i1 i2 M post) : Met l y_Mo_goOn (wo y_Mo_goOn b_Mo_goOn 4 (some FieldType.int)) { frames := 0, cells := 0, slots := 0, locals := 0 } (va_Pc [.ref (B + a0), .int i1, .int i2] (zWl B D aC aS M)) (zQi B D aC post) 0 0 (zAb B) := by
  refine z_met (own := "MailChainModel") (lv0 := [(0, .ref (B + a0)), (1, .int i1), (2, .int i2)]) (by decide) rfl (Nat.le_of_ble_eq_true rfl) rfl ?_
  intro p e s m below meth c fx hr hlo
  delta Wp_Mo_goOn at h
  have h := h (fun v3 M => zAt p l e { frames := 0, cells := 0, slots := 0, locals := 0 } s m ([.ref (B + a0), .int i1, .int i2] : List Value).toArray below meth c 0 0 (MQ below (zQi B D aC post) ([.ref (B + a0), .int i1, .int i2] : List Value).toArray s 0 0 (zAb B)) B D aC 4 7 [(0, .ref (B + a0)), (1, .int i1), (2, .int i2), (3, .int v3)] [] M)
  have h := h (by
    intro v3 M h
    refine a_iload_n fx 3 d_Mo_goOn_7 rfl rfl ?_
    refine a_if_le fx 31 d_Mo_goOn_8 rfl (fun hc => ?_) (fun hc => ?_)
    · have h := h.1 hc
      refine a_iload_n fx 3 d_Mo_goOn_31 rfl rfl ?_
      exact a_iret fx hlo hr h d_Mo_goOn_32
    · have h := h.2 hc
      refine a_aload_n fx 0 d_Mo_goOn_11 rfl rfl ?_
      refine a_getS fx (T := F_Mo) (j := 51) (hk := hk0) (ht := ht0) (ht2 := by decide) (hc := rfl) (hin := u_in_Mo) (hj := by decide) (hj2 := by decide) (hf := rfl) (n9 := 35) (hfo := rfl) (hT := rfl) (hw := w_1320) (hd := d_Mo_goOn_12) (kk := ?_)
      refine a_iload_n fx 3 d_Mo_goOn_15 rfl rfl ?_
      obtain ⟨hin, h⟩ := h
      refine a_iald fx (lo_9_51 hk0 ht0).1 (lo_9_51 hk0 ht0).2 hin d_Mo_goOn_16 ?_
      refine a_iload_n fx 2 d_Mo_goOn_17 rfl rfl ?_
      refine a_icmp_eq fx 31 d_Mo_goOn_18 rfl (fun hc => ?_) (fun hc => ?_)
      · have h := h.1 hc
        refine a_iload_n fx 3 d_Mo_goOn_31 rfl rfl ?_
        exact a_iret fx hlo hr h d_Mo_goOn_32
      · have h := h.2 hc
        refine a_aload_n fx 0 d_Mo_goOn_21 rfl rfl ?_
        refine a_getS fx (T := F_Mo) (j := 50) (hk := hk0) (ht := ht0) (ht2 := by decide) (hc := rfl) (hin := u_in_Mo) (hj := by decide) (hj2 := by decide) (hf := rfl) (n9 := 34) (hfo := rfl) (hT := rfl) (hw := w_1319) (hd := d_Mo_goOn_22) (kk := ?_)
        refine a_iload_n fx 3 d_Mo_goOn_25 rfl rfl ?_
        obtain ⟨hin, h⟩ := h
        refine a_iald fx (lo_9_50 hk0 ht0).1 (lo_9_50 hk0 ht0).2 hin d_Mo_goOn_26 ?_
        refine a_topi (fun x2 ex2 => ?_)
        have h := h x2 ex2
        refine a_istore_n (lv2 := [(3, .int x2), (0, .ref (B + a0)), (1, .int i1), (2, .int i2)]) fx d_Mo_goOn_27 rfl (by decide) rfl ?_
        refine a_goto fx 7 d_Mo_goOn_28 rfl ?_
        refine a_sub [1, 2, 3, 0] rfl ?_
        exact h)
  refine a_aload_n fx 0 d_Mo_goOn_0 rfl rfl ?_
  refine a_getS fx (T := F_Mo) (j := 49) (hk := hk0) (ht := ht0) (ht2 := by decide) (hc := rfl) (hin := u_in_Mo) (hj := by decide) (hj2 := by decide) (hf := rfl) (n9 := 33) (hfo := rfl) (hT := rfl) (hw := w_1318) (hd := d_Mo_goOn_1) (kk := ?_)
  refine a_iload_n fx 1 d_Mo_goOn_4 rfl rfl ?_
  obtain ⟨hin, h⟩ := h
  refine a_iald fx (lo_9_49 hk0 ht0).1 (lo_9_49 hk0 ht0).2 hin d_Mo_goOn_5 ?_
  refine a_topi (fun x1 ex1 => ?_)
  have h := h x1 ex1
  refine a_istore_n (lv2 := [(3, .int x1), (0, .ref (B + a0)), (1, .int i1), (2, .int i2)]) fx d_Mo_goOn_6 rfl (by decide) rfl ?_
  refine a_sub [1, 2, 3, 0] rfl ?_
  exact h
set_option maxRecDepth 100000 in
set_option maxHeartbeats 4000000 in
theorem Met_Mo_compressRow (l : Launch) (B : Nat) (D : va_G) (aC : Nat → ClassId) (aS : Nat → Nat) {a0 : Nat} {a1 : Nat} {i2 : Int32} {i3 : Int32} {M : zM} {post : zM → Prop} (hk0 : a0 < N0) (ht0 : tg a0 = 9) (hk1 : a1 < N0) (ht1 : tg a1 = 20) (h : Wp_Mo_compressRow a0 a1 i2 i3 M post) : Met l y_Mo_compressRow (wo y_Mo_compressRow b_Mo_compressRow 7 none) { frames := 3, cells := 0, slots := 0, locals := 65 } (va_Pc [.ref (B + a0), .ref (B + a1), .int i2, .int i3] (zWl B D aC aS M)) (zQv B D aC post) 0 0 (zAb B) := by
  refine z_met (own := "MailChainModel") (lv0 := [(0, .ref (B + a0)), (1, .ref (B + a1)), (2, .int i2), (3, .int i3)]) (by decide) rfl (Nat.le_of_ble_eq_true rfl) rfl ?_
  intro p e s m below meth c fx hr hlo
  delta Wp_Mo_compressRow at h
  have h := h (fun v4 M => zAt p l e { frames := 3, cells := 0, slots := 0, locals := 65 } s m ([.ref (B + a0), .ref (B + a1), .int i2, .int i3] : List Value).toArray below meth c 0 0 (MQ below (zQv B D aC post) ([.ref (B + a0), .ref (B + a1), .int i2, .int i3] : List Value).toArray s 0 0 (zAb B)) B D aC 7 66 [(0, .ref (B + a0)), (1, .ref (B + a1)), (2, .int i2), (3, .int i3), (4, .int v4)] [] M)
  have h := h (fun v4 v5 v6 M => zAt p l e { frames := 3, cells := 0, slots := 0, locals := 65 } s m ([.ref (B + a0), .ref (B + a1), .int i2, .int i3] : List Value).toArray below meth c 0 0 (MQ below (zQv B D aC post) ([.ref (B + a0), .ref (B + a1), .int i2, .int i3] : List Value).toArray s 0 0 (zAb B)) B D aC 7 111 [(0, .ref (B + a0)), (1, .ref (B + a1)), (2, .int i2), (3, .int i3), (4, .int v4), (5, .int v5), (6, .int v6)] [] M)
  have h := h (fun v4 M => zAt p l e { frames := 3, cells := 0, slots := 0, locals := 65 } s m ([.ref (B + a0), .ref (B + a1), .int i2, .int i3] : List Value).toArray below meth c 0 0 (MQ below (zQv B D aC post) ([.ref (B + a0), .ref (B + a1), .int i2, .int i3] : List Value).toArray s 0 0 (zAb B)) B D aC 7 232 [(0, .ref (B + a0)), (1, .ref (B + a1)), (2, .int i2), (3, .int i3), (4, .int v4)] [] M)
  have h := h (by
    intro v4 M h
    refine a_iload fx 4 d_Mo_compressRow_66 rfl ?_
    refine a_iload_n fx 2 d_Mo_compressRow_68 rfl rfl ?_
    refine a_icmp_ge fx 263 d_Mo_compressRow_69 rfl (fun hc => ?_) (fun hc => ?_)
    · have h := h.1 hc
      refine a_aload_n fx 0 d_Mo_compressRow_263 rfl rfl ?_
      refine a_getI fx (T := F_Mo) (j := 57) (hk := hk0) (ht := ht0) (ht2 := by decide) (hc := rfl) (hin := u_in_Mo) (hj := by decide) (hj2 := by decide) (hf := rfl) (hT := rfl) (hw := w_1326) (hd := d_Mo_compressRow_264) (kk := ?_)
      refine a_if_le fx 294 d_Mo_compressRow_267 rfl (fun hc => ?_) (fun hc => ?_)
      · have h := h.1 hc
        exact a_vret fx hlo hr h d_Mo_compressRow_294
      · have h := h.2 hc
        refine a_aload_n fx 0 d_Mo_compressRow_270 rfl rfl ?_
        refine a_getS fx (T := F_Mo) (j := 28) (hk := hk0) (ht := ht0) (ht2 := by decide) (hc := rfl) (hin := u_in_Mo) (hj := by decide) (hj2 := by decide) (hf := rfl) (n9 := 23) (hfo := rfl) (hT := rfl) (hw := w_1297) (hd := d_Mo_compressRow_271) (kk := ?_)
        refine a_aload_n fx 0 d_Mo_compressRow_274 rfl rfl ?_
        refine a_getI fx (T := F_Mo) (j := 27) (hk := hk0) (ht := ht0) (ht2 := by decide) (hc := rfl) (hin := u_in_Mo) (hj := by decide) (hj2 := by decide) (hf := rfl) (hT := rfl) (hw := w_1296) (hd := d_Mo_compressRow_275) (kk := ?_)
        refine a_aload_n fx 0 d_Mo_compressRow_278 rfl rfl ?_
        refine a_getI fx (T := F_Mo) (j := 56) (hk := hk0) (ht := ht0) (ht2 := by decide) (hc := rfl) (hin := u_in_Mo) (hj := by decide) (hj2 := by decide) (hf := rfl) (hT := rfl) (hw := w_1325) (hd := d_Mo_compressRow_279) (kk := ?_)
        refine a_i2b fx d_Mo_compressRow_282 ?_
        obtain ⟨hin, h⟩ := h
        refine a_bast fx (lo_9_28 hk0 ht0).1 (lo_9_28 hk0 ht0).2 hin d_Mo_compressRow_283 (a_mem (fun M11 eM11 => ?_))
        have h := h M11 eM11
        refine a_aload_n fx 0 d_Mo_compressRow_284 rfl rfl ?_
        refine a_dup fx d_Mo_compressRow_285 rfl ?_
        refine a_getI fx (T := F_Mo) (j := 27) (hk := hk0) (ht := ht0) (ht2 := by decide) (hc := rfl) (hin := u_in_Mo) (hj := by decide) (hj2 := by decide) (hf := rfl) (hT := rfl) (hw := w_1296) (hd := d_Mo_compressRow_286) (kk := ?_)
        refine a_iconst (v := 1) fx d_Mo_compressRow_289 rfl ?_
        refine a_iadd fx d_Mo_compressRow_290 ?_
        refine a_putI fx (T := F_Mo) (ty0 := t_Mo) (j := 27) (hk := hk0) (ht := ht0) (ht2 := by decide) (hc := rfl) (hin := u_in_Mo) (hty := t_Mo_ok) (hnm := n_Mo) (hj := by decide) (hj2 := by decide) (hf := rfl) (hT := rfl) (hfin := rfl) (hn := rfl) (hfit := rfl) (hw := w_1296) (hd := d_Mo_compressRow_291) (kk := a_mem (fun M12 eM12 => ?_))
        have h := h M12 eM12
        exact a_vret fx hlo hr h d_Mo_compressRow_294
    · have h := h.2 hc
      refine a_aload_n fx 1 d_Mo_compressRow_72 rfl rfl ?_
      refine a_iload fx 4 d_Mo_compressRow_73 rfl ?_
      obtain ⟨hin, h⟩ := h
      refine a_bald fx hk1 ht1 hin d_Mo_compressRow_75 ?_
      refine a_sipush (v := 255) fx d_Mo_compressRow_76 rfl ?_
      refine a_iand fx d_Mo_compressRow_79 ?_
      refine a_topi (fun x13 ex13 => ?_)
      have h := h x13 ex13
      refine a_istore (lv2 := [(5, .int x13), (0, .ref (B + a0)), (1, .ref (B + a1)), (2, .int i2), (3, .int i3), (4, .int v4)]) fx d_Mo_compressRow_80 (by decide) rfl ?_
      obtain ⟨x14, ex14⟩ : ∃ z : Int32, z = v4 + 1 := ⟨_, rfl⟩
      have h := h x14 ex14
      refine a_iinc (lv2 := [(4, .int x14), (5, .int x13), (0, .ref (B + a0)), (1, .ref (B + a1)), (2, .int i2), (3, .int i3)]) fx 5 d_Mo_compressRow_82 rfl ex14.symm (by decide) rfl ?_
      refine a_iload fx 0 d_Mo_compressRow_85 rfl ?_
      refine a_iload_n fx 4 d_Mo_compressRow_87 rfl rfl ?_
      refine a_icmp_ge fx 108 d_Mo_compressRow_88 rfl (fun hc => ?_) (fun hc => ?_)
      · have h := h.1 hc
        refine a_iconst (v := 0) fx d_Mo_compressRow_108 rfl ?_
        refine a_istore (lv2 := [(6, .int 0), (4, .int x14), (5, .int x13), (0, .ref (B + a0)), (1, .ref (B + a1)), (2, .int i2), (3, .int i3)]) fx d_Mo_compressRow_109 (by decide) rfl ?_
        refine a_sub [3, 4, 5, 6, 1, 2, 0] rfl ?_
        exact h
      · have h := h.2 hc
        refine a_aload_n fx 2 d_Mo_compressRow_91 rfl rfl ?_
        refine a_iload fx 1 d_Mo_compressRow_92 rfl ?_
        refine a_aload_n fx 3 d_Mo_compressRow_94 rfl rfl ?_
        refine a_iload fx 0 d_Mo_compressRow_95 rfl ?_
        obtain ⟨hin, h⟩ := h
        refine a_bald fx hk1 ht1 hin d_Mo_compressRow_97 ?_
        refine a_sipush (v := 255) fx d_Mo_compressRow_98 rfl ?_
        refine a_iand fx d_Mo_compressRow_101 ?_
        refine a_calli (rest := []) (a_runV (As := [.int x13, .int ((M.1 a1 (x14).toNatClampNeg) &&& 255)]) fx cv_Mo_goOn w_1595 (Met_Mo_goOn l B D aC aS (hk0 := hk0) (ht0 := ht0) h) hk0 ht0 (by decide) rfl rfl rfl (Nat.le_of_ble_eq_true rfl) rfl rfl ⟨Nat.le_of_ble_eq_true rfl, Nat.le_of_ble_eq_true rfl⟩ d_Mo_compressRow_102 ⟨Nat.le_of_ble_eq_true rfl, Nat.le_of_ble_eq_true rfl⟩) (fun x16 M15 h => ?_)
        refine a_goto fx 109 d_Mo_compressRow_105 rfl ?_
        refine a_istore (lv2 := [(6, .int x16), (4, .int x14), (5, .int x13), (0, .ref (B + a0)), (1, .ref (B + a1)), (2, .int i2), (3, .int i3)]) fx d_Mo_compressRow_109 (by decide) rfl ?_
        refine a_sub [3, 4, 5, 6, 1, 2, 0] rfl ?_
        exact h)
  have h := h (by
    intro v4 v5 v6 M h
    refine a_iload fx 6 d_Mo_compressRow_111 rfl ?_
    refine a_if_le fx 152 d_Mo_compressRow_113 rfl (fun hc => ?_) (fun hc => ?_)
    · have h := h.1 hc
      refine a_aload_n fx 0 d_Mo_compressRow_152 rfl rfl ?_
      refine a_iload fx 5 d_Mo_compressRow_153 rfl ?_
      refine a_iload_n fx 3 d_Mo_compressRow_155 rfl rfl ?_
      refine a_callv (rest := []) (a_runV (As := [.int v5, .int i3]) fx cv_Mo_putCode w_1599 (Met_Mo_putCode l B D aC aS (hk0 := hk0) (ht0 := ht0) h) hk0 ht0 (by decide) rfl rfl rfl (Nat.le_of_ble_eq_true rfl) rfl rfl ⟨Nat.le_of_ble_eq_true rfl, Nat.le_of_ble_eq_true rfl⟩ d_Mo_compressRow_156 ⟨Nat.le_of_ble_eq_true rfl, Nat.le_of_ble_eq_true rfl⟩) (fun M17 h => ?_)
      refine a_iload fx 4 d_Mo_compressRow_159 rfl ?_
      refine a_iload_n fx 2 d_Mo_compressRow_161 rfl rfl ?_
      refine a_icmp_ge fx 232 d_Mo_compressRow_162 rfl (fun hc => ?_) (fun hc => ?_)
      · have h := h.1 hc
        refine a_sub [0, 1, 2, 3, 4] rfl ?_
        exact h
      · have h := h.2 hc
        refine a_aload_n fx 0 d_Mo_compressRow_165 rfl rfl ?_
        refine a_getI fx (T := F_Mo) (j := 53) (hk := hk0) (ht := ht0) (ht2 := by decide) (hc := rfl) (hin := u_in_Mo) (hj := by decide) (hj2 := by decide) (hf := rfl) (hT := rfl) (hw := w_1322) (hd := d_Mo_compressRow_166) (kk := ?_)
        refine a_iconst (v := 1) fx d_Mo_compressRow_169 rfl ?_
        refine a_iload_n fx 3 d_Mo_compressRow_170 rfl rfl ?_
        refine a_ishl fx d_Mo_compressRow_171 ?_
        refine a_icmp_ge fx 232 d_Mo_compressRow_172 rfl (fun hc => ?_) (fun hc => ?_)
        · have h := h.1 hc
          refine a_sub [0, 1, 2, 3, 4] rfl ?_
          exact h
        · have h := h.2 hc
          refine a_aload_n fx 0 d_Mo_compressRow_175 rfl rfl ?_
          refine a_getS fx (T := F_Mo) (j := 51) (hk := hk0) (ht := ht0) (ht2 := by decide) (hc := rfl) (hin := u_in_Mo) (hj := by decide) (hj2 := by decide) (hf := rfl) (n9 := 35) (hfo := rfl) (hT := rfl) (hw := w_1320) (hd := d_Mo_compressRow_176) (kk := ?_)
          refine a_aload_n fx 0 d_Mo_compressRow_179 rfl rfl ?_
          refine a_getI fx (T := F_Mo) (j := 53) (hk := hk0) (ht := ht0) (ht2 := by decide) (hc := rfl) (hin := u_in_Mo) (hj := by decide) (hj2 := by decide) (hf := rfl) (hT := rfl) (hw := w_1322) (hd := d_Mo_compressRow_180) (kk := ?_)
          refine a_aload_n fx 1 d_Mo_compressRow_183 rfl rfl ?_
          refine a_iload fx 4 d_Mo_compressRow_184 rfl ?_
          obtain ⟨hin, h⟩ := h
          refine a_bald fx hk1 ht1 hin d_Mo_compressRow_186 ?_
          refine a_sipush (v := 255) fx d_Mo_compressRow_187 rfl ?_
          refine a_iand fx d_Mo_compressRow_190 ?_
          obtain ⟨hin, h⟩ := h
          refine a_iast fx (lo_9_51 hk0 ht0).1 (lo_9_51 hk0 ht0).2 hin d_Mo_compressRow_191 (a_mem (fun M18 eM18 => ?_))
          have h := h M18 eM18
          refine a_aload_n fx 0 d_Mo_compressRow_192 rfl rfl ?_
          refine a_getS fx (T := F_Mo) (j := 50) (hk := hk0) (ht := ht0) (ht2 := by decide) (hc := rfl) (hin := u_in_Mo) (hj := by decide) (hj2 := by decide) (hf := rfl) (n9 := 34) (hfo := rfl) (hT := rfl) (hw := w_1319) (hd := d_Mo_compressRow_193) (kk := ?_)
          refine a_aload_n fx 0 d_Mo_compressRow_196 rfl rfl ?_
          refine a_getI fx (T := F_Mo) (j := 53) (hk := hk0) (ht := ht0) (ht2 := by decide) (hc := rfl) (hin := u_in_Mo) (hj := by decide) (hj2 := by decide) (hf := rfl) (hT := rfl) (hw := w_1322) (hd := d_Mo_compressRow_197) (kk := ?_)
          refine a_aload_n fx 0 d_Mo_compressRow_200 rfl rfl ?_
          refine a_getS fx (T := F_Mo) (j := 49) (hk := hk0) (ht := ht0) (ht2 := by decide) (hc := rfl) (hin := u_in_Mo) (hj := by decide) (hj2 := by decide) (hf := rfl) (n9 := 33) (hfo := rfl) (hT := rfl) (hw := w_1318) (hd := d_Mo_compressRow_201) (kk := ?_)
          refine a_iload fx 5 d_Mo_compressRow_204 rfl ?_
          obtain ⟨hin, h⟩ := h
          refine a_iald fx (lo_9_49 hk0 ht0).1 (lo_9_49 hk0 ht0).2 hin d_Mo_compressRow_206 ?_
          obtain ⟨hin, h⟩ := h
          refine a_iast fx (lo_9_50 hk0 ht0).1 (lo_9_50 hk0 ht0).2 hin d_Mo_compressRow_207 (a_mem (fun M19 eM19 => ?_))
          have h := h M19 eM19
          refine a_aload_n fx 0 d_Mo_compressRow_208 rfl rfl ?_
          refine a_getS fx (T := F_Mo) (j := 49) (hk := hk0) (ht := ht0) (ht2 := by decide) (hc := rfl) (hin := u_in_Mo) (hj := by decide) (hj2 := by decide) (hf := rfl) (n9 := 33) (hfo := rfl) (hT := rfl) (hw := w_1318) (hd := d_Mo_compressRow_209) (kk := ?_)
          refine a_iload fx 5 d_Mo_compressRow_212 rfl ?_
          refine a_aload_n fx 0 d_Mo_compressRow_214 rfl rfl ?_
          refine a_getI fx (T := F_Mo) (j := 53) (hk := hk0) (ht := ht0) (ht2 := by decide) (hc := rfl) (hin := u_in_Mo) (hj := by decide) (hj2 := by decide) (hf := rfl) (hT := rfl) (hw := w_1322) (hd := d_Mo_compressRow_215) (kk := ?_)
          obtain ⟨hin, h⟩ := h
          refine a_iast fx (lo_9_49 hk0 ht0).1 (lo_9_49 hk0 ht0).2 hin d_Mo_compressRow_218 (a_mem (fun M20 eM20 => ?_))
          have h := h M20 eM20
          refine a_aload_n fx 0 d_Mo_compressRow_219 rfl rfl ?_
          refine a_dup fx d_Mo_compressRow_220 rfl ?_
          refine a_getI fx (T := F_Mo) (j := 53) (hk := hk0) (ht := ht0) (ht2 := by decide) (hc := rfl) (hin := u_in_Mo) (hj := by decide) (hj2 := by decide) (hf := rfl) (hT := rfl) (hw := w_1322) (hd := d_Mo_compressRow_221) (kk := ?_)
          refine a_iconst (v := 1) fx d_Mo_compressRow_224 rfl ?_
          refine a_iadd fx d_Mo_compressRow_225 ?_
          refine a_putI fx (T := F_Mo) (ty0 := t_Mo) (j := 53) (hk := hk0) (ht := ht0) (ht2 := by decide) (hc := rfl) (hin := u_in_Mo) (hty := t_Mo_ok) (hnm := n_Mo) (hj := by decide) (hj2 := by decide) (hf := rfl) (hT := rfl) (hfin := rfl) (hn := rfl) (hfit := rfl) (hw := w_1322) (hd := d_Mo_compressRow_226) (kk := a_mem (fun M21 eM21 => ?_))
          have h := h M21 eM21
          refine a_goto fx 260 d_Mo_compressRow_229 rfl ?_
          refine a_goto fx 66 d_Mo_compressRow_260 rfl ?_
          refine a_sub [0, 1, 2, 3, 4] rfl ?_
          exact h
    · have h := h.2 hc
      refine a_iload fx 6 d_Mo_compressRow_116 rfl ?_
      refine a_istore (lv2 := [(5, .int v6), (0, .ref (B + a0)), (1, .ref (B + a1)), (2, .int i2), (3, .int i3), (4, .int v4), (6, .int v6)]) fx d_Mo_compressRow_118 (by decide) rfl ?_
      obtain ⟨x22, ex22⟩ : ∃ z : Int32, z = v4 + 1 := ⟨_, rfl⟩
      have h := h x22 ex22
      refine a_iinc (lv2 := [(4, .int x22), (5, .int v6), (0, .ref (B + a0)), (1, .ref (B + a1)), (2, .int i2), (3, .int i3), (6, .int v6)]) fx 5 d_Mo_compressRow_120 rfl ex22.symm (by decide) rfl ?_
      refine a_iload fx 0 d_Mo_compressRow_123 rfl ?_
      refine a_iload_n fx 4 d_Mo_compressRow_125 rfl rfl ?_
      refine a_icmp_ge fx 146 d_Mo_compressRow_126 rfl (fun hc => ?_) (fun hc => ?_)
      · have h := h.1 hc
        refine a_iconst (v := 0) fx d_Mo_compressRow_146 rfl ?_
        refine a_istore (lv2 := [(6, .int 0), (4, .int x22), (5, .int v6), (0, .ref (B + a0)), (1, .ref (B + a1)), (2, .int i2), (3, .int i3)]) fx d_Mo_compressRow_147 (by decide) rfl ?_
        refine a_goto fx 111 d_Mo_compressRow_149 rfl ?_
        refine a_sub [3, 4, 5, 6, 1, 2, 0] rfl ?_
        exact h
      · have h := h.2 hc
        refine a_aload_n fx 2 d_Mo_compressRow_129 rfl rfl ?_
        refine a_iload fx 1 d_Mo_compressRow_130 rfl ?_
        refine a_aload_n fx 3 d_Mo_compressRow_132 rfl rfl ?_
        refine a_iload fx 0 d_Mo_compressRow_133 rfl ?_
        obtain ⟨hin, h⟩ := h
        refine a_bald fx hk1 ht1 hin d_Mo_compressRow_135 ?_
        refine a_sipush (v := 255) fx d_Mo_compressRow_136 rfl ?_
        refine a_iand fx d_Mo_compressRow_139 ?_
        refine a_calli (rest := []) (a_runV (As := [.int v6, .int ((M.1 a1 (x22).toNatClampNeg) &&& 255)]) fx cv_Mo_goOn w_1595 (Met_Mo_goOn l B D aC aS (hk0 := hk0) (ht0 := ht0) h) hk0 ht0 (by decide) rfl rfl rfl (Nat.le_of_ble_eq_true rfl) rfl rfl ⟨Nat.le_of_ble_eq_true rfl, Nat.le_of_ble_eq_true rfl⟩ d_Mo_compressRow_140 ⟨Nat.le_of_ble_eq_true rfl, Nat.le_of_ble_eq_true rfl⟩) (fun x24 M23 h => ?_)
        refine a_goto fx 147 d_Mo_compressRow_143 rfl ?_
        refine a_istore (lv2 := [(6, .int x24), (4, .int x22), (5, .int v6), (0, .ref (B + a0)), (1, .ref (B + a1)), (2, .int i2), (3, .int i3)]) fx d_Mo_compressRow_147 (by decide) rfl ?_
        refine a_goto fx 111 d_Mo_compressRow_149 rfl ?_
        refine a_sub [3, 4, 5, 6, 1, 2, 0] rfl ?_
        exact h)
  have h := h (by
    intro v4 M h
    refine a_iload fx 4 d_Mo_compressRow_232 rfl ?_
    refine a_iload_n fx 2 d_Mo_compressRow_234 rfl rfl ?_
    refine a_icmp_ge fx 260 d_Mo_compressRow_235 rfl (fun hc => ?_) (fun hc => ?_)
    · have h := h.1 hc
      refine a_goto fx 66 d_Mo_compressRow_260 rfl ?_
      refine a_sub [0, 1, 2, 3, 4] rfl ?_
      exact h
    · have h := h.2 hc
      refine a_aload_n fx 0 d_Mo_compressRow_238 rfl rfl ?_
      refine a_sipush (v := 256) fx d_Mo_compressRow_239 rfl ?_
      refine a_iload_n fx 3 d_Mo_compressRow_242 rfl rfl ?_
      refine a_callv (rest := []) (a_runV (As := [.int 256, .int i3]) fx cv_Mo_putCode w_1599 (Met_Mo_putCode l B D aC aS (hk0 := hk0) (ht0 := ht0) h) hk0 ht0 (by decide) rfl rfl rfl (Nat.le_of_ble_eq_true rfl) rfl rfl ⟨Nat.le_of_ble_eq_true rfl, Nat.le_of_ble_eq_true rfl⟩ d_Mo_compressRow_243 ⟨Nat.le_of_ble_eq_true rfl, Nat.le_of_ble_eq_true rfl⟩) (fun M25 h => ?_)
      refine a_aload_n fx 0 d_Mo_compressRow_246 rfl rfl ?_
      refine a_callv (rest := []) (a_runV (As := []) fx cv_Mo_fill w_1603 (Met_Mo_fill l B D aC aS (hk0 := hk0) (ht0 := ht0) h) hk0 ht0 (by decide) rfl rfl rfl (Nat.le_of_ble_eq_true rfl) rfl rfl ⟨Nat.le_of_ble_eq_true rfl, Nat.le_of_ble_eq_true rfl⟩ d_Mo_compressRow_247 ⟨Nat.le_of_ble_eq_true rfl, Nat.le_of_ble_eq_true rfl⟩) (fun M26 h => ?_)
      refine a_aload_n fx 0 d_Mo_compressRow_250 rfl rfl ?_
      refine a_bipush (v := 9) fx d_Mo_compressRow_251 rfl ?_
      refine a_putI fx (T := F_Mo) (ty0 := t_Mo) (j := 54) (hk := hk0) (ht := ht0) (ht2 := by decide) (hc := rfl) (hin := u_in_Mo) (hty := t_Mo_ok) (hnm := n_Mo) (hj := by decide) (hj2 := by decide) (hf := rfl) (hT := rfl) (hfin := rfl) (hn := rfl) (hfit := rfl) (hw := w_1323) (hd := d_Mo_compressRow_253) (kk := a_mem (fun M27 eM27 => ?_))
      have h := h M27 eM27
      refine a_aload_n fx 0 d_Mo_compressRow_256 rfl rfl ?_
      refine a_callv (rest := []) (a_runV (As := []) fx cv_Mo_clearTable w_1590 (Met_Mo_clearTable l B D aC aS (hk0 := hk0) (ht0 := ht0) h) hk0 ht0 (by decide) rfl rfl rfl (Nat.le_of_ble_eq_true rfl) rfl rfl ⟨Nat.le_of_ble_eq_true rfl, Nat.le_of_ble_eq_true rfl⟩ d_Mo_compressRow_257 ⟨Nat.le_of_ble_eq_true rfl, Nat.le_of_ble_eq_true rfl⟩) (fun M28 h => ?_)
      refine a_goto fx 66 d_Mo_compressRow_260 rfl ?_
      refine a_sub [0, 1, 2, 3, 4] rfl ?_
      exact h)
  refine a_aload_n fx 0 d_Mo_compressRow_0 rfl rfl ?_
  refine a_iconst (v := 0) fx d_Mo_compressRow_1 rfl ?_
  refine a_putI fx (T := F_Mo) (ty0 := t_Mo) (j := 27) (hk := hk0) (ht := ht0) (ht2 := by decide) (hc := rfl) (hin := u_in_Mo) (hty := t_Mo_ok) (hnm := n_Mo) (hj := by decide) (hj2 := by decide) (hf := rfl) (hT := rfl) (hfin := rfl) (hn := rfl) (hfit := rfl) (hw := w_1296) (hd := d_Mo_compressRow_2) (kk := a_mem (fun M1 eM1 => ?_))
  have h := h M1 eM1
  refine a_aload_n fx 0 d_Mo_compressRow_5 rfl rfl ?_
  refine a_getS fx (T := F_Mo) (j := 28) (hk := hk0) (ht := ht0) (ht2 := by decide) (hc := rfl) (hin := u_in_Mo) (hj := by decide) (hj2 := by decide) (hf := rfl) (n9 := 23) (hfo := rfl) (hT := rfl) (hw := w_1297) (hd := d_Mo_compressRow_6) (kk := ?_)
  refine a_iconst (v := 0) fx d_Mo_compressRow_9 rfl ?_
  refine a_bipush (v := 31) fx d_Mo_compressRow_10 rfl ?_
  obtain ⟨hin, h⟩ := h
  refine a_bast fx (lo_9_28 hk0 ht0).1 (lo_9_28 hk0 ht0).2 hin d_Mo_compressRow_12 (a_mem (fun M2 eM2 => ?_))
  have h := h M2 eM2
  refine a_aload_n fx 0 d_Mo_compressRow_13 rfl rfl ?_
  refine a_getS fx (T := F_Mo) (j := 28) (hk := hk0) (ht := ht0) (ht2 := by decide) (hc := rfl) (hin := u_in_Mo) (hj := by decide) (hj2 := by decide) (hf := rfl) (n9 := 23) (hfo := rfl) (hT := rfl) (hw := w_1297) (hd := d_Mo_compressRow_14) (kk := ?_)
  refine a_iconst (v := 1) fx d_Mo_compressRow_17 rfl ?_
  refine a_bipush (v := (-99)) fx d_Mo_compressRow_18 rfl ?_
  obtain ⟨hin, h⟩ := h
  refine a_bast fx (lo_9_28 hk0 ht0).1 (lo_9_28 hk0 ht0).2 hin d_Mo_compressRow_20 (a_mem (fun M3 eM3 => ?_))
  have h := h M3 eM3
  refine a_aload_n fx 0 d_Mo_compressRow_21 rfl rfl ?_
  refine a_getS fx (T := F_Mo) (j := 28) (hk := hk0) (ht := ht0) (ht2 := by decide) (hc := rfl) (hin := u_in_Mo) (hj := by decide) (hj2 := by decide) (hf := rfl) (n9 := 23) (hfo := rfl) (hT := rfl) (hw := w_1297) (hd := d_Mo_compressRow_22) (kk := ?_)
  refine a_iconst (v := 2) fx d_Mo_compressRow_25 rfl ?_
  refine a_sipush (v := 128) fx d_Mo_compressRow_26 rfl ?_
  refine a_iload_n fx 3 d_Mo_compressRow_29 rfl rfl ?_
  refine a_iadd fx d_Mo_compressRow_30 ?_
  refine a_i2b fx d_Mo_compressRow_31 ?_
  obtain ⟨hin, h⟩ := h
  refine a_bast fx (lo_9_28 hk0 ht0).1 (lo_9_28 hk0 ht0).2 hin d_Mo_compressRow_32 (a_mem (fun M4 eM4 => ?_))
  have h := h M4 eM4
  refine a_aload_n fx 0 d_Mo_compressRow_33 rfl rfl ?_
  refine a_iconst (v := 3) fx d_Mo_compressRow_34 rfl ?_
  refine a_putI fx (T := F_Mo) (ty0 := t_Mo) (j := 27) (hk := hk0) (ht := ht0) (ht2 := by decide) (hc := rfl) (hin := u_in_Mo) (hty := t_Mo_ok) (hnm := n_Mo) (hj := by decide) (hj2 := by decide) (hf := rfl) (hT := rfl) (hfin := rfl) (hn := rfl) (hfit := rfl) (hw := w_1296) (hd := d_Mo_compressRow_35) (kk := a_mem (fun M5 eM5 => ?_))
  have h := h M5 eM5
  refine a_aload_n fx 0 d_Mo_compressRow_38 rfl rfl ?_
  refine a_iconst (v := 0) fx d_Mo_compressRow_39 rfl ?_
  refine a_putI fx (T := F_Mo) (ty0 := t_Mo) (j := 56) (hk := hk0) (ht := ht0) (ht2 := by decide) (hc := rfl) (hin := u_in_Mo) (hty := t_Mo_ok) (hnm := n_Mo) (hj := by decide) (hj2 := by decide) (hf := rfl) (hT := rfl) (hfin := rfl) (hn := rfl) (hfit := rfl) (hw := w_1325) (hd := d_Mo_compressRow_40) (kk := a_mem (fun M6 eM6 => ?_))
  have h := h M6 eM6
  refine a_aload_n fx 0 d_Mo_compressRow_43 rfl rfl ?_
  refine a_iconst (v := 0) fx d_Mo_compressRow_44 rfl ?_
  refine a_putI fx (T := F_Mo) (ty0 := t_Mo) (j := 57) (hk := hk0) (ht := ht0) (ht2 := by decide) (hc := rfl) (hin := u_in_Mo) (hty := t_Mo_ok) (hnm := n_Mo) (hj := by decide) (hj2 := by decide) (hf := rfl) (hT := rfl) (hfin := rfl) (hn := rfl) (hfit := rfl) (hw := w_1326) (hd := d_Mo_compressRow_45) (kk := a_mem (fun M7 eM7 => ?_))
  have h := h M7 eM7
  refine a_aload_n fx 0 d_Mo_compressRow_48 rfl rfl ?_
  refine a_iconst (v := 0) fx d_Mo_compressRow_49 rfl ?_
  refine a_putI fx (T := F_Mo) (ty0 := t_Mo) (j := 55) (hk := hk0) (ht := ht0) (ht2 := by decide) (hc := rfl) (hin := u_in_Mo) (hty := t_Mo_ok) (hnm := n_Mo) (hj := by decide) (hj2 := by decide) (hf := rfl) (hT := rfl) (hfin := rfl) (hn := rfl) (hfit := rfl) (hw := w_1324) (hd := d_Mo_compressRow_50) (kk := a_mem (fun M8 eM8 => ?_))
  have h := h M8 eM8
  refine a_aload_n fx 0 d_Mo_compressRow_53 rfl rfl ?_
  refine a_bipush (v := 9) fx d_Mo_compressRow_54 rfl ?_
  refine a_putI fx (T := F_Mo) (ty0 := t_Mo) (j := 54) (hk := hk0) (ht := ht0) (ht2 := by decide) (hc := rfl) (hin := u_in_Mo) (hty := t_Mo_ok) (hnm := n_Mo) (hj := by decide) (hj2 := by decide) (hf := rfl) (hT := rfl) (hfin := rfl) (hn := rfl) (hfit := rfl) (hw := w_1323) (hd := d_Mo_compressRow_56) (kk := a_mem (fun M9 eM9 => ?_))
  have h := h M9 eM9
  refine a_aload_n fx 0 d_Mo_compressRow_59 rfl rfl ?_
  refine a_callv (rest := []) (a_runV (As := []) fx cv_Mo_clearTable w_1590 (Met_Mo_clearTable l B D aC aS (hk0 := hk0) (ht0 := ht0) h) hk0 ht0 (by decide) rfl rfl rfl (Nat.le_of_ble_eq_true rfl) rfl rfl ⟨Nat.le_of_ble_eq_true rfl, Nat.le_of_ble_eq_true rfl⟩ d_Mo_compressRow_60 ⟨Nat.le_of_ble_eq_true rfl, Nat.le_of_ble_eq_true rfl⟩) (fun M10 h => ?_)
  refine a_iconst (v := 0) fx d_Mo_compressRow_63 rfl ?_
  refine a_istore (lv2 := [(4, .int 0), (0, .ref (B + a0)), (1, .ref (B + a1)), (2, .int i2), (3, .int i3)]) fx d_Mo_compressRow_64 (by decide) rfl ?_
  refine a_sub [1, 2, 3, 4, 0] rfl ?_
  exact h
set_option maxRecDepth 100000 in
set_option maxHeartbeats 4000000 in
theorem Met_Mo_code (l : Launch) (B : Nat) (D : va_G) (aC : Nat → ClassId) (aS : Nat → Nat) {a0 : Nat} {i1 : Int32} {M : zM} {post : Int32 → zM → Prop} (hk0 : a0 < N0) (ht0 : tg a0 = 9) (h : Wp_Mo_code a0 i1 M post) : Met l y_Mo_code (wo y_Mo_code b_Mo_code 5 (some FieldType.int)) { frames := 0, cells := 0, slots := 0, locals := 0 } (va_Pc [.ref (B + a0), .int i1] (zWl B D aC aS M)) (zQi B D aC post) 0 0 (zAb B) := by
  refine z_met (own := "MailChainModel") (lv0 := [(0, .ref (B + a0)), (1, .int i1)]) (by decide) rfl (Nat.le_of_ble_eq_true rfl) rfl ?_
  intro p e s m below meth c fx hr hlo
  delta Wp_Mo_code at h
  have h := h (fun v2 v3 M => zAt p l e { frames := 0, cells := 0, slots := 0, locals := 0 } s m ([.ref (B + a0), .int i1] : List Value).toArray below meth c 0 0 (MQ below (zQi B D aC post) ([.ref (B + a0), .int i1] : List Value).toArray s 0 0 (zAb B)) B D aC 5 4 [(0, .ref (B + a0)), (1, .int i1), (2, .int v2), (3, .int v3)] [] M)
  have h := h (fun v2 v3 w0 M => zAt p l e { frames := 0, cells := 0, slots := 0, locals := 0 } s m ([.ref (B + a0), .int i1] : List Value).toArray below meth c 0 0 (MQ below (zQi B D aC post) ([.ref (B + a0), .int i1] : List Value).toArray s 0 0 (zAb B)) B D aC 5 49 [(0, .ref (B + a0)), (1, .int i1), (2, .int v2), (3, .int v3)] [.int w0] M)
  have h := h (by
    intro v2 v3 M h
    refine a_iload_n fx 3 d_Mo_code_4 rfl rfl ?_
    refine a_iload_n fx 1 d_Mo_code_5 rfl rfl ?_
    refine a_icmp_ge fx 74 d_Mo_code_6 rfl (fun hc => ?_) (fun hc => ?_)
    · have h := h.1 hc
      refine a_iload_n fx 2 d_Mo_code_74 rfl rfl ?_
      exact a_iret fx hlo hr h d_Mo_code_75
    · have h := h.2 hc
      refine a_aload_n fx 0 d_Mo_code_9 rfl rfl ?_
      refine a_getI fx (T := F_Mo) (j := 58) (hk := hk0) (ht := ht0) (ht2 := by decide) (hc := rfl) (hin := u_in_Mo) (hj := by decide) (hj2 := by decide) (hf := rfl) (hT := rfl) (hw := w_1327) (hd := d_Mo_code_10) (kk := ?_)
      refine a_bipush (v := 8) fx d_Mo_code_13 rfl ?_
      refine a_idiv fx d_Mo_code_15 (by decide) ?_
      refine a_aload_n fx 0 d_Mo_code_16 rfl rfl ?_
      refine a_getI fx (T := F_Mo) (j := 45) (hk := hk0) (ht := ht0) (ht2 := by decide) (hc := rfl) (hin := u_in_Mo) (hj := by decide) (hj2 := by decide) (hf := rfl) (hT := rfl) (hw := w_1314) (hd := d_Mo_code_17) (kk := ?_)
      refine a_icmp_ge fx 48 d_Mo_code_20 rfl (fun hc => ?_) (fun hc => ?_)
      · have h := h.1 hc
        refine a_iconst (v := 0) fx d_Mo_code_48 rfl ?_
        refine a_sub [0, 1, 2, 3] rfl ?_
        exact h
      · have h := h.2 hc
        refine a_aload_n fx 0 d_Mo_code_23 rfl rfl ?_
        refine a_getS fx (T := F_Mo) (j := 46) (hk := hk0) (ht := ht0) (ht2 := by decide) (hc := rfl) (hin := u_in_Mo) (hj := by decide) (hj2 := by decide) (hf := rfl) (n9 := 31) (hfo := rfl) (hT := rfl) (hw := w_1315) (hd := d_Mo_code_24) (kk := ?_)
        refine a_aload_n fx 0 d_Mo_code_27 rfl rfl ?_
        refine a_getI fx (T := F_Mo) (j := 58) (hk := hk0) (ht := ht0) (ht2 := by decide) (hc := rfl) (hin := u_in_Mo) (hj := by decide) (hj2 := by decide) (hf := rfl) (hT := rfl) (hw := w_1327) (hd := d_Mo_code_28) (kk := ?_)
        refine a_bipush (v := 8) fx d_Mo_code_31 rfl ?_
        refine a_idiv fx d_Mo_code_33 (by decide) ?_
        obtain ⟨hin, h⟩ := h
        refine a_bald fx (lo_9_46 hk0 ht0).1 (lo_9_46 hk0 ht0).2 hin d_Mo_code_34 ?_
        refine a_aload_n fx 0 d_Mo_code_35 rfl rfl ?_
        refine a_getI fx (T := F_Mo) (j := 58) (hk := hk0) (ht := ht0) (ht2 := by decide) (hc := rfl) (hin := u_in_Mo) (hj := by decide) (hj2 := by decide) (hf := rfl) (hT := rfl) (hw := w_1327) (hd := d_Mo_code_36) (kk := ?_)
        refine a_bipush (v := 8) fx d_Mo_code_39 rfl ?_
        refine a_irem fx d_Mo_code_41 (by decide) ?_
        refine a_ishr fx d_Mo_code_42 ?_
        refine a_iconst (v := 1) fx d_Mo_code_43 rfl ?_
        refine a_iand fx d_Mo_code_44 ?_
        refine a_goto fx 49 d_Mo_code_45 rfl ?_
        refine a_sub [0, 1, 2, 3] rfl ?_
        exact h)
  have h := h (by
    intro v2 v3 w0 M h
    refine a_istore (lv2 := [(4, .int w0), (0, .ref (B + a0)), (1, .int i1), (2, .int v2), (3, .int v3)]) fx d_Mo_code_49 (by decide) rfl ?_
    refine a_iload_n fx 3 d_Mo_code_51 rfl rfl ?_
    refine a_iload fx 0 d_Mo_code_52 rfl ?_
    refine a_iload_n fx 4 d_Mo_code_54 rfl rfl ?_
    refine a_ishl fx d_Mo_code_55 ?_
    refine a_ior fx d_Mo_code_56 ?_
    refine a_topi (fun x1 ex1 => ?_)
    have h := h x1 ex1
    refine a_istore_n (lv2 := [(2, .int x1), (4, .int w0), (0, .ref (B + a0)), (1, .int i1), (3, .int v3)]) fx d_Mo_code_57 rfl (by decide) rfl ?_
    refine a_aload_n fx 2 d_Mo_code_58 rfl rfl ?_
    refine a_dup fx d_Mo_code_59 rfl ?_
    refine a_getI fx (T := F_Mo) (j := 58) (hk := hk0) (ht := ht0) (ht2 := by decide) (hc := rfl) (hin := u_in_Mo) (hj := by decide) (hj2 := by decide) (hf := rfl) (hT := rfl) (hw := w_1327) (hd := d_Mo_code_60) (kk := ?_)
    refine a_iconst (v := 1) fx d_Mo_code_63 rfl ?_
    refine a_iadd fx d_Mo_code_64 ?_
    refine a_putI fx (T := F_Mo) (ty0 := t_Mo) (j := 58) (hk := hk0) (ht := ht0) (ht2 := by decide) (hc := rfl) (hin := u_in_Mo) (hty := t_Mo_ok) (hnm := n_Mo) (hj := by decide) (hj2 := by decide) (hf := rfl) (hT := rfl) (hfin := rfl) (hn := rfl) (hfit := rfl) (hw := w_1327) (hd := d_Mo_code_65) (kk := a_mem (fun M2 eM2 => ?_))
    have h := h M2 eM2
    obtain ⟨x3, ex3⟩ : ∃ z : Int32, z = v3 + 1 := ⟨_, rfl⟩
    have h := h x3 ex3
    refine a_iinc (lv2 := [(3, .int x3), (2, .int x1), (4, .int w0), (0, .ref (B + a0)), (1, .int i1)]) fx 4 d_Mo_code_68 rfl ex3.symm (by decide) rfl ?_
    refine a_goto fx 4 d_Mo_code_71 rfl ?_
    refine a_sub [3, 4, 1, 0] rfl ?_
    exact h)
  refine a_iconst (v := 0) fx d_Mo_code_0 rfl ?_
  refine a_istore_n (lv2 := [(2, .int 0), (0, .ref (B + a0)), (1, .int i1)]) fx d_Mo_code_1 rfl (by decide) rfl ?_
  refine a_iconst (v := 0) fx d_Mo_code_2 rfl ?_
  refine a_istore_n (lv2 := [(3, .int 0), (2, .int 0), (0, .ref (B + a0)), (1, .int i1)]) fx d_Mo_code_3 rfl (by decide) rfl ?_
  refine a_sub [2, 3, 1, 0] rfl ?_
  exact h
set_option maxRecDepth 100000 in
set_option maxHeartbeats 4000000 in
theorem Met_Mo_firstByte (l : Launch) (B : Nat) (D : va_G) (aC : Nat → ClassId) (aS : Nat → Nat) {a0 : Nat} {i1 : Int32} {M : zM} {post : Int32 → zM → Prop} (hk0 : a0 < N0) (ht0 : tg a0 = 9) (h : Wp_Mo_firstByte a0 i1 M post) : Met l y_Mo_firstByte (wo y_Mo_firstByte b_Mo_firstByte 3 (some FieldType.int)) { frames := 0, cells := 0, slots := 0, locals := 0 } (va_Pc [.ref (B + a0), .int i1] (zWl B D aC aS M)) (zQi B D aC post) 0 0 (zAb B) := by
  refine z_met (own := "MailChainModel") (lv0 := [(0, .ref (B + a0)), (1, .int i1)]) (by decide) rfl (Nat.le_of_ble_eq_true rfl) rfl ?_
  intro p e s m below meth c fx hr hlo
  delta Wp_Mo_firstByte at h
  have h := h (fun v2 M => zAt p l e { frames := 0, cells := 0, slots := 0, locals := 0 } s m ([.ref (B + a0), .int i1] : List Value).toArray below meth c 0 0 (MQ below (zQi B D aC post) ([.ref (B + a0), .int i1] : List Value).toArray s 0 0 (zAb B)) B D aC 3 2 [(0, .ref (B + a0)), (1, .int i1), (2, .int v2)] [] M)
  have h := h (by
    intro v2 M h
    refine a_iload_n fx 2 d_Mo_firstByte_2 rfl rfl ?_
    refine a_sipush (v := 256) fx d_Mo_firstByte_3 rfl ?_
    refine a_icmp_le fx 19 d_Mo_firstByte_6 rfl (fun hc => ?_) (fun hc => ?_)
    · have h := h.1 hc
      refine a_iload_n fx 2 d_Mo_firstByte_19 rfl rfl ?_
      exact a_iret fx hlo hr h d_Mo_firstByte_20
    · have h := h.2 hc
      refine a_aload_n fx 0 d_Mo_firstByte_9 rfl rfl ?_
      refine a_getS fx (T := F_Mo) (j := 52) (hk := hk0) (ht := ht0) (ht2 := by decide) (hc := rfl) (hin := u_in_Mo) (hj := by decide) (hj2 := by decide) (hf := rfl) (n9 := 36) (hfo := rfl) (hT := rfl) (hw := w_1321) (hd := d_Mo_firstByte_10) (kk := ?_)
      refine a_iload_n fx 2 d_Mo_firstByte_13 rfl rfl ?_
      obtain ⟨hin, h⟩ := h
      refine a_iald fx (lo_9_52 hk0 ht0).1 (lo_9_52 hk0 ht0).2 hin d_Mo_firstByte_14 ?_
      refine a_topi (fun x1 ex1 => ?_)
      have h := h x1 ex1
      refine a_istore_n (lv2 := [(2, .int x1), (0, .ref (B + a0)), (1, .int i1)]) fx d_Mo_firstByte_15 rfl (by decide) rfl ?_
      refine a_goto fx 2 d_Mo_firstByte_16 rfl ?_
      refine a_sub [1, 2, 0] rfl ?_
      exact h)
  refine a_iload_n fx 1 d_Mo_firstByte_0 rfl rfl ?_
  refine a_istore_n (lv2 := [(2, .int i1), (0, .ref (B + a0)), (1, .int i1)]) fx d_Mo_firstByte_1 rfl (by decide) rfl ?_
  refine a_sub [1, 2, 0] rfl ?_
  exact h
