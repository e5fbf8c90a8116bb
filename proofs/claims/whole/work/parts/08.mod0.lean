/-- MailChainModel.thrown()I -/
def Wp_Mo_thrown (a0 : Nat) (M : zM) (post : Int32 → zM → Prop) : Prop := (post (M.1 a0 6) M)
/-- MailChainModel.type(JI)I -/
def Wp_Mo_type (a0 : Nat) (l1 : Int64) (i3 : Int32) (M : zM) (post : Int32 → zM → Prop) : Prop := ∀ K39 : Int32 → zM → Prop, ∀ K86 : zM → Prop, (∀ (v4 : Int32) (M : zM), ((i3 ≤ v4 → (K86 M)) ∧ (¬ i3 ≤ v4 → ((¬ (M.1 a0 6) = 0 → (K86 M)) ∧ ((M.1 a0 6) = 0 → (vp_in (M.1 a0 7) (ln (a0 + 7)) ∧ (∀ M5 : zM, M5 = zI M (a0 + 7) ((M.1 a0 7)).toNatClampNeg (vp_nar .byte (((((l1 >>> (((8 * v4)).toInt64 &&& 63))).toInt32)).toInt8.toInt32)) → (∀ M6 : zM, M6 = zI M5 a0 7 ((M5.1 a0 7) + 1) → (∀ x7 : Int32, x7 = v4 + 1 → (K39 x7 M6))))))))) → K39 v4 M) → (∀ (M : zM), (((M.1 a0 6) ≤ 0 → (post (M.1 a0 7) M)) ∧ (¬ (M.1 a0 6) ≤ 0 → (post 0 M))) → K86 M) → ((i3 < 1 → (∀ M1 : zM, M1 = zI M a0 6 1 → (K39 0 M1))) ∧ (¬ i3 < 1 → ((i3 ≤ 8 → ((((M.1 a0 7) + i3) ≤ 8000 → (∀ M2 : zM, M2 = zI M a0 6 0 → (K39 0 M2))) ∧ (¬ ((M.1 a0 7) + i3) ≤ 8000 → (∀ M3 : zM, M3 = zI M a0 6 2 → (K39 0 M3))))) ∧ (¬ i3 ≤ 8 → (∀ M4 : zM, M4 = zI M a0 6 1 → (K39 0 M4))))))
/-- MailChainModel.again(I)I -/
def Wp_Mo_again (a0 : Nat) (i1 : Int32) (M : zM) (post : Int32 → zM → Prop) : Prop := ∀ K34 : Int32 → Nat → zM → Prop, ∀ K46 : Int32 → Int32 → zM → Prop, ∀ K91 : zM → Prop, (∀ (w0 : Int32) (w1 : Nat) (M : zM), w1 < N0 ∧ tg w1 = 9 ∧ (∀ M1 : zM, M1 = zI M w1 6 w0 → (∀ x2 : Int32, x2 = ((M1.1 a0 7) - i1) → (K46 x2 0 M1))) → K34 w0 w1 M) → (∀ (v2 : Int32) (v3 : Int32) (M : zM), ((i1 ≤ v3 → (K91 M)) ∧ (¬ i1 ≤ v3 → ((¬ (M.1 a0 6) = 0 → (K91 M)) ∧ ((M.1 a0 6) = 0 → (vp_in (v2 + v3) (ln (a0 + 7)) ∧ (vp_in (M.1 a0 7) (ln (a0 + 7)) ∧ (∀ M3 : zM, M3 = zI M (a0 + 7) ((M.1 a0 7)).toNatClampNeg (vp_nar .byte (M.1 (a0 + 7) ((v2 + v3)).toNatClampNeg)) → (∀ M4 : zM, M4 = zI M3 a0 7 ((M3.1 a0 7) + 1) → (∀ x5 : Int32, x5 = v3 + 1 → (K46 v2 x5 M4)))))))))) → K46 v2 v3 M) → (∀ (M : zM), (((M.1 a0 6) ≤ 0 → (post (M.1 a0 7) M)) ∧ (¬ (M.1 a0 6) ≤ 0 → (post 0 M))) → K91 M) → ((i1 < 0 → (K34 1 a0 M)) ∧ (¬ i1 < 0 → ((i1 ≤ (M.1 a0 7) → ((((M.1 a0 7) + i1) ≤ 8000 → (K34 0 a0 M)) ∧ (¬ ((M.1 a0 7) + i1) ≤ 8000 → (K34 2 a0 M)))) ∧ (¬ i1 ≤ (M.1 a0 7) → (K34 1 a0 M)))))
/-- MailChainModel.at(II)I -/
def Wp_Mo_at (i0 : Int32) (i1 : Int32) (M : zM) (post : Int32 → zM → Prop) : Prop := (post ((41 * i0) + i1) M)
/-- MailChainModel.look([BII)V -/
def Wp_Mo_look (a0 : Nat) (a1 : Nat) (i2 : Int32) (i3 : Int32) (M : zM) (post : zM → Prop) : Prop := ∀ K19 : Int32 → zM → Prop, (∀ (v4 : Int32) (M : zM), (((M.1 a0 24) ≤ v4 → (post M)) ∧ (¬ (M.1 a0 24) ≤ v4 → (vp_in (i2 + v4) (ln a1) ∧ (vp_in v4 (ln (a0 + 21)) ∧ (∀ M3 : zM, M3 = zI M (a0 + 21) (v4).toNatClampNeg (vp_nar .byte (M.1 a1 ((i2 + v4)).toNatClampNeg)) → (∀ x4 : Int32, x4 = v4 + 1 → (K19 x4 M3))))))) → K19 v4 M) → ((60 ≤ i3 → (∀ M1 : zM, M1 = zI M a0 24 60 → (K19 0 M1))) ∧ (¬ 60 ≤ i3 → (∀ M2 : zM, M2 = zI M a0 24 i3 → (K19 0 M2))))
/-- MailChainModel.isPath()Z -/
def Wp_Mo_isPath (a0 : Nat) (M : zM) (post : Int32 → zM → Prop) : Prop := ∀ K18 : Int32 → Int32 → Int32 → zM → Prop, ∀ K50 : Int32 → Int32 → Int32 → Int32 → zM → Prop, ∀ K78 : Int32 → Int32 → Int32 → Int32 → zM → Prop, ∀ K106 : Int32 → Int32 → Int32 → Int32 → zM → Prop, ∀ K141 : Int32 → Int32 → Int32 → Int32 → zM → Prop, ∀ K161 : Int32 → zM → Prop, (∀ (v1 : Int32) (v2 : Int32) (v3 : Int32) (M : zM), (((M.1 a0 24) < v3 → (narrow .boolean (.int v1) = .int v1 ∧ post v1 M)) ∧ (¬ (M.1 a0 24) < v3 → ((v3 = (M.1 a0 24) → (K50 v1 v2 v3 1 M)) ∧ (¬ v3 = (M.1 a0 24) → (vp_in v3 (ln (a0 + 21)) ∧ ((¬ (M.1 (a0 + 21) (v3).toNatClampNeg) = 47 → (K50 v1 v2 v3 0 M)) ∧ ((M.1 (a0 + 21) (v3).toNatClampNeg) = 47 → (K50 v1 v2 v3 1 M)))))))) → K18 v1 v2 v3 M) → (∀ (v1 : Int32) (v2 : Int32) (v3 : Int32) (w0 : Int32) (M : zM), ((v1 = 0 → (K78 v2 v3 w0 0 M)) ∧ (¬ v1 = 0 → ((v3 = (M.1 a0 24) → (K78 v2 v3 w0 1 M)) ∧ (¬ v3 = (M.1 a0 24) → (vp_in v3 (ln (a0 + 21)) ∧ (((M.1 (a0 + 21) (v3).toNatClampNeg) = 0 → (K78 v2 v3 w0 0 M)) ∧ (¬ (M.1 (a0 + 21) (v3).toNatClampNeg) = 0 → (K78 v2 v3 w0 1 M)))))))) → K50 v1 v2 v3 w0 M) → (∀ (v2 : Int32) (v3 : Int32) (v4 : Int32) (w0 : Int32) (M : zM), ((v4 = 0 → (∀ x1 : Int32, x1 = v3 + 1 → (K18 w0 v2 x1 M))) ∧ (¬ v4 = 0 → (∀ x2 : Int32, x2 = (v3 - v2) → ((¬ x2 = 1 → (K106 w0 v2 v3 x2 M)) ∧ (x2 = 1 → (vp_in v2 (ln (a0 + 21)) ∧ (((M.1 (a0 + 21) (v2).toNatClampNeg) = 46 → (K141 w0 v3 x2 1 M)) ∧ (¬ (M.1 (a0 + 21) (v2).toNatClampNeg) = 46 → (K106 w0 v2 v3 x2 M))))))))) → K78 v2 v3 v4 w0 M) → (∀ (v1 : Int32) (v2 : Int32) (v3 : Int32) (v5 : Int32) (M : zM), ((¬ v5 = 2 → (K141 v1 v3 v5 0 M)) ∧ (v5 = 2 → (vp_in v2 (ln (a0 + 21)) ∧ ((¬ (M.1 (a0 + 21) (v2).toNatClampNeg) = 46 → (K141 v1 v3 v5 0 M)) ∧ ((M.1 (a0 + 21) (v2).toNatClampNeg) = 46 → (vp_in (v2 + 1) (ln (a0 + 21)) ∧ ((¬ (M.1 (a0 + 21) ((v2 + 1)).toNatClampNeg) = 46 → (K141 v1 v3 v5 0 M)) ∧ ((M.1 (a0 + 21) ((v2 + 1)).toNatClampNeg) = 46 → (K141 v1 v3 v5 1 M))))))))) → K106 v1 v2 v3 v5 M) → (∀ (v1 : Int32) (v3 : Int32) (v5 : Int32) (w0 : Int32) (M : zM), ((v1 = 0 → (K161 v3 M)) ∧ (¬ v1 = 0 → ((v5 ≤ 0 → (K161 v3 M)) ∧ (¬ v5 ≤ 0 → ((¬ w0 = 0 → (K161 v3 M)) ∧ (w0 = 0 → (∀ x3 : Int32, x3 = (v3 + 1) → (∀ x4 : Int32, x4 = v3 + 1 → (K18 1 x3 x4 M))))))))) → K141 v1 v3 v5 w0 M) → (∀ (v3 : Int32) (M : zM), (∀ x5 : Int32, x5 = (v3 + 1) → (∀ x6 : Int32, x6 = v3 + 1 → (K18 0 x5 x6 M))) → K161 v3 M) → (((M.1 a0 24) < 1 → (K18 0 0 0 M)) ∧ (¬ (M.1 a0 24) < 1 → (K18 1 0 0 M)))
/-- MailChainModel.compare(II)I -/
def Wp_Mo_compare (a0 : Nat) (i1 : Int32) (i2 : Int32) (M : zM) (post : Int32 → zM → Prop) : Prop := ∀ K10 : Int32 → Int32 → zM → Prop, (∀ (v3 : Int32) (v4 : Int32) (M : zM), ((v3 ≤ v4 → (post (v3 - i2) M)) ∧ (¬ v3 ≤ v4 → ((i2 ≤ v4 → (post (v3 - i2) M)) ∧ (¬ i2 ≤ v4 → (vp_in ((60 * i1) + v4) (ln (a0 + 9)) ∧ (vp_in v4 (ln (a0 + 21)) ∧ (∀ x2 : Int32, x2 = (((M.1 (a0 + 9) (((60 * i1) + v4)).toNatClampNeg) &&& 255) - ((M.1 (a0 + 21) (v4).toNatClampNeg) &&& 255)) → ((x2 = 0 → (∀ x3 : Int32, x3 = v4 + 1 → (K10 v3 x3 M))) ∧ (¬ x2 = 0 → (post x2 M)))))))))) → K10 v3 v4 M) → (vp_in i1 (ln (a0 + 10)) ∧ (∀ x1 : Int32, x1 = (M.1 (a0 + 10) (i1).toNatClampNeg) → (K10 x1 0 M)))
/-- MailChainModel.find(II)I -/
def Wp_Mo_find (a0 : Nat) (i1 : Int32) (i2 : Int32) (M : zM) (post : Int32 → zM → Prop) : Prop := ∀ K5 : Int32 → Int32 → zM → Prop, (∀ (v3 : Int32) (v4 : Int32) (M : zM), (vp_in i1 (ln (a0 + 8)) ∧ (((M.1 (a0 + 8) (i1).toNatClampNeg) ≤ v4 → (post v3 M)) ∧ (¬ (M.1 (a0 + 8) (i1).toNatClampNeg) ≤ v4 → (Wp_Mo_at i1 v4 M (fun x2 M1 => (Wp_Mo_compare a0 x2 i2 M1 (fun x4 M3 => ((¬ x4 = 0 → (∀ x5 : Int32, x5 = v4 + 1 → (K5 v3 x5 M3))) ∧ (x4 = 0 → (∀ x6 : Int32, x6 = v4 + 1 → (K5 v4 x6 M3))))))))))) → K5 v3 v4 M) → (K5 (-1) 0 M)
/-- MailChainModel.hasParent(I)Z -/
def Wp_Mo_hasParent (a0 : Nat) (i1 : Int32) (M : zM) (post : Int32 → zM → Prop) : Prop := ∀ K4 : Int32 → Int32 → zM → Prop, (∀ (v2 : Int32) (v3 : Int32) (M : zM), (((M.1 a0 24) ≤ v3 → ((0 ≤ v2 → (Wp_Mo_find a0 i1 v2 M (fun x2 M1 => ((x2 < 0 → (post 0 M1)) ∧ (¬ x2 < 0 → (Wp_Mo_at i1 x2 M1 (fun x4 M3 => (vp_in x4 (ln (a0 + 11)) ∧ ((¬ (M3.1 (a0 + 11) (x4).toNatClampNeg) = 0 → (post 0 M3)) ∧ ((M3.1 (a0 + 11) (x4).toNatClampNeg) = 0 → (post 1 M3))))))))))) ∧ (¬ 0 ≤ v2 → (post 1 M)))) ∧ (¬ (M.1 a0 24) ≤ v3 → (vp_in v3 (ln (a0 + 21)) ∧ ((¬ (M.1 (a0 + 21) (v3).toNatClampNeg) = 47 → (∀ x5 : Int32, x5 = v3 + 1 → (K4 v2 x5 M))) ∧ ((M.1 (a0 + 21) (v3).toNatClampNeg) = 47 → (∀ x6 : Int32, x6 = v3 + 1 → (K4 v3 x6 M))))))) → K4 v2 v3 M) → (K4 (-1) 0 M)
/-- MailChainModel.bytesOf(I)I -/
def Wp_Mo_bytesOf (a0 : Nat) (i1 : Int32) (M : zM) (post : Int32 → zM → Prop) : Prop := ∀ K4 : Int32 → Int32 → zM → Prop, (∀ (v2 : Int32) (v3 : Int32) (M : zM), (vp_in i1 (ln (a0 + 8)) ∧ (((M.1 (a0 + 8) (i1).toNatClampNeg) ≤ v3 → (post v2 M)) ∧ (¬ (M.1 (a0 + 8) (i1).toNatClampNeg) ≤ v3 → (Wp_Mo_at i1 v3 M (fun x2 M1 => (vp_in x2 (ln (a0 + 11)) ∧ ((¬ (M1.1 (a0 + 11) (x2).toNatClampNeg) = 1 → (∀ x3 : Int32, x3 = v3 + 1 → (K4 v2 x3 M1))) ∧ ((M1.1 (a0 + 11) (x2).toNatClampNeg) = 1 → (Wp_Mo_at i1 v3 M1 (fun x5 M4 => (vp_in x5 (ln (a0 + 17)) ∧ (∀ x6 : Int32, x6 = (v2 + (M4.1 (a0 + 17) (x5).toNatClampNeg)) → (∀ x7 : Int32, x7 = v3 + 1 → (K4 x6 x7 M4)))))))))))))) → K4 v2 v3 M) → (K4 0 0 M)
/-- MailChainModel.copyEntry(II)V -/
def Wp_Mo_copyEntry (a0 : Nat) (i1 : Int32) (i2 : Int32) (M : zM) (post : zM → Prop) : Prop := ∀ K14 : Int32 → zM → Prop, (∀ (v3 : Int32) (M : zM), ((60 ≤ v3 → (vp_in i2 (ln (a0 + 11)) ∧ (vp_in i1 (ln (a0 + 11)) ∧ (∀ M2 : zM, M2 = zI M (a0 + 11) (i1).toNatClampNeg (M.1 (a0 + 11) (i2).toNatClampNeg) → (vp_in i2 (ln (a0 + 12)) ∧ (vp_in i1 (ln (a0 + 12)) ∧ (∀ M3 : zM, M3 = zI M2 (a0 + 12) (i1).toNatClampNeg (M2.1 (a0 + 12) (i2).toNatClampNeg) → (vp_in i2 (ln (a0 + 13)) ∧ (vp_in i1 (ln (a0 + 13)) ∧ (∀ M4 : zM, M4 = zI M3 (a0 + 13) (i1).toNatClampNeg (M3.1 (a0 + 13) (i2).toNatClampNeg) → (vp_in i2 (ln (a0 + 14)) ∧ (vp_in i1 (ln (a0 + 14)) ∧ (∀ M5 : zM, M5 = zI M4 (a0 + 14) (i1).toNatClampNeg (M4.1 (a0 + 14) (i2).toNatClampNeg) → (vp_in i2 (ln (a0 + 15)) ∧ (vp_in i1 (ln (a0 + 15)) ∧ (∀ M6 : zM, M6 = zI M5 (a0 + 15) (i1).toNatClampNeg (M5.1 (a0 + 15) (i2).toNatClampNeg) → (vp_in i2 (ln (a0 + 16)) ∧ (vp_in i1 (ln (a0 + 16)) ∧ (∀ M7 : zM, M7 = zI M6 (a0 + 16) (i1).toNatClampNeg (M6.1 (a0 + 16) (i2).toNatClampNeg) → (vp_in i2 (ln (a0 + 17)) ∧ (vp_in i1 (ln (a0 + 17)) ∧ (∀ M8 : zM, M8 = zI M7 (a0 + 17) (i1).toNatClampNeg (M7.1 (a0 + 17) (i2).toNatClampNeg) → (vp_in i2 (ln (a0 + 18)) ∧ (vp_in i1 (ln (a0 + 18)) ∧ (∀ M9 : zM, M9 = zI M8 (a0 + 18) (i1).toNatClampNeg (M8.1 (a0 + 18) (i2).toNatClampNeg) → (post M9)))))))))))))))))))))))))) ∧ (¬ 60 ≤ v3 → (vp_in ((60 * i2) + v3) (ln (a0 + 9)) ∧ (vp_in ((60 * i1) + v3) (ln (a0 + 9)) ∧ (∀ M10 : zM, M10 = zI M (a0 + 9) (((60 * i1) + v3)).toNatClampNeg (vp_nar .byte (M.1 (a0 + 9) (((60 * i2) + v3)).toNatClampNeg)) → (∀ x11 : Int32, x11 = v3 + 1 → (K14 x11 M10))))))) → K14 v3 M) → (vp_in i2 (ln (a0 + 10)) ∧ (vp_in i1 (ln (a0 + 10)) ∧ (∀ M1 : zM, M1 = zI M (a0 + 10) (i1).toNatClampNeg (M.1 (a0 + 10) (i2).toNatClampNeg) → (K14 0 M1))))
/-- MailChainModel.enter(I)I -/
def Wp_Mo_enter (a0 : Nat) (i1 : Int32) (M : zM) (post : Int32 → zM → Prop) : Prop := ∀ K7 : Int32 → zM → Prop, ∀ K51 : Int32 → zM → Prop, ∀ K80 : Int32 → Int32 → zM → Prop, (∀ (v2 : Int32) (M : zM), ((v2 ≤ 0 → (K51 v2 M)) ∧ (¬ v2 ≤ 0 → (Wp_Mo_at i1 (v2 - 1) M (fun x3 M2 => (Wp_Mo_compare a0 x3 (M2.1 a0 24) M2 (fun x5 M4 => ((x5 ≤ 0 → (K51 v2 M4)) ∧ (¬ x5 ≤ 0 → (Wp_Mo_at i1 v2 M4 (fun x7 M6 => (Wp_Mo_at i1 (v2 - 1) M6 (fun x9 M8 => (Wp_Mo_copyEntry a0 x7 x9 M8 (fun M10 => (∀ x11 : Int32, x11 = v2 + (-1) → (K7 x11 M10)))))))))))))))) → K7 v2 M) → (∀ (v2 : Int32) (M : zM), (vp_in i1 (ln (a0 + 8)) ∧ (vp_in i1 (ln (a0 + 8)) ∧ (∀ M12 : zM, M12 = zI M (a0 + 8) (i1).toNatClampNeg ((M.1 (a0 + 8) (i1).toNatClampNeg) + 1) → (Wp_Mo_at i1 v2 M12 (fun x14 M13 => (vp_in x14 (ln (a0 + 10)) ∧ (∀ M15 : zM, M15 = zI M13 (a0 + 10) (x14).toNatClampNeg (M13.1 a0 24) → (K80 x14 0 M15)))))))) → K51 v2 M) → (∀ (v3 : Int32) (v4 : Int32) (M : zM), (((M.1 a0 24) ≤ v4 → (post v3 M)) ∧ (¬ (M.1 a0 24) ≤ v4 → (vp_in v4 (ln (a0 + 21)) ∧ (vp_in ((60 * v3) + v4) (ln (a0 + 9)) ∧ (∀ M16 : zM, M16 = zI M (a0 + 9) (((60 * v3) + v4)).toNatClampNeg (vp_nar .byte (M.1 (a0 + 21) (v4).toNatClampNeg)) → (∀ x17 : Int32, x17 = v4 + 1 → (K80 v3 x17 M16))))))) → K80 v3 v4 M) → (vp_in i1 (ln (a0 + 8)) ∧ (∀ x1 : Int32, x1 = (M.1 (a0 + 8) (i1).toNatClampNeg) → (K7 x1 M)))
/-- MailChainModel.isNumber(I)Z -/
def Wp_Mo_isNumber (i0 : Int32) (M : zM) (post : Int32 → zM → Prop) : Prop := ((i0 < 0 → (post 0 M)) ∧ (¬ i0 < 0 → (post 1 M)))
/-- MailChainModel.isTarget([BII)Z -/
def Wp_Mo_isTarget (a0 : Nat) (i1 : Int32) (i2 : Int32) (M : zM) (post : Int32 → zM → Prop) : Prop := ∀ K20 : Int32 → Int32 → zM → Prop, (∀ (v3 : Int32) (v4 : Int32) (M : zM), ((i2 ≤ v4 → (narrow .boolean (.int v3) = .int v3 ∧ post v3 M)) ∧ (¬ i2 ≤ v4 → ((v3 = 0 → (narrow .boolean (.int v3) = .int v3 ∧ post v3 M)) ∧ (¬ v3 = 0 → (vp_in (i1 + v4) (ln a0) ∧ (((M.1 a0 ((i1 + v4)).toNatClampNeg) = 0 → (∀ x1 : Int32, x1 = v4 + 1 → (K20 0 x1 M))) ∧ (¬ (M.1 a0 ((i1 + v4)).toNatClampNeg) = 0 → (∀ x2 : Int32, x2 = v4 + 1 → (K20 1 x2 M))))))))) → K20 v3 v4 M) → ((i2 < 1 → (K20 0 0 M)) ∧ (¬ i2 < 1 → ((60 < i2 → (K20 0 0 M)) ∧ (¬ 60 < i2 → (K20 1 0 M)))))
/-- MailChainModel.mayBe(II)Z -/
def Wp_Mo_mayBe (a0 : Nat) (i1 : Int32) (i2 : Int32) (M : zM) (post : Int32 → zM → Prop) : Prop := (∀ x1 : Int32, x1 = ((M.1 a0 7) - i2) → ((i1 = 1 → (post 1 M)) ∧ (¬ i1 = 1 → ((¬ i1 = 0 → (Wp_Mo_isTarget (a0 + 7) i2 x1 M (fun x3 M2 => ((x3 = 0 → (post 0 M2)) ∧ (¬ x3 = 0 → (post 1 M2)))))) ∧ (i1 = 0 → ((¬ x1 = 0 → (post 0 M)) ∧ (x1 = 0 → (post 1 M))))))))
/-- MailChainModel.added(IIIIII)I -/
def Wp_Mo_added (a0 : Nat) (i1 : Int32) (i2 : Int32) (i3 : Int32) (i4 : Int32) (i5 : Int32) (i6 : Int32) (M : zM) (post : Int32 → zM → Prop) : Prop := ∀ K68 : Int32 → zM → Prop, ∀ K116 : Int32 → zM → Prop, ∀ K182 : Int32 → Int32 → Nat → zM → Prop, ∀ K290 : Int32 → Int32 → zM → Prop, (∀ (w0 : Int32) (M : zM), ((w0 = 0 → (K116 w0 M)) ∧ (¬ w0 = 0 → (Wp_Mo_look a0 (a0 + 7) 0 i2 M (fun M7 => (Wp_Mo_mayBe a0 i1 i2 M7 (fun x9 M8 => ((x9 = 0 → (K116 0 M8)) ∧ (¬ x9 = 0 → (Wp_Mo_isPath a0 M8 (fun x11 M10 => ((x11 = 0 → (K116 0 M10)) ∧ (¬ x11 = 0 → (Wp_Mo_hasParent a0 0 M10 (fun x13 M12 => ((x13 = 0 → (K116 0 M12)) ∧ (¬ x13 = 0 → (K116 1 M12))))))))))))))))) → K68 w0 M) → (∀ (v7 : Int32) (M : zM), (∀ x14 : Int32, x14 = ((M.1 a0 7) - i2) → ((¬ v7 = 0 → (Wp_Mo_find a0 0 i2 M (fun x16 M15 => ((x16 < 0 → (vp_in (0 : Int32) (ln (a0 + 8)) ∧ (((M15.1 (a0 + 8) ((0 : Int32)).toNatClampNeg) = 40 → (K182 x14 3 a0 M15)) ∧ (¬ (M15.1 (a0 + 8) ((0 : Int32)).toNatClampNeg) = 40 → ((¬ i1 = 1 → (K182 x14 0 a0 M15)) ∧ (i1 = 1 → (Wp_Mo_bytesOf a0 0 M15 (fun x18 M17 => (((x18 + x14) ≤ 6000 → (K182 x14 0 a0 M17)) ∧ (¬ (x18 + x14) ≤ 6000 → (K182 x14 3 a0 M17))))))))))) ∧ (¬ x16 < 0 → (K182 x14 2 a0 M15)))))) ∧ (v7 = 0 → (K182 x14 1 a0 M)))) → K116 v7 M) → (∀ (v8 : Int32) (w0 : Int32) (w1 : Nat) (M : zM), w1 < N0 ∧ tg w1 = 9 ∧ (∀ M19 : zM, M19 = zI M w1 6 w0 → (((M19.1 a0 6) ≤ 0 → (Wp_Mo_enter a0 0 M19 (fun x21 M20 => (vp_in x21 (ln (a0 + 11)) ∧ (∀ M22 : zM, M22 = zI M20 (a0 + 11) (x21).toNatClampNeg i1 → (vp_in x21 (ln (a0 + 12)) ∧ (∀ M23 : zM, M23 = zI M22 (a0 + 12) (x21).toNatClampNeg i3 → (vp_in x21 (ln (a0 + 13)) ∧ (∀ M24 : zM, M24 = zI M23 (a0 + 13) (x21).toNatClampNeg i4 → (vp_in x21 (ln (a0 + 14)) ∧ (∀ M25 : zM, M25 = zI M24 (a0 + 14) (x21).toNatClampNeg i5 → (vp_in x21 (ln (a0 + 15)) ∧ (∀ M26 : zM, M26 = zI M25 (a0 + 15) (x21).toNatClampNeg i6 → (vp_in (0 : Int32) (ln (a0 + 19)) ∧ (vp_in x21 (ln (a0 + 16)) ∧ (∀ M27 : zM, M27 = zI M26 (a0 + 16) (x21).toNatClampNeg (M26.1 (a0 + 19) ((0 : Int32)).toNatClampNeg) → (vp_in x21 (ln (a0 + 17)) ∧ (∀ M28 : zM, M28 = zI M27 (a0 + 17) (x21).toNatClampNeg v8 → (∀ M29 : zM, M29 = zI M28 a0 22 ((M28.1 a0 22) + 1) → (vp_in x21 (ln (a0 + 18)) ∧ (∀ M30 : zM, M30 = zI M29 (a0 + 18) (x21).toNatClampNeg (M29.1 a0 22) → (K290 v8 0 M30)))))))))))))))))))))) ∧ (¬ (M19.1 a0 6) ≤ 0 → (post 0 M19)))) → K182 v8 w0 w1 M) → (∀ (v8 : Int32) (v10 : Int32) (M : zM), ((v8 ≤ v10 → (vp_in (0 : Int32) (ln (a0 + 8)) ∧ (post (M.1 (a0 + 8) ((0 : Int32)).toNatClampNeg) M))) ∧ (¬ v8 ≤ v10 → (vp_in (0 : Int32) (ln (a0 + 19)) ∧ (vp_in (i2 + v10) (ln (a0 + 7)) ∧ (vp_in (M.1 (a0 + 19) ((0 : Int32)).toNatClampNeg) (ln (a0 + 20)) ∧ (∀ M31 : zM, M31 = zI M (a0 + 20) ((M.1 (a0 + 19) ((0 : Int32)).toNatClampNeg)).toNatClampNeg (vp_nar .byte (M.1 (a0 + 7) ((i2 + v10)).toNatClampNeg)) → (vp_in (0 : Int32) (ln (a0 + 19)) ∧ (vp_in (0 : Int32) (ln (a0 + 19)) ∧ (∀ M32 : zM, M32 = zI M31 (a0 + 19) ((0 : Int32)).toNatClampNeg ((M31.1 (a0 + 19) ((0 : Int32)).toNatClampNeg) + 1) → (∀ x33 : Int32, x33 = v10 + 1 → (K290 v8 x33 M32))))))))))) → K290 v8 v10 M) → ((i1 < 0 → (K68 0 M)) ∧ (¬ i1 < 0 → ((2 < i1 → (K68 0 M)) ∧ (¬ 2 < i1 → ((i2 < 1 → (K68 0 M)) ∧ (¬ i2 < 1 → ((60 < i2 → (K68 0 M)) ∧ (¬ 60 < i2 → (((M.1 a0 7) < i2 → (K68 0 M)) ∧ (¬ (M.1 a0 7) < i2 → ((i3 < 0 → (K68 0 M)) ∧ (¬ i3 < 0 → ((4095 < i3 → (K68 0 M)) ∧ (¬ 4095 < i3 → (Wp_Mo_isNumber i4 M (fun x2 M1 => ((x2 = 0 → (K68 0 M1)) ∧ (¬ x2 = 0 → (Wp_Mo_isNumber i5 M1 (fun x4 M3 => ((x4 = 0 → (K68 0 M3)) ∧ (¬ x4 = 0 → (Wp_Mo_isNumber i6 M3 (fun x6 M5 => ((x6 = 0 → (K68 0 M5)) ∧ (¬ x6 = 0 → (K68 1 M5)))))))))))))))))))))))))))
/-- MailChainModel.add(IIIIII)I -/
def Wp_Mo_add (a0 : Nat) (i1 : Int32) (i2 : Int32) (i3 : Int32) (i4 : Int32) (i5 : Int32) (i6 : Int32) (M : zM) (post : Int32 → zM → Prop) : Prop := (Wp_Mo_added a0 i1 i2 i3 i4 i5 i6 M (fun x2 M1 => (∀ M3 : zM, M3 = zI M1 a0 7 0 → (post x2 M3))))
/-- MailChainModel.copyAttributes(II)V -/
def Wp_Mo_copyAttributes (a0 : Nat) (i1 : Int32) (i2 : Int32) (M : zM) (post : zM → Prop) : Prop := (vp_in i2 (ln (a0 + 11)) ∧ (vp_in i1 (ln (a0 + 11)) ∧ (∀ M1 : zM, M1 = zI M (a0 + 11) (i1).toNatClampNeg (M.1 (a0 + 11) (i2).toNatClampNeg) → (vp_in i2 (ln (a0 + 12)) ∧ (vp_in i1 (ln (a0 + 12)) ∧ (∀ M2 : zM, M2 = zI M1 (a0 + 12) (i1).toNatClampNeg (M1.1 (a0 + 12) (i2).toNatClampNeg) → (vp_in i2 (ln (a0 + 13)) ∧ (vp_in i1 (ln (a0 + 13)) ∧ (∀ M3 : zM, M3 = zI M2 (a0 + 13) (i1).toNatClampNeg (M2.1 (a0 + 13) (i2).toNatClampNeg) → (vp_in i2 (ln (a0 + 14)) ∧ (vp_in i1 (ln (a0 + 14)) ∧ (∀ M4 : zM, M4 = zI M3 (a0 + 14) (i1).toNatClampNeg (M3.1 (a0 + 14) (i2).toNatClampNeg) → (vp_in i2 (ln (a0 + 15)) ∧ (vp_in i1 (ln (a0 + 15)) ∧ (∀ M5 : zM, M5 = zI M4 (a0 + 15) (i1).toNatClampNeg (M4.1 (a0 + 15) (i2).toNatClampNeg) → (vp_in i2 (ln (a0 + 16)) ∧ (vp_in i1 (ln (a0 + 16)) ∧ (∀ M6 : zM, M6 = zI M5 (a0 + 16) (i1).toNatClampNeg (M5.1 (a0 + 16) (i2).toNatClampNeg) → (vp_in i2 (ln (a0 + 17)) ∧ (vp_in i1 (ln (a0 + 17)) ∧ (∀ M7 : zM, M7 = zI M6 (a0 + 17) (i1).toNatClampNeg (M6.1 (a0 + 17) (i2).toNatClampNeg) → (vp_in i2 (ln (a0 + 18)) ∧ (vp_in i1 (ln (a0 + 18)) ∧ (∀ M8 : zM, M8 = zI M7 (a0 + 18) (i1).toNatClampNeg (M7.1 (a0 + 18) (i2).toNatClampNeg) → (post M8)))))))))))))))))))))))))
theorem d_Mo_thrown_0 : decode b_Mo_thrown 0 = .ok (.aload_n 0, 1) := by decide +kernel
theorem d_Mo_thrown_1 : decode b_Mo_thrown 1 = .ok (.getfield 128, 3) := by decide +kernel
theorem d_Mo_thrown_4 : decode b_Mo_thrown 4 = .ok (.ireturn, 1) := by decide +kernel
theorem d_Mo_type_0 : decode b_Mo_type 0 = .ok (.aload_n 0, 1) := by decide +kernel
theorem d_Mo_type_1 : decode b_Mo_type 1 = .ok (.iload_n 3, 1) := by decide +kernel
theorem d_Mo_type_2 : decode b_Mo_type 2 = .ok (.iconst 1, 1) := by decide +kernel
theorem d_Mo_type_3 : decode b_Mo_type 3 = .ok (.if_icmp .lt 9, 3) := by decide +kernel
theorem d_Mo_type_6 : decode b_Mo_type 6 = .ok (.iload_n 3, 1) := by decide +kernel
theorem d_Mo_type_7 : decode b_Mo_type 7 = .ok (.bipush 8, 2) := by decide +kernel
theorem d_Mo_type_9 : decode b_Mo_type 9 = .ok (.if_icmp .le 7, 3) := by decide +kernel
theorem d_Mo_type_12 : decode b_Mo_type 12 = .ok (.iconst 1, 1) := by decide +kernel
theorem d_Mo_type_13 : decode b_Mo_type 13 = .ok (.goto 20, 3) := by decide +kernel
theorem d_Mo_type_16 : decode b_Mo_type 16 = .ok (.aload_n 0, 1) := by decide +kernel
theorem d_Mo_type_17 : decode b_Mo_type 17 = .ok (.getfield 132, 3) := by decide +kernel
theorem d_Mo_type_20 : decode b_Mo_type 20 = .ok (.iload_n 3, 1) := by decide +kernel
theorem d_Mo_type_21 : decode b_Mo_type 21 = .ok (.iadd, 1) := by decide +kernel
theorem d_Mo_type_22 : decode b_Mo_type 22 = .ok (.sipush 8000, 3) := by decide +kernel
theorem d_Mo_type_25 : decode b_Mo_type 25 = .ok (.if_icmp .le 7, 3) := by decide +kernel
theorem d_Mo_type_28 : decode b_Mo_type 28 = .ok (.iconst 2, 1) := by decide +kernel
theorem d_Mo_type_29 : decode b_Mo_type 29 = .ok (.goto 4, 3) := by decide +kernel
theorem d_Mo_type_32 : decode b_Mo_type 32 = .ok (.iconst 0, 1) := by decide +kernel
theorem d_Mo_type_33 : decode b_Mo_type 33 = .ok (.putfield 128, 3) := by decide +kernel
theorem d_Mo_type_36 : decode b_Mo_type 36 = .ok (.iconst 0, 1) := by decide +kernel
theorem d_Mo_type_37 : decode b_Mo_type 37 = .ok (.istore 4, 2) := by decide +kernel
theorem d_Mo_type_39 : decode b_Mo_type 39 = .ok (.iload 4, 2) := by decide +kernel
theorem d_Mo_type_41 : decode b_Mo_type 41 = .ok (.iload_n 3, 1) := by decide +kernel
theorem d_Mo_type_42 : decode b_Mo_type 42 = .ok (.if_icmp .ge 44, 3) := by decide +kernel
theorem d_Mo_type_45 : decode b_Mo_type 45 = .ok (.aload_n 0, 1) := by decide +kernel
theorem d_Mo_type_46 : decode b_Mo_type 46 = .ok (.getfield 128, 3) := by decide +kernel
theorem d_Mo_type_49 : decode b_Mo_type 49 = .ok (.ifCond .ne 37, 3) := by decide +kernel
theorem d_Mo_type_52 : decode b_Mo_type 52 = .ok (.aload_n 0, 1) := by decide +kernel
theorem d_Mo_type_53 : decode b_Mo_type 53 = .ok (.getfield 28, 3) := by decide +kernel
theorem d_Mo_type_56 : decode b_Mo_type 56 = .ok (.aload_n 0, 1) := by decide +kernel
theorem d_Mo_type_57 : decode b_Mo_type 57 = .ok (.getfield 132, 3) := by decide +kernel
theorem d_Mo_type_60 : decode b_Mo_type 60 = .ok (.lload_n 1, 1) := by decide +kernel
theorem d_Mo_type_61 : decode b_Mo_type 61 = .ok (.bipush 8, 2) := by decide +kernel
theorem d_Mo_type_63 : decode b_Mo_type 63 = .ok (.iload 4, 2) := by decide +kernel
theorem d_Mo_type_65 : decode b_Mo_type 65 = .ok (.imul, 1) := by decide +kernel
theorem d_Mo_type_66 : decode b_Mo_type 66 = .ok (.lshr, 1) := by decide +kernel
theorem d_Mo_type_67 : decode b_Mo_type 67 = .ok (.l2i, 1) := by decide +kernel
theorem d_Mo_type_68 : decode b_Mo_type 68 = .ok (.i2b, 1) := by decide +kernel
theorem d_Mo_type_69 : decode b_Mo_type 69 = .ok (.bastore, 1) := by decide +kernel
theorem d_Mo_type_70 : decode b_Mo_type 70 = .ok (.aload_n 0, 1) := by decide +kernel
theorem d_Mo_type_71 : decode b_Mo_type 71 = .ok (.dup, 1) := by decide +kernel
theorem d_Mo_type_72 : decode b_Mo_type 72 = .ok (.getfield 132, 3) := by decide +kernel
theorem d_Mo_type_75 : decode b_Mo_type 75 = .ok (.iconst 1, 1) := by decide +kernel
theorem d_Mo_type_76 : decode b_Mo_type 76 = .ok (.iadd, 1) := by decide +kernel
theorem d_Mo_type_77 : decode b_Mo_type 77 = .ok (.putfield 132, 3) := by decide +kernel
theorem d_Mo_type_80 : decode b_Mo_type 80 = .ok (.iinc 4 1, 3) := by decide +kernel
theorem d_Mo_type_83 : decode b_Mo_type 83 = .ok (.goto (-44), 3) := by decide +kernel
theorem d_Mo_type_86 : decode b_Mo_type 86 = .ok (.aload_n 0, 1) := by decide +kernel
theorem d_Mo_type_87 : decode b_Mo_type 87 = .ok (.getfield 128, 3) := by decide +kernel
theorem d_Mo_type_90 : decode b_Mo_type 90 = .ok (.ifCond .le 7, 3) := by decide +kernel
theorem d_Mo_type_93 : decode b_Mo_type 93 = .ok (.iconst 0, 1) := by decide +kernel
theorem d_Mo_type_94 : decode b_Mo_type 94 = .ok (.goto 7, 3) := by decide +kernel
theorem d_Mo_type_97 : decode b_Mo_type 97 = .ok (.aload_n 0, 1) := by decide +kernel
theorem d_Mo_type_98 : decode b_Mo_type 98 = .ok (.getfield 132, 3) := by decide +kernel
theorem d_Mo_type_101 : decode b_Mo_type 101 = .ok (.ireturn, 1) := by decide +kernel
theorem d_Mo_again_0 : decode b_Mo_again 0 = .ok (.aload_n 0, 1) := by decide +kernel
theorem d_Mo_again_1 : decode b_Mo_again 1 = .ok (.iload_n 1, 1) := by decide +kernel
theorem d_Mo_again_2 : decode b_Mo_again 2 = .ok (.ifCond .lt 11, 3) := by decide +kernel
theorem d_Mo_again_5 : decode b_Mo_again 5 = .ok (.iload_n 1, 1) := by decide +kernel
theorem d_Mo_again_6 : decode b_Mo_again 6 = .ok (.aload_n 0, 1) := by decide +kernel
theorem d_Mo_again_7 : decode b_Mo_again 7 = .ok (.getfield 132, 3) := by decide +kernel
theorem d_Mo_again_10 : decode b_Mo_again 10 = .ok (.if_icmp .le 7, 3) := by decide +kernel
theorem d_Mo_again_13 : decode b_Mo_again 13 = .ok (.iconst 1, 1) := by decide +kernel
theorem d_Mo_again_14 : decode b_Mo_again 14 = .ok (.goto 20, 3) := by decide +kernel
theorem d_Mo_again_17 : decode b_Mo_again 17 = .ok (.aload_n 0, 1) := by decide +kernel
theorem d_Mo_again_18 : decode b_Mo_again 18 = .ok (.getfield 132, 3) := by decide +kernel
theorem d_Mo_again_21 : decode b_Mo_again 21 = .ok (.iload_n 1, 1) := by decide +kernel
theorem d_Mo_again_22 : decode b_Mo_again 22 = .ok (.iadd, 1) := by decide +kernel
theorem d_Mo_again_23 : decode b_Mo_again 23 = .ok (.sipush 8000, 3) := by decide +kernel
theorem d_Mo_again_26 : decode b_Mo_again 26 = .ok (.if_icmp .le 7, 3) := by decide +kernel
theorem d_Mo_again_29 : decode b_Mo_again 29 = .ok (.iconst 2, 1) := by decide +kernel
theorem d_Mo_again_30 : decode b_Mo_again 30 = .ok (.goto 4, 3) := by decide +kernel
theorem d_Mo_again_33 : decode b_Mo_again 33 = .ok (.iconst 0, 1) := by decide +kernel
theorem d_Mo_again_34 : decode b_Mo_again 34 = .ok (.putfield 128, 3) := by decide +kernel
theorem d_Mo_again_37 : decode b_Mo_again 37 = .ok (.aload_n 0, 1) := by decide +kernel
theorem d_Mo_again_38 : decode b_Mo_again 38 = .ok (.getfield 132, 3) := by decide +kernel
theorem d_Mo_again_41 : decode b_Mo_again 41 = .ok (.iload_n 1, 1) := by decide +kernel
theorem d_Mo_again_42 : decode b_Mo_again 42 = .ok (.isub, 1) := by decide +kernel
theorem d_Mo_again_43 : decode b_Mo_again 43 = .ok (.istore_n 2, 1) := by decide +kernel
theorem d_Mo_again_44 : decode b_Mo_again 44 = .ok (.iconst 0, 1) := by decide +kernel
theorem d_Mo_again_45 : decode b_Mo_again 45 = .ok (.istore_n 3, 1) := by decide +kernel
theorem d_Mo_again_46 : decode b_Mo_again 46 = .ok (.iload_n 3, 1) := by decide +kernel
theorem d_Mo_again_47 : decode b_Mo_again 47 = .ok (.iload_n 1, 1) := by decide +kernel
theorem d_Mo_again_48 : decode b_Mo_again 48 = .ok (.if_icmp .ge 43, 3) := by decide +kernel
theorem d_Mo_again_51 : decode b_Mo_again 51 = .ok (.aload_n 0, 1) := by decide +kernel
theorem d_Mo_again_52 : decode b_Mo_again 52 = .ok (.getfield 128, 3) := by decide +kernel
theorem d_Mo_again_55 : decode b_Mo_again 55 = .ok (.ifCond .ne 36, 3) := by decide +kernel
theorem d_Mo_again_58 : decode b_Mo_again 58 = .ok (.aload_n 0, 1) := by decide +kernel
theorem d_Mo_again_59 : decode b_Mo_again 59 = .ok (.getfield 28, 3) := by decide +kernel
theorem d_Mo_again_62 : decode b_Mo_again 62 = .ok (.aload_n 0, 1) := by decide +kernel
theorem d_Mo_again_63 : decode b_Mo_again 63 = .ok (.getfield 132, 3) := by decide +kernel
theorem d_Mo_again_66 : decode b_Mo_again 66 = .ok (.aload_n 0, 1) := by decide +kernel
theorem d_Mo_again_67 : decode b_Mo_again 67 = .ok (.getfield 28, 3) := by decide +kernel
theorem d_Mo_again_70 : decode b_Mo_again 70 = .ok (.iload_n 2, 1) := by decide +kernel
theorem d_Mo_again_71 : decode b_Mo_again 71 = .ok (.iload_n 3, 1) := by decide +kernel
theorem d_Mo_again_72 : decode b_Mo_again 72 = .ok (.iadd, 1) := by decide +kernel
theorem d_Mo_again_73 : decode b_Mo_again 73 = .ok (.baload, 1) := by decide +kernel
theorem d_Mo_again_74 : decode b_Mo_again 74 = .ok (.bastore, 1) := by decide +kernel
theorem d_Mo_again_75 : decode b_Mo_again 75 = .ok (.aload_n 0, 1) := by decide +kernel
theorem d_Mo_again_76 : decode b_Mo_again 76 = .ok (.dup, 1) := by decide +kernel
theorem d_Mo_again_77 : decode b_Mo_again 77 = .ok (.getfield 132, 3) := by decide +kernel
theorem d_Mo_again_80 : decode b_Mo_again 80 = .ok (.iconst 1, 1) := by decide +kernel
theorem d_Mo_again_81 : decode b_Mo_again 81 = .ok (.iadd, 1) := by decide +kernel
theorem d_Mo_again_82 : decode b_Mo_again 82 = .ok (.putfield 132, 3) := by decide +kernel
theorem d_Mo_again_85 : decode b_Mo_again 85 = .ok (.iinc 3 1, 3) := by decide +kernel
theorem d_Mo_again_88 : decode b_Mo_again 88 = .ok (.goto (-42), 3) := by decide +kernel
theorem d_Mo_again_91 : decode b_Mo_again 91 = .ok (.aload_n 0, 1) := by decide +kernel
theorem d_Mo_again_92 : decode b_Mo_again 92 = .ok (.getfield 128, 3) := by decide +kernel
theorem d_Mo_again_95 : decode b_Mo_again 95 = .ok (.ifCond .le 7, 3) := by decide +kernel
theorem d_Mo_again_98 : decode b_Mo_again 98 = .ok (.iconst 0, 1) := by decide +kernel
theorem d_Mo_again_99 : decode b_Mo_again 99 = .ok (.goto 7, 3) := by decide +kernel
theorem d_Mo_again_102 : decode b_Mo_again 102 = .ok (.aload_n 0, 1) := by decide +kernel
theorem d_Mo_again_103 : decode b_Mo_again 103 = .ok (.getfield 132, 3) := by decide +kernel
theorem d_Mo_again_106 : decode b_Mo_again 106 = .ok (.ireturn, 1) := by decide +kernel
theorem d_Mo_at_0 : decode b_Mo_at 0 = .ok (.bipush 41, 2) := by decide +kernel
theorem d_Mo_at_2 : decode b_Mo_at 2 = .ok (.iload_n 0, 1) := by decide +kernel
theorem d_Mo_at_3 : decode b_Mo_at 3 = .ok (.imul, 1) := by decide +kernel
theorem d_Mo_at_4 : decode b_Mo_at 4 = .ok (.iload_n 1, 1) := by decide +kernel
theorem d_Mo_at_5 : decode b_Mo_at 5 = .ok (.iadd, 1) := by decide +kernel
theorem d_Mo_at_6 : decode b_Mo_at 6 = .ok (.ireturn, 1) := by decide +kernel
theorem d_Mo_look_0 : decode b_Mo_look 0 = .ok (.aload_n 0, 1) := by decide +kernel
theorem d_Mo_look_1 : decode b_Mo_look 1 = .ok (.iload_n 3, 1) := by decide +kernel
theorem d_Mo_look_2 : decode b_Mo_look 2 = .ok (.bipush 60, 2) := by decide +kernel
theorem d_Mo_look_4 : decode b_Mo_look 4 = .ok (.if_icmp .ge 7, 3) := by decide +kernel
theorem d_Mo_look_7 : decode b_Mo_look 7 = .ok (.iload_n 3, 1) := by decide +kernel
theorem d_Mo_look_8 : decode b_Mo_look 8 = .ok (.goto 5, 3) := by decide +kernel
theorem d_Mo_look_11 : decode b_Mo_look 11 = .ok (.bipush 60, 2) := by decide +kernel
theorem d_Mo_look_13 : decode b_Mo_look 13 = .ok (.putfield 135, 3) := by decide +kernel
theorem d_Mo_look_16 : decode b_Mo_look 16 = .ok (.iconst 0, 1) := by decide +kernel
theorem d_Mo_look_17 : decode b_Mo_look 17 = .ok (.istore 4, 2) := by decide +kernel
theorem d_Mo_look_19 : decode b_Mo_look 19 = .ok (.iload 4, 2) := by decide +kernel
theorem d_Mo_look_21 : decode b_Mo_look 21 = .ok (.aload_n 0, 1) := by decide +kernel
theorem d_Mo_look_22 : decode b_Mo_look 22 = .ok (.getfield 135, 3) := by decide +kernel
theorem d_Mo_look_25 : decode b_Mo_look 25 = .ok (.if_icmp .ge 22, 3) := by decide +kernel
theorem d_Mo_look_28 : decode b_Mo_look 28 = .ok (.aload_n 0, 1) := by decide +kernel
theorem d_Mo_look_29 : decode b_Mo_look 29 = .ok (.getfield 72, 3) := by decide +kernel
theorem d_Mo_look_32 : decode b_Mo_look 32 = .ok (.iload 4, 2) := by decide +kernel
theorem d_Mo_look_34 : decode b_Mo_look 34 = .ok (.aload_n 1, 1) := by decide +kernel
theorem d_Mo_look_35 : decode b_Mo_look 35 = .ok (.iload_n 2, 1) := by decide +kernel
theorem d_Mo_look_36 : decode b_Mo_look 36 = .ok (.iload 4, 2) := by decide +kernel
theorem d_Mo_look_38 : decode b_Mo_look 38 = .ok (.iadd, 1) := by decide +kernel
theorem d_Mo_look_39 : decode b_Mo_look 39 = .ok (.baload, 1) := by decide +kernel
theorem d_Mo_look_40 : decode b_Mo_look 40 = .ok (.bastore, 1) := by decide +kernel
theorem d_Mo_look_41 : decode b_Mo_look 41 = .ok (.iinc 4 1, 3) := by decide +kernel
theorem d_Mo_look_44 : decode b_Mo_look 44 = .ok (.goto (-25), 3) := by decide +kernel
theorem d_Mo_look_47 : decode b_Mo_look 47 = .ok (.return_, 1) := by decide +kernel
theorem d_Mo_isPath_0 : decode b_Mo_isPath 0 = .ok (.aload_n 0, 1) := by decide +kernel
theorem d_Mo_isPath_1 : decode b_Mo_isPath 1 = .ok (.getfield 135, 3) := by decide +kernel
theorem d_Mo_isPath_4 : decode b_Mo_isPath 4 = .ok (.iconst 1, 1) := by decide +kernel
theorem d_Mo_isPath_5 : decode b_Mo_isPath 5 = .ok (.if_icmp .lt 7, 3) := by decide +kernel
theorem d_Mo_isPath_8 : decode b_Mo_isPath 8 = .ok (.iconst 1, 1) := by decide +kernel
theorem d_Mo_isPath_9 : decode b_Mo_isPath 9 = .ok (.goto 4, 3) := by decide +kernel
theorem d_Mo_isPath_12 : decode b_Mo_isPath 12 = .ok (.iconst 0, 1) := by decide +kernel
theorem d_Mo_isPath_13 : decode b_Mo_isPath 13 = .ok (.istore_n 1, 1) := by decide +kernel
theorem d_Mo_isPath_14 : decode b_Mo_isPath 14 = .ok (.iconst 0, 1) := by decide +kernel
theorem d_Mo_isPath_15 : decode b_Mo_isPath 15 = .ok (.istore_n 2, 1) := by decide +kernel
theorem d_Mo_isPath_16 : decode b_Mo_isPath 16 = .ok (.iconst 0, 1) := by decide +kernel
theorem d_Mo_isPath_17 : decode b_Mo_isPath 17 = .ok (.istore_n 3, 1) := by decide +kernel
theorem d_Mo_isPath_18 : decode b_Mo_isPath 18 = .ok (.iload_n 3, 1) := by decide +kernel
theorem d_Mo_isPath_19 : decode b_Mo_isPath 19 = .ok (.aload_n 0, 1) := by decide +kernel
theorem d_Mo_isPath_20 : decode b_Mo_isPath 20 = .ok (.getfield 135, 3) := by decide +kernel
theorem d_Mo_isPath_23 : decode b_Mo_isPath 23 = .ok (.if_icmp .gt 150, 3) := by decide +kernel
theorem d_Mo_isPath_26 : decode b_Mo_isPath 26 = .ok (.iload_n 3, 1) := by decide +kernel
theorem d_Mo_isPath_27 : decode b_Mo_isPath 27 = .ok (.aload_n 0, 1) := by decide +kernel
theorem d_Mo_isPath_28 : decode b_Mo_isPath 28 = .ok (.getfield 135, 3) := by decide +kernel
theorem d_Mo_isPath_31 : decode b_Mo_isPath 31 = .ok (.if_icmp .eq 14, 3) := by decide +kernel
theorem d_Mo_isPath_34 : decode b_Mo_isPath 34 = .ok (.aload_n 0, 1) := by decide +kernel
theorem d_Mo_isPath_35 : decode b_Mo_isPath 35 = .ok (.getfield 72, 3) := by decide +kernel
theorem d_Mo_isPath_38 : decode b_Mo_isPath 38 = .ok (.iload_n 3, 1) := by decide +kernel
theorem d_Mo_isPath_39 : decode b_Mo_isPath 39 = .ok (.baload, 1) := by decide +kernel
theorem d_Mo_isPath_40 : decode b_Mo_isPath 40 = .ok (.bipush 47, 2) := by decide +kernel
theorem d_Mo_isPath_42 : decode b_Mo_isPath 42 = .ok (.if_icmp .ne 7, 3) := by decide +kernel
theorem d_Mo_isPath_45 : decode b_Mo_isPath 45 = .ok (.iconst 1, 1) := by decide +kernel
theorem d_Mo_isPath_46 : decode b_Mo_isPath 46 = .ok (.goto 4, 3) := by decide +kernel
theorem d_Mo_isPath_49 : decode b_Mo_isPath 49 = .ok (.iconst 0, 1) := by decide +kernel
theorem d_Mo_isPath_50 : decode b_Mo_isPath 50 = .ok (.istore 4, 2) := by decide +kernel
theorem d_Mo_isPath_52 : decode b_Mo_isPath 52 = .ok (.iload_n 1, 1) := by decide +kernel
theorem d_Mo_isPath_53 : decode b_Mo_isPath 53 = .ok (.ifCond .eq 24, 3) := by decide +kernel
theorem d_Mo_isPath_56 : decode b_Mo_isPath 56 = .ok (.iload_n 3, 1) := by decide +kernel
theorem d_Mo_isPath_57 : decode b_Mo_isPath 57 = .ok (.aload_n 0, 1) := by decide +kernel
theorem d_Mo_isPath_58 : decode b_Mo_isPath 58 = .ok (.getfield 135, 3) := by decide +kernel
theorem d_Mo_isPath_61 : decode b_Mo_isPath 61 = .ok (.if_icmp .eq 12, 3) := by decide +kernel
theorem d_Mo_isPath_64 : decode b_Mo_isPath 64 = .ok (.aload_n 0, 1) := by decide +kernel
theorem d_Mo_isPath_65 : decode b_Mo_isPath 65 = .ok (.getfield 72, 3) := by decide +kernel
theorem d_Mo_isPath_68 : decode b_Mo_isPath 68 = .ok (.iload_n 3, 1) := by decide +kernel
theorem d_Mo_isPath_69 : decode b_Mo_isPath 69 = .ok (.baload, 1) := by decide +kernel
theorem d_Mo_isPath_70 : decode b_Mo_isPath 70 = .ok (.ifCond .eq 7, 3) := by decide +kernel
theorem d_Mo_isPath_73 : decode b_Mo_isPath 73 = .ok (.iconst 1, 1) := by decide +kernel
theorem d_Mo_isPath_74 : decode b_Mo_isPath 74 = .ok (.goto 4, 3) := by decide +kernel
theorem d_Mo_isPath_77 : decode b_Mo_isPath 77 = .ok (.iconst 0, 1) := by decide +kernel
theorem d_Mo_isPath_78 : decode b_Mo_isPath 78 = .ok (.istore_n 1, 1) := by decide +kernel
theorem d_Mo_isPath_79 : decode b_Mo_isPath 79 = .ok (.iload 4, 2) := by decide +kernel
theorem d_Mo_isPath_81 : decode b_Mo_isPath 81 = .ok (.ifCond .eq 86, 3) := by decide +kernel
theorem d_Mo_isPath_84 : decode b_Mo_isPath 84 = .ok (.iload_n 3, 1) := by decide +kernel
theorem d_Mo_isPath_85 : decode b_Mo_isPath 85 = .ok (.iload_n 2, 1) := by decide +kernel
theorem d_Mo_isPath_86 : decode b_Mo_isPath 86 = .ok (.isub, 1) := by decide +kernel
theorem d_Mo_isPath_87 : decode b_Mo_isPath 87 = .ok (.istore 5, 2) := by decide +kernel
theorem d_Mo_isPath_89 : decode b_Mo_isPath 89 = .ok (.iload 5, 2) := by decide +kernel
theorem d_Mo_isPath_91 : decode b_Mo_isPath 91 = .ok (.iconst 1, 1) := by decide +kernel
theorem d_Mo_isPath_92 : decode b_Mo_isPath 92 = .ok (.if_icmp .ne 14, 3) := by decide +kernel
theorem d_Mo_isPath_95 : decode b_Mo_isPath 95 = .ok (.aload_n 0, 1) := by decide +kernel
theorem d_Mo_isPath_96 : decode b_Mo_isPath 96 = .ok (.getfield 72, 3) := by decide +kernel
theorem d_Mo_isPath_99 : decode b_Mo_isPath 99 = .ok (.iload_n 2, 1) := by decide +kernel
theorem d_Mo_isPath_100 : decode b_Mo_isPath 100 = .ok (.baload, 1) := by decide +kernel
theorem d_Mo_isPath_101 : decode b_Mo_isPath 101 = .ok (.bipush 46, 2) := by decide +kernel
theorem d_Mo_isPath_103 : decode b_Mo_isPath 103 = .ok (.if_icmp .eq 33, 3) := by decide +kernel
theorem d_Mo_isPath_106 : decode b_Mo_isPath 106 = .ok (.iload 5, 2) := by decide +kernel
theorem d_Mo_isPath_108 : decode b_Mo_isPath 108 = .ok (.iconst 2, 1) := by decide +kernel
theorem d_Mo_isPath_109 : decode b_Mo_isPath 109 = .ok (.if_icmp .ne 31, 3) := by decide +kernel
theorem d_Mo_isPath_112 : decode b_Mo_isPath 112 = .ok (.aload_n 0, 1) := by decide +kernel
theorem d_Mo_isPath_113 : decode b_Mo_isPath 113 = .ok (.getfield 72, 3) := by decide +kernel
theorem d_Mo_isPath_116 : decode b_Mo_isPath 116 = .ok (.iload_n 2, 1) := by decide +kernel
theorem d_Mo_isPath_117 : decode b_Mo_isPath 117 = .ok (.baload, 1) := by decide +kernel
theorem d_Mo_isPath_118 : decode b_Mo_isPath 118 = .ok (.bipush 46, 2) := by decide +kernel
theorem d_Mo_isPath_120 : decode b_Mo_isPath 120 = .ok (.if_icmp .ne 20, 3) := by decide +kernel
theorem d_Mo_isPath_123 : decode b_Mo_isPath 123 = .ok (.aload_n 0, 1) := by decide +kernel
theorem d_Mo_isPath_124 : decode b_Mo_isPath 124 = .ok (.getfield 72, 3) := by decide +kernel
theorem d_Mo_isPath_127 : decode b_Mo_isPath 127 = .ok (.iload_n 2, 1) := by decide +kernel
theorem d_Mo_isPath_128 : decode b_Mo_isPath 128 = .ok (.iconst 1, 1) := by decide +kernel
theorem d_Mo_isPath_129 : decode b_Mo_isPath 129 = .ok (.iadd, 1) := by decide +kernel
theorem d_Mo_isPath_130 : decode b_Mo_isPath 130 = .ok (.baload, 1) := by decide +kernel
theorem d_Mo_isPath_131 : decode b_Mo_isPath 131 = .ok (.bipush 46, 2) := by decide +kernel
theorem d_Mo_isPath_133 : decode b_Mo_isPath 133 = .ok (.if_icmp .ne 7, 3) := by decide +kernel
theorem d_Mo_isPath_136 : decode b_Mo_isPath 136 = .ok (.iconst 1, 1) := by decide +kernel
theorem d_Mo_isPath_137 : decode b_Mo_isPath 137 = .ok (.goto 4, 3) := by decide +kernel
theorem d_Mo_isPath_140 : decode b_Mo_isPath 140 = .ok (.iconst 0, 1) := by decide +kernel
theorem d_Mo_isPath_141 : decode b_Mo_isPath 141 = .ok (.istore 6, 2) := by decide +kernel
theorem d_Mo_isPath_143 : decode b_Mo_isPath 143 = .ok (.iload_n 1, 1) := by decide +kernel
theorem d_Mo_isPath_144 : decode b_Mo_isPath 144 = .ok (.ifCond .eq 17, 3) := by decide +kernel
theorem d_Mo_isPath_147 : decode b_Mo_isPath 147 = .ok (.iload 5, 2) := by decide +kernel
theorem d_Mo_isPath_149 : decode b_Mo_isPath 149 = .ok (.ifCond .le 12, 3) := by decide +kernel
theorem d_Mo_isPath_152 : decode b_Mo_isPath 152 = .ok (.iload 6, 2) := by decide +kernel
theorem d_Mo_isPath_154 : decode b_Mo_isPath 154 = .ok (.ifCond .ne 7, 3) := by decide +kernel
theorem d_Mo_isPath_157 : decode b_Mo_isPath 157 = .ok (.iconst 1, 1) := by decide +kernel
theorem d_Mo_isPath_158 : decode b_Mo_isPath 158 = .ok (.goto 4, 3) := by decide +kernel
theorem d_Mo_isPath_161 : decode b_Mo_isPath 161 = .ok (.iconst 0, 1) := by decide +kernel
theorem d_Mo_isPath_162 : decode b_Mo_isPath 162 = .ok (.istore_n 1, 1) := by decide +kernel
theorem d_Mo_isPath_163 : decode b_Mo_isPath 163 = .ok (.iload_n 3, 1) := by decide +kernel
theorem d_Mo_isPath_164 : decode b_Mo_isPath 164 = .ok (.iconst 1, 1) := by decide +kernel
theorem d_Mo_isPath_165 : decode b_Mo_isPath 165 = .ok (.iadd, 1) := by decide +kernel
theorem d_Mo_isPath_166 : decode b_Mo_isPath 166 = .ok (.istore_n 2, 1) := by decide +kernel
theorem d_Mo_isPath_167 : decode b_Mo_isPath 167 = .ok (.iinc 3 1, 3) := by decide +kernel
theorem d_Mo_isPath_170 : decode b_Mo_isPath 170 = .ok (.goto (-152), 3) := by decide +kernel
theorem d_Mo_isPath_173 : decode b_Mo_isPath 173 = .ok (.iload_n 1, 1) := by decide +kernel
theorem d_Mo_isPath_174 : decode b_Mo_isPath 174 = .ok (.ireturn, 1) := by decide +kernel
theorem d_Mo_compare_0 : decode b_Mo_compare 0 = .ok (.aload_n 0, 1) := by decide +kernel
theorem d_Mo_compare_1 : decode b_Mo_compare 1 = .ok (.getfield 38, 3) := by decide +kernel
theorem d_Mo_compare_4 : decode b_Mo_compare 4 = .ok (.iload_n 1, 1) := by decide +kernel
theorem d_Mo_compare_5 : decode b_Mo_compare 5 = .ok (.iaload, 1) := by decide +kernel
theorem d_Mo_compare_6 : decode b_Mo_compare 6 = .ok (.istore_n 3, 1) := by decide +kernel
theorem d_Mo_compare_7 : decode b_Mo_compare 7 = .ok (.iconst 0, 1) := by decide +kernel
theorem d_Mo_compare_8 : decode b_Mo_compare 8 = .ok (.istore 4, 2) := by decide +kernel
theorem d_Mo_compare_10 : decode b_Mo_compare 10 = .ok (.iload 4, 2) := by decide +kernel
theorem d_Mo_compare_12 : decode b_Mo_compare 12 = .ok (.iload_n 3, 1) := by decide +kernel
theorem d_Mo_compare_13 : decode b_Mo_compare 13 = .ok (.if_icmp .ge 53, 3) := by decide +kernel
theorem d_Mo_compare_16 : decode b_Mo_compare 16 = .ok (.iload 4, 2) := by decide +kernel
theorem d_Mo_compare_18 : decode b_Mo_compare 18 = .ok (.iload_n 2, 1) := by decide +kernel
theorem d_Mo_compare_19 : decode b_Mo_compare 19 = .ok (.if_icmp .ge 47, 3) := by decide +kernel
theorem d_Mo_compare_22 : decode b_Mo_compare 22 = .ok (.aload_n 0, 1) := by decide +kernel
theorem d_Mo_compare_23 : decode b_Mo_compare 23 = .ok (.getfield 35, 3) := by decide +kernel
theorem d_Mo_compare_26 : decode b_Mo_compare 26 = .ok (.bipush 60, 2) := by decide +kernel
theorem d_Mo_compare_28 : decode b_Mo_compare 28 = .ok (.iload_n 1, 1) := by decide +kernel
theorem d_Mo_compare_29 : decode b_Mo_compare 29 = .ok (.imul, 1) := by decide +kernel
theorem d_Mo_compare_30 : decode b_Mo_compare 30 = .ok (.iload 4, 2) := by decide +kernel
theorem d_Mo_compare_32 : decode b_Mo_compare 32 = .ok (.iadd, 1) := by decide +kernel
theorem d_Mo_compare_33 : decode b_Mo_compare 33 = .ok (.baload, 1) := by decide +kernel
theorem d_Mo_compare_34 : decode b_Mo_compare 34 = .ok (.sipush 255, 3) := by decide +kernel
theorem d_Mo_compare_37 : decode b_Mo_compare 37 = .ok (.iand, 1) := by decide +kernel
theorem d_Mo_compare_38 : decode b_Mo_compare 38 = .ok (.aload_n 0, 1) := by decide +kernel
theorem d_Mo_compare_39 : decode b_Mo_compare 39 = .ok (.getfield 72, 3) := by decide +kernel
theorem d_Mo_compare_42 : decode b_Mo_compare 42 = .ok (.iload 4, 2) := by decide +kernel
theorem d_Mo_compare_44 : decode b_Mo_compare 44 = .ok (.baload, 1) := by decide +kernel
theorem d_Mo_compare_45 : decode b_Mo_compare 45 = .ok (.sipush 255, 3) := by decide +kernel
theorem d_Mo_compare_48 : decode b_Mo_compare 48 = .ok (.iand, 1) := by decide +kernel
theorem d_Mo_compare_49 : decode b_Mo_compare 49 = .ok (.isub, 1) := by decide +kernel
theorem d_Mo_compare_50 : decode b_Mo_compare 50 = .ok (.istore 5, 2) := by decide +kernel
theorem d_Mo_compare_52 : decode b_Mo_compare 52 = .ok (.iload 5, 2) := by decide +kernel
theorem d_Mo_compare_54 : decode b_Mo_compare 54 = .ok (.ifCond .eq 6, 3) := by decide +kernel
theorem d_Mo_compare_57 : decode b_Mo_compare 57 = .ok (.iload 5, 2) := by decide +kernel
theorem d_Mo_compare_59 : decode b_Mo_compare 59 = .ok (.ireturn, 1) := by decide +kernel
theorem d_Mo_compare_60 : decode b_Mo_compare 60 = .ok (.iinc 4 1, 3) := by decide +kernel
theorem d_Mo_compare_63 : decode b_Mo_compare 63 = .ok (.goto (-53), 3) := by decide +kernel
theorem d_Mo_compare_66 : decode b_Mo_compare 66 = .ok (.iload_n 3, 1) := by decide +kernel
theorem d_Mo_compare_67 : decode b_Mo_compare 67 = .ok (.iload_n 2, 1) := by decide +kernel
theorem d_Mo_compare_68 : decode b_Mo_compare 68 = .ok (.isub, 1) := by decide +kernel
theorem d_Mo_compare_69 : decode b_Mo_compare 69 = .ok (.ireturn, 1) := by decide +kernel
theorem d_Mo_find_0 : decode b_Mo_find 0 = .ok (.iconst (-1), 1) := by decide +kernel
theorem d_Mo_find_1 : decode b_Mo_find 1 = .ok (.istore_n 3, 1) := by decide +kernel
theorem d_Mo_find_2 : decode b_Mo_find 2 = .ok (.iconst 0, 1) := by decide +kernel
theorem d_Mo_find_3 : decode b_Mo_find 3 = .ok (.istore 4, 2) := by decide +kernel
theorem d_Mo_find_5 : decode b_Mo_find 5 = .ok (.iload 4, 2) := by decide +kernel
theorem d_Mo_find_7 : decode b_Mo_find 7 = .ok (.aload_n 0, 1) := by decide +kernel
theorem d_Mo_find_8 : decode b_Mo_find 8 = .ok (.getfield 31, 3) := by decide +kernel
theorem d_Mo_find_11 : decode b_Mo_find 11 = .ok (.iload_n 1, 1) := by decide +kernel
theorem d_Mo_find_12 : decode b_Mo_find 12 = .ok (.iaload, 1) := by decide +kernel
theorem d_Mo_find_13 : decode b_Mo_find 13 = .ok (.if_icmp .ge 30, 3) := by decide +kernel
theorem d_Mo_find_16 : decode b_Mo_find 16 = .ok (.aload_n 0, 1) := by decide +kernel
theorem d_Mo_find_17 : decode b_Mo_find 17 = .ok (.iload_n 1, 1) := by decide +kernel
theorem d_Mo_find_18 : decode b_Mo_find 18 = .ok (.iload 4, 2) := by decide +kernel
theorem d_Mo_find_20 : decode b_Mo_find 20 = .ok (.invokestatic 138, 3) := by decide +kernel
theorem d_Mo_find_23 : decode b_Mo_find 23 = .ok (.iload_n 2, 1) := by decide +kernel
theorem d_Mo_find_24 : decode b_Mo_find 24 = .ok (.invokevirtual 142, 3) := by decide +kernel
theorem d_Mo_find_27 : decode b_Mo_find 27 = .ok (.ifCond .ne 8, 3) := by decide +kernel
theorem d_Mo_find_30 : decode b_Mo_find 30 = .ok (.iload 4, 2) := by decide +kernel
theorem d_Mo_find_32 : decode b_Mo_find 32 = .ok (.goto 4, 3) := by decide +kernel
theorem d_Mo_find_35 : decode b_Mo_find 35 = .ok (.iload_n 3, 1) := by decide +kernel
theorem d_Mo_find_36 : decode b_Mo_find 36 = .ok (.istore_n 3, 1) := by decide +kernel
theorem d_Mo_find_37 : decode b_Mo_find 37 = .ok (.iinc 4 1, 3) := by decide +kernel
theorem d_Mo_find_40 : decode b_Mo_find 40 = .ok (.goto (-35), 3) := by decide +kernel
theorem d_Mo_find_43 : decode b_Mo_find 43 = .ok (.iload_n 3, 1) := by decide +kernel
theorem d_Mo_find_44 : decode b_Mo_find 44 = .ok (.ireturn, 1) := by decide +kernel
theorem d_Mo_hasParent_0 : decode b_Mo_hasParent 0 = .ok (.iconst (-1), 1) := by decide +kernel
theorem d_Mo_hasParent_1 : decode b_Mo_hasParent 1 = .ok (.istore_n 2, 1) := by decide +kernel
theorem d_Mo_hasParent_2 : decode b_Mo_hasParent 2 = .ok (.iconst 0, 1) := by decide +kernel
theorem d_Mo_hasParent_3 : decode b_Mo_hasParent 3 = .ok (.istore_n 3, 1) := by decide +kernel
theorem d_Mo_hasParent_4 : decode b_Mo_hasParent 4 = .ok (.iload_n 3, 1) := by decide +kernel
theorem d_Mo_hasParent_5 : decode b_Mo_hasParent 5 = .ok (.aload_n 0, 1) := by decide +kernel
theorem d_Mo_hasParent_6 : decode b_Mo_hasParent 6 = .ok (.getfield 135, 3) := by decide +kernel
theorem d_Mo_hasParent_9 : decode b_Mo_hasParent 9 = .ok (.if_icmp .ge 26, 3) := by decide +kernel
theorem d_Mo_hasParent_12 : decode b_Mo_hasParent 12 = .ok (.aload_n 0, 1) := by decide +kernel
theorem d_Mo_hasParent_13 : decode b_Mo_hasParent 13 = .ok (.getfield 72, 3) := by decide +kernel
theorem d_Mo_hasParent_16 : decode b_Mo_hasParent 16 = .ok (.iload_n 3, 1) := by decide +kernel
theorem d_Mo_hasParent_17 : decode b_Mo_hasParent 17 = .ok (.baload, 1) := by decide +kernel
theorem d_Mo_hasParent_18 : decode b_Mo_hasParent 18 = .ok (.bipush 47, 2) := by decide +kernel
theorem d_Mo_hasParent_20 : decode b_Mo_hasParent 20 = .ok (.if_icmp .ne 7, 3) := by decide +kernel
theorem d_Mo_hasParent_23 : decode b_Mo_hasParent 23 = .ok (.iload_n 3, 1) := by decide +kernel
theorem d_Mo_hasParent_24 : decode b_Mo_hasParent 24 = .ok (.goto 4, 3) := by decide +kernel
theorem d_Mo_hasParent_27 : decode b_Mo_hasParent 27 = .ok (.iload_n 2, 1) := by decide +kernel
theorem d_Mo_hasParent_28 : decode b_Mo_hasParent 28 = .ok (.istore_n 2, 1) := by decide +kernel
theorem d_Mo_hasParent_29 : decode b_Mo_hasParent 29 = .ok (.iinc 3 1, 3) := by decide +kernel
theorem d_Mo_hasParent_32 : decode b_Mo_hasParent 32 = .ok (.goto (-28), 3) := by decide +kernel
theorem d_Mo_hasParent_35 : decode b_Mo_hasParent 35 = .ok (.iload_n 2, 1) := by decide +kernel
theorem d_Mo_hasParent_36 : decode b_Mo_hasParent 36 = .ok (.ifCond .ge 5, 3) := by decide +kernel
theorem d_Mo_hasParent_39 : decode b_Mo_hasParent 39 = .ok (.iconst 1, 1) := by decide +kernel
theorem d_Mo_hasParent_40 : decode b_Mo_hasParent 40 = .ok (.ireturn, 1) := by decide +kernel
theorem d_Mo_hasParent_41 : decode b_Mo_hasParent 41 = .ok (.aload_n 0, 1) := by decide +kernel
theorem d_Mo_hasParent_42 : decode b_Mo_hasParent 42 = .ok (.iload_n 1, 1) := by decide +kernel
theorem d_Mo_hasParent_43 : decode b_Mo_hasParent 43 = .ok (.iload_n 2, 1) := by decide +kernel
theorem d_Mo_hasParent_44 : decode b_Mo_hasParent 44 = .ok (.invokevirtual 145, 3) := by decide +kernel
theorem d_Mo_hasParent_47 : decode b_Mo_hasParent 47 = .ok (.istore_n 3, 1) := by decide +kernel
theorem d_Mo_hasParent_48 : decode b_Mo_hasParent 48 = .ok (.iload_n 3, 1) := by decide +kernel
theorem d_Mo_hasParent_49 : decode b_Mo_hasParent 49 = .ok (.ifCond .lt 20, 3) := by decide +kernel
theorem d_Mo_hasParent_52 : decode b_Mo_hasParent 52 = .ok (.aload_n 0, 1) := by decide +kernel
theorem d_Mo_hasParent_53 : decode b_Mo_hasParent 53 = .ok (.getfield 41, 3) := by decide +kernel
theorem d_Mo_hasParent_56 : decode b_Mo_hasParent 56 = .ok (.iload_n 1, 1) := by decide +kernel
theorem d_Mo_hasParent_57 : decode b_Mo_hasParent 57 = .ok (.iload_n 3, 1) := by decide +kernel
theorem d_Mo_hasParent_58 : decode b_Mo_hasParent 58 = .ok (.invokestatic 138, 3) := by decide +kernel
theorem d_Mo_hasParent_61 : decode b_Mo_hasParent 61 = .ok (.iaload, 1) := by decide +kernel
theorem d_Mo_hasParent_62 : decode b_Mo_hasParent 62 = .ok (.ifCond .ne 7, 3) := by decide +kernel
theorem d_Mo_hasParent_65 : decode b_Mo_hasParent 65 = .ok (.iconst 1, 1) := by decide +kernel
theorem d_Mo_hasParent_66 : decode b_Mo_hasParent 66 = .ok (.goto 4, 3) := by decide +kernel
theorem d_Mo_hasParent_69 : decode b_Mo_hasParent 69 = .ok (.iconst 0, 1) := by decide +kernel
theorem d_Mo_hasParent_70 : decode b_Mo_hasParent 70 = .ok (.ireturn, 1) := by decide +kernel
theorem d_Mo_bytesOf_0 : decode b_Mo_bytesOf 0 = .ok (.iconst 0, 1) := by decide +kernel
theorem d_Mo_bytesOf_1 : decode b_Mo_bytesOf 1 = .ok (.istore_n 2, 1) := by decide +kernel
theorem d_Mo_bytesOf_2 : decode b_Mo_bytesOf 2 = .ok (.iconst 0, 1) := by decide +kernel
theorem d_Mo_bytesOf_3 : decode b_Mo_bytesOf 3 = .ok (.istore_n 3, 1) := by decide +kernel
theorem d_Mo_bytesOf_4 : decode b_Mo_bytesOf 4 = .ok (.iload_n 3, 1) := by decide +kernel
theorem d_Mo_bytesOf_5 : decode b_Mo_bytesOf 5 = .ok (.aload_n 0, 1) := by decide +kernel
theorem d_Mo_bytesOf_6 : decode b_Mo_bytesOf 6 = .ok (.getfield 31, 3) := by decide +kernel
theorem d_Mo_bytesOf_9 : decode b_Mo_bytesOf 9 = .ok (.iload_n 1, 1) := by decide +kernel
theorem d_Mo_bytesOf_10 : decode b_Mo_bytesOf 10 = .ok (.iaload, 1) := by decide +kernel
theorem d_Mo_bytesOf_11 : decode b_Mo_bytesOf 11 = .ok (.if_icmp .ge 40, 3) := by decide +kernel
theorem d_Mo_bytesOf_14 : decode b_Mo_bytesOf 14 = .ok (.aload_n 0, 1) := by decide +kernel
theorem d_Mo_bytesOf_15 : decode b_Mo_bytesOf 15 = .ok (.getfield 41, 3) := by decide +kernel
theorem d_Mo_bytesOf_18 : decode b_Mo_bytesOf 18 = .ok (.iload_n 1, 1) := by decide +kernel
theorem d_Mo_bytesOf_19 : decode b_Mo_bytesOf 19 = .ok (.iload_n 3, 1) := by decide +kernel
theorem d_Mo_bytesOf_20 : decode b_Mo_bytesOf 20 = .ok (.invokestatic 138, 3) := by decide +kernel
theorem d_Mo_bytesOf_23 : decode b_Mo_bytesOf 23 = .ok (.iaload, 1) := by decide +kernel
theorem d_Mo_bytesOf_24 : decode b_Mo_bytesOf 24 = .ok (.iconst 1, 1) := by decide +kernel
theorem d_Mo_bytesOf_25 : decode b_Mo_bytesOf 25 = .ok (.if_icmp .ne 18, 3) := by decide +kernel
theorem d_Mo_bytesOf_28 : decode b_Mo_bytesOf 28 = .ok (.iload_n 2, 1) := by decide +kernel
theorem d_Mo_bytesOf_29 : decode b_Mo_bytesOf 29 = .ok (.aload_n 0, 1) := by decide +kernel
theorem d_Mo_bytesOf_30 : decode b_Mo_bytesOf 30 = .ok (.getfield 59, 3) := by decide +kernel
theorem d_Mo_bytesOf_33 : decode b_Mo_bytesOf 33 = .ok (.iload_n 1, 1) := by decide +kernel
theorem d_Mo_bytesOf_34 : decode b_Mo_bytesOf 34 = .ok (.iload_n 3, 1) := by decide +kernel
theorem d_Mo_bytesOf_35 : decode b_Mo_bytesOf 35 = .ok (.invokestatic 138, 3) := by decide +kernel
theorem d_Mo_bytesOf_38 : decode b_Mo_bytesOf 38 = .ok (.iaload, 1) := by decide +kernel
theorem d_Mo_bytesOf_39 : decode b_Mo_bytesOf 39 = .ok (.iadd, 1) := by decide +kernel
theorem d_Mo_bytesOf_40 : decode b_Mo_bytesOf 40 = .ok (.goto 4, 3) := by decide +kernel
theorem d_Mo_bytesOf_43 : decode b_Mo_bytesOf 43 = .ok (.iload_n 2, 1) := by decide +kernel
theorem d_Mo_bytesOf_44 : decode b_Mo_bytesOf 44 = .ok (.istore_n 2, 1) := by decide +kernel
theorem d_Mo_bytesOf_45 : decode b_Mo_bytesOf 45 = .ok (.iinc 3 1, 3) := by decide +kernel
theorem d_Mo_bytesOf_48 : decode b_Mo_bytesOf 48 = .ok (.goto (-44), 3) := by decide +kernel
theorem d_Mo_bytesOf_51 : decode b_Mo_bytesOf 51 = .ok (.iload_n 2, 1) := by decide +kernel
theorem d_Mo_bytesOf_52 : decode b_Mo_bytesOf 52 = .ok (.ireturn, 1) := by decide +kernel
theorem d_Mo_copyEntry_0 : decode b_Mo_copyEntry 0 = .ok (.aload_n 0, 1) := by decide +kernel
theorem d_Mo_copyEntry_1 : decode b_Mo_copyEntry 1 = .ok (.getfield 38, 3) := by decide +kernel
theorem d_Mo_copyEntry_4 : decode b_Mo_copyEntry 4 = .ok (.iload_n 1, 1) := by decide +kernel
theorem d_Mo_copyEntry_5 : decode b_Mo_copyEntry 5 = .ok (.aload_n 0, 1) := by decide +kernel
theorem d_Mo_copyEntry_6 : decode b_Mo_copyEntry 6 = .ok (.getfield 38, 3) := by decide +kernel
theorem d_Mo_copyEntry_9 : decode b_Mo_copyEntry 9 = .ok (.iload_n 2, 1) := by decide +kernel
theorem d_Mo_copyEntry_10 : decode b_Mo_copyEntry 10 = .ok (.iaload, 1) := by decide +kernel
theorem d_Mo_copyEntry_11 : decode b_Mo_copyEntry 11 = .ok (.iastore, 1) := by decide +kernel
theorem d_Mo_copyEntry_12 : decode b_Mo_copyEntry 12 = .ok (.iconst 0, 1) := by decide +kernel
theorem d_Mo_copyEntry_13 : decode b_Mo_copyEntry 13 = .ok (.istore_n 3, 1) := by decide +kernel
theorem d_Mo_copyEntry_14 : decode b_Mo_copyEntry 14 = .ok (.iload_n 3, 1) := by decide +kernel
theorem d_Mo_copyEntry_15 : decode b_Mo_copyEntry 15 = .ok (.bipush 60, 2) := by decide +kernel
theorem d_Mo_copyEntry_17 : decode b_Mo_copyEntry 17 = .ok (.if_icmp .ge 31, 3) := by decide +kernel
theorem d_Mo_copyEntry_20 : decode b_Mo_copyEntry 20 = .ok (.aload_n 0, 1) := by decide +kernel
theorem d_Mo_copyEntry_21 : decode b_Mo_copyEntry 21 = .ok (.getfield 35, 3) := by decide +kernel
theorem d_Mo_copyEntry_24 : decode b_Mo_copyEntry 24 = .ok (.bipush 60, 2) := by decide +kernel
theorem d_Mo_copyEntry_26 : decode b_Mo_copyEntry 26 = .ok (.iload_n 1, 1) := by decide +kernel
theorem d_Mo_copyEntry_27 : decode b_Mo_copyEntry 27 = .ok (.imul, 1) := by decide +kernel
theorem d_Mo_copyEntry_28 : decode b_Mo_copyEntry 28 = .ok (.iload_n 3, 1) := by decide +kernel
theorem d_Mo_copyEntry_29 : decode b_Mo_copyEntry 29 = .ok (.iadd, 1) := by decide +kernel
theorem d_Mo_copyEntry_30 : decode b_Mo_copyEntry 30 = .ok (.aload_n 0, 1) := by decide +kernel
theorem d_Mo_copyEntry_31 : decode b_Mo_copyEntry 31 = .ok (.getfield 35, 3) := by decide +kernel
theorem d_Mo_copyEntry_34 : decode b_Mo_copyEntry 34 = .ok (.bipush 60, 2) := by decide +kernel
theorem d_Mo_copyEntry_36 : decode b_Mo_copyEntry 36 = .ok (.iload_n 2, 1) := by decide +kernel
theorem d_Mo_copyEntry_37 : decode b_Mo_copyEntry 37 = .ok (.imul, 1) := by decide +kernel
theorem d_Mo_copyEntry_38 : decode b_Mo_copyEntry 38 = .ok (.iload_n 3, 1) := by decide +kernel
theorem d_Mo_copyEntry_39 : decode b_Mo_copyEntry 39 = .ok (.iadd, 1) := by decide +kernel
theorem d_Mo_copyEntry_40 : decode b_Mo_copyEntry 40 = .ok (.baload, 1) := by decide +kernel
theorem d_Mo_copyEntry_41 : decode b_Mo_copyEntry 41 = .ok (.bastore, 1) := by decide +kernel
theorem d_Mo_copyEntry_42 : decode b_Mo_copyEntry 42 = .ok (.iinc 3 1, 3) := by decide +kernel
theorem d_Mo_copyEntry_45 : decode b_Mo_copyEntry 45 = .ok (.goto (-31), 3) := by decide +kernel
theorem d_Mo_copyEntry_48 : decode b_Mo_copyEntry 48 = .ok (.aload_n 0, 1) := by decide +kernel
theorem d_Mo_copyEntry_49 : decode b_Mo_copyEntry 49 = .ok (.getfield 41, 3) := by decide +kernel
theorem d_Mo_copyEntry_52 : decode b_Mo_copyEntry 52 = .ok (.iload_n 1, 1) := by decide +kernel
theorem d_Mo_copyEntry_53 : decode b_Mo_copyEntry 53 = .ok (.aload_n 0, 1) := by decide +kernel
theorem d_Mo_copyEntry_54 : decode b_Mo_copyEntry 54 = .ok (.getfield 41, 3) := by decide +kernel
theorem d_Mo_copyEntry_57 : decode b_Mo_copyEntry 57 = .ok (.iload_n 2, 1) := by decide +kernel
theorem d_Mo_copyEntry_58 : decode b_Mo_copyEntry 58 = .ok (.iaload, 1) := by decide +kernel
theorem d_Mo_copyEntry_59 : decode b_Mo_copyEntry 59 = .ok (.iastore, 1) := by decide +kernel
theorem d_Mo_copyEntry_60 : decode b_Mo_copyEntry 60 = .ok (.aload_n 0, 1) := by decide +kernel
theorem d_Mo_copyEntry_61 : decode b_Mo_copyEntry 61 = .ok (.getfield 44, 3) := by decide +kernel
theorem d_Mo_copyEntry_64 : decode b_Mo_copyEntry 64 = .ok (.iload_n 1, 1) := by decide +kernel
theorem d_Mo_copyEntry_65 : decode b_Mo_copyEntry 65 = .ok (.aload_n 0, 1) := by decide +kernel
theorem d_Mo_copyEntry_66 : decode b_Mo_copyEntry 66 = .ok (.getfield 44, 3) := by decide +kernel
theorem d_Mo_copyEntry_69 : decode b_Mo_copyEntry 69 = .ok (.iload_n 2, 1) := by decide +kernel
theorem d_Mo_copyEntry_70 : decode b_Mo_copyEntry 70 = .ok (.iaload, 1) := by decide +kernel
theorem d_Mo_copyEntry_71 : decode b_Mo_copyEntry 71 = .ok (.iastore, 1) := by decide +kernel
theorem d_Mo_copyEntry_72 : decode b_Mo_copyEntry 72 = .ok (.aload_n 0, 1) := by decide +kernel
theorem d_Mo_copyEntry_73 : decode b_Mo_copyEntry 73 = .ok (.getfield 47, 3) := by decide +kernel
theorem d_Mo_copyEntry_76 : decode b_Mo_copyEntry 76 = .ok (.iload_n 1, 1) := by decide +kernel
theorem d_Mo_copyEntry_77 : decode b_Mo_copyEntry 77 = .ok (.aload_n 0, 1) := by decide +kernel
theorem d_Mo_copyEntry_78 : decode b_Mo_copyEntry 78 = .ok (.getfield 47, 3) := by decide +kernel
theorem d_Mo_copyEntry_81 : decode b_Mo_copyEntry 81 = .ok (.iload_n 2, 1) := by decide +kernel
theorem d_Mo_copyEntry_82 : decode b_Mo_copyEntry 82 = .ok (.iaload, 1) := by decide +kernel
theorem d_Mo_copyEntry_83 : decode b_Mo_copyEntry 83 = .ok (.iastore, 1) := by decide +kernel
theorem d_Mo_copyEntry_84 : decode b_Mo_copyEntry 84 = .ok (.aload_n 0, 1) := by decide +kernel
theorem d_Mo_copyEntry_85 : decode b_Mo_copyEntry 85 = .ok (.getfield 50, 3) := by decide +kernel
theorem d_Mo_copyEntry_88 : decode b_Mo_copyEntry 88 = .ok (.iload_n 1, 1) := by decide +kernel
theorem d_Mo_copyEntry_89 : decode b_Mo_copyEntry 89 = .ok (.aload_n 0, 1) := by decide +kernel
theorem d_Mo_copyEntry_90 : decode b_Mo_copyEntry 90 = .ok (.getfield 50, 3) := by decide +kernel
theorem d_Mo_copyEntry_93 : decode b_Mo_copyEntry 93 = .ok (.iload_n 2, 1) := by decide +kernel
theorem d_Mo_copyEntry_94 : decode b_Mo_copyEntry 94 = .ok (.iaload, 1) := by decide +kernel
theorem d_Mo_copyEntry_95 : decode b_Mo_copyEntry 95 = .ok (.iastore, 1) := by decide +kernel
theorem d_Mo_copyEntry_96 : decode b_Mo_copyEntry 96 = .ok (.aload_n 0, 1) := by decide +kernel
theorem d_Mo_copyEntry_97 : decode b_Mo_copyEntry 97 = .ok (.getfield 53, 3) := by decide +kernel
theorem d_Mo_copyEntry_100 : decode b_Mo_copyEntry 100 = .ok (.iload_n 1, 1) := by decide +kernel
theorem d_Mo_copyEntry_101 : decode b_Mo_copyEntry 101 = .ok (.aload_n 0, 1) := by decide +kernel
theorem d_Mo_copyEntry_102 : decode b_Mo_copyEntry 102 = .ok (.getfield 53, 3) := by decide +kernel
theorem d_Mo_copyEntry_105 : decode b_Mo_copyEntry 105 = .ok (.iload_n 2, 1) := by decide +kernel
theorem d_Mo_copyEntry_106 : decode b_Mo_copyEntry 106 = .ok (.iaload, 1) := by decide +kernel
theorem d_Mo_copyEntry_107 : decode b_Mo_copyEntry 107 = .ok (.iastore, 1) := by decide +kernel
theorem d_Mo_copyEntry_108 : decode b_Mo_copyEntry 108 = .ok (.aload_n 0, 1) := by decide +kernel
theorem d_Mo_copyEntry_109 : decode b_Mo_copyEntry 109 = .ok (.getfield 56, 3) := by decide +kernel
theorem d_Mo_copyEntry_112 : decode b_Mo_copyEntry 112 = .ok (.iload_n 1, 1) := by decide +kernel
theorem d_Mo_copyEntry_113 : decode b_Mo_copyEntry 113 = .ok (.aload_n 0, 1) := by decide +kernel
theorem d_Mo_copyEntry_114 : decode b_Mo_copyEntry 114 = .ok (.getfield 56, 3) := by decide +kernel
theorem d_Mo_copyEntry_117 : decode b_Mo_copyEntry 117 = .ok (.iload_n 2, 1) := by decide +kernel
theorem d_Mo_copyEntry_118 : decode b_Mo_copyEntry 118 = .ok (.iaload, 1) := by decide +kernel
theorem d_Mo_copyEntry_119 : decode b_Mo_copyEntry 119 = .ok (.iastore, 1) := by decide +kernel
theorem d_Mo_copyEntry_120 : decode b_Mo_copyEntry 120 = .ok (.aload_n 0, 1) := by decide +kernel
theorem d_Mo_copyEntry_121 : decode b_Mo_copyEntry 121 = .ok (.getfield 59, 3) := by decide +kernel
theorem d_Mo_copyEntry_124 : decode b_Mo_copyEntry 124 = .ok (.iload_n 1, 1) := by decide +kernel
theorem d_Mo_copyEntry_125 : decode b_Mo_copyEntry 125 = .ok (.aload_n 0, 1) := by decide +kernel
theorem d_Mo_copyEntry_126 : decode b_Mo_copyEntry 126 = .ok (.getfield 59, 3) := by decide +kernel
theorem d_Mo_copyEntry_129 : decode b_Mo_copyEntry 129 = .ok (.iload_n 2, 1) := by decide +kernel
theorem d_Mo_copyEntry_130 : decode b_Mo_copyEntry 130 = .ok (.iaload, 1) := by decide +kernel
theorem d_Mo_copyEntry_131 : decode b_Mo_copyEntry 131 = .ok (.iastore, 1) := by decide +kernel
theorem d_Mo_copyEntry_132 : decode b_Mo_copyEntry 132 = .ok (.aload_n 0, 1) := by decide +kernel
theorem d_Mo_copyEntry_133 : decode b_Mo_copyEntry 133 = .ok (.getfield 62, 3) := by decide +kernel
theorem d_Mo_copyEntry_136 : decode b_Mo_copyEntry 136 = .ok (.iload_n 1, 1) := by decide +kernel
theorem d_Mo_copyEntry_137 : decode b_Mo_copyEntry 137 = .ok (.aload_n 0, 1) := by decide +kernel
theorem d_Mo_copyEntry_138 : decode b_Mo_copyEntry 138 = .ok (.getfield 62, 3) := by decide +kernel
theorem d_Mo_copyEntry_141 : decode b_Mo_copyEntry 141 = .ok (.iload_n 2, 1) := by decide +kernel
theorem d_Mo_copyEntry_142 : decode b_Mo_copyEntry 142 = .ok (.iaload, 1) := by decide +kernel
theorem d_Mo_copyEntry_143 : decode b_Mo_copyEntry 143 = .ok (.iastore, 1) := by decide +kernel
theorem d_Mo_copyEntry_144 : decode b_Mo_copyEntry 144 = .ok (.return_, 1) := by decide +kernel
theorem d_Mo_enter_0 : decode b_Mo_enter 0 = .ok (.aload_n 0, 1) := by decide +kernel
theorem d_Mo_enter_1 : decode b_Mo_enter 1 = .ok (.getfield 31, 3) := by decide +kernel
theorem d_Mo_enter_4 : decode b_Mo_enter 4 = .ok (.iload_n 1, 1) := by decide +kernel
theorem d_Mo_enter_5 : decode b_Mo_enter 5 = .ok (.iaload, 1) := by decide +kernel
theorem d_Mo_enter_6 : decode b_Mo_enter 6 = .ok (.istore_n 2, 1) := by decide +kernel
theorem d_Mo_enter_7 : decode b_Mo_enter 7 = .ok (.iload_n 2, 1) := by decide +kernel
theorem d_Mo_enter_8 : decode b_Mo_enter 8 = .ok (.ifCond .le 43, 3) := by decide +kernel
theorem d_Mo_enter_11 : decode b_Mo_enter 11 = .ok (.aload_n 0, 1) := by decide +kernel
theorem d_Mo_enter_12 : decode b_Mo_enter 12 = .ok (.iload_n 1, 1) := by decide +kernel
theorem d_Mo_enter_13 : decode b_Mo_enter 13 = .ok (.iload_n 2, 1) := by decide +kernel
theorem d_Mo_enter_14 : decode b_Mo_enter 14 = .ok (.iconst 1, 1) := by decide +kernel
theorem d_Mo_enter_15 : decode b_Mo_enter 15 = .ok (.isub, 1) := by decide +kernel
theorem d_Mo_enter_16 : decode b_Mo_enter 16 = .ok (.invokestatic 138, 3) := by decide +kernel
theorem d_Mo_enter_19 : decode b_Mo_enter 19 = .ok (.aload_n 0, 1) := by decide +kernel
theorem d_Mo_enter_20 : decode b_Mo_enter 20 = .ok (.getfield 135, 3) := by decide +kernel
theorem d_Mo_enter_23 : decode b_Mo_enter 23 = .ok (.invokevirtual 142, 3) := by decide +kernel
theorem d_Mo_enter_26 : decode b_Mo_enter 26 = .ok (.ifCond .le 25, 3) := by decide +kernel
theorem d_Mo_enter_29 : decode b_Mo_enter 29 = .ok (.aload_n 0, 1) := by decide +kernel
theorem d_Mo_enter_30 : decode b_Mo_enter 30 = .ok (.iload_n 1, 1) := by decide +kernel
theorem d_Mo_enter_31 : decode b_Mo_enter 31 = .ok (.iload_n 2, 1) := by decide +kernel
theorem d_Mo_enter_32 : decode b_Mo_enter 32 = .ok (.invokestatic 138, 3) := by decide +kernel
theorem d_Mo_enter_35 : decode b_Mo_enter 35 = .ok (.iload_n 1, 1) := by decide +kernel
theorem d_Mo_enter_36 : decode b_Mo_enter 36 = .ok (.iload_n 2, 1) := by decide +kernel
theorem d_Mo_enter_37 : decode b_Mo_enter 37 = .ok (.iconst 1, 1) := by decide +kernel
theorem d_Mo_enter_38 : decode b_Mo_enter 38 = .ok (.isub, 1) := by decide +kernel
theorem d_Mo_enter_39 : decode b_Mo_enter 39 = .ok (.invokestatic 138, 3) := by decide +kernel
theorem d_Mo_enter_42 : decode b_Mo_enter 42 = .ok (.invokevirtual 148, 3) := by decide +kernel
theorem d_Mo_enter_45 : decode b_Mo_enter 45 = .ok (.iinc 2 (-1), 3) := by decide +kernel
theorem d_Mo_enter_48 : decode b_Mo_enter 48 = .ok (.goto (-41), 3) := by decide +kernel
theorem d_Mo_enter_51 : decode b_Mo_enter 51 = .ok (.aload_n 0, 1) := by decide +kernel
theorem d_Mo_enter_52 : decode b_Mo_enter 52 = .ok (.getfield 31, 3) := by decide +kernel
theorem d_Mo_enter_55 : decode b_Mo_enter 55 = .ok (.iload_n 1, 1) := by decide +kernel
theorem d_Mo_enter_56 : decode b_Mo_enter 56 = .ok (.dup2, 1) := by decide +kernel
theorem d_Mo_enter_57 : decode b_Mo_enter 57 = .ok (.iaload, 1) := by decide +kernel
theorem d_Mo_enter_58 : decode b_Mo_enter 58 = .ok (.iconst 1, 1) := by decide +kernel
theorem d_Mo_enter_59 : decode b_Mo_enter 59 = .ok (.iadd, 1) := by decide +kernel
theorem d_Mo_enter_60 : decode b_Mo_enter 60 = .ok (.iastore, 1) := by decide +kernel
theorem d_Mo_enter_61 : decode b_Mo_enter 61 = .ok (.iload_n 1, 1) := by decide +kernel
theorem d_Mo_enter_62 : decode b_Mo_enter 62 = .ok (.iload_n 2, 1) := by decide +kernel
theorem d_Mo_enter_63 : decode b_Mo_enter 63 = .ok (.invokestatic 138, 3) := by decide +kernel
theorem d_Mo_enter_66 : decode b_Mo_enter 66 = .ok (.istore_n 3, 1) := by decide +kernel
theorem d_Mo_enter_67 : decode b_Mo_enter 67 = .ok (.aload_n 0, 1) := by decide +kernel
theorem d_Mo_enter_68 : decode b_Mo_enter 68 = .ok (.getfield 38, 3) := by decide +kernel
theorem d_Mo_enter_71 : decode b_Mo_enter 71 = .ok (.iload_n 3, 1) := by decide +kernel
theorem d_Mo_enter_72 : decode b_Mo_enter 72 = .ok (.aload_n 0, 1) := by decide +kernel
theorem d_Mo_enter_73 : decode b_Mo_enter 73 = .ok (.getfield 135, 3) := by decide +kernel
theorem d_Mo_enter_76 : decode b_Mo_enter 76 = .ok (.iastore, 1) := by decide +kernel
theorem d_Mo_enter_77 : decode b_Mo_enter 77 = .ok (.iconst 0, 1) := by decide +kernel
theorem d_Mo_enter_78 : decode b_Mo_enter 78 = .ok (.istore 4, 2) := by decide +kernel
theorem d_Mo_enter_80 : decode b_Mo_enter 80 = .ok (.iload 4, 2) := by decide +kernel
theorem d_Mo_enter_82 : decode b_Mo_enter 82 = .ok (.aload_n 0, 1) := by decide +kernel
theorem d_Mo_enter_83 : decode b_Mo_enter 83 = .ok (.getfield 135, 3) := by decide +kernel
theorem d_Mo_enter_86 : decode b_Mo_enter 86 = .ok (.if_icmp .ge 28, 3) := by decide +kernel
theorem d_Mo_enter_89 : decode b_Mo_enter 89 = .ok (.aload_n 0, 1) := by decide +kernel
theorem d_Mo_enter_90 : decode b_Mo_enter 90 = .ok (.getfield 35, 3) := by decide +kernel
theorem d_Mo_enter_93 : decode b_Mo_enter 93 = .ok (.bipush 60, 2) := by decide +kernel
theorem d_Mo_enter_95 : decode b_Mo_enter 95 = .ok (.iload_n 3, 1) := by decide +kernel
theorem d_Mo_enter_96 : decode b_Mo_enter 96 = .ok (.imul, 1) := by decide +kernel
theorem d_Mo_enter_97 : decode b_Mo_enter 97 = .ok (.iload 4, 2) := by decide +kernel
theorem d_Mo_enter_99 : decode b_Mo_enter 99 = .ok (.iadd, 1) := by decide +kernel
theorem d_Mo_enter_100 : decode b_Mo_enter 100 = .ok (.aload_n 0, 1) := by decide +kernel
theorem d_Mo_enter_101 : decode b_Mo_enter 101 = .ok (.getfield 72, 3) := by decide +kernel
theorem d_Mo_enter_104 : decode b_Mo_enter 104 = .ok (.iload 4, 2) := by decide +kernel
theorem d_Mo_enter_106 : decode b_Mo_enter 106 = .ok (.baload, 1) := by decide +kernel
theorem d_Mo_enter_107 : decode b_Mo_enter 107 = .ok (.bastore, 1) := by decide +kernel
theorem d_Mo_enter_108 : decode b_Mo_enter 108 = .ok (.iinc 4 1, 3) := by decide +kernel
theorem d_Mo_enter_111 : decode b_Mo_enter 111 = .ok (.goto (-31), 3) := by decide +kernel
theorem d_Mo_enter_114 : decode b_Mo_enter 114 = .ok (.iload_n 3, 1) := by decide +kernel
theorem d_Mo_enter_115 : decode b_Mo_enter 115 = .ok (.ireturn, 1) := by decide +kernel
theorem d_Mo_isNumber_0 : decode b_Mo_isNumber 0 = .ok (.iload_n 0, 1) := by decide +kernel
theorem d_Mo_isNumber_1 : decode b_Mo_isNumber 1 = .ok (.ifCond .lt 7, 3) := by decide +kernel
theorem d_Mo_isNumber_4 : decode b_Mo_isNumber 4 = .ok (.iconst 1, 1) := by decide +kernel
theorem d_Mo_isNumber_5 : decode b_Mo_isNumber 5 = .ok (.goto 4, 3) := by decide +kernel
theorem d_Mo_isNumber_8 : decode b_Mo_isNumber 8 = .ok (.iconst 0, 1) := by decide +kernel
theorem d_Mo_isNumber_9 : decode b_Mo_isNumber 9 = .ok (.ireturn, 1) := by decide +kernel
theorem d_Mo_isTarget_0 : decode b_Mo_isTarget 0 = .ok (.iload_n 2, 1) := by decide +kernel
theorem d_Mo_isTarget_1 : decode b_Mo_isTarget 1 = .ok (.iconst 1, 1) := by decide +kernel
theorem d_Mo_isTarget_2 : decode b_Mo_isTarget 2 = .ok (.if_icmp .lt 13, 3) := by decide +kernel
theorem d_Mo_isTarget_5 : decode b_Mo_isTarget 5 = .ok (.iload_n 2, 1) := by decide +kernel
theorem d_Mo_isTarget_6 : decode b_Mo_isTarget 6 = .ok (.bipush 60, 2) := by decide +kernel
theorem d_Mo_isTarget_8 : decode b_Mo_isTarget 8 = .ok (.if_icmp .gt 7, 3) := by decide +kernel
theorem d_Mo_isTarget_11 : decode b_Mo_isTarget 11 = .ok (.iconst 1, 1) := by decide +kernel
theorem d_Mo_isTarget_12 : decode b_Mo_isTarget 12 = .ok (.goto 4, 3) := by decide +kernel
theorem d_Mo_isTarget_15 : decode b_Mo_isTarget 15 = .ok (.iconst 0, 1) := by decide +kernel
theorem d_Mo_isTarget_16 : decode b_Mo_isTarget 16 = .ok (.istore_n 3, 1) := by decide +kernel
theorem d_Mo_isTarget_17 : decode b_Mo_isTarget 17 = .ok (.iconst 0, 1) := by decide +kernel
theorem d_Mo_isTarget_18 : decode b_Mo_isTarget 18 = .ok (.istore 4, 2) := by decide +kernel
theorem d_Mo_isTarget_20 : decode b_Mo_isTarget 20 = .ok (.iload 4, 2) := by decide +kernel
theorem d_Mo_isTarget_22 : decode b_Mo_isTarget 22 = .ok (.iload_n 2, 1) := by decide +kernel
theorem d_Mo_isTarget_23 : decode b_Mo_isTarget 23 = .ok (.if_icmp .ge 28, 3) := by decide +kernel
theorem d_Mo_isTarget_26 : decode b_Mo_isTarget 26 = .ok (.iload_n 3, 1) := by decide +kernel
theorem d_Mo_isTarget_27 : decode b_Mo_isTarget 27 = .ok (.ifCond .eq 24, 3) := by decide +kernel
theorem d_Mo_isTarget_30 : decode b_Mo_isTarget 30 = .ok (.aload_n 0, 1) := by decide +kernel
theorem d_Mo_isTarget_31 : decode b_Mo_isTarget 31 = .ok (.iload_n 1, 1) := by decide +kernel
theorem d_Mo_isTarget_32 : decode b_Mo_isTarget 32 = .ok (.iload 4, 2) := by decide +kernel
theorem d_Mo_isTarget_34 : decode b_Mo_isTarget 34 = .ok (.iadd, 1) := by decide +kernel
theorem d_Mo_isTarget_35 : decode b_Mo_isTarget 35 = .ok (.baload, 1) := by decide +kernel
theorem d_Mo_isTarget_36 : decode b_Mo_isTarget 36 = .ok (.ifCond .eq 7, 3) := by decide +kernel
theorem d_Mo_isTarget_39 : decode b_Mo_isTarget 39 = .ok (.iconst 1, 1) := by decide +kernel
theorem d_Mo_isTarget_40 : decode b_Mo_isTarget 40 = .ok (.goto 4, 3) := by decide +kernel
theorem d_Mo_isTarget_43 : decode b_Mo_isTarget 43 = .ok (.iconst 0, 1) := by decide +kernel
theorem d_Mo_isTarget_44 : decode b_Mo_isTarget 44 = .ok (.istore_n 3, 1) := by decide +kernel
theorem d_Mo_isTarget_45 : decode b_Mo_isTarget 45 = .ok (.iinc 4 1, 3) := by decide +kernel
theorem d_Mo_isTarget_48 : decode b_Mo_isTarget 48 = .ok (.goto (-28), 3) := by decide +kernel
theorem d_Mo_isTarget_51 : decode b_Mo_isTarget 51 = .ok (.iload_n 3, 1) := by decide +kernel
theorem d_Mo_isTarget_52 : decode b_Mo_isTarget 52 = .ok (.ireturn, 1) := by decide +kernel
theorem d_Mo_mayBe_0 : decode b_Mo_mayBe 0 = .ok (.aload_n 0, 1) := by decide +kernel
theorem d_Mo_mayBe_1 : decode b_Mo_mayBe 1 = .ok (.getfield 132, 3) := by decide +kernel
theorem d_Mo_mayBe_4 : decode b_Mo_mayBe 4 = .ok (.iload_n 2, 1) := by decide +kernel
theorem d_Mo_mayBe_5 : decode b_Mo_mayBe 5 = .ok (.isub, 1) := by decide +kernel
theorem d_Mo_mayBe_6 : decode b_Mo_mayBe 6 = .ok (.istore_n 3, 1) := by decide +kernel
theorem d_Mo_mayBe_7 : decode b_Mo_mayBe 7 = .ok (.iload_n 1, 1) := by decide +kernel
theorem d_Mo_mayBe_8 : decode b_Mo_mayBe 8 = .ok (.iconst 1, 1) := by decide +kernel
theorem d_Mo_mayBe_9 : decode b_Mo_mayBe 9 = .ok (.if_icmp .eq 26, 3) := by decide +kernel
theorem d_Mo_mayBe_12 : decode b_Mo_mayBe 12 = .ok (.iload_n 1, 1) := by decide +kernel
theorem d_Mo_mayBe_13 : decode b_Mo_mayBe 13 = .ok (.ifCond .ne 10, 3) := by decide +kernel
theorem d_Mo_mayBe_16 : decode b_Mo_mayBe 16 = .ok (.iload_n 3, 1) := by decide +kernel
theorem d_Mo_mayBe_17 : decode b_Mo_mayBe 17 = .ok (.ifCond .ne 22, 3) := by decide +kernel
theorem d_Mo_mayBe_20 : decode b_Mo_mayBe 20 = .ok (.goto 15, 3) := by decide +kernel
theorem d_Mo_mayBe_23 : decode b_Mo_mayBe 23 = .ok (.aload_n 0, 1) := by decide +kernel
theorem d_Mo_mayBe_24 : decode b_Mo_mayBe 24 = .ok (.getfield 28, 3) := by decide +kernel
theorem d_Mo_mayBe_27 : decode b_Mo_mayBe 27 = .ok (.iload_n 2, 1) := by decide +kernel
theorem d_Mo_mayBe_28 : decode b_Mo_mayBe 28 = .ok (.iload_n 3, 1) := by decide +kernel
theorem d_Mo_mayBe_29 : decode b_Mo_mayBe 29 = .ok (.invokestatic 152, 3) := by decide +kernel
theorem d_Mo_mayBe_32 : decode b_Mo_mayBe 32 = .ok (.ifCond .eq 7, 3) := by decide +kernel
theorem d_Mo_mayBe_35 : decode b_Mo_mayBe 35 = .ok (.iconst 1, 1) := by decide +kernel
theorem d_Mo_mayBe_36 : decode b_Mo_mayBe 36 = .ok (.goto 4, 3) := by decide +kernel
theorem d_Mo_mayBe_39 : decode b_Mo_mayBe 39 = .ok (.iconst 0, 1) := by decide +kernel
theorem d_Mo_mayBe_40 : decode b_Mo_mayBe 40 = .ok (.ireturn, 1) := by decide +kernel
theorem d_Mo_added_0 : decode b_Mo_added 0 = .ok (.iload_n 1, 1) := by decide +kernel
theorem d_Mo_added_1 : decode b_Mo_added 1 = .ok (.ifCond .lt 66, 3) := by decide +kernel
theorem d_Mo_added_4 : decode b_Mo_added 4 = .ok (.iload_n 1, 1) := by decide +kernel
theorem d_Mo_added_5 : decode b_Mo_added 5 = .ok (.iconst 2, 1) := by decide +kernel
theorem d_Mo_added_6 : decode b_Mo_added 6 = .ok (.if_icmp .gt 61, 3) := by decide +kernel
theorem d_Mo_added_9 : decode b_Mo_added 9 = .ok (.iload_n 2, 1) := by decide +kernel
theorem d_Mo_added_10 : decode b_Mo_added 10 = .ok (.iconst 1, 1) := by decide +kernel
theorem d_Mo_added_11 : decode b_Mo_added 11 = .ok (.if_icmp .lt 56, 3) := by decide +kernel
theorem d_Mo_added_14 : decode b_Mo_added 14 = .ok (.iload_n 2, 1) := by decide +kernel
theorem d_Mo_added_15 : decode b_Mo_added 15 = .ok (.bipush 60, 2) := by decide +kernel
theorem d_Mo_added_17 : decode b_Mo_added 17 = .ok (.if_icmp .gt 50, 3) := by decide +kernel
theorem d_Mo_added_20 : decode b_Mo_added 20 = .ok (.iload_n 2, 1) := by decide +kernel
theorem d_Mo_added_21 : decode b_Mo_added 21 = .ok (.aload_n 0, 1) := by decide +kernel
theorem d_Mo_added_22 : decode b_Mo_added 22 = .ok (.getfield 132, 3) := by decide +kernel
theorem d_Mo_added_25 : decode b_Mo_added 25 = .ok (.if_icmp .gt 42, 3) := by decide +kernel
theorem d_Mo_added_28 : decode b_Mo_added 28 = .ok (.iload_n 3, 1) := by decide +kernel
theorem d_Mo_added_29 : decode b_Mo_added 29 = .ok (.ifCond .lt 38, 3) := by decide +kernel
theorem d_Mo_added_32 : decode b_Mo_added 32 = .ok (.iload_n 3, 1) := by decide +kernel
theorem d_Mo_added_33 : decode b_Mo_added 33 = .ok (.sipush 4095, 3) := by decide +kernel
theorem d_Mo_added_36 : decode b_Mo_added 36 = .ok (.if_icmp .gt 31, 3) := by decide +kernel
theorem d_Mo_added_39 : decode b_Mo_added 39 = .ok (.iload 4, 2) := by decide +kernel
theorem d_Mo_added_41 : decode b_Mo_added 41 = .ok (.invokestatic 156, 3) := by decide +kernel
theorem d_Mo_added_44 : decode b_Mo_added 44 = .ok (.ifCond .eq 23, 3) := by decide +kernel
theorem d_Mo_added_47 : decode b_Mo_added 47 = .ok (.iload 5, 2) := by decide +kernel
theorem d_Mo_added_49 : decode b_Mo_added 49 = .ok (.invokestatic 156, 3) := by decide +kernel
theorem d_Mo_added_52 : decode b_Mo_added 52 = .ok (.ifCond .eq 15, 3) := by decide +kernel
theorem d_Mo_added_55 : decode b_Mo_added 55 = .ok (.iload 6, 2) := by decide +kernel
theorem d_Mo_added_57 : decode b_Mo_added 57 = .ok (.invokestatic 156, 3) := by decide +kernel
theorem d_Mo_added_60 : decode b_Mo_added 60 = .ok (.ifCond .eq 7, 3) := by decide +kernel
theorem d_Mo_added_63 : decode b_Mo_added 63 = .ok (.iconst 1, 1) := by decide +kernel
theorem d_Mo_added_64 : decode b_Mo_added 64 = .ok (.goto 4, 3) := by decide +kernel
theorem d_Mo_added_67 : decode b_Mo_added 67 = .ok (.iconst 0, 1) := by decide +kernel
theorem d_Mo_added_68 : decode b_Mo_added 68 = .ok (.istore 7, 2) := by decide +kernel
theorem d_Mo_added_70 : decode b_Mo_added 70 = .ok (.iload 7, 2) := by decide +kernel
theorem d_Mo_added_72 : decode b_Mo_added 72 = .ok (.ifCond .eq 44, 3) := by decide +kernel
theorem d_Mo_added_75 : decode b_Mo_added 75 = .ok (.aload_n 0, 1) := by decide +kernel
theorem d_Mo_added_76 : decode b_Mo_added 76 = .ok (.aload_n 0, 1) := by decide +kernel
theorem d_Mo_added_77 : decode b_Mo_added 77 = .ok (.getfield 28, 3) := by decide +kernel
theorem d_Mo_added_80 : decode b_Mo_added 80 = .ok (.iconst 0, 1) := by decide +kernel
theorem d_Mo_added_81 : decode b_Mo_added 81 = .ok (.iload_n 2, 1) := by decide +kernel
theorem d_Mo_added_82 : decode b_Mo_added 82 = .ok (.invokevirtual 160, 3) := by decide +kernel
theorem d_Mo_added_85 : decode b_Mo_added 85 = .ok (.aload_n 0, 1) := by decide +kernel
theorem d_Mo_added_86 : decode b_Mo_added 86 = .ok (.iload_n 1, 1) := by decide +kernel
theorem d_Mo_added_87 : decode b_Mo_added 87 = .ok (.iload_n 2, 1) := by decide +kernel
theorem d_Mo_added_88 : decode b_Mo_added 88 = .ok (.invokevirtual 164, 3) := by decide +kernel
theorem d_Mo_added_91 : decode b_Mo_added 91 = .ok (.ifCond .eq 22, 3) := by decide +kernel
theorem d_Mo_added_94 : decode b_Mo_added 94 = .ok (.aload_n 0, 1) := by decide +kernel
theorem d_Mo_added_95 : decode b_Mo_added 95 = .ok (.invokevirtual 168, 3) := by decide +kernel
theorem d_Mo_added_98 : decode b_Mo_added 98 = .ok (.ifCond .eq 15, 3) := by decide +kernel
theorem d_Mo_added_101 : decode b_Mo_added 101 = .ok (.aload_n 0, 1) := by decide +kernel
theorem d_Mo_added_102 : decode b_Mo_added 102 = .ok (.iconst 0, 1) := by decide +kernel
theorem d_Mo_added_103 : decode b_Mo_added 103 = .ok (.invokevirtual 172, 3) := by decide +kernel
theorem d_Mo_added_106 : decode b_Mo_added 106 = .ok (.ifCond .eq 7, 3) := by decide +kernel
theorem d_Mo_added_109 : decode b_Mo_added 109 = .ok (.iconst 1, 1) := by decide +kernel
theorem d_Mo_added_110 : decode b_Mo_added 110 = .ok (.goto 4, 3) := by decide +kernel
theorem d_Mo_added_113 : decode b_Mo_added 113 = .ok (.iconst 0, 1) := by decide +kernel
theorem d_Mo_added_114 : decode b_Mo_added 114 = .ok (.istore 7, 2) := by decide +kernel
theorem d_Mo_added_116 : decode b_Mo_added 116 = .ok (.aload_n 0, 1) := by decide +kernel
theorem d_Mo_added_117 : decode b_Mo_added 117 = .ok (.getfield 132, 3) := by decide +kernel
theorem d_Mo_added_120 : decode b_Mo_added 120 = .ok (.iload_n 2, 1) := by decide +kernel
theorem d_Mo_added_121 : decode b_Mo_added 121 = .ok (.isub, 1) := by decide +kernel
theorem d_Mo_added_122 : decode b_Mo_added 122 = .ok (.istore 8, 2) := by decide +kernel
theorem d_Mo_added_124 : decode b_Mo_added 124 = .ok (.aload_n 0, 1) := by decide +kernel
theorem d_Mo_added_125 : decode b_Mo_added 125 = .ok (.iload 7, 2) := by decide +kernel
theorem d_Mo_added_127 : decode b_Mo_added 127 = .ok (.ifCond .ne 7, 3) := by decide +kernel
theorem d_Mo_added_130 : decode b_Mo_added 130 = .ok (.iconst 1, 1) := by decide +kernel
theorem d_Mo_added_131 : decode b_Mo_added 131 = .ok (.goto 51, 3) := by decide +kernel
theorem d_Mo_added_134 : decode b_Mo_added 134 = .ok (.aload_n 0, 1) := by decide +kernel
theorem d_Mo_added_135 : decode b_Mo_added 135 = .ok (.iconst 0, 1) := by decide +kernel
theorem d_Mo_added_136 : decode b_Mo_added 136 = .ok (.iload_n 2, 1) := by decide +kernel
theorem d_Mo_added_137 : decode b_Mo_added 137 = .ok (.invokevirtual 145, 3) := by decide +kernel
theorem d_Mo_added_140 : decode b_Mo_added 140 = .ok (.ifCond .lt 7, 3) := by decide +kernel
theorem d_Mo_added_143 : decode b_Mo_added 143 = .ok (.iconst 2, 1) := by decide +kernel
theorem d_Mo_added_144 : decode b_Mo_added 144 = .ok (.goto 38, 3) := by decide +kernel
theorem d_Mo_added_147 : decode b_Mo_added 147 = .ok (.aload_n 0, 1) := by decide +kernel
theorem d_Mo_added_148 : decode b_Mo_added 148 = .ok (.getfield 31, 3) := by decide +kernel
theorem d_Mo_added_151 : decode b_Mo_added 151 = .ok (.iconst 0, 1) := by decide +kernel
theorem d_Mo_added_152 : decode b_Mo_added 152 = .ok (.iaload, 1) := by decide +kernel
theorem d_Mo_added_153 : decode b_Mo_added 153 = .ok (.bipush 40, 2) := by decide +kernel
theorem d_Mo_added_155 : decode b_Mo_added 155 = .ok (.if_icmp .eq 22, 3) := by decide +kernel
theorem d_Mo_added_158 : decode b_Mo_added 158 = .ok (.iload_n 1, 1) := by decide +kernel
theorem d_Mo_added_159 : decode b_Mo_added 159 = .ok (.iconst 1, 1) := by decide +kernel
theorem d_Mo_added_160 : decode b_Mo_added 160 = .ok (.if_icmp .ne 21, 3) := by decide +kernel
theorem d_Mo_added_163 : decode b_Mo_added 163 = .ok (.aload_n 0, 1) := by decide +kernel
theorem d_Mo_added_164 : decode b_Mo_added 164 = .ok (.iconst 0, 1) := by decide +kernel
theorem d_Mo_added_165 : decode b_Mo_added 165 = .ok (.invokevirtual 175, 3) := by decide +kernel
theorem d_Mo_added_168 : decode b_Mo_added 168 = .ok (.iload 8, 2) := by decide +kernel
theorem d_Mo_added_170 : decode b_Mo_added 170 = .ok (.iadd, 1) := by decide +kernel
theorem d_Mo_added_171 : decode b_Mo_added 171 = .ok (.sipush 6000, 3) := by decide +kernel
theorem d_Mo_added_174 : decode b_Mo_added 174 = .ok (.if_icmp .le 7, 3) := by decide +kernel
theorem d_Mo_added_177 : decode b_Mo_added 177 = .ok (.iconst 3, 1) := by decide +kernel
theorem d_Mo_added_178 : decode b_Mo_added 178 = .ok (.goto 4, 3) := by decide +kernel
theorem d_Mo_added_181 : decode b_Mo_added 181 = .ok (.iconst 0, 1) := by decide +kernel
theorem d_Mo_added_182 : decode b_Mo_added 182 = .ok (.putfield 128, 3) := by decide +kernel
theorem d_Mo_added_185 : decode b_Mo_added 185 = .ok (.aload_n 0, 1) := by decide +kernel
theorem d_Mo_added_186 : decode b_Mo_added 186 = .ok (.getfield 128, 3) := by decide +kernel
theorem d_Mo_added_189 : decode b_Mo_added 189 = .ok (.ifCond .le 5, 3) := by decide +kernel
theorem d_Mo_added_192 : decode b_Mo_added 192 = .ok (.iconst 0, 1) := by decide +kernel
theorem d_Mo_added_193 : decode b_Mo_added 193 = .ok (.ireturn, 1) := by decide +kernel
theorem d_Mo_added_194 : decode b_Mo_added 194 = .ok (.aload_n 0, 1) := by decide +kernel
theorem d_Mo_added_195 : decode b_Mo_added 195 = .ok (.iconst 0, 1) := by decide +kernel
theorem d_Mo_added_196 : decode b_Mo_added 196 = .ok (.invokevirtual 179, 3) := by decide +kernel
theorem d_Mo_added_199 : decode b_Mo_added 199 = .ok (.istore 9, 2) := by decide +kernel
theorem d_Mo_added_201 : decode b_Mo_added 201 = .ok (.aload_n 0, 1) := by decide +kernel
theorem d_Mo_added_202 : decode b_Mo_added 202 = .ok (.getfield 41, 3) := by decide +kernel
theorem d_Mo_added_205 : decode b_Mo_added 205 = .ok (.iload 9, 2) := by decide +kernel
theorem d_Mo_added_207 : decode b_Mo_added 207 = .ok (.iload_n 1, 1) := by decide +kernel
theorem d_Mo_added_208 : decode b_Mo_added 208 = .ok (.iastore, 1) := by decide +kernel
theorem d_Mo_added_209 : decode b_Mo_added 209 = .ok (.aload_n 0, 1) := by decide +kernel
theorem d_Mo_added_210 : decode b_Mo_added 210 = .ok (.getfield 44, 3) := by decide +kernel
theorem d_Mo_added_213 : decode b_Mo_added 213 = .ok (.iload 9, 2) := by decide +kernel
theorem d_Mo_added_215 : decode b_Mo_added 215 = .ok (.iload_n 3, 1) := by decide +kernel
theorem d_Mo_added_216 : decode b_Mo_added 216 = .ok (.iastore, 1) := by decide +kernel
theorem d_Mo_added_217 : decode b_Mo_added 217 = .ok (.aload_n 0, 1) := by decide +kernel
theorem d_Mo_added_218 : decode b_Mo_added 218 = .ok (.getfield 47, 3) := by decide +kernel
theorem d_Mo_added_221 : decode b_Mo_added 221 = .ok (.iload 9, 2) := by decide +kernel
theorem d_Mo_added_223 : decode b_Mo_added 223 = .ok (.iload 4, 2) := by decide +kernel
theorem d_Mo_added_225 : decode b_Mo_added 225 = .ok (.iastore, 1) := by decide +kernel
theorem d_Mo_added_226 : decode b_Mo_added 226 = .ok (.aload_n 0, 1) := by decide +kernel
theorem d_Mo_added_227 : decode b_Mo_added 227 = .ok (.getfield 50, 3) := by decide +kernel
theorem d_Mo_added_230 : decode b_Mo_added 230 = .ok (.iload 9, 2) := by decide +kernel
theorem d_Mo_added_232 : decode b_Mo_added 232 = .ok (.iload 5, 2) := by decide +kernel
theorem d_Mo_added_234 : decode b_Mo_added 234 = .ok (.iastore, 1) := by decide +kernel
theorem d_Mo_added_235 : decode b_Mo_added 235 = .ok (.aload_n 0, 1) := by decide +kernel
theorem d_Mo_added_236 : decode b_Mo_added 236 = .ok (.getfield 53, 3) := by decide +kernel
theorem d_Mo_added_239 : decode b_Mo_added 239 = .ok (.iload 9, 2) := by decide +kernel
theorem d_Mo_added_241 : decode b_Mo_added 241 = .ok (.iload 6, 2) := by decide +kernel
theorem d_Mo_added_243 : decode b_Mo_added 243 = .ok (.iastore, 1) := by decide +kernel
theorem d_Mo_added_244 : decode b_Mo_added 244 = .ok (.aload_n 0, 1) := by decide +kernel
theorem d_Mo_added_245 : decode b_Mo_added 245 = .ok (.getfield 56, 3) := by decide +kernel
theorem d_Mo_added_248 : decode b_Mo_added 248 = .ok (.iload 9, 2) := by decide +kernel
theorem d_Mo_added_250 : decode b_Mo_added 250 = .ok (.aload_n 0, 1) := by decide +kernel
theorem d_Mo_added_251 : decode b_Mo_added 251 = .ok (.getfield 65, 3) := by decide +kernel
theorem d_Mo_added_254 : decode b_Mo_added 254 = .ok (.iconst 0, 1) := by decide +kernel
theorem d_Mo_added_255 : decode b_Mo_added 255 = .ok (.iaload, 1) := by decide +kernel
theorem d_Mo_added_256 : decode b_Mo_added 256 = .ok (.iastore, 1) := by decide +kernel
theorem d_Mo_added_257 : decode b_Mo_added 257 = .ok (.aload_n 0, 1) := by decide +kernel
theorem d_Mo_added_258 : decode b_Mo_added 258 = .ok (.getfield 59, 3) := by decide +kernel
theorem d_Mo_added_261 : decode b_Mo_added 261 = .ok (.iload 9, 2) := by decide +kernel
theorem d_Mo_added_263 : decode b_Mo_added 263 = .ok (.iload 8, 2) := by decide +kernel
theorem d_Mo_added_265 : decode b_Mo_added 265 = .ok (.iastore, 1) := by decide +kernel
theorem d_Mo_added_266 : decode b_Mo_added 266 = .ok (.aload_n 0, 1) := by decide +kernel
theorem d_Mo_added_267 : decode b_Mo_added 267 = .ok (.dup, 1) := by decide +kernel
theorem d_Mo_added_268 : decode b_Mo_added 268 = .ok (.getfield 182, 3) := by decide +kernel
theorem d_Mo_added_271 : decode b_Mo_added 271 = .ok (.iconst 1, 1) := by decide +kernel
theorem d_Mo_added_272 : decode b_Mo_added 272 = .ok (.iadd, 1) := by decide +kernel
theorem d_Mo_added_273 : decode b_Mo_added 273 = .ok (.putfield 182, 3) := by decide +kernel
theorem d_Mo_added_276 : decode b_Mo_added 276 = .ok (.aload_n 0, 1) := by decide +kernel
theorem d_Mo_added_277 : decode b_Mo_added 277 = .ok (.getfield 62, 3) := by decide +kernel
theorem d_Mo_added_280 : decode b_Mo_added 280 = .ok (.iload 9, 2) := by decide +kernel
theorem d_Mo_added_282 : decode b_Mo_added 282 = .ok (.aload_n 0, 1) := by decide +kernel
theorem d_Mo_added_283 : decode b_Mo_added 283 = .ok (.getfield 182, 3) := by decide +kernel
theorem d_Mo_added_286 : decode b_Mo_added 286 = .ok (.iastore, 1) := by decide +kernel
theorem d_Mo_added_287 : decode b_Mo_added 287 = .ok (.iconst 0, 1) := by decide +kernel
theorem d_Mo_added_288 : decode b_Mo_added 288 = .ok (.istore 10, 2) := by decide +kernel
theorem d_Mo_added_290 : decode b_Mo_added 290 = .ok (.iload 10, 2) := by decide +kernel
theorem d_Mo_added_292 : decode b_Mo_added 292 = .ok (.iload 8, 2) := by decide +kernel
theorem d_Mo_added_294 : decode b_Mo_added 294 = .ok (.if_icmp .ge 39, 3) := by decide +kernel
theorem d_Mo_added_297 : decode b_Mo_added 297 = .ok (.aload_n 0, 1) := by decide +kernel
theorem d_Mo_added_298 : decode b_Mo_added 298 = .ok (.getfield 69, 3) := by decide +kernel
theorem d_Mo_added_301 : decode b_Mo_added 301 = .ok (.aload_n 0, 1) := by decide +kernel
theorem d_Mo_added_302 : decode b_Mo_added 302 = .ok (.getfield 65, 3) := by decide +kernel
theorem d_Mo_added_305 : decode b_Mo_added 305 = .ok (.iconst 0, 1) := by decide +kernel
theorem d_Mo_added_306 : decode b_Mo_added 306 = .ok (.iaload, 1) := by decide +kernel
theorem d_Mo_added_307 : decode b_Mo_added 307 = .ok (.aload_n 0, 1) := by decide +kernel
theorem d_Mo_added_308 : decode b_Mo_added 308 = .ok (.getfield 28, 3) := by decide +kernel
theorem d_Mo_added_311 : decode b_Mo_added 311 = .ok (.iload_n 2, 1) := by decide +kernel
theorem d_Mo_added_312 : decode b_Mo_added 312 = .ok (.iload 10, 2) := by decide +kernel
theorem d_Mo_added_314 : decode b_Mo_added 314 = .ok (.iadd, 1) := by decide +kernel
theorem d_Mo_added_315 : decode b_Mo_added 315 = .ok (.baload, 1) := by decide +kernel
theorem d_Mo_added_316 : decode b_Mo_added 316 = .ok (.bastore, 1) := by decide +kernel
theorem d_Mo_added_317 : decode b_Mo_added 317 = .ok (.aload_n 0, 1) := by decide +kernel
theorem d_Mo_added_318 : decode b_Mo_added 318 = .ok (.getfield 65, 3) := by decide +kernel
theorem d_Mo_added_321 : decode b_Mo_added 321 = .ok (.iconst 0, 1) := by decide +kernel
theorem d_Mo_added_322 : decode b_Mo_added 322 = .ok (.dup2, 1) := by decide +kernel
theorem d_Mo_added_323 : decode b_Mo_added 323 = .ok (.iaload, 1) := by decide +kernel
theorem d_Mo_added_324 : decode b_Mo_added 324 = .ok (.iconst 1, 1) := by decide +kernel
theorem d_Mo_added_325 : decode b_Mo_added 325 = .ok (.iadd, 1) := by decide +kernel
theorem d_Mo_added_326 : decode b_Mo_added 326 = .ok (.iastore, 1) := by decide +kernel
theorem d_Mo_added_327 : decode b_Mo_added 327 = .ok (.iinc 10 1, 3) := by decide +kernel
theorem d_Mo_added_330 : decode b_Mo_added 330 = .ok (.goto (-40), 3) := by decide +kernel
theorem d_Mo_added_333 : decode b_Mo_added 333 = .ok (.aload_n 0, 1) := by decide +kernel
theorem d_Mo_added_334 : decode b_Mo_added 334 = .ok (.getfield 31, 3) := by decide +kernel
theorem d_Mo_added_337 : decode b_Mo_added 337 = .ok (.iconst 0, 1) := by decide +kernel
theorem d_Mo_added_338 : decode b_Mo_added 338 = .ok (.iaload, 1) := by decide +kernel
theorem d_Mo_added_339 : decode b_Mo_added 339 = .ok (.ireturn, 1) := by decide +kernel
theorem d_Mo_add_0 : decode b_Mo_add 0 = .ok (.aload_n 0, 1) := by decide +kernel
theorem d_Mo_add_1 : decode b_Mo_add 1 = .ok (.iload_n 1, 1) := by decide +kernel
theorem d_Mo_add_2 : decode b_Mo_add 2 = .ok (.iload_n 2, 1) := by decide +kernel
theorem d_Mo_add_3 : decode b_Mo_add 3 = .ok (.iload_n 3, 1) := by decide +kernel
theorem d_Mo_add_4 : decode b_Mo_add 4 = .ok (.iload 4, 2) := by decide +kernel
theorem d_Mo_add_6 : decode b_Mo_add 6 = .ok (.iload 5, 2) := by decide +kernel
theorem d_Mo_add_8 : decode b_Mo_add 8 = .ok (.iload 6, 2) := by decide +kernel
theorem d_Mo_add_10 : decode b_Mo_add 10 = .ok (.invokevirtual 185, 3) := by decide +kernel
theorem d_Mo_add_13 : decode b_Mo_add 13 = .ok (.istore 7, 2) := by decide +kernel
theorem d_Mo_add_15 : decode b_Mo_add 15 = .ok (.aload_n 0, 1) := by decide +kernel
theorem d_Mo_add_16 : decode b_Mo_add 16 = .ok (.iconst 0, 1) := by decide +kernel
theorem d_Mo_add_17 : decode b_Mo_add 17 = .ok (.putfield 132, 3) := by decide +kernel
theorem d_Mo_add_20 : decode b_Mo_add 20 = .ok (.iload 7, 2) := by decide +kernel
theorem d_Mo_add_22 : decode b_Mo_add 22 = .ok (.ireturn, 1) := by decide +kernel
theorem d_Mo_copyAttributes_0 : decode b_Mo_copyAttributes 0 = .ok (.aload_n 0, 1) := by decide +kernel
theorem d_Mo_copyAttributes_1 : decode b_Mo_copyAttributes 1 = .ok (.getfield 41, 3) := by decide +kernel
theorem d_Mo_copyAttributes_4 : decode b_Mo_copyAttributes 4 = .ok (.iload_n 1, 1) := by decide +kernel
theorem d_Mo_copyAttributes_5 : decode b_Mo_copyAttributes 5 = .ok (.aload_n 0, 1) := by decide +kernel
theorem d_Mo_copyAttributes_6 : decode b_Mo_copyAttributes 6 = .ok (.getfield 41, 3) := by decide +kernel
theorem d_Mo_copyAttributes_9 : decode b_Mo_copyAttributes 9 = .ok (.iload_n 2, 1) := by decide +kernel
theorem d_Mo_copyAttributes_10 : decode b_Mo_copyAttributes 10 = .ok (.iaload, 1) := by decide +kernel
theorem d_Mo_copyAttributes_11 : decode b_Mo_copyAttributes 11 = .ok (.iastore, 1) := by decide +kernel
theorem d_Mo_copyAttributes_12 : decode b_Mo_copyAttributes 12 = .ok (.aload_n 0, 1) := by decide +kernel
theorem d_Mo_copyAttributes_13 : decode b_Mo_copyAttributes 13 = .ok (.getfield 44, 3) := by decide +kernel
theorem d_Mo_copyAttributes_16 : decode b_Mo_copyAttributes 16 = .ok (.iload_n 1, 1) := by decide +kernel
theorem d_Mo_copyAttributes_17 : decode b_Mo_copyAttributes 17 = .ok (.aload_n 0, 1) := by decide +kernel
theorem d_Mo_copyAttributes_18 : decode b_Mo_copyAttributes 18 = .ok (.getfield 44, 3) := by decide +kernel
theorem d_Mo_copyAttributes_21 : decode b_Mo_copyAttributes 21 = .ok (.iload_n 2, 1) := by decide +kernel
theorem d_Mo_copyAttributes_22 : decode b_Mo_copyAttributes 22 = .ok (.iaload, 1) := by decide +kernel
theorem d_Mo_copyAttributes_23 : decode b_Mo_copyAttributes 23 = .ok (.iastore, 1) := by decide +kernel
theorem d_Mo_copyAttributes_24 : decode b_Mo_copyAttributes 24 = .ok (.aload_n 0, 1) := by decide +kernel
theorem d_Mo_copyAttributes_25 : decode b_Mo_copyAttributes 25 = .ok (.getfield 47, 3) := by decide +kernel
theorem d_Mo_copyAttributes_28 : decode b_Mo_copyAttributes 28 = .ok (.iload_n 1, 1) := by decide +kernel
theorem d_Mo_copyAttributes_29 : decode b_Mo_copyAttributes 29 = .ok (.aload_n 0, 1) := by decide +kernel
theorem d_Mo_copyAttributes_30 : decode b_Mo_copyAttributes 30 = .ok (.getfield 47, 3) := by decide +kernel
theorem d_Mo_copyAttributes_33 : decode b_Mo_copyAttributes 33 = .ok (.iload_n 2, 1) := by decide +kernel
theorem d_Mo_copyAttributes_34 : decode b_Mo_copyAttributes 34 = .ok (.iaload, 1) := by decide +kernel
theorem d_Mo_copyAttributes_35 : decode b_Mo_copyAttributes 35 = .ok (.iastore, 1) := by decide +kernel
theorem d_Mo_copyAttributes_36 : decode b_Mo_copyAttributes 36 = .ok (.aload_n 0, 1) := by decide +kernel
theorem d_Mo_copyAttributes_37 : decode b_Mo_copyAttributes 37 = .ok (.getfield 50, 3) := by decide +kernel
theorem d_Mo_copyAttributes_40 : decode b_Mo_copyAttributes 40 = .ok (.iload_n 1, 1) := by decide +kernel
theorem d_Mo_copyAttributes_41 : decode b_Mo_copyAttributes 41 = .ok (.aload_n 0, 1) := by decide +kernel
theorem d_Mo_copyAttributes_42 : decode b_Mo_copyAttributes 42 = .ok (.getfield 50, 3) := by decide +kernel
theorem d_Mo_copyAttributes_45 : decode b_Mo_copyAttributes 45 = .ok (.iload_n 2, 1) := by decide +kernel
theorem d_Mo_copyAttributes_46 : decode b_Mo_copyAttributes 46 = .ok (.iaload, 1) := by decide +kernel
theorem d_Mo_copyAttributes_47 : decode b_Mo_copyAttributes 47 = .ok (.iastore, 1) := by decide +kernel
theorem d_Mo_copyAttributes_48 : decode b_Mo_copyAttributes 48 = .ok (.aload_n 0, 1) := by decide +kernel
theorem d_Mo_copyAttributes_49 : decode b_Mo_copyAttributes 49 = .ok (.getfield 53, 3) := by decide +kernel
theorem d_Mo_copyAttributes_52 : decode b_Mo_copyAttributes 52 = .ok (.iload_n 1, 1) := by decide +kernel
theorem d_Mo_copyAttributes_53 : decode b_Mo_copyAttributes 53 = .ok (.aload_n 0, 1) := by decide +kernel
theorem d_Mo_copyAttributes_54 : decode b_Mo_copyAttributes 54 = .ok (.getfield 53, 3) := by decide +kernel
theorem d_Mo_copyAttributes_57 : decode b_Mo_copyAttributes 57 = .ok (.iload_n 2, 1) := by decide +kernel
theorem d_Mo_copyAttributes_58 : decode b_Mo_copyAttributes 58 = .ok (.iaload, 1) := by decide +kernel
theorem d_Mo_copyAttributes_59 : decode b_Mo_copyAttributes 59 = .ok (.iastore, 1) := by decide +kernel
theorem d_Mo_copyAttributes_60 : decode b_Mo_copyAttributes 60 = .ok (.aload_n 0, 1) := by decide +kernel
theorem d_Mo_copyAttributes_61 : decode b_Mo_copyAttributes 61 = .ok (.getfield 56, 3) := by decide +kernel
theorem d_Mo_copyAttributes_64 : decode b_Mo_copyAttributes 64 = .ok (.iload_n 1, 1) := by decide +kernel
theorem d_Mo_copyAttributes_65 : decode b_Mo_copyAttributes 65 = .ok (.aload_n 0, 1) := by decide +kernel
theorem d_Mo_copyAttributes_66 : decode b_Mo_copyAttributes 66 = .ok (.getfield 56, 3) := by decide +kernel
theorem d_Mo_copyAttributes_69 : decode b_Mo_copyAttributes 69 = .ok (.iload_n 2, 1) := by decide +kernel
theorem d_Mo_copyAttributes_70 : decode b_Mo_copyAttributes 70 = .ok (.iaload, 1) := by decide +kernel
theorem d_Mo_copyAttributes_71 : decode b_Mo_copyAttributes 71 = .ok (.iastore, 1) := by decide +kernel
theorem d_Mo_copyAttributes_72 : decode b_Mo_copyAttributes 72 = .ok (.aload_n 0, 1) := by decide +kernel
theorem d_Mo_copyAttributes_73 : decode b_Mo_copyAttributes 73 = .ok (.getfield 59, 3) := by decide +kernel
theorem d_Mo_copyAttributes_76 : decode b_Mo_copyAttributes 76 = .ok (.iload_n 1, 1) := by decide +kernel
theorem d_Mo_copyAttributes_77 : decode b_Mo_copyAttributes 77 = .ok (.aload_n 0, 1) := by decide +kernel
theorem d_Mo_copyAttributes_78 : decode b_Mo_copyAttributes 78 = .ok (.getfield 59, 3) := by decide +kernel
theorem d_Mo_copyAttributes_81 : decode b_Mo_copyAttributes 81 = .ok (.iload_n 2, 1) := by decide +kernel
theorem d_Mo_copyAttributes_82 : decode b_Mo_copyAttributes 82 = .ok (.iaload, 1) := by decide +kernel
theorem d_Mo_copyAttributes_83 : decode b_Mo_copyAttributes 83 = .ok (.iastore, 1) := by decide +kernel
theorem d_Mo_copyAttributes_84 : decode b_Mo_copyAttributes 84 = .ok (.aload_n 0, 1) := by decide +kernel
theorem d_Mo_copyAttributes_85 : decode b_Mo_copyAttributes 85 = .ok (.getfield 62, 3) := by decide +kernel
theorem d_Mo_copyAttributes_88 : decode b_Mo_copyAttributes 88 = .ok (.iload_n 1, 1) := by decide +kernel
theorem d_Mo_copyAttributes_89 : decode b_Mo_copyAttributes 89 = .ok (.aload_n 0, 1) := by decide +kernel
theorem d_Mo_copyAttributes_90 : decode b_Mo_copyAttributes 90 = .ok (.getfield 62, 3) := by decide +kernel
theorem d_Mo_copyAttributes_93 : decode b_Mo_copyAttributes 93 = .ok (.iload_n 2, 1) := by decide +kernel
theorem d_Mo_copyAttributes_94 : decode b_Mo_copyAttributes 94 = .ok (.iaload, 1) := by decide +kernel
theorem d_Mo_copyAttributes_95 : decode b_Mo_copyAttributes 95 = .ok (.iastore, 1) := by decide +kernel
theorem d_Mo_copyAttributes_96 : decode b_Mo_copyAttributes 96 = .ok (.return_, 1) := by decide +kernel
set_option maxRecDepth 100000 in
set_option maxHeartbeats 4000000 in
theorem Met_Mo_thrown (l : Launch) (B : Nat) (D : va_G) (aC : Nat → ClassId) (aS : Nat → Nat) {a0 : Nat} {M : zM} {post : Int32 → zM → Prop} (hk0 : a0 < N0) (ht0 : tg a0 = 9) (h : Wp_Mo_thrown a0 M post) : Met l y_Mo_thrown (wo y_Mo_thrown b_Mo_thrown 1 (some FieldType.int)) { frames := 0, cells := 0, slots := 0, locals := 0 } (va_Pc [.ref (B + a0)] (zWl B D aC aS M)) (zQi B D aC post) 0 0 (zAb B) := by
  refine z_met (own := "MailChainModel") (lv0 := [(0, .ref (B + a0))]) (by decide) rfl (Nat.le_of_ble_eq_true rfl) rfl ?_
  intro p e s m below meth c fx hr hlo
  delta Wp_Mo_thrown at h
  refine a_aload_n fx 0 d_Mo_thrown_0 rfl rfl ?_
  refine a_getI fx (T := F_Mo) (j := 6) (hk := hk0) (ht := ht0) (ht2 := by decide) (hc := rfl) (hin := u_in_Mo) (hj := by decide) (hj2 := by decide) (hf := rfl) (hT := rfl) (hw := w_1275) (hd := d_Mo_thrown_1) (kk := ?_)
  exact a_iret fx hlo hr h d_Mo_thrown_4
set_option maxRecDepth 100000 in
set_option maxHeartbeats 4000000 in
theorem Met_Mo_type (l : Launch) (B : Nat) (D : va_G) (aC : Nat → ClassId) (aS : Nat → Nat) {a0 : Nat} {l1 : Int64} {i3 : Int32} {M : zM} {post : Int32 → zM → Prop} (hk0 : a0 < N0) (ht0 : tg a0 = 9) (h : Wp_Mo_type a0 l1 i3 M post) : Met l y_Mo_type (wo y_Mo_type b_Mo_type 5 (some FieldType.int)) { frames := 0, cells := 0, slots := 0, locals := 0 } (va_Pc [.ref (B + a0), .long l1, .int i3] (zWl B D aC aS M)) (zQi B D aC post) 0 0 (zAb B) := by
  refine z_met (own := "MailChainModel") (lv0 := [(0, .ref (B + a0)), (1, .long l1), (3, .int i3)]) (by decide) rfl (Nat.le_of_ble_eq_true rfl) rfl ?_
  intro p e s m below meth c fx hr hlo
  delta Wp_Mo_type at h
  have h := h (fun v4 M => zAt p l e { frames := 0, cells := 0, slots := 0, locals := 0 } s m ([.ref (B + a0), .long l1, .int i3] : List Value).toArray below meth c 0 0 (MQ below (zQi B D aC post) ([.ref (B + a0), .long l1, .int i3] : List Value).toArray s 0 0 (zAb B)) B D aC 5 39 [(0, .ref (B + a0)), (1, .long l1), (3, .int i3), (4, .int v4)] [] M)
  have h := h (fun M => zAt p l e { frames := 0, cells := 0, slots := 0, locals := 0 } s m ([.ref (B + a0), .long l1, .int i3] : List Value).toArray below meth c 0 0 (MQ below (zQi B D aC post) ([.ref (B + a0), .long l1, .int i3] : List Value).toArray s 0 0 (zAb B)) B D aC 5 86 [(0, .ref (B + a0)), (1, .long l1), (3, .int i3)] [] M)
  have h := h (by
    intro v4 M h
    refine a_iload fx 3 d_Mo_type_39 rfl ?_
    refine a_iload_n fx 2 d_Mo_type_41 rfl rfl ?_
    refine a_icmp_ge fx 86 d_Mo_type_42 rfl (fun hc => ?_) (fun hc => ?_)
    · have h := h.1 hc
      refine a_sub [0, 1, 2] rfl ?_
      exact h
    · have h := h.2 hc
      refine a_aload_n fx 0 d_Mo_type_45 rfl rfl ?_
      refine a_getI fx (T := F_Mo) (j := 6) (hk := hk0) (ht := ht0) (ht2 := by decide) (hc := rfl) (hin := u_in_Mo) (hj := by decide) (hj2 := by decide) (hf := rfl) (hT := rfl) (hw := w_1275) (hd := d_Mo_type_46) (kk := ?_)
      refine a_if_ne fx 86 d_Mo_type_49 rfl (fun hc => ?_) (fun hc => ?_)
      · have h := h.1 hc
        refine a_sub [0, 1, 2] rfl ?_
        exact h
      · have h := h.2 hc
        refine a_aload_n fx 0 d_Mo_type_52 rfl rfl ?_
        refine a_getS fx (T := F_Mo) (j := 8) (hk := hk0) (ht := ht0) (ht2 := by decide) (hc := rfl) (hin := u_in_Mo) (hj := by decide) (hj2 := by decide) (hf := rfl) (n9 := 7) (hfo := rfl) (hT := rfl) (hw := w_1277) (hd := d_Mo_type_53) (kk := ?_)
        refine a_aload_n fx 0 d_Mo_type_56 rfl rfl ?_
        refine a_getI fx (T := F_Mo) (j := 7) (hk := hk0) (ht := ht0) (ht2 := by decide) (hc := rfl) (hin := u_in_Mo) (hj := by decide) (hj2 := by decide) (hf := rfl) (hT := rfl) (hw := w_1276) (hd := d_Mo_type_57) (kk := ?_)
        refine a_lload_n fx 1 d_Mo_type_60 rfl rfl ?_
        refine a_bipush (v := 8) fx d_Mo_type_61 rfl ?_
        refine a_iload fx 3 d_Mo_type_63 rfl ?_
        refine a_imul fx d_Mo_type_65 ?_
        refine a_lshr fx d_Mo_type_66 ?_
        refine a_l2i fx d_Mo_type_67 ?_
        refine a_i2b fx d_Mo_type_68 ?_
        obtain ⟨hin, h⟩ := h
        refine a_bast fx (lo_9_8 hk0 ht0).1 (lo_9_8 hk0 ht0).2 hin d_Mo_type_69 (a_mem (fun M5 eM5 => ?_))
        have h := h M5 eM5
        refine a_aload_n fx 0 d_Mo_type_70 rfl rfl ?_
        refine a_dup fx d_Mo_type_71 rfl ?_
        refine a_getI fx (T := F_Mo) (j := 7) (hk := hk0) (ht := ht0) (ht2 := by decide) (hc := rfl) (hin := u_in_Mo) (hj := by decide) (hj2 := by decide) (hf := rfl) (hT := rfl) (hw := w_1276) (hd := d_Mo_type_72) (kk := ?_)
        refine a_iconst (v := 1) fx d_Mo_type_75 rfl ?_
        refine a_iadd fx d_Mo_type_76 ?_
        refine a_putI fx (T := F_Mo) (ty0 := t_Mo) (j := 7) (hk := hk0) (ht := ht0) (ht2 := by decide) (hc := rfl) (hin := u_in_Mo) (hty := t_Mo_ok) (hnm := n_Mo) (hj := by decide) (hj2 := by decide) (hf := rfl) (hT := rfl) (hfin := rfl) (hn := rfl) (hfit := rfl) (hw := w_1276) (hd := d_Mo_type_77) (kk := a_mem (fun M6 eM6 => ?_))
        have h := h M6 eM6
        obtain ⟨x7, ex7⟩ : ∃ z : Int32, z = v4 + 1 := ⟨_, rfl⟩
        have h := h x7 ex7
        refine a_iinc (lv2 := [(4, .int x7), (0, .ref (B + a0)), (1, .long l1), (3, .int i3)]) fx 3 d_Mo_type_80 rfl ex7.symm (by decide) rfl ?_
        refine a_goto fx 39 d_Mo_type_83 rfl ?_
        refine a_sub [1, 2, 3, 0] rfl ?_
        exact h)
  have h := h (by
    intro M h
    refine a_aload_n fx 0 d_Mo_type_86 rfl rfl ?_
    refine a_getI fx (T := F_Mo) (j := 6) (hk := hk0) (ht := ht0) (ht2 := by decide) (hc := rfl) (hin := u_in_Mo) (hj := by decide) (hj2 := by decide) (hf := rfl) (hT := rfl) (hw := w_1275) (hd := d_Mo_type_87) (kk := ?_)
    refine a_if_le fx 97 d_Mo_type_90 rfl (fun hc => ?_) (fun hc => ?_)
    · have h := h.1 hc
      refine a_aload_n fx 0 d_Mo_type_97 rfl rfl ?_
      refine a_getI fx (T := F_Mo) (j := 7) (hk := hk0) (ht := ht0) (ht2 := by decide) (hc := rfl) (hin := u_in_Mo) (hj := by decide) (hj2 := by decide) (hf := rfl) (hT := rfl) (hw := w_1276) (hd := d_Mo_type_98) (kk := ?_)
      exact a_iret fx hlo hr h d_Mo_type_101
    · have h := h.2 hc
      refine a_iconst (v := 0) fx d_Mo_type_93 rfl ?_
      refine a_goto fx 101 d_Mo_type_94 rfl ?_
      exact a_iret fx hlo hr h d_Mo_type_101)
  refine a_aload_n fx 0 d_Mo_type_0 rfl rfl ?_
  refine a_iload_n fx 2 d_Mo_type_1 rfl rfl ?_
  refine a_iconst (v := 1) fx d_Mo_type_2 rfl ?_
  refine a_icmp_lt fx 12 d_Mo_type_3 rfl (fun hc => ?_) (fun hc => ?_)
  · have h := h.1 hc
    refine a_iconst (v := 1) fx d_Mo_type_12 rfl ?_
    refine a_goto fx 33 d_Mo_type_13 rfl ?_
    refine a_putI fx (T := F_Mo) (ty0 := t_Mo) (j := 6) (hk := hk0) (ht := ht0) (ht2 := by decide) (hc := rfl) (hin := u_in_Mo) (hty := t_Mo_ok) (hnm := n_Mo) (hj := by decide) (hj2 := by decide) (hf := rfl) (hT := rfl) (hfin := rfl) (hn := rfl) (hfit := rfl) (hw := w_1275) (hd := d_Mo_type_33) (kk := a_mem (fun M1 eM1 => ?_))
    have h := h M1 eM1
    refine a_iconst (v := 0) fx d_Mo_type_36 rfl ?_
    refine a_istore (lv2 := [(4, .int 0), (0, .ref (B + a0)), (1, .long l1), (3, .int i3)]) fx d_Mo_type_37 (by decide) rfl ?_
    refine a_sub [1, 2, 3, 0] rfl ?_
    exact h
  · have h := h.2 hc
    refine a_iload_n fx 2 d_Mo_type_6 rfl rfl ?_
    refine a_bipush (v := 8) fx d_Mo_type_7 rfl ?_
    refine a_icmp_le fx 16 d_Mo_type_9 rfl (fun hc => ?_) (fun hc => ?_)
    · have h := h.1 hc
      refine a_aload_n fx 0 d_Mo_type_16 rfl rfl ?_
      refine a_getI fx (T := F_Mo) (j := 7) (hk := hk0) (ht := ht0) (ht2 := by decide) (hc := rfl) (hin := u_in_Mo) (hj := by decide) (hj2 := by decide) (hf := rfl) (hT := rfl) (hw := w_1276) (hd := d_Mo_type_17) (kk := ?_)
      refine a_iload_n fx 2 d_Mo_type_20 rfl rfl ?_
      refine a_iadd fx d_Mo_type_21 ?_
      refine a_sipush (v := 8000) fx d_Mo_type_22 rfl ?_
      refine a_icmp_le fx 32 d_Mo_type_25 rfl (fun hc => ?_) (fun hc => ?_)
      · have h := h.1 hc
        refine a_iconst (v := 0) fx d_Mo_type_32 rfl ?_
        refine a_putI fx (T := F_Mo) (ty0 := t_Mo) (j := 6) (hk := hk0) (ht := ht0) (ht2 := by decide) (hc := rfl) (hin := u_in_Mo) (hty := t_Mo_ok) (hnm := n_Mo) (hj := by decide) (hj2 := by decide) (hf := rfl) (hT := rfl) (hfin := rfl) (hn := rfl) (hfit := rfl) (hw := w_1275) (hd := d_Mo_type_33) (kk := a_mem (fun M2 eM2 => ?_))
        have h := h M2 eM2
        refine a_iconst (v := 0) fx d_Mo_type_36 rfl ?_
        refine a_istore (lv2 := [(4, .int 0), (0, .ref (B + a0)), (1, .long l1), (3, .int i3)]) fx d_Mo_type_37 (by decide) rfl ?_
        refine a_sub [1, 2, 3, 0] rfl ?_
        exact h
      · have h := h.2 hc
        refine a_iconst (v := 2) fx d_Mo_type_28 rfl ?_
        refine a_goto fx 33 d_Mo_type_29 rfl ?_
        refine a_putI fx (T := F_Mo) (ty0 := t_Mo) (j := 6) (hk := hk0) (ht := ht0) (ht2 := by decide) (hc := rfl) (hin := u_in_Mo) (hty := t_Mo_ok) (hnm := n_Mo) (hj := by decide) (hj2 := by decide) (hf := rfl) (hT := rfl) (hfin := rfl) (hn := rfl) (hfit := rfl) (hw := w_1275) (hd := d_Mo_type_33) (kk := a_mem (fun M3 eM3 => ?_))
        have h := h M3 eM3
        refine a_iconst (v := 0) fx d_Mo_type_36 rfl ?_
        refine a_istore (lv2 := [(4, .int 0), (0, .ref (B + a0)), (1, .long l1), (3, .int i3)]) fx d_Mo_type_37 (by decide) rfl ?_
        refine a_sub [1, 2, 3, 0] rfl ?_
        exact h
    · have h := h.2 hc
      refine a_iconst (v := 1) fx d_Mo_type_12 rfl ?_
      refine a_goto fx 33 d_Mo_type_13 rfl ?_
      refine a_putI fx (T := F_Mo) (ty0 := t_Mo) (j := 6) (hk := hk0) (ht := ht0) (ht2 := by decide) (hc := rfl) (hin := u_in_Mo) (hty := t_Mo_ok) (hnm := n_Mo) (hj := by decide) (hj2 := by decide) (hf := rfl) (hT := rfl) (hfin := rfl) (hn := rfl) (hfit := rfl) (hw := w_1275) (hd := d_Mo_type_33) (kk := a_mem (fun M4 eM4 => ?_))
      have h := h M4 eM4
      refine a_iconst (v := 0) fx d_Mo_type_36 rfl ?_
      refine a_istore (lv2 := [(4, .int 0), (0, .ref (B + a0)), (1, .long l1), (3, .int i3)]) fx d_Mo_type_37 (by decide) rfl ?_
      refine a_sub [1, 2, 3, 0] rfl ?_
      exact h
set_option maxRecDepth 100000 in
set_option maxHeartbeats 4000000 in
theorem Met_Mo_again (l : Launch) (B : Nat) (D : va_G) (aC : Nat → ClassId) (aS : Nat → Nat) {a0 : Nat} {i1 : Int32} {M : zM} {post : Int32 → zM → Prop} (hk0 : a0 < N0) (ht0 : tg a0 = 9) (h : Wp_Mo_again a0 i1 M post) : Met l y_Mo_again (wo y_Mo_again b_Mo_again 4 (some FieldType.int)) { frames := 0, cells := 0, slots := 0, locals := 0 } (va_Pc [.ref (B + a0), .int i1] (zWl B D aC aS M)) (zQi B D aC post) 0 0 (zAb B) := by
  refine z_met (own := "MailChainModel") (lv0 := [(0, .ref (B + a0)), (1, .int i1)]) (by decide) rfl (Nat.le_of_ble_eq_true rfl) rfl ?_
  intro p e s m below meth c fx hr hlo
  delta Wp_Mo_again at h
  have h := h (fun w0 w1 M => zAt p l e { frames := 0, cells := 0, slots := 0, locals := 0 } s m ([.ref (B + a0), .int i1] : List Value).toArray below meth c 0 0 (MQ below (zQi B D aC post) ([.ref (B + a0), .int i1] : List Value).toArray s 0 0 (zAb B)) B D aC 4 34 [(0, .ref (B + a0)), (1, .int i1)] [.int w0, .ref (B + w1)] M)
  have h := h (fun v2 v3 M => zAt p l e { frames := 0, cells := 0, slots := 0, locals := 0 } s m ([.ref (B + a0), .int i1] : List Value).toArray below meth c 0 0 (MQ below (zQi B D aC post) ([.ref (B + a0), .int i1] : List Value).toArray s 0 0 (zAb B)) B D aC 4 46 [(0, .ref (B + a0)), (1, .int i1), (2, .int v2), (3, .int v3)] [] M)
  have h := h (fun M => zAt p l e { frames := 0, cells := 0, slots := 0, locals := 0 } s m ([.ref (B + a0), .int i1] : List Value).toArray below meth c 0 0 (MQ below (zQi B D aC post) ([.ref (B + a0), .int i1] : List Value).toArray s 0 0 (zAb B)) B D aC 4 91 [(0, .ref (B + a0)), (1, .int i1)] [] M)
  have h := h (by
    intro w0 w1 M h
    obtain ⟨hk_w1, ht_w1, h⟩ := h
    refine a_putI fx (T := F_Mo) (ty0 := t_Mo) (j := 6) (hk := hk_w1) (ht := ht_w1) (ht2 := by decide) (hc := rfl) (hin := u_in_Mo) (hty := t_Mo_ok) (hnm := n_Mo) (hj := by decide) (hj2 := by decide) (hf := rfl) (hT := rfl) (hfin := rfl) (hn := rfl) (hfit := rfl) (hw := w_1275) (hd := d_Mo_again_34) (kk := a_mem (fun M1 eM1 => ?_))
    have h := h M1 eM1
    refine a_aload_n fx 0 d_Mo_again_37 rfl rfl ?_
    refine a_getI fx (T := F_Mo) (j := 7) (hk := hk0) (ht := ht0) (ht2 := by decide) (hc := rfl) (hin := u_in_Mo) (hj := by decide) (hj2 := by decide) (hf := rfl) (hT := rfl) (hw := w_1276) (hd := d_Mo_again_38) (kk := ?_)
    refine a_iload_n fx 1 d_Mo_again_41 rfl rfl ?_
    refine a_isub fx d_Mo_again_42 ?_
    refine a_topi (fun x2 ex2 => ?_)
    have h := h x2 ex2
    refine a_istore_n (lv2 := [(2, .int x2), (0, .ref (B + a0)), (1, .int i1)]) fx d_Mo_again_43 rfl (by decide) rfl ?_
    refine a_iconst (v := 0) fx d_Mo_again_44 rfl ?_
    refine a_istore_n (lv2 := [(3, .int 0), (2, .int x2), (0, .ref (B + a0)), (1, .int i1)]) fx d_Mo_again_45 rfl (by decide) rfl ?_
    refine a_sub [2, 3, 1, 0] rfl ?_
    exact h)
  have h := h (by
    intro v2 v3 M h
    refine a_iload_n fx 3 d_Mo_again_46 rfl rfl ?_
    refine a_iload_n fx 1 d_Mo_again_47 rfl rfl ?_
    refine a_icmp_ge fx 91 d_Mo_again_48 rfl (fun hc => ?_) (fun hc => ?_)
    · have h := h.1 hc
      refine a_sub [0, 1] rfl ?_
      exact h
    · have h := h.2 hc
      refine a_aload_n fx 0 d_Mo_again_51 rfl rfl ?_
      refine a_getI fx (T := F_Mo) (j := 6) (hk := hk0) (ht := ht0) (ht2 := by decide) (hc := rfl) (hin := u_in_Mo) (hj := by decide) (hj2 := by decide) (hf := rfl) (hT := rfl) (hw := w_1275) (hd := d_Mo_again_52) (kk := ?_)
      refine a_if_ne fx 91 d_Mo_again_55 rfl (fun hc => ?_) (fun hc => ?_)
      · have h := h.1 hc
        refine a_sub [0, 1] rfl ?_
        exact h
      · have h := h.2 hc
        refine a_aload_n fx 0 d_Mo_again_58 rfl rfl ?_
        refine a_getS fx (T := F_Mo) (j := 8) (hk := hk0) (ht := ht0) (ht2 := by decide) (hc := rfl) (hin := u_in_Mo) (hj := by decide) (hj2 := by decide) (hf := rfl) (n9 := 7) (hfo := rfl) (hT := rfl) (hw := w_1277) (hd := d_Mo_again_59) (kk := ?_)
        refine a_aload_n fx 0 d_Mo_again_62 rfl rfl ?_
        refine a_getI fx (T := F_Mo) (j := 7) (hk := hk0) (ht := ht0) (ht2 := by decide) (hc := rfl) (hin := u_in_Mo) (hj := by decide) (hj2 := by decide) (hf := rfl) (hT := rfl) (hw := w_1276) (hd := d_Mo_again_63) (kk := ?_)
        refine a_aload_n fx 0 d_Mo_again_66 rfl rfl ?_
        refine a_getS fx (T := F_Mo) (j := 8) (hk := hk0) (ht := ht0) (ht2 := by decide) (hc := rfl) (hin := u_in_Mo) (hj := by decide) (hj2 := by decide) (hf := rfl) (n9 := 7) (hfo := rfl) (hT := rfl) (hw := w_1277) (hd := d_Mo_again_67) (kk := ?_)
        refine a_iload_n fx 2 d_Mo_again_70 rfl rfl ?_
        refine a_iload_n fx 3 d_Mo_again_71 rfl rfl ?_
        refine a_iadd fx d_Mo_again_72 ?_
        obtain ⟨hin, h⟩ := h
        refine a_bald fx (lo_9_8 hk0 ht0).1 (lo_9_8 hk0 ht0).2 hin d_Mo_again_73 ?_
        obtain ⟨hin, h⟩ := h
        refine a_bast fx (lo_9_8 hk0 ht0).1 (lo_9_8 hk0 ht0).2 hin d_Mo_again_74 (a_mem (fun M3 eM3 => ?_))
        have h := h M3 eM3
        refine a_aload_n fx 0 d_Mo_again_75 rfl rfl ?_
        refine a_dup fx d_Mo_again_76 rfl ?_
        refine a_getI fx (T := F_Mo) (j := 7) (hk := hk0) (ht := ht0) (ht2 := by decide) (hc := rfl) (hin := u_in_Mo) (hj := by decide) (hj2 := by decide) (hf := rfl) (hT := rfl) (hw := w_1276) (hd := d_Mo_again_77) (kk := ?_)
        refine a_iconst (v := 1) fx d_Mo_again_80 rfl ?_
        refine a_iadd fx d_Mo_again_81 ?_
        refine a_putI fx (T := F_Mo) (ty0 := t_Mo) (j := 7) (hk := hk0) (ht := ht0) (ht2 := by decide) (hc := rfl) (hin := u_in_Mo) (hty := t_Mo_ok) (hnm := n_Mo) (hj := by decide) (hj2 := by decide) (hf := rfl) (hT := rfl) (hfin := rfl) (hn := rfl) (hfit := rfl) (hw := w_1276) (hd := d_Mo_again_82) (kk := a_mem (fun M4 eM4 => ?_))
        have h := h M4 eM4
        obtain ⟨x5, ex5⟩ : ∃ z : Int32, z = v3 + 1 := ⟨_, rfl⟩
        have h := h x5 ex5
        refine a_iinc (lv2 := [(3, .int x5), (0, .ref (B + a0)), (1, .int i1), (2, .int v2)]) fx 3 d_Mo_again_85 rfl ex5.symm (by decide) rfl ?_
        refine a_goto fx 46 d_Mo_again_88 rfl ?_
        refine a_sub [1, 2, 3, 0] rfl ?_
        exact h)
  have h := h (by
    intro M h
    refine a_aload_n fx 0 d_Mo_again_91 rfl rfl ?_
    refine a_getI fx (T := F_Mo) (j := 6) (hk := hk0) (ht := ht0) (ht2 := by decide) (hc := rfl) (hin := u_in_Mo) (hj := by decide) (hj2 := by decide) (hf := rfl) (hT := rfl) (hw := w_1275) (hd := d_Mo_again_92) (kk := ?_)
    refine a_if_le fx 102 d_Mo_again_95 rfl (fun hc => ?_) (fun hc => ?_)
    · have h := h.1 hc
      refine a_aload_n fx 0 d_Mo_again_102 rfl rfl ?_
      refine a_getI fx (T := F_Mo) (j := 7) (hk := hk0) (ht := ht0) (ht2 := by decide) (hc := rfl) (hin := u_in_Mo) (hj := by decide) (hj2 := by decide) (hf := rfl) (hT := rfl) (hw := w_1276) (hd := d_Mo_again_103) (kk := ?_)
      exact a_iret fx hlo hr h d_Mo_again_106
    · have h := h.2 hc
      refine a_iconst (v := 0) fx d_Mo_again_98 rfl ?_
      refine a_goto fx 106 d_Mo_again_99 rfl ?_
      exact a_iret fx hlo hr h d_Mo_again_106)
  refine a_aload_n fx 0 d_Mo_again_0 rfl rfl ?_
  refine a_iload_n fx 1 d_Mo_again_1 rfl rfl ?_
  refine a_if_lt fx 13 d_Mo_again_2 rfl (fun hc => ?_) (fun hc => ?_)
  · have h := h.1 hc
    refine a_iconst (v := 1) fx d_Mo_again_13 rfl ?_
    refine a_goto fx 34 d_Mo_again_14 rfl ?_
    refine a_sub [0, 1] rfl ?_
    exact h
  · have h := h.2 hc
    refine a_iload_n fx 1 d_Mo_again_5 rfl rfl ?_
    refine a_aload_n fx 0 d_Mo_again_6 rfl rfl ?_
    refine a_getI fx (T := F_Mo) (j := 7) (hk := hk0) (ht := ht0) (ht2 := by decide) (hc := rfl) (hin := u_in_Mo) (hj := by decide) (hj2 := by decide) (hf := rfl) (hT := rfl) (hw := w_1276) (hd := d_Mo_again_7) (kk := ?_)
    refine a_icmp_le fx 17 d_Mo_again_10 rfl (fun hc => ?_) (fun hc => ?_)
    · have h := h.1 hc
      refine a_aload_n fx 0 d_Mo_again_17 rfl rfl ?_
      refine a_getI fx (T := F_Mo) (j := 7) (hk := hk0) (ht := ht0) (ht2 := by decide) (hc := rfl) (hin := u_in_Mo) (hj := by decide) (hj2 := by decide) (hf := rfl) (hT := rfl) (hw := w_1276) (hd := d_Mo_again_18) (kk := ?_)
      refine a_iload_n fx 1 d_Mo_again_21 rfl rfl ?_
      refine a_iadd fx d_Mo_again_22 ?_
      refine a_sipush (v := 8000) fx d_Mo_again_23 rfl ?_
      refine a_icmp_le fx 33 d_Mo_again_26 rfl (fun hc => ?_) (fun hc => ?_)
      · have h := h.1 hc
        refine a_iconst (v := 0) fx d_Mo_again_33 rfl ?_
        refine a_sub [0, 1] rfl ?_
        exact h
      · have h := h.2 hc
        refine a_iconst (v := 2) fx d_Mo_again_29 rfl ?_
        refine a_goto fx 34 d_Mo_again_30 rfl ?_
        refine a_sub [0, 1] rfl ?_
        exact h
    · have h := h.2 hc
      refine a_iconst (v := 1) fx d_Mo_again_13 rfl ?_
      refine a_goto fx 34 d_Mo_again_14 rfl ?_
      refine a_sub [0, 1] rfl ?_
      exact h
set_option maxRecDepth 100000 in
set_option maxHeartbeats 4000000 in
theorem Met_Mo_at (l : Launch) (B : Nat) (D : va_G) (aC : Nat → ClassId) (aS : Nat → Nat) {i0 : Int32} {i1 : Int32} {M : zM} {post : Int32 → zM → Prop}  (h : Wp_Mo_at i0 i1 M post) : Met l y_Mo_at (wo y_Mo_at b_Mo_at 2 (some FieldType.int)) { frames := 0, cells := 0, slots := 0, locals := 0 } (va_Pc [.int i0, .int i1] (zWl B D aC aS M)) (zQi B D aC post) 0 0 (zAb B) := by
  refine z_met (own := "MailChainModel") (lv0 := [(0, .int i0), (1, .int i1)]) (by decide) rfl (Nat.le_of_ble_eq_true rfl) rfl ?_
  intro p e s m below meth c fx hr hlo
  delta Wp_Mo_at at h
  refine a_bipush (v := 41) fx d_Mo_at_0 rfl ?_
  refine a_iload_n fx 0 d_Mo_at_2 rfl rfl ?_
  refine a_imul fx d_Mo_at_3 ?_
  refine a_iload_n fx 1 d_Mo_at_4 rfl rfl ?_
  refine a_iadd fx d_Mo_at_5 ?_
  exact a_iret fx hlo hr h d_Mo_at_6
set_option maxRecDepth 100000 in
set_option maxHeartbeats 4000000 in
theorem Met_Mo_look (l : Launch) (B : Nat) (D : va_G) (aC : Nat → ClassId) (aS : Nat → Nat) {a0 : Nat} {a1 : Nat} {i2 : Int32} {i3 : Int32} {M : zM} {post : zM → Prop} (hk0 : a0 < N0) (ht0 : tg a0 = 9) (hk1 : a1 < N0) (ht1 : tg a1 = 20) (h : Wp_Mo_look a0 a1 i2 i3 M post) : Met l y_Mo_look (wo y_Mo_look b_Mo_look 5 none) { frames := 0, cells := 0, slots := 0, locals := 0 } (va_Pc [.ref (B + a0), .ref (B + a1), .int i2, .int i3] (zWl B D aC aS M)) (zQv B D aC post) 0 0 (zAb B) := by
  refine z_met (own := "MailChainModel") (lv0 := [(0, .ref (B + a0)), (1, .ref (B + a1)), (2, .int i2), (3, .int i3)]) (by decide) rfl (Nat.le_of_ble_eq_true rfl) rfl ?_
  intro p e s m below meth c fx hr hlo
  delta Wp_Mo_look at h
  have h := h (fun v4 M => zAt p l e { frames := 0, cells := 0, slots := 0, locals := 0 } s m ([.ref (B + a0), .ref (B + a1), .int i2, .int i3] : List Value).toArray below meth c 0 0 (MQ below (zQv B D aC post) ([.ref (B + a0), .ref (B + a1), .int i2, .int i3] : List Value).toArray s 0 0 (zAb B)) B D aC 5 19 [(0, .ref (B + a0)), (1, .ref (B + a1)), (2, .int i2), (3, .int i3), (4, .int v4)] [] M)
  have h := h (by
    intro v4 M h
    refine a_iload fx 4 d_Mo_look_19 rfl ?_
    refine a_aload_n fx 0 d_Mo_look_21 rfl rfl ?_
    refine a_getI fx (T := F_Mo) (j := 24) (hk := hk0) (ht := ht0) (ht2 := by decide) (hc := rfl) (hin := u_in_Mo) (hj := by decide) (hj2 := by decide) (hf := rfl) (hT := rfl) (hw := w_1293) (hd := d_Mo_look_22) (kk := ?_)
    refine a_icmp_ge fx 47 d_Mo_look_25 rfl (fun hc => ?_) (fun hc => ?_)
    · have h := h.1 hc
      exact a_vret fx hlo hr h d_Mo_look_47
    · have h := h.2 hc
      refine a_aload_n fx 0 d_Mo_look_28 rfl rfl ?_
      refine a_getS fx (T := F_Mo) (j := 23) (hk := hk0) (ht := ht0) (ht2 := by decide) (hc := rfl) (hin := u_in_Mo) (hj := by decide) (hj2 := by decide) (hf := rfl) (n9 := 21) (hfo := rfl) (hT := rfl) (hw := w_1292) (hd := d_Mo_look_29) (kk := ?_)
      refine a_iload fx 4 d_Mo_look_32 rfl ?_
      refine a_aload_n fx 1 d_Mo_look_34 rfl rfl ?_
      refine a_iload_n fx 2 d_Mo_look_35 rfl rfl ?_
      refine a_iload fx 4 d_Mo_look_36 rfl ?_
      refine a_iadd fx d_Mo_look_38 ?_
      obtain ⟨hin, h⟩ := h
      refine a_bald fx hk1 ht1 hin d_Mo_look_39 ?_
      obtain ⟨hin, h⟩ := h
      refine a_bast fx (lo_9_23 hk0 ht0).1 (lo_9_23 hk0 ht0).2 hin d_Mo_look_40 (a_mem (fun M3 eM3 => ?_))
      have h := h M3 eM3
      obtain ⟨x4, ex4⟩ : ∃ z : Int32, z = v4 + 1 := ⟨_, rfl⟩
      have h := h x4 ex4
      refine a_iinc (lv2 := [(4, .int x4), (0, .ref (B + a0)), (1, .ref (B + a1)), (2, .int i2), (3, .int i3)]) fx 4 d_Mo_look_41 rfl ex4.symm (by decide) rfl ?_
      refine a_goto fx 19 d_Mo_look_44 rfl ?_
      refine a_sub [1, 2, 3, 4, 0] rfl ?_
      exact h)
  refine a_aload_n fx 0 d_Mo_look_0 rfl rfl ?_
  refine a_iload_n fx 3 d_Mo_look_1 rfl rfl ?_
  refine a_bipush (v := 60) fx d_Mo_look_2 rfl ?_
  refine a_icmp_ge fx 11 d_Mo_look_4 rfl (fun hc => ?_) (fun hc => ?_)
  · have h := h.1 hc
    refine a_bipush (v := 60) fx d_Mo_look_11 rfl ?_
    refine a_putI fx (T := F_Mo) (ty0 := t_Mo) (j := 24) (hk := hk0) (ht := ht0) (ht2 := by decide) (hc := rfl) (hin := u_in_Mo) (hty := t_Mo_ok) (hnm := n_Mo) (hj := by decide) (hj2 := by decide) (hf := rfl) (hT := rfl) (hfin := rfl) (hn := rfl) (hfit := rfl) (hw := w_1293) (hd := d_Mo_look_13) (kk := a_mem (fun M1 eM1 => ?_))
    have h := h M1 eM1
    refine a_iconst (v := 0) fx d_Mo_look_16 rfl ?_
    refine a_istore (lv2 := [(4, .int 0), (0, .ref (B + a0)), (1, .ref (B + a1)), (2, .int i2), (3, .int i3)]) fx d_Mo_look_17 (by decide) rfl ?_
    refine a_sub [1, 2, 3, 4, 0] rfl ?_
    exact h
  · have h := h.2 hc
    refine a_iload_n fx 3 d_Mo_look_7 rfl rfl ?_
    refine a_goto fx 13 d_Mo_look_8 rfl ?_
    refine a_putI fx (T := F_Mo) (ty0 := t_Mo) (j := 24) (hk := hk0) (ht := ht0) (ht2 := by decide) (hc := rfl) (hin := u_in_Mo) (hty := t_Mo_ok) (hnm := n_Mo) (hj := by decide) (hj2 := by decide) (hf := rfl) (hT := rfl) (hfin := rfl) (hn := rfl) (hfit := rfl) (hw := w_1293) (hd := d_Mo_look_13) (kk := a_mem (fun M2 eM2 => ?_))
    have h := h M2 eM2
    refine a_iconst (v := 0) fx d_Mo_look_16 rfl ?_
    refine a_istore (lv2 := [(4, .int 0), (0, .ref (B + a0)), (1, .ref (B + a1)), (2, .int i2), (3, .int i3)]) fx d_Mo_look_17 (by decide) rfl ?_
    refine a_sub [1, 2, 3, 4, 0] rfl ?_
    exact h
set_option maxRecDepth 100000 in
set_option maxHeartbeats 4000000 in
theorem Met_Mo_isPath (l : Launch) (B : Nat) (D : va_G) (aC : Nat → ClassId) (aS : Nat → Nat) {a0 : Nat} {M : zM} {post : Int32 → zM → Prop} (hk0 : a0 < N0) (ht0 : tg a0 = 9) (h : Wp_Mo_isPath a0 M post) : Met l y_Mo_isPath (wo y_Mo_isPath b_Mo_isPath 7 (some FieldType.boolean)) { frames := 0, cells := 0, slots := 0, locals := 0 } (va_Pc [.ref (B + a0)] (zWl B D aC aS M)) (zQi B D aC post) 0 0 (zAb B) := by
  refine z_met (own := "MailChainModel") (lv0 := [(0, .ref (B + a0))]) (by decide) rfl (Nat.le_of_ble_eq_true rfl) rfl ?_
  intro p e s m below meth c fx hr hlo
  delta Wp_Mo_isPath at h
  have h := h (fun v1 v2 v3 M => zAt p l e { frames := 0, cells := 0, slots := 0, locals := 0 } s m ([.ref (B + a0)] : List Value).toArray below meth c 0 0 (MQ below (zQi B D aC post) ([.ref (B + a0)] : List Value).toArray s 0 0 (zAb B)) B D aC 7 18 [(0, .ref (B + a0)), (1, .int v1), (2, .int v2), (3, .int v3)] [] M)
  have h := h (fun v1 v2 v3 w0 M => zAt p l e { frames := 0, cells := 0, slots := 0, locals := 0 } s m ([.ref (B + a0)] : List Value).toArray below meth c 0 0 (MQ below (zQi B D aC post) ([.ref (B + a0)] : List Value).toArray s 0 0 (zAb B)) B D aC 7 50 [(0, .ref (B + a0)), (1, .int v1), (2, .int v2), (3, .int v3)] [.int w0] M)
  have h := h (fun v2 v3 v4 w0 M => zAt p l e { frames := 0, cells := 0, slots := 0, locals := 0 } s m ([.ref (B + a0)] : List Value).toArray below meth c 0 0 (MQ below (zQi B D aC post) ([.ref (B + a0)] : List Value).toArray s 0 0 (zAb B)) B D aC 7 78 [(0, .ref (B + a0)), (2, .int v2), (3, .int v3), (4, .int v4)] [.int w0] M)
  have h := h (fun v1 v2 v3 v5 M => zAt p l e { frames := 0, cells := 0, slots := 0, locals := 0 } s m ([.ref (B + a0)] : List Value).toArray below meth c 0 0 (MQ below (zQi B D aC post) ([.ref (B + a0)] : List Value).toArray s 0 0 (zAb B)) B D aC 7 106 [(0, .ref (B + a0)), (1, .int v1), (2, .int v2), (3, .int v3), (5, .int v5)] [] M)
  have h := h (fun v1 v3 v5 w0 M => zAt p l e { frames := 0, cells := 0, slots := 0, locals := 0 } s m ([.ref (B + a0)] : List Value).toArray below meth c 0 0 (MQ below (zQi B D aC post) ([.ref (B + a0)] : List Value).toArray s 0 0 (zAb B)) B D aC 7 141 [(0, .ref (B + a0)), (1, .int v1), (3, .int v3), (5, .int v5)] [.int w0] M)
  have h := h (fun v3 M => zAt p l e { frames := 0, cells := 0, slots := 0, locals := 0 } s m ([.ref (B + a0)] : List Value).toArray below meth c 0 0 (MQ below (zQi B D aC post) ([.ref (B + a0)] : List Value).toArray s 0 0 (zAb B)) B D aC 7 161 [(0, .ref (B + a0)), (3, .int v3)] [] M)
  have h := h (by
    intro v1 v2 v3 M h
    refine a_iload_n fx 3 d_Mo_isPath_18 rfl rfl ?_
    refine a_aload_n fx 0 d_Mo_isPath_19 rfl rfl ?_
    refine a_getI fx (T := F_Mo) (j := 24) (hk := hk0) (ht := ht0) (ht2 := by decide) (hc := rfl) (hin := u_in_Mo) (hj := by decide) (hj2 := by decide) (hf := rfl) (hT := rfl) (hw := w_1293) (hd := d_Mo_isPath_20) (kk := ?_)
    refine a_icmp_gt fx 173 d_Mo_isPath_23 rfl (fun hc => ?_) (fun hc => ?_)
    · have h := h.1 hc
      refine a_iload_n fx 1 d_Mo_isPath_173 rfl rfl ?_
      exact a_zret fx hlo hr h.1 h.2 d_Mo_isPath_174
    · have h := h.2 hc
      refine a_iload_n fx 3 d_Mo_isPath_26 rfl rfl ?_
      refine a_aload_n fx 0 d_Mo_isPath_27 rfl rfl ?_
      refine a_getI fx (T := F_Mo) (j := 24) (hk := hk0) (ht := ht0) (ht2 := by decide) (hc := rfl) (hin := u_in_Mo) (hj := by decide) (hj2 := by decide) (hf := rfl) (hT := rfl) (hw := w_1293) (hd := d_Mo_isPath_28) (kk := ?_)
      refine a_icmp_eq fx 45 d_Mo_isPath_31 rfl (fun hc => ?_) (fun hc => ?_)
      · have h := h.1 hc
        refine a_iconst (v := 1) fx d_Mo_isPath_45 rfl ?_
        refine a_goto fx 50 d_Mo_isPath_46 rfl ?_
        refine a_sub [0, 1, 2, 3] rfl ?_
        exact h
      · have h := h.2 hc
        refine a_aload_n fx 0 d_Mo_isPath_34 rfl rfl ?_
        refine a_getS fx (T := F_Mo) (j := 23) (hk := hk0) (ht := ht0) (ht2 := by decide) (hc := rfl) (hin := u_in_Mo) (hj := by decide) (hj2 := by decide) (hf := rfl) (n9 := 21) (hfo := rfl) (hT := rfl) (hw := w_1292) (hd := d_Mo_isPath_35) (kk := ?_)
        refine a_iload_n fx 3 d_Mo_isPath_38 rfl rfl ?_
        obtain ⟨hin, h⟩ := h
        refine a_bald fx (lo_9_23 hk0 ht0).1 (lo_9_23 hk0 ht0).2 hin d_Mo_isPath_39 ?_
        refine a_bipush (v := 47) fx d_Mo_isPath_40 rfl ?_
        refine a_icmp_ne fx 49 d_Mo_isPath_42 rfl (fun hc => ?_) (fun hc => ?_)
        · have h := h.1 hc
          refine a_iconst (v := 0) fx d_Mo_isPath_49 rfl ?_
          refine a_sub [0, 1, 2, 3] rfl ?_
          exact h
        · have h := h.2 hc
          refine a_iconst (v := 1) fx d_Mo_isPath_45 rfl ?_
          refine a_goto fx 50 d_Mo_isPath_46 rfl ?_
          refine a_sub [0, 1, 2, 3] rfl ?_
          exact h)
  have h := h (by
    intro v1 v2 v3 w0 M h
    refine a_istore (lv2 := [(4, .int w0), (0, .ref (B + a0)), (1, .int v1), (2, .int v2), (3, .int v3)]) fx d_Mo_isPath_50 (by decide) rfl ?_
    refine a_iload_n fx 2 d_Mo_isPath_52 rfl rfl ?_
    refine a_if_eq fx 77 d_Mo_isPath_53 rfl (fun hc => ?_) (fun hc => ?_)
    · have h := h.1 hc
      refine a_iconst (v := 0) fx d_Mo_isPath_77 rfl ?_
      refine a_sub [1, 3, 4, 0] rfl ?_
      exact h
    · have h := h.2 hc
      refine a_iload_n fx 4 d_Mo_isPath_56 rfl rfl ?_
      refine a_aload_n fx 1 d_Mo_isPath_57 rfl rfl ?_
      refine a_getI fx (T := F_Mo) (j := 24) (hk := hk0) (ht := ht0) (ht2 := by decide) (hc := rfl) (hin := u_in_Mo) (hj := by decide) (hj2 := by decide) (hf := rfl) (hT := rfl) (hw := w_1293) (hd := d_Mo_isPath_58) (kk := ?_)
      refine a_icmp_eq fx 73 d_Mo_isPath_61 rfl (fun hc => ?_) (fun hc => ?_)
      · have h := h.1 hc
        refine a_iconst (v := 1) fx d_Mo_isPath_73 rfl ?_
        refine a_goto fx 78 d_Mo_isPath_74 rfl ?_
        refine a_sub [1, 3, 4, 0] rfl ?_
        exact h
      · have h := h.2 hc
        refine a_aload_n fx 1 d_Mo_isPath_64 rfl rfl ?_
        refine a_getS fx (T := F_Mo) (j := 23) (hk := hk0) (ht := ht0) (ht2 := by decide) (hc := rfl) (hin := u_in_Mo) (hj := by decide) (hj2 := by decide) (hf := rfl) (n9 := 21) (hfo := rfl) (hT := rfl) (hw := w_1292) (hd := d_Mo_isPath_65) (kk := ?_)
        refine a_iload_n fx 4 d_Mo_isPath_68 rfl rfl ?_
        obtain ⟨hin, h⟩ := h
        refine a_bald fx (lo_9_23 hk0 ht0).1 (lo_9_23 hk0 ht0).2 hin d_Mo_isPath_69 ?_
        refine a_if_eq fx 77 d_Mo_isPath_70 rfl (fun hc => ?_) (fun hc => ?_)
        · have h := h.1 hc
          refine a_iconst (v := 0) fx d_Mo_isPath_77 rfl ?_
          refine a_sub [1, 3, 4, 0] rfl ?_
          exact h
        · have h := h.2 hc
          refine a_iconst (v := 1) fx d_Mo_isPath_73 rfl ?_
          refine a_goto fx 78 d_Mo_isPath_74 rfl ?_
          refine a_sub [1, 3, 4, 0] rfl ?_
          exact h)
  have h := h (by
    intro v2 v3 v4 w0 M h
    refine a_istore_n (lv2 := [(1, .int w0), (0, .ref (B + a0)), (2, .int v2), (3, .int v3), (4, .int v4)]) fx d_Mo_isPath_78 rfl (by decide) rfl ?_
    refine a_iload fx 4 d_Mo_isPath_79 rfl ?_
    refine a_if_eq fx 167 d_Mo_isPath_81 rfl (fun hc => ?_) (fun hc => ?_)
    · have h := h.1 hc
      obtain ⟨x1, ex1⟩ : ∃ z : Int32, z = v3 + 1 := ⟨_, rfl⟩
      have h := h x1 ex1
      refine a_iinc (lv2 := [(3, .int x1), (1, .int w0), (0, .ref (B + a0)), (2, .int v2), (4, .int v4)]) fx 3 d_Mo_isPath_167 rfl ex1.symm (by decide) rfl ?_
      refine a_goto fx 18 d_Mo_isPath_170 rfl ?_
      refine a_sub [2, 1, 3, 0] rfl ?_
      exact h
    · have h := h.2 hc
      refine a_iload_n fx 3 d_Mo_isPath_84 rfl rfl ?_
      refine a_iload_n fx 2 d_Mo_isPath_85 rfl rfl ?_
      refine a_isub fx d_Mo_isPath_86 ?_
      refine a_topi (fun x2 ex2 => ?_)
      have h := h x2 ex2
      refine a_istore (lv2 := [(5, .int x2), (1, .int w0), (0, .ref (B + a0)), (2, .int v2), (3, .int v3), (4, .int v4)]) fx d_Mo_isPath_87 (by decide) rfl ?_
      refine a_iload fx 0 d_Mo_isPath_89 rfl ?_
      refine a_iconst (v := 1) fx d_Mo_isPath_91 rfl ?_
      refine a_icmp_ne fx 106 d_Mo_isPath_92 rfl (fun hc => ?_) (fun hc => ?_)
      · have h := h.1 hc
        refine a_sub [2, 1, 3, 4, 0] rfl ?_
        exact h
      · have h := h.2 hc
        refine a_aload_n fx 2 d_Mo_isPath_95 rfl rfl ?_
        refine a_getS fx (T := F_Mo) (j := 23) (hk := hk0) (ht := ht0) (ht2 := by decide) (hc := rfl) (hin := u_in_Mo) (hj := by decide) (hj2 := by decide) (hf := rfl) (n9 := 21) (hfo := rfl) (hT := rfl) (hw := w_1292) (hd := d_Mo_isPath_96) (kk := ?_)
        refine a_iload_n fx 3 d_Mo_isPath_99 rfl rfl ?_
        obtain ⟨hin, h⟩ := h
        refine a_bald fx (lo_9_23 hk0 ht0).1 (lo_9_23 hk0 ht0).2 hin d_Mo_isPath_100 ?_
        refine a_bipush (v := 46) fx d_Mo_isPath_101 rfl ?_
        refine a_icmp_eq fx 136 d_Mo_isPath_103 rfl (fun hc => ?_) (fun hc => ?_)
        · have h := h.1 hc
          refine a_iconst (v := 1) fx d_Mo_isPath_136 rfl ?_
          refine a_goto fx 141 d_Mo_isPath_137 rfl ?_
          refine a_sub [2, 1, 4, 0] rfl ?_
          exact h
        · have h := h.2 hc
          refine a_sub [2, 1, 3, 4, 0] rfl ?_
          exact h)
  have h := h (by
    intro v1 v2 v3 v5 M h
    refine a_iload fx 4 d_Mo_isPath_106 rfl ?_
    refine a_iconst (v := 2) fx d_Mo_isPath_108 rfl ?_
    refine a_icmp_ne fx 140 d_Mo_isPath_109 rfl (fun hc => ?_) (fun hc => ?_)
    · have h := h.1 hc
      refine a_iconst (v := 0) fx d_Mo_isPath_140 rfl ?_
      refine a_sub [0, 1, 3, 4] rfl ?_
      exact h
    · have h := h.2 hc
      refine a_aload_n fx 0 d_Mo_isPath_112 rfl rfl ?_
      refine a_getS fx (T := F_Mo) (j := 23) (hk := hk0) (ht := ht0) (ht2 := by decide) (hc := rfl) (hin := u_in_Mo) (hj := by decide) (hj2 := by decide) (hf := rfl) (n9 := 21) (hfo := rfl) (hT := rfl) (hw := w_1292) (hd := d_Mo_isPath_113) (kk := ?_)
      refine a_iload_n fx 2 d_Mo_isPath_116 rfl rfl ?_
      obtain ⟨hin, h⟩ := h
      refine a_bald fx (lo_9_23 hk0 ht0).1 (lo_9_23 hk0 ht0).2 hin d_Mo_isPath_117 ?_
      refine a_bipush (v := 46) fx d_Mo_isPath_118 rfl ?_
      refine a_icmp_ne fx 140 d_Mo_isPath_120 rfl (fun hc => ?_) (fun hc => ?_)
      · have h := h.1 hc
        refine a_iconst (v := 0) fx d_Mo_isPath_140 rfl ?_
        refine a_sub [0, 1, 3, 4] rfl ?_
        exact h
      · have h := h.2 hc
        refine a_aload_n fx 0 d_Mo_isPath_123 rfl rfl ?_
        refine a_getS fx (T := F_Mo) (j := 23) (hk := hk0) (ht := ht0) (ht2 := by decide) (hc := rfl) (hin := u_in_Mo) (hj := by decide) (hj2 := by decide) (hf := rfl) (n9 := 21) (hfo := rfl) (hT := rfl) (hw := w_1292) (hd := d_Mo_isPath_124) (kk := ?_)
        refine a_iload_n fx 2 d_Mo_isPath_127 rfl rfl ?_
        refine a_iconst (v := 1) fx d_Mo_isPath_128 rfl ?_
        refine a_iadd fx d_Mo_isPath_129 ?_
        obtain ⟨hin, h⟩ := h
        refine a_bald fx (lo_9_23 hk0 ht0).1 (lo_9_23 hk0 ht0).2 hin d_Mo_isPath_130 ?_
        refine a_bipush (v := 46) fx d_Mo_isPath_131 rfl ?_
        refine a_icmp_ne fx 140 d_Mo_isPath_133 rfl (fun hc => ?_) (fun hc => ?_)
        · have h := h.1 hc
          refine a_iconst (v := 0) fx d_Mo_isPath_140 rfl ?_
          refine a_sub [0, 1, 3, 4] rfl ?_
          exact h
        · have h := h.2 hc
          refine a_iconst (v := 1) fx d_Mo_isPath_136 rfl ?_
          refine a_goto fx 141 d_Mo_isPath_137 rfl ?_
          refine a_sub [0, 1, 3, 4] rfl ?_
          exact h)
  have h := h (by
    intro v1 v3 v5 w0 M h
    refine a_istore (lv2 := [(6, .int w0), (0, .ref (B + a0)), (1, .int v1), (3, .int v3), (5, .int v5)]) fx d_Mo_isPath_141 (by decide) rfl ?_
    refine a_iload_n fx 2 d_Mo_isPath_143 rfl rfl ?_
    refine a_if_eq fx 161 d_Mo_isPath_144 rfl (fun hc => ?_) (fun hc => ?_)
    · have h := h.1 hc
      refine a_sub [1, 3] rfl ?_
      exact h
    · have h := h.2 hc
      refine a_iload fx 4 d_Mo_isPath_147 rfl ?_
      refine a_if_le fx 161 d_Mo_isPath_149 rfl (fun hc => ?_) (fun hc => ?_)
      · have h := h.1 hc
        refine a_sub [1, 3] rfl ?_
        exact h
      · have h := h.2 hc
        refine a_iload fx 0 d_Mo_isPath_152 rfl ?_
        refine a_if_ne fx 161 d_Mo_isPath_154 rfl (fun hc => ?_) (fun hc => ?_)
        · have h := h.1 hc
          refine a_sub [1, 3] rfl ?_
          exact h
        · have h := h.2 hc
          refine a_iconst (v := 1) fx d_Mo_isPath_157 rfl ?_
          refine a_goto fx 162 d_Mo_isPath_158 rfl ?_
          refine a_istore_n (lv2 := [(1, .int 1), (6, .int w0), (0, .ref (B + a0)), (3, .int v3), (5, .int v5)]) fx d_Mo_isPath_162 rfl (by decide) rfl ?_
          refine a_iload_n fx 3 d_Mo_isPath_163 rfl rfl ?_
          refine a_iconst (v := 1) fx d_Mo_isPath_164 rfl ?_
          refine a_iadd fx d_Mo_isPath_165 ?_
          refine a_topi (fun x3 ex3 => ?_)
          have h := h x3 ex3
          refine a_istore_n (lv2 := [(2, .int x3), (1, .int 1), (6, .int w0), (0, .ref (B + a0)), (3, .int v3), (5, .int v5)]) fx d_Mo_isPath_166 rfl (by decide) rfl ?_
          obtain ⟨x4, ex4⟩ : ∃ z : Int32, z = v3 + 1 := ⟨_, rfl⟩
          have h := h x4 ex4
          refine a_iinc (lv2 := [(3, .int x4), (2, .int x3), (1, .int 1), (6, .int w0), (0, .ref (B + a0)), (5, .int v5)]) fx 4 d_Mo_isPath_167 rfl ex4.symm (by decide) rfl ?_
          refine a_goto fx 18 d_Mo_isPath_170 rfl ?_
          refine a_sub [4, 2, 1, 0] rfl ?_
          exact h)
  have h := h (by
    intro v3 M h
    refine a_iconst (v := 0) fx d_Mo_isPath_161 rfl ?_
    refine a_istore_n (lv2 := [(1, .int 0), (0, .ref (B + a0)), (3, .int v3)]) fx d_Mo_isPath_162 rfl (by decide) rfl ?_
    refine a_iload_n fx 2 d_Mo_isPath_163 rfl rfl ?_
    refine a_iconst (v := 1) fx d_Mo_isPath_164 rfl ?_
    refine a_iadd fx d_Mo_isPath_165 ?_
    refine a_topi (fun x5 ex5 => ?_)
    have h := h x5 ex5
    refine a_istore_n (lv2 := [(2, .int x5), (1, .int 0), (0, .ref (B + a0)), (3, .int v3)]) fx d_Mo_isPath_166 rfl (by decide) rfl ?_
    obtain ⟨x6, ex6⟩ : ∃ z : Int32, z = v3 + 1 := ⟨_, rfl⟩
    have h := h x6 ex6
    refine a_iinc (lv2 := [(3, .int x6), (2, .int x5), (1, .int 0), (0, .ref (B + a0))]) fx 3 d_Mo_isPath_167 rfl ex6.symm (by decide) rfl ?_
    refine a_goto fx 18 d_Mo_isPath_170 rfl ?_
    refine a_sub [3, 2, 1, 0] rfl ?_
    exact h)
  refine a_aload_n fx 0 d_Mo_isPath_0 rfl rfl ?_
  refine a_getI fx (T := F_Mo) (j := 24) (hk := hk0) (ht := ht0) (ht2 := by decide) (hc := rfl) (hin := u_in_Mo) (hj := by decide) (hj2 := by decide) (hf := rfl) (hT := rfl) (hw := w_1293) (hd := d_Mo_isPath_1) (kk := ?_)
  refine a_iconst (v := 1) fx d_Mo_isPath_4 rfl ?_
  refine a_icmp_lt fx 12 d_Mo_isPath_5 rfl (fun hc => ?_) (fun hc => ?_)
  · have h := h.1 hc
    refine a_iconst (v := 0) fx d_Mo_isPath_12 rfl ?_
    refine a_istore_n (lv2 := [(1, .int 0), (0, .ref (B + a0))]) fx d_Mo_isPath_13 rfl (by decide) rfl ?_
    refine a_iconst (v := 0) fx d_Mo_isPath_14 rfl ?_
    refine a_istore_n (lv2 := [(2, .int 0), (1, .int 0), (0, .ref (B + a0))]) fx d_Mo_isPath_15 rfl (by decide) rfl ?_
    refine a_iconst (v := 0) fx d_Mo_isPath_16 rfl ?_
    refine a_istore_n (lv2 := [(3, .int 0), (2, .int 0), (1, .int 0), (0, .ref (B + a0))]) fx d_Mo_isPath_17 rfl (by decide) rfl ?_
    refine a_sub [3, 2, 1, 0] rfl ?_
    exact h
  · have h := h.2 hc
    refine a_iconst (v := 1) fx d_Mo_isPath_8 rfl ?_
    refine a_goto fx 13 d_Mo_isPath_9 rfl ?_
    refine a_istore_n (lv2 := [(1, .int 1), (0, .ref (B + a0))]) fx d_Mo_isPath_13 rfl (by decide) rfl ?_
    refine a_iconst (v := 0) fx d_Mo_isPath_14 rfl ?_
    refine a_istore_n (lv2 := [(2, .int 0), (1, .int 1), (0, .ref (B + a0))]) fx d_Mo_isPath_15 rfl (by decide) rfl ?_
    refine a_iconst (v := 0) fx d_Mo_isPath_16 rfl ?_
    refine a_istore_n (lv2 := [(3, .int 0), (2, .int 0), (1, .int 1), (0, .ref (B + a0))]) fx d_Mo_isPath_17 rfl (by decide) rfl ?_
    refine a_sub [3, 2, 1, 0] rfl ?_
    exact h
set_option maxRecDepth 100000 in
set_option maxHeartbeats 4000000 in
theorem Met_Mo_compare (l : Launch) (B : Nat) (D : va_G) (aC : Nat → ClassId) (aS : Nat → Nat) {a0 : Nat} {i1 : Int32} {i2 : Int32} {M : zM} {post : Int32 → zM → Prop} (hk0 : a0 < N0) (ht0 : tg a0 = 9) (h : Wp_Mo_compare a0 i1 i2 M post) : Met l y_Mo_compare (wo y_Mo_compare b_Mo_compare 6 (some FieldType.int)) { frames := 0, cells := 0, slots := 0, locals := 0 } (va_Pc [.ref (B + a0), .int i1, .int i2] (zWl B D aC aS M)) (zQi B D aC post) 0 0 (zAb B) := by
  refine z_met (own := "MailChainModel") (lv0 := [(0, .ref (B + a0)), (1, .int i1), (2, .int i2)]) (by decide) rfl (Nat.le_of_ble_eq_true rfl) rfl ?_
  intro p e s m below meth c fx hr hlo
  delta Wp_Mo_compare at h
  have h := h (fun v3 v4 M => zAt p l e { frames := 0, cells := 0, slots := 0, locals := 0 } s m ([.ref (B + a0), .int i1, .int i2] : List Value).toArray below meth c 0 0 (MQ below (zQi B D aC post) ([.ref (B + a0), .int i1, .int i2] : List Value).toArray s 0 0 (zAb B)) B D aC 6 10 [(0, .ref (B + a0)), (1, .int i1), (2, .int i2), (3, .int v3), (4, .int v4)] [] M)
  have h := h (by
    intro v3 v4 M h
    refine a_iload fx 4 d_Mo_compare_10 rfl ?_
    refine a_iload_n fx 3 d_Mo_compare_12 rfl rfl ?_
    refine a_icmp_ge fx 66 d_Mo_compare_13 rfl (fun hc => ?_) (fun hc => ?_)
    · have h := h.1 hc
      refine a_iload_n fx 3 d_Mo_compare_66 rfl rfl ?_
      refine a_iload_n fx 2 d_Mo_compare_67 rfl rfl ?_
      refine a_isub fx d_Mo_compare_68 ?_
      exact a_iret fx hlo hr h d_Mo_compare_69
    · have h := h.2 hc
      refine a_iload fx 4 d_Mo_compare_16 rfl ?_
      refine a_iload_n fx 2 d_Mo_compare_18 rfl rfl ?_
      refine a_icmp_ge fx 66 d_Mo_compare_19 rfl (fun hc => ?_) (fun hc => ?_)
      · have h := h.1 hc
        refine a_iload_n fx 3 d_Mo_compare_66 rfl rfl ?_
        refine a_iload_n fx 2 d_Mo_compare_67 rfl rfl ?_
        refine a_isub fx d_Mo_compare_68 ?_
        exact a_iret fx hlo hr h d_Mo_compare_69
      · have h := h.2 hc
        refine a_aload_n fx 0 d_Mo_compare_22 rfl rfl ?_
        refine a_getS fx (T := F_Mo) (j := 10) (hk := hk0) (ht := ht0) (ht2 := by decide) (hc := rfl) (hin := u_in_Mo) (hj := by decide) (hj2 := by decide) (hf := rfl) (n9 := 9) (hfo := rfl) (hT := rfl) (hw := w_1279) (hd := d_Mo_compare_23) (kk := ?_)
        refine a_bipush (v := 60) fx d_Mo_compare_26 rfl ?_
        refine a_iload_n fx 1 d_Mo_compare_28 rfl rfl ?_
        refine a_imul fx d_Mo_compare_29 ?_
        refine a_iload fx 4 d_Mo_compare_30 rfl ?_
        refine a_iadd fx d_Mo_compare_32 ?_
        obtain ⟨hin, h⟩ := h
        refine a_bald fx (lo_9_10 hk0 ht0).1 (lo_9_10 hk0 ht0).2 hin d_Mo_compare_33 ?_
        refine a_sipush (v := 255) fx d_Mo_compare_34 rfl ?_
        refine a_iand fx d_Mo_compare_37 ?_
        refine a_aload_n fx 0 d_Mo_compare_38 rfl rfl ?_
        refine a_getS fx (T := F_Mo) (j := 23) (hk := hk0) (ht := ht0) (ht2 := by decide) (hc := rfl) (hin := u_in_Mo) (hj := by decide) (hj2 := by decide) (hf := rfl) (n9 := 21) (hfo := rfl) (hT := rfl) (hw := w_1292) (hd := d_Mo_compare_39) (kk := ?_)
        refine a_iload fx 4 d_Mo_compare_42 rfl ?_
        obtain ⟨hin, h⟩ := h
        refine a_bald fx (lo_9_23 hk0 ht0).1 (lo_9_23 hk0 ht0).2 hin d_Mo_compare_44 ?_
        refine a_sipush (v := 255) fx d_Mo_compare_45 rfl ?_
        refine a_iand fx d_Mo_compare_48 ?_
        refine a_isub fx d_Mo_compare_49 ?_
        refine a_topi (fun x2 ex2 => ?_)
        have h := h x2 ex2
        refine a_istore (lv2 := [(5, .int x2), (0, .ref (B + a0)), (1, .int i1), (2, .int i2), (3, .int v3), (4, .int v4)]) fx d_Mo_compare_50 (by decide) rfl ?_
        refine a_iload fx 0 d_Mo_compare_52 rfl ?_
        refine a_if_eq fx 60 d_Mo_compare_54 rfl (fun hc => ?_) (fun hc => ?_)
        · have h := h.1 hc
          obtain ⟨x3, ex3⟩ : ∃ z : Int32, z = v4 + 1 := ⟨_, rfl⟩
          have h := h x3 ex3
          refine a_iinc (lv2 := [(4, .int x3), (5, .int x2), (0, .ref (B + a0)), (1, .int i1), (2, .int i2), (3, .int v3)]) fx 5 d_Mo_compare_60 rfl ex3.symm (by decide) rfl ?_
          refine a_goto fx 10 d_Mo_compare_63 rfl ?_
          refine a_sub [2, 3, 4, 5, 0] rfl ?_
          exact h
        · have h := h.2 hc
          refine a_iload fx 0 d_Mo_compare_57 rfl ?_
          exact a_iret fx hlo hr h d_Mo_compare_59)
  refine a_aload_n fx 0 d_Mo_compare_0 rfl rfl ?_
  refine a_getS fx (T := F_Mo) (j := 11) (hk := hk0) (ht := ht0) (ht2 := by decide) (hc := rfl) (hin := u_in_Mo) (hj := by decide) (hj2 := by decide) (hf := rfl) (n9 := 10) (hfo := rfl) (hT := rfl) (hw := w_1280) (hd := d_Mo_compare_1) (kk := ?_)
  refine a_iload_n fx 1 d_Mo_compare_4 rfl rfl ?_
  obtain ⟨hin, h⟩ := h
  refine a_iald fx (lo_9_11 hk0 ht0).1 (lo_9_11 hk0 ht0).2 hin d_Mo_compare_5 ?_
  refine a_topi (fun x1 ex1 => ?_)
  have h := h x1 ex1
  refine a_istore_n (lv2 := [(3, .int x1), (0, .ref (B + a0)), (1, .int i1), (2, .int i2)]) fx d_Mo_compare_6 rfl (by decide) rfl ?_
  refine a_iconst (v := 0) fx d_Mo_compare_7 rfl ?_
  refine a_istore (lv2 := [(4, .int 0), (3, .int x1), (0, .ref (B + a0)), (1, .int i1), (2, .int i2)]) fx d_Mo_compare_8 (by decide) rfl ?_
  refine a_sub [2, 3, 4, 1, 0] rfl ?_
  exact h
set_option maxRecDepth 100000 in
set_option maxHeartbeats 4000000 in
theorem Met_Mo_find (l : Launch) (B : Nat) (D : va_G) (aC : Nat → ClassId) (aS : Nat → Nat) {a0 : Nat} {i1 : Int32} {i2 : Int32} {M : zM} {post : Int32 → zM → Prop} (hk0 : a0 < N0) (ht0 : tg a0 = 9) (h : Wp_Mo_find a0 i1 i2 M post) : Met l y_Mo_find (wo y_Mo_find b_Mo_find 5 (some FieldType.int)) { frames := 1, cells := 0, slots := 0, locals := 25 } (va_Pc [.ref (B + a0), .int i1, .int i2] (zWl B D aC aS M)) (zQi B D aC post) 0 0 (zAb B) := by
  refine z_met (own := "MailChainModel") (lv0 := [(0, .ref (B + a0)), (1, .int i1), (2, .int i2)]) (by decide) rfl (Nat.le_of_ble_eq_true rfl) rfl ?_
  intro p e s m below meth c fx hr hlo
  delta Wp_Mo_find at h
  have h := h (fun v3 v4 M => zAt p l e { frames := 1, cells := 0, slots := 0, locals := 25 } s m ([.ref (B + a0), .int i1, .int i2] : List Value).toArray below meth c 0 0 (MQ below (zQi B D aC post) ([.ref (B + a0), .int i1, .int i2] : List Value).toArray s 0 0 (zAb B)) B D aC 5 5 [(0, .ref (B + a0)), (1, .int i1), (2, .int i2), (3, .int v3), (4, .int v4)] [] M)
  have h := h (by
    intro v3 v4 M h
    refine a_iload fx 4 d_Mo_find_5 rfl ?_
    refine a_aload_n fx 0 d_Mo_find_7 rfl rfl ?_
    refine a_getS fx (T := F_Mo) (j := 9) (hk := hk0) (ht := ht0) (ht2 := by decide) (hc := rfl) (hin := u_in_Mo) (hj := by decide) (hj2 := by decide) (hf := rfl) (n9 := 8) (hfo := rfl) (hT := rfl) (hw := w_1278) (hd := d_Mo_find_8) (kk := ?_)
    refine a_iload_n fx 1 d_Mo_find_11 rfl rfl ?_
    obtain ⟨hin, h⟩ := h
    refine a_iald fx (lo_9_9 hk0 ht0).1 (lo_9_9 hk0 ht0).2 hin d_Mo_find_12 ?_
    refine a_icmp_ge fx 43 d_Mo_find_13 rfl (fun hc => ?_) (fun hc => ?_)
    · have h := h.1 hc
      refine a_iload_n fx 3 d_Mo_find_43 rfl rfl ?_
      exact a_iret fx hlo hr h d_Mo_find_44
    · have h := h.2 hc
      refine a_aload_n fx 0 d_Mo_find_16 rfl rfl ?_
      refine a_iload_n fx 1 d_Mo_find_17 rfl rfl ?_
      refine a_iload fx 4 d_Mo_find_18 rfl ?_
      refine a_calli (rest := [.ref (B + a0)]) (a_runS (As := [.int i1, .int v4]) fx  cv_Mo_at w_1503 (Met_Mo_at l B D aC aS  h) rfl rfl (Nat.le_of_ble_eq_true rfl) rfl rfl ⟨Nat.le_of_ble_eq_true rfl, Nat.le_of_ble_eq_true rfl⟩ d_Mo_find_20 ⟨Nat.le_of_ble_eq_true rfl, Nat.le_of_ble_eq_true rfl⟩) (fun x2 M1 h => ?_)
      refine a_iload_n fx 2 d_Mo_find_23 rfl rfl ?_
      refine a_calli (rest := []) (a_runV (As := [.int x2, .int i2]) fx cv_Mo_compare w_1506 (Met_Mo_compare l B D aC aS (hk0 := hk0) (ht0 := ht0) h) hk0 ht0 (by decide) rfl rfl rfl (Nat.le_of_ble_eq_true rfl) rfl rfl ⟨Nat.le_of_ble_eq_true rfl, Nat.le_of_ble_eq_true rfl⟩ d_Mo_find_24 ⟨Nat.le_of_ble_eq_true rfl, Nat.le_of_ble_eq_true rfl⟩) (fun x4 M3 h => ?_)
      refine a_if_ne fx 35 d_Mo_find_27 rfl (fun hc => ?_) (fun hc => ?_)
      · have h := h.1 hc
        refine a_iload_n fx 3 d_Mo_find_35 rfl rfl ?_
        refine a_istore_n (lv2 := [(3, .int v3), (0, .ref (B + a0)), (1, .int i1), (2, .int i2), (4, .int v4)]) fx d_Mo_find_36 rfl (by decide) rfl ?_
        obtain ⟨x5, ex5⟩ : ∃ z : Int32, z = v4 + 1 := ⟨_, rfl⟩
        have h := h x5 ex5
        refine a_iinc (lv2 := [(4, .int x5), (3, .int v3), (0, .ref (B + a0)), (1, .int i1), (2, .int i2)]) fx 4 d_Mo_find_37 rfl ex5.symm (by decide) rfl ?_
        refine a_goto fx 5 d_Mo_find_40 rfl ?_
        refine a_sub [2, 3, 4, 1, 0] rfl ?_
        exact h
      · have h := h.2 hc
        refine a_iload fx 4 d_Mo_find_30 rfl ?_
        refine a_goto fx 36 d_Mo_find_32 rfl ?_
        refine a_istore_n (lv2 := [(3, .int v4), (0, .ref (B + a0)), (1, .int i1), (2, .int i2), (4, .int v4)]) fx d_Mo_find_36 rfl (by decide) rfl ?_
        obtain ⟨x6, ex6⟩ : ∃ z : Int32, z = v4 + 1 := ⟨_, rfl⟩
        have h := h x6 ex6
        refine a_iinc (lv2 := [(4, .int x6), (3, .int v4), (0, .ref (B + a0)), (1, .int i1), (2, .int i2)]) fx 4 d_Mo_find_37 rfl ex6.symm (by decide) rfl ?_
        refine a_goto fx 5 d_Mo_find_40 rfl ?_
        refine a_sub [2, 3, 4, 1, 0] rfl ?_
        exact h)
  refine a_iconst (v := (-1)) fx d_Mo_find_0 rfl ?_
  refine a_istore_n (lv2 := [(3, .int (-1)), (0, .ref (B + a0)), (1, .int i1), (2, .int i2)]) fx d_Mo_find_1 rfl (by decide) rfl ?_
  refine a_iconst (v := 0) fx d_Mo_find_2 rfl ?_
  refine a_istore (lv2 := [(4, .int 0), (3, .int (-1)), (0, .ref (B + a0)), (1, .int i1), (2, .int i2)]) fx d_Mo_find_3 (by decide) rfl ?_
  refine a_sub [2, 3, 4, 1, 0] rfl ?_
  exact h
set_option maxRecDepth 100000 in
set_option maxHeartbeats 4000000 in
theorem Met_Mo_hasParent (l : Launch) (B : Nat) (D : va_G) (aC : Nat → ClassId) (aS : Nat → Nat) {a0 : Nat} {i1 : Int32} {M : zM} {post : Int32 → zM → Prop} (hk0 : a0 < N0) (ht0 : tg a0 = 9) (h : Wp_Mo_hasParent a0 i1 M post) : Met l y_Mo_hasParent (wo y_Mo_hasParent b_Mo_hasParent 4 (some FieldType.boolean)) { frames := 2, cells := 0, slots := 0, locals := 49 } (va_Pc [.ref (B + a0), .int i1] (zWl B D aC aS M)) (zQi B D aC post) 0 0 (zAb B) := by
  refine z_met (own := "MailChainModel") (lv0 := [(0, .ref (B + a0)), (1, .int i1)]) (by decide) rfl (Nat.le_of_ble_eq_true rfl) rfl ?_
  intro p e s m below meth c fx hr hlo
  delta Wp_Mo_hasParent at h
  have h := h (fun v2 v3 M => zAt p l e { frames := 2, cells := 0, slots := 0, locals := 49 } s m ([.ref (B + a0), .int i1] : List Value).toArray below meth c 0 0 (MQ below (zQi B D aC post) ([.ref (B + a0), .int i1] : List Value).toArray s 0 0 (zAb B)) B D aC 4 4 [(0, .ref (B + a0)), (1, .int i1), (2, .int v2), (3, .int v3)] [] M)
  have h := h (by
    intro v2 v3 M h
    refine a_iload_n fx 3 d_Mo_hasParent_4 rfl rfl ?_
    refine a_aload_n fx 0 d_Mo_hasParent_5 rfl rfl ?_
    refine a_getI fx (T := F_Mo) (j := 24) (hk := hk0) (ht := ht0) (ht2 := by decide) (hc := rfl) (hin := u_in_Mo) (hj := by decide) (hj2 := by decide) (hf := rfl) (hT := rfl) (hw := w_1293) (hd := d_Mo_hasParent_6) (kk := ?_)
    refine a_icmp_ge fx 35 d_Mo_hasParent_9 rfl (fun hc => ?_) (fun hc => ?_)
    · have h := h.1 hc
      refine a_iload_n fx 2 d_Mo_hasParent_35 rfl rfl ?_
      refine a_if_ge fx 41 d_Mo_hasParent_36 rfl (fun hc => ?_) (fun hc => ?_)
      · have h := h.1 hc
        refine a_aload_n fx 0 d_Mo_hasParent_41 rfl rfl ?_
        refine a_iload_n fx 1 d_Mo_hasParent_42 rfl rfl ?_
        refine a_iload_n fx 2 d_Mo_hasParent_43 rfl rfl ?_
        refine a_calli (rest := []) (a_runV (As := [.int i1, .int v2]) fx cv_Mo_find w_1499 (Met_Mo_find l B D aC aS (hk0 := hk0) (ht0 := ht0) h) hk0 ht0 (by decide) rfl rfl rfl (Nat.le_of_ble_eq_true rfl) rfl rfl ⟨Nat.le_of_ble_eq_true rfl, Nat.le_of_ble_eq_true rfl⟩ d_Mo_hasParent_44 ⟨Nat.le_of_ble_eq_true rfl, Nat.le_of_ble_eq_true rfl⟩) (fun x2 M1 h => ?_)
        refine a_istore_n (lv2 := [(3, .int x2), (0, .ref (B + a0)), (1, .int i1), (2, .int v2)]) fx d_Mo_hasParent_47 rfl (by decide) rfl ?_
        refine a_iload_n fx 0 d_Mo_hasParent_48 rfl rfl ?_
        refine a_if_lt fx 69 d_Mo_hasParent_49 rfl (fun hc => ?_) (fun hc => ?_)
        · have h := h.1 hc
          refine a_iconst (v := 0) fx d_Mo_hasParent_69 rfl ?_
          exact a_zret fx hlo hr rfl h d_Mo_hasParent_70
        · have h := h.2 hc
          refine a_aload_n fx 1 d_Mo_hasParent_52 rfl rfl ?_
          refine a_getS fx (T := F_Mo) (j := 12) (hk := hk0) (ht := ht0) (ht2 := by decide) (hc := rfl) (hin := u_in_Mo) (hj := by decide) (hj2 := by decide) (hf := rfl) (n9 := 11) (hfo := rfl) (hT := rfl) (hw := w_1281) (hd := d_Mo_hasParent_53) (kk := ?_)
          refine a_iload_n fx 2 d_Mo_hasParent_56 rfl rfl ?_
          refine a_iload_n fx 0 d_Mo_hasParent_57 rfl rfl ?_
          refine a_calli (rest := [.ref (B + (a0 + 11))]) (a_runS (As := [.int i1, .int x2]) fx  cv_Mo_at w_1503 (Met_Mo_at l B D aC aS  h) rfl rfl (Nat.le_of_ble_eq_true rfl) rfl rfl ⟨Nat.le_of_ble_eq_true rfl, Nat.le_of_ble_eq_true rfl⟩ d_Mo_hasParent_58 ⟨Nat.le_of_ble_eq_true rfl, Nat.le_of_ble_eq_true rfl⟩) (fun x4 M3 h => ?_)
          obtain ⟨hin, h⟩ := h
          refine a_iald fx (lo_9_12 hk0 ht0).1 (lo_9_12 hk0 ht0).2 hin d_Mo_hasParent_61 ?_
          refine a_if_ne fx 69 d_Mo_hasParent_62 rfl (fun hc => ?_) (fun hc => ?_)
          · have h := h.1 hc
            refine a_iconst (v := 0) fx d_Mo_hasParent_69 rfl ?_
            exact a_zret fx hlo hr rfl h d_Mo_hasParent_70
          · have h := h.2 hc
            refine a_iconst (v := 1) fx d_Mo_hasParent_65 rfl ?_
            refine a_goto fx 70 d_Mo_hasParent_66 rfl ?_
            exact a_zret fx hlo hr rfl h d_Mo_hasParent_70
      · have h := h.2 hc
        refine a_iconst (v := 1) fx d_Mo_hasParent_39 rfl ?_
        exact a_zret fx hlo hr rfl h d_Mo_hasParent_40
    · have h := h.2 hc
      refine a_aload_n fx 0 d_Mo_hasParent_12 rfl rfl ?_
      refine a_getS fx (T := F_Mo) (j := 23) (hk := hk0) (ht := ht0) (ht2 := by decide) (hc := rfl) (hin := u_in_Mo) (hj := by decide) (hj2 := by decide) (hf := rfl) (n9 := 21) (hfo := rfl) (hT := rfl) (hw := w_1292) (hd := d_Mo_hasParent_13) (kk := ?_)
      refine a_iload_n fx 3 d_Mo_hasParent_16 rfl rfl ?_
      obtain ⟨hin, h⟩ := h
      refine a_bald fx (lo_9_23 hk0 ht0).1 (lo_9_23 hk0 ht0).2 hin d_Mo_hasParent_17 ?_
      refine a_bipush (v := 47) fx d_Mo_hasParent_18 rfl ?_
      refine a_icmp_ne fx 27 d_Mo_hasParent_20 rfl (fun hc => ?_) (fun hc => ?_)
      · have h := h.1 hc
        refine a_iload_n fx 2 d_Mo_hasParent_27 rfl rfl ?_
        refine a_istore_n (lv2 := [(2, .int v2), (0, .ref (B + a0)), (1, .int i1), (3, .int v3)]) fx d_Mo_hasParent_28 rfl (by decide) rfl ?_
        obtain ⟨x5, ex5⟩ : ∃ z : Int32, z = v3 + 1 := ⟨_, rfl⟩
        have h := h x5 ex5
        refine a_iinc (lv2 := [(3, .int x5), (2, .int v2), (0, .ref (B + a0)), (1, .int i1)]) fx 3 d_Mo_hasParent_29 rfl ex5.symm (by decide) rfl ?_
        refine a_goto fx 4 d_Mo_hasParent_32 rfl ?_
        refine a_sub [2, 3, 1, 0] rfl ?_
        exact h
      · have h := h.2 hc
        refine a_iload_n fx 3 d_Mo_hasParent_23 rfl rfl ?_
        refine a_goto fx 28 d_Mo_hasParent_24 rfl ?_
        refine a_istore_n (lv2 := [(2, .int v3), (0, .ref (B + a0)), (1, .int i1), (3, .int v3)]) fx d_Mo_hasParent_28 rfl (by decide) rfl ?_
        obtain ⟨x6, ex6⟩ : ∃ z : Int32, z = v3 + 1 := ⟨_, rfl⟩
        have h := h x6 ex6
        refine a_iinc (lv2 := [(3, .int x6), (2, .int v3), (0, .ref (B + a0)), (1, .int i1)]) fx 3 d_Mo_hasParent_29 rfl ex6.symm (by decide) rfl ?_
        refine a_goto fx 4 d_Mo_hasParent_32 rfl ?_
        refine a_sub [2, 3, 1, 0] rfl ?_
        exact h)
  refine a_iconst (v := (-1)) fx d_Mo_hasParent_0 rfl ?_
  refine a_istore_n (lv2 := [(2, .int (-1)), (0, .ref (B + a0)), (1, .int i1)]) fx d_Mo_hasParent_1 rfl (by decide) rfl ?_
  refine a_iconst (v := 0) fx d_Mo_hasParent_2 rfl ?_
  refine a_istore_n (lv2 := [(3, .int 0), (2, .int (-1)), (0, .ref (B + a0)), (1, .int i1)]) fx d_Mo_hasParent_3 rfl (by decide) rfl ?_
  refine a_sub [2, 3, 1, 0] rfl ?_
  exact h
set_option maxRecDepth 100000 in
set_option maxHeartbeats 4000000 in
theorem Met_Mo_bytesOf (l : Launch) (B : Nat) (D : va_G) (aC : Nat → ClassId) (aS : Nat → Nat) {a0 : Nat} {i1 : Int32} {M : zM} {post : Int32 → zM → Prop} (hk0 : a0 < N0) (ht0 : tg a0 = 9) (h : Wp_Mo_bytesOf a0 i1 M post) : Met l y_Mo_bytesOf (wo y_Mo_bytesOf b_Mo_bytesOf 4 (some FieldType.int)) { frames := 1, cells := 0, slots := 0, locals := 21 } (va_Pc [.ref (B + a0), .int i1] (zWl B D aC aS M)) (zQi B D aC post) 0 0 (zAb B) := by
  refine z_met (own := "MailChainModel") (lv0 := [(0, .ref (B + a0)), (1, .int i1)]) (by decide) rfl (Nat.le_of_ble_eq_true rfl) rfl ?_
  intro p e s m below meth c fx hr hlo
  delta Wp_Mo_bytesOf at h
  have h := h (fun v2 v3 M => zAt p l e { frames := 1, cells := 0, slots := 0, locals := 21 } s m ([.ref (B + a0), .int i1] : List Value).toArray below meth c 0 0 (MQ below (zQi B D aC post) ([.ref (B + a0), .int i1] : List Value).toArray s 0 0 (zAb B)) B D aC 4 4 [(0, .ref (B + a0)), (1, .int i1), (2, .int v2), (3, .int v3)] [] M)
  have h := h (by
    intro v2 v3 M h
    refine a_iload_n fx 3 d_Mo_bytesOf_4 rfl rfl ?_
    refine a_aload_n fx 0 d_Mo_bytesOf_5 rfl rfl ?_
    refine a_getS fx (T := F_Mo) (j := 9) (hk := hk0) (ht := ht0) (ht2 := by decide) (hc := rfl) (hin := u_in_Mo) (hj := by decide) (hj2 := by decide) (hf := rfl) (n9 := 8) (hfo := rfl) (hT := rfl) (hw := w_1278) (hd := d_Mo_bytesOf_6) (kk := ?_)
    refine a_iload_n fx 1 d_Mo_bytesOf_9 rfl rfl ?_
    obtain ⟨hin, h⟩ := h
    refine a_iald fx (lo_9_9 hk0 ht0).1 (lo_9_9 hk0 ht0).2 hin d_Mo_bytesOf_10 ?_
    refine a_icmp_ge fx 51 d_Mo_bytesOf_11 rfl (fun hc => ?_) (fun hc => ?_)
    · have h := h.1 hc
      refine a_iload_n fx 2 d_Mo_bytesOf_51 rfl rfl ?_
      exact a_iret fx hlo hr h d_Mo_bytesOf_52
    · have h := h.2 hc
      refine a_aload_n fx 0 d_Mo_bytesOf_14 rfl rfl ?_
      refine a_getS fx (T := F_Mo) (j := 12) (hk := hk0) (ht := ht0) (ht2 := by decide) (hc := rfl) (hin := u_in_Mo) (hj := by decide) (hj2 := by decide) (hf := rfl) (n9 := 11) (hfo := rfl) (hT := rfl) (hw := w_1281) (hd := d_Mo_bytesOf_15) (kk := ?_)
      refine a_iload_n fx 1 d_Mo_bytesOf_18 rfl rfl ?_
      refine a_iload_n fx 3 d_Mo_bytesOf_19 rfl rfl ?_
      refine a_calli (rest := [.ref (B + (a0 + 11))]) (a_runS (As := [.int i1, .int v3]) fx  cv_Mo_at w_1503 (Met_Mo_at l B D aC aS  h) rfl rfl (Nat.le_of_ble_eq_true rfl) rfl rfl ⟨Nat.le_of_ble_eq_true rfl, Nat.le_of_ble_eq_true rfl⟩ d_Mo_bytesOf_20 ⟨Nat.le_of_ble_eq_true rfl, Nat.le_of_ble_eq_true rfl⟩) (fun x2 M1 h => ?_)
      obtain ⟨hin, h⟩ := h
      refine a_iald fx (lo_9_12 hk0 ht0).1 (lo_9_12 hk0 ht0).2 hin d_Mo_bytesOf_23 ?_
      refine a_iconst (v := 1) fx d_Mo_bytesOf_24 rfl ?_
      refine a_icmp_ne fx 43 d_Mo_bytesOf_25 rfl (fun hc => ?_) (fun hc => ?_)
      · have h := h.1 hc
        refine a_iload_n fx 2 d_Mo_bytesOf_43 rfl rfl ?_
        refine a_istore_n (lv2 := [(2, .int v2), (0, .ref (B + a0)), (1, .int i1), (3, .int v3)]) fx d_Mo_bytesOf_44 rfl (by decide) rfl ?_
        obtain ⟨x3, ex3⟩ : ∃ z : Int32, z = v3 + 1 := ⟨_, rfl⟩
        have h := h x3 ex3
        refine a_iinc (lv2 := [(3, .int x3), (2, .int v2), (0, .ref (B + a0)), (1, .int i1)]) fx 3 d_Mo_bytesOf_45 rfl ex3.symm (by decide) rfl ?_
        refine a_goto fx 4 d_Mo_bytesOf_48 rfl ?_
        refine a_sub [2, 3, 1, 0] rfl ?_
        exact h
      · have h := h.2 hc
        refine a_iload_n fx 2 d_Mo_bytesOf_28 rfl rfl ?_
        refine a_aload_n fx 0 d_Mo_bytesOf_29 rfl rfl ?_
        refine a_getS fx (T := F_Mo) (j := 18) (hk := hk0) (ht := ht0) (ht2 := by decide) (hc := rfl) (hin := u_in_Mo) (hj := by decide) (hj2 := by decide) (hf := rfl) (n9 := 17) (hfo := rfl) (hT := rfl) (hw := w_1287) (hd := d_Mo_bytesOf_30) (kk := ?_)
        refine a_iload_n fx 1 d_Mo_bytesOf_33 rfl rfl ?_
        refine a_iload_n fx 3 d_Mo_bytesOf_34 rfl rfl ?_
        refine a_calli (rest := [.ref (B + (a0 + 17)), .int v2]) (a_runS (As := [.int i1, .int v3]) fx  cv_Mo_at w_1503 (Met_Mo_at l B D aC aS  h) rfl rfl (Nat.le_of_ble_eq_true rfl) rfl rfl ⟨Nat.le_of_ble_eq_true rfl, Nat.le_of_ble_eq_true rfl⟩ d_Mo_bytesOf_35 ⟨Nat.le_of_ble_eq_true rfl, Nat.le_of_ble_eq_true rfl⟩) (fun x5 M4 h => ?_)
        obtain ⟨hin, h⟩ := h
        refine a_iald fx (lo_9_18 hk0 ht0).1 (lo_9_18 hk0 ht0).2 hin d_Mo_bytesOf_38 ?_
        refine a_iadd fx d_Mo_bytesOf_39 ?_
        refine a_goto fx 44 d_Mo_bytesOf_40 rfl ?_
        refine a_topi (fun x6 ex6 => ?_)
        have h := h x6 ex6
        refine a_istore_n (lv2 := [(2, .int x6), (0, .ref (B + a0)), (1, .int i1), (3, .int v3)]) fx d_Mo_bytesOf_44 rfl (by decide) rfl ?_
        obtain ⟨x7, ex7⟩ : ∃ z : Int32, z = v3 + 1 := ⟨_, rfl⟩
        have h := h x7 ex7
        refine a_iinc (lv2 := [(3, .int x7), (2, .int x6), (0, .ref (B + a0)), (1, .int i1)]) fx 3 d_Mo_bytesOf_45 rfl ex7.symm (by decide) rfl ?_
        refine a_goto fx 4 d_Mo_bytesOf_48 rfl ?_
        refine a_sub [2, 3, 1, 0] rfl ?_
        exact h)
  refine a_iconst (v := 0) fx d_Mo_bytesOf_0 rfl ?_
  refine a_istore_n (lv2 := [(2, .int 0), (0, .ref (B + a0)), (1, .int i1)]) fx d_Mo_bytesOf_1 rfl (by decide) rfl ?_
  refine a_iconst (v := 0) fx d_Mo_bytesOf_2 rfl ?_
  refine a_istore_n (lv2 := [(3, .int 0), (2, .int 0), (0, .ref (B + a0)), (1, .int i1)]) fx d_Mo_bytesOf_3 rfl (by decide) rfl ?_
  refine a_sub [2, 3, 1, 0] rfl ?_
  exact h
set_option maxRecDepth 100000 in
set_option maxHeartbeats 4000000 in
theorem Met_Mo_copyEntry (l : Launch) (B : Nat) (D : va_G) (aC : Nat → ClassId) (aS : Nat → Nat) {a0 : Nat} {i1 : Int32} {i2 : Int32} {M : zM} {post : zM → Prop} (hk0 : a0 < N0) (ht0 : tg a0 = 9) (h : Wp_Mo_copyEntry a0 i1 i2 M post) : Met l y_Mo_copyEntry (wo y_Mo_copyEntry b_Mo_copyEntry 4 none) { frames := 0, cells := 0, slots := 0, locals := 0 } (va_Pc [.ref (B + a0), .int i1, .int i2] (zWl B D aC aS M)) (zQv B D aC post) 0 0 (zAb B) := by
  refine z_met (own := "MailChainModel") (lv0 := [(0, .ref (B + a0)), (1, .int i1), (2, .int i2)]) (by decide) rfl (Nat.le_of_ble_eq_true rfl) rfl ?_
  intro p e s m below meth c fx hr hlo
  delta Wp_Mo_copyEntry at h
  have h := h (fun v3 M => zAt p l e { frames := 0, cells := 0, slots := 0, locals := 0 } s m ([.ref (B + a0), .int i1, .int i2] : List Value).toArray below meth c 0 0 (MQ below (zQv B D aC post) ([.ref (B + a0), .int i1, .int i2] : List Value).toArray s 0 0 (zAb B)) B D aC 4 14 [(0, .ref (B + a0)), (1, .int i1), (2, .int i2), (3, .int v3)] [] M)
  have h := h (by
    intro v3 M h
    refine a_iload_n fx 3 d_Mo_copyEntry_14 rfl rfl ?_
    refine a_bipush (v := 60) fx d_Mo_copyEntry_15 rfl ?_
    refine a_icmp_ge fx 48 d_Mo_copyEntry_17 rfl (fun hc => ?_) (fun hc => ?_)
    · have h := h.1 hc
      refine a_aload_n fx 0 d_Mo_copyEntry_48 rfl rfl ?_
      refine a_getS fx (T := F_Mo) (j := 12) (hk := hk0) (ht := ht0) (ht2 := by decide) (hc := rfl) (hin := u_in_Mo) (hj := by decide) (hj2 := by decide) (hf := rfl) (n9 := 11) (hfo := rfl) (hT := rfl) (hw := w_1281) (hd := d_Mo_copyEntry_49) (kk := ?_)
      refine a_iload_n fx 1 d_Mo_copyEntry_52 rfl rfl ?_
      refine a_aload_n fx 0 d_Mo_copyEntry_53 rfl rfl ?_
      refine a_getS fx (T := F_Mo) (j := 12) (hk := hk0) (ht := ht0) (ht2 := by decide) (hc := rfl) (hin := u_in_Mo) (hj := by decide) (hj2 := by decide) (hf := rfl) (n9 := 11) (hfo := rfl) (hT := rfl) (hw := w_1281) (hd := d_Mo_copyEntry_54) (kk := ?_)
      refine a_iload_n fx 2 d_Mo_copyEntry_57 rfl rfl ?_
      obtain ⟨hin, h⟩ := h
      refine a_iald fx (lo_9_12 hk0 ht0).1 (lo_9_12 hk0 ht0).2 hin d_Mo_copyEntry_58 ?_
      obtain ⟨hin, h⟩ := h
      refine a_iast fx (lo_9_12 hk0 ht0).1 (lo_9_12 hk0 ht0).2 hin d_Mo_copyEntry_59 (a_mem (fun M2 eM2 => ?_))
      have h := h M2 eM2
      refine a_aload_n fx 0 d_Mo_copyEntry_60 rfl rfl ?_
      refine a_getS fx (T := F_Mo) (j := 13) (hk := hk0) (ht := ht0) (ht2 := by decide) (hc := rfl) (hin := u_in_Mo) (hj := by decide) (hj2 := by decide) (hf := rfl) (n9 := 12) (hfo := rfl) (hT := rfl) (hw := w_1282) (hd := d_Mo_copyEntry_61) (kk := ?_)
      refine a_iload_n fx 1 d_Mo_copyEntry_64 rfl rfl ?_
      refine a_aload_n fx 0 d_Mo_copyEntry_65 rfl rfl ?_
      refine a_getS fx (T := F_Mo) (j := 13) (hk := hk0) (ht := ht0) (ht2 := by decide) (hc := rfl) (hin := u_in_Mo) (hj := by decide) (hj2 := by decide) (hf := rfl) (n9 := 12) (hfo := rfl) (hT := rfl) (hw := w_1282) (hd := d_Mo_copyEntry_66) (kk := ?_)
      refine a_iload_n fx 2 d_Mo_copyEntry_69 rfl rfl ?_
      obtain ⟨hin, h⟩ := h
      refine a_iald fx (lo_9_13 hk0 ht0).1 (lo_9_13 hk0 ht0).2 hin d_Mo_copyEntry_70 ?_
      obtain ⟨hin, h⟩ := h
      refine a_iast fx (lo_9_13 hk0 ht0).1 (lo_9_13 hk0 ht0).2 hin d_Mo_copyEntry_71 (a_mem (fun M3 eM3 => ?_))
      have h := h M3 eM3
      refine a_aload_n fx 0 d_Mo_copyEntry_72 rfl rfl ?_
      refine a_getS fx (T := F_Mo) (j := 14) (hk := hk0) (ht := ht0) (ht2 := by decide) (hc := rfl) (hin := u_in_Mo) (hj := by decide) (hj2 := by decide) (hf := rfl) (n9 := 13) (hfo := rfl) (hT := rfl) (hw := w_1283) (hd := d_Mo_copyEntry_73) (kk := ?_)
      refine a_iload_n fx 1 d_Mo_copyEntry_76 rfl rfl ?_
      refine a_aload_n fx 0 d_Mo_copyEntry_77 rfl rfl ?_
      refine a_getS fx (T := F_Mo) (j := 14) (hk := hk0) (ht := ht0) (ht2 := by decide) (hc := rfl) (hin := u_in_Mo) (hj := by decide) (hj2 := by decide) (hf := rfl) (n9 := 13) (hfo := rfl) (hT := rfl) (hw := w_1283) (hd := d_Mo_copyEntry_78) (kk := ?_)
      refine a_iload_n fx 2 d_Mo_copyEntry_81 rfl rfl ?_
      obtain ⟨hin, h⟩ := h
      refine a_iald fx (lo_9_14 hk0 ht0).1 (lo_9_14 hk0 ht0).2 hin d_Mo_copyEntry_82 ?_
      obtain ⟨hin, h⟩ := h
      refine a_iast fx (lo_9_14 hk0 ht0).1 (lo_9_14 hk0 ht0).2 hin d_Mo_copyEntry_83 (a_mem (fun M4 eM4 => ?_))
      have h := h M4 eM4
      refine a_aload_n fx 0 d_Mo_copyEntry_84 rfl rfl ?_
      refine a_getS fx (T := F_Mo) (j := 15) (hk := hk0) (ht := ht0) (ht2 := by decide) (hc := rfl) (hin := u_in_Mo) (hj := by decide) (hj2 := by decide) (hf := rfl) (n9 := 14) (hfo := rfl) (hT := rfl) (hw := w_1284) (hd := d_Mo_copyEntry_85) (kk := ?_)
      refine a_iload_n fx 1 d_Mo_copyEntry_88 rfl rfl ?_
      refine a_aload_n fx 0 d_Mo_copyEntry_89 rfl rfl ?_
      refine a_getS fx (T := F_Mo) (j := 15) (hk := hk0) (ht := ht0) (ht2 := by decide) (hc := rfl) (hin := u_in_Mo) (hj := by decide) (hj2 := by decide) (hf := rfl) (n9 := 14) (hfo := rfl) (hT := rfl) (hw := w_1284) (hd := d_Mo_copyEntry_90) (kk := ?_)
      refine a_iload_n fx 2 d_Mo_copyEntry_93 rfl rfl ?_
      obtain ⟨hin, h⟩ := h
      refine a_iald fx (lo_9_15 hk0 ht0).1 (lo_9_15 hk0 ht0).2 hin d_Mo_copyEntry_94 ?_
      obtain ⟨hin, h⟩ := h
      refine a_iast fx (lo_9_15 hk0 ht0).1 (lo_9_15 hk0 ht0).2 hin d_Mo_copyEntry_95 (a_mem (fun M5 eM5 => ?_))
      have h := h M5 eM5
      refine a_aload_n fx 0 d_Mo_copyEntry_96 rfl rfl ?_
      refine a_getS fx (T := F_Mo) (j := 16) (hk := hk0) (ht := ht0) (ht2 := by decide) (hc := rfl) (hin := u_in_Mo) (hj := by decide) (hj2 := by decide) (hf := rfl) (n9 := 15) (hfo := rfl) (hT := rfl) (hw := w_1285) (hd := d_Mo_copyEntry_97) (kk := ?_)
      refine a_iload_n fx 1 d_Mo_copyEntry_100 rfl rfl ?_
      refine a_aload_n fx 0 d_Mo_copyEntry_101 rfl rfl ?_
      refine a_getS fx (T := F_Mo) (j := 16) (hk := hk0) (ht := ht0) (ht2 := by decide) (hc := rfl) (hin := u_in_Mo) (hj := by decide) (hj2 := by decide) (hf := rfl) (n9 := 15) (hfo := rfl) (hT := rfl) (hw := w_1285) (hd := d_Mo_copyEntry_102) (kk := ?_)
      refine a_iload_n fx 2 d_Mo_copyEntry_105 rfl rfl ?_
      obtain ⟨hin, h⟩ := h
      refine a_iald fx (lo_9_16 hk0 ht0).1 (lo_9_16 hk0 ht0).2 hin d_Mo_copyEntry_106 ?_
      obtain ⟨hin, h⟩ := h
      refine a_iast fx (lo_9_16 hk0 ht0).1 (lo_9_16 hk0 ht0).2 hin d_Mo_copyEntry_107 (a_mem (fun M6 eM6 => ?_))
      have h := h M6 eM6
      refine a_aload_n fx 0 d_Mo_copyEntry_108 rfl rfl ?_
      refine a_getS fx (T := F_Mo) (j := 17) (hk := hk0) (ht := ht0) (ht2 := by decide) (hc := rfl) (hin := u_in_Mo) (hj := by decide) (hj2 := by decide) (hf := rfl) (n9 := 16) (hfo := rfl) (hT := rfl) (hw := w_1286) (hd := d_Mo_copyEntry_109) (kk := ?_)
      refine a_iload_n fx 1 d_Mo_copyEntry_112 rfl rfl ?_
      refine a_aload_n fx 0 d_Mo_copyEntry_113 rfl rfl ?_
      refine a_getS fx (T := F_Mo) (j := 17) (hk := hk0) (ht := ht0) (ht2 := by decide) (hc := rfl) (hin := u_in_Mo) (hj := by decide) (hj2 := by decide) (hf := rfl) (n9 := 16) (hfo := rfl) (hT := rfl) (hw := w_1286) (hd := d_Mo_copyEntry_114) (kk := ?_)
      refine a_iload_n fx 2 d_Mo_copyEntry_117 rfl rfl ?_
      obtain ⟨hin, h⟩ := h
      refine a_iald fx (lo_9_17 hk0 ht0).1 (lo_9_17 hk0 ht0).2 hin d_Mo_copyEntry_118 ?_
      obtain ⟨hin, h⟩ := h
      refine a_iast fx (lo_9_17 hk0 ht0).1 (lo_9_17 hk0 ht0).2 hin d_Mo_copyEntry_119 (a_mem (fun M7 eM7 => ?_))
      have h := h M7 eM7
      refine a_aload_n fx 0 d_Mo_copyEntry_120 rfl rfl ?_
      refine a_getS fx (T := F_Mo) (j := 18) (hk := hk0) (ht := ht0) (ht2 := by decide) (hc := rfl) (hin := u_in_Mo) (hj := by decide) (hj2 := by decide) (hf := rfl) (n9 := 17) (hfo := rfl) (hT := rfl) (hw := w_1287) (hd := d_Mo_copyEntry_121) (kk := ?_)
      refine a_iload_n fx 1 d_Mo_copyEntry_124 rfl rfl ?_
      refine a_aload_n fx 0 d_Mo_copyEntry_125 rfl rfl ?_
      refine a_getS fx (T := F_Mo) (j := 18) (hk := hk0) (ht := ht0) (ht2 := by decide) (hc := rfl) (hin := u_in_Mo) (hj := by decide) (hj2 := by decide) (hf := rfl) (n9 := 17) (hfo := rfl) (hT := rfl) (hw := w_1287) (hd := d_Mo_copyEntry_126) (kk := ?_)
      refine a_iload_n fx 2 d_Mo_copyEntry_129 rfl rfl ?_
      obtain ⟨hin, h⟩ := h
      refine a_iald fx (lo_9_18 hk0 ht0).1 (lo_9_18 hk0 ht0).2 hin d_Mo_copyEntry_130 ?_
      obtain ⟨hin, h⟩ := h
      refine a_iast fx (lo_9_18 hk0 ht0).1 (lo_9_18 hk0 ht0).2 hin d_Mo_copyEntry_131 (a_mem (fun M8 eM8 => ?_))
      have h := h M8 eM8
      refine a_aload_n fx 0 d_Mo_copyEntry_132 rfl rfl ?_
      refine a_getS fx (T := F_Mo) (j := 19) (hk := hk0) (ht := ht0) (ht2 := by decide) (hc := rfl) (hin := u_in_Mo) (hj := by decide) (hj2 := by decide) (hf := rfl) (n9 := 18) (hfo := rfl) (hT := rfl) (hw := w_1288) (hd := d_Mo_copyEntry_133) (kk := ?_)
      refine a_iload_n fx 1 d_Mo_copyEntry_136 rfl rfl ?_
      refine a_aload_n fx 0 d_Mo_copyEntry_137 rfl rfl ?_
      refine a_getS fx (T := F_Mo) (j := 19) (hk := hk0) (ht := ht0) (ht2 := by decide) (hc := rfl) (hin := u_in_Mo) (hj := by decide) (hj2 := by decide) (hf := rfl) (n9 := 18) (hfo := rfl) (hT := rfl) (hw := w_1288) (hd := d_Mo_copyEntry_138) (kk := ?_)
      refine a_iload_n fx 2 d_Mo_copyEntry_141 rfl rfl ?_
      obtain ⟨hin, h⟩ := h
      refine a_iald fx (lo_9_19 hk0 ht0).1 (lo_9_19 hk0 ht0).2 hin d_Mo_copyEntry_142 ?_
      obtain ⟨hin, h⟩ := h
      refine a_iast fx (lo_9_19 hk0 ht0).1 (lo_9_19 hk0 ht0).2 hin d_Mo_copyEntry_143 (a_mem (fun M9 eM9 => ?_))
      have h := h M9 eM9
      exact a_vret fx hlo hr h d_Mo_copyEntry_144
    · have h := h.2 hc
      refine a_aload_n fx 0 d_Mo_copyEntry_20 rfl rfl ?_
      refine a_getS fx (T := F_Mo) (j := 10) (hk := hk0) (ht := ht0) (ht2 := by decide) (hc := rfl) (hin := u_in_Mo) (hj := by decide) (hj2 := by decide) (hf := rfl) (n9 := 9) (hfo := rfl) (hT := rfl) (hw := w_1279) (hd := d_Mo_copyEntry_21) (kk := ?_)
      refine a_bipush (v := 60) fx d_Mo_copyEntry_24 rfl ?_
      refine a_iload_n fx 1 d_Mo_copyEntry_26 rfl rfl ?_
      refine a_imul fx d_Mo_copyEntry_27 ?_
      refine a_iload_n fx 3 d_Mo_copyEntry_28 rfl rfl ?_
      refine a_iadd fx d_Mo_copyEntry_29 ?_
      refine a_aload_n fx 0 d_Mo_copyEntry_30 rfl rfl ?_
      refine a_getS fx (T := F_Mo) (j := 10) (hk := hk0) (ht := ht0) (ht2 := by decide) (hc := rfl) (hin := u_in_Mo) (hj := by decide) (hj2 := by decide) (hf := rfl) (n9 := 9) (hfo := rfl) (hT := rfl) (hw := w_1279) (hd := d_Mo_copyEntry_31) (kk := ?_)
      refine a_bipush (v := 60) fx d_Mo_copyEntry_34 rfl ?_
      refine a_iload_n fx 2 d_Mo_copyEntry_36 rfl rfl ?_
      refine a_imul fx d_Mo_copyEntry_37 ?_
      refine a_iload_n fx 3 d_Mo_copyEntry_38 rfl rfl ?_
      refine a_iadd fx d_Mo_copyEntry_39 ?_
      obtain ⟨hin, h⟩ := h
      refine a_bald fx (lo_9_10 hk0 ht0).1 (lo_9_10 hk0 ht0).2 hin d_Mo_copyEntry_40 ?_
      obtain ⟨hin, h⟩ := h
      refine a_bast fx (lo_9_10 hk0 ht0).1 (lo_9_10 hk0 ht0).2 hin d_Mo_copyEntry_41 (a_mem (fun M10 eM10 => ?_))
      have h := h M10 eM10
      obtain ⟨x11, ex11⟩ : ∃ z : Int32, z = v3 + 1 := ⟨_, rfl⟩
      have h := h x11 ex11
      refine a_iinc (lv2 := [(3, .int x11), (0, .ref (B + a0)), (1, .int i1), (2, .int i2)]) fx 3 d_Mo_copyEntry_42 rfl ex11.symm (by decide) rfl ?_
      refine a_goto fx 14 d_Mo_copyEntry_45 rfl ?_
      refine a_sub [1, 2, 3, 0] rfl ?_
      exact h)
  refine a_aload_n fx 0 d_Mo_copyEntry_0 rfl rfl ?_
  refine a_getS fx (T := F_Mo) (j := 11) (hk := hk0) (ht := ht0) (ht2 := by decide) (hc := rfl) (hin := u_in_Mo) (hj := by decide) (hj2 := by decide) (hf := rfl) (n9 := 10) (hfo := rfl) (hT := rfl) (hw := w_1280) (hd := d_Mo_copyEntry_1) (kk := ?_)
  refine a_iload_n fx 1 d_Mo_copyEntry_4 rfl rfl ?_
  refine a_aload_n fx 0 d_Mo_copyEntry_5 rfl rfl ?_
  refine a_getS fx (T := F_Mo) (j := 11) (hk := hk0) (ht := ht0) (ht2 := by decide) (hc := rfl) (hin := u_in_Mo) (hj := by decide) (hj2 := by decide) (hf := rfl) (n9 := 10) (hfo := rfl) (hT := rfl) (hw := w_1280) (hd := d_Mo_copyEntry_6) (kk := ?_)
  refine a_iload_n fx 2 d_Mo_copyEntry_9 rfl rfl ?_
  obtain ⟨hin, h⟩ := h
  refine a_iald fx (lo_9_11 hk0 ht0).1 (lo_9_11 hk0 ht0).2 hin d_Mo_copyEntry_10 ?_
  obtain ⟨hin, h⟩ := h
  refine a_iast fx (lo_9_11 hk0 ht0).1 (lo_9_11 hk0 ht0).2 hin d_Mo_copyEntry_11 (a_mem (fun M1 eM1 => ?_))
  have h := h M1 eM1
  refine a_iconst (v := 0) fx d_Mo_copyEntry_12 rfl ?_
  refine a_istore_n (lv2 := [(3, .int 0), (0, .ref (B + a0)), (1, .int i1), (2, .int i2)]) fx d_Mo_copyEntry_13 rfl (by decide) rfl ?_
  refine a_sub [1, 2, 3, 0] rfl ?_
  exact h
set_option maxRecDepth 100000 in
set_option maxHeartbeats 4000000 in
theorem Met_Mo_enter (l : Launch) (B : Nat) (D : va_G) (aC : Nat → ClassId) (aS : Nat → Nat) {a0 : Nat} {i1 : Int32} {M : zM} {post : Int32 → zM → Prop} (hk0 : a0 < N0) (ht0 : tg a0 = 9) (h : Wp_Mo_enter a0 i1 M post) : Met l y_Mo_enter (wo y_Mo_enter b_Mo_enter 5 (some FieldType.int)) { frames := 1, cells := 0, slots := 0, locals := 25 } (va_Pc [.ref (B + a0), .int i1] (zWl B D aC aS M)) (zQi B D aC post) 0 0 (zAb B) := by
  refine z_met (own := "MailChainModel") (lv0 := [(0, .ref (B + a0)), (1, .int i1)]) (by decide) rfl (Nat.le_of_ble_eq_true rfl) rfl ?_
  intro p e s m below meth c fx hr hlo
  delta Wp_Mo_enter at h
  have h := h (fun v2 M => zAt p l e { frames := 1, cells := 0, slots := 0, locals := 25 } s m ([.ref (B + a0), .int i1] : List Value).toArray below meth c 0 0 (MQ below (zQi B D aC post) ([.ref (B + a0), .int i1] : List Value).toArray s 0 0 (zAb B)) B D aC 5 7 [(0, .ref (B + a0)), (1, .int i1), (2, .int v2)] [] M)
  have h := h (fun v2 M => zAt p l e { frames := 1, cells := 0, slots := 0, locals := 25 } s m ([.ref (B + a0), .int i1] : List Value).toArray below meth c 0 0 (MQ below (zQi B D aC post) ([.ref (B + a0), .int i1] : List Value).toArray s 0 0 (zAb B)) B D aC 5 51 [(0, .ref (B + a0)), (1, .int i1), (2, .int v2)] [] M)
  have h := h (fun v3 v4 M => zAt p l e { frames := 1, cells := 0, slots := 0, locals := 25 } s m ([.ref (B + a0), .int i1] : List Value).toArray below meth c 0 0 (MQ below (zQi B D aC post) ([.ref (B + a0), .int i1] : List Value).toArray s 0 0 (zAb B)) B D aC 5 80 [(0, .ref (B + a0)), (1, .int i1), (3, .int v3), (4, .int v4)] [] M)
  have h := h (by
    intro v2 M h
    refine a_iload_n fx 2 d_Mo_enter_7 rfl rfl ?_
    refine a_if_le fx 51 d_Mo_enter_8 rfl (fun hc => ?_) (fun hc => ?_)
    · have h := h.1 hc
      refine a_sub [0, 1, 2] rfl ?_
      exact h
    · have h := h.2 hc
      refine a_aload_n fx 0 d_Mo_enter_11 rfl rfl ?_
      refine a_iload_n fx 1 d_Mo_enter_12 rfl rfl ?_
      refine a_iload_n fx 2 d_Mo_enter_13 rfl rfl ?_
      refine a_iconst (v := 1) fx d_Mo_enter_14 rfl ?_
      refine a_isub fx d_Mo_enter_15 ?_
      refine a_calli (rest := [.ref (B + a0)]) (a_runS (As := [.int i1, .int (v2 - 1)]) fx  cv_Mo_at w_1503 (Met_Mo_at l B D aC aS  h) rfl rfl (Nat.le_of_ble_eq_true rfl) rfl rfl ⟨Nat.le_of_ble_eq_true rfl, Nat.le_of_ble_eq_true rfl⟩ d_Mo_enter_16 ⟨Nat.le_of_ble_eq_true rfl, Nat.le_of_ble_eq_true rfl⟩) (fun x3 M2 h => ?_)
      refine a_aload_n fx 0 d_Mo_enter_19 rfl rfl ?_
      refine a_getI fx (T := F_Mo) (j := 24) (hk := hk0) (ht := ht0) (ht2 := by decide) (hc := rfl) (hin := u_in_Mo) (hj := by decide) (hj2 := by decide) (hf := rfl) (hT := rfl) (hw := w_1293) (hd := d_Mo_enter_20) (kk := ?_)
      refine a_calli (rest := []) (a_runV (As := [.int x3, .int (M2.1 a0 24)]) fx cv_Mo_compare w_1506 (Met_Mo_compare l B D aC aS (hk0 := hk0) (ht0 := ht0) h) hk0 ht0 (by decide) rfl rfl rfl (Nat.le_of_ble_eq_true rfl) rfl rfl ⟨Nat.le_of_ble_eq_true rfl, Nat.le_of_ble_eq_true rfl⟩ d_Mo_enter_23 ⟨Nat.le_of_ble_eq_true rfl, Nat.le_of_ble_eq_true rfl⟩) (fun x5 M4 h => ?_)
      refine a_if_le fx 51 d_Mo_enter_26 rfl (fun hc => ?_) (fun hc => ?_)
      · have h := h.1 hc
        refine a_sub [0, 1, 2] rfl ?_
        exact h
      · have h := h.2 hc
        refine a_aload_n fx 0 d_Mo_enter_29 rfl rfl ?_
        refine a_iload_n fx 1 d_Mo_enter_30 rfl rfl ?_
        refine a_iload_n fx 2 d_Mo_enter_31 rfl rfl ?_
        refine a_calli (rest := [.ref (B + a0)]) (a_runS (As := [.int i1, .int v2]) fx  cv_Mo_at w_1503 (Met_Mo_at l B D aC aS  h) rfl rfl (Nat.le_of_ble_eq_true rfl) rfl rfl ⟨Nat.le_of_ble_eq_true rfl, Nat.le_of_ble_eq_true rfl⟩ d_Mo_enter_32 ⟨Nat.le_of_ble_eq_true rfl, Nat.le_of_ble_eq_true rfl⟩) (fun x7 M6 h => ?_)
        refine a_iload_n fx 1 d_Mo_enter_35 rfl rfl ?_
        refine a_iload_n fx 2 d_Mo_enter_36 rfl rfl ?_
        refine a_iconst (v := 1) fx d_Mo_enter_37 rfl ?_
        refine a_isub fx d_Mo_enter_38 ?_
        refine a_calli (rest := [.int x7, .ref (B + a0)]) (a_runS (As := [.int i1, .int (v2 - 1)]) fx  cv_Mo_at w_1503 (Met_Mo_at l B D aC aS  h) rfl rfl (Nat.le_of_ble_eq_true rfl) rfl rfl ⟨Nat.le_of_ble_eq_true rfl, Nat.le_of_ble_eq_true rfl⟩ d_Mo_enter_39 ⟨Nat.le_of_ble_eq_true rfl, Nat.le_of_ble_eq_true rfl⟩) (fun x9 M8 h => ?_)
        refine a_callv (rest := []) (a_runV (As := [.int x7, .int x9]) fx cv_Mo_copyEntry w_1518 (Met_Mo_copyEntry l B D aC aS (hk0 := hk0) (ht0 := ht0) h) hk0 ht0 (by decide) rfl rfl rfl (Nat.le_of_ble_eq_true rfl) rfl rfl ⟨Nat.le_of_ble_eq_true rfl, Nat.le_of_ble_eq_true rfl⟩ d_Mo_enter_42 ⟨Nat.le_of_ble_eq_true rfl, Nat.le_of_ble_eq_true rfl⟩) (fun M10 h => ?_)
        obtain ⟨x11, ex11⟩ : ∃ z : Int32, z = v2 + (-1) := ⟨_, rfl⟩
        have h := h x11 ex11
        refine a_iinc (lv2 := [(2, .int x11), (0, .ref (B + a0)), (1, .int i1)]) fx 2 d_Mo_enter_45 rfl ex11.symm (by decide) rfl ?_
        refine a_goto fx 7 d_Mo_enter_48 rfl ?_
        refine a_sub [1, 2, 0] rfl ?_
        exact h)
  have h := h (by
    intro v2 M h
    refine a_aload_n fx 0 d_Mo_enter_51 rfl rfl ?_
    refine a_getS fx (T := F_Mo) (j := 9) (hk := hk0) (ht := ht0) (ht2 := by decide) (hc := rfl) (hin := u_in_Mo) (hj := by decide) (hj2 := by decide) (hf := rfl) (n9 := 8) (hfo := rfl) (hT := rfl) (hw := w_1278) (hd := d_Mo_enter_52) (kk := ?_)
    refine a_iload_n fx 1 d_Mo_enter_55 rfl rfl ?_
    refine a_dup2 fx d_Mo_enter_56 rfl rfl ?_
    obtain ⟨hin, h⟩ := h
    refine a_iald fx (lo_9_9 hk0 ht0).1 (lo_9_9 hk0 ht0).2 hin d_Mo_enter_57 ?_
    refine a_iconst (v := 1) fx d_Mo_enter_58 rfl ?_
    refine a_iadd fx d_Mo_enter_59 ?_
    obtain ⟨hin, h⟩ := h
    refine a_iast fx (lo_9_9 hk0 ht0).1 (lo_9_9 hk0 ht0).2 hin d_Mo_enter_60 (a_mem (fun M12 eM12 => ?_))
    have h := h M12 eM12
    refine a_iload_n fx 1 d_Mo_enter_61 rfl rfl ?_
    refine a_iload_n fx 2 d_Mo_enter_62 rfl rfl ?_
    refine a_calli (rest := []) (a_runS (As := [.int i1, .int v2]) fx  cv_Mo_at w_1503 (Met_Mo_at l B D aC aS  h) rfl rfl (Nat.le_of_ble_eq_true rfl) rfl rfl ⟨Nat.le_of_ble_eq_true rfl, Nat.le_of_ble_eq_true rfl⟩ d_Mo_enter_63 ⟨Nat.le_of_ble_eq_true rfl, Nat.le_of_ble_eq_true rfl⟩) (fun x14 M13 h => ?_)
    refine a_istore_n (lv2 := [(3, .int x14), (0, .ref (B + a0)), (1, .int i1), (2, .int v2)]) fx d_Mo_enter_66 rfl (by decide) rfl ?_
    refine a_aload_n fx 1 d_Mo_enter_67 rfl rfl ?_
    refine a_getS fx (T := F_Mo) (j := 11) (hk := hk0) (ht := ht0) (ht2 := by decide) (hc := rfl) (hin := u_in_Mo) (hj := by decide) (hj2 := by decide) (hf := rfl) (n9 := 10) (hfo := rfl) (hT := rfl) (hw := w_1280) (hd := d_Mo_enter_68) (kk := ?_)
    refine a_iload_n fx 0 d_Mo_enter_71 rfl rfl ?_
    refine a_aload_n fx 1 d_Mo_enter_72 rfl rfl ?_
    refine a_getI fx (T := F_Mo) (j := 24) (hk := hk0) (ht := ht0) (ht2 := by decide) (hc := rfl) (hin := u_in_Mo) (hj := by decide) (hj2 := by decide) (hf := rfl) (hT := rfl) (hw := w_1293) (hd := d_Mo_enter_73) (kk := ?_)
    obtain ⟨hin, h⟩ := h
    refine a_iast fx (lo_9_11 hk0 ht0).1 (lo_9_11 hk0 ht0).2 hin d_Mo_enter_76 (a_mem (fun M15 eM15 => ?_))
    have h := h M15 eM15
    refine a_iconst (v := 0) fx d_Mo_enter_77 rfl ?_
    refine a_istore (lv2 := [(4, .int 0), (3, .int x14), (0, .ref (B + a0)), (1, .int i1), (2, .int v2)]) fx d_Mo_enter_78 (by decide) rfl ?_
    refine a_sub [2, 3, 1, 0] rfl ?_
    exact h)
  have h := h (by
    intro v3 v4 M h
    refine a_iload fx 3 d_Mo_enter_80 rfl ?_
    refine a_aload_n fx 0 d_Mo_enter_82 rfl rfl ?_
    refine a_getI fx (T := F_Mo) (j := 24) (hk := hk0) (ht := ht0) (ht2 := by decide) (hc := rfl) (hin := u_in_Mo) (hj := by decide) (hj2 := by decide) (hf := rfl) (hT := rfl) (hw := w_1293) (hd := d_Mo_enter_83) (kk := ?_)
    refine a_icmp_ge fx 114 d_Mo_enter_86 rfl (fun hc => ?_) (fun hc => ?_)
    · have h := h.1 hc
      refine a_iload_n fx 2 d_Mo_enter_114 rfl rfl ?_
      exact a_iret fx hlo hr h d_Mo_enter_115
    · have h := h.2 hc
      refine a_aload_n fx 0 d_Mo_enter_89 rfl rfl ?_
      refine a_getS fx (T := F_Mo) (j := 10) (hk := hk0) (ht := ht0) (ht2 := by decide) (hc := rfl) (hin := u_in_Mo) (hj := by decide) (hj2 := by decide) (hf := rfl) (n9 := 9) (hfo := rfl) (hT := rfl) (hw := w_1279) (hd := d_Mo_enter_90) (kk := ?_)
      refine a_bipush (v := 60) fx d_Mo_enter_93 rfl ?_
      refine a_iload_n fx 2 d_Mo_enter_95 rfl rfl ?_
      refine a_imul fx d_Mo_enter_96 ?_
      refine a_iload fx 3 d_Mo_enter_97 rfl ?_
      refine a_iadd fx d_Mo_enter_99 ?_
      refine a_aload_n fx 0 d_Mo_enter_100 rfl rfl ?_
      refine a_getS fx (T := F_Mo) (j := 23) (hk := hk0) (ht := ht0) (ht2 := by decide) (hc := rfl) (hin := u_in_Mo) (hj := by decide) (hj2 := by decide) (hf := rfl) (n9 := 21) (hfo := rfl) (hT := rfl) (hw := w_1292) (hd := d_Mo_enter_101) (kk := ?_)
      refine a_iload fx 3 d_Mo_enter_104 rfl ?_
      obtain ⟨hin, h⟩ := h
      refine a_bald fx (lo_9_23 hk0 ht0).1 (lo_9_23 hk0 ht0).2 hin d_Mo_enter_106 ?_
      obtain ⟨hin, h⟩ := h
      refine a_bast fx (lo_9_10 hk0 ht0).1 (lo_9_10 hk0 ht0).2 hin d_Mo_enter_107 (a_mem (fun M16 eM16 => ?_))
      have h := h M16 eM16
      obtain ⟨x17, ex17⟩ : ∃ z : Int32, z = v4 + 1 := ⟨_, rfl⟩
      have h := h x17 ex17
      refine a_iinc (lv2 := [(4, .int x17), (0, .ref (B + a0)), (1, .int i1), (3, .int v3)]) fx 3 d_Mo_enter_108 rfl ex17.symm (by decide) rfl ?_
      refine a_goto fx 80 d_Mo_enter_111 rfl ?_
      refine a_sub [1, 2, 3, 0] rfl ?_
      exact h)
  refine a_aload_n fx 0 d_Mo_enter_0 rfl rfl ?_
  refine a_getS fx (T := F_Mo) (j := 9) (hk := hk0) (ht := ht0) (ht2 := by decide) (hc := rfl) (hin := u_in_Mo) (hj := by decide) (hj2 := by decide) (hf := rfl) (n9 := 8) (hfo := rfl) (hT := rfl) (hw := w_1278) (hd := d_Mo_enter_1) (kk := ?_)
  refine a_iload_n fx 1 d_Mo_enter_4 rfl rfl ?_
  obtain ⟨hin, h⟩ := h
  refine a_iald fx (lo_9_9 hk0 ht0).1 (lo_9_9 hk0 ht0).2 hin d_Mo_enter_5 ?_
  refine a_topi (fun x1 ex1 => ?_)
  have h := h x1 ex1
  refine a_istore_n (lv2 := [(2, .int x1), (0, .ref (B + a0)), (1, .int i1)]) fx d_Mo_enter_6 rfl (by decide) rfl ?_
  refine a_sub [1, 2, 0] rfl ?_
  exact h
set_option maxRecDepth 100000 in
set_option maxHeartbeats 4000000 in
theorem Met_Mo_isNumber (l : Launch) (B : Nat) (D : va_G) (aC : Nat → ClassId) (aS : Nat → Nat) {i0 : Int32} {M : zM} {post : Int32 → zM → Prop}  (h : Wp_Mo_isNumber i0 M post) : Met l y_Mo_isNumber (wo y_Mo_isNumber b_Mo_isNumber 1 (some FieldType.boolean)) { frames := 0, cells := 0, slots := 0, locals := 0 } (va_Pc [.int i0] (zWl B D aC aS M)) (zQi B D aC post) 0 0 (zAb B) := by
  refine z_met (own := "MailChainModel") (lv0 := [(0, .int i0)]) (by decide) rfl (Nat.le_of_ble_eq_true rfl) rfl ?_
  intro p e s m below meth c fx hr hlo
  delta Wp_Mo_isNumber at h
  refine a_iload_n fx 0 d_Mo_isNumber_0 rfl rfl ?_
  refine a_if_lt fx 8 d_Mo_isNumber_1 rfl (fun hc => ?_) (fun hc => ?_)
  · have h := h.1 hc
    refine a_iconst (v := 0) fx d_Mo_isNumber_8 rfl ?_
    exact a_zret fx hlo hr rfl h d_Mo_isNumber_9
  · have h := h.2 hc
    refine a_iconst (v := 1) fx d_Mo_isNumber_4 rfl ?_
    refine a_goto fx 9 d_Mo_isNumber_5 rfl ?_
    exact a_zret fx hlo hr rfl h d_Mo_isNumber_9
set_option maxRecDepth 100000 in
set_option maxHeartbeats 4000000 in
theorem Met_Mo_isTarget (l : Launch) (B : Nat) (D : va_G) (aC : Nat → ClassId) (aS : Nat → Nat) {a0 : Nat} {i1 : Int32} {i2 : Int32} {M : zM} {post : Int32 → zM → Prop} (hk0 : a0 < N0) (ht0 : tg a0 = 20) (h : Wp_Mo_isTarget a0 i1 i2 M post) : Met l y_Mo_isTarget (wo y_Mo_isTarget b_Mo_isTarget 5 (some FieldType.boolean)) { frames := 0, cells := 0, slots := 0, locals := 0 } (va_Pc [.ref (B + a0), .int i1, .int i2] (zWl B D aC aS M)) (zQi B D aC post) 0 0 (zAb B) := by
  refine z_met (own := "MailChainModel") (lv0 := [(0, .ref (B + a0)), (1, .int i1), (2, .int i2)]) (by decide) rfl (Nat.le_of_ble_eq_true rfl) rfl ?_
  intro p e s m below meth c fx hr hlo
  delta Wp_Mo_isTarget at h
  have h := h (fun v3 v4 M => zAt p l e { frames := 0, cells := 0, slots := 0, locals := 0 } s m ([.ref (B + a0), .int i1, .int i2] : List Value).toArray below meth c 0 0 (MQ below (zQi B D aC post) ([.ref (B + a0), .int i1, .int i2] : List Value).toArray s 0 0 (zAb B)) B D aC 5 20 [(0, .ref (B + a0)), (1, .int i1), (2, .int i2), (3, .int v3), (4, .int v4)] [] M)
  have h := h (by
    intro v3 v4 M h
    refine a_iload fx 4 d_Mo_isTarget_20 rfl ?_
    refine a_iload_n fx 2 d_Mo_isTarget_22 rfl rfl ?_
    refine a_icmp_ge fx 51 d_Mo_isTarget_23 rfl (fun hc => ?_) (fun hc => ?_)
    · have h := h.1 hc
      refine a_iload_n fx 3 d_Mo_isTarget_51 rfl rfl ?_
      exact a_zret fx hlo hr h.1 h.2 d_Mo_isTarget_52
    · have h := h.2 hc
      refine a_iload_n fx 3 d_Mo_isTarget_26 rfl rfl ?_
      refine a_if_eq fx 51 d_Mo_isTarget_27 rfl (fun hc => ?_) (fun hc => ?_)
      · have h := h.1 hc
        refine a_iload_n fx 3 d_Mo_isTarget_51 rfl rfl ?_
        exact a_zret fx hlo hr h.1 h.2 d_Mo_isTarget_52
      · have h := h.2 hc
        refine a_aload_n fx 0 d_Mo_isTarget_30 rfl rfl ?_
        refine a_iload_n fx 1 d_Mo_isTarget_31 rfl rfl ?_
        refine a_iload fx 4 d_Mo_isTarget_32 rfl ?_
        refine a_iadd fx d_Mo_isTarget_34 ?_
        obtain ⟨hin, h⟩ := h
        refine a_bald fx hk0 ht0 hin d_Mo_isTarget_35 ?_
        refine a_if_eq fx 43 d_Mo_isTarget_36 rfl (fun hc => ?_) (fun hc => ?_)
        · have h := h.1 hc
          refine a_iconst (v := 0) fx d_Mo_isTarget_43 rfl ?_
          refine a_istore_n (lv2 := [(3, .int 0), (0, .ref (B + a0)), (1, .int i1), (2, .int i2), (4, .int v4)]) fx d_Mo_isTarget_44 rfl (by decide) rfl ?_
          obtain ⟨x1, ex1⟩ : ∃ z : Int32, z = v4 + 1 := ⟨_, rfl⟩
          have h := h x1 ex1
          refine a_iinc (lv2 := [(4, .int x1), (3, .int 0), (0, .ref (B + a0)), (1, .int i1), (2, .int i2)]) fx 4 d_Mo_isTarget_45 rfl ex1.symm (by decide) rfl ?_
          refine a_goto fx 20 d_Mo_isTarget_48 rfl ?_
          refine a_sub [2, 3, 4, 1, 0] rfl ?_
          exact h
        · have h := h.2 hc
          refine a_iconst (v := 1) fx d_Mo_isTarget_39 rfl ?_
          refine a_goto fx 44 d_Mo_isTarget_40 rfl ?_
          refine a_istore_n (lv2 := [(3, .int 1), (0, .ref (B + a0)), (1, .int i1), (2, .int i2), (4, .int v4)]) fx d_Mo_isTarget_44 rfl (by decide) rfl ?_
          obtain ⟨x2, ex2⟩ : ∃ z : Int32, z = v4 + 1 := ⟨_, rfl⟩
          have h := h x2 ex2
          refine a_iinc (lv2 := [(4, .int x2), (3, .int 1), (0, .ref (B + a0)), (1, .int i1), (2, .int i2)]) fx 4 d_Mo_isTarget_45 rfl ex2.symm (by decide) rfl ?_
          refine a_goto fx 20 d_Mo_isTarget_48 rfl ?_
          refine a_sub [2, 3, 4, 1, 0] rfl ?_
          exact h)
  refine a_iload_n fx 2 d_Mo_isTarget_0 rfl rfl ?_
  refine a_iconst (v := 1) fx d_Mo_isTarget_1 rfl ?_
  refine a_icmp_lt fx 15 d_Mo_isTarget_2 rfl (fun hc => ?_) (fun hc => ?_)
  · have h := h.1 hc
    refine a_iconst (v := 0) fx d_Mo_isTarget_15 rfl ?_
    refine a_istore_n (lv2 := [(3, .int 0), (0, .ref (B + a0)), (1, .int i1), (2, .int i2)]) fx d_Mo_isTarget_16 rfl (by decide) rfl ?_
    refine a_iconst (v := 0) fx d_Mo_isTarget_17 rfl ?_
    refine a_istore (lv2 := [(4, .int 0), (3, .int 0), (0, .ref (B + a0)), (1, .int i1), (2, .int i2)]) fx d_Mo_isTarget_18 (by decide) rfl ?_
    refine a_sub [2, 3, 4, 1, 0] rfl ?_
    exact h
  · have h := h.2 hc
    refine a_iload_n fx 2 d_Mo_isTarget_5 rfl rfl ?_
    refine a_bipush (v := 60) fx d_Mo_isTarget_6 rfl ?_
    refine a_icmp_gt fx 15 d_Mo_isTarget_8 rfl (fun hc => ?_) (fun hc => ?_)
    · have h := h.1 hc
      refine a_iconst (v := 0) fx d_Mo_isTarget_15 rfl ?_
      refine a_istore_n (lv2 := [(3, .int 0), (0, .ref (B + a0)), (1, .int i1), (2, .int i2)]) fx d_Mo_isTarget_16 rfl (by decide) rfl ?_
      refine a_iconst (v := 0) fx d_Mo_isTarget_17 rfl ?_
      refine a_istore (lv2 := [(4, .int 0), (3, .int 0), (0, .ref (B + a0)), (1, .int i1), (2, .int i2)]) fx d_Mo_isTarget_18 (by decide) rfl ?_
      refine a_sub [2, 3, 4, 1, 0] rfl ?_
      exact h
    · have h := h.2 hc
      refine a_iconst (v := 1) fx d_Mo_isTarget_11 rfl ?_
      refine a_goto fx 16 d_Mo_isTarget_12 rfl ?_
      refine a_istore_n (lv2 := [(3, .int 1), (0, .ref (B + a0)), (1, .int i1), (2, .int i2)]) fx d_Mo_isTarget_16 rfl (by decide) rfl ?_
      refine a_iconst (v := 0) fx d_Mo_isTarget_17 rfl ?_
      refine a_istore (lv2 := [(4, .int 0), (3, .int 1), (0, .ref (B + a0)), (1, .int i1), (2, .int i2)]) fx d_Mo_isTarget_18 (by decide) rfl ?_
      refine a_sub [2, 3, 4, 1, 0] rfl ?_
      exact h
set_option maxRecDepth 100000 in
set_option maxHeartbeats 4000000 in
theorem Met_Mo_mayBe (l : Launch) (B : Nat) (D : va_G) (aC : Nat → ClassId) (aS : Nat → Nat) {a0 : Nat} {i1 : Int32} {i2 : Int32} {M : zM} {post : Int32 → zM → Prop} (hk0 : a0 < N0) (ht0 : tg a0 = 9) (h : Wp_Mo_mayBe a0 i1 i2 M post) : Met l y_Mo_mayBe (wo y_Mo_mayBe b_Mo_mayBe 4 (some FieldType.boolean)) { frames := 1, cells := 0, slots := 0, locals := 24 } (va_Pc [.ref (B + a0), .int i1, .int i2] (zWl B D aC aS M)) (zQi B D aC post) 0 0 (zAb B) := by
  refine z_met (own := "MailChainModel") (lv0 := [(0, .ref (B + a0)), (1, .int i1), (2, .int i2)]) (by decide) rfl (Nat.le_of_ble_eq_true rfl) rfl ?_
  intro p e s m below meth c fx hr hlo
  delta Wp_Mo_mayBe at h
  refine a_aload_n fx 0 d_Mo_mayBe_0 rfl rfl ?_
  refine a_getI fx (T := F_Mo) (j := 7) (hk := hk0) (ht := ht0) (ht2 := by decide) (hc := rfl) (hin := u_in_Mo) (hj := by decide) (hj2 := by decide) (hf := rfl) (hT := rfl) (hw := w_1276) (hd := d_Mo_mayBe_1) (kk := ?_)
  refine a_iload_n fx 2 d_Mo_mayBe_4 rfl rfl ?_
  refine a_isub fx d_Mo_mayBe_5 ?_
  refine a_topi (fun x1 ex1 => ?_)
  have h := h x1 ex1
  refine a_istore_n (lv2 := [(3, .int x1), (0, .ref (B + a0)), (1, .int i1), (2, .int i2)]) fx d_Mo_mayBe_6 rfl (by decide) rfl ?_
  refine a_iload_n fx 2 d_Mo_mayBe_7 rfl rfl ?_
  refine a_iconst (v := 1) fx d_Mo_mayBe_8 rfl ?_
  refine a_icmp_eq fx 35 d_Mo_mayBe_9 rfl (fun hc => ?_) (fun hc => ?_)
  · have h := h.1 hc
    refine a_iconst (v := 1) fx d_Mo_mayBe_35 rfl ?_
    refine a_goto fx 40 d_Mo_mayBe_36 rfl ?_
    exact a_zret fx hlo hr rfl h d_Mo_mayBe_40
  · have h := h.2 hc
    refine a_iload_n fx 2 d_Mo_mayBe_12 rfl rfl ?_
    refine a_if_ne fx 23 d_Mo_mayBe_13 rfl (fun hc => ?_) (fun hc => ?_)
    · have h := h.1 hc
      refine a_aload_n fx 1 d_Mo_mayBe_23 rfl rfl ?_
      refine a_getS fx (T := F_Mo) (j := 8) (hk := hk0) (ht := ht0) (ht2 := by decide) (hc := rfl) (hin := u_in_Mo) (hj := by decide) (hj2 := by decide) (hf := rfl) (n9 := 7) (hfo := rfl) (hT := rfl) (hw := w_1277) (hd := d_Mo_mayBe_24) (kk := ?_)
      refine a_iload_n fx 3 d_Mo_mayBe_27 rfl rfl ?_
      refine a_iload_n fx 0 d_Mo_mayBe_28 rfl rfl ?_
      refine a_calli (rest := []) (a_runS (As := [.ref (B + (a0 + 7)), .int i2, .int x1]) fx  cv_Mo_isTarget w_1488 (Met_Mo_isTarget l B D aC aS (hk0 := (lo_9_8 hk0 ht0).1) (ht0 := (lo_9_8 hk0 ht0).2) h) rfl rfl (Nat.le_of_ble_eq_true rfl) rfl rfl ⟨Nat.le_of_ble_eq_true rfl, Nat.le_of_ble_eq_true rfl⟩ d_Mo_mayBe_29 ⟨Nat.le_of_ble_eq_true rfl, Nat.le_of_ble_eq_true rfl⟩) (fun x3 M2 h => ?_)
      refine a_if_eq fx 39 d_Mo_mayBe_32 rfl (fun hc => ?_) (fun hc => ?_)
      · have h := h.1 hc
        refine a_iconst (v := 0) fx d_Mo_mayBe_39 rfl ?_
        exact a_zret fx hlo hr rfl h d_Mo_mayBe_40
      · have h := h.2 hc
        refine a_iconst (v := 1) fx d_Mo_mayBe_35 rfl ?_
        refine a_goto fx 40 d_Mo_mayBe_36 rfl ?_
        exact a_zret fx hlo hr rfl h d_Mo_mayBe_40
    · have h := h.2 hc
      refine a_iload_n fx 0 d_Mo_mayBe_16 rfl rfl ?_
      refine a_if_ne fx 39 d_Mo_mayBe_17 rfl (fun hc => ?_) (fun hc => ?_)
      · have h := h.1 hc
        refine a_iconst (v := 0) fx d_Mo_mayBe_39 rfl ?_
        exact a_zret fx hlo hr rfl h d_Mo_mayBe_40
      · have h := h.2 hc
        refine a_goto fx 35 d_Mo_mayBe_20 rfl ?_
        refine a_iconst (v := 1) fx d_Mo_mayBe_35 rfl ?_
        refine a_goto fx 40 d_Mo_mayBe_36 rfl ?_
        exact a_zret fx hlo hr rfl h d_Mo_mayBe_40
set_option maxRecDepth 100000 in
set_option maxHeartbeats 4000000 in
theorem Met_Mo_added (l : Launch) (B : Nat) (D : va_G) (aC : Nat → ClassId) (aS : Nat → Nat) {a0 : Nat} {i1 : Int32} {i2 : Int32} {i3 : Int32} {i4 : Int32} {i5 : Int32} {i6 : Int32} {M : zM} {post : Int32 → zM → Prop} (hk0 : a0 < N0) (ht0 : tg a0 = 9) (h : Wp_Mo_added a0 i1 i2 i3 i4 i5 i6 M post) : Met l y_Mo_added (wo y_Mo_added b_Mo_added 11 (some FieldType.int)) { frames := 3, cells := 0, slots := 0, locals := 72 } (va_Pc [.ref (B + a0), .int i1, .int i2, .int i3, .int i4, .int i5, .int i6] (zWl B D aC aS M)) (zQi B D aC post) 0 0 (zAb B) := by
  refine z_met (own := "MailChainModel") (lv0 := [(0, .ref (B + a0)), (1, .int i1), (2, .int i2), (3, .int i3), (4, .int i4), (5, .int i5), (6, .int i6)]) (by decide) rfl (Nat.le_of_ble_eq_true rfl) rfl ?_
  intro p e s m below meth c fx hr hlo
  delta Wp_Mo_added at h
  have h := h (fun w0 M => zAt p l e { frames := 3, cells := 0, slots := 0, locals := 72 } s m ([.ref (B + a0), .int i1, .int i2, .int i3, .int i4, .int i5, .int i6] : List Value).toArray below meth c 0 0 (MQ below (zQi B D aC post) ([.ref (B + a0), .int i1, .int i2, .int i3, .int i4, .int i5, .int i6] : List Value).toArray s 0 0 (zAb B)) B D aC 11 68 [(0, .ref (B + a0)), (1, .int i1), (2, .int i2), (3, .int i3), (4, .int i4), (5, .int i5), (6, .int i6)] [.int w0] M)
  have h := h (fun v7 M => zAt p l e { frames := 3, cells := 0, slots := 0, locals := 72 } s m ([.ref (B + a0), .int i1, .int i2, .int i3, .int i4, .int i5, .int i6] : List Value).toArray below meth c 0 0 (MQ below (zQi B D aC post) ([.ref (B + a0), .int i1, .int i2, .int i3, .int i4, .int i5, .int i6] : List Value).toArray s 0 0 (zAb B)) B D aC 11 116 [(0, .ref (B + a0)), (1, .int i1), (2, .int i2), (3, .int i3), (4, .int i4), (5, .int i5), (6, .int i6), (7, .int v7)] [] M)
  have h := h (fun v8 w0 w1 M => zAt p l e { frames := 3, cells := 0, slots := 0, locals := 72 } s m ([.ref (B + a0), .int i1, .int i2, .int i3, .int i4, .int i5, .int i6] : List Value).toArray below meth c 0 0 (MQ below (zQi B D aC post) ([.ref (B + a0), .int i1, .int i2, .int i3, .int i4, .int i5, .int i6] : List Value).toArray s 0 0 (zAb B)) B D aC 11 182 [(0, .ref (B + a0)), (1, .int i1), (2, .int i2), (3, .int i3), (4, .int i4), (5, .int i5), (6, .int i6), (8, .int v8)] [.int w0, .ref (B + w1)] M)
  have h := h (fun v8 v10 M => zAt p l e { frames := 3, cells := 0, slots := 0, locals := 72 } s m ([.ref (B + a0), .int i1, .int i2, .int i3, .int i4, .int i5, .int i6] : List Value).toArray below meth c 0 0 (MQ below (zQi B D aC post) ([.ref (B + a0), .int i1, .int i2, .int i3, .int i4, .int i5, .int i6] : List Value).toArray s 0 0 (zAb B)) B D aC 11 290 [(0, .ref (B + a0)), (1, .int i1), (2, .int i2), (3, .int i3), (4, .int i4), (5, .int i5), (6, .int i6), (8, .int v8), (10, .int v10)] [] M)
  have h := h (by
    intro w0 M h
    refine a_istore (lv2 := [(7, .int w0), (0, .ref (B + a0)), (1, .int i1), (2, .int i2), (3, .int i3), (4, .int i4), (5, .int i5), (6, .int i6)]) fx d_Mo_added_68 (by decide) rfl ?_
    refine a_iload fx 0 d_Mo_added_70 rfl ?_
    refine a_if_eq fx 116 d_Mo_added_72 rfl (fun hc => ?_) (fun hc => ?_)
    · have h := h.1 hc
      refine a_sub [1, 2, 3, 4, 5, 6, 7, 0] rfl ?_
      exact h
    · have h := h.2 hc
      refine a_aload_n fx 1 d_Mo_added_75 rfl rfl ?_
      refine a_aload_n fx 1 d_Mo_added_76 rfl rfl ?_
      refine a_getS fx (T := F_Mo) (j := 8) (hk := hk0) (ht := ht0) (ht2 := by decide) (hc := rfl) (hin := u_in_Mo) (hj := by decide) (hj2 := by decide) (hf := rfl) (n9 := 7) (hfo := rfl) (hT := rfl) (hw := w_1277) (hd := d_Mo_added_77) (kk := ?_)
      refine a_iconst (v := 0) fx d_Mo_added_80 rfl ?_
      refine a_iload_n fx 3 d_Mo_added_81 rfl rfl ?_
      refine a_callv (rest := []) (a_runV (As := [.ref (B + (a0 + 7)), .int 0, .int i2]) fx cv_Mo_look w_1480 (Met_Mo_look l B D aC aS (hk0 := hk0) (ht0 := ht0) (hk1 := (lo_9_8 hk0 ht0).1) (ht1 := (lo_9_8 hk0 ht0).2) h) hk0 ht0 (by decide) rfl rfl rfl (Nat.le_of_ble_eq_true rfl) rfl rfl ⟨Nat.le_of_ble_eq_true rfl, Nat.le_of_ble_eq_true rfl⟩ d_Mo_added_82 ⟨Nat.le_of_ble_eq_true rfl, Nat.le_of_ble_eq_true rfl⟩) (fun M7 h => ?_)
      refine a_aload_n fx 1 d_Mo_added_85 rfl rfl ?_
      refine a_iload_n fx 2 d_Mo_added_86 rfl rfl ?_
      refine a_iload_n fx 3 d_Mo_added_87 rfl rfl ?_
      refine a_calli (rest := []) (a_runV (As := [.int i1, .int i2]) fx cv_Mo_mayBe w_1484 (Met_Mo_mayBe l B D aC aS (hk0 := hk0) (ht0 := ht0) h) hk0 ht0 (by decide) rfl rfl rfl (Nat.le_of_ble_eq_true rfl) rfl rfl ⟨Nat.le_of_ble_eq_true rfl, Nat.le_of_ble_eq_true rfl⟩ d_Mo_added_88 ⟨Nat.le_of_ble_eq_true rfl, Nat.le_of_ble_eq_true rfl⟩) (fun x9 M8 h => ?_)
      refine a_if_eq fx 113 d_Mo_added_91 rfl (fun hc => ?_) (fun hc => ?_)
      · have h := h.1 hc
        refine a_iconst (v := 0) fx d_Mo_added_113 rfl ?_
        refine a_istore (lv2 := [(7, .int 0), (0, .ref (B + a0)), (1, .int i1), (2, .int i2), (3, .int i3), (4, .int i4), (5, .int i5), (6, .int i6)]) fx d_Mo_added_114 (by decide) rfl ?_
        refine a_sub [1, 2, 3, 4, 5, 6, 7, 0] rfl ?_
        exact h
      · have h := h.2 hc
        refine a_aload_n fx 1 d_Mo_added_94 rfl rfl ?_
        refine a_calli (rest := []) (a_runV (As := []) fx cv_Mo_isPath w_1491 (Met_Mo_isPath l B D aC aS (hk0 := hk0) (ht0 := ht0) h) hk0 ht0 (by decide) rfl rfl rfl (Nat.le_of_ble_eq_true rfl) rfl rfl ⟨Nat.le_of_ble_eq_true rfl, Nat.le_of_ble_eq_true rfl⟩ d_Mo_added_95 ⟨Nat.le_of_ble_eq_true rfl, Nat.le_of_ble_eq_true rfl⟩) (fun x11 M10 h => ?_)
        refine a_if_eq fx 113 d_Mo_added_98 rfl (fun hc => ?_) (fun hc => ?_)
        · have h := h.1 hc
          refine a_iconst (v := 0) fx d_Mo_added_113 rfl ?_
          refine a_istore (lv2 := [(7, .int 0), (0, .ref (B + a0)), (1, .int i1), (2, .int i2), (3, .int i3), (4, .int i4), (5, .int i5), (6, .int i6)]) fx d_Mo_added_114 (by decide) rfl ?_
          refine a_sub [1, 2, 3, 4, 5, 6, 7, 0] rfl ?_
          exact h
        · have h := h.2 hc
          refine a_aload_n fx 1 d_Mo_added_101 rfl rfl ?_
          refine a_iconst (v := 0) fx d_Mo_added_102 rfl ?_
          refine a_calli (rest := []) (a_runV (As := [.int 0]) fx cv_Mo_hasParent w_1495 (Met_Mo_hasParent l B D aC aS (hk0 := hk0) (ht0 := ht0) h) hk0 ht0 (by decide) rfl rfl rfl (Nat.le_of_ble_eq_true rfl) rfl rfl ⟨Nat.le_of_ble_eq_true rfl, Nat.le_of_ble_eq_true rfl⟩ d_Mo_added_103 ⟨Nat.le_of_ble_eq_true rfl, Nat.le_of_ble_eq_true rfl⟩) (fun x13 M12 h => ?_)
          refine a_if_eq fx 113 d_Mo_added_106 rfl (fun hc => ?_) (fun hc => ?_)
          · have h := h.1 hc
            refine a_iconst (v := 0) fx d_Mo_added_113 rfl ?_
            refine a_istore (lv2 := [(7, .int 0), (0, .ref (B + a0)), (1, .int i1), (2, .int i2), (3, .int i3), (4, .int i4), (5, .int i5), (6, .int i6)]) fx d_Mo_added_114 (by decide) rfl ?_
            refine a_sub [1, 2, 3, 4, 5, 6, 7, 0] rfl ?_
            exact h
          · have h := h.2 hc
            refine a_iconst (v := 1) fx d_Mo_added_109 rfl ?_
            refine a_goto fx 114 d_Mo_added_110 rfl ?_
            refine a_istore (lv2 := [(7, .int 1), (0, .ref (B + a0)), (1, .int i1), (2, .int i2), (3, .int i3), (4, .int i4), (5, .int i5), (6, .int i6)]) fx d_Mo_added_114 (by decide) rfl ?_
            refine a_sub [1, 2, 3, 4, 5, 6, 7, 0] rfl ?_
            exact h)
  have h := h (by
    intro v7 M h
    refine a_aload_n fx 0 d_Mo_added_116 rfl rfl ?_
    refine a_getI fx (T := F_Mo) (j := 7) (hk := hk0) (ht := ht0) (ht2 := by decide) (hc := rfl) (hin := u_in_Mo) (hj := by decide) (hj2 := by decide) (hf := rfl) (hT := rfl) (hw := w_1276) (hd := d_Mo_added_117) (kk := ?_)
    refine a_iload_n fx 2 d_Mo_added_120 rfl rfl ?_
    refine a_isub fx d_Mo_added_121 ?_
    refine a_topi (fun x14 ex14 => ?_)
    have h := h x14 ex14
    refine a_istore (lv2 := [(8, .int x14), (0, .ref (B + a0)), (1, .int i1), (2, .int i2), (3, .int i3), (4, .int i4), (5, .int i5), (6, .int i6), (7, .int v7)]) fx d_Mo_added_122 (by decide) rfl ?_
    refine a_aload_n fx 1 d_Mo_added_124 rfl rfl ?_
    refine a_iload fx 8 d_Mo_added_125 rfl ?_
    refine a_if_ne fx 134 d_Mo_added_127 rfl (fun hc => ?_) (fun hc => ?_)
    · have h := h.1 hc
      refine a_aload_n fx 1 d_Mo_added_134 rfl rfl ?_
      refine a_iconst (v := 0) fx d_Mo_added_135 rfl ?_
      refine a_iload_n fx 3 d_Mo_added_136 rfl rfl ?_
      refine a_calli (rest := [.ref (B + a0)]) (a_runV (As := [.int 0, .int i2]) fx cv_Mo_find w_1499 (Met_Mo_find l B D aC aS (hk0 := hk0) (ht0 := ht0) h) hk0 ht0 (by decide) rfl rfl rfl (Nat.le_of_ble_eq_true rfl) rfl rfl ⟨Nat.le_of_ble_eq_true rfl, Nat.le_of_ble_eq_true rfl⟩ d_Mo_added_137 ⟨Nat.le_of_ble_eq_true rfl, Nat.le_of_ble_eq_true rfl⟩) (fun x16 M15 h => ?_)
      refine a_if_lt fx 147 d_Mo_added_140 rfl (fun hc => ?_) (fun hc => ?_)
      · have h := h.1 hc
        refine a_aload_n fx 1 d_Mo_added_147 rfl rfl ?_
        refine a_getS fx (T := F_Mo) (j := 9) (hk := hk0) (ht := ht0) (ht2 := by decide) (hc := rfl) (hin := u_in_Mo) (hj := by decide) (hj2 := by decide) (hf := rfl) (n9 := 8) (hfo := rfl) (hT := rfl) (hw := w_1278) (hd := d_Mo_added_148) (kk := ?_)
        refine a_iconst (v := 0) fx d_Mo_added_151 rfl ?_
        obtain ⟨hin, h⟩ := h
        refine a_iald fx (lo_9_9 hk0 ht0).1 (lo_9_9 hk0 ht0).2 hin d_Mo_added_152 ?_
        refine a_bipush (v := 40) fx d_Mo_added_153 rfl ?_
        refine a_icmp_eq fx 177 d_Mo_added_155 rfl (fun hc => ?_) (fun hc => ?_)
        · have h := h.1 hc
          refine a_iconst (v := 3) fx d_Mo_added_177 rfl ?_
          refine a_goto fx 182 d_Mo_added_178 rfl ?_
          refine a_sub [1, 2, 3, 4, 5, 6, 7, 0] rfl ?_
          exact h
        · have h := h.2 hc
          refine a_iload_n fx 2 d_Mo_added_158 rfl rfl ?_
          refine a_iconst (v := 1) fx d_Mo_added_159 rfl ?_
          refine a_icmp_ne fx 181 d_Mo_added_160 rfl (fun hc => ?_) (fun hc => ?_)
          · have h := h.1 hc
            refine a_iconst (v := 0) fx d_Mo_added_181 rfl ?_
            refine a_sub [1, 2, 3, 4, 5, 6, 7, 0] rfl ?_
            exact h
          · have h := h.2 hc
            refine a_aload_n fx 1 d_Mo_added_163 rfl rfl ?_
            refine a_iconst (v := 0) fx d_Mo_added_164 rfl ?_
            refine a_calli (rest := [.ref (B + a0)]) (a_runV (As := [.int 0]) fx cv_Mo_bytesOf w_1510 (Met_Mo_bytesOf l B D aC aS (hk0 := hk0) (ht0 := ht0) h) hk0 ht0 (by decide) rfl rfl rfl (Nat.le_of_ble_eq_true rfl) rfl rfl ⟨Nat.le_of_ble_eq_true rfl, Nat.le_of_ble_eq_true rfl⟩ d_Mo_added_165 ⟨Nat.le_of_ble_eq_true rfl, Nat.le_of_ble_eq_true rfl⟩) (fun x18 M17 h => ?_)
            refine a_iload fx 0 d_Mo_added_168 rfl ?_
            refine a_iadd fx d_Mo_added_170 ?_
            refine a_sipush (v := 6000) fx d_Mo_added_171 rfl ?_
            refine a_icmp_le fx 181 d_Mo_added_174 rfl (fun hc => ?_) (fun hc => ?_)
            · have h := h.1 hc
              refine a_iconst (v := 0) fx d_Mo_added_181 rfl ?_
              refine a_sub [1, 2, 3, 4, 5, 6, 7, 0] rfl ?_
              exact h
            · have h := h.2 hc
              refine a_iconst (v := 3) fx d_Mo_added_177 rfl ?_
              refine a_goto fx 182 d_Mo_added_178 rfl ?_
              refine a_sub [1, 2, 3, 4, 5, 6, 7, 0] rfl ?_
              exact h
      · have h := h.2 hc
        refine a_iconst (v := 2) fx d_Mo_added_143 rfl ?_
        refine a_goto fx 182 d_Mo_added_144 rfl ?_
        refine a_sub [1, 2, 3, 4, 5, 6, 7, 0] rfl ?_
        exact h
    · have h := h.2 hc
      refine a_iconst (v := 1) fx d_Mo_added_130 rfl ?_
      refine a_goto fx 182 d_Mo_added_131 rfl ?_
      refine a_sub [1, 2, 3, 4, 5, 6, 7, 0] rfl ?_
      exact h)
  have h := h (by
    intro v8 w0 w1 M h
    obtain ⟨hk_w1, ht_w1, h⟩ := h
    refine a_putI fx (T := F_Mo) (ty0 := t_Mo) (j := 6) (hk := hk_w1) (ht := ht_w1) (ht2 := by decide) (hc := rfl) (hin := u_in_Mo) (hty := t_Mo_ok) (hnm := n_Mo) (hj := by decide) (hj2 := by decide) (hf := rfl) (hT := rfl) (hfin := rfl) (hn := rfl) (hfit := rfl) (hw := w_1275) (hd := d_Mo_added_182) (kk := a_mem (fun M19 eM19 => ?_))
    have h := h M19 eM19
    refine a_aload_n fx 0 d_Mo_added_185 rfl rfl ?_
    refine a_getI fx (T := F_Mo) (j := 6) (hk := hk0) (ht := ht0) (ht2 := by decide) (hc := rfl) (hin := u_in_Mo) (hj := by decide) (hj2 := by decide) (hf := rfl) (hT := rfl) (hw := w_1275) (hd := d_Mo_added_186) (kk := ?_)
    refine a_if_le fx 194 d_Mo_added_189 rfl (fun hc => ?_) (fun hc => ?_)
    · have h := h.1 hc
      refine a_aload_n fx 0 d_Mo_added_194 rfl rfl ?_
      refine a_iconst (v := 0) fx d_Mo_added_195 rfl ?_
      refine a_calli (rest := []) (a_runV (As := [.int 0]) fx cv_Mo_enter w_1514 (Met_Mo_enter l B D aC aS (hk0 := hk0) (ht0 := ht0) h) hk0 ht0 (by decide) rfl rfl rfl (Nat.le_of_ble_eq_true rfl) rfl rfl ⟨Nat.le_of_ble_eq_true rfl, Nat.le_of_ble_eq_true rfl⟩ d_Mo_added_196 ⟨Nat.le_of_ble_eq_true rfl, Nat.le_of_ble_eq_true rfl⟩) (fun x21 M20 h => ?_)
      refine a_istore (lv2 := [(9, .int x21), (0, .ref (B + a0)), (1, .int i1), (2, .int i2), (3, .int i3), (4, .int i4), (5, .int i5), (6, .int i6), (8, .int v8)]) fx d_Mo_added_199 (by decide) rfl ?_
      refine a_aload_n fx 1 d_Mo_added_201 rfl rfl ?_
      refine a_getS fx (T := F_Mo) (j := 12) (hk := hk0) (ht := ht0) (ht2 := by decide) (hc := rfl) (hin := u_in_Mo) (hj := by decide) (hj2 := by decide) (hf := rfl) (n9 := 11) (hfo := rfl) (hT := rfl) (hw := w_1281) (hd := d_Mo_added_202) (kk := ?_)
      refine a_iload fx 0 d_Mo_added_205 rfl ?_
      refine a_iload_n fx 2 d_Mo_added_207 rfl rfl ?_
      obtain ⟨hin, h⟩ := h
      refine a_iast fx (lo_9_12 hk0 ht0).1 (lo_9_12 hk0 ht0).2 hin d_Mo_added_208 (a_mem (fun M22 eM22 => ?_))
      have h := h M22 eM22
      refine a_aload_n fx 1 d_Mo_added_209 rfl rfl ?_
      refine a_getS fx (T := F_Mo) (j := 13) (hk := hk0) (ht := ht0) (ht2 := by decide) (hc := rfl) (hin := u_in_Mo) (hj := by decide) (hj2 := by decide) (hf := rfl) (n9 := 12) (hfo := rfl) (hT := rfl) (hw := w_1282) (hd := d_Mo_added_210) (kk := ?_)
      refine a_iload fx 0 d_Mo_added_213 rfl ?_
      refine a_iload_n fx 4 d_Mo_added_215 rfl rfl ?_
      obtain ⟨hin, h⟩ := h
      refine a_iast fx (lo_9_13 hk0 ht0).1 (lo_9_13 hk0 ht0).2 hin d_Mo_added_216 (a_mem (fun M23 eM23 => ?_))
      have h := h M23 eM23
      refine a_aload_n fx 1 d_Mo_added_217 rfl rfl ?_
      refine a_getS fx (T := F_Mo) (j := 14) (hk := hk0) (ht := ht0) (ht2 := by decide) (hc := rfl) (hin := u_in_Mo) (hj := by decide) (hj2 := by decide) (hf := rfl) (n9 := 13) (hfo := rfl) (hT := rfl) (hw := w_1283) (hd := d_Mo_added_218) (kk := ?_)
      refine a_iload fx 0 d_Mo_added_221 rfl ?_
      refine a_iload fx 5 d_Mo_added_223 rfl ?_
      obtain ⟨hin, h⟩ := h
      refine a_iast fx (lo_9_14 hk0 ht0).1 (lo_9_14 hk0 ht0).2 hin d_Mo_added_225 (a_mem (fun M24 eM24 => ?_))
      have h := h M24 eM24
      refine a_aload_n fx 1 d_Mo_added_226 rfl rfl ?_
      refine a_getS fx (T := F_Mo) (j := 15) (hk := hk0) (ht := ht0) (ht2 := by decide) (hc := rfl) (hin := u_in_Mo) (hj := by decide) (hj2 := by decide) (hf := rfl) (n9 := 14) (hfo := rfl) (hT := rfl) (hw := w_1284) (hd := d_Mo_added_227) (kk := ?_)
      refine a_iload fx 0 d_Mo_added_230 rfl ?_
      refine a_iload fx 6 d_Mo_added_232 rfl ?_
      obtain ⟨hin, h⟩ := h
      refine a_iast fx (lo_9_15 hk0 ht0).1 (lo_9_15 hk0 ht0).2 hin d_Mo_added_234 (a_mem (fun M25 eM25 => ?_))
      have h := h M25 eM25
      refine a_aload_n fx 1 d_Mo_added_235 rfl rfl ?_
      refine a_getS fx (T := F_Mo) (j := 16) (hk := hk0) (ht := ht0) (ht2 := by decide) (hc := rfl) (hin := u_in_Mo) (hj := by decide) (hj2 := by decide) (hf := rfl) (n9 := 15) (hfo := rfl) (hT := rfl) (hw := w_1285) (hd := d_Mo_added_236) (kk := ?_)
      refine a_iload fx 0 d_Mo_added_239 rfl ?_
      refine a_iload fx 7 d_Mo_added_241 rfl ?_
      obtain ⟨hin, h⟩ := h
      refine a_iast fx (lo_9_16 hk0 ht0).1 (lo_9_16 hk0 ht0).2 hin d_Mo_added_243 (a_mem (fun M26 eM26 => ?_))
      have h := h M26 eM26
      refine a_aload_n fx 1 d_Mo_added_244 rfl rfl ?_
      refine a_getS fx (T := F_Mo) (j := 17) (hk := hk0) (ht := ht0) (ht2 := by decide) (hc := rfl) (hin := u_in_Mo) (hj := by decide) (hj2 := by decide) (hf := rfl) (n9 := 16) (hfo := rfl) (hT := rfl) (hw := w_1286) (hd := d_Mo_added_245) (kk := ?_)
      refine a_iload fx 0 d_Mo_added_248 rfl ?_
      refine a_aload_n fx 1 d_Mo_added_250 rfl rfl ?_
      refine a_getS fx (T := F_Mo) (j := 20) (hk := hk0) (ht := ht0) (ht2 := by decide) (hc := rfl) (hin := u_in_Mo) (hj := by decide) (hj2 := by decide) (hf := rfl) (n9 := 19) (hfo := rfl) (hT := rfl) (hw := w_1289) (hd := d_Mo_added_251) (kk := ?_)
      refine a_iconst (v := 0) fx d_Mo_added_254 rfl ?_
      obtain ⟨hin, h⟩ := h
      refine a_iald fx (lo_9_20 hk0 ht0).1 (lo_9_20 hk0 ht0).2 hin d_Mo_added_255 ?_
      obtain ⟨hin, h⟩ := h
      refine a_iast fx (lo_9_17 hk0 ht0).1 (lo_9_17 hk0 ht0).2 hin d_Mo_added_256 (a_mem (fun M27 eM27 => ?_))
      have h := h M27 eM27
      refine a_aload_n fx 1 d_Mo_added_257 rfl rfl ?_
      refine a_getS fx (T := F_Mo) (j := 18) (hk := hk0) (ht := ht0) (ht2 := by decide) (hc := rfl) (hin := u_in_Mo) (hj := by decide) (hj2 := by decide) (hf := rfl) (n9 := 17) (hfo := rfl) (hT := rfl) (hw := w_1287) (hd := d_Mo_added_258) (kk := ?_)
      refine a_iload fx 0 d_Mo_added_261 rfl ?_
      refine a_iload fx 8 d_Mo_added_263 rfl ?_
      obtain ⟨hin, h⟩ := h
      refine a_iast fx (lo_9_18 hk0 ht0).1 (lo_9_18 hk0 ht0).2 hin d_Mo_added_265 (a_mem (fun M28 eM28 => ?_))
      have h := h M28 eM28
      refine a_aload_n fx 1 d_Mo_added_266 rfl rfl ?_
      refine a_dup fx d_Mo_added_267 rfl ?_
      refine a_getI fx (T := F_Mo) (j := 22) (hk := hk0) (ht := ht0) (ht2 := by decide) (hc := rfl) (hin := u_in_Mo) (hj := by decide) (hj2 := by decide) (hf := rfl) (hT := rfl) (hw := w_1291) (hd := d_Mo_added_268) (kk := ?_)
      refine a_iconst (v := 1) fx d_Mo_added_271 rfl ?_
      refine a_iadd fx d_Mo_added_272 ?_
      refine a_putI fx (T := F_Mo) (ty0 := t_Mo) (j := 22) (hk := hk0) (ht := ht0) (ht2 := by decide) (hc := rfl) (hin := u_in_Mo) (hty := t_Mo_ok) (hnm := n_Mo) (hj := by decide) (hj2 := by decide) (hf := rfl) (hT := rfl) (hfin := rfl) (hn := rfl) (hfit := rfl) (hw := w_1291) (hd := d_Mo_added_273) (kk := a_mem (fun M29 eM29 => ?_))
      have h := h M29 eM29
      refine a_aload_n fx 1 d_Mo_added_276 rfl rfl ?_
      refine a_getS fx (T := F_Mo) (j := 19) (hk := hk0) (ht := ht0) (ht2 := by decide) (hc := rfl) (hin := u_in_Mo) (hj := by decide) (hj2 := by decide) (hf := rfl) (n9 := 18) (hfo := rfl) (hT := rfl) (hw := w_1288) (hd := d_Mo_added_277) (kk := ?_)
      refine a_iload fx 0 d_Mo_added_280 rfl ?_
      refine a_aload_n fx 1 d_Mo_added_282 rfl rfl ?_
      refine a_getI fx (T := F_Mo) (j := 22) (hk := hk0) (ht := ht0) (ht2 := by decide) (hc := rfl) (hin := u_in_Mo) (hj := by decide) (hj2 := by decide) (hf := rfl) (hT := rfl) (hw := w_1291) (hd := d_Mo_added_283) (kk := ?_)
      obtain ⟨hin, h⟩ := h
      refine a_iast fx (lo_9_19 hk0 ht0).1 (lo_9_19 hk0 ht0).2 hin d_Mo_added_286 (a_mem (fun M30 eM30 => ?_))
      have h := h M30 eM30
      refine a_iconst (v := 0) fx d_Mo_added_287 rfl ?_
      refine a_istore (lv2 := [(10, .int 0), (9, .int x21), (0, .ref (B + a0)), (1, .int i1), (2, .int i2), (3, .int i3), (4, .int i4), (5, .int i5), (6, .int i6), (8, .int v8)]) fx d_Mo_added_288 (by decide) rfl ?_
      refine a_sub [2, 3, 4, 5, 6, 7, 8, 9, 0] rfl ?_
      exact h
    · have h := h.2 hc
      refine a_iconst (v := 0) fx d_Mo_added_192 rfl ?_
      exact a_iret fx hlo hr h d_Mo_added_193)
  have h := h (by
    intro v8 v10 M h
    refine a_iload fx 8 d_Mo_added_290 rfl ?_
    refine a_iload fx 7 d_Mo_added_292 rfl ?_
    refine a_icmp_ge fx 333 d_Mo_added_294 rfl (fun hc => ?_) (fun hc => ?_)
    · have h := h.1 hc
      refine a_aload_n fx 0 d_Mo_added_333 rfl rfl ?_
      refine a_getS fx (T := F_Mo) (j := 9) (hk := hk0) (ht := ht0) (ht2 := by decide) (hc := rfl) (hin := u_in_Mo) (hj := by decide) (hj2 := by decide) (hf := rfl) (n9 := 8) (hfo := rfl) (hT := rfl) (hw := w_1278) (hd := d_Mo_added_334) (kk := ?_)
      refine a_iconst (v := 0) fx d_Mo_added_337 rfl ?_
      obtain ⟨hin, h⟩ := h
      refine a_iald fx (lo_9_9 hk0 ht0).1 (lo_9_9 hk0 ht0).2 hin d_Mo_added_338 ?_
      exact a_iret fx hlo hr h d_Mo_added_339
    · have h := h.2 hc
      refine a_aload_n fx 0 d_Mo_added_297 rfl rfl ?_
      refine a_getS fx (T := F_Mo) (j := 21) (hk := hk0) (ht := ht0) (ht2 := by decide) (hc := rfl) (hin := u_in_Mo) (hj := by decide) (hj2 := by decide) (hf := rfl) (n9 := 20) (hfo := rfl) (hT := rfl) (hw := w_1290) (hd := d_Mo_added_298) (kk := ?_)
      refine a_aload_n fx 0 d_Mo_added_301 rfl rfl ?_
      refine a_getS fx (T := F_Mo) (j := 20) (hk := hk0) (ht := ht0) (ht2 := by decide) (hc := rfl) (hin := u_in_Mo) (hj := by decide) (hj2 := by decide) (hf := rfl) (n9 := 19) (hfo := rfl) (hT := rfl) (hw := w_1289) (hd := d_Mo_added_302) (kk := ?_)
      refine a_iconst (v := 0) fx d_Mo_added_305 rfl ?_
      obtain ⟨hin, h⟩ := h
      refine a_iald fx (lo_9_20 hk0 ht0).1 (lo_9_20 hk0 ht0).2 hin d_Mo_added_306 ?_
      refine a_aload_n fx 0 d_Mo_added_307 rfl rfl ?_
      refine a_getS fx (T := F_Mo) (j := 8) (hk := hk0) (ht := ht0) (ht2 := by decide) (hc := rfl) (hin := u_in_Mo) (hj := by decide) (hj2 := by decide) (hf := rfl) (n9 := 7) (hfo := rfl) (hT := rfl) (hw := w_1277) (hd := d_Mo_added_308) (kk := ?_)
      refine a_iload_n fx 2 d_Mo_added_311 rfl rfl ?_
      refine a_iload fx 8 d_Mo_added_312 rfl ?_
      refine a_iadd fx d_Mo_added_314 ?_
      obtain ⟨hin, h⟩ := h
      refine a_bald fx (lo_9_8 hk0 ht0).1 (lo_9_8 hk0 ht0).2 hin d_Mo_added_315 ?_
      obtain ⟨hin, h⟩ := h
      refine a_bast fx (lo_9_21 hk0 ht0).1 (lo_9_21 hk0 ht0).2 hin d_Mo_added_316 (a_mem (fun M31 eM31 => ?_))
      have h := h M31 eM31
      refine a_aload_n fx 0 d_Mo_added_317 rfl rfl ?_
      refine a_getS fx (T := F_Mo) (j := 20) (hk := hk0) (ht := ht0) (ht2 := by decide) (hc := rfl) (hin := u_in_Mo) (hj := by decide) (hj2 := by decide) (hf := rfl) (n9 := 19) (hfo := rfl) (hT := rfl) (hw := w_1289) (hd := d_Mo_added_318) (kk := ?_)
      refine a_iconst (v := 0) fx d_Mo_added_321 rfl ?_
      refine a_dup2 fx d_Mo_added_322 rfl rfl ?_
      obtain ⟨hin, h⟩ := h
      refine a_iald fx (lo_9_20 hk0 ht0).1 (lo_9_20 hk0 ht0).2 hin d_Mo_added_323 ?_
      refine a_iconst (v := 1) fx d_Mo_added_324 rfl ?_
      refine a_iadd fx d_Mo_added_325 ?_
      obtain ⟨hin, h⟩ := h
      refine a_iast fx (lo_9_20 hk0 ht0).1 (lo_9_20 hk0 ht0).2 hin d_Mo_added_326 (a_mem (fun M32 eM32 => ?_))
      have h := h M32 eM32
      obtain ⟨x33, ex33⟩ : ∃ z : Int32, z = v10 + 1 := ⟨_, rfl⟩
      have h := h x33 ex33
      refine a_iinc (lv2 := [(10, .int x33), (0, .ref (B + a0)), (1, .int i1), (2, .int i2), (3, .int i3), (4, .int i4), (5, .int i5), (6, .int i6), (8, .int v8)]) fx 8 d_Mo_added_327 rfl ex33.symm (by decide) rfl ?_
      refine a_goto fx 290 d_Mo_added_330 rfl ?_
      refine a_sub [1, 2, 3, 4, 5, 6, 7, 8, 0] rfl ?_
      exact h)
  refine a_iload_n fx 1 d_Mo_added_0 rfl rfl ?_
  refine a_if_lt fx 67 d_Mo_added_1 rfl (fun hc => ?_) (fun hc => ?_)
  · have h := h.1 hc
    refine a_iconst (v := 0) fx d_Mo_added_67 rfl ?_
    refine a_sub [0, 1, 2, 3, 4, 5, 6] rfl ?_
    exact h
  · have h := h.2 hc
    refine a_iload_n fx 1 d_Mo_added_4 rfl rfl ?_
    refine a_iconst (v := 2) fx d_Mo_added_5 rfl ?_
    refine a_icmp_gt fx 67 d_Mo_added_6 rfl (fun hc => ?_) (fun hc => ?_)
    · have h := h.1 hc
      refine a_iconst (v := 0) fx d_Mo_added_67 rfl ?_
      refine a_sub [0, 1, 2, 3, 4, 5, 6] rfl ?_
      exact h
    · have h := h.2 hc
      refine a_iload_n fx 2 d_Mo_added_9 rfl rfl ?_
      refine a_iconst (v := 1) fx d_Mo_added_10 rfl ?_
      refine a_icmp_lt fx 67 d_Mo_added_11 rfl (fun hc => ?_) (fun hc => ?_)
      · have h := h.1 hc
        refine a_iconst (v := 0) fx d_Mo_added_67 rfl ?_
        refine a_sub [0, 1, 2, 3, 4, 5, 6] rfl ?_
        exact h
      · have h := h.2 hc
        refine a_iload_n fx 2 d_Mo_added_14 rfl rfl ?_
        refine a_bipush (v := 60) fx d_Mo_added_15 rfl ?_
        refine a_icmp_gt fx 67 d_Mo_added_17 rfl (fun hc => ?_) (fun hc => ?_)
        · have h := h.1 hc
          refine a_iconst (v := 0) fx d_Mo_added_67 rfl ?_
          refine a_sub [0, 1, 2, 3, 4, 5, 6] rfl ?_
          exact h
        · have h := h.2 hc
          refine a_iload_n fx 2 d_Mo_added_20 rfl rfl ?_
          refine a_aload_n fx 0 d_Mo_added_21 rfl rfl ?_
          refine a_getI fx (T := F_Mo) (j := 7) (hk := hk0) (ht := ht0) (ht2 := by decide) (hc := rfl) (hin := u_in_Mo) (hj := by decide) (hj2 := by decide) (hf := rfl) (hT := rfl) (hw := w_1276) (hd := d_Mo_added_22) (kk := ?_)
          refine a_icmp_gt fx 67 d_Mo_added_25 rfl (fun hc => ?_) (fun hc => ?_)
          · have h := h.1 hc
            refine a_iconst (v := 0) fx d_Mo_added_67 rfl ?_
            refine a_sub [0, 1, 2, 3, 4, 5, 6] rfl ?_
            exact h
          · have h := h.2 hc
            refine a_iload_n fx 3 d_Mo_added_28 rfl rfl ?_
            refine a_if_lt fx 67 d_Mo_added_29 rfl (fun hc => ?_) (fun hc => ?_)
            · have h := h.1 hc
              refine a_iconst (v := 0) fx d_Mo_added_67 rfl ?_
              refine a_sub [0, 1, 2, 3, 4, 5, 6] rfl ?_
              exact h
            · have h := h.2 hc
              refine a_iload_n fx 3 d_Mo_added_32 rfl rfl ?_
              refine a_sipush (v := 4095) fx d_Mo_added_33 rfl ?_
              refine a_icmp_gt fx 67 d_Mo_added_36 rfl (fun hc => ?_) (fun hc => ?_)
              · have h := h.1 hc
                refine a_iconst (v := 0) fx d_Mo_added_67 rfl ?_
                refine a_sub [0, 1, 2, 3, 4, 5, 6] rfl ?_
                exact h
              · have h := h.2 hc
                refine a_iload fx 4 d_Mo_added_39 rfl ?_
                refine a_calli (rest := []) (a_runS (As := [.int i4]) fx  cv_Mo_isNumber w_1477 (Met_Mo_isNumber l B D aC aS  h) rfl rfl (Nat.le_of_ble_eq_true rfl) rfl rfl ⟨Nat.le_of_ble_eq_true rfl, Nat.le_of_ble_eq_true rfl⟩ d_Mo_added_41 ⟨Nat.le_of_ble_eq_true rfl, Nat.le_of_ble_eq_true rfl⟩) (fun x2 M1 h => ?_)
                refine a_if_eq fx 67 d_Mo_added_44 rfl (fun hc => ?_) (fun hc => ?_)
                · have h := h.1 hc
                  refine a_iconst (v := 0) fx d_Mo_added_67 rfl ?_
                  refine a_sub [0, 1, 2, 3, 4, 5, 6] rfl ?_
                  exact h
                · have h := h.2 hc
                  refine a_iload fx 5 d_Mo_added_47 rfl ?_
                  refine a_calli (rest := []) (a_runS (As := [.int i5]) fx  cv_Mo_isNumber w_1477 (Met_Mo_isNumber l B D aC aS  h) rfl rfl (Nat.le_of_ble_eq_true rfl) rfl rfl ⟨Nat.le_of_ble_eq_true rfl, Nat.le_of_ble_eq_true rfl⟩ d_Mo_added_49 ⟨Nat.le_of_ble_eq_true rfl, Nat.le_of_ble_eq_true rfl⟩) (fun x4 M3 h => ?_)
                  refine a_if_eq fx 67 d_Mo_added_52 rfl (fun hc => ?_) (fun hc => ?_)
                  · have h := h.1 hc
                    refine a_iconst (v := 0) fx d_Mo_added_67 rfl ?_
                    refine a_sub [0, 1, 2, 3, 4, 5, 6] rfl ?_
                    exact h
                  · have h := h.2 hc
                    refine a_iload fx 6 d_Mo_added_55 rfl ?_
                    refine a_calli (rest := []) (a_runS (As := [.int i6]) fx  cv_Mo_isNumber w_1477 (Met_Mo_isNumber l B D aC aS  h) rfl rfl (Nat.le_of_ble_eq_true rfl) rfl rfl ⟨Nat.le_of_ble_eq_true rfl, Nat.le_of_ble_eq_true rfl⟩ d_Mo_added_57 ⟨Nat.le_of_ble_eq_true rfl, Nat.le_of_ble_eq_true rfl⟩) (fun x6 M5 h => ?_)
                    refine a_if_eq fx 67 d_Mo_added_60 rfl (fun hc => ?_) (fun hc => ?_)
                    · have h := h.1 hc
                      refine a_iconst (v := 0) fx d_Mo_added_67 rfl ?_
                      refine a_sub [0, 1, 2, 3, 4, 5, 6] rfl ?_
                      exact h
                    · have h := h.2 hc
                      refine a_iconst (v := 1) fx d_Mo_added_63 rfl ?_
                      refine a_goto fx 68 d_Mo_added_64 rfl ?_
                      refine a_sub [0, 1, 2, 3, 4, 5, 6] rfl ?_
                      exact h
set_option maxRecDepth 100000 in
set_option maxHeartbeats 4000000 in
theorem Met_Mo_add (l : Launch) (B : Nat) (D : va_G) (aC : Nat → ClassId) (aS : Nat → Nat) {a0 : Nat} {i1 : Int32} {i2 : Int32} {i3 : Int32} {i4 : Int32} {i5 : Int32} {i6 : Int32} {M : zM} {post : Int32 → zM → Prop} (hk0 : a0 < N0) (ht0 : tg a0 = 9) (h : Wp_Mo_add a0 i1 i2 i3 i4 i5 i6 M post) : Met l y_Mo_add (wo y_Mo_add b_Mo_add 8 (some FieldType.int)) { frames := 4, cells := 0, slots := 0, locals := 102 } (va_Pc [.ref (B + a0), .int i1, .int i2, .int i3, .int i4, .int i5, .int i6] (zWl B D aC aS M)) (zQi B D aC post) 0 0 (zAb B) := by
  refine z_met (own := "MailChainModel") (lv0 := [(0, .ref (B + a0)), (1, .int i1), (2, .int i2), (3, .int i3), (4, .int i4), (5, .int i5), (6, .int i6)]) (by decide) rfl (Nat.le_of_ble_eq_true rfl) rfl ?_
  intro p e s m below meth c fx hr hlo
  delta Wp_Mo_add at h
  refine a_aload_n fx 0 d_Mo_add_0 rfl rfl ?_
  refine a_iload_n fx 1 d_Mo_add_1 rfl rfl ?_
  refine a_iload_n fx 2 d_Mo_add_2 rfl rfl ?_
  refine a_iload_n fx 3 d_Mo_add_3 rfl rfl ?_
  refine a_iload fx 4 d_Mo_add_4 rfl ?_
  refine a_iload fx 5 d_Mo_add_6 rfl ?_
  refine a_iload fx 6 d_Mo_add_8 rfl ?_
  refine a_calli (rest := []) (a_runV (As := [.int i1, .int i2, .int i3, .int i4, .int i5, .int i6]) fx cv_Mo_added w_1473 (Met_Mo_added l B D aC aS (hk0 := hk0) (ht0 := ht0) h) hk0 ht0 (by decide) rfl rfl rfl (Nat.le_of_ble_eq_true rfl) rfl rfl ⟨Nat.le_of_ble_eq_true rfl, Nat.le_of_ble_eq_true rfl⟩ d_Mo_add_10 ⟨Nat.le_of_ble_eq_true rfl, Nat.le_of_ble_eq_true rfl⟩) (fun x2 M1 h => ?_)
  refine a_istore (lv2 := [(7, .int x2), (0, .ref (B + a0)), (1, .int i1), (2, .int i2), (3, .int i3), (4, .int i4), (5, .int i5), (6, .int i6)]) fx d_Mo_add_13 (by decide) rfl ?_
  refine a_aload_n fx 1 d_Mo_add_15 rfl rfl ?_
  refine a_iconst (v := 0) fx d_Mo_add_16 rfl ?_
  refine a_putI fx (T := F_Mo) (ty0 := t_Mo) (j := 7) (hk := hk0) (ht := ht0) (ht2 := by decide) (hc := rfl) (hin := u_in_Mo) (hty := t_Mo_ok) (hnm := n_Mo) (hj := by decide) (hj2 := by decide) (hf := rfl) (hT := rfl) (hfin := rfl) (hn := rfl) (hfit := rfl) (hw := w_1276) (hd := d_Mo_add_17) (kk := a_mem (fun M3 eM3 => ?_))
  have h := h M3 eM3
  refine a_iload fx 0 d_Mo_add_20 rfl ?_
  exact a_iret fx hlo hr h d_Mo_add_22
set_option maxRecDepth 100000 in
set_option maxHeartbeats 4000000 in
theorem Met_Mo_copyAttributes (l : Launch) (B : Nat) (D : va_G) (aC : Nat → ClassId) (aS : Nat → Nat) {a0 : Nat} {i1 : Int32} {i2 : Int32} {M : zM} {post : zM → Prop} (hk0 : a0 < N0) (ht0 : tg a0 = 9) (h : Wp_Mo_copyAttributes a0 i1 i2 M post) : Met l y_Mo_copyAttributes (wo y_Mo_copyAttributes b_Mo_copyAttributes 3 none) { frames := 0, cells := 0, slots := 0, locals := 0 } (va_Pc [.ref (B + a0), .int i1, .int i2] (zWl B D aC aS M)) (zQv B D aC post) 0 0 (zAb B) := by
  refine z_met (own := "MailChainModel") (lv0 := [(0, .ref (B + a0)), (1, .int i1), (2, .int i2)]) (by decide) rfl (Nat.le_of_ble_eq_true rfl) rfl ?_
  intro p e s m below meth c fx hr hlo
  delta Wp_Mo_copyAttributes at h
  refine a_aload_n fx 0 d_Mo_copyAttributes_0 rfl rfl ?_
  refine a_getS fx (T := F_Mo) (j := 12) (hk := hk0) (ht := ht0) (ht2 := by decide) (hc := rfl) (hin := u_in_Mo) (hj := by decide) (hj2 := by decide) (hf := rfl) (n9 := 11) (hfo := rfl) (hT := rfl) (hw := w_1281) (hd := d_Mo_copyAttributes_1) (kk := ?_)
  refine a_iload_n fx 1 d_Mo_copyAttributes_4 rfl rfl ?_
  refine a_aload_n fx 0 d_Mo_copyAttributes_5 rfl rfl ?_
  refine a_getS fx (T := F_Mo) (j := 12) (hk := hk0) (ht := ht0) (ht2 := by decide) (hc := rfl) (hin := u_in_Mo) (hj := by decide) (hj2 := by decide) (hf := rfl) (n9 := 11) (hfo := rfl) (hT := rfl) (hw := w_1281) (hd := d_Mo_copyAttributes_6) (kk := ?_)
  refine a_iload_n fx 2 d_Mo_copyAttributes_9 rfl rfl ?_
  obtain ⟨hin, h⟩ := h
  refine a_iald fx (lo_9_12 hk0 ht0).1 (lo_9_12 hk0 ht0).2 hin d_Mo_copyAttributes_10 ?_
  obtain ⟨hin, h⟩ := h
  refine a_iast fx (lo_9_12 hk0 ht0).1 (lo_9_12 hk0 ht0).2 hin d_Mo_copyAttributes_11 (a_mem (fun M1 eM1 => ?_))
  have h := h M1 eM1
  refine a_aload_n fx 0 d_Mo_copyAttributes_12 rfl rfl ?_
  refine a_getS fx (T := F_Mo) (j := 13) (hk := hk0) (ht := ht0) (ht2 := by decide) (hc := rfl) (hin := u_in_Mo) (hj := by decide) (hj2 := by decide) (hf := rfl) (n9 := 12) (hfo := rfl) (hT := rfl) (hw := w_1282) (hd := d_Mo_copyAttributes_13) (kk := ?_)
  refine a_iload_n fx 1 d_Mo_copyAttributes_16 rfl rfl ?_
  refine a_aload_n fx 0 d_Mo_copyAttributes_17 rfl rfl ?_
  refine a_getS fx (T := F_Mo) (j := 13) (hk := hk0) (ht := ht0) (ht2 := by decide) (hc := rfl) (hin := u_in_Mo) (hj := by decide) (hj2 := by decide) (hf := rfl) (n9 := 12) (hfo := rfl) (hT := rfl) (hw := w_1282) (hd := d_Mo_copyAttributes_18) (kk := ?_)
  refine a_iload_n fx 2 d_Mo_copyAttributes_21 rfl rfl ?_
  obtain ⟨hin, h⟩ := h
  refine a_iald fx (lo_9_13 hk0 ht0).1 (lo_9_13 hk0 ht0).2 hin d_Mo_copyAttributes_22 ?_
  obtain ⟨hin, h⟩ := h
  refine a_iast fx (lo_9_13 hk0 ht0).1 (lo_9_13 hk0 ht0).2 hin d_Mo_copyAttributes_23 (a_mem (fun M2 eM2 => ?_))
  have h := h M2 eM2
  refine a_aload_n fx 0 d_Mo_copyAttributes_24 rfl rfl ?_
  refine a_getS fx (T := F_Mo) (j := 14) (hk := hk0) (ht := ht0) (ht2 := by decide) (hc := rfl) (hin := u_in_Mo) (hj := by decide) (hj2 := by decide) (hf := rfl) (n9 := 13) (hfo := rfl) (hT := rfl) (hw := w_1283) (hd := d_Mo_copyAttributes_25) (kk := ?_)
  refine a_iload_n fx 1 d_Mo_copyAttributes_28 rfl rfl ?_
  refine a_aload_n fx 0 d_Mo_copyAttributes_29 rfl rfl ?_
  refine a_getS fx (T := F_Mo) (j := 14) (hk := hk0) (ht := ht0) (ht2 := by decide) (hc := rfl) (hin := u_in_Mo) (hj := by decide) (hj2 := by decide) (hf := rfl) (n9 := 13) (hfo := rfl) (hT := rfl) (hw := w_1283) (hd := d_Mo_copyAttributes_30) (kk := ?_)
  refine a_iload_n fx 2 d_Mo_copyAttributes_33 rfl rfl ?_
  obtain ⟨hin, h⟩ := h
  refine a_iald fx (lo_9_14 hk0 ht0).1 (lo_9_14 hk0 ht0).2 hin d_Mo_copyAttributes_34 ?_
  obtain ⟨hin, h⟩ := h
  refine a_iast fx (lo_9_14 hk0 ht0).1 (lo_9_14 hk0 ht0).2 hin d_Mo_copyAttributes_35 (a_mem (fun M3 eM3 => ?_))
  have h := h M3 eM3
  refine a_aload_n fx 0 d_Mo_copyAttributes_36 rfl rfl ?_
  refine a_getS fx (T := F_Mo) (j := 15) (hk := hk0) (ht := ht0) (ht2 := by decide) (hc := rfl) (hin := u_in_Mo) (hj := by decide) (hj2 := by decide) (hf := rfl) (n9 := 14) (hfo := rfl) (hT := rfl) (hw := w_1284) (hd := d_Mo_copyAttributes_37) (kk := ?_)
  refine a_iload_n fx 1 d_Mo_copyAttributes_40 rfl rfl ?_
  refine a_aload_n fx 0 d_Mo_copyAttributes_41 rfl rfl ?_
  refine a_getS fx (T := F_Mo) (j := 15) (hk := hk0) (ht := ht0) (ht2 := by decide) (hc := rfl) (hin := u_in_Mo) (hj := by decide) (hj2 := by decide) (hf := rfl) (n9 := 14) (hfo := rfl) (hT := rfl) (hw := w_1284) (hd := d_Mo_copyAttributes_42) (kk := ?_)
  refine a_iload_n fx 2 d_Mo_copyAttributes_45 rfl rfl ?_
  obtain ⟨hin, h⟩ := h
  refine a_iald fx (lo_9_15 hk0 ht0).1 (lo_9_15 hk0 ht0).2 hin d_Mo_copyAttributes_46 ?_
  obtain ⟨hin, h⟩ := h
  refine a_iast fx (lo_9_15 hk0 ht0).1 (lo_9_15 hk0 ht0).2 hin d_Mo_copyAttributes_47 (a_mem (fun M4 eM4 => ?_))
  have h := h M4 eM4
  refine a_aload_n fx 0 d_Mo_copyAttributes_48 rfl rfl ?_
  refine a_getS fx (T := F_Mo) (j := 16) (hk := hk0) (ht := ht0) (ht2 := by decide) (hc := rfl) (hin := u_in_Mo) (hj := by decide) (hj2 := by decide) (hf := rfl) (n9 := 15) (hfo := rfl) (hT := rfl) (hw := w_1285) (hd := d_Mo_copyAttributes_49) (kk := ?_)
  refine a_iload_n fx 1 d_Mo_copyAttributes_52 rfl rfl ?_
  refine a_aload_n fx 0 d_Mo_copyAttributes_53 rfl rfl ?_
  refine a_getS fx (T := F_Mo) (j := 16) (hk := hk0) (ht := ht0) (ht2 := by decide) (hc := rfl) (hin := u_in_Mo) (hj := by decide) (hj2 := by decide) (hf := rfl) (n9 := 15) (hfo := rfl) (hT := rfl) (hw := w_1285) (hd := d_Mo_copyAttributes_54) (kk := ?_)
  refine a_iload_n fx 2 d_Mo_copyAttributes_57 rfl rfl ?_
  obtain ⟨hin, h⟩ := h
  refine a_iald fx (lo_9_16 hk0 ht0).1 (lo_9_16 hk0 ht0).2 hin d_Mo_copyAttributes_58 ?_
  obtain ⟨hin, h⟩ := h
  refine a_iast fx (lo_9_16 hk0 ht0).1 (lo_9_16 hk0 ht0).2 hin d_Mo_copyAttributes_59 (a_mem (fun M5 eM5 => ?_))
  have h := h M5 eM5
  refine a_aload_n fx 0 d_Mo_copyAttributes_60 rfl rfl ?_
  refine a_getS fx (T := F_Mo) (j := 17) (hk := hk0) (ht := ht0) (ht2 := by decide) (hc := rfl) (hin := u_in_Mo) (hj := by decide) (hj2 := by decide) (hf := rfl) (n9 := 16) (hfo := rfl) (hT := rfl) (hw := w_1286) (hd := d_Mo_copyAttributes_61) (kk := ?_)
  refine a_iload_n fx 1 d_Mo_copyAttributes_64 rfl rfl ?_
  refine a_aload_n fx 0 d_Mo_copyAttributes_65 rfl rfl ?_
  refine a_getS fx (T := F_Mo) (j := 17) (hk := hk0) (ht := ht0) (ht2 := by decide) (hc := rfl) (hin := u_in_Mo) (hj := by decide) (hj2 := by decide) (hf := rfl) (n9 := 16) (hfo := rfl) (hT := rfl) (hw := w_1286) (hd := d_Mo_copyAttributes_66) (kk := ?_)
  refine a_iload_n fx 2 d_Mo_copyAttributes_69 rfl rfl ?_
  obtain ⟨hin, h⟩ := h
  refine a_iald fx (lo_9_17 hk0 ht0).1 (lo_9_17 hk0 ht0).2 hin d_Mo_copyAttributes_70 ?_
  obtain ⟨hin, h⟩ := h
  refine a_iast fx (lo_9_17 hk0 ht0).1 (lo_9_17 hk0 ht0).2 hin d_Mo_copyAttributes_71 (a_mem (fun M6 eM6 => ?_))
  have h := h M6 eM6
  refine a_aload_n fx 0 d_Mo_copyAttributes_72 rfl rfl ?_
  refine a_getS fx (T := F_Mo) (j := 18) (hk := hk0) (ht := ht0) (ht2 := by decide) (hc := rfl) (hin := u_in_Mo) (hj := by decide) (hj2 := by decide) (hf := rfl) (n9 := 17) (hfo := rfl) (hT := rfl) (hw := w_1287) (hd := d_Mo_copyAttributes_73) (kk := ?_)
  refine a_iload_n fx 1 d_Mo_copyAttributes_76 rfl rfl ?_
  refine a_aload_n fx 0 d_Mo_copyAttributes_77 rfl rfl ?_
  refine a_getS fx (T := F_Mo) (j := 18) (hk := hk0) (ht := ht0) (ht2 := by decide) (hc := rfl) (hin := u_in_Mo) (hj := by decide) (hj2 := by decide) (hf := rfl) (n9 := 17) (hfo := rfl) (hT := rfl) (hw := w_1287) (hd := d_Mo_copyAttributes_78) (kk := ?_)
  refine a_iload_n fx 2 d_Mo_copyAttributes_81 rfl rfl ?_
  obtain ⟨hin, h⟩ := h
  refine a_iald fx (lo_9_18 hk0 ht0).1 (lo_9_18 hk0 ht0).2 hin d_Mo_copyAttributes_82 ?_
  obtain ⟨hin, h⟩ := h
  refine a_iast fx (lo_9_18 hk0 ht0).1 (lo_9_18 hk0 ht0).2 hin d_Mo_copyAttributes_83 (a_mem (fun M7 eM7 => ?_))
  have h := h M7 eM7
  refine a_aload_n fx 0 d_Mo_copyAttributes_84 rfl rfl ?_
  refine a_getS fx (T := F_Mo) (j := 19) (hk := hk0) (ht := ht0) (ht2 := by decide) (hc := rfl) (hin := u_in_Mo) (hj := by decide) (hj2 := by decide) (hf := rfl) (n9 := 18) (hfo := rfl) (hT := rfl) (hw := w_1288) (hd := d_Mo_copyAttributes_85) (kk := ?_)
  refine a_iload_n fx 1 d_Mo_copyAttributes_88 rfl rfl ?_
  refine a_aload_n fx 0 d_Mo_copyAttributes_89 rfl rfl ?_
  refine a_getS fx (T := F_Mo) (j := 19) (hk := hk0) (ht := ht0) (ht2 := by decide) (hc := rfl) (hin := u_in_Mo) (hj := by decide) (hj2 := by decide) (hf := rfl) (n9 := 18) (hfo := rfl) (hT := rfl) (hw := w_1288) (hd := d_Mo_copyAttributes_90) (kk := ?_)
  refine a_iload_n fx 2 d_Mo_copyAttributes_93 rfl rfl ?_
  obtain ⟨hin, h⟩ := h
  refine a_iald fx (lo_9_19 hk0 ht0).1 (lo_9_19 hk0 ht0).2 hin d_Mo_copyAttributes_94 ?_
  obtain ⟨hin, h⟩ := h
  refine a_iast fx (lo_9_19 hk0 ht0).1 (lo_9_19 hk0 ht0).2 hin d_Mo_copyAttributes_95 (a_mem (fun M8 eM8 => ?_))
  have h := h M8 eM8
  exact a_vret fx hlo hr h d_Mo_copyAttributes_96
