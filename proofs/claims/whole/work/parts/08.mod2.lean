/-- MailChainModel.layString(I)Z -/
def Wp_Mo_layString (a0 : Nat) (i1 : Int32) (M : zM) (post : Int32 → zM → Prop) : Prop := ∀ K4 : Int32 → Int32 → zM → Prop, ∀ K50 : Int32 → Int32 → Int32 → zM → Prop, (∀ (v2 : Int32) (v3 : Int32) (M : zM), ((v3 ≤ 256 → ((((M.1 a0 47) + v2) ≤ 16000 → (∀ x1 : Int32, x1 = (((M.1 a0 47) + v2) - 1) → (K50 v2 x1 i1 M))) ∧ (¬ ((M.1 a0 47) + v2) ≤ 16000 → (post 0 M)))) ∧ (¬ v3 ≤ 256 → (∀ x2 : Int32, x2 = v2 + 1 → (vp_in v3 (ln (a0 + 36)) ∧ (∀ x3 : Int32, x3 = (M.1 (a0 + 36) (v3).toNatClampNeg) → (K4 x2 x3 M)))))) → K4 v2 v3 M) → (∀ (v2 : Int32) (v3 : Int32) (v4 : Int32) (M : zM), ((v4 ≤ 256 → (vp_in v3 (ln (a0 + 32)) ∧ (∀ M4 : zM, M4 = zI M (a0 + 32) (v3).toNatClampNeg (vp_nar .byte ((v4).toInt8.toInt32)) → (∀ M5 : zM, M5 = zI M4 a0 47 ((M4.1 a0 47) + v2) → (post 1 M5))))) ∧ (¬ v4 ≤ 256 → (vp_in v4 (ln (a0 + 35)) ∧ (vp_in v3 (ln (a0 + 32)) ∧ (∀ M6 : zM, M6 = zI M (a0 + 32) (v3).toNatClampNeg (vp_nar .byte (((M.1 (a0 + 35) (v4).toNatClampNeg)).toInt8.toInt32)) → (∀ x7 : Int32, x7 = v3 + (-1) → (vp_in v4 (ln (a0 + 36)) ∧ (∀ x8 : Int32, x8 = (M6.1 (a0 + 36) (v4).toNatClampNeg) → (K50 v2 x7 x8 M6))))))))) → K50 v2 v3 v4 M) → (K4 1 i1 M)
/-- MailChainModel.expand(I)Z -/
def Wp_Mo_expand (a0 : Nat) (i1 : Int32) (M : zM) (post : Int32 → zM → Prop) : Prop := ∀ K33 : Int32 → Int32 → Int32 → zM → Prop, ∀ K52 : Int32 → Int32 → Int32 → zM → Prop, ∀ K116 : Int32 → Int32 → Int32 → zM → Prop, ∀ K239 : Int32 → Int32 → Int32 → Int32 → Int32 → zM → Prop, ∀ K258 : Int32 → Int32 → Int32 → Int32 → Int32 → zM → Prop, ∀ K272 : Int32 → Int32 → Int32 → Int32 → Int32 → zM → Prop, ∀ K314 : Int32 → Int32 → Int32 → zM → Prop, (∀ (v2 : Int32) (v3 : Int32) (v4 : Int32) (M : zM), (((8 * (M.1 a0 45)) < ((M.1 a0 58) + (M.1 a0 54)) → (post 1 M)) ∧ (¬ (8 * (M.1 a0 45)) < ((M.1 a0 58) + (M.1 a0 54)) → (K52 v2 v3 v4 M))) → K33 v2 v3 v4 M) → (∀ (v2 : Int32) (v3 : Int32) (v4 : Int32) (M : zM), ((v4 ≤ (1 <<< ((M.1 a0 54) &&& 31)) → (K116 v2 v3 v4 M)) ∧ (¬ v4 ≤ (1 <<< ((M.1 a0 54) &&& 31)) → ((i1 ≤ (M.1 a0 54) → (K116 v2 v3 v4 M)) ∧ (¬ i1 ≤ (M.1 a0 54) → (∀ M5 : zM, M5 = zI M a0 58 ((M.1 a0 58) + (((8 - ((M.1 a0 55) - (M.1 a0 55) / 8 * 8)) - (8 - ((M.1 a0 55) - (M.1 a0 55) / 8 * 8)) / 8 * 8) * (M.1 a0 54))) → (∀ M6 : zM, M6 = zI M5 a0 55 0 → (∀ M7 : zM, M7 = zI M6 a0 54 ((M6.1 a0 54) + 1) → (K52 v2 v3 v4 M7)))))))) → K52 v2 v3 v4 M) → (∀ (v2 : Int32) (v3 : Int32) (v4 : Int32) (M : zM), ((((M.1 a0 58) + (M.1 a0 54)) ≤ (8 * (M.1 a0 45)) → (Wp_Mo_code a0 (M.1 a0 54) M (fun x9 M8 => (∀ M10 : zM, M10 = zI M8 a0 55 ((M8.1 a0 55) + 1) → ((¬ x9 = 256 → ((¬ x9 = v2 → (K239 v2 v3 v4 x9 0 M10)) ∧ (x9 = v2 → ((v3 < 0 → (K239 v2 v3 v4 x9 0 M10)) ∧ (¬ v3 < 0 → (((1 <<< (i1 &&& 31)) ≤ v2 → (K239 v2 v3 v4 x9 0 M10)) ∧ (¬ (1 <<< (i1 &&& 31)) ≤ v2 → (K239 v2 v3 v4 x9 1 M10)))))))) ∧ (x9 = 256 → (∀ M11 : zM, M11 = zI M10 a0 58 ((M10.1 a0 58) + (((8 - ((M10.1 a0 55) - (M10.1 a0 55) / 8 * 8)) - (8 - ((M10.1 a0 55) - (M10.1 a0 55) / 8 * 8)) / 8 * 8) * (M10.1 a0 54))) → (∀ M12 : zM, M12 = zI M11 a0 55 0 → (∀ M13 : zM, M13 = zI M12 a0 54 9 → (K33 257 (-1) 257 M13)))))))))) ∧ (¬ ((M.1 a0 58) + (M.1 a0 54)) ≤ (8 * (M.1 a0 45)) → (post 1 M))) → K116 v2 v3 v4 M) → (∀ (v2 : Int32) (v3 : Int32) (v4 : Int32) (v5 : Int32) (w0 : Int32) (M : zM), ((v2 < v5 → (post 0 M)) ∧ (¬ v2 < v5 → ((¬ v5 = v2 → (K258 v2 v3 v4 v5 w0 M)) ∧ (v5 = v2 → ((w0 = 0 → (post 0 M)) ∧ (¬ w0 = 0 → (K258 v2 v3 v4 v5 w0 M))))))) → K239 v2 v3 v4 v5 w0 M) → (∀ (v2 : Int32) (v3 : Int32) (v4 : Int32) (v5 : Int32) (v6 : Int32) (M : zM), ((v5 < 257 → (K272 v2 v3 v4 v5 v6 M)) ∧ (¬ v5 < 257 → ((0 ≤ v3 → (K272 v2 v3 v4 v5 v6 M)) ∧ (¬ 0 ≤ v3 → (post 0 M))))) → K258 v2 v3 v4 v5 v6 M) → (∀ (v2 : Int32) (v3 : Int32) (v4 : Int32) (v5 : Int32) (v6 : Int32) (M : zM), ((v3 < 0 → (K314 v2 v4 v5 M)) ∧ (¬ v3 < 0 → (((1 <<< (i1 &&& 31)) ≤ v2 → (K314 v2 v4 v5 M)) ∧ (¬ (1 <<< (i1 &&& 31)) ≤ v2 → (vp_in v2 (ln (a0 + 36)) ∧ (∀ M14 : zM, M14 = zI M (a0 + 36) (v2).toNatClampNeg v3 → ((v6 = 0 → (Wp_Mo_firstByte a0 v5 M14 (fun x16 M15 => (vp_in v2 (ln (a0 + 35)) ∧ (∀ M17 : zM, M17 = zI M15 (a0 + 35) (v2).toNatClampNeg x16 → (∀ x18 : Int32, x18 = v2 + 1 → (K314 x18 v4 v5 M17))))))) ∧ (¬ v6 = 0 → (Wp_Mo_firstByte a0 v3 M14 (fun x20 M19 => (vp_in v2 (ln (a0 + 35)) ∧ (∀ M21 : zM, M21 = zI M19 (a0 + 35) (v2).toNatClampNeg x20 → (∀ x22 : Int32, x22 = v2 + 1 → (K314 x22 v4 v5 M21)))))))))))))) → K272 v2 v3 v4 v5 v6 M) → (∀ (v2 : Int32) (v4 : Int32) (v5 : Int32) (M : zM), (Wp_Mo_layString a0 v5 M (fun x24 M23 => ((¬ x24 = 0 → (((1 <<< (i1 &&& 31)) ≤ v4 → (K33 v2 v5 v4 M23)) ∧ (¬ (1 <<< (i1 &&& 31)) ≤ v4 → (∀ x25 : Int32, x25 = (v4 + 1) → (K33 v2 v5 x25 M23))))) ∧ (x24 = 0 → (post 0 M23))))) → K314 v2 v4 v5 M) → (∀ M1 : zM, M1 = zI M a0 47 0 → (∀ M2 : zM, M2 = zI M1 a0 58 24 → (∀ M3 : zM, M3 = zI M2 a0 54 9 → (∀ M4 : zM, M4 = zI M3 a0 55 0 → (K33 257 (-1) 257 M4)))))
/-- MailChainModel.lay(I)V -/
def Wp_Mo_lay (a0 : Nat) (i1 : Int32) (M : zM) (post : zM → Prop) : Prop := (vp_in (M.1 a0 29) (ln (a0 + 24)) ∧ (∀ M1 : zM, M1 = zI M (a0 + 24) ((M.1 a0 29)).toNatClampNeg (vp_nar .byte ((i1).toInt8.toInt32)) → (∀ M2 : zM, M2 = zI M1 a0 29 ((M1.1 a0 29) + 1) → (post M2))))
/-- MailChainModel.six(I)V -/
def Wp_Mo_six (a0 : Nat) (i1 : Int32) (M : zM) (post : zM → Prop) : Prop := ((¬ i1 = 0 → (Wp_Mo_lay a0 (32 + i1) M (fun M1 => (post M1)))) ∧ (i1 = 0 → (Wp_Mo_lay a0 96 M (fun M2 => (post M2)))))
/-- MailChainModel.spellRow([BI)V -/
def Wp_Mo_spellRow (a0 : Nat) (a1 : Nat) (i2 : Int32) (M : zM) (post : zM → Prop) : Prop := ∀ K7 : Int32 → zM → Prop, ∀ K31 : Int32 → zM → Prop, ∀ K52 : Int32 → Int32 → zM → Prop, ∀ K66 : Int32 → Int32 → Int32 → zM → Prop, ∀ K110 : Int32 → Int32 → Int32 → Int32 → Int32 → zM → Prop, ∀ K137 : Int32 → Int32 → Int32 → Int32 → Int32 → Int32 → zM → Prop, (∀ (v3 : Int32) (M : zM), ((15 ≤ v3 → (K31 0 M)) ∧ (¬ 15 ≤ v3 → (vp_in v3 (ln (a0 + 2)) ∧ (Wp_Mo_lay a0 (M.1 (a0 + 2) (v3).toNatClampNeg) M (fun M2 => (∀ x3 : Int32, x3 = v3 + 1 → (K7 x3 M2))))))) → K7 v3 M) → (∀ (v3 : Int32) (M : zM), ((i2 ≤ v3 → (Wp_Mo_lay a0 96 M (fun M4 => (Wp_Mo_lay a0 10 M4 (fun M5 => (Wp_Mo_lay a0 101 M5 (fun M6 => (Wp_Mo_lay a0 110 M6 (fun M7 => (Wp_Mo_lay a0 100 M7 (fun M8 => (Wp_Mo_lay a0 10 M8 (fun M9 => (post M9)))))))))))))) ∧ (¬ i2 ≤ v3 → ((45 ≤ (i2 - v3) → (K52 v3 45 M)) ∧ (¬ 45 ≤ (i2 - v3) → (K52 v3 (i2 - v3) M))))) → K31 v3 M) → (∀ (v3 : Int32) (w0 : Int32) (M : zM), (Wp_Mo_lay a0 (32 + w0) M (fun M10 => (K66 v3 w0 0 M10))) → K52 v3 w0 M) → (∀ (v3 : Int32) (v4 : Int32) (v5 : Int32) (M : zM), ((v4 ≤ v5 → (Wp_Mo_lay a0 10 M (fun M11 => (∀ x12 : Int32, x12 = v3 + 45 → (K31 x12 M11))))) ∧ (¬ v4 ≤ v5 → (vp_in (v3 + v5) (ln a1) ∧ (∀ x13 : Int32, x13 = ((M.1 a1 ((v3 + v5)).toNatClampNeg) &&& 255) → ((v4 ≤ (v5 + 1) → (K110 v3 v4 v5 x13 0 M)) ∧ (¬ v4 ≤ (v5 + 1) → (vp_in ((v3 + v5) + 1) (ln a1) ∧ (K110 v3 v4 v5 x13 ((M.1 a1 (((v3 + v5) + 1)).toNatClampNeg) &&& 255) M)))))))) → K66 v3 v4 v5 M) → (∀ (v3 : Int32) (v4 : Int32) (v5 : Int32) (v6 : Int32) (w0 : Int32) (M : zM), ((v4 ≤ (v5 + 2) → (K137 v3 v4 v5 v6 w0 0 M)) ∧ (¬ v4 ≤ (v5 + 2) → (vp_in ((v3 + v5) + 2) (ln a1) ∧ (K137 v3 v4 v5 v6 w0 ((M.1 a1 (((v3 + v5) + 2)).toNatClampNeg) &&& 255) M)))) → K110 v3 v4 v5 v6 w0 M) → (∀ (v3 : Int32) (v4 : Int32) (v5 : Int32) (v6 : Int32) (v7 : Int32) (w0 : Int32) (M : zM), (Wp_Mo_six a0 (v6 >>> (2 &&& 31)) M (fun M14 => (Wp_Mo_six a0 (((v6 &&& 3) <<< (4 &&& 31)) ||| (v7 >>> (4 &&& 31))) M14 (fun M15 => (Wp_Mo_six a0 (((v7 &&& 15) <<< (2 &&& 31)) ||| (w0 >>> (6 &&& 31))) M15 (fun M16 => (Wp_Mo_six a0 (w0 &&& 63) M16 (fun M17 => (∀ x18 : Int32, x18 = v5 + 3 → (K66 v3 v4 x18 M17)))))))))) → K137 v3 v4 v5 v6 v7 w0 M) → (∀ M1 : zM, M1 = zI M a0 29 0 → (K7 0 M1))
/-- MailChainModel.unspell()V -/
def Wp_Mo_unspell (a0 : Nat) (M : zM) (post : zM → Prop) : Prop := ∀ K10 : Int32 → Int32 → zM → Prop, ∀ K71 : Int32 → Int32 → Int32 → Int32 → zM → Prop, ∀ K87 : Int32 → Int32 → Int32 → Int32 → Int32 → Int32 → zM → Prop, ∀ K125 : Int32 → Int32 → Int32 → Int32 → Int32 → Int32 → zM → Prop, (∀ (v1 : Int32) (v2 : Int32) (M : zM), ((v2 = 0 → (post M)) ∧ (¬ v2 = 0 → (((M.1 a0 47) ≤ v1 → (post M)) ∧ (¬ (M.1 a0 47) ≤ v1 → (vp_in v1 (ln (a0 + 32)) ∧ (∀ x2 : Int32, x2 = ((M.1 (a0 + 32) (v1).toNatClampNeg) - 32) → (∀ x3 : Int32, x3 = v1 + 1 → ((x2 < 1 → (K71 x3 0 x2 0 M)) ∧ (¬ x2 < 1 → ((45 < x2 → (K71 x3 0 x2 0 M)) ∧ (¬ 45 < x2 → (((M.1 a0 47) ≤ (x3 + (((x2 + 2) / 3) * 4)) → (K71 x3 0 x2 0 M)) ∧ (¬ (M.1 a0 47) ≤ (x3 + (((x2 + 2) / 3) * 4)) → (K71 x3 1 x2 0 M)))))))))))))) → K10 v1 v2 M) → (∀ (v1 : Int32) (v2 : Int32) (v3 : Int32) (v4 : Int32) (M : zM), ((v3 ≤ v4 → (∀ x4 : Int32, x4 = v1 + 1 → (K10 x4 v2 M))) ∧ (¬ v3 ≤ v4 → ((v2 = 0 → (∀ x5 : Int32, x5 = v1 + 1 → (K10 x5 v2 M))) ∧ (¬ v2 = 0 → (K87 v1 v2 v3 v4 0 0 M))))) → K71 v1 v2 v3 v4 M) → (∀ (v1 : Int32) (v2 : Int32) (v3 : Int32) (v4 : Int32) (v5 : Int32) (v6 : Int32) (M : zM), ((4 ≤ v6 → (K125 v1 v2 v3 v4 v5 0 M)) ∧ (¬ 4 ≤ v6 → (vp_in v1 (ln (a0 + 32)) ∧ (∀ x6 : Int32, x6 = ((v5 <<< (6 &&& 31)) ||| (((M.1 (a0 + 32) (v1).toNatClampNeg) - 32) &&& 63)) → (∀ x7 : Int32, x7 = v1 + 1 → (∀ x8 : Int32, x8 = v6 + 1 → (K87 x7 v2 v3 v4 x6 x8 M))))))) → K87 v1 v2 v3 v4 v5 v6 M) → (∀ (v1 : Int32) (v2 : Int32) (v3 : Int32) (v4 : Int32) (v5 : Int32) (v6 : Int32) (M : zM), ((3 ≤ v6 → (∀ x9 : Int32, x9 = v4 + 3 → (K71 v1 v2 v3 x9 M))) ∧ (¬ 3 ≤ v6 → ((v3 ≤ (v4 + v6) → (∀ x10 : Int32, x10 = v4 + 3 → (K71 v1 v2 v3 x10 M))) ∧ (¬ v3 ≤ (v4 + v6) → (vp_in (M.1 a0 45) (ln (a0 + 31)) ∧ (∀ M11 : zM, M11 = zI M (a0 + 31) ((M.1 a0 45)).toNatClampNeg (vp_nar .byte (((v5 >>> ((16 - (8 * v6)) &&& 31))).toInt8.toInt32)) → (∀ M12 : zM, M12 = zI M11 a0 45 ((M11.1 a0 45) + 1) → (∀ x13 : Int32, x13 = v6 + 1 → (K125 v1 v2 v3 v4 v5 x13 M12))))))))) → K125 v1 v2 v3 v4 v5 v6 M) → (∀ M1 : zM, M1 = zI M a0 45 0 → (K10 15 1 M1))
/-- MailChainModel.step(II)I -/
def Wp_Mo_step (i0 : Int32) (i1 : Int32) (M : zM) (post : Int32 → zM → Prop) : Prop := ∀ K9 : Int32 → Int32 → zM → Prop, (∀ (v2 : Int32) (v3 : Int32) (M : zM), ((8 ≤ v3 → (post v2 M)) ∧ (¬ 8 ≤ v3 → ((0 ≤ v2 → (∀ x2 : Int32, x2 = (v2 <<< (1 &&& 31)) → (∀ x3 : Int32, x3 = v3 + 1 → (K9 x2 x3 M)))) ∧ (¬ 0 ≤ v2 → (∀ x4 : Int32, x4 = ((v2 <<< (1 &&& 31)) ^^^ 79764919) → (∀ x5 : Int32, x5 = v3 + 1 → (K9 x4 x5 M))))))) → K9 v2 v3 M) → (∀ x1 : Int32, x1 = (i0 ^^^ (i1 <<< (24 &&& 31))) → (K9 x1 0 M))
/-- MailChainModel.sumOf([BII)I -/
def Wp_Mo_sumOf (a0 : Nat) (i1 : Int32) (i2 : Int32) (M : zM) (post : Int32 → zM → Prop) : Prop := ∀ K5 : Int32 → Int32 → zM → Prop, ∀ K35 : Int32 → Int32 → zM → Prop, (∀ (v3 : Int32) (v4 : Int32) (M : zM), ((i2 ≤ v4 → (K35 v3 i2 M)) ∧ (¬ i2 ≤ v4 → (vp_in (i1 + v4) (ln a0) ∧ (Wp_Mo_step v3 ((M.1 a0 ((i1 + v4)).toNatClampNeg) &&& 255) M (fun x2 M1 => (∀ x3 : Int32, x3 = v4 + 1 → (K5 x2 x3 M1))))))) → K5 v3 v4 M) → (∀ (v3 : Int32) (v4 : Int32) (M : zM), ((v4 ≤ 0 → (post (v3 ^^^ (-1)) M)) ∧ (¬ v4 ≤ 0 → (Wp_Mo_step v3 (v4 &&& 255) M (fun x5 M4 => (∀ x6 : Int32, x6 = (v4 >>> (8 &&& 31)) → (K35 x5 x6 M4)))))) → K35 v3 v4 M) → (K5 0 0 M)
/-- MailChainModel.checksum()I -/
def Wp_Mo_checksum (a0 : Nat) (M : zM) (post : Int32 → zM → Prop) : Prop := (∀ M1 : zM, M1 = zI M a0 6 0 → (Wp_Mo_sumOf (a0 + 7) 0 (M1.1 a0 7) M1 (fun x3 M2 => (∀ M4 : zM, M4 = zI M2 a0 7 0 → (post x3 M4)))))
/-- MailChainModel.pack(II)I -/
def Wp_Mo_pack (a0 : Nat) (i1 : Int32) (i2 : Int32) (M : zM) (post : Int32 → zM → Prop) : Prop := ∀ K31 : Int32 → Nat → zM → Prop, ∀ K125 : Int32 → Int32 → zM → Prop, ∀ K165 : Int32 → Int32 → zM → Prop, (∀ (w0 : Int32) (w1 : Nat) (M : zM), w1 < N0 ∧ tg w1 = 9 ∧ (∀ M1 : zM, M1 = zI M w1 6 w0 → (((M1.1 a0 6) ≤ 0 → (Wp_Mo_isLarge a0 0 M1 (fun x3 M2 => ((x3 = 0 → (Wp_Mo_archiveOf a0 0 M2 (fun M4 => (Wp_Mo_compressRow a0 (a0 + 22) (M4.1 a0 25) i1 M4 (fun M5 => (Wp_Mo_spellRow a0 (a0 + 23) (M5.1 a0 27) M5 (fun M6 => (¬ i2 = 0 ∧ (∀ x7 : Int32, x7 = ((((M6.1 a0 29) + i2) - 1) / i2) → ((x7 ≤ 999 → (∀ M8 : zM, M8 = zI M6 a0 31 x7 → (∀ M9 : zM, M9 = zI M8 a0 32 i2 → (∀ M10 : zM, M10 = zI M9 a0 33 (M9.1 a0 27) → (K125 x7 0 M10))))) ∧ (¬ x7 ≤ 999 → (post (-2) M6)))))))))))) ∧ (¬ x3 = 0 → (post (-1) M2)))))) ∧ (¬ (M1.1 a0 6) ≤ 0 → (post 0 M1)))) → K31 w0 w1 M) → (∀ (v3 : Int32) (v4 : Int32) (M : zM), (((M.1 a0 27) ≤ v4 → (∀ M11 : zM, M11 = zI M a0 35 (M.1 a0 29) → (K165 v3 0 M11))) ∧ (¬ (M.1 a0 27) ≤ v4 → (vp_in v4 (ln (a0 + 23)) ∧ (vp_in v4 (ln (a0 + 25)) ∧ (∀ M12 : zM, M12 = zI M (a0 + 25) (v4).toNatClampNeg (vp_nar .byte (M.1 (a0 + 23) (v4).toNatClampNeg)) → (∀ x13 : Int32, x13 = v4 + 1 → (K125 v3 x13 M12))))))) → K125 v3 v4 M) → (∀ (v3 : Int32) (v4 : Int32) (M : zM), (((M.1 a0 29) ≤ v4 → (post v3 M)) ∧ (¬ (M.1 a0 29) ≤ v4 → (vp_in v4 (ln (a0 + 24)) ∧ (vp_in v4 (ln (a0 + 26)) ∧ (∀ M14 : zM, M14 = zI M (a0 + 26) (v4).toNatClampNeg (vp_nar .byte (M.1 (a0 + 24) (v4).toNatClampNeg)) → (∀ x15 : Int32, x15 = v4 + 1 → (K165 v3 x15 M14))))))) → K165 v3 v4 M) → ((i1 < 9 → (K31 1 a0 M)) ∧ (¬ i1 < 9 → ((16 < i1 → (K31 1 a0 M)) ∧ (¬ 16 < i1 → ((i2 < 40 → (K31 1 a0 M)) ∧ (¬ i2 < 40 → ((i2 ≤ 4000 → (K31 0 a0 M)) ∧ (¬ i2 ≤ 4000 → (K31 1 a0 M)))))))))
/-- MailChainModel.putChar(I)V -/
def Wp_Mo_putChar (a0 : Nat) (i1 : Int32) (M : zM) (post : zM → Prop) : Prop := (vp_in (M.1 a0 59) (ln (a0 + 37)) ∧ (∀ M1 : zM, M1 = zI M (a0 + 37) ((M.1 a0 59)).toNatClampNeg (vp_nar .byte ((i1).toInt8.toInt32)) → (∀ M2 : zM, M2 = zI M1 a0 59 ((M1.1 a0 59) + 1) → (post M2))))
/-- MailChainModel.putWord([B)V -/
def Wp_Mo_putWord (a0 : Nat) (a1 : Nat) (M : zM) (post : zM → Prop) : Prop := ∀ K2 : Int32 → zM → Prop, (∀ (v2 : Int32) (M : zM), (((Int32.ofNat (ln a1)) ≤ v2 → (post M)) ∧ (¬ (Int32.ofNat (ln a1)) ≤ v2 → (vp_in v2 (ln a1) ∧ (Wp_Mo_putChar a0 (M.1 a1 (v2).toNatClampNeg) M (fun M1 => (∀ x2 : Int32, x2 = v2 + 1 → (K2 x2 M1))))))) → K2 v2 M) → (K2 0 M)
/-- MailChainModel.putDecimal(J)V -/
def Wp_Mo_putDecimal (a0 : Nat) (l1 : Int64) (M : zM) (post : zM → Prop) : Prop := ∀ K2 : Int64 → zM → Prop, ∀ K21 : Int64 → zM → Prop, (∀ (v3 : Int64) (M : zM), ((0 < (lg_cmp v3 (l1 / 10)) → (K21 v3 M)) ∧ (¬ 0 < (lg_cmp v3 (l1 / 10)) → (∀ y1 : Int64, y1 = (v3 * 10) → (K2 y1 M)))) → K2 v3 M) → (∀ (v3 : Int64) (M : zM), (((lg_cmp v3 0) ≤ 0 → (post M)) ∧ (¬ (lg_cmp v3 0) ≤ 0 → (¬ v3 = 0 ∧ (vp_in (M.1 a0 59) (ln (a0 + 37)) ∧ (∀ M2 : zM, M2 = zI M (a0 + 37) ((M.1 a0 59)).toNatClampNeg (vp_nar .byte (((48 + ((((l1 / v3) - (l1 / v3) / 10 * 10)).toInt32))).toInt8.toInt32)) → (∀ M3 : zM, M3 = zI M2 a0 59 ((M2.1 a0 59) + 1) → (∀ y4 : Int64, y4 = (v3 / 10) → (K21 y4 M3)))))))) → K21 v3 M) → (K2 1 M)
/-- MailChainModel.writePart(I)V -/
def Wp_Mo_writePart (a0 : Nat) (i1 : Int32) (M : zM) (post : zM → Prop) : Prop := ∀ K35 : Int32 → Int32 → zM → Prop, ∀ K139 : Int32 → Int32 → Int32 → zM → Prop, (∀ (v2 : Int32) (w0 : Int32) (M : zM), (∀ M2 : zM, M2 = zI M a0 59 0 → (Wp_Mo_putWord a0 (a0 + 3) M2 (fun M3 => (Wp_Mo_putDecimal a0 ((i1).toInt64) M3 (fun M4 => (Wp_Mo_putChar a0 32 M4 (fun M5 => (Wp_Mo_putWord a0 (a0 + 4) M5 (fun M6 => (Wp_Mo_putDecimal a0 (((M6.1 a0 31)).toInt64) M6 (fun M7 => (Wp_Mo_putChar a0 32 M7 (fun M8 => (Wp_Mo_putWord a0 (a0 + 5) M8 (fun M9 => (Wp_Mo_putDecimal a0 ((w0).toInt64) M9 (fun M10 => (Wp_Mo_putChar a0 32 M10 (fun M11 => (Wp_Mo_putWord a0 (a0 + 6) M11 (fun M12 => (Wp_Mo_sumOf (a0 + 26) v2 w0 M12 (fun x14 M13 => (Wp_Mo_putDecimal a0 (((x14).toInt64) &&& 4294967295) M13 (fun M15 => (Wp_Mo_putChar a0 10 M15 (fun M16 => (K139 v2 w0 0 M16)))))))))))))))))))))))))))) → K35 v2 w0 M) → (∀ (v2 : Int32) (v3 : Int32) (v4 : Int32) (M : zM), ((v3 ≤ v4 → (post M)) ∧ (¬ v3 ≤ v4 → (vp_in (v2 + v4) (ln (a0 + 26)) ∧ (Wp_Mo_putChar a0 (M.1 (a0 + 26) ((v2 + v4)).toNatClampNeg) M (fun M17 => (∀ x18 : Int32, x18 = v4 + 1 → (K139 v2 v3 x18 M17))))))) → K139 v2 v3 v4 M) → (∀ x1 : Int32, x1 = ((i1 - 1) * (M.1 a0 32)) → (((M.1 a0 32) ≤ ((M.1 a0 35) - x1) → (K35 x1 (M.1 a0 32) M)) ∧ (¬ (M.1 a0 32) ≤ ((M.1 a0 35) - x1) → (K35 x1 ((M.1 a0 35) - x1) M))))
theorem d_Mo_layString_0 : decode b_Mo_layString 0 = .ok (.iconst 1, 1) := by decide +kernel
theorem d_Mo_layString_1 : decode b_Mo_layString 1 = .ok (.istore_n 2, 1) := by decide +kernel
theorem d_Mo_layString_2 : decode b_Mo_layString 2 = .ok (.iload_n 1, 1) := by decide +kernel
theorem d_Mo_layString_3 : decode b_Mo_layString 3 = .ok (.istore_n 3, 1) := by decide +kernel
theorem d_Mo_layString_4 : decode b_Mo_layString 4 = .ok (.iload_n 3, 1) := by decide +kernel
theorem d_Mo_layString_5 : decode b_Mo_layString 5 = .ok (.sipush 256, 3) := by decide +kernel
theorem d_Mo_layString_8 : decode b_Mo_layString 8 = .ok (.if_icmp .le 16, 3) := by decide +kernel
theorem d_Mo_layString_11 : decode b_Mo_layString 11 = .ok (.iinc 2 1, 3) := by decide +kernel
theorem d_Mo_layString_14 : decode b_Mo_layString 14 = .ok (.aload_n 0, 1) := by decide +kernel
theorem d_Mo_layString_15 : decode b_Mo_layString 15 = .ok (.getfield 122, 3) := by decide +kernel
theorem d_Mo_layString_18 : decode b_Mo_layString 18 = .ok (.iload_n 3, 1) := by decide +kernel
theorem d_Mo_layString_19 : decode b_Mo_layString 19 = .ok (.iaload, 1) := by decide +kernel
theorem d_Mo_layString_20 : decode b_Mo_layString 20 = .ok (.istore_n 3, 1) := by decide +kernel
theorem d_Mo_layString_21 : decode b_Mo_layString 21 = .ok (.goto (-17), 3) := by decide +kernel
theorem d_Mo_layString_24 : decode b_Mo_layString 24 = .ok (.aload_n 0, 1) := by decide +kernel
theorem d_Mo_layString_25 : decode b_Mo_layString 25 = .ok (.getfield 262, 3) := by decide +kernel
theorem d_Mo_layString_28 : decode b_Mo_layString 28 = .ok (.iload_n 2, 1) := by decide +kernel
theorem d_Mo_layString_29 : decode b_Mo_layString 29 = .ok (.iadd, 1) := by decide +kernel
theorem d_Mo_layString_30 : decode b_Mo_layString 30 = .ok (.sipush 16000, 3) := by decide +kernel
theorem d_Mo_layString_33 : decode b_Mo_layString 33 = .ok (.if_icmp .le 5, 3) := by decide +kernel
theorem d_Mo_layString_36 : decode b_Mo_layString 36 = .ok (.iconst 0, 1) := by decide +kernel
theorem d_Mo_layString_37 : decode b_Mo_layString 37 = .ok (.ireturn, 1) := by decide +kernel
theorem d_Mo_layString_38 : decode b_Mo_layString 38 = .ok (.aload_n 0, 1) := by decide +kernel
theorem d_Mo_layString_39 : decode b_Mo_layString 39 = .ok (.getfield 262, 3) := by decide +kernel
theorem d_Mo_layString_42 : decode b_Mo_layString 42 = .ok (.iload_n 2, 1) := by decide +kernel
theorem d_Mo_layString_43 : decode b_Mo_layString 43 = .ok (.iadd, 1) := by decide +kernel
theorem d_Mo_layString_44 : decode b_Mo_layString 44 = .ok (.iconst 1, 1) := by decide +kernel
theorem d_Mo_layString_45 : decode b_Mo_layString 45 = .ok (.isub, 1) := by decide +kernel
theorem d_Mo_layString_46 : decode b_Mo_layString 46 = .ok (.istore_n 3, 1) := by decide +kernel
theorem d_Mo_layString_47 : decode b_Mo_layString 47 = .ok (.iload_n 1, 1) := by decide +kernel
theorem d_Mo_layString_48 : decode b_Mo_layString 48 = .ok (.istore 4, 2) := by decide +kernel
theorem d_Mo_layString_50 : decode b_Mo_layString 50 = .ok (.iload 4, 2) := by decide +kernel
theorem d_Mo_layString_52 : decode b_Mo_layString 52 = .ok (.sipush 256, 3) := by decide +kernel
theorem d_Mo_layString_55 : decode b_Mo_layString 55 = .ok (.if_icmp .le 32, 3) := by decide +kernel
theorem d_Mo_layString_58 : decode b_Mo_layString 58 = .ok (.aload_n 0, 1) := by decide +kernel
theorem d_Mo_layString_59 : decode b_Mo_layString 59 = .ok (.getfield 109, 3) := by decide +kernel
theorem d_Mo_layString_62 : decode b_Mo_layString 62 = .ok (.iload_n 3, 1) := by decide +kernel
theorem d_Mo_layString_63 : decode b_Mo_layString 63 = .ok (.aload_n 0, 1) := by decide +kernel
theorem d_Mo_layString_64 : decode b_Mo_layString 64 = .ok (.getfield 119, 3) := by decide +kernel
theorem d_Mo_layString_67 : decode b_Mo_layString 67 = .ok (.iload 4, 2) := by decide +kernel
theorem d_Mo_layString_69 : decode b_Mo_layString 69 = .ok (.iaload, 1) := by decide +kernel
theorem d_Mo_layString_70 : decode b_Mo_layString 70 = .ok (.i2b, 1) := by decide +kernel
theorem d_Mo_layString_71 : decode b_Mo_layString 71 = .ok (.bastore, 1) := by decide +kernel
theorem d_Mo_layString_72 : decode b_Mo_layString 72 = .ok (.iinc 3 (-1), 3) := by decide +kernel
theorem d_Mo_layString_75 : decode b_Mo_layString 75 = .ok (.aload_n 0, 1) := by decide +kernel
theorem d_Mo_layString_76 : decode b_Mo_layString 76 = .ok (.getfield 122, 3) := by decide +kernel
theorem d_Mo_layString_79 : decode b_Mo_layString 79 = .ok (.iload 4, 2) := by decide +kernel
theorem d_Mo_layString_81 : decode b_Mo_layString 81 = .ok (.iaload, 1) := by decide +kernel
theorem d_Mo_layString_82 : decode b_Mo_layString 82 = .ok (.istore 4, 2) := by decide +kernel
theorem d_Mo_layString_84 : decode b_Mo_layString 84 = .ok (.goto (-34), 3) := by decide +kernel
theorem d_Mo_layString_87 : decode b_Mo_layString 87 = .ok (.aload_n 0, 1) := by decide +kernel
theorem d_Mo_layString_88 : decode b_Mo_layString 88 = .ok (.getfield 109, 3) := by decide +kernel
theorem d_Mo_layString_91 : decode b_Mo_layString 91 = .ok (.iload_n 3, 1) := by decide +kernel
theorem d_Mo_layString_92 : decode b_Mo_layString 92 = .ok (.iload 4, 2) := by decide +kernel
theorem d_Mo_layString_94 : decode b_Mo_layString 94 = .ok (.i2b, 1) := by decide +kernel
theorem d_Mo_layString_95 : decode b_Mo_layString 95 = .ok (.bastore, 1) := by decide +kernel
theorem d_Mo_layString_96 : decode b_Mo_layString 96 = .ok (.aload_n 0, 1) := by decide +kernel
theorem d_Mo_layString_97 : decode b_Mo_layString 97 = .ok (.aload_n 0, 1) := by decide +kernel
theorem d_Mo_layString_98 : decode b_Mo_layString 98 = .ok (.getfield 262, 3) := by decide +kernel
theorem d_Mo_layString_101 : decode b_Mo_layString 101 = .ok (.iload_n 2, 1) := by decide +kernel
theorem d_Mo_layString_102 : decode b_Mo_layString 102 = .ok (.iadd, 1) := by decide +kernel
theorem d_Mo_layString_103 : decode b_Mo_layString 103 = .ok (.putfield 262, 3) := by decide +kernel
theorem d_Mo_layString_106 : decode b_Mo_layString 106 = .ok (.iconst 1, 1) := by decide +kernel
theorem d_Mo_layString_107 : decode b_Mo_layString 107 = .ok (.ireturn, 1) := by decide +kernel
theorem d_Mo_expand_0 : decode b_Mo_expand 0 = .ok (.aload_n 0, 1) := by decide +kernel
theorem d_Mo_expand_1 : decode b_Mo_expand 1 = .ok (.iconst 0, 1) := by decide +kernel
theorem d_Mo_expand_2 : decode b_Mo_expand 2 = .ok (.putfield 262, 3) := by decide +kernel
theorem d_Mo_expand_5 : decode b_Mo_expand 5 = .ok (.aload_n 0, 1) := by decide +kernel
theorem d_Mo_expand_6 : decode b_Mo_expand 6 = .ok (.bipush 24, 2) := by decide +kernel
theorem d_Mo_expand_8 : decode b_Mo_expand 8 = .ok (.putfield 256, 3) := by decide +kernel
theorem d_Mo_expand_11 : decode b_Mo_expand 11 = .ok (.aload_n 0, 1) := by decide +kernel
theorem d_Mo_expand_12 : decode b_Mo_expand 12 = .ok (.bipush 9, 2) := by decide +kernel
theorem d_Mo_expand_14 : decode b_Mo_expand 14 = .ok (.putfield 238, 3) := by decide +kernel
theorem d_Mo_expand_17 : decode b_Mo_expand 17 = .ok (.aload_n 0, 1) := by decide +kernel
theorem d_Mo_expand_18 : decode b_Mo_expand 18 = .ok (.iconst 0, 1) := by decide +kernel
theorem d_Mo_expand_19 : decode b_Mo_expand 19 = .ok (.putfield 235, 3) := by decide +kernel
theorem d_Mo_expand_22 : decode b_Mo_expand 22 = .ok (.sipush 257, 3) := by decide +kernel
theorem d_Mo_expand_25 : decode b_Mo_expand 25 = .ok (.istore_n 2, 1) := by decide +kernel
theorem d_Mo_expand_26 : decode b_Mo_expand 26 = .ok (.iconst (-1), 1) := by decide +kernel
theorem d_Mo_expand_27 : decode b_Mo_expand 27 = .ok (.istore_n 3, 1) := by decide +kernel
theorem d_Mo_expand_28 : decode b_Mo_expand 28 = .ok (.sipush 257, 3) := by decide +kernel
theorem d_Mo_expand_31 : decode b_Mo_expand 31 = .ok (.istore 4, 2) := by decide +kernel
theorem d_Mo_expand_33 : decode b_Mo_expand 33 = .ok (.aload_n 0, 1) := by decide +kernel
theorem d_Mo_expand_34 : decode b_Mo_expand 34 = .ok (.getfield 256, 3) := by decide +kernel
theorem d_Mo_expand_37 : decode b_Mo_expand 37 = .ok (.aload_n 0, 1) := by decide +kernel
theorem d_Mo_expand_38 : decode b_Mo_expand 38 = .ok (.getfield 238, 3) := by decide +kernel
theorem d_Mo_expand_41 : decode b_Mo_expand 41 = .ok (.iadd, 1) := by decide +kernel
theorem d_Mo_expand_42 : decode b_Mo_expand 42 = .ok (.bipush 8, 2) := by decide +kernel
theorem d_Mo_expand_44 : decode b_Mo_expand 44 = .ok (.aload_n 0, 1) := by decide +kernel
theorem d_Mo_expand_45 : decode b_Mo_expand 45 = .ok (.getfield 259, 3) := by decide +kernel
theorem d_Mo_expand_48 : decode b_Mo_expand 48 = .ok (.imul, 1) := by decide +kernel
theorem d_Mo_expand_49 : decode b_Mo_expand 49 = .ok (.if_icmp .gt 301, 3) := by decide +kernel
theorem d_Mo_expand_52 : decode b_Mo_expand 52 = .ok (.iload 4, 2) := by decide +kernel
theorem d_Mo_expand_54 : decode b_Mo_expand 54 = .ok (.iconst 1, 1) := by decide +kernel
theorem d_Mo_expand_55 : decode b_Mo_expand 55 = .ok (.aload_n 0, 1) := by decide +kernel
theorem d_Mo_expand_56 : decode b_Mo_expand 56 = .ok (.getfield 238, 3) := by decide +kernel
theorem d_Mo_expand_59 : decode b_Mo_expand 59 = .ok (.ishl, 1) := by decide +kernel
theorem d_Mo_expand_60 : decode b_Mo_expand 60 = .ok (.if_icmp .le 56, 3) := by decide +kernel
theorem d_Mo_expand_63 : decode b_Mo_expand 63 = .ok (.aload_n 0, 1) := by decide +kernel
theorem d_Mo_expand_64 : decode b_Mo_expand 64 = .ok (.getfield 238, 3) := by decide +kernel
theorem d_Mo_expand_67 : decode b_Mo_expand 67 = .ok (.iload_n 1, 1) := by decide +kernel
theorem d_Mo_expand_68 : decode b_Mo_expand 68 = .ok (.if_icmp .ge 48, 3) := by decide +kernel
theorem d_Mo_expand_71 : decode b_Mo_expand 71 = .ok (.aload_n 0, 1) := by decide +kernel
theorem d_Mo_expand_72 : decode b_Mo_expand 72 = .ok (.aload_n 0, 1) := by decide +kernel
theorem d_Mo_expand_73 : decode b_Mo_expand 73 = .ok (.getfield 256, 3) := by decide +kernel
theorem d_Mo_expand_76 : decode b_Mo_expand 76 = .ok (.bipush 8, 2) := by decide +kernel
theorem d_Mo_expand_78 : decode b_Mo_expand 78 = .ok (.aload_n 0, 1) := by decide +kernel
theorem d_Mo_expand_79 : decode b_Mo_expand 79 = .ok (.getfield 235, 3) := by decide +kernel
theorem d_Mo_expand_82 : decode b_Mo_expand 82 = .ok (.bipush 8, 2) := by decide +kernel
theorem d_Mo_expand_84 : decode b_Mo_expand 84 = .ok (.irem, 1) := by decide +kernel
theorem d_Mo_expand_85 : decode b_Mo_expand 85 = .ok (.isub, 1) := by decide +kernel
theorem d_Mo_expand_86 : decode b_Mo_expand 86 = .ok (.bipush 8, 2) := by decide +kernel
theorem d_Mo_expand_88 : decode b_Mo_expand 88 = .ok (.irem, 1) := by decide +kernel
theorem d_Mo_expand_89 : decode b_Mo_expand 89 = .ok (.aload_n 0, 1) := by decide +kernel
theorem d_Mo_expand_90 : decode b_Mo_expand 90 = .ok (.getfield 238, 3) := by decide +kernel
theorem d_Mo_expand_93 : decode b_Mo_expand 93 = .ok (.imul, 1) := by decide +kernel
theorem d_Mo_expand_94 : decode b_Mo_expand 94 = .ok (.iadd, 1) := by decide +kernel
theorem d_Mo_expand_95 : decode b_Mo_expand 95 = .ok (.putfield 256, 3) := by decide +kernel
theorem d_Mo_expand_98 : decode b_Mo_expand 98 = .ok (.aload_n 0, 1) := by decide +kernel
theorem d_Mo_expand_99 : decode b_Mo_expand 99 = .ok (.iconst 0, 1) := by decide +kernel
theorem d_Mo_expand_100 : decode b_Mo_expand 100 = .ok (.putfield 235, 3) := by decide +kernel
theorem d_Mo_expand_103 : decode b_Mo_expand 103 = .ok (.aload_n 0, 1) := by decide +kernel
theorem d_Mo_expand_104 : decode b_Mo_expand 104 = .ok (.dup, 1) := by decide +kernel
theorem d_Mo_expand_105 : decode b_Mo_expand 105 = .ok (.getfield 238, 3) := by decide +kernel
theorem d_Mo_expand_108 : decode b_Mo_expand 108 = .ok (.iconst 1, 1) := by decide +kernel
theorem d_Mo_expand_109 : decode b_Mo_expand 109 = .ok (.iadd, 1) := by decide +kernel
theorem d_Mo_expand_110 : decode b_Mo_expand 110 = .ok (.putfield 238, 3) := by decide +kernel
theorem d_Mo_expand_113 : decode b_Mo_expand 113 = .ok (.goto (-61), 3) := by decide +kernel
theorem d_Mo_expand_116 : decode b_Mo_expand 116 = .ok (.aload_n 0, 1) := by decide +kernel
theorem d_Mo_expand_117 : decode b_Mo_expand 117 = .ok (.getfield 256, 3) := by decide +kernel
theorem d_Mo_expand_120 : decode b_Mo_expand 120 = .ok (.aload_n 0, 1) := by decide +kernel
theorem d_Mo_expand_121 : decode b_Mo_expand 121 = .ok (.getfield 238, 3) := by decide +kernel
theorem d_Mo_expand_124 : decode b_Mo_expand 124 = .ok (.iadd, 1) := by decide +kernel
theorem d_Mo_expand_125 : decode b_Mo_expand 125 = .ok (.bipush 8, 2) := by decide +kernel
theorem d_Mo_expand_127 : decode b_Mo_expand 127 = .ok (.aload_n 0, 1) := by decide +kernel
theorem d_Mo_expand_128 : decode b_Mo_expand 128 = .ok (.getfield 259, 3) := by decide +kernel
theorem d_Mo_expand_131 : decode b_Mo_expand 131 = .ok (.imul, 1) := by decide +kernel
theorem d_Mo_expand_132 : decode b_Mo_expand 132 = .ok (.if_icmp .le 5, 3) := by decide +kernel
theorem d_Mo_expand_135 : decode b_Mo_expand 135 = .ok (.iconst 1, 1) := by decide +kernel
theorem d_Mo_expand_136 : decode b_Mo_expand 136 = .ok (.ireturn, 1) := by decide +kernel
theorem d_Mo_expand_137 : decode b_Mo_expand 137 = .ok (.aload_n 0, 1) := by decide +kernel
theorem d_Mo_expand_138 : decode b_Mo_expand 138 = .ok (.aload_n 0, 1) := by decide +kernel
theorem d_Mo_expand_139 : decode b_Mo_expand 139 = .ok (.getfield 238, 3) := by decide +kernel
theorem d_Mo_expand_142 : decode b_Mo_expand 142 = .ok (.invokevirtual 265, 3) := by decide +kernel
theorem d_Mo_expand_145 : decode b_Mo_expand 145 = .ok (.istore 5, 2) := by decide +kernel
theorem d_Mo_expand_147 : decode b_Mo_expand 147 = .ok (.aload_n 0, 1) := by decide +kernel
theorem d_Mo_expand_148 : decode b_Mo_expand 148 = .ok (.dup, 1) := by decide +kernel
theorem d_Mo_expand_149 : decode b_Mo_expand 149 = .ok (.getfield 235, 3) := by decide +kernel
theorem d_Mo_expand_152 : decode b_Mo_expand 152 = .ok (.iconst 1, 1) := by decide +kernel
theorem d_Mo_expand_153 : decode b_Mo_expand 153 = .ok (.iadd, 1) := by decide +kernel
theorem d_Mo_expand_154 : decode b_Mo_expand 154 = .ok (.putfield 235, 3) := by decide +kernel
theorem d_Mo_expand_157 : decode b_Mo_expand 157 = .ok (.iload 5, 2) := by decide +kernel
theorem d_Mo_expand_159 : decode b_Mo_expand 159 = .ok (.sipush 256, 3) := by decide +kernel
theorem d_Mo_expand_162 : decode b_Mo_expand 162 = .ok (.if_icmp .ne 55, 3) := by decide +kernel
theorem d_Mo_expand_165 : decode b_Mo_expand 165 = .ok (.aload_n 0, 1) := by decide +kernel
theorem d_Mo_expand_166 : decode b_Mo_expand 166 = .ok (.aload_n 0, 1) := by decide +kernel
theorem d_Mo_expand_167 : decode b_Mo_expand 167 = .ok (.getfield 256, 3) := by decide +kernel
theorem d_Mo_expand_170 : decode b_Mo_expand 170 = .ok (.bipush 8, 2) := by decide +kernel
theorem d_Mo_expand_172 : decode b_Mo_expand 172 = .ok (.aload_n 0, 1) := by decide +kernel
theorem d_Mo_expand_173 : decode b_Mo_expand 173 = .ok (.getfield 235, 3) := by decide +kernel
theorem d_Mo_expand_176 : decode b_Mo_expand 176 = .ok (.bipush 8, 2) := by decide +kernel
theorem d_Mo_expand_178 : decode b_Mo_expand 178 = .ok (.irem, 1) := by decide +kernel
theorem d_Mo_expand_179 : decode b_Mo_expand 179 = .ok (.isub, 1) := by decide +kernel
theorem d_Mo_expand_180 : decode b_Mo_expand 180 = .ok (.bipush 8, 2) := by decide +kernel
theorem d_Mo_expand_182 : decode b_Mo_expand 182 = .ok (.irem, 1) := by decide +kernel
theorem d_Mo_expand_183 : decode b_Mo_expand 183 = .ok (.aload_n 0, 1) := by decide +kernel
theorem d_Mo_expand_184 : decode b_Mo_expand 184 = .ok (.getfield 238, 3) := by decide +kernel
theorem d_Mo_expand_187 : decode b_Mo_expand 187 = .ok (.imul, 1) := by decide +kernel
theorem d_Mo_expand_188 : decode b_Mo_expand 188 = .ok (.iadd, 1) := by decide +kernel
theorem d_Mo_expand_189 : decode b_Mo_expand 189 = .ok (.putfield 256, 3) := by decide +kernel
theorem d_Mo_expand_192 : decode b_Mo_expand 192 = .ok (.aload_n 0, 1) := by decide +kernel
theorem d_Mo_expand_193 : decode b_Mo_expand 193 = .ok (.iconst 0, 1) := by decide +kernel
theorem d_Mo_expand_194 : decode b_Mo_expand 194 = .ok (.putfield 235, 3) := by decide +kernel
theorem d_Mo_expand_197 : decode b_Mo_expand 197 = .ok (.aload_n 0, 1) := by decide +kernel
theorem d_Mo_expand_198 : decode b_Mo_expand 198 = .ok (.bipush 9, 2) := by decide +kernel
theorem d_Mo_expand_200 : decode b_Mo_expand 200 = .ok (.putfield 238, 3) := by decide +kernel
theorem d_Mo_expand_203 : decode b_Mo_expand 203 = .ok (.sipush 257, 3) := by decide +kernel
theorem d_Mo_expand_206 : decode b_Mo_expand 206 = .ok (.istore_n 2, 1) := by decide +kernel
theorem d_Mo_expand_207 : decode b_Mo_expand 207 = .ok (.sipush 257, 3) := by decide +kernel
theorem d_Mo_expand_210 : decode b_Mo_expand 210 = .ok (.istore 4, 2) := by decide +kernel
theorem d_Mo_expand_212 : decode b_Mo_expand 212 = .ok (.iconst (-1), 1) := by decide +kernel
theorem d_Mo_expand_213 : decode b_Mo_expand 213 = .ok (.istore_n 3, 1) := by decide +kernel
theorem d_Mo_expand_214 : decode b_Mo_expand 214 = .ok (.goto 133, 3) := by decide +kernel
theorem d_Mo_expand_217 : decode b_Mo_expand 217 = .ok (.iload 5, 2) := by decide +kernel
theorem d_Mo_expand_219 : decode b_Mo_expand 219 = .ok (.iload_n 2, 1) := by decide +kernel
theorem d_Mo_expand_220 : decode b_Mo_expand 220 = .ok (.if_icmp .ne 18, 3) := by decide +kernel
theorem d_Mo_expand_223 : decode b_Mo_expand 223 = .ok (.iload_n 3, 1) := by decide +kernel
theorem d_Mo_expand_224 : decode b_Mo_expand 224 = .ok (.ifCond .lt 14, 3) := by decide +kernel
theorem d_Mo_expand_227 : decode b_Mo_expand 227 = .ok (.iload_n 2, 1) := by decide +kernel
theorem d_Mo_expand_228 : decode b_Mo_expand 228 = .ok (.iconst 1, 1) := by decide +kernel
theorem d_Mo_expand_229 : decode b_Mo_expand 229 = .ok (.iload_n 1, 1) := by decide +kernel
theorem d_Mo_expand_230 : decode b_Mo_expand 230 = .ok (.ishl, 1) := by decide +kernel
theorem d_Mo_expand_231 : decode b_Mo_expand 231 = .ok (.if_icmp .ge 7, 3) := by decide +kernel
theorem d_Mo_expand_234 : decode b_Mo_expand 234 = .ok (.iconst 1, 1) := by decide +kernel
theorem d_Mo_expand_235 : decode b_Mo_expand 235 = .ok (.goto 4, 3) := by decide +kernel
theorem d_Mo_expand_238 : decode b_Mo_expand 238 = .ok (.iconst 0, 1) := by decide +kernel
theorem d_Mo_expand_239 : decode b_Mo_expand 239 = .ok (.istore 6, 2) := by decide +kernel
theorem d_Mo_expand_241 : decode b_Mo_expand 241 = .ok (.iload 5, 2) := by decide +kernel
theorem d_Mo_expand_243 : decode b_Mo_expand 243 = .ok (.iload_n 2, 1) := by decide +kernel
theorem d_Mo_expand_244 : decode b_Mo_expand 244 = .ok (.if_icmp .gt 26, 3) := by decide +kernel
theorem d_Mo_expand_247 : decode b_Mo_expand 247 = .ok (.iload 5, 2) := by decide +kernel
theorem d_Mo_expand_249 : decode b_Mo_expand 249 = .ok (.iload_n 2, 1) := by decide +kernel
theorem d_Mo_expand_250 : decode b_Mo_expand 250 = .ok (.if_icmp .ne 8, 3) := by decide +kernel
theorem d_Mo_expand_253 : decode b_Mo_expand 253 = .ok (.iload 6, 2) := by decide +kernel
theorem d_Mo_expand_255 : decode b_Mo_expand 255 = .ok (.ifCond .eq 15, 3) := by decide +kernel
theorem d_Mo_expand_258 : decode b_Mo_expand 258 = .ok (.iload 5, 2) := by decide +kernel
theorem d_Mo_expand_260 : decode b_Mo_expand 260 = .ok (.sipush 257, 3) := by decide +kernel
theorem d_Mo_expand_263 : decode b_Mo_expand 263 = .ok (.if_icmp .lt 9, 3) := by decide +kernel
theorem d_Mo_expand_266 : decode b_Mo_expand 266 = .ok (.iload_n 3, 1) := by decide +kernel
theorem d_Mo_expand_267 : decode b_Mo_expand 267 = .ok (.ifCond .ge 5, 3) := by decide +kernel
theorem d_Mo_expand_270 : decode b_Mo_expand 270 = .ok (.iconst 0, 1) := by decide +kernel
theorem d_Mo_expand_271 : decode b_Mo_expand 271 = .ok (.ireturn, 1) := by decide +kernel
theorem d_Mo_expand_272 : decode b_Mo_expand 272 = .ok (.iload_n 3, 1) := by decide +kernel
theorem d_Mo_expand_273 : decode b_Mo_expand 273 = .ok (.ifCond .lt 41, 3) := by decide +kernel
theorem d_Mo_expand_276 : decode b_Mo_expand 276 = .ok (.iload_n 2, 1) := by decide +kernel
theorem d_Mo_expand_277 : decode b_Mo_expand 277 = .ok (.iconst 1, 1) := by decide +kernel
theorem d_Mo_expand_278 : decode b_Mo_expand 278 = .ok (.iload_n 1, 1) := by decide +kernel
theorem d_Mo_expand_279 : decode b_Mo_expand 279 = .ok (.ishl, 1) := by decide +kernel
theorem d_Mo_expand_280 : decode b_Mo_expand 280 = .ok (.if_icmp .ge 34, 3) := by decide +kernel
theorem d_Mo_expand_283 : decode b_Mo_expand 283 = .ok (.aload_n 0, 1) := by decide +kernel
theorem d_Mo_expand_284 : decode b_Mo_expand 284 = .ok (.getfield 122, 3) := by decide +kernel
theorem d_Mo_expand_287 : decode b_Mo_expand 287 = .ok (.iload_n 2, 1) := by decide +kernel
theorem d_Mo_expand_288 : decode b_Mo_expand 288 = .ok (.iload_n 3, 1) := by decide +kernel
theorem d_Mo_expand_289 : decode b_Mo_expand 289 = .ok (.iastore, 1) := by decide +kernel
theorem d_Mo_expand_290 : decode b_Mo_expand 290 = .ok (.aload_n 0, 1) := by decide +kernel
theorem d_Mo_expand_291 : decode b_Mo_expand 291 = .ok (.getfield 119, 3) := by decide +kernel
theorem d_Mo_expand_294 : decode b_Mo_expand 294 = .ok (.iload_n 2, 1) := by decide +kernel
theorem d_Mo_expand_295 : decode b_Mo_expand 295 = .ok (.aload_n 0, 1) := by decide +kernel
theorem d_Mo_expand_296 : decode b_Mo_expand 296 = .ok (.iload 6, 2) := by decide +kernel
theorem d_Mo_expand_298 : decode b_Mo_expand 298 = .ok (.ifCond .eq 7, 3) := by decide +kernel
theorem d_Mo_expand_301 : decode b_Mo_expand 301 = .ok (.iload_n 3, 1) := by decide +kernel
theorem d_Mo_expand_302 : decode b_Mo_expand 302 = .ok (.goto 5, 3) := by decide +kernel
theorem d_Mo_expand_305 : decode b_Mo_expand 305 = .ok (.iload 5, 2) := by decide +kernel
theorem d_Mo_expand_307 : decode b_Mo_expand 307 = .ok (.invokevirtual 268, 3) := by decide +kernel
theorem d_Mo_expand_310 : decode b_Mo_expand 310 = .ok (.iastore, 1) := by decide +kernel
theorem d_Mo_expand_311 : decode b_Mo_expand 311 = .ok (.iinc 2 1, 3) := by decide +kernel
theorem d_Mo_expand_314 : decode b_Mo_expand 314 = .ok (.aload_n 0, 1) := by decide +kernel
theorem d_Mo_expand_315 : decode b_Mo_expand 315 = .ok (.iload 5, 2) := by decide +kernel
theorem d_Mo_expand_317 : decode b_Mo_expand 317 = .ok (.invokevirtual 271, 3) := by decide +kernel
theorem d_Mo_expand_320 : decode b_Mo_expand 320 = .ok (.ifCond .ne 5, 3) := by decide +kernel
theorem d_Mo_expand_323 : decode b_Mo_expand 323 = .ok (.iconst 0, 1) := by decide +kernel
theorem d_Mo_expand_324 : decode b_Mo_expand 324 = .ok (.ireturn, 1) := by decide +kernel
theorem d_Mo_expand_325 : decode b_Mo_expand 325 = .ok (.iload 5, 2) := by decide +kernel
theorem d_Mo_expand_327 : decode b_Mo_expand 327 = .ok (.istore_n 3, 1) := by decide +kernel
theorem d_Mo_expand_328 : decode b_Mo_expand 328 = .ok (.iload 4, 2) := by decide +kernel
theorem d_Mo_expand_330 : decode b_Mo_expand 330 = .ok (.iconst 1, 1) := by decide +kernel
theorem d_Mo_expand_331 : decode b_Mo_expand 331 = .ok (.iload_n 1, 1) := by decide +kernel
theorem d_Mo_expand_332 : decode b_Mo_expand 332 = .ok (.ishl, 1) := by decide +kernel
theorem d_Mo_expand_333 : decode b_Mo_expand 333 = .ok (.if_icmp .ge 10, 3) := by decide +kernel
theorem d_Mo_expand_336 : decode b_Mo_expand 336 = .ok (.iload 4, 2) := by decide +kernel
theorem d_Mo_expand_338 : decode b_Mo_expand 338 = .ok (.iconst 1, 1) := by decide +kernel
theorem d_Mo_expand_339 : decode b_Mo_expand 339 = .ok (.iadd, 1) := by decide +kernel
theorem d_Mo_expand_340 : decode b_Mo_expand 340 = .ok (.goto 5, 3) := by decide +kernel
theorem d_Mo_expand_343 : decode b_Mo_expand 343 = .ok (.iload 4, 2) := by decide +kernel
theorem d_Mo_expand_345 : decode b_Mo_expand 345 = .ok (.istore 4, 2) := by decide +kernel
theorem d_Mo_expand_347 : decode b_Mo_expand 347 = .ok (.goto (-314), 3) := by decide +kernel
theorem d_Mo_expand_350 : decode b_Mo_expand 350 = .ok (.iconst 1, 1) := by decide +kernel
theorem d_Mo_expand_351 : decode b_Mo_expand 351 = .ok (.ireturn, 1) := by decide +kernel
theorem d_Mo_lay_0 : decode b_Mo_lay 0 = .ok (.aload_n 0, 1) := by decide +kernel
theorem d_Mo_lay_1 : decode b_Mo_lay 1 = .ok (.getfield 83, 3) := by decide +kernel
theorem d_Mo_lay_4 : decode b_Mo_lay 4 = .ok (.aload_n 0, 1) := by decide +kernel
theorem d_Mo_lay_5 : decode b_Mo_lay 5 = .ok (.getfield 274, 3) := by decide +kernel
theorem d_Mo_lay_8 : decode b_Mo_lay 8 = .ok (.iload_n 1, 1) := by decide +kernel
theorem d_Mo_lay_9 : decode b_Mo_lay 9 = .ok (.i2b, 1) := by decide +kernel
theorem d_Mo_lay_10 : decode b_Mo_lay 10 = .ok (.bastore, 1) := by decide +kernel
theorem d_Mo_lay_11 : decode b_Mo_lay 11 = .ok (.aload_n 0, 1) := by decide +kernel
theorem d_Mo_lay_12 : decode b_Mo_lay 12 = .ok (.dup, 1) := by decide +kernel
theorem d_Mo_lay_13 : decode b_Mo_lay 13 = .ok (.getfield 274, 3) := by decide +kernel
theorem d_Mo_lay_16 : decode b_Mo_lay 16 = .ok (.iconst 1, 1) := by decide +kernel
theorem d_Mo_lay_17 : decode b_Mo_lay 17 = .ok (.iadd, 1) := by decide +kernel
theorem d_Mo_lay_18 : decode b_Mo_lay 18 = .ok (.putfield 274, 3) := by decide +kernel
theorem d_Mo_lay_21 : decode b_Mo_lay 21 = .ok (.return_, 1) := by decide +kernel
theorem d_Mo_six_0 : decode b_Mo_six 0 = .ok (.aload_n 0, 1) := by decide +kernel
theorem d_Mo_six_1 : decode b_Mo_six 1 = .ok (.iload_n 1, 1) := by decide +kernel
theorem d_Mo_six_2 : decode b_Mo_six 2 = .ok (.ifCond .ne 8, 3) := by decide +kernel
theorem d_Mo_six_5 : decode b_Mo_six 5 = .ok (.bipush 96, 2) := by decide +kernel
theorem d_Mo_six_7 : decode b_Mo_six 7 = .ok (.goto 7, 3) := by decide +kernel
theorem d_Mo_six_10 : decode b_Mo_six 10 = .ok (.bipush 32, 2) := by decide +kernel
theorem d_Mo_six_12 : decode b_Mo_six 12 = .ok (.iload_n 1, 1) := by decide +kernel
theorem d_Mo_six_13 : decode b_Mo_six 13 = .ok (.iadd, 1) := by decide +kernel
theorem d_Mo_six_14 : decode b_Mo_six 14 = .ok (.invokevirtual 277, 3) := by decide +kernel
theorem d_Mo_six_17 : decode b_Mo_six 17 = .ok (.return_, 1) := by decide +kernel
theorem d_Mo_spellRow_0 : decode b_Mo_spellRow 0 = .ok (.aload_n 0, 1) := by decide +kernel
theorem d_Mo_spellRow_1 : decode b_Mo_spellRow 1 = .ok (.iconst 0, 1) := by decide +kernel
theorem d_Mo_spellRow_2 : decode b_Mo_spellRow 2 = .ok (.putfield 274, 3) := by decide +kernel
theorem d_Mo_spellRow_5 : decode b_Mo_spellRow 5 = .ok (.iconst 0, 1) := by decide +kernel
theorem d_Mo_spellRow_6 : decode b_Mo_spellRow 6 = .ok (.istore_n 3, 1) := by decide +kernel
theorem d_Mo_spellRow_7 : decode b_Mo_spellRow 7 = .ok (.iload_n 3, 1) := by decide +kernel
theorem d_Mo_spellRow_8 : decode b_Mo_spellRow 8 = .ok (.bipush 15, 2) := by decide +kernel
theorem d_Mo_spellRow_10 : decode b_Mo_spellRow 10 = .ok (.if_icmp .ge 19, 3) := by decide +kernel
theorem d_Mo_spellRow_13 : decode b_Mo_spellRow 13 = .ok (.aload_n 0, 1) := by decide +kernel
theorem d_Mo_spellRow_14 : decode b_Mo_spellRow 14 = .ok (.aload_n 0, 1) := by decide +kernel
theorem d_Mo_spellRow_15 : decode b_Mo_spellRow 15 = .ok (.getfield 13, 3) := by decide +kernel
theorem d_Mo_spellRow_18 : decode b_Mo_spellRow 18 = .ok (.iload_n 3, 1) := by decide +kernel
theorem d_Mo_spellRow_19 : decode b_Mo_spellRow 19 = .ok (.baload, 1) := by decide +kernel
theorem d_Mo_spellRow_20 : decode b_Mo_spellRow 20 = .ok (.invokevirtual 277, 3) := by decide +kernel
theorem d_Mo_spellRow_23 : decode b_Mo_spellRow 23 = .ok (.iinc 3 1, 3) := by decide +kernel
theorem d_Mo_spellRow_26 : decode b_Mo_spellRow 26 = .ok (.goto (-19), 3) := by decide +kernel
theorem d_Mo_spellRow_29 : decode b_Mo_spellRow 29 = .ok (.iconst 0, 1) := by decide +kernel
theorem d_Mo_spellRow_30 : decode b_Mo_spellRow 30 = .ok (.istore_n 3, 1) := by decide +kernel
theorem d_Mo_spellRow_31 : decode b_Mo_spellRow 31 = .ok (.iload_n 3, 1) := by decide +kernel
theorem d_Mo_spellRow_32 : decode b_Mo_spellRow 32 = .ok (.iload_n 2, 1) := by decide +kernel
theorem d_Mo_spellRow_33 : decode b_Mo_spellRow 33 = .ok (.if_icmp .ge 173, 3) := by decide +kernel
theorem d_Mo_spellRow_36 : decode b_Mo_spellRow 36 = .ok (.iload_n 2, 1) := by decide +kernel
theorem d_Mo_spellRow_37 : decode b_Mo_spellRow 37 = .ok (.iload_n 3, 1) := by decide +kernel
theorem d_Mo_spellRow_38 : decode b_Mo_spellRow 38 = .ok (.isub, 1) := by decide +kernel
theorem d_Mo_spellRow_39 : decode b_Mo_spellRow 39 = .ok (.bipush 45, 2) := by decide +kernel
theorem d_Mo_spellRow_41 : decode b_Mo_spellRow 41 = .ok (.if_icmp .ge 9, 3) := by decide +kernel
theorem d_Mo_spellRow_44 : decode b_Mo_spellRow 44 = .ok (.iload_n 2, 1) := by decide +kernel
theorem d_Mo_spellRow_45 : decode b_Mo_spellRow 45 = .ok (.iload_n 3, 1) := by decide +kernel
theorem d_Mo_spellRow_46 : decode b_Mo_spellRow 46 = .ok (.isub, 1) := by decide +kernel
theorem d_Mo_spellRow_47 : decode b_Mo_spellRow 47 = .ok (.goto 5, 3) := by decide +kernel
theorem d_Mo_spellRow_50 : decode b_Mo_spellRow 50 = .ok (.bipush 45, 2) := by decide +kernel
theorem d_Mo_spellRow_52 : decode b_Mo_spellRow 52 = .ok (.istore 4, 2) := by decide +kernel
theorem d_Mo_spellRow_54 : decode b_Mo_spellRow 54 = .ok (.aload_n 0, 1) := by decide +kernel
theorem d_Mo_spellRow_55 : decode b_Mo_spellRow 55 = .ok (.bipush 32, 2) := by decide +kernel
theorem d_Mo_spellRow_57 : decode b_Mo_spellRow 57 = .ok (.iload 4, 2) := by decide +kernel
theorem d_Mo_spellRow_59 : decode b_Mo_spellRow 59 = .ok (.iadd, 1) := by decide +kernel
theorem d_Mo_spellRow_60 : decode b_Mo_spellRow 60 = .ok (.invokevirtual 277, 3) := by decide +kernel
theorem d_Mo_spellRow_63 : decode b_Mo_spellRow 63 = .ok (.iconst 0, 1) := by decide +kernel
theorem d_Mo_spellRow_64 : decode b_Mo_spellRow 64 = .ok (.istore 5, 2) := by decide +kernel
theorem d_Mo_spellRow_66 : decode b_Mo_spellRow 66 = .ok (.iload 5, 2) := by decide +kernel
theorem d_Mo_spellRow_68 : decode b_Mo_spellRow 68 = .ok (.iload 4, 2) := by decide +kernel
theorem d_Mo_spellRow_70 : decode b_Mo_spellRow 70 = .ok (.if_icmp .ge 124, 3) := by decide +kernel
theorem d_Mo_spellRow_73 : decode b_Mo_spellRow 73 = .ok (.aload_n 1, 1) := by decide +kernel
theorem d_Mo_spellRow_74 : decode b_Mo_spellRow 74 = .ok (.iload_n 3, 1) := by decide +kernel
theorem d_Mo_spellRow_75 : decode b_Mo_spellRow 75 = .ok (.iload 5, 2) := by decide +kernel
theorem d_Mo_spellRow_77 : decode b_Mo_spellRow 77 = .ok (.iadd, 1) := by decide +kernel
theorem d_Mo_spellRow_78 : decode b_Mo_spellRow 78 = .ok (.baload, 1) := by decide +kernel
theorem d_Mo_spellRow_79 : decode b_Mo_spellRow 79 = .ok (.sipush 255, 3) := by decide +kernel
theorem d_Mo_spellRow_82 : decode b_Mo_spellRow 82 = .ok (.iand, 1) := by decide +kernel
theorem d_Mo_spellRow_83 : decode b_Mo_spellRow 83 = .ok (.istore 6, 2) := by decide +kernel
theorem d_Mo_spellRow_85 : decode b_Mo_spellRow 85 = .ok (.iload 5, 2) := by decide +kernel
theorem d_Mo_spellRow_87 : decode b_Mo_spellRow 87 = .ok (.iconst 1, 1) := by decide +kernel
theorem d_Mo_spellRow_88 : decode b_Mo_spellRow 88 = .ok (.iadd, 1) := by decide +kernel
theorem d_Mo_spellRow_89 : decode b_Mo_spellRow 89 = .ok (.iload 4, 2) := by decide +kernel
theorem d_Mo_spellRow_91 : decode b_Mo_spellRow 91 = .ok (.if_icmp .ge 18, 3) := by decide +kernel
theorem d_Mo_spellRow_94 : decode b_Mo_spellRow 94 = .ok (.aload_n 1, 1) := by decide +kernel
theorem d_Mo_spellRow_95 : decode b_Mo_spellRow 95 = .ok (.iload_n 3, 1) := by decide +kernel
theorem d_Mo_spellRow_96 : decode b_Mo_spellRow 96 = .ok (.iload 5, 2) := by decide +kernel
theorem d_Mo_spellRow_98 : decode b_Mo_spellRow 98 = .ok (.iadd, 1) := by decide +kernel
theorem d_Mo_spellRow_99 : decode b_Mo_spellRow 99 = .ok (.iconst 1, 1) := by decide +kernel
theorem d_Mo_spellRow_100 : decode b_Mo_spellRow 100 = .ok (.iadd, 1) := by decide +kernel
theorem d_Mo_spellRow_101 : decode b_Mo_spellRow 101 = .ok (.baload, 1) := by decide +kernel
theorem d_Mo_spellRow_102 : decode b_Mo_spellRow 102 = .ok (.sipush 255, 3) := by decide +kernel
theorem d_Mo_spellRow_105 : decode b_Mo_spellRow 105 = .ok (.iand, 1) := by decide +kernel
theorem d_Mo_spellRow_106 : decode b_Mo_spellRow 106 = .ok (.goto 4, 3) := by decide +kernel
theorem d_Mo_spellRow_109 : decode b_Mo_spellRow 109 = .ok (.iconst 0, 1) := by decide +kernel
theorem d_Mo_spellRow_110 : decode b_Mo_spellRow 110 = .ok (.istore 7, 2) := by decide +kernel
theorem d_Mo_spellRow_112 : decode b_Mo_spellRow 112 = .ok (.iload 5, 2) := by decide +kernel
theorem d_Mo_spellRow_114 : decode b_Mo_spellRow 114 = .ok (.iconst 2, 1) := by decide +kernel
theorem d_Mo_spellRow_115 : decode b_Mo_spellRow 115 = .ok (.iadd, 1) := by decide +kernel
theorem d_Mo_spellRow_116 : decode b_Mo_spellRow 116 = .ok (.iload 4, 2) := by decide +kernel
theorem d_Mo_spellRow_118 : decode b_Mo_spellRow 118 = .ok (.if_icmp .ge 18, 3) := by decide +kernel
theorem d_Mo_spellRow_121 : decode b_Mo_spellRow 121 = .ok (.aload_n 1, 1) := by decide +kernel
theorem d_Mo_spellRow_122 : decode b_Mo_spellRow 122 = .ok (.iload_n 3, 1) := by decide +kernel
theorem d_Mo_spellRow_123 : decode b_Mo_spellRow 123 = .ok (.iload 5, 2) := by decide +kernel
theorem d_Mo_spellRow_125 : decode b_Mo_spellRow 125 = .ok (.iadd, 1) := by decide +kernel
theorem d_Mo_spellRow_126 : decode b_Mo_spellRow 126 = .ok (.iconst 2, 1) := by decide +kernel
theorem d_Mo_spellRow_127 : decode b_Mo_spellRow 127 = .ok (.iadd, 1) := by decide +kernel
theorem d_Mo_spellRow_128 : decode b_Mo_spellRow 128 = .ok (.baload, 1) := by decide +kernel
theorem d_Mo_spellRow_129 : decode b_Mo_spellRow 129 = .ok (.sipush 255, 3) := by decide +kernel
theorem d_Mo_spellRow_132 : decode b_Mo_spellRow 132 = .ok (.iand, 1) := by decide +kernel
theorem d_Mo_spellRow_133 : decode b_Mo_spellRow 133 = .ok (.goto 4, 3) := by decide +kernel
theorem d_Mo_spellRow_136 : decode b_Mo_spellRow 136 = .ok (.iconst 0, 1) := by decide +kernel
theorem d_Mo_spellRow_137 : decode b_Mo_spellRow 137 = .ok (.istore 8, 2) := by decide +kernel
theorem d_Mo_spellRow_139 : decode b_Mo_spellRow 139 = .ok (.aload_n 0, 1) := by decide +kernel
theorem d_Mo_spellRow_140 : decode b_Mo_spellRow 140 = .ok (.iload 6, 2) := by decide +kernel
theorem d_Mo_spellRow_142 : decode b_Mo_spellRow 142 = .ok (.iconst 2, 1) := by decide +kernel
theorem d_Mo_spellRow_143 : decode b_Mo_spellRow 143 = .ok (.ishr, 1) := by decide +kernel
theorem d_Mo_spellRow_144 : decode b_Mo_spellRow 144 = .ok (.invokevirtual 281, 3) := by decide +kernel
theorem d_Mo_spellRow_147 : decode b_Mo_spellRow 147 = .ok (.aload_n 0, 1) := by decide +kernel
theorem d_Mo_spellRow_148 : decode b_Mo_spellRow 148 = .ok (.iload 6, 2) := by decide +kernel
theorem d_Mo_spellRow_150 : decode b_Mo_spellRow 150 = .ok (.iconst 3, 1) := by decide +kernel
theorem d_Mo_spellRow_151 : decode b_Mo_spellRow 151 = .ok (.iand, 1) := by decide +kernel
theorem d_Mo_spellRow_152 : decode b_Mo_spellRow 152 = .ok (.iconst 4, 1) := by decide +kernel
theorem d_Mo_spellRow_153 : decode b_Mo_spellRow 153 = .ok (.ishl, 1) := by decide +kernel
theorem d_Mo_spellRow_154 : decode b_Mo_spellRow 154 = .ok (.iload 7, 2) := by decide +kernel
theorem d_Mo_spellRow_156 : decode b_Mo_spellRow 156 = .ok (.iconst 4, 1) := by decide +kernel
theorem d_Mo_spellRow_157 : decode b_Mo_spellRow 157 = .ok (.ishr, 1) := by decide +kernel
theorem d_Mo_spellRow_158 : decode b_Mo_spellRow 158 = .ok (.ior, 1) := by decide +kernel
theorem d_Mo_spellRow_159 : decode b_Mo_spellRow 159 = .ok (.invokevirtual 281, 3) := by decide +kernel
theorem d_Mo_spellRow_162 : decode b_Mo_spellRow 162 = .ok (.aload_n 0, 1) := by decide +kernel
theorem d_Mo_spellRow_163 : decode b_Mo_spellRow 163 = .ok (.iload 7, 2) := by decide +kernel
theorem d_Mo_spellRow_165 : decode b_Mo_spellRow 165 = .ok (.bipush 15, 2) := by decide +kernel
theorem d_Mo_spellRow_167 : decode b_Mo_spellRow 167 = .ok (.iand, 1) := by decide +kernel
theorem d_Mo_spellRow_168 : decode b_Mo_spellRow 168 = .ok (.iconst 2, 1) := by decide +kernel
theorem d_Mo_spellRow_169 : decode b_Mo_spellRow 169 = .ok (.ishl, 1) := by decide +kernel
theorem d_Mo_spellRow_170 : decode b_Mo_spellRow 170 = .ok (.iload 8, 2) := by decide +kernel
theorem d_Mo_spellRow_172 : decode b_Mo_spellRow 172 = .ok (.bipush 6, 2) := by decide +kernel
theorem d_Mo_spellRow_174 : decode b_Mo_spellRow 174 = .ok (.ishr, 1) := by decide +kernel
theorem d_Mo_spellRow_175 : decode b_Mo_spellRow 175 = .ok (.ior, 1) := by decide +kernel
theorem d_Mo_spellRow_176 : decode b_Mo_spellRow 176 = .ok (.invokevirtual 281, 3) := by decide +kernel
theorem d_Mo_spellRow_179 : decode b_Mo_spellRow 179 = .ok (.aload_n 0, 1) := by decide +kernel
theorem d_Mo_spellRow_180 : decode b_Mo_spellRow 180 = .ok (.iload 8, 2) := by decide +kernel
theorem d_Mo_spellRow_182 : decode b_Mo_spellRow 182 = .ok (.bipush 63, 2) := by decide +kernel
theorem d_Mo_spellRow_184 : decode b_Mo_spellRow 184 = .ok (.iand, 1) := by decide +kernel
theorem d_Mo_spellRow_185 : decode b_Mo_spellRow 185 = .ok (.invokevirtual 281, 3) := by decide +kernel
theorem d_Mo_spellRow_188 : decode b_Mo_spellRow 188 = .ok (.iinc 5 3, 3) := by decide +kernel
theorem d_Mo_spellRow_191 : decode b_Mo_spellRow 191 = .ok (.goto (-125), 3) := by decide +kernel
theorem d_Mo_spellRow_194 : decode b_Mo_spellRow 194 = .ok (.aload_n 0, 1) := by decide +kernel
theorem d_Mo_spellRow_195 : decode b_Mo_spellRow 195 = .ok (.bipush 10, 2) := by decide +kernel
theorem d_Mo_spellRow_197 : decode b_Mo_spellRow 197 = .ok (.invokevirtual 277, 3) := by decide +kernel
theorem d_Mo_spellRow_200 : decode b_Mo_spellRow 200 = .ok (.iinc 3 45, 3) := by decide +kernel
theorem d_Mo_spellRow_203 : decode b_Mo_spellRow 203 = .ok (.goto (-172), 3) := by decide +kernel
theorem d_Mo_spellRow_206 : decode b_Mo_spellRow 206 = .ok (.aload_n 0, 1) := by decide +kernel
theorem d_Mo_spellRow_207 : decode b_Mo_spellRow 207 = .ok (.bipush 96, 2) := by decide +kernel
theorem d_Mo_spellRow_209 : decode b_Mo_spellRow 209 = .ok (.invokevirtual 277, 3) := by decide +kernel
theorem d_Mo_spellRow_212 : decode b_Mo_spellRow 212 = .ok (.aload_n 0, 1) := by decide +kernel
theorem d_Mo_spellRow_213 : decode b_Mo_spellRow 213 = .ok (.bipush 10, 2) := by decide +kernel
theorem d_Mo_spellRow_215 : decode b_Mo_spellRow 215 = .ok (.invokevirtual 277, 3) := by decide +kernel
theorem d_Mo_spellRow_218 : decode b_Mo_spellRow 218 = .ok (.aload_n 0, 1) := by decide +kernel
theorem d_Mo_spellRow_219 : decode b_Mo_spellRow 219 = .ok (.bipush 101, 2) := by decide +kernel
theorem d_Mo_spellRow_221 : decode b_Mo_spellRow 221 = .ok (.invokevirtual 277, 3) := by decide +kernel
theorem d_Mo_spellRow_224 : decode b_Mo_spellRow 224 = .ok (.aload_n 0, 1) := by decide +kernel
theorem d_Mo_spellRow_225 : decode b_Mo_spellRow 225 = .ok (.bipush 110, 2) := by decide +kernel
theorem d_Mo_spellRow_227 : decode b_Mo_spellRow 227 = .ok (.invokevirtual 277, 3) := by decide +kernel
theorem d_Mo_spellRow_230 : decode b_Mo_spellRow 230 = .ok (.aload_n 0, 1) := by decide +kernel
theorem d_Mo_spellRow_231 : decode b_Mo_spellRow 231 = .ok (.bipush 100, 2) := by decide +kernel
theorem d_Mo_spellRow_233 : decode b_Mo_spellRow 233 = .ok (.invokevirtual 277, 3) := by decide +kernel
theorem d_Mo_spellRow_236 : decode b_Mo_spellRow 236 = .ok (.aload_n 0, 1) := by decide +kernel
theorem d_Mo_spellRow_237 : decode b_Mo_spellRow 237 = .ok (.bipush 10, 2) := by decide +kernel
theorem d_Mo_spellRow_239 : decode b_Mo_spellRow 239 = .ok (.invokevirtual 277, 3) := by decide +kernel
theorem d_Mo_spellRow_242 : decode b_Mo_spellRow 242 = .ok (.return_, 1) := by decide +kernel
theorem d_Mo_unspell_0 : decode b_Mo_unspell 0 = .ok (.aload_n 0, 1) := by decide +kernel
theorem d_Mo_unspell_1 : decode b_Mo_unspell 1 = .ok (.iconst 0, 1) := by decide +kernel
theorem d_Mo_unspell_2 : decode b_Mo_unspell 2 = .ok (.putfield 259, 3) := by decide +kernel
theorem d_Mo_unspell_5 : decode b_Mo_unspell 5 = .ok (.bipush 15, 2) := by decide +kernel
theorem d_Mo_unspell_7 : decode b_Mo_unspell 7 = .ok (.istore_n 1, 1) := by decide +kernel
theorem d_Mo_unspell_8 : decode b_Mo_unspell 8 = .ok (.iconst 1, 1) := by decide +kernel
theorem d_Mo_unspell_9 : decode b_Mo_unspell 9 = .ok (.istore_n 2, 1) := by decide +kernel
theorem d_Mo_unspell_10 : decode b_Mo_unspell 10 = .ok (.iload_n 2, 1) := by decide +kernel
theorem d_Mo_unspell_11 : decode b_Mo_unspell 11 = .ok (.ifCond .eq 178, 3) := by decide +kernel
theorem d_Mo_unspell_14 : decode b_Mo_unspell 14 = .ok (.iload_n 1, 1) := by decide +kernel
theorem d_Mo_unspell_15 : decode b_Mo_unspell 15 = .ok (.aload_n 0, 1) := by decide +kernel
theorem d_Mo_unspell_16 : decode b_Mo_unspell 16 = .ok (.getfield 262, 3) := by decide +kernel
theorem d_Mo_unspell_19 : decode b_Mo_unspell 19 = .ok (.if_icmp .ge 170, 3) := by decide +kernel
theorem d_Mo_unspell_22 : decode b_Mo_unspell 22 = .ok (.aload_n 0, 1) := by decide +kernel
theorem d_Mo_unspell_23 : decode b_Mo_unspell 23 = .ok (.getfield 109, 3) := by decide +kernel
theorem d_Mo_unspell_26 : decode b_Mo_unspell 26 = .ok (.iload_n 1, 1) := by decide +kernel
theorem d_Mo_unspell_27 : decode b_Mo_unspell 27 = .ok (.baload, 1) := by decide +kernel
theorem d_Mo_unspell_28 : decode b_Mo_unspell 28 = .ok (.bipush 32, 2) := by decide +kernel
theorem d_Mo_unspell_30 : decode b_Mo_unspell 30 = .ok (.isub, 1) := by decide +kernel
theorem d_Mo_unspell_31 : decode b_Mo_unspell 31 = .ok (.istore_n 3, 1) := by decide +kernel
theorem d_Mo_unspell_32 : decode b_Mo_unspell 32 = .ok (.iinc 1 1, 3) := by decide +kernel
theorem d_Mo_unspell_35 : decode b_Mo_unspell 35 = .ok (.iload_n 3, 1) := by decide +kernel
theorem d_Mo_unspell_36 : decode b_Mo_unspell 36 = .ok (.iconst 1, 1) := by decide +kernel
theorem d_Mo_unspell_37 : decode b_Mo_unspell 37 = .ok (.if_icmp .lt 29, 3) := by decide +kernel
theorem d_Mo_unspell_40 : decode b_Mo_unspell 40 = .ok (.iload_n 3, 1) := by decide +kernel
theorem d_Mo_unspell_41 : decode b_Mo_unspell 41 = .ok (.bipush 45, 2) := by decide +kernel
theorem d_Mo_unspell_43 : decode b_Mo_unspell 43 = .ok (.if_icmp .gt 23, 3) := by decide +kernel
theorem d_Mo_unspell_46 : decode b_Mo_unspell 46 = .ok (.iload_n 1, 1) := by decide +kernel
theorem d_Mo_unspell_47 : decode b_Mo_unspell 47 = .ok (.iload_n 3, 1) := by decide +kernel
theorem d_Mo_unspell_48 : decode b_Mo_unspell 48 = .ok (.iconst 2, 1) := by decide +kernel
theorem d_Mo_unspell_49 : decode b_Mo_unspell 49 = .ok (.iadd, 1) := by decide +kernel
theorem d_Mo_unspell_50 : decode b_Mo_unspell 50 = .ok (.iconst 3, 1) := by decide +kernel
theorem d_Mo_unspell_51 : decode b_Mo_unspell 51 = .ok (.idiv, 1) := by decide +kernel
theorem d_Mo_unspell_52 : decode b_Mo_unspell 52 = .ok (.iconst 4, 1) := by decide +kernel
theorem d_Mo_unspell_53 : decode b_Mo_unspell 53 = .ok (.imul, 1) := by decide +kernel
theorem d_Mo_unspell_54 : decode b_Mo_unspell 54 = .ok (.iadd, 1) := by decide +kernel
theorem d_Mo_unspell_55 : decode b_Mo_unspell 55 = .ok (.aload_n 0, 1) := by decide +kernel
theorem d_Mo_unspell_56 : decode b_Mo_unspell 56 = .ok (.getfield 262, 3) := by decide +kernel
theorem d_Mo_unspell_59 : decode b_Mo_unspell 59 = .ok (.if_icmp .ge 7, 3) := by decide +kernel
theorem d_Mo_unspell_62 : decode b_Mo_unspell 62 = .ok (.iconst 1, 1) := by decide +kernel
theorem d_Mo_unspell_63 : decode b_Mo_unspell 63 = .ok (.goto 4, 3) := by decide +kernel
theorem d_Mo_unspell_66 : decode b_Mo_unspell 66 = .ok (.iconst 0, 1) := by decide +kernel
theorem d_Mo_unspell_67 : decode b_Mo_unspell 67 = .ok (.istore_n 2, 1) := by decide +kernel
theorem d_Mo_unspell_68 : decode b_Mo_unspell 68 = .ok (.iconst 0, 1) := by decide +kernel
theorem d_Mo_unspell_69 : decode b_Mo_unspell 69 = .ok (.istore 4, 2) := by decide +kernel
theorem d_Mo_unspell_71 : decode b_Mo_unspell 71 = .ok (.iload 4, 2) := by decide +kernel
theorem d_Mo_unspell_73 : decode b_Mo_unspell 73 = .ok (.iload_n 3, 1) := by decide +kernel
theorem d_Mo_unspell_74 : decode b_Mo_unspell 74 = .ok (.if_icmp .ge 109, 3) := by decide +kernel
theorem d_Mo_unspell_77 : decode b_Mo_unspell 77 = .ok (.iload_n 2, 1) := by decide +kernel
theorem d_Mo_unspell_78 : decode b_Mo_unspell 78 = .ok (.ifCond .eq 105, 3) := by decide +kernel
theorem d_Mo_unspell_81 : decode b_Mo_unspell 81 = .ok (.iconst 0, 1) := by decide +kernel
theorem d_Mo_unspell_82 : decode b_Mo_unspell 82 = .ok (.istore 5, 2) := by decide +kernel
theorem d_Mo_unspell_84 : decode b_Mo_unspell 84 = .ok (.iconst 0, 1) := by decide +kernel
theorem d_Mo_unspell_85 : decode b_Mo_unspell 85 = .ok (.istore 6, 2) := by decide +kernel
theorem d_Mo_unspell_87 : decode b_Mo_unspell 87 = .ok (.iload 6, 2) := by decide +kernel
theorem d_Mo_unspell_89 : decode b_Mo_unspell 89 = .ok (.iconst 4, 1) := by decide +kernel
theorem d_Mo_unspell_90 : decode b_Mo_unspell 90 = .ok (.if_icmp .ge 32, 3) := by decide +kernel
theorem d_Mo_unspell_93 : decode b_Mo_unspell 93 = .ok (.iload 5, 2) := by decide +kernel
theorem d_Mo_unspell_95 : decode b_Mo_unspell 95 = .ok (.bipush 6, 2) := by decide +kernel
theorem d_Mo_unspell_97 : decode b_Mo_unspell 97 = .ok (.ishl, 1) := by decide +kernel
theorem d_Mo_unspell_98 : decode b_Mo_unspell 98 = .ok (.aload_n 0, 1) := by decide +kernel
theorem d_Mo_unspell_99 : decode b_Mo_unspell 99 = .ok (.getfield 109, 3) := by decide +kernel
theorem d_Mo_unspell_102 : decode b_Mo_unspell 102 = .ok (.iload_n 1, 1) := by decide +kernel
theorem d_Mo_unspell_103 : decode b_Mo_unspell 103 = .ok (.baload, 1) := by decide +kernel
theorem d_Mo_unspell_104 : decode b_Mo_unspell 104 = .ok (.bipush 32, 2) := by decide +kernel
theorem d_Mo_unspell_106 : decode b_Mo_unspell 106 = .ok (.isub, 1) := by decide +kernel
theorem d_Mo_unspell_107 : decode b_Mo_unspell 107 = .ok (.bipush 63, 2) := by decide +kernel
theorem d_Mo_unspell_109 : decode b_Mo_unspell 109 = .ok (.iand, 1) := by decide +kernel
theorem d_Mo_unspell_110 : decode b_Mo_unspell 110 = .ok (.ior, 1) := by decide +kernel
theorem d_Mo_unspell_111 : decode b_Mo_unspell 111 = .ok (.istore 5, 2) := by decide +kernel
theorem d_Mo_unspell_113 : decode b_Mo_unspell 113 = .ok (.iinc 1 1, 3) := by decide +kernel
theorem d_Mo_unspell_116 : decode b_Mo_unspell 116 = .ok (.iinc 6 1, 3) := by decide +kernel
theorem d_Mo_unspell_119 : decode b_Mo_unspell 119 = .ok (.goto (-32), 3) := by decide +kernel
theorem d_Mo_unspell_122 : decode b_Mo_unspell 122 = .ok (.iconst 0, 1) := by decide +kernel
theorem d_Mo_unspell_123 : decode b_Mo_unspell 123 = .ok (.istore 6, 2) := by decide +kernel
theorem d_Mo_unspell_125 : decode b_Mo_unspell 125 = .ok (.iload 6, 2) := by decide +kernel
theorem d_Mo_unspell_127 : decode b_Mo_unspell 127 = .ok (.iconst 3, 1) := by decide +kernel
theorem d_Mo_unspell_128 : decode b_Mo_unspell 128 = .ok (.if_icmp .ge 49, 3) := by decide +kernel
theorem d_Mo_unspell_131 : decode b_Mo_unspell 131 = .ok (.iload 4, 2) := by decide +kernel
theorem d_Mo_unspell_133 : decode b_Mo_unspell 133 = .ok (.iload 6, 2) := by decide +kernel
theorem d_Mo_unspell_135 : decode b_Mo_unspell 135 = .ok (.iadd, 1) := by decide +kernel
theorem d_Mo_unspell_136 : decode b_Mo_unspell 136 = .ok (.iload_n 3, 1) := by decide +kernel
theorem d_Mo_unspell_137 : decode b_Mo_unspell 137 = .ok (.if_icmp .ge 40, 3) := by decide +kernel
theorem d_Mo_unspell_140 : decode b_Mo_unspell 140 = .ok (.aload_n 0, 1) := by decide +kernel
theorem d_Mo_unspell_141 : decode b_Mo_unspell 141 = .ok (.getfield 106, 3) := by decide +kernel
theorem d_Mo_unspell_144 : decode b_Mo_unspell 144 = .ok (.aload_n 0, 1) := by decide +kernel
theorem d_Mo_unspell_145 : decode b_Mo_unspell 145 = .ok (.getfield 259, 3) := by decide +kernel
theorem d_Mo_unspell_148 : decode b_Mo_unspell 148 = .ok (.iload 5, 2) := by decide +kernel
theorem d_Mo_unspell_150 : decode b_Mo_unspell 150 = .ok (.bipush 16, 2) := by decide +kernel
theorem d_Mo_unspell_152 : decode b_Mo_unspell 152 = .ok (.bipush 8, 2) := by decide +kernel
theorem d_Mo_unspell_154 : decode b_Mo_unspell 154 = .ok (.iload 6, 2) := by decide +kernel
theorem d_Mo_unspell_156 : decode b_Mo_unspell 156 = .ok (.imul, 1) := by decide +kernel
theorem d_Mo_unspell_157 : decode b_Mo_unspell 157 = .ok (.isub, 1) := by decide +kernel
theorem d_Mo_unspell_158 : decode b_Mo_unspell 158 = .ok (.ishr, 1) := by decide +kernel
theorem d_Mo_unspell_159 : decode b_Mo_unspell 159 = .ok (.i2b, 1) := by decide +kernel
theorem d_Mo_unspell_160 : decode b_Mo_unspell 160 = .ok (.bastore, 1) := by decide +kernel
theorem d_Mo_unspell_161 : decode b_Mo_unspell 161 = .ok (.aload_n 0, 1) := by decide +kernel
theorem d_Mo_unspell_162 : decode b_Mo_unspell 162 = .ok (.dup, 1) := by decide +kernel
theorem d_Mo_unspell_163 : decode b_Mo_unspell 163 = .ok (.getfield 259, 3) := by decide +kernel
theorem d_Mo_unspell_166 : decode b_Mo_unspell 166 = .ok (.iconst 1, 1) := by decide +kernel
theorem d_Mo_unspell_167 : decode b_Mo_unspell 167 = .ok (.iadd, 1) := by decide +kernel
theorem d_Mo_unspell_168 : decode b_Mo_unspell 168 = .ok (.putfield 259, 3) := by decide +kernel
theorem d_Mo_unspell_171 : decode b_Mo_unspell 171 = .ok (.iinc 6 1, 3) := by decide +kernel
theorem d_Mo_unspell_174 : decode b_Mo_unspell 174 = .ok (.goto (-49), 3) := by decide +kernel
theorem d_Mo_unspell_177 : decode b_Mo_unspell 177 = .ok (.iinc 4 3, 3) := by decide +kernel
theorem d_Mo_unspell_180 : decode b_Mo_unspell 180 = .ok (.goto (-109), 3) := by decide +kernel
theorem d_Mo_unspell_183 : decode b_Mo_unspell 183 = .ok (.iinc 1 1, 3) := by decide +kernel
theorem d_Mo_unspell_186 : decode b_Mo_unspell 186 = .ok (.goto (-176), 3) := by decide +kernel
theorem d_Mo_unspell_189 : decode b_Mo_unspell 189 = .ok (.return_, 1) := by decide +kernel
theorem d_Mo_step_0 : decode b_Mo_step 0 = .ok (.iload_n 0, 1) := by decide +kernel
theorem d_Mo_step_1 : decode b_Mo_step 1 = .ok (.iload_n 1, 1) := by decide +kernel
theorem d_Mo_step_2 : decode b_Mo_step 2 = .ok (.bipush 24, 2) := by decide +kernel
theorem d_Mo_step_4 : decode b_Mo_step 4 = .ok (.ishl, 1) := by decide +kernel
theorem d_Mo_step_5 : decode b_Mo_step 5 = .ok (.ixor, 1) := by decide +kernel
theorem d_Mo_step_6 : decode b_Mo_step 6 = .ok (.istore_n 2, 1) := by decide +kernel
theorem d_Mo_step_7 : decode b_Mo_step 7 = .ok (.iconst 0, 1) := by decide +kernel
theorem d_Mo_step_8 : decode b_Mo_step 8 = .ok (.istore_n 3, 1) := by decide +kernel
theorem d_Mo_step_9 : decode b_Mo_step 9 = .ok (.iload_n 3, 1) := by decide +kernel
theorem d_Mo_step_10 : decode b_Mo_step 10 = .ok (.bipush 8, 2) := by decide +kernel
theorem d_Mo_step_12 : decode b_Mo_step 12 = .ok (.if_icmp .ge 27, 3) := by decide +kernel
theorem d_Mo_step_15 : decode b_Mo_step 15 = .ok (.iload_n 2, 1) := by decide +kernel
theorem d_Mo_step_16 : decode b_Mo_step 16 = .ok (.ifCond .ge 13, 3) := by decide +kernel
theorem d_Mo_step_19 : decode b_Mo_step 19 = .ok (.iload_n 2, 1) := by decide +kernel
theorem d_Mo_step_20 : decode b_Mo_step 20 = .ok (.iconst 1, 1) := by decide +kernel
theorem d_Mo_step_21 : decode b_Mo_step 21 = .ok (.ishl, 1) := by decide +kernel
theorem d_Mo_step_22 : decode b_Mo_step 22 = .ok (.ldc_w 284, 3) := by decide +kernel
theorem d_Mo_step_25 : decode b_Mo_step 25 = .ok (.ixor, 1) := by decide +kernel
theorem d_Mo_step_26 : decode b_Mo_step 26 = .ok (.goto 6, 3) := by decide +kernel
theorem d_Mo_step_29 : decode b_Mo_step 29 = .ok (.iload_n 2, 1) := by decide +kernel
theorem d_Mo_step_30 : decode b_Mo_step 30 = .ok (.iconst 1, 1) := by decide +kernel
theorem d_Mo_step_31 : decode b_Mo_step 31 = .ok (.ishl, 1) := by decide +kernel
theorem d_Mo_step_32 : decode b_Mo_step 32 = .ok (.istore_n 2, 1) := by decide +kernel
theorem d_Mo_step_33 : decode b_Mo_step 33 = .ok (.iinc 3 1, 3) := by decide +kernel
theorem d_Mo_step_36 : decode b_Mo_step 36 = .ok (.goto (-27), 3) := by decide +kernel
theorem d_Mo_step_39 : decode b_Mo_step 39 = .ok (.iload_n 2, 1) := by decide +kernel
theorem d_Mo_step_40 : decode b_Mo_step 40 = .ok (.ireturn, 1) := by decide +kernel
theorem d_Mo_sumOf_0 : decode b_Mo_sumOf 0 = .ok (.iconst 0, 1) := by decide +kernel
theorem d_Mo_sumOf_1 : decode b_Mo_sumOf 1 = .ok (.istore_n 3, 1) := by decide +kernel
theorem d_Mo_sumOf_2 : decode b_Mo_sumOf 2 = .ok (.iconst 0, 1) := by decide +kernel
theorem d_Mo_sumOf_3 : decode b_Mo_sumOf 3 = .ok (.istore 4, 2) := by decide +kernel
theorem d_Mo_sumOf_5 : decode b_Mo_sumOf 5 = .ok (.iload 4, 2) := by decide +kernel
theorem d_Mo_sumOf_7 : decode b_Mo_sumOf 7 = .ok (.iload_n 2, 1) := by decide +kernel
theorem d_Mo_sumOf_8 : decode b_Mo_sumOf 8 = .ok (.if_icmp .ge 24, 3) := by decide +kernel
theorem d_Mo_sumOf_11 : decode b_Mo_sumOf 11 = .ok (.iload_n 3, 1) := by decide +kernel
theorem d_Mo_sumOf_12 : decode b_Mo_sumOf 12 = .ok (.aload_n 0, 1) := by decide +kernel
theorem d_Mo_sumOf_13 : decode b_Mo_sumOf 13 = .ok (.iload_n 1, 1) := by decide +kernel
theorem d_Mo_sumOf_14 : decode b_Mo_sumOf 14 = .ok (.iload 4, 2) := by decide +kernel
theorem d_Mo_sumOf_16 : decode b_Mo_sumOf 16 = .ok (.iadd, 1) := by decide +kernel
theorem d_Mo_sumOf_17 : decode b_Mo_sumOf 17 = .ok (.baload, 1) := by decide +kernel
theorem d_Mo_sumOf_18 : decode b_Mo_sumOf 18 = .ok (.sipush 255, 3) := by decide +kernel
theorem d_Mo_sumOf_21 : decode b_Mo_sumOf 21 = .ok (.iand, 1) := by decide +kernel
theorem d_Mo_sumOf_22 : decode b_Mo_sumOf 22 = .ok (.invokestatic 285, 3) := by decide +kernel
theorem d_Mo_sumOf_25 : decode b_Mo_sumOf 25 = .ok (.istore_n 3, 1) := by decide +kernel
theorem d_Mo_sumOf_26 : decode b_Mo_sumOf 26 = .ok (.iinc 4 1, 3) := by decide +kernel
theorem d_Mo_sumOf_29 : decode b_Mo_sumOf 29 = .ok (.goto (-24), 3) := by decide +kernel
theorem d_Mo_sumOf_32 : decode b_Mo_sumOf 32 = .ok (.iload_n 2, 1) := by decide +kernel
theorem d_Mo_sumOf_33 : decode b_Mo_sumOf 33 = .ok (.istore 4, 2) := by decide +kernel
theorem d_Mo_sumOf_35 : decode b_Mo_sumOf 35 = .ok (.iload 4, 2) := by decide +kernel
theorem d_Mo_sumOf_37 : decode b_Mo_sumOf 37 = .ok (.ifCond .le 24, 3) := by decide +kernel
theorem d_Mo_sumOf_40 : decode b_Mo_sumOf 40 = .ok (.iload_n 3, 1) := by decide +kernel
theorem d_Mo_sumOf_41 : decode b_Mo_sumOf 41 = .ok (.iload 4, 2) := by decide +kernel
theorem d_Mo_sumOf_43 : decode b_Mo_sumOf 43 = .ok (.sipush 255, 3) := by decide +kernel
theorem d_Mo_sumOf_46 : decode b_Mo_sumOf 46 = .ok (.iand, 1) := by decide +kernel
theorem d_Mo_sumOf_47 : decode b_Mo_sumOf 47 = .ok (.invokestatic 285, 3) := by decide +kernel
theorem d_Mo_sumOf_50 : decode b_Mo_sumOf 50 = .ok (.istore_n 3, 1) := by decide +kernel
theorem d_Mo_sumOf_51 : decode b_Mo_sumOf 51 = .ok (.iload 4, 2) := by decide +kernel
theorem d_Mo_sumOf_53 : decode b_Mo_sumOf 53 = .ok (.bipush 8, 2) := by decide +kernel
theorem d_Mo_sumOf_55 : decode b_Mo_sumOf 55 = .ok (.ishr, 1) := by decide +kernel
theorem d_Mo_sumOf_56 : decode b_Mo_sumOf 56 = .ok (.istore 4, 2) := by decide +kernel
theorem d_Mo_sumOf_58 : decode b_Mo_sumOf 58 = .ok (.goto (-23), 3) := by decide +kernel
theorem d_Mo_sumOf_61 : decode b_Mo_sumOf 61 = .ok (.iload_n 3, 1) := by decide +kernel
theorem d_Mo_sumOf_62 : decode b_Mo_sumOf 62 = .ok (.iconst (-1), 1) := by decide +kernel
theorem d_Mo_sumOf_63 : decode b_Mo_sumOf 63 = .ok (.ixor, 1) := by decide +kernel
theorem d_Mo_sumOf_64 : decode b_Mo_sumOf 64 = .ok (.ireturn, 1) := by decide +kernel
theorem d_Mo_checksum_0 : decode b_Mo_checksum 0 = .ok (.aload_n 0, 1) := by decide +kernel
theorem d_Mo_checksum_1 : decode b_Mo_checksum 1 = .ok (.iconst 0, 1) := by decide +kernel
theorem d_Mo_checksum_2 : decode b_Mo_checksum 2 = .ok (.putfield 128, 3) := by decide +kernel
theorem d_Mo_checksum_5 : decode b_Mo_checksum 5 = .ok (.aload_n 0, 1) := by decide +kernel
theorem d_Mo_checksum_6 : decode b_Mo_checksum 6 = .ok (.getfield 28, 3) := by decide +kernel
theorem d_Mo_checksum_9 : decode b_Mo_checksum 9 = .ok (.iconst 0, 1) := by decide +kernel
theorem d_Mo_checksum_10 : decode b_Mo_checksum 10 = .ok (.aload_n 0, 1) := by decide +kernel
theorem d_Mo_checksum_11 : decode b_Mo_checksum 11 = .ok (.getfield 132, 3) := by decide +kernel
theorem d_Mo_checksum_14 : decode b_Mo_checksum 14 = .ok (.invokestatic 288, 3) := by decide +kernel
theorem d_Mo_checksum_17 : decode b_Mo_checksum 17 = .ok (.istore_n 1, 1) := by decide +kernel
theorem d_Mo_checksum_18 : decode b_Mo_checksum 18 = .ok (.aload_n 0, 1) := by decide +kernel
theorem d_Mo_checksum_19 : decode b_Mo_checksum 19 = .ok (.iconst 0, 1) := by decide +kernel
theorem d_Mo_checksum_20 : decode b_Mo_checksum 20 = .ok (.putfield 132, 3) := by decide +kernel
theorem d_Mo_checksum_23 : decode b_Mo_checksum 23 = .ok (.iload_n 1, 1) := by decide +kernel
theorem d_Mo_checksum_24 : decode b_Mo_checksum 24 = .ok (.ireturn, 1) := by decide +kernel
theorem d_Mo_pack_0 : decode b_Mo_pack 0 = .ok (.aload_n 0, 1) := by decide +kernel
theorem d_Mo_pack_1 : decode b_Mo_pack 1 = .ok (.iload_n 1, 1) := by decide +kernel
theorem d_Mo_pack_2 : decode b_Mo_pack 2 = .ok (.bipush 9, 2) := by decide +kernel
theorem d_Mo_pack_4 : decode b_Mo_pack 4 = .ok (.if_icmp .lt 22, 3) := by decide +kernel
theorem d_Mo_pack_7 : decode b_Mo_pack 7 = .ok (.iload_n 1, 1) := by decide +kernel
theorem d_Mo_pack_8 : decode b_Mo_pack 8 = .ok (.bipush 16, 2) := by decide +kernel
theorem d_Mo_pack_10 : decode b_Mo_pack 10 = .ok (.if_icmp .gt 16, 3) := by decide +kernel
theorem d_Mo_pack_13 : decode b_Mo_pack 13 = .ok (.iload_n 2, 1) := by decide +kernel
theorem d_Mo_pack_14 : decode b_Mo_pack 14 = .ok (.bipush 40, 2) := by decide +kernel
theorem d_Mo_pack_16 : decode b_Mo_pack 16 = .ok (.if_icmp .lt 10, 3) := by decide +kernel
theorem d_Mo_pack_19 : decode b_Mo_pack 19 = .ok (.iload_n 2, 1) := by decide +kernel
theorem d_Mo_pack_20 : decode b_Mo_pack 20 = .ok (.sipush 4000, 3) := by decide +kernel
theorem d_Mo_pack_23 : decode b_Mo_pack 23 = .ok (.if_icmp .le 7, 3) := by decide +kernel
theorem d_Mo_pack_26 : decode b_Mo_pack 26 = .ok (.iconst 1, 1) := by decide +kernel
theorem d_Mo_pack_27 : decode b_Mo_pack 27 = .ok (.goto 4, 3) := by decide +kernel
theorem d_Mo_pack_30 : decode b_Mo_pack 30 = .ok (.iconst 0, 1) := by decide +kernel
theorem d_Mo_pack_31 : decode b_Mo_pack 31 = .ok (.putfield 128, 3) := by decide +kernel
theorem d_Mo_pack_34 : decode b_Mo_pack 34 = .ok (.aload_n 0, 1) := by decide +kernel
theorem d_Mo_pack_35 : decode b_Mo_pack 35 = .ok (.getfield 128, 3) := by decide +kernel
theorem d_Mo_pack_38 : decode b_Mo_pack 38 = .ok (.ifCond .le 5, 3) := by decide +kernel
theorem d_Mo_pack_41 : decode b_Mo_pack 41 = .ok (.iconst 0, 1) := by decide +kernel
theorem d_Mo_pack_42 : decode b_Mo_pack 42 = .ok (.ireturn, 1) := by decide +kernel
theorem d_Mo_pack_43 : decode b_Mo_pack 43 = .ok (.aload_n 0, 1) := by decide +kernel
theorem d_Mo_pack_44 : decode b_Mo_pack 44 = .ok (.iconst 0, 1) := by decide +kernel
theorem d_Mo_pack_45 : decode b_Mo_pack 45 = .ok (.invokevirtual 292, 3) := by decide +kernel
theorem d_Mo_pack_48 : decode b_Mo_pack 48 = .ok (.ifCond .eq 5, 3) := by decide +kernel
theorem d_Mo_pack_51 : decode b_Mo_pack 51 = .ok (.iconst (-1), 1) := by decide +kernel
theorem d_Mo_pack_52 : decode b_Mo_pack 52 = .ok (.ireturn, 1) := by decide +kernel
theorem d_Mo_pack_53 : decode b_Mo_pack 53 = .ok (.aload_n 0, 1) := by decide +kernel
theorem d_Mo_pack_54 : decode b_Mo_pack 54 = .ok (.iconst 0, 1) := by decide +kernel
theorem d_Mo_pack_55 : decode b_Mo_pack 55 = .ok (.invokevirtual 295, 3) := by decide +kernel
theorem d_Mo_pack_58 : decode b_Mo_pack 58 = .ok (.aload_n 0, 1) := by decide +kernel
theorem d_Mo_pack_59 : decode b_Mo_pack 59 = .ok (.aload_n 0, 1) := by decide +kernel
theorem d_Mo_pack_60 : decode b_Mo_pack 60 = .ok (.getfield 75, 3) := by decide +kernel
theorem d_Mo_pack_63 : decode b_Mo_pack 63 = .ok (.aload_n 0, 1) := by decide +kernel
theorem d_Mo_pack_64 : decode b_Mo_pack 64 = .ok (.getfield 195, 3) := by decide +kernel
theorem d_Mo_pack_67 : decode b_Mo_pack 67 = .ok (.iload_n 1, 1) := by decide +kernel
theorem d_Mo_pack_68 : decode b_Mo_pack 68 = .ok (.invokevirtual 298, 3) := by decide +kernel
theorem d_Mo_pack_71 : decode b_Mo_pack 71 = .ok (.aload_n 0, 1) := by decide +kernel
theorem d_Mo_pack_72 : decode b_Mo_pack 72 = .ok (.aload_n 0, 1) := by decide +kernel
theorem d_Mo_pack_73 : decode b_Mo_pack 73 = .ok (.getfield 79, 3) := by decide +kernel
theorem d_Mo_pack_76 : decode b_Mo_pack 76 = .ok (.aload_n 0, 1) := by decide +kernel
theorem d_Mo_pack_77 : decode b_Mo_pack 77 = .ok (.getfield 232, 3) := by decide +kernel
theorem d_Mo_pack_80 : decode b_Mo_pack 80 = .ok (.invokevirtual 301, 3) := by decide +kernel
theorem d_Mo_pack_83 : decode b_Mo_pack 83 = .ok (.aload_n 0, 1) := by decide +kernel
theorem d_Mo_pack_84 : decode b_Mo_pack 84 = .ok (.getfield 274, 3) := by decide +kernel
theorem d_Mo_pack_87 : decode b_Mo_pack 87 = .ok (.iload_n 2, 1) := by decide +kernel
theorem d_Mo_pack_88 : decode b_Mo_pack 88 = .ok (.iadd, 1) := by decide +kernel
theorem d_Mo_pack_89 : decode b_Mo_pack 89 = .ok (.iconst 1, 1) := by decide +kernel
theorem d_Mo_pack_90 : decode b_Mo_pack 90 = .ok (.isub, 1) := by decide +kernel
theorem d_Mo_pack_91 : decode b_Mo_pack 91 = .ok (.iload_n 2, 1) := by decide +kernel
theorem d_Mo_pack_92 : decode b_Mo_pack 92 = .ok (.idiv, 1) := by decide +kernel
theorem d_Mo_pack_93 : decode b_Mo_pack 93 = .ok (.istore_n 3, 1) := by decide +kernel
theorem d_Mo_pack_94 : decode b_Mo_pack 94 = .ok (.iload_n 3, 1) := by decide +kernel
theorem d_Mo_pack_95 : decode b_Mo_pack 95 = .ok (.sipush 999, 3) := by decide +kernel
theorem d_Mo_pack_98 : decode b_Mo_pack 98 = .ok (.if_icmp .le 6, 3) := by decide +kernel
theorem d_Mo_pack_101 : decode b_Mo_pack 101 = .ok (.bipush (-2), 2) := by decide +kernel
theorem d_Mo_pack_103 : decode b_Mo_pack 103 = .ok (.ireturn, 1) := by decide +kernel
theorem d_Mo_pack_104 : decode b_Mo_pack 104 = .ok (.aload_n 0, 1) := by decide +kernel
theorem d_Mo_pack_105 : decode b_Mo_pack 105 = .ok (.iload_n 3, 1) := by decide +kernel
theorem d_Mo_pack_106 : decode b_Mo_pack 106 = .ok (.putfield 305, 3) := by decide +kernel
theorem d_Mo_pack_109 : decode b_Mo_pack 109 = .ok (.aload_n 0, 1) := by decide +kernel
theorem d_Mo_pack_110 : decode b_Mo_pack 110 = .ok (.iload_n 2, 1) := by decide +kernel
theorem d_Mo_pack_111 : decode b_Mo_pack 111 = .ok (.putfield 308, 3) := by decide +kernel
theorem d_Mo_pack_114 : decode b_Mo_pack 114 = .ok (.aload_n 0, 1) := by decide +kernel
theorem d_Mo_pack_115 : decode b_Mo_pack 115 = .ok (.aload_n 0, 1) := by decide +kernel
theorem d_Mo_pack_116 : decode b_Mo_pack 116 = .ok (.getfield 232, 3) := by decide +kernel
theorem d_Mo_pack_119 : decode b_Mo_pack 119 = .ok (.putfield 311, 3) := by decide +kernel
theorem d_Mo_pack_122 : decode b_Mo_pack 122 = .ok (.iconst 0, 1) := by decide +kernel
theorem d_Mo_pack_123 : decode b_Mo_pack 123 = .ok (.istore 4, 2) := by decide +kernel
theorem d_Mo_pack_125 : decode b_Mo_pack 125 = .ok (.iload 4, 2) := by decide +kernel
theorem d_Mo_pack_127 : decode b_Mo_pack 127 = .ok (.aload_n 0, 1) := by decide +kernel
theorem d_Mo_pack_128 : decode b_Mo_pack 128 = .ok (.getfield 232, 3) := by decide +kernel
theorem d_Mo_pack_131 : decode b_Mo_pack 131 = .ok (.if_icmp .ge 23, 3) := by decide +kernel
theorem d_Mo_pack_134 : decode b_Mo_pack 134 = .ok (.aload_n 0, 1) := by decide +kernel
theorem d_Mo_pack_135 : decode b_Mo_pack 135 = .ok (.getfield 86, 3) := by decide +kernel
theorem d_Mo_pack_138 : decode b_Mo_pack 138 = .ok (.iload 4, 2) := by decide +kernel
theorem d_Mo_pack_140 : decode b_Mo_pack 140 = .ok (.aload_n 0, 1) := by decide +kernel
theorem d_Mo_pack_141 : decode b_Mo_pack 141 = .ok (.getfield 79, 3) := by decide +kernel
theorem d_Mo_pack_144 : decode b_Mo_pack 144 = .ok (.iload 4, 2) := by decide +kernel
theorem d_Mo_pack_146 : decode b_Mo_pack 146 = .ok (.baload, 1) := by decide +kernel
theorem d_Mo_pack_147 : decode b_Mo_pack 147 = .ok (.bastore, 1) := by decide +kernel
theorem d_Mo_pack_148 : decode b_Mo_pack 148 = .ok (.iinc 4 1, 3) := by decide +kernel
theorem d_Mo_pack_151 : decode b_Mo_pack 151 = .ok (.goto (-26), 3) := by decide +kernel
theorem d_Mo_pack_154 : decode b_Mo_pack 154 = .ok (.aload_n 0, 1) := by decide +kernel
theorem d_Mo_pack_155 : decode b_Mo_pack 155 = .ok (.aload_n 0, 1) := by decide +kernel
theorem d_Mo_pack_156 : decode b_Mo_pack 156 = .ok (.getfield 274, 3) := by decide +kernel
theorem d_Mo_pack_159 : decode b_Mo_pack 159 = .ok (.putfield 314, 3) := by decide +kernel
theorem d_Mo_pack_162 : decode b_Mo_pack 162 = .ok (.iconst 0, 1) := by decide +kernel
theorem d_Mo_pack_163 : decode b_Mo_pack 163 = .ok (.istore 4, 2) := by decide +kernel
theorem d_Mo_pack_165 : decode b_Mo_pack 165 = .ok (.iload 4, 2) := by decide +kernel
theorem d_Mo_pack_167 : decode b_Mo_pack 167 = .ok (.aload_n 0, 1) := by decide +kernel
theorem d_Mo_pack_168 : decode b_Mo_pack 168 = .ok (.getfield 274, 3) := by decide +kernel
theorem d_Mo_pack_171 : decode b_Mo_pack 171 = .ok (.if_icmp .ge 23, 3) := by decide +kernel
theorem d_Mo_pack_174 : decode b_Mo_pack 174 = .ok (.aload_n 0, 1) := by decide +kernel
theorem d_Mo_pack_175 : decode b_Mo_pack 175 = .ok (.getfield 89, 3) := by decide +kernel
theorem d_Mo_pack_178 : decode b_Mo_pack 178 = .ok (.iload 4, 2) := by decide +kernel
theorem d_Mo_pack_180 : decode b_Mo_pack 180 = .ok (.aload_n 0, 1) := by decide +kernel
theorem d_Mo_pack_181 : decode b_Mo_pack 181 = .ok (.getfield 83, 3) := by decide +kernel
theorem d_Mo_pack_184 : decode b_Mo_pack 184 = .ok (.iload 4, 2) := by decide +kernel
theorem d_Mo_pack_186 : decode b_Mo_pack 186 = .ok (.baload, 1) := by decide +kernel
theorem d_Mo_pack_187 : decode b_Mo_pack 187 = .ok (.bastore, 1) := by decide +kernel
theorem d_Mo_pack_188 : decode b_Mo_pack 188 = .ok (.iinc 4 1, 3) := by decide +kernel
theorem d_Mo_pack_191 : decode b_Mo_pack 191 = .ok (.goto (-26), 3) := by decide +kernel
theorem d_Mo_pack_194 : decode b_Mo_pack 194 = .ok (.iload_n 3, 1) := by decide +kernel
theorem d_Mo_pack_195 : decode b_Mo_pack 195 = .ok (.ireturn, 1) := by decide +kernel
theorem d_Mo_putChar_0 : decode b_Mo_putChar 0 = .ok (.aload_n 0, 1) := by decide +kernel
theorem d_Mo_putChar_1 : decode b_Mo_putChar 1 = .ok (.getfield 125, 3) := by decide +kernel
theorem d_Mo_putChar_4 : decode b_Mo_putChar 4 = .ok (.aload_n 0, 1) := by decide +kernel
theorem d_Mo_putChar_5 : decode b_Mo_putChar 5 = .ok (.getfield 322, 3) := by decide +kernel
theorem d_Mo_putChar_8 : decode b_Mo_putChar 8 = .ok (.iload_n 1, 1) := by decide +kernel
theorem d_Mo_putChar_9 : decode b_Mo_putChar 9 = .ok (.i2b, 1) := by decide +kernel
theorem d_Mo_putChar_10 : decode b_Mo_putChar 10 = .ok (.bastore, 1) := by decide +kernel
theorem d_Mo_putChar_11 : decode b_Mo_putChar 11 = .ok (.aload_n 0, 1) := by decide +kernel
theorem d_Mo_putChar_12 : decode b_Mo_putChar 12 = .ok (.dup, 1) := by decide +kernel
theorem d_Mo_putChar_13 : decode b_Mo_putChar 13 = .ok (.getfield 322, 3) := by decide +kernel
theorem d_Mo_putChar_16 : decode b_Mo_putChar 16 = .ok (.iconst 1, 1) := by decide +kernel
theorem d_Mo_putChar_17 : decode b_Mo_putChar 17 = .ok (.iadd, 1) := by decide +kernel
theorem d_Mo_putChar_18 : decode b_Mo_putChar 18 = .ok (.putfield 322, 3) := by decide +kernel
theorem d_Mo_putChar_21 : decode b_Mo_putChar 21 = .ok (.return_, 1) := by decide +kernel
theorem d_Mo_putWord_0 : decode b_Mo_putWord 0 = .ok (.iconst 0, 1) := by decide +kernel
theorem d_Mo_putWord_1 : decode b_Mo_putWord 1 = .ok (.istore_n 2, 1) := by decide +kernel
theorem d_Mo_putWord_2 : decode b_Mo_putWord 2 = .ok (.iload_n 2, 1) := by decide +kernel
theorem d_Mo_putWord_3 : decode b_Mo_putWord 3 = .ok (.aload_n 1, 1) := by decide +kernel
theorem d_Mo_putWord_4 : decode b_Mo_putWord 4 = .ok (.arraylength, 1) := by decide +kernel
theorem d_Mo_putWord_5 : decode b_Mo_putWord 5 = .ok (.if_icmp .ge 16, 3) := by decide +kernel
theorem d_Mo_putWord_8 : decode b_Mo_putWord 8 = .ok (.aload_n 0, 1) := by decide +kernel
theorem d_Mo_putWord_9 : decode b_Mo_putWord 9 = .ok (.aload_n 1, 1) := by decide +kernel
theorem d_Mo_putWord_10 : decode b_Mo_putWord 10 = .ok (.iload_n 2, 1) := by decide +kernel
theorem d_Mo_putWord_11 : decode b_Mo_putWord 11 = .ok (.baload, 1) := by decide +kernel
theorem d_Mo_putWord_12 : decode b_Mo_putWord 12 = .ok (.invokevirtual 317, 3) := by decide +kernel
theorem d_Mo_putWord_15 : decode b_Mo_putWord 15 = .ok (.iinc 2 1, 3) := by decide +kernel
theorem d_Mo_putWord_18 : decode b_Mo_putWord 18 = .ok (.goto (-16), 3) := by decide +kernel
theorem d_Mo_putWord_21 : decode b_Mo_putWord 21 = .ok (.return_, 1) := by decide +kernel
theorem d_Mo_putDecimal_0 : decode b_Mo_putDecimal 0 = .ok (.lconst 1, 1) := by decide +kernel
theorem d_Mo_putDecimal_1 : decode b_Mo_putDecimal 1 = .ok (.lstore_n 3, 1) := by decide +kernel
theorem d_Mo_putDecimal_2 : decode b_Mo_putDecimal 2 = .ok (.lload_n 3, 1) := by decide +kernel
theorem d_Mo_putDecimal_3 : decode b_Mo_putDecimal 3 = .ok (.lload_n 1, 1) := by decide +kernel
theorem d_Mo_putDecimal_4 : decode b_Mo_putDecimal 4 = .ok (.ldc2_w 320, 3) := by decide +kernel
theorem d_Mo_putDecimal_7 : decode b_Mo_putDecimal 7 = .ok (.ldiv, 1) := by decide +kernel
theorem d_Mo_putDecimal_8 : decode b_Mo_putDecimal 8 = .ok (.lcmp, 1) := by decide +kernel
theorem d_Mo_putDecimal_9 : decode b_Mo_putDecimal 9 = .ok (.ifCond .gt 12, 3) := by decide +kernel
theorem d_Mo_putDecimal_12 : decode b_Mo_putDecimal 12 = .ok (.lload_n 3, 1) := by decide +kernel
theorem d_Mo_putDecimal_13 : decode b_Mo_putDecimal 13 = .ok (.ldc2_w 320, 3) := by decide +kernel
theorem d_Mo_putDecimal_16 : decode b_Mo_putDecimal 16 = .ok (.lmul, 1) := by decide +kernel
theorem d_Mo_putDecimal_17 : decode b_Mo_putDecimal 17 = .ok (.lstore_n 3, 1) := by decide +kernel
theorem d_Mo_putDecimal_18 : decode b_Mo_putDecimal 18 = .ok (.goto (-16), 3) := by decide +kernel
theorem d_Mo_putDecimal_21 : decode b_Mo_putDecimal 21 = .ok (.lload_n 3, 1) := by decide +kernel
theorem d_Mo_putDecimal_22 : decode b_Mo_putDecimal 22 = .ok (.lconst 0, 1) := by decide +kernel
theorem d_Mo_putDecimal_23 : decode b_Mo_putDecimal 23 = .ok (.lcmp, 1) := by decide +kernel
theorem d_Mo_putDecimal_24 : decode b_Mo_putDecimal 24 = .ok (.ifCond .le 43, 3) := by decide +kernel
theorem d_Mo_putDecimal_27 : decode b_Mo_putDecimal 27 = .ok (.aload_n 0, 1) := by decide +kernel
theorem d_Mo_putDecimal_28 : decode b_Mo_putDecimal 28 = .ok (.getfield 125, 3) := by decide +kernel
theorem d_Mo_putDecimal_31 : decode b_Mo_putDecimal 31 = .ok (.aload_n 0, 1) := by decide +kernel
theorem d_Mo_putDecimal_32 : decode b_Mo_putDecimal 32 = .ok (.getfield 322, 3) := by decide +kernel
theorem d_Mo_putDecimal_35 : decode b_Mo_putDecimal 35 = .ok (.bipush 48, 2) := by decide +kernel
theorem d_Mo_putDecimal_37 : decode b_Mo_putDecimal 37 = .ok (.lload_n 1, 1) := by decide +kernel
theorem d_Mo_putDecimal_38 : decode b_Mo_putDecimal 38 = .ok (.lload_n 3, 1) := by decide +kernel
theorem d_Mo_putDecimal_39 : decode b_Mo_putDecimal 39 = .ok (.ldiv, 1) := by decide +kernel
theorem d_Mo_putDecimal_40 : decode b_Mo_putDecimal 40 = .ok (.ldc2_w 320, 3) := by decide +kernel
theorem d_Mo_putDecimal_43 : decode b_Mo_putDecimal 43 = .ok (.lrem, 1) := by decide +kernel
theorem d_Mo_putDecimal_44 : decode b_Mo_putDecimal 44 = .ok (.l2i, 1) := by decide +kernel
theorem d_Mo_putDecimal_45 : decode b_Mo_putDecimal 45 = .ok (.iadd, 1) := by decide +kernel
theorem d_Mo_putDecimal_46 : decode b_Mo_putDecimal 46 = .ok (.i2b, 1) := by decide +kernel
theorem d_Mo_putDecimal_47 : decode b_Mo_putDecimal 47 = .ok (.bastore, 1) := by decide +kernel
theorem d_Mo_putDecimal_48 : decode b_Mo_putDecimal 48 = .ok (.aload_n 0, 1) := by decide +kernel
theorem d_Mo_putDecimal_49 : decode b_Mo_putDecimal 49 = .ok (.dup, 1) := by decide +kernel
theorem d_Mo_putDecimal_50 : decode b_Mo_putDecimal 50 = .ok (.getfield 322, 3) := by decide +kernel
theorem d_Mo_putDecimal_53 : decode b_Mo_putDecimal 53 = .ok (.iconst 1, 1) := by decide +kernel
theorem d_Mo_putDecimal_54 : decode b_Mo_putDecimal 54 = .ok (.iadd, 1) := by decide +kernel
theorem d_Mo_putDecimal_55 : decode b_Mo_putDecimal 55 = .ok (.putfield 322, 3) := by decide +kernel
theorem d_Mo_putDecimal_58 : decode b_Mo_putDecimal 58 = .ok (.lload_n 3, 1) := by decide +kernel
theorem d_Mo_putDecimal_59 : decode b_Mo_putDecimal 59 = .ok (.ldc2_w 320, 3) := by decide +kernel
theorem d_Mo_putDecimal_62 : decode b_Mo_putDecimal 62 = .ok (.ldiv, 1) := by decide +kernel
theorem d_Mo_putDecimal_63 : decode b_Mo_putDecimal 63 = .ok (.lstore_n 3, 1) := by decide +kernel
theorem d_Mo_putDecimal_64 : decode b_Mo_putDecimal 64 = .ok (.goto (-43), 3) := by decide +kernel
theorem d_Mo_putDecimal_67 : decode b_Mo_putDecimal 67 = .ok (.return_, 1) := by decide +kernel
theorem d_Mo_writePart_0 : decode b_Mo_writePart 0 = .ok (.iload_n 1, 1) := by decide +kernel
theorem d_Mo_writePart_1 : decode b_Mo_writePart 1 = .ok (.iconst 1, 1) := by decide +kernel
theorem d_Mo_writePart_2 : decode b_Mo_writePart 2 = .ok (.isub, 1) := by decide +kernel
theorem d_Mo_writePart_3 : decode b_Mo_writePart 3 = .ok (.aload_n 0, 1) := by decide +kernel
theorem d_Mo_writePart_4 : decode b_Mo_writePart 4 = .ok (.getfield 308, 3) := by decide +kernel
theorem d_Mo_writePart_7 : decode b_Mo_writePart 7 = .ok (.imul, 1) := by decide +kernel
theorem d_Mo_writePart_8 : decode b_Mo_writePart 8 = .ok (.istore_n 2, 1) := by decide +kernel
theorem d_Mo_writePart_9 : decode b_Mo_writePart 9 = .ok (.aload_n 0, 1) := by decide +kernel
theorem d_Mo_writePart_10 : decode b_Mo_writePart 10 = .ok (.getfield 314, 3) := by decide +kernel
theorem d_Mo_writePart_13 : decode b_Mo_writePart 13 = .ok (.iload_n 2, 1) := by decide +kernel
theorem d_Mo_writePart_14 : decode b_Mo_writePart 14 = .ok (.isub, 1) := by decide +kernel
theorem d_Mo_writePart_15 : decode b_Mo_writePart 15 = .ok (.aload_n 0, 1) := by decide +kernel
theorem d_Mo_writePart_16 : decode b_Mo_writePart 16 = .ok (.getfield 308, 3) := by decide +kernel
theorem d_Mo_writePart_19 : decode b_Mo_writePart 19 = .ok (.if_icmp .ge 12, 3) := by decide +kernel
theorem d_Mo_writePart_22 : decode b_Mo_writePart 22 = .ok (.aload_n 0, 1) := by decide +kernel
theorem d_Mo_writePart_23 : decode b_Mo_writePart 23 = .ok (.getfield 314, 3) := by decide +kernel
theorem d_Mo_writePart_26 : decode b_Mo_writePart 26 = .ok (.iload_n 2, 1) := by decide +kernel
theorem d_Mo_writePart_27 : decode b_Mo_writePart 27 = .ok (.isub, 1) := by decide +kernel
theorem d_Mo_writePart_28 : decode b_Mo_writePart 28 = .ok (.goto 7, 3) := by decide +kernel
theorem d_Mo_writePart_31 : decode b_Mo_writePart 31 = .ok (.aload_n 0, 1) := by decide +kernel
theorem d_Mo_writePart_32 : decode b_Mo_writePart 32 = .ok (.getfield 308, 3) := by decide +kernel
theorem d_Mo_writePart_35 : decode b_Mo_writePart 35 = .ok (.istore_n 3, 1) := by decide +kernel
theorem d_Mo_writePart_36 : decode b_Mo_writePart 36 = .ok (.aload_n 0, 1) := by decide +kernel
theorem d_Mo_writePart_37 : decode b_Mo_writePart 37 = .ok (.iconst 0, 1) := by decide +kernel
theorem d_Mo_writePart_38 : decode b_Mo_writePart 38 = .ok (.putfield 322, 3) := by decide +kernel
theorem d_Mo_writePart_41 : decode b_Mo_writePart 41 = .ok (.aload_n 0, 1) := by decide +kernel
theorem d_Mo_writePart_42 : decode b_Mo_writePart 42 = .ok (.aload_n 0, 1) := by decide +kernel
theorem d_Mo_writePart_43 : decode b_Mo_writePart 43 = .ok (.getfield 16, 3) := by decide +kernel
theorem d_Mo_writePart_46 : decode b_Mo_writePart 46 = .ok (.invokevirtual 325, 3) := by decide +kernel
theorem d_Mo_writePart_49 : decode b_Mo_writePart 49 = .ok (.aload_n 0, 1) := by decide +kernel
theorem d_Mo_writePart_50 : decode b_Mo_writePart 50 = .ok (.iload_n 1, 1) := by decide +kernel
theorem d_Mo_writePart_51 : decode b_Mo_writePart 51 = .ok (.i2l, 1) := by decide +kernel
theorem d_Mo_writePart_52 : decode b_Mo_writePart 52 = .ok (.invokevirtual 329, 3) := by decide +kernel
theorem d_Mo_writePart_55 : decode b_Mo_writePart 55 = .ok (.aload_n 0, 1) := by decide +kernel
theorem d_Mo_writePart_56 : decode b_Mo_writePart 56 = .ok (.bipush 32, 2) := by decide +kernel
theorem d_Mo_writePart_58 : decode b_Mo_writePart 58 = .ok (.invokevirtual 317, 3) := by decide +kernel
theorem d_Mo_writePart_61 : decode b_Mo_writePart 61 = .ok (.aload_n 0, 1) := by decide +kernel
theorem d_Mo_writePart_62 : decode b_Mo_writePart 62 = .ok (.aload_n 0, 1) := by decide +kernel
theorem d_Mo_writePart_63 : decode b_Mo_writePart 63 = .ok (.getfield 19, 3) := by decide +kernel
theorem d_Mo_writePart_66 : decode b_Mo_writePart 66 = .ok (.invokevirtual 325, 3) := by decide +kernel
theorem d_Mo_writePart_69 : decode b_Mo_writePart 69 = .ok (.aload_n 0, 1) := by decide +kernel
theorem d_Mo_writePart_70 : decode b_Mo_writePart 70 = .ok (.aload_n 0, 1) := by decide +kernel
theorem d_Mo_writePart_71 : decode b_Mo_writePart 71 = .ok (.getfield 305, 3) := by decide +kernel
theorem d_Mo_writePart_74 : decode b_Mo_writePart 74 = .ok (.i2l, 1) := by decide +kernel
theorem d_Mo_writePart_75 : decode b_Mo_writePart 75 = .ok (.invokevirtual 329, 3) := by decide +kernel
theorem d_Mo_writePart_78 : decode b_Mo_writePart 78 = .ok (.aload_n 0, 1) := by decide +kernel
theorem d_Mo_writePart_79 : decode b_Mo_writePart 79 = .ok (.bipush 32, 2) := by decide +kernel
theorem d_Mo_writePart_81 : decode b_Mo_writePart 81 = .ok (.invokevirtual 317, 3) := by decide +kernel
theorem d_Mo_writePart_84 : decode b_Mo_writePart 84 = .ok (.aload_n 0, 1) := by decide +kernel
theorem d_Mo_writePart_85 : decode b_Mo_writePart 85 = .ok (.aload_n 0, 1) := by decide +kernel
theorem d_Mo_writePart_86 : decode b_Mo_writePart 86 = .ok (.getfield 22, 3) := by decide +kernel
theorem d_Mo_writePart_89 : decode b_Mo_writePart 89 = .ok (.invokevirtual 325, 3) := by decide +kernel
theorem d_Mo_writePart_92 : decode b_Mo_writePart 92 = .ok (.aload_n 0, 1) := by decide +kernel
theorem d_Mo_writePart_93 : decode b_Mo_writePart 93 = .ok (.iload_n 3, 1) := by decide +kernel
theorem d_Mo_writePart_94 : decode b_Mo_writePart 94 = .ok (.i2l, 1) := by decide +kernel
theorem d_Mo_writePart_95 : decode b_Mo_writePart 95 = .ok (.invokevirtual 329, 3) := by decide +kernel
theorem d_Mo_writePart_98 : decode b_Mo_writePart 98 = .ok (.aload_n 0, 1) := by decide +kernel
theorem d_Mo_writePart_99 : decode b_Mo_writePart 99 = .ok (.bipush 32, 2) := by decide +kernel
theorem d_Mo_writePart_101 : decode b_Mo_writePart 101 = .ok (.invokevirtual 317, 3) := by decide +kernel
theorem d_Mo_writePart_104 : decode b_Mo_writePart 104 = .ok (.aload_n 0, 1) := by decide +kernel
theorem d_Mo_writePart_105 : decode b_Mo_writePart 105 = .ok (.aload_n 0, 1) := by decide +kernel
theorem d_Mo_writePart_106 : decode b_Mo_writePart 106 = .ok (.getfield 25, 3) := by decide +kernel
theorem d_Mo_writePart_109 : decode b_Mo_writePart 109 = .ok (.invokevirtual 325, 3) := by decide +kernel
theorem d_Mo_writePart_112 : decode b_Mo_writePart 112 = .ok (.aload_n 0, 1) := by decide +kernel
theorem d_Mo_writePart_113 : decode b_Mo_writePart 113 = .ok (.aload_n 0, 1) := by decide +kernel
theorem d_Mo_writePart_114 : decode b_Mo_writePart 114 = .ok (.getfield 89, 3) := by decide +kernel
theorem d_Mo_writePart_117 : decode b_Mo_writePart 117 = .ok (.iload_n 2, 1) := by decide +kernel
theorem d_Mo_writePart_118 : decode b_Mo_writePart 118 = .ok (.iload_n 3, 1) := by decide +kernel
theorem d_Mo_writePart_119 : decode b_Mo_writePart 119 = .ok (.invokestatic 288, 3) := by decide +kernel
theorem d_Mo_writePart_122 : decode b_Mo_writePart 122 = .ok (.i2l, 1) := by decide +kernel
theorem d_Mo_writePart_123 : decode b_Mo_writePart 123 = .ok (.ldc2_w 333, 3) := by decide +kernel
theorem d_Mo_writePart_126 : decode b_Mo_writePart 126 = .ok (.land, 1) := by decide +kernel
theorem d_Mo_writePart_127 : decode b_Mo_writePart 127 = .ok (.invokevirtual 329, 3) := by decide +kernel
theorem d_Mo_writePart_130 : decode b_Mo_writePart 130 = .ok (.aload_n 0, 1) := by decide +kernel
theorem d_Mo_writePart_131 : decode b_Mo_writePart 131 = .ok (.bipush 10, 2) := by decide +kernel
theorem d_Mo_writePart_133 : decode b_Mo_writePart 133 = .ok (.invokevirtual 317, 3) := by decide +kernel
theorem d_Mo_writePart_136 : decode b_Mo_writePart 136 = .ok (.iconst 0, 1) := by decide +kernel
theorem d_Mo_writePart_137 : decode b_Mo_writePart 137 = .ok (.istore 4, 2) := by decide +kernel
theorem d_Mo_writePart_139 : decode b_Mo_writePart 139 = .ok (.iload 4, 2) := by decide +kernel
theorem d_Mo_writePart_141 : decode b_Mo_writePart 141 = .ok (.iload_n 3, 1) := by decide +kernel
theorem d_Mo_writePart_142 : decode b_Mo_writePart 142 = .ok (.if_icmp .ge 22, 3) := by decide +kernel
theorem d_Mo_writePart_145 : decode b_Mo_writePart 145 = .ok (.aload_n 0, 1) := by decide +kernel
theorem d_Mo_writePart_146 : decode b_Mo_writePart 146 = .ok (.aload_n 0, 1) := by decide +kernel
theorem d_Mo_writePart_147 : decode b_Mo_writePart 147 = .ok (.getfield 89, 3) := by decide +kernel
theorem d_Mo_writePart_150 : decode b_Mo_writePart 150 = .ok (.iload_n 2, 1) := by decide +kernel
theorem d_Mo_writePart_151 : decode b_Mo_writePart 151 = .ok (.iload 4, 2) := by decide +kernel
theorem d_Mo_writePart_153 : decode b_Mo_writePart 153 = .ok (.iadd, 1) := by decide +kernel
theorem d_Mo_writePart_154 : decode b_Mo_writePart 154 = .ok (.baload, 1) := by decide +kernel
theorem d_Mo_writePart_155 : decode b_Mo_writePart 155 = .ok (.invokevirtual 317, 3) := by decide +kernel
theorem d_Mo_writePart_158 : decode b_Mo_writePart 158 = .ok (.iinc 4 1, 3) := by decide +kernel
theorem d_Mo_writePart_161 : decode b_Mo_writePart 161 = .ok (.goto (-22), 3) := by decide +kernel
theorem d_Mo_writePart_164 : decode b_Mo_writePart 164 = .ok (.return_, 1) := by decide +kernel
set_option maxRecDepth 100000 in
set_option maxHeartbeats 4000000 in
theorem Met_Mo_layString (l : Launch) (B : Nat) (D : va_G) (aC : Nat → ClassId) (aS : Nat → Nat) {a0 : Nat} {i1 : Int32} {M : zM} {post : Int32 → zM → Prop} (hk0 : a0 < N0) (ht0 : tg a0 = 9) (h : Wp_Mo_layString a0 i1 M post) : Met l y_Mo_layString (wo y_Mo_layString b_Mo_layString 5 (some FieldType.boolean)) { frames := 0, cells := 0, slots := 0, locals := 0 } (va_Pc [.ref (B + a0), .int i1] (zWl B D aC aS M)) (zQi B D aC post) 0 0 (zAb B) := by
  refine z_met (own := "MailChainModel") (lv0 := [(0, .ref (B + a0)), (1, .int i1)]) (by decide) rfl (Nat.le_of_ble_eq_true rfl) rfl ?_
  intro p e s m below meth c fx hr hlo
  delta Wp_Mo_layString at h
  have h := h (fun v2 v3 M => zAt p l e { frames := 0, cells := 0, slots := 0, locals := 0 } s m ([.ref (B + a0), .int i1] : List Value).toArray below meth c 0 0 (MQ below (zQi B D aC post) ([.ref (B + a0), .int i1] : List Value).toArray s 0 0 (zAb B)) B D aC 5 4 [(0, .ref (B + a0)), (1, .int i1), (2, .int v2), (3, .int v3)] [] M)
  have h := h (fun v2 v3 v4 M => zAt p l e { frames := 0, cells := 0, slots := 0, locals := 0 } s m ([.ref (B + a0), .int i1] : List Value).toArray below meth c 0 0 (MQ below (zQi B D aC post) ([.ref (B + a0), .int i1] : List Value).toArray s 0 0 (zAb B)) B D aC 5 50 [(0, .ref (B + a0)), (1, .int i1), (2, .int v2), (3, .int v3), (4, .int v4)] [] M)
  have h := h (by
    intro v2 v3 M h
    refine a_iload_n fx 3 d_Mo_layString_4 rfl rfl ?_
    refine a_sipush (v := 256) fx d_Mo_layString_5 rfl ?_
    refine a_icmp_le fx 24 d_Mo_layString_8 rfl (fun hc => ?_) (fun hc => ?_)
    · have h := h.1 hc
      refine a_aload_n fx 0 d_Mo_layString_24 rfl rfl ?_
      refine a_getI fx (T := F_Mo) (j := 47) (hk := hk0) (ht := ht0) (ht2 := by decide) (hc := rfl) (hin := u_in_Mo) (hj := by decide) (hj2 := by decide) (hf := rfl) (hT := rfl) (hw := w_1316) (hd := d_Mo_layString_25) (kk := ?_)
      refine a_iload_n fx 2 d_Mo_layString_28 rfl rfl ?_
      refine a_iadd fx d_Mo_layString_29 ?_
      refine a_sipush (v := 16000) fx d_Mo_layString_30 rfl ?_
      refine a_icmp_le fx 38 d_Mo_layString_33 rfl (fun hc => ?_) (fun hc => ?_)
      · have h := h.1 hc
        refine a_aload_n fx 0 d_Mo_layString_38 rfl rfl ?_
        refine a_getI fx (T := F_Mo) (j := 47) (hk := hk0) (ht := ht0) (ht2 := by decide) (hc := rfl) (hin := u_in_Mo) (hj := by decide) (hj2 := by decide) (hf := rfl) (hT := rfl) (hw := w_1316) (hd := d_Mo_layString_39) (kk := ?_)
        refine a_iload_n fx 2 d_Mo_layString_42 rfl rfl ?_
        refine a_iadd fx d_Mo_layString_43 ?_
        refine a_iconst (v := 1) fx d_Mo_layString_44 rfl ?_
        refine a_isub fx d_Mo_layString_45 ?_
        refine a_topi (fun x1 ex1 => ?_)
        have h := h x1 ex1
        refine a_istore_n (lv2 := [(3, .int x1), (0, .ref (B + a0)), (1, .int i1), (2, .int v2)]) fx d_Mo_layString_46 rfl (by decide) rfl ?_
        refine a_iload_n fx 2 d_Mo_layString_47 rfl rfl ?_
        refine a_istore (lv2 := [(4, .int i1), (3, .int x1), (0, .ref (B + a0)), (1, .int i1), (2, .int v2)]) fx d_Mo_layString_48 (by decide) rfl ?_
        refine a_sub [2, 3, 4, 1, 0] rfl ?_
        exact h
      · have h := h.2 hc
        refine a_iconst (v := 0) fx d_Mo_layString_36 rfl ?_
        exact a_zret fx hlo hr rfl h d_Mo_layString_37
    · have h := h.2 hc
      obtain ⟨x2, ex2⟩ : ∃ z : Int32, z = v2 + 1 := ⟨_, rfl⟩
      have h := h x2 ex2
      refine a_iinc (lv2 := [(2, .int x2), (0, .ref (B + a0)), (1, .int i1), (3, .int v3)]) fx 2 d_Mo_layString_11 rfl ex2.symm (by decide) rfl ?_
      refine a_aload_n fx 1 d_Mo_layString_14 rfl rfl ?_
      refine a_getS fx (T := F_Mo) (j := 52) (hk := hk0) (ht := ht0) (ht2 := by decide) (hc := rfl) (hin := u_in_Mo) (hj := by decide) (hj2 := by decide) (hf := rfl) (n9 := 36) (hfo := rfl) (hT := rfl) (hw := w_1321) (hd := d_Mo_layString_15) (kk := ?_)
      refine a_iload_n fx 3 d_Mo_layString_18 rfl rfl ?_
      obtain ⟨hin, h⟩ := h
      refine a_iald fx (lo_9_52 hk0 ht0).1 (lo_9_52 hk0 ht0).2 hin d_Mo_layString_19 ?_
      refine a_topi (fun x3 ex3 => ?_)
      have h := h x3 ex3
      refine a_istore_n (lv2 := [(3, .int x3), (2, .int x2), (0, .ref (B + a0)), (1, .int i1)]) fx d_Mo_layString_20 rfl (by decide) rfl ?_
      refine a_goto fx 4 d_Mo_layString_21 rfl ?_
      refine a_sub [2, 3, 1, 0] rfl ?_
      exact h)
  have h := h (by
    intro v2 v3 v4 M h
    refine a_iload fx 4 d_Mo_layString_50 rfl ?_
    refine a_sipush (v := 256) fx d_Mo_layString_52 rfl ?_
    refine a_icmp_le fx 87 d_Mo_layString_55 rfl (fun hc => ?_) (fun hc => ?_)
    · have h := h.1 hc
      refine a_aload_n fx 0 d_Mo_layString_87 rfl rfl ?_
      refine a_getS fx (T := F_Mo) (j := 48) (hk := hk0) (ht := ht0) (ht2 := by decide) (hc := rfl) (hin := u_in_Mo) (hj := by decide) (hj2 := by decide) (hf := rfl) (n9 := 32) (hfo := rfl) (hT := rfl) (hw := w_1317) (hd := d_Mo_layString_88) (kk := ?_)
      refine a_iload_n fx 3 d_Mo_layString_91 rfl rfl ?_
      refine a_iload fx 4 d_Mo_layString_92 rfl ?_
      refine a_i2b fx d_Mo_layString_94 ?_
      obtain ⟨hin, h⟩ := h
      refine a_bast fx (lo_9_48 hk0 ht0).1 (lo_9_48 hk0 ht0).2 hin d_Mo_layString_95 (a_mem (fun M4 eM4 => ?_))
      have h := h M4 eM4
      refine a_aload_n fx 0 d_Mo_layString_96 rfl rfl ?_
      refine a_aload_n fx 0 d_Mo_layString_97 rfl rfl ?_
      refine a_getI fx (T := F_Mo) (j := 47) (hk := hk0) (ht := ht0) (ht2 := by decide) (hc := rfl) (hin := u_in_Mo) (hj := by decide) (hj2 := by decide) (hf := rfl) (hT := rfl) (hw := w_1316) (hd := d_Mo_layString_98) (kk := ?_)
      refine a_iload_n fx 2 d_Mo_layString_101 rfl rfl ?_
      refine a_iadd fx d_Mo_layString_102 ?_
      refine a_putI fx (T := F_Mo) (ty0 := t_Mo) (j := 47) (hk := hk0) (ht := ht0) (ht2 := by decide) (hc := rfl) (hin := u_in_Mo) (hty := t_Mo_ok) (hnm := n_Mo) (hj := by decide) (hj2 := by decide) (hf := rfl) (hT := rfl) (hfin := rfl) (hn := rfl) (hfit := rfl) (hw := w_1316) (hd := d_Mo_layString_103) (kk := a_mem (fun M5 eM5 => ?_))
      have h := h M5 eM5
      refine a_iconst (v := 1) fx d_Mo_layString_106 rfl ?_
      exact a_zret fx hlo hr rfl h d_Mo_layString_107
    · have h := h.2 hc
      refine a_aload_n fx 0 d_Mo_layString_58 rfl rfl ?_
      refine a_getS fx (T := F_Mo) (j := 48) (hk := hk0) (ht := ht0) (ht2 := by decide) (hc := rfl) (hin := u_in_Mo) (hj := by decide) (hj2 := by decide) (hf := rfl) (n9 := 32) (hfo := rfl) (hT := rfl) (hw := w_1317) (hd := d_Mo_layString_59) (kk := ?_)
      refine a_iload_n fx 3 d_Mo_layString_62 rfl rfl ?_
      refine a_aload_n fx 0 d_Mo_layString_63 rfl rfl ?_
      refine a_getS fx (T := F_Mo) (j := 51) (hk := hk0) (ht := ht0) (ht2 := by decide) (hc := rfl) (hin := u_in_Mo) (hj := by decide) (hj2 := by decide) (hf := rfl) (n9 := 35) (hfo := rfl) (hT := rfl) (hw := w_1320) (hd := d_Mo_layString_64) (kk := ?_)
      refine a_iload fx 4 d_Mo_layString_67 rfl ?_
      obtain ⟨hin, h⟩ := h
      refine a_iald fx (lo_9_51 hk0 ht0).1 (lo_9_51 hk0 ht0).2 hin d_Mo_layString_69 ?_
      refine a_i2b fx d_Mo_layString_70 ?_
      obtain ⟨hin, h⟩ := h
      refine a_bast fx (lo_9_48 hk0 ht0).1 (lo_9_48 hk0 ht0).2 hin d_Mo_layString_71 (a_mem (fun M6 eM6 => ?_))
      have h := h M6 eM6
      obtain ⟨x7, ex7⟩ : ∃ z : Int32, z = v3 + (-1) := ⟨_, rfl⟩
      have h := h x7 ex7
      refine a_iinc (lv2 := [(3, .int x7), (0, .ref (B + a0)), (1, .int i1), (2, .int v2), (4, .int v4)]) fx 3 d_Mo_layString_72 rfl ex7.symm (by decide) rfl ?_
      refine a_aload_n fx 1 d_Mo_layString_75 rfl rfl ?_
      refine a_getS fx (T := F_Mo) (j := 52) (hk := hk0) (ht := ht0) (ht2 := by decide) (hc := rfl) (hin := u_in_Mo) (hj := by decide) (hj2 := by decide) (hf := rfl) (n9 := 36) (hfo := rfl) (hT := rfl) (hw := w_1321) (hd := d_Mo_layString_76) (kk := ?_)
      refine a_iload fx 4 d_Mo_layString_79 rfl ?_
      obtain ⟨hin, h⟩ := h
      refine a_iald fx (lo_9_52 hk0 ht0).1 (lo_9_52 hk0 ht0).2 hin d_Mo_layString_81 ?_
      refine a_topi (fun x8 ex8 => ?_)
      have h := h x8 ex8
      refine a_istore (lv2 := [(4, .int x8), (3, .int x7), (0, .ref (B + a0)), (1, .int i1), (2, .int v2)]) fx d_Mo_layString_82 (by decide) rfl ?_
      refine a_goto fx 50 d_Mo_layString_84 rfl ?_
      refine a_sub [2, 3, 4, 1, 0] rfl ?_
      exact h)
  refine a_iconst (v := 1) fx d_Mo_layString_0 rfl ?_
  refine a_istore_n (lv2 := [(2, .int 1), (0, .ref (B + a0)), (1, .int i1)]) fx d_Mo_layString_1 rfl (by decide) rfl ?_
  refine a_iload_n fx 2 d_Mo_layString_2 rfl rfl ?_
  refine a_istore_n (lv2 := [(3, .int i1), (2, .int 1), (0, .ref (B + a0)), (1, .int i1)]) fx d_Mo_layString_3 rfl (by decide) rfl ?_
  refine a_sub [2, 3, 1, 0] rfl ?_
  exact h
set_option maxRecDepth 100000 in
set_option maxHeartbeats 4000000 in
theorem Met_Mo_expand (l : Launch) (B : Nat) (D : va_G) (aC : Nat → ClassId) (aS : Nat → Nat) {a0 : Nat} {i1 : Int32} {M : zM} {post : Int32 → zM → Prop} (hk0 : a0 < N0) (ht0 : tg a0 = 9) (h : Wp_Mo_expand a0 i1 M post) : Met l y_Mo_expand (wo y_Mo_expand b_Mo_expand 7 (some FieldType.boolean)) { frames := 1, cells := 0, slots := 0, locals := 24 } (va_Pc [.ref (B + a0), .int i1] (zWl B D aC aS M)) (zQi B D aC post) 0 0 (zAb B) := by
  refine z_met (own := "MailChainModel") (lv0 := [(0, .ref (B + a0)), (1, .int i1)]) (by decide) rfl (Nat.le_of_ble_eq_true rfl) rfl ?_
  intro p e s m below meth c fx hr hlo
  delta Wp_Mo_expand at h
  have h := h (fun v2 v3 v4 M => zAt p l e { frames := 1, cells := 0, slots := 0, locals := 24 } s m ([.ref (B + a0), .int i1] : List Value).toArray below meth c 0 0 (MQ below (zQi B D aC post) ([.ref (B + a0), .int i1] : List Value).toArray s 0 0 (zAb B)) B D aC 7 33 [(0, .ref (B + a0)), (1, .int i1), (2, .int v2), (3, .int v3), (4, .int v4)] [] M)
  have h := h (fun v2 v3 v4 M => zAt p l e { frames := 1, cells := 0, slots := 0, locals := 24 } s m ([.ref (B + a0), .int i1] : List Value).toArray below meth c 0 0 (MQ below (zQi B D aC post) ([.ref (B + a0), .int i1] : List Value).toArray s 0 0 (zAb B)) B D aC 7 52 [(0, .ref (B + a0)), (1, .int i1), (2, .int v2), (3, .int v3), (4, .int v4)] [] M)
  have h := h (fun v2 v3 v4 M => zAt p l e { frames := 1, cells := 0, slots := 0, locals := 24 } s m ([.ref (B + a0), .int i1] : List Value).toArray below meth c 0 0 (MQ below (zQi B D aC post) ([.ref (B + a0), .int i1] : List Value).toArray s 0 0 (zAb B)) B D aC 7 116 [(0, .ref (B + a0)), (1, .int i1), (2, .int v2), (3, .int v3), (4, .int v4)] [] M)
  have h := h (fun v2 v3 v4 v5 w0 M => zAt p l e { frames := 1, cells := 0, slots := 0, locals := 24 } s m ([.ref (B + a0), .int i1] : List Value).toArray below meth c 0 0 (MQ below (zQi B D aC post) ([.ref (B + a0), .int i1] : List Value).toArray s 0 0 (zAb B)) B D aC 7 239 [(0, .ref (B + a0)), (1, .int i1), (2, .int v2), (3, .int v3), (4, .int v4), (5, .int v5)] [.int w0] M)
  have h := h (fun v2 v3 v4 v5 v6 M => zAt p l e { frames := 1, cells := 0, slots := 0, locals := 24 } s m ([.ref (B + a0), .int i1] : List Value).toArray below meth c 0 0 (MQ below (zQi B D aC post) ([.ref (B + a0), .int i1] : List Value).toArray s 0 0 (zAb B)) B D aC 7 258 [(0, .ref (B + a0)), (1, .int i1), (2, .int v2), (3, .int v3), (4, .int v4), (5, .int v5), (6, .int v6)] [] M)
  have h := h (fun v2 v3 v4 v5 v6 M => zAt p l e { frames := 1, cells := 0, slots := 0, locals := 24 } s m ([.ref (B + a0), .int i1] : List Value).toArray below meth c 0 0 (MQ below (zQi B D aC post) ([.ref (B + a0), .int i1] : List Value).toArray s 0 0 (zAb B)) B D aC 7 272 [(0, .ref (B + a0)), (1, .int i1), (2, .int v2), (3, .int v3), (4, .int v4), (5, .int v5), (6, .int v6)] [] M)
  have h := h (fun v2 v4 v5 M => zAt p l e { frames := 1, cells := 0, slots := 0, locals := 24 } s m ([.ref (B + a0), .int i1] : List Value).toArray below meth c 0 0 (MQ below (zQi B D aC post) ([.ref (B + a0), .int i1] : List Value).toArray s 0 0 (zAb B)) B D aC 7 314 [(0, .ref (B + a0)), (1, .int i1), (2, .int v2), (4, .int v4), (5, .int v5)] [] M)
  have h := h (by
    intro v2 v3 v4 M h
    refine a_aload_n fx 0 d_Mo_expand_33 rfl rfl ?_
    refine a_getI fx (T := F_Mo) (j := 58) (hk := hk0) (ht := ht0) (ht2 := by decide) (hc := rfl) (hin := u_in_Mo) (hj := by decide) (hj2 := by decide) (hf := rfl) (hT := rfl) (hw := w_1327) (hd := d_Mo_expand_34) (kk := ?_)
    refine a_aload_n fx 0 d_Mo_expand_37 rfl rfl ?_
    refine a_getI fx (T := F_Mo) (j := 54) (hk := hk0) (ht := ht0) (ht2 := by decide) (hc := rfl) (hin := u_in_Mo) (hj := by decide) (hj2 := by decide) (hf := rfl) (hT := rfl) (hw := w_1323) (hd := d_Mo_expand_38) (kk := ?_)
    refine a_iadd fx d_Mo_expand_41 ?_
    refine a_bipush (v := 8) fx d_Mo_expand_42 rfl ?_
    refine a_aload_n fx 0 d_Mo_expand_44 rfl rfl ?_
    refine a_getI fx (T := F_Mo) (j := 45) (hk := hk0) (ht := ht0) (ht2 := by decide) (hc := rfl) (hin := u_in_Mo) (hj := by decide) (hj2 := by decide) (hf := rfl) (hT := rfl) (hw := w_1314) (hd := d_Mo_expand_45) (kk := ?_)
    refine a_imul fx d_Mo_expand_48 ?_
    refine a_icmp_gt fx 350 d_Mo_expand_49 rfl (fun hc => ?_) (fun hc => ?_)
    · have h := h.1 hc
      refine a_iconst (v := 1) fx d_Mo_expand_350 rfl ?_
      exact a_zret fx hlo hr rfl h d_Mo_expand_351
    · have h := h.2 hc
      refine a_sub [0, 1, 2, 3, 4] rfl ?_
      exact h)
  have h := h (by
    intro v2 v3 v4 M h
    refine a_iload fx 4 d_Mo_expand_52 rfl ?_
    refine a_iconst (v := 1) fx d_Mo_expand_54 rfl ?_
    refine a_aload_n fx 0 d_Mo_expand_55 rfl rfl ?_
    refine a_getI fx (T := F_Mo) (j := 54) (hk := hk0) (ht := ht0) (ht2 := by decide) (hc := rfl) (hin := u_in_Mo) (hj := by decide) (hj2 := by decide) (hf := rfl) (hT := rfl) (hw := w_1323) (hd := d_Mo_expand_56) (kk := ?_)
    refine a_ishl fx d_Mo_expand_59 ?_
    refine a_icmp_le fx 116 d_Mo_expand_60 rfl (fun hc => ?_) (fun hc => ?_)
    · have h := h.1 hc
      refine a_sub [0, 1, 2, 3, 4] rfl ?_
      exact h
    · have h := h.2 hc
      refine a_aload_n fx 0 d_Mo_expand_63 rfl rfl ?_
      refine a_getI fx (T := F_Mo) (j := 54) (hk := hk0) (ht := ht0) (ht2 := by decide) (hc := rfl) (hin := u_in_Mo) (hj := by decide) (hj2 := by decide) (hf := rfl) (hT := rfl) (hw := w_1323) (hd := d_Mo_expand_64) (kk := ?_)
      refine a_iload_n fx 1 d_Mo_expand_67 rfl rfl ?_
      refine a_icmp_ge fx 116 d_Mo_expand_68 rfl (fun hc => ?_) (fun hc => ?_)
      · have h := h.1 hc
        refine a_sub [0, 1, 2, 3, 4] rfl ?_
        exact h
      · have h := h.2 hc
        refine a_aload_n fx 0 d_Mo_expand_71 rfl rfl ?_
        refine a_aload_n fx 0 d_Mo_expand_72 rfl rfl ?_
        refine a_getI fx (T := F_Mo) (j := 58) (hk := hk0) (ht := ht0) (ht2 := by decide) (hc := rfl) (hin := u_in_Mo) (hj := by decide) (hj2 := by decide) (hf := rfl) (hT := rfl) (hw := w_1327) (hd := d_Mo_expand_73) (kk := ?_)
        refine a_bipush (v := 8) fx d_Mo_expand_76 rfl ?_
        refine a_aload_n fx 0 d_Mo_expand_78 rfl rfl ?_
        refine a_getI fx (T := F_Mo) (j := 55) (hk := hk0) (ht := ht0) (ht2 := by decide) (hc := rfl) (hin := u_in_Mo) (hj := by decide) (hj2 := by decide) (hf := rfl) (hT := rfl) (hw := w_1324) (hd := d_Mo_expand_79) (kk := ?_)
        refine a_bipush (v := 8) fx d_Mo_expand_82 rfl ?_
        refine a_irem fx d_Mo_expand_84 (by decide) ?_
        refine a_isub fx d_Mo_expand_85 ?_
        refine a_bipush (v := 8) fx d_Mo_expand_86 rfl ?_
        refine a_irem fx d_Mo_expand_88 (by decide) ?_
        refine a_aload_n fx 0 d_Mo_expand_89 rfl rfl ?_
        refine a_getI fx (T := F_Mo) (j := 54) (hk := hk0) (ht := ht0) (ht2 := by decide) (hc := rfl) (hin := u_in_Mo) (hj := by decide) (hj2 := by decide) (hf := rfl) (hT := rfl) (hw := w_1323) (hd := d_Mo_expand_90) (kk := ?_)
        refine a_imul fx d_Mo_expand_93 ?_
        refine a_iadd fx d_Mo_expand_94 ?_
        refine a_putI fx (T := F_Mo) (ty0 := t_Mo) (j := 58) (hk := hk0) (ht := ht0) (ht2 := by decide) (hc := rfl) (hin := u_in_Mo) (hty := t_Mo_ok) (hnm := n_Mo) (hj := by decide) (hj2 := by decide) (hf := rfl) (hT := rfl) (hfin := rfl) (hn := rfl) (hfit := rfl) (hw := w_1327) (hd := d_Mo_expand_95) (kk := a_mem (fun M5 eM5 => ?_))
        have h := h M5 eM5
        refine a_aload_n fx 0 d_Mo_expand_98 rfl rfl ?_
        refine a_iconst (v := 0) fx d_Mo_expand_99 rfl ?_
        refine a_putI fx (T := F_Mo) (ty0 := t_Mo) (j := 55) (hk := hk0) (ht := ht0) (ht2 := by decide) (hc := rfl) (hin := u_in_Mo) (hty := t_Mo_ok) (hnm := n_Mo) (hj := by decide) (hj2 := by decide) (hf := rfl) (hT := rfl) (hfin := rfl) (hn := rfl) (hfit := rfl) (hw := w_1324) (hd := d_Mo_expand_100) (kk := a_mem (fun M6 eM6 => ?_))
        have h := h M6 eM6
        refine a_aload_n fx 0 d_Mo_expand_103 rfl rfl ?_
        refine a_dup fx d_Mo_expand_104 rfl ?_
        refine a_getI fx (T := F_Mo) (j := 54) (hk := hk0) (ht := ht0) (ht2 := by decide) (hc := rfl) (hin := u_in_Mo) (hj := by decide) (hj2 := by decide) (hf := rfl) (hT := rfl) (hw := w_1323) (hd := d_Mo_expand_105) (kk := ?_)
        refine a_iconst (v := 1) fx d_Mo_expand_108 rfl ?_
        refine a_iadd fx d_Mo_expand_109 ?_
        refine a_putI fx (T := F_Mo) (ty0 := t_Mo) (j := 54) (hk := hk0) (ht := ht0) (ht2 := by decide) (hc := rfl) (hin := u_in_Mo) (hty := t_Mo_ok) (hnm := n_Mo) (hj := by decide) (hj2 := by decide) (hf := rfl) (hT := rfl) (hfin := rfl) (hn := rfl) (hfit := rfl) (hw := w_1323) (hd := d_Mo_expand_110) (kk := a_mem (fun M7 eM7 => ?_))
        have h := h M7 eM7
        refine a_goto fx 52 d_Mo_expand_113 rfl ?_
        refine a_sub [0, 1, 2, 3, 4] rfl ?_
        exact h)
  have h := h (by
    intro v2 v3 v4 M h
    refine a_aload_n fx 0 d_Mo_expand_116 rfl rfl ?_
    refine a_getI fx (T := F_Mo) (j := 58) (hk := hk0) (ht := ht0) (ht2 := by decide) (hc := rfl) (hin := u_in_Mo) (hj := by decide) (hj2 := by decide) (hf := rfl) (hT := rfl) (hw := w_1327) (hd := d_Mo_expand_117) (kk := ?_)
    refine a_aload_n fx 0 d_Mo_expand_120 rfl rfl ?_
    refine a_getI fx (T := F_Mo) (j := 54) (hk := hk0) (ht := ht0) (ht2 := by decide) (hc := rfl) (hin := u_in_Mo) (hj := by decide) (hj2 := by decide) (hf := rfl) (hT := rfl) (hw := w_1323) (hd := d_Mo_expand_121) (kk := ?_)
    refine a_iadd fx d_Mo_expand_124 ?_
    refine a_bipush (v := 8) fx d_Mo_expand_125 rfl ?_
    refine a_aload_n fx 0 d_Mo_expand_127 rfl rfl ?_
    refine a_getI fx (T := F_Mo) (j := 45) (hk := hk0) (ht := ht0) (ht2 := by decide) (hc := rfl) (hin := u_in_Mo) (hj := by decide) (hj2 := by decide) (hf := rfl) (hT := rfl) (hw := w_1314) (hd := d_Mo_expand_128) (kk := ?_)
    refine a_imul fx d_Mo_expand_131 ?_
    refine a_icmp_le fx 137 d_Mo_expand_132 rfl (fun hc => ?_) (fun hc => ?_)
    · have h := h.1 hc
      refine a_aload_n fx 0 d_Mo_expand_137 rfl rfl ?_
      refine a_aload_n fx 0 d_Mo_expand_138 rfl rfl ?_
      refine a_getI fx (T := F_Mo) (j := 54) (hk := hk0) (ht := ht0) (ht2 := by decide) (hc := rfl) (hin := u_in_Mo) (hj := by decide) (hj2 := by decide) (hf := rfl) (hT := rfl) (hw := w_1323) (hd := d_Mo_expand_139) (kk := ?_)
      refine a_calli (rest := []) (a_runV (As := [.int (M.1 a0 54)]) fx cv_Mo_code w_1708 (Met_Mo_code l B D aC aS (hk0 := hk0) (ht0 := ht0) h) hk0 ht0 (by decide) rfl rfl rfl (Nat.le_of_ble_eq_true rfl) rfl rfl ⟨Nat.le_of_ble_eq_true rfl, Nat.le_of_ble_eq_true rfl⟩ d_Mo_expand_142 ⟨Nat.le_of_ble_eq_true rfl, Nat.le_of_ble_eq_true rfl⟩) (fun x9 M8 h => ?_)
      refine a_istore (lv2 := [(5, .int x9), (0, .ref (B + a0)), (1, .int i1), (2, .int v2), (3, .int v3), (4, .int v4)]) fx d_Mo_expand_145 (by decide) rfl ?_
      refine a_aload_n fx 1 d_Mo_expand_147 rfl rfl ?_
      refine a_dup fx d_Mo_expand_148 rfl ?_
      refine a_getI fx (T := F_Mo) (j := 55) (hk := hk0) (ht := ht0) (ht2 := by decide) (hc := rfl) (hin := u_in_Mo) (hj := by decide) (hj2 := by decide) (hf := rfl) (hT := rfl) (hw := w_1324) (hd := d_Mo_expand_149) (kk := ?_)
      refine a_iconst (v := 1) fx d_Mo_expand_152 rfl ?_
      refine a_iadd fx d_Mo_expand_153 ?_
      refine a_putI fx (T := F_Mo) (ty0 := t_Mo) (j := 55) (hk := hk0) (ht := ht0) (ht2 := by decide) (hc := rfl) (hin := u_in_Mo) (hty := t_Mo_ok) (hnm := n_Mo) (hj := by decide) (hj2 := by decide) (hf := rfl) (hT := rfl) (hfin := rfl) (hn := rfl) (hfit := rfl) (hw := w_1324) (hd := d_Mo_expand_154) (kk := a_mem (fun M10 eM10 => ?_))
      have h := h M10 eM10
      refine a_iload fx 0 d_Mo_expand_157 rfl ?_
      refine a_sipush (v := 256) fx d_Mo_expand_159 rfl ?_
      refine a_icmp_ne fx 217 d_Mo_expand_162 rfl (fun hc => ?_) (fun hc => ?_)
      · have h := h.1 hc
        refine a_iload fx 0 d_Mo_expand_217 rfl ?_
        refine a_iload_n fx 3 d_Mo_expand_219 rfl rfl ?_
        refine a_icmp_ne fx 238 d_Mo_expand_220 rfl (fun hc => ?_) (fun hc => ?_)
        · have h := h.1 hc
          refine a_iconst (v := 0) fx d_Mo_expand_238 rfl ?_
          refine a_sub [1, 2, 3, 4, 5, 0] rfl ?_
          exact h
        · have h := h.2 hc
          refine a_iload_n fx 4 d_Mo_expand_223 rfl rfl ?_
          refine a_if_lt fx 238 d_Mo_expand_224 rfl (fun hc => ?_) (fun hc => ?_)
          · have h := h.1 hc
            refine a_iconst (v := 0) fx d_Mo_expand_238 rfl ?_
            refine a_sub [1, 2, 3, 4, 5, 0] rfl ?_
            exact h
          · have h := h.2 hc
            refine a_iload_n fx 3 d_Mo_expand_227 rfl rfl ?_
            refine a_iconst (v := 1) fx d_Mo_expand_228 rfl ?_
            refine a_iload_n fx 2 d_Mo_expand_229 rfl rfl ?_
            refine a_ishl fx d_Mo_expand_230 ?_
            refine a_icmp_ge fx 238 d_Mo_expand_231 rfl (fun hc => ?_) (fun hc => ?_)
            · have h := h.1 hc
              refine a_iconst (v := 0) fx d_Mo_expand_238 rfl ?_
              refine a_sub [1, 2, 3, 4, 5, 0] rfl ?_
              exact h
            · have h := h.2 hc
              refine a_iconst (v := 1) fx d_Mo_expand_234 rfl ?_
              refine a_goto fx 239 d_Mo_expand_235 rfl ?_
              refine a_sub [1, 2, 3, 4, 5, 0] rfl ?_
              exact h
      · have h := h.2 hc
        refine a_aload_n fx 1 d_Mo_expand_165 rfl rfl ?_
        refine a_aload_n fx 1 d_Mo_expand_166 rfl rfl ?_
        refine a_getI fx (T := F_Mo) (j := 58) (hk := hk0) (ht := ht0) (ht2 := by decide) (hc := rfl) (hin := u_in_Mo) (hj := by decide) (hj2 := by decide) (hf := rfl) (hT := rfl) (hw := w_1327) (hd := d_Mo_expand_167) (kk := ?_)
        refine a_bipush (v := 8) fx d_Mo_expand_170 rfl ?_
        refine a_aload_n fx 1 d_Mo_expand_172 rfl rfl ?_
        refine a_getI fx (T := F_Mo) (j := 55) (hk := hk0) (ht := ht0) (ht2 := by decide) (hc := rfl) (hin := u_in_Mo) (hj := by decide) (hj2 := by decide) (hf := rfl) (hT := rfl) (hw := w_1324) (hd := d_Mo_expand_173) (kk := ?_)
        refine a_bipush (v := 8) fx d_Mo_expand_176 rfl ?_
        refine a_irem fx d_Mo_expand_178 (by decide) ?_
        refine a_isub fx d_Mo_expand_179 ?_
        refine a_bipush (v := 8) fx d_Mo_expand_180 rfl ?_
        refine a_irem fx d_Mo_expand_182 (by decide) ?_
        refine a_aload_n fx 1 d_Mo_expand_183 rfl rfl ?_
        refine a_getI fx (T := F_Mo) (j := 54) (hk := hk0) (ht := ht0) (ht2 := by decide) (hc := rfl) (hin := u_in_Mo) (hj := by decide) (hj2 := by decide) (hf := rfl) (hT := rfl) (hw := w_1323) (hd := d_Mo_expand_184) (kk := ?_)
        refine a_imul fx d_Mo_expand_187 ?_
        refine a_iadd fx d_Mo_expand_188 ?_
        refine a_putI fx (T := F_Mo) (ty0 := t_Mo) (j := 58) (hk := hk0) (ht := ht0) (ht2 := by decide) (hc := rfl) (hin := u_in_Mo) (hty := t_Mo_ok) (hnm := n_Mo) (hj := by decide) (hj2 := by decide) (hf := rfl) (hT := rfl) (hfin := rfl) (hn := rfl) (hfit := rfl) (hw := w_1327) (hd := d_Mo_expand_189) (kk := a_mem (fun M11 eM11 => ?_))
        have h := h M11 eM11
        refine a_aload_n fx 1 d_Mo_expand_192 rfl rfl ?_
        refine a_iconst (v := 0) fx d_Mo_expand_193 rfl ?_
        refine a_putI fx (T := F_Mo) (ty0 := t_Mo) (j := 55) (hk := hk0) (ht := ht0) (ht2 := by decide) (hc := rfl) (hin := u_in_Mo) (hty := t_Mo_ok) (hnm := n_Mo) (hj := by decide) (hj2 := by decide) (hf := rfl) (hT := rfl) (hfin := rfl) (hn := rfl) (hfit := rfl) (hw := w_1324) (hd := d_Mo_expand_194) (kk := a_mem (fun M12 eM12 => ?_))
        have h := h M12 eM12
        refine a_aload_n fx 1 d_Mo_expand_197 rfl rfl ?_
        refine a_bipush (v := 9) fx d_Mo_expand_198 rfl ?_
        refine a_putI fx (T := F_Mo) (ty0 := t_Mo) (j := 54) (hk := hk0) (ht := ht0) (ht2 := by decide) (hc := rfl) (hin := u_in_Mo) (hty := t_Mo_ok) (hnm := n_Mo) (hj := by decide) (hj2 := by decide) (hf := rfl) (hT := rfl) (hfin := rfl) (hn := rfl) (hfit := rfl) (hw := w_1323) (hd := d_Mo_expand_200) (kk := a_mem (fun M13 eM13 => ?_))
        have h := h M13 eM13
        refine a_sipush (v := 257) fx d_Mo_expand_203 rfl ?_
        refine a_istore_n (lv2 := [(2, .int 257), (5, .int x9), (0, .ref (B + a0)), (1, .int i1), (3, .int v3), (4, .int v4)]) fx d_Mo_expand_206 rfl (by decide) rfl ?_
        refine a_sipush (v := 257) fx d_Mo_expand_207 rfl ?_
        refine a_istore (lv2 := [(4, .int 257), (2, .int 257), (5, .int x9), (0, .ref (B + a0)), (1, .int i1), (3, .int v3)]) fx d_Mo_expand_210 (by decide) rfl ?_
        refine a_iconst (v := (-1)) fx d_Mo_expand_212 rfl ?_
        refine a_istore_n (lv2 := [(3, .int (-1)), (4, .int 257), (2, .int 257), (5, .int x9), (0, .ref (B + a0)), (1, .int i1)]) fx d_Mo_expand_213 rfl (by decide) rfl ?_
        refine a_goto fx 347 d_Mo_expand_214 rfl ?_
        refine a_goto fx 33 d_Mo_expand_347 rfl ?_
        refine a_sub [4, 5, 2, 0, 1] rfl ?_
        exact h
    · have h := h.2 hc
      refine a_iconst (v := 1) fx d_Mo_expand_135 rfl ?_
      exact a_zret fx hlo hr rfl h d_Mo_expand_136)
  have h := h (by
    intro v2 v3 v4 v5 w0 M h
    refine a_istore (lv2 := [(6, .int w0), (0, .ref (B + a0)), (1, .int i1), (2, .int v2), (3, .int v3), (4, .int v4), (5, .int v5)]) fx d_Mo_expand_239 (by decide) rfl ?_
    refine a_iload fx 6 d_Mo_expand_241 rfl ?_
    refine a_iload_n fx 3 d_Mo_expand_243 rfl rfl ?_
    refine a_icmp_gt fx 270 d_Mo_expand_244 rfl (fun hc => ?_) (fun hc => ?_)
    · have h := h.1 hc
      refine a_iconst (v := 0) fx d_Mo_expand_270 rfl ?_
      exact a_zret fx hlo hr rfl h d_Mo_expand_271
    · have h := h.2 hc
      refine a_iload fx 6 d_Mo_expand_247 rfl ?_
      refine a_iload_n fx 3 d_Mo_expand_249 rfl rfl ?_
      refine a_icmp_ne fx 258 d_Mo_expand_250 rfl (fun hc => ?_) (fun hc => ?_)
      · have h := h.1 hc
        refine a_sub [1, 2, 3, 4, 5, 6, 0] rfl ?_
        exact h
      · have h := h.2 hc
        refine a_iload fx 0 d_Mo_expand_253 rfl ?_
        refine a_if_eq fx 270 d_Mo_expand_255 rfl (fun hc => ?_) (fun hc => ?_)
        · have h := h.1 hc
          refine a_iconst (v := 0) fx d_Mo_expand_270 rfl ?_
          exact a_zret fx hlo hr rfl h d_Mo_expand_271
        · have h := h.2 hc
          refine a_sub [1, 2, 3, 4, 5, 6, 0] rfl ?_
          exact h)
  have h := h (by
    intro v2 v3 v4 v5 v6 M h
    refine a_iload fx 5 d_Mo_expand_258 rfl ?_
    refine a_sipush (v := 257) fx d_Mo_expand_260 rfl ?_
    refine a_icmp_lt fx 272 d_Mo_expand_263 rfl (fun hc => ?_) (fun hc => ?_)
    · have h := h.1 hc
      refine a_sub [0, 1, 2, 3, 4, 5, 6] rfl ?_
      exact h
    · have h := h.2 hc
      refine a_iload_n fx 3 d_Mo_expand_266 rfl rfl ?_
      refine a_if_ge fx 272 d_Mo_expand_267 rfl (fun hc => ?_) (fun hc => ?_)
      · have h := h.1 hc
        refine a_sub [0, 1, 2, 3, 4, 5, 6] rfl ?_
        exact h
      · have h := h.2 hc
        refine a_iconst (v := 0) fx d_Mo_expand_270 rfl ?_
        exact a_zret fx hlo hr rfl h d_Mo_expand_271)
  have h := h (by
    intro v2 v3 v4 v5 v6 M h
    refine a_iload_n fx 3 d_Mo_expand_272 rfl rfl ?_
    refine a_if_lt fx 314 d_Mo_expand_273 rfl (fun hc => ?_) (fun hc => ?_)
    · have h := h.1 hc
      refine a_sub [0, 1, 2, 4, 5] rfl ?_
      exact h
    · have h := h.2 hc
      refine a_iload_n fx 2 d_Mo_expand_276 rfl rfl ?_
      refine a_iconst (v := 1) fx d_Mo_expand_277 rfl ?_
      refine a_iload_n fx 1 d_Mo_expand_278 rfl rfl ?_
      refine a_ishl fx d_Mo_expand_279 ?_
      refine a_icmp_ge fx 314 d_Mo_expand_280 rfl (fun hc => ?_) (fun hc => ?_)
      · have h := h.1 hc
        refine a_sub [0, 1, 2, 4, 5] rfl ?_
        exact h
      · have h := h.2 hc
        refine a_aload_n fx 0 d_Mo_expand_283 rfl rfl ?_
        refine a_getS fx (T := F_Mo) (j := 52) (hk := hk0) (ht := ht0) (ht2 := by decide) (hc := rfl) (hin := u_in_Mo) (hj := by decide) (hj2 := by decide) (hf := rfl) (n9 := 36) (hfo := rfl) (hT := rfl) (hw := w_1321) (hd := d_Mo_expand_284) (kk := ?_)
        refine a_iload_n fx 2 d_Mo_expand_287 rfl rfl ?_
        refine a_iload_n fx 3 d_Mo_expand_288 rfl rfl ?_
        obtain ⟨hin, h⟩ := h
        refine a_iast fx (lo_9_52 hk0 ht0).1 (lo_9_52 hk0 ht0).2 hin d_Mo_expand_289 (a_mem (fun M14 eM14 => ?_))
        have h := h M14 eM14
        refine a_aload_n fx 0 d_Mo_expand_290 rfl rfl ?_
        refine a_getS fx (T := F_Mo) (j := 51) (hk := hk0) (ht := ht0) (ht2 := by decide) (hc := rfl) (hin := u_in_Mo) (hj := by decide) (hj2 := by decide) (hf := rfl) (n9 := 35) (hfo := rfl) (hT := rfl) (hw := w_1320) (hd := d_Mo_expand_291) (kk := ?_)
        refine a_iload_n fx 2 d_Mo_expand_294 rfl rfl ?_
        refine a_aload_n fx 0 d_Mo_expand_295 rfl rfl ?_
        refine a_iload fx 6 d_Mo_expand_296 rfl ?_
        refine a_if_eq fx 305 d_Mo_expand_298 rfl (fun hc => ?_) (fun hc => ?_)
        · have h := h.1 hc
          refine a_iload fx 5 d_Mo_expand_305 rfl ?_
          refine a_calli (rest := [.int v2, .ref (B + (a0 + 35))]) (a_runV (As := [.int v5]) fx cv_Mo_firstByte w_1712 (Met_Mo_firstByte l B D aC aS (hk0 := hk0) (ht0 := ht0) h) hk0 ht0 (by decide) rfl rfl rfl (Nat.le_of_ble_eq_true rfl) rfl rfl ⟨Nat.le_of_ble_eq_true rfl, Nat.le_of_ble_eq_true rfl⟩ d_Mo_expand_307 ⟨Nat.le_of_ble_eq_true rfl, Nat.le_of_ble_eq_true rfl⟩) (fun x16 M15 h => ?_)
          obtain ⟨hin, h⟩ := h
          refine a_iast fx (lo_9_51 hk0 ht0).1 (lo_9_51 hk0 ht0).2 hin d_Mo_expand_310 (a_mem (fun M17 eM17 => ?_))
          have h := h M17 eM17
          obtain ⟨x18, ex18⟩ : ∃ z : Int32, z = v2 + 1 := ⟨_, rfl⟩
          have h := h x18 ex18
          refine a_iinc (lv2 := [(2, .int x18), (0, .ref (B + a0)), (1, .int i1), (3, .int v3), (4, .int v4), (5, .int v5), (6, .int v6)]) fx 2 d_Mo_expand_311 rfl ex18.symm (by decide) rfl ?_
          refine a_sub [1, 2, 0, 4, 5] rfl ?_
          exact h
        · have h := h.2 hc
          refine a_iload_n fx 3 d_Mo_expand_301 rfl rfl ?_
          refine a_goto fx 307 d_Mo_expand_302 rfl ?_
          refine a_calli (rest := [.int v2, .ref (B + (a0 + 35))]) (a_runV (As := [.int v3]) fx cv_Mo_firstByte w_1712 (Met_Mo_firstByte l B D aC aS (hk0 := hk0) (ht0 := ht0) h) hk0 ht0 (by decide) rfl rfl rfl (Nat.le_of_ble_eq_true rfl) rfl rfl ⟨Nat.le_of_ble_eq_true rfl, Nat.le_of_ble_eq_true rfl⟩ d_Mo_expand_307 ⟨Nat.le_of_ble_eq_true rfl, Nat.le_of_ble_eq_true rfl⟩) (fun x20 M19 h => ?_)
          obtain ⟨hin, h⟩ := h
          refine a_iast fx (lo_9_51 hk0 ht0).1 (lo_9_51 hk0 ht0).2 hin d_Mo_expand_310 (a_mem (fun M21 eM21 => ?_))
          have h := h M21 eM21
          obtain ⟨x22, ex22⟩ : ∃ z : Int32, z = v2 + 1 := ⟨_, rfl⟩
          have h := h x22 ex22
          refine a_iinc (lv2 := [(2, .int x22), (0, .ref (B + a0)), (1, .int i1), (3, .int v3), (4, .int v4), (5, .int v5), (6, .int v6)]) fx 2 d_Mo_expand_311 rfl ex22.symm (by decide) rfl ?_
          refine a_sub [1, 2, 0, 4, 5] rfl ?_
          exact h)
  have h := h (by
    intro v2 v4 v5 M h
    refine a_aload_n fx 0 d_Mo_expand_314 rfl rfl ?_
    refine a_iload fx 4 d_Mo_expand_315 rfl ?_
    refine a_calli (rest := []) (a_runV (As := [.int v5]) fx cv_Mo_layString w_1716 (Met_Mo_layString l B D aC aS (hk0 := hk0) (ht0 := ht0) h) hk0 ht0 (by decide) rfl rfl rfl (Nat.le_of_ble_eq_true rfl) rfl rfl ⟨Nat.le_of_ble_eq_true rfl, Nat.le_of_ble_eq_true rfl⟩ d_Mo_expand_317 ⟨Nat.le_of_ble_eq_true rfl, Nat.le_of_ble_eq_true rfl⟩) (fun x24 M23 h => ?_)
    refine a_if_ne fx 325 d_Mo_expand_320 rfl (fun hc => ?_) (fun hc => ?_)
    · have h := h.1 hc
      refine a_iload fx 4 d_Mo_expand_325 rfl ?_
      refine a_istore_n (lv2 := [(3, .int v5), (0, .ref (B + a0)), (1, .int i1), (2, .int v2), (4, .int v4), (5, .int v5)]) fx d_Mo_expand_327 rfl (by decide) rfl ?_
      refine a_iload fx 4 d_Mo_expand_328 rfl ?_
      refine a_iconst (v := 1) fx d_Mo_expand_330 rfl ?_
      refine a_iload_n fx 2 d_Mo_expand_331 rfl rfl ?_
      refine a_ishl fx d_Mo_expand_332 ?_
      refine a_icmp_ge fx 343 d_Mo_expand_333 rfl (fun hc => ?_) (fun hc => ?_)
      · have h := h.1 hc
        refine a_iload fx 4 d_Mo_expand_343 rfl ?_
        refine a_istore (lv2 := [(4, .int v4), (3, .int v5), (0, .ref (B + a0)), (1, .int i1), (2, .int v2), (5, .int v5)]) fx d_Mo_expand_345 (by decide) rfl ?_
        refine a_goto fx 33 d_Mo_expand_347 rfl ?_
        refine a_sub [2, 3, 4, 1, 0] rfl ?_
        exact h
      · have h := h.2 hc
        refine a_iload fx 4 d_Mo_expand_336 rfl ?_
        refine a_iconst (v := 1) fx d_Mo_expand_338 rfl ?_
        refine a_iadd fx d_Mo_expand_339 ?_
        refine a_goto fx 345 d_Mo_expand_340 rfl ?_
        refine a_topi (fun x25 ex25 => ?_)
        have h := h x25 ex25
        refine a_istore (lv2 := [(4, .int x25), (3, .int v5), (0, .ref (B + a0)), (1, .int i1), (2, .int v2), (5, .int v5)]) fx d_Mo_expand_345 (by decide) rfl ?_
        refine a_goto fx 33 d_Mo_expand_347 rfl ?_
        refine a_sub [2, 3, 4, 1, 0] rfl ?_
        exact h
    · have h := h.2 hc
      refine a_iconst (v := 0) fx d_Mo_expand_323 rfl ?_
      exact a_zret fx hlo hr rfl h d_Mo_expand_324)
  refine a_aload_n fx 0 d_Mo_expand_0 rfl rfl ?_
  refine a_iconst (v := 0) fx d_Mo_expand_1 rfl ?_
  refine a_putI fx (T := F_Mo) (ty0 := t_Mo) (j := 47) (hk := hk0) (ht := ht0) (ht2 := by decide) (hc := rfl) (hin := u_in_Mo) (hty := t_Mo_ok) (hnm := n_Mo) (hj := by decide) (hj2 := by decide) (hf := rfl) (hT := rfl) (hfin := rfl) (hn := rfl) (hfit := rfl) (hw := w_1316) (hd := d_Mo_expand_2) (kk := a_mem (fun M1 eM1 => ?_))
  have h := h M1 eM1
  refine a_aload_n fx 0 d_Mo_expand_5 rfl rfl ?_
  refine a_bipush (v := 24) fx d_Mo_expand_6 rfl ?_
  refine a_putI fx (T := F_Mo) (ty0 := t_Mo) (j := 58) (hk := hk0) (ht := ht0) (ht2 := by decide) (hc := rfl) (hin := u_in_Mo) (hty := t_Mo_ok) (hnm := n_Mo) (hj := by decide) (hj2 := by decide) (hf := rfl) (hT := rfl) (hfin := rfl) (hn := rfl) (hfit := rfl) (hw := w_1327) (hd := d_Mo_expand_8) (kk := a_mem (fun M2 eM2 => ?_))
  have h := h M2 eM2
  refine a_aload_n fx 0 d_Mo_expand_11 rfl rfl ?_
  refine a_bipush (v := 9) fx d_Mo_expand_12 rfl ?_
  refine a_putI fx (T := F_Mo) (ty0 := t_Mo) (j := 54) (hk := hk0) (ht := ht0) (ht2 := by decide) (hc := rfl) (hin := u_in_Mo) (hty := t_Mo_ok) (hnm := n_Mo) (hj := by decide) (hj2 := by decide) (hf := rfl) (hT := rfl) (hfin := rfl) (hn := rfl) (hfit := rfl) (hw := w_1323) (hd := d_Mo_expand_14) (kk := a_mem (fun M3 eM3 => ?_))
  have h := h M3 eM3
  refine a_aload_n fx 0 d_Mo_expand_17 rfl rfl ?_
  refine a_iconst (v := 0) fx d_Mo_expand_18 rfl ?_
  refine a_putI fx (T := F_Mo) (ty0 := t_Mo) (j := 55) (hk := hk0) (ht := ht0) (ht2 := by decide) (hc := rfl) (hin := u_in_Mo) (hty := t_Mo_ok) (hnm := n_Mo) (hj := by decide) (hj2 := by decide) (hf := rfl) (hT := rfl) (hfin := rfl) (hn := rfl) (hfit := rfl) (hw := w_1324) (hd := d_Mo_expand_19) (kk := a_mem (fun M4 eM4 => ?_))
  have h := h M4 eM4
  refine a_sipush (v := 257) fx d_Mo_expand_22 rfl ?_
  refine a_istore_n (lv2 := [(2, .int 257), (0, .ref (B + a0)), (1, .int i1)]) fx d_Mo_expand_25 rfl (by decide) rfl ?_
  refine a_iconst (v := (-1)) fx d_Mo_expand_26 rfl ?_
  refine a_istore_n (lv2 := [(3, .int (-1)), (2, .int 257), (0, .ref (B + a0)), (1, .int i1)]) fx d_Mo_expand_27 rfl (by decide) rfl ?_
  refine a_sipush (v := 257) fx d_Mo_expand_28 rfl ?_
  refine a_istore (lv2 := [(4, .int 257), (3, .int (-1)), (2, .int 257), (0, .ref (B + a0)), (1, .int i1)]) fx d_Mo_expand_31 (by decide) rfl ?_
  refine a_sub [3, 4, 2, 1, 0] rfl ?_
  exact h
set_option maxRecDepth 100000 in
set_option maxHeartbeats 4000000 in
theorem Met_Mo_lay (l : Launch) (B : Nat) (D : va_G) (aC : Nat → ClassId) (aS : Nat → Nat) {a0 : Nat} {i1 : Int32} {M : zM} {post : zM → Prop} (hk0 : a0 < N0) (ht0 : tg a0 = 9) (h : Wp_Mo_lay a0 i1 M post) : Met l y_Mo_lay (wo y_Mo_lay b_Mo_lay 2 none) { frames := 0, cells := 0, slots := 0, locals := 0 } (va_Pc [.ref (B + a0), .int i1] (zWl B D aC aS M)) (zQv B D aC post) 0 0 (zAb B) := by
  refine z_met (own := "MailChainModel") (lv0 := [(0, .ref (B + a0)), (1, .int i1)]) (by decide) rfl (Nat.le_of_ble_eq_true rfl) rfl ?_
  intro p e s m below meth c fx hr hlo
  delta Wp_Mo_lay at h
  refine a_aload_n fx 0 d_Mo_lay_0 rfl rfl ?_
  refine a_getS fx (T := F_Mo) (j := 30) (hk := hk0) (ht := ht0) (ht2 := by decide) (hc := rfl) (hin := u_in_Mo) (hj := by decide) (hj2 := by decide) (hf := rfl) (n9 := 24) (hfo := rfl) (hT := rfl) (hw := w_1299) (hd := d_Mo_lay_1) (kk := ?_)
  refine a_aload_n fx 0 d_Mo_lay_4 rfl rfl ?_
  refine a_getI fx (T := F_Mo) (j := 29) (hk := hk0) (ht := ht0) (ht2 := by decide) (hc := rfl) (hin := u_in_Mo) (hj := by decide) (hj2 := by decide) (hf := rfl) (hT := rfl) (hw := w_1298) (hd := d_Mo_lay_5) (kk := ?_)
  refine a_iload_n fx 1 d_Mo_lay_8 rfl rfl ?_
  refine a_i2b fx d_Mo_lay_9 ?_
  obtain ⟨hin, h⟩ := h
  refine a_bast fx (lo_9_30 hk0 ht0).1 (lo_9_30 hk0 ht0).2 hin d_Mo_lay_10 (a_mem (fun M1 eM1 => ?_))
  have h := h M1 eM1
  refine a_aload_n fx 0 d_Mo_lay_11 rfl rfl ?_
  refine a_dup fx d_Mo_lay_12 rfl ?_
  refine a_getI fx (T := F_Mo) (j := 29) (hk := hk0) (ht := ht0) (ht2 := by decide) (hc := rfl) (hin := u_in_Mo) (hj := by decide) (hj2 := by decide) (hf := rfl) (hT := rfl) (hw := w_1298) (hd := d_Mo_lay_13) (kk := ?_)
  refine a_iconst (v := 1) fx d_Mo_lay_16 rfl ?_
  refine a_iadd fx d_Mo_lay_17 ?_
  refine a_putI fx (T := F_Mo) (ty0 := t_Mo) (j := 29) (hk := hk0) (ht := ht0) (ht2 := by decide) (hc := rfl) (hin := u_in_Mo) (hty := t_Mo_ok) (hnm := n_Mo) (hj := by decide) (hj2 := by decide) (hf := rfl) (hT := rfl) (hfin := rfl) (hn := rfl) (hfit := rfl) (hw := w_1298) (hd := d_Mo_lay_18) (kk := a_mem (fun M2 eM2 => ?_))
  have h := h M2 eM2
  exact a_vret fx hlo hr h d_Mo_lay_21
set_option maxRecDepth 100000 in
set_option maxHeartbeats 4000000 in
theorem Met_Mo_six (l : Launch) (B : Nat) (D : va_G) (aC : Nat → ClassId) (aS : Nat → Nat) {a0 : Nat} {i1 : Int32} {M : zM} {post : zM → Prop} (hk0 : a0 < N0) (ht0 : tg a0 = 9) (h : Wp_Mo_six a0 i1 M post) : Met l y_Mo_six (wo y_Mo_six b_Mo_six 2 none) { frames := 1, cells := 0, slots := 0, locals := 21 } (va_Pc [.ref (B + a0), .int i1] (zWl B D aC aS M)) (zQv B D aC post) 0 0 (zAb B) := by
  refine z_met (own := "MailChainModel") (lv0 := [(0, .ref (B + a0)), (1, .int i1)]) (by decide) rfl (Nat.le_of_ble_eq_true rfl) rfl ?_
  intro p e s m below meth c fx hr hlo
  delta Wp_Mo_six at h
  refine a_aload_n fx 0 d_Mo_six_0 rfl rfl ?_
  refine a_iload_n fx 1 d_Mo_six_1 rfl rfl ?_
  refine a_if_ne fx 10 d_Mo_six_2 rfl (fun hc => ?_) (fun hc => ?_)
  · have h := h.1 hc
    refine a_bipush (v := 32) fx d_Mo_six_10 rfl ?_
    refine a_iload_n fx 1 d_Mo_six_12 rfl rfl ?_
    refine a_iadd fx d_Mo_six_13 ?_
    refine a_callv (rest := []) (a_runV (As := [.int (32 + i1)]) fx cv_Mo_lay w_1615 (Met_Mo_lay l B D aC aS (hk0 := hk0) (ht0 := ht0) h) hk0 ht0 (by decide) rfl rfl rfl (Nat.le_of_ble_eq_true rfl) rfl rfl ⟨Nat.le_of_ble_eq_true rfl, Nat.le_of_ble_eq_true rfl⟩ d_Mo_six_14 ⟨Nat.le_of_ble_eq_true rfl, Nat.le_of_ble_eq_true rfl⟩) (fun M1 h => ?_)
    exact a_vret fx hlo hr h d_Mo_six_17
  · have h := h.2 hc
    refine a_bipush (v := 96) fx d_Mo_six_5 rfl ?_
    refine a_goto fx 14 d_Mo_six_7 rfl ?_
    refine a_callv (rest := []) (a_runV (As := [.int 96]) fx cv_Mo_lay w_1615 (Met_Mo_lay l B D aC aS (hk0 := hk0) (ht0 := ht0) h) hk0 ht0 (by decide) rfl rfl rfl (Nat.le_of_ble_eq_true rfl) rfl rfl ⟨Nat.le_of_ble_eq_true rfl, Nat.le_of_ble_eq_true rfl⟩ d_Mo_six_14 ⟨Nat.le_of_ble_eq_true rfl, Nat.le_of_ble_eq_true rfl⟩) (fun M2 h => ?_)
    exact a_vret fx hlo hr h d_Mo_six_17
set_option maxRecDepth 100000 in
set_option maxHeartbeats 4000000 in
theorem Met_Mo_spellRow (l : Launch) (B : Nat) (D : va_G) (aC : Nat → ClassId) (aS : Nat → Nat) {a0 : Nat} {a1 : Nat} {i2 : Int32} {M : zM} {post : zM → Prop} (hk0 : a0 < N0) (ht0 : tg a0 = 9) (hk1 : a1 < N0) (ht1 : tg a1 = 20) (h : Wp_Mo_spellRow a0 a1 i2 M post) : Met l y_Mo_spellRow (wo y_Mo_spellRow b_Mo_spellRow 9 none) { frames := 2, cells := 0, slots := 0, locals := 42 } (va_Pc [.ref (B + a0), .ref (B + a1), .int i2] (zWl B D aC aS M)) (zQv B D aC post) 0 0 (zAb B) := by
  refine z_met (own := "MailChainModel") (lv0 := [(0, .ref (B + a0)), (1, .ref (B + a1)), (2, .int i2)]) (by decide) rfl (Nat.le_of_ble_eq_true rfl) rfl ?_
  intro p e s m below meth c fx hr hlo
  delta Wp_Mo_spellRow at h
  have h := h (fun v3 M => zAt p l e { frames := 2, cells := 0, slots := 0, locals := 42 } s m ([.ref (B + a0), .ref (B + a1), .int i2] : List Value).toArray below meth c 0 0 (MQ below (zQv B D aC post) ([.ref (B + a0), .ref (B + a1), .int i2] : List Value).toArray s 0 0 (zAb B)) B D aC 9 7 [(0, .ref (B + a0)), (1, .ref (B + a1)), (2, .int i2), (3, .int v3)] [] M)
  have h := h (fun v3 M => zAt p l e { frames := 2, cells := 0, slots := 0, locals := 42 } s m ([.ref (B + a0), .ref (B + a1), .int i2] : List Value).toArray below meth c 0 0 (MQ below (zQv B D aC post) ([.ref (B + a0), .ref (B + a1), .int i2] : List Value).toArray s 0 0 (zAb B)) B D aC 9 31 [(0, .ref (B + a0)), (1, .ref (B + a1)), (2, .int i2), (3, .int v3)] [] M)
  have h := h (fun v3 w0 M => zAt p l e { frames := 2, cells := 0, slots := 0, locals := 42 } s m ([.ref (B + a0), .ref (B + a1), .int i2] : List Value).toArray below meth c 0 0 (MQ below (zQv B D aC post) ([.ref (B + a0), .ref (B + a1), .int i2] : List Value).toArray s 0 0 (zAb B)) B D aC 9 52 [(0, .ref (B + a0)), (1, .ref (B + a1)), (2, .int i2), (3, .int v3)] [.int w0] M)
  have h := h (fun v3 v4 v5 M => zAt p l e { frames := 2, cells := 0, slots := 0, locals := 42 } s m ([.ref (B + a0), .ref (B + a1), .int i2] : List Value).toArray below meth c 0 0 (MQ below (zQv B D aC post) ([.ref (B + a0), .ref (B + a1), .int i2] : List Value).toArray s 0 0 (zAb B)) B D aC 9 66 [(0, .ref (B + a0)), (1, .ref (B + a1)), (2, .int i2), (3, .int v3), (4, .int v4), (5, .int v5)] [] M)
  have h := h (fun v3 v4 v5 v6 w0 M => zAt p l e { frames := 2, cells := 0, slots := 0, locals := 42 } s m ([.ref (B + a0), .ref (B + a1), .int i2] : List Value).toArray below meth c 0 0 (MQ below (zQv B D aC post) ([.ref (B + a0), .ref (B + a1), .int i2] : List Value).toArray s 0 0 (zAb B)) B D aC 9 110 [(0, .ref (B + a0)), (1, .ref (B + a1)), (2, .int i2), (3, .int v3), (4, .int v4), (5, .int v5), (6, .int v6)] [.int w0] M)
  have h := h (fun v3 v4 v5 v6 v7 w0 M => zAt p l e { frames := 2, cells := 0, slots := 0, locals := 42 } s m ([.ref (B + a0), .ref (B + a1), .int i2] : List Value).toArray below meth c 0 0 (MQ below (zQv B D aC post) ([.ref (B + a0), .ref (B + a1), .int i2] : List Value).toArray s 0 0 (zAb B)) B D aC 9 137 [(0, .ref (B + a0)), (1, .ref (B + a1)), (2, .int i2), (3, .int v3), (4, .int v4), (5, .int v5), (6, .int v6), (7, .int v7)] [.int w0] M)
  have h := h (by
    intro v3 M h
    refine a_iload_n fx 3 d_Mo_spellRow_7 rfl rfl ?_
    refine a_bipush (v := 15) fx d_Mo_spellRow_8 rfl ?_
    refine a_icmp_ge fx 29 d_Mo_spellRow_10 rfl (fun hc => ?_) (fun hc => ?_)
    · have h := h.1 hc
      refine a_iconst (v := 0) fx d_Mo_spellRow_29 rfl ?_
      refine a_istore_n (lv2 := [(3, .int 0), (0, .ref (B + a0)), (1, .ref (B + a1)), (2, .int i2)]) fx d_Mo_spellRow_30 rfl (by decide) rfl ?_
      refine a_sub [1, 2, 3, 0] rfl ?_
      exact h
    · have h := h.2 hc
      refine a_aload_n fx 0 d_Mo_spellRow_13 rfl rfl ?_
      refine a_aload_n fx 0 d_Mo_spellRow_14 rfl rfl ?_
      refine a_getS fx (T := F_Mo) (j := 1) (hk := hk0) (ht := ht0) (ht2 := by decide) (hc := rfl) (hin := u_in_Mo) (hj := by decide) (hj2 := by decide) (hf := rfl) (n9 := 2) (hfo := rfl) (hT := rfl) (hw := w_1270) (hd := d_Mo_spellRow_15) (kk := ?_)
      refine a_iload_n fx 3 d_Mo_spellRow_18 rfl rfl ?_
      obtain ⟨hin, h⟩ := h
      refine a_bald fx (lo_9_1 hk0 ht0).1 (lo_9_1 hk0 ht0).2 hin d_Mo_spellRow_19 ?_
      refine a_callv (rest := []) (a_runV (As := [.int (M.1 (a0 + 2) (v3).toNatClampNeg)]) fx cv_Mo_lay w_1615 (Met_Mo_lay l B D aC aS (hk0 := hk0) (ht0 := ht0) h) hk0 ht0 (by decide) rfl rfl rfl (Nat.le_of_ble_eq_true rfl) rfl rfl ⟨Nat.le_of_ble_eq_true rfl, Nat.le_of_ble_eq_true rfl⟩ d_Mo_spellRow_20 ⟨Nat.le_of_ble_eq_true rfl, Nat.le_of_ble_eq_true rfl⟩) (fun M2 h => ?_)
      obtain ⟨x3, ex3⟩ : ∃ z : Int32, z = v3 + 1 := ⟨_, rfl⟩
      have h := h x3 ex3
      refine a_iinc (lv2 := [(3, .int x3), (0, .ref (B + a0)), (1, .ref (B + a1)), (2, .int i2)]) fx 3 d_Mo_spellRow_23 rfl ex3.symm (by decide) rfl ?_
      refine a_goto fx 7 d_Mo_spellRow_26 rfl ?_
      refine a_sub [1, 2, 3, 0] rfl ?_
      exact h)
  have h := h (by
    intro v3 M h
    refine a_iload_n fx 3 d_Mo_spellRow_31 rfl rfl ?_
    refine a_iload_n fx 2 d_Mo_spellRow_32 rfl rfl ?_
    refine a_icmp_ge fx 206 d_Mo_spellRow_33 rfl (fun hc => ?_) (fun hc => ?_)
    · have h := h.1 hc
      refine a_aload_n fx 0 d_Mo_spellRow_206 rfl rfl ?_
      refine a_bipush (v := 96) fx d_Mo_spellRow_207 rfl ?_
      refine a_callv (rest := []) (a_runV (As := [.int 96]) fx cv_Mo_lay w_1615 (Met_Mo_lay l B D aC aS (hk0 := hk0) (ht0 := ht0) h) hk0 ht0 (by decide) rfl rfl rfl (Nat.le_of_ble_eq_true rfl) rfl rfl ⟨Nat.le_of_ble_eq_true rfl, Nat.le_of_ble_eq_true rfl⟩ d_Mo_spellRow_209 ⟨Nat.le_of_ble_eq_true rfl, Nat.le_of_ble_eq_true rfl⟩) (fun M4 h => ?_)
      refine a_aload_n fx 0 d_Mo_spellRow_212 rfl rfl ?_
      refine a_bipush (v := 10) fx d_Mo_spellRow_213 rfl ?_
      refine a_callv (rest := []) (a_runV (As := [.int 10]) fx cv_Mo_lay w_1615 (Met_Mo_lay l B D aC aS (hk0 := hk0) (ht0 := ht0) h) hk0 ht0 (by decide) rfl rfl rfl (Nat.le_of_ble_eq_true rfl) rfl rfl ⟨Nat.le_of_ble_eq_true rfl, Nat.le_of_ble_eq_true rfl⟩ d_Mo_spellRow_215 ⟨Nat.le_of_ble_eq_true rfl, Nat.le_of_ble_eq_true rfl⟩) (fun M5 h => ?_)
      refine a_aload_n fx 0 d_Mo_spellRow_218 rfl rfl ?_
      refine a_bipush (v := 101) fx d_Mo_spellRow_219 rfl ?_
      refine a_callv (rest := []) (a_runV (As := [.int 101]) fx cv_Mo_lay w_1615 (Met_Mo_lay l B D aC aS (hk0 := hk0) (ht0 := ht0) h) hk0 ht0 (by decide) rfl rfl rfl (Nat.le_of_ble_eq_true rfl) rfl rfl ⟨Nat.le_of_ble_eq_true rfl, Nat.le_of_ble_eq_true rfl⟩ d_Mo_spellRow_221 ⟨Nat.le_of_ble_eq_true rfl, Nat.le_of_ble_eq_true rfl⟩) (fun M6 h => ?_)
      refine a_aload_n fx 0 d_Mo_spellRow_224 rfl rfl ?_
      refine a_bipush (v := 110) fx d_Mo_spellRow_225 rfl ?_
      refine a_callv (rest := []) (a_runV (As := [.int 110]) fx cv_Mo_lay w_1615 (Met_Mo_lay l B D aC aS (hk0 := hk0) (ht0 := ht0) h) hk0 ht0 (by decide) rfl rfl rfl (Nat.le_of_ble_eq_true rfl) rfl rfl ⟨Nat.le_of_ble_eq_true rfl, Nat.le_of_ble_eq_true rfl⟩ d_Mo_spellRow_227 ⟨Nat.le_of_ble_eq_true rfl, Nat.le_of_ble_eq_true rfl⟩) (fun M7 h => ?_)
      refine a_aload_n fx 0 d_Mo_spellRow_230 rfl rfl ?_
      refine a_bipush (v := 100) fx d_Mo_spellRow_231 rfl ?_
      refine a_callv (rest := []) (a_runV (As := [.int 100]) fx cv_Mo_lay w_1615 (Met_Mo_lay l B D aC aS (hk0 := hk0) (ht0 := ht0) h) hk0 ht0 (by decide) rfl rfl rfl (Nat.le_of_ble_eq_true rfl) rfl rfl ⟨Nat.le_of_ble_eq_true rfl, Nat.le_of_ble_eq_true rfl⟩ d_Mo_spellRow_233 ⟨Nat.le_of_ble_eq_true rfl, Nat.le_of_ble_eq_true rfl⟩) (fun M8 h => ?_)
      refine a_aload_n fx 0 d_Mo_spellRow_236 rfl rfl ?_
      refine a_bipush (v := 10) fx d_Mo_spellRow_237 rfl ?_
      refine a_callv (rest := []) (a_runV (As := [.int 10]) fx cv_Mo_lay w_1615 (Met_Mo_lay l B D aC aS (hk0 := hk0) (ht0 := ht0) h) hk0 ht0 (by decide) rfl rfl rfl (Nat.le_of_ble_eq_true rfl) rfl rfl ⟨Nat.le_of_ble_eq_true rfl, Nat.le_of_ble_eq_true rfl⟩ d_Mo_spellRow_239 ⟨Nat.le_of_ble_eq_true rfl, Nat.le_of_ble_eq_true rfl⟩) (fun M9 h => ?_)
      exact a_vret fx hlo hr h d_Mo_spellRow_242
    · have h := h.2 hc
      refine a_iload_n fx 2 d_Mo_spellRow_36 rfl rfl ?_
      refine a_iload_n fx 3 d_Mo_spellRow_37 rfl rfl ?_
      refine a_isub fx d_Mo_spellRow_38 ?_
      refine a_bipush (v := 45) fx d_Mo_spellRow_39 rfl ?_
      refine a_icmp_ge fx 50 d_Mo_spellRow_41 rfl (fun hc => ?_) (fun hc => ?_)
      · have h := h.1 hc
        refine a_bipush (v := 45) fx d_Mo_spellRow_50 rfl ?_
        refine a_sub [0, 1, 2, 3] rfl ?_
        exact h
      · have h := h.2 hc
        refine a_iload_n fx 2 d_Mo_spellRow_44 rfl rfl ?_
        refine a_iload_n fx 3 d_Mo_spellRow_45 rfl rfl ?_
        refine a_isub fx d_Mo_spellRow_46 ?_
        refine a_goto fx 52 d_Mo_spellRow_47 rfl ?_
        refine a_sub [0, 1, 2, 3] rfl ?_
        exact h)
  have h := h (by
    intro v3 w0 M h
    refine a_istore (lv2 := [(4, .int w0), (0, .ref (B + a0)), (1, .ref (B + a1)), (2, .int i2), (3, .int v3)]) fx d_Mo_spellRow_52 (by decide) rfl ?_
    refine a_aload_n fx 1 d_Mo_spellRow_54 rfl rfl ?_
    refine a_bipush (v := 32) fx d_Mo_spellRow_55 rfl ?_
    refine a_iload fx 0 d_Mo_spellRow_57 rfl ?_
    refine a_iadd fx d_Mo_spellRow_59 ?_
    refine a_callv (rest := []) (a_runV (As := [.int (32 + w0)]) fx cv_Mo_lay w_1615 (Met_Mo_lay l B D aC aS (hk0 := hk0) (ht0 := ht0) h) hk0 ht0 (by decide) rfl rfl rfl (Nat.le_of_ble_eq_true rfl) rfl rfl ⟨Nat.le_of_ble_eq_true rfl, Nat.le_of_ble_eq_true rfl⟩ d_Mo_spellRow_60 ⟨Nat.le_of_ble_eq_true rfl, Nat.le_of_ble_eq_true rfl⟩) (fun M10 h => ?_)
    refine a_iconst (v := 0) fx d_Mo_spellRow_63 rfl ?_
    refine a_istore (lv2 := [(5, .int 0), (4, .int w0), (0, .ref (B + a0)), (1, .ref (B + a1)), (2, .int i2), (3, .int v3)]) fx d_Mo_spellRow_64 (by decide) rfl ?_
    refine a_sub [2, 3, 4, 5, 1, 0] rfl ?_
    exact h)
  have h := h (by
    intro v3 v4 v5 M h
    refine a_iload fx 5 d_Mo_spellRow_66 rfl ?_
    refine a_iload fx 4 d_Mo_spellRow_68 rfl ?_
    refine a_icmp_ge fx 194 d_Mo_spellRow_70 rfl (fun hc => ?_) (fun hc => ?_)
    · have h := h.1 hc
      refine a_aload_n fx 0 d_Mo_spellRow_194 rfl rfl ?_
      refine a_bipush (v := 10) fx d_Mo_spellRow_195 rfl ?_
      refine a_callv (rest := []) (a_runV (As := [.int 10]) fx cv_Mo_lay w_1615 (Met_Mo_lay l B D aC aS (hk0 := hk0) (ht0 := ht0) h) hk0 ht0 (by decide) rfl rfl rfl (Nat.le_of_ble_eq_true rfl) rfl rfl ⟨Nat.le_of_ble_eq_true rfl, Nat.le_of_ble_eq_true rfl⟩ d_Mo_spellRow_197 ⟨Nat.le_of_ble_eq_true rfl, Nat.le_of_ble_eq_true rfl⟩) (fun M11 h => ?_)
      obtain ⟨x12, ex12⟩ : ∃ z : Int32, z = v3 + 45 := ⟨_, rfl⟩
      have h := h x12 ex12
      refine a_iinc (lv2 := [(3, .int x12), (0, .ref (B + a0)), (1, .ref (B + a1)), (2, .int i2), (4, .int v4), (5, .int v5)]) fx 3 d_Mo_spellRow_200 rfl ex12.symm (by decide) rfl ?_
      refine a_goto fx 31 d_Mo_spellRow_203 rfl ?_
      refine a_sub [1, 2, 3, 0] rfl ?_
      exact h
    · have h := h.2 hc
      refine a_aload_n fx 1 d_Mo_spellRow_73 rfl rfl ?_
      refine a_iload_n fx 3 d_Mo_spellRow_74 rfl rfl ?_
      refine a_iload fx 5 d_Mo_spellRow_75 rfl ?_
      refine a_iadd fx d_Mo_spellRow_77 ?_
      obtain ⟨hin, h⟩ := h
      refine a_bald fx hk1 ht1 hin d_Mo_spellRow_78 ?_
      refine a_sipush (v := 255) fx d_Mo_spellRow_79 rfl ?_
      refine a_iand fx d_Mo_spellRow_82 ?_
      refine a_topi (fun x13 ex13 => ?_)
      have h := h x13 ex13
      refine a_istore (lv2 := [(6, .int x13), (0, .ref (B + a0)), (1, .ref (B + a1)), (2, .int i2), (3, .int v3), (4, .int v4), (5, .int v5)]) fx d_Mo_spellRow_83 (by decide) rfl ?_
      refine a_iload fx 6 d_Mo_spellRow_85 rfl ?_
      refine a_iconst (v := 1) fx d_Mo_spellRow_87 rfl ?_
      refine a_iadd fx d_Mo_spellRow_88 ?_
      refine a_iload fx 5 d_Mo_spellRow_89 rfl ?_
      refine a_icmp_ge fx 109 d_Mo_spellRow_91 rfl (fun hc => ?_) (fun hc => ?_)
      · have h := h.1 hc
        refine a_iconst (v := 0) fx d_Mo_spellRow_109 rfl ?_
        refine a_sub [1, 2, 3, 4, 5, 6, 0] rfl ?_
        exact h
      · have h := h.2 hc
        refine a_aload_n fx 2 d_Mo_spellRow_94 rfl rfl ?_
        refine a_iload_n fx 4 d_Mo_spellRow_95 rfl rfl ?_
        refine a_iload fx 6 d_Mo_spellRow_96 rfl ?_
        refine a_iadd fx d_Mo_spellRow_98 ?_
        refine a_iconst (v := 1) fx d_Mo_spellRow_99 rfl ?_
        refine a_iadd fx d_Mo_spellRow_100 ?_
        obtain ⟨hin, h⟩ := h
        refine a_bald fx hk1 ht1 hin d_Mo_spellRow_101 ?_
        refine a_sipush (v := 255) fx d_Mo_spellRow_102 rfl ?_
        refine a_iand fx d_Mo_spellRow_105 ?_
        refine a_goto fx 110 d_Mo_spellRow_106 rfl ?_
        refine a_sub [1, 2, 3, 4, 5, 6, 0] rfl ?_
        exact h)
  have h := h (by
    intro v3 v4 v5 v6 w0 M h
    refine a_istore (lv2 := [(7, .int w0), (0, .ref (B + a0)), (1, .ref (B + a1)), (2, .int i2), (3, .int v3), (4, .int v4), (5, .int v5), (6, .int v6)]) fx d_Mo_spellRow_110 (by decide) rfl ?_
    refine a_iload fx 6 d_Mo_spellRow_112 rfl ?_
    refine a_iconst (v := 2) fx d_Mo_spellRow_114 rfl ?_
    refine a_iadd fx d_Mo_spellRow_115 ?_
    refine a_iload fx 5 d_Mo_spellRow_116 rfl ?_
    refine a_icmp_ge fx 136 d_Mo_spellRow_118 rfl (fun hc => ?_) (fun hc => ?_)
    · have h := h.1 hc
      refine a_iconst (v := 0) fx d_Mo_spellRow_136 rfl ?_
      refine a_sub [1, 2, 3, 4, 5, 6, 7, 0] rfl ?_
      exact h
    · have h := h.2 hc
      refine a_aload_n fx 2 d_Mo_spellRow_121 rfl rfl ?_
      refine a_iload_n fx 4 d_Mo_spellRow_122 rfl rfl ?_
      refine a_iload fx 6 d_Mo_spellRow_123 rfl ?_
      refine a_iadd fx d_Mo_spellRow_125 ?_
      refine a_iconst (v := 2) fx d_Mo_spellRow_126 rfl ?_
      refine a_iadd fx d_Mo_spellRow_127 ?_
      obtain ⟨hin, h⟩ := h
      refine a_bald fx hk1 ht1 hin d_Mo_spellRow_128 ?_
      refine a_sipush (v := 255) fx d_Mo_spellRow_129 rfl ?_
      refine a_iand fx d_Mo_spellRow_132 ?_
      refine a_goto fx 137 d_Mo_spellRow_133 rfl ?_
      refine a_sub [1, 2, 3, 4, 5, 6, 7, 0] rfl ?_
      exact h)
  have h := h (by
    intro v3 v4 v5 v6 v7 w0 M h
    refine a_istore (lv2 := [(8, .int w0), (0, .ref (B + a0)), (1, .ref (B + a1)), (2, .int i2), (3, .int v3), (4, .int v4), (5, .int v5), (6, .int v6), (7, .int v7)]) fx d_Mo_spellRow_137 (by decide) rfl ?_
    refine a_aload_n fx 1 d_Mo_spellRow_139 rfl rfl ?_
    refine a_iload fx 7 d_Mo_spellRow_140 rfl ?_
    refine a_iconst (v := 2) fx d_Mo_spellRow_142 rfl ?_
    refine a_ishr fx d_Mo_spellRow_143 ?_
    refine a_callv (rest := []) (a_runV (As := [.int (v6 >>> (2 &&& 31))]) fx cv_Mo_six w_1619 (Met_Mo_six l B D aC aS (hk0 := hk0) (ht0 := ht0) h) hk0 ht0 (by decide) rfl rfl rfl (Nat.le_of_ble_eq_true rfl) rfl rfl ⟨Nat.le_of_ble_eq_true rfl, Nat.le_of_ble_eq_true rfl⟩ d_Mo_spellRow_144 ⟨Nat.le_of_ble_eq_true rfl, Nat.le_of_ble_eq_true rfl⟩) (fun M14 h => ?_)
    refine a_aload_n fx 1 d_Mo_spellRow_147 rfl rfl ?_
    refine a_iload fx 7 d_Mo_spellRow_148 rfl ?_
    refine a_iconst (v := 3) fx d_Mo_spellRow_150 rfl ?_
    refine a_iand fx d_Mo_spellRow_151 ?_
    refine a_iconst (v := 4) fx d_Mo_spellRow_152 rfl ?_
    refine a_ishl fx d_Mo_spellRow_153 ?_
    refine a_iload fx 8 d_Mo_spellRow_154 rfl ?_
    refine a_iconst (v := 4) fx d_Mo_spellRow_156 rfl ?_
    refine a_ishr fx d_Mo_spellRow_157 ?_
    refine a_ior fx d_Mo_spellRow_158 ?_
    refine a_callv (rest := []) (a_runV (As := [.int (((v6 &&& 3) <<< (4 &&& 31)) ||| (v7 >>> (4 &&& 31)))]) fx cv_Mo_six w_1619 (Met_Mo_six l B D aC aS (hk0 := hk0) (ht0 := ht0) h) hk0 ht0 (by decide) rfl rfl rfl (Nat.le_of_ble_eq_true rfl) rfl rfl ⟨Nat.le_of_ble_eq_true rfl, Nat.le_of_ble_eq_true rfl⟩ d_Mo_spellRow_159 ⟨Nat.le_of_ble_eq_true rfl, Nat.le_of_ble_eq_true rfl⟩) (fun M15 h => ?_)
    refine a_aload_n fx 1 d_Mo_spellRow_162 rfl rfl ?_
    refine a_iload fx 8 d_Mo_spellRow_163 rfl ?_
    refine a_bipush (v := 15) fx d_Mo_spellRow_165 rfl ?_
    refine a_iand fx d_Mo_spellRow_167 ?_
    refine a_iconst (v := 2) fx d_Mo_spellRow_168 rfl ?_
    refine a_ishl fx d_Mo_spellRow_169 ?_
    refine a_iload fx 0 d_Mo_spellRow_170 rfl ?_
    refine a_bipush (v := 6) fx d_Mo_spellRow_172 rfl ?_
    refine a_ishr fx d_Mo_spellRow_174 ?_
    refine a_ior fx d_Mo_spellRow_175 ?_
    refine a_callv (rest := []) (a_runV (As := [.int (((v7 &&& 15) <<< (2 &&& 31)) ||| (w0 >>> (6 &&& 31)))]) fx cv_Mo_six w_1619 (Met_Mo_six l B D aC aS (hk0 := hk0) (ht0 := ht0) h) hk0 ht0 (by decide) rfl rfl rfl (Nat.le_of_ble_eq_true rfl) rfl rfl ⟨Nat.le_of_ble_eq_true rfl, Nat.le_of_ble_eq_true rfl⟩ d_Mo_spellRow_176 ⟨Nat.le_of_ble_eq_true rfl, Nat.le_of_ble_eq_true rfl⟩) (fun M16 h => ?_)
    refine a_aload_n fx 1 d_Mo_spellRow_179 rfl rfl ?_
    refine a_iload fx 0 d_Mo_spellRow_180 rfl ?_
    refine a_bipush (v := 63) fx d_Mo_spellRow_182 rfl ?_
    refine a_iand fx d_Mo_spellRow_184 ?_
    refine a_callv (rest := []) (a_runV (As := [.int (w0 &&& 63)]) fx cv_Mo_six w_1619 (Met_Mo_six l B D aC aS (hk0 := hk0) (ht0 := ht0) h) hk0 ht0 (by decide) rfl rfl rfl (Nat.le_of_ble_eq_true rfl) rfl rfl ⟨Nat.le_of_ble_eq_true rfl, Nat.le_of_ble_eq_true rfl⟩ d_Mo_spellRow_185 ⟨Nat.le_of_ble_eq_true rfl, Nat.le_of_ble_eq_true rfl⟩) (fun M17 h => ?_)
    obtain ⟨x18, ex18⟩ : ∃ z : Int32, z = v5 + 3 := ⟨_, rfl⟩
    have h := h x18 ex18
    refine a_iinc (lv2 := [(5, .int x18), (8, .int w0), (0, .ref (B + a0)), (1, .ref (B + a1)), (2, .int i2), (3, .int v3), (4, .int v4), (6, .int v6), (7, .int v7)]) fx 6 d_Mo_spellRow_188 rfl ex18.symm (by decide) rfl ?_
    refine a_goto fx 66 d_Mo_spellRow_191 rfl ?_
    refine a_sub [2, 3, 4, 5, 6, 0] rfl ?_
    exact h)
  refine a_aload_n fx 0 d_Mo_spellRow_0 rfl rfl ?_
  refine a_iconst (v := 0) fx d_Mo_spellRow_1 rfl ?_
  refine a_putI fx (T := F_Mo) (ty0 := t_Mo) (j := 29) (hk := hk0) (ht := ht0) (ht2 := by decide) (hc := rfl) (hin := u_in_Mo) (hty := t_Mo_ok) (hnm := n_Mo) (hj := by decide) (hj2 := by decide) (hf := rfl) (hT := rfl) (hfin := rfl) (hn := rfl) (hfit := rfl) (hw := w_1298) (hd := d_Mo_spellRow_2) (kk := a_mem (fun M1 eM1 => ?_))
  have h := h M1 eM1
  refine a_iconst (v := 0) fx d_Mo_spellRow_5 rfl ?_
  refine a_istore_n (lv2 := [(3, .int 0), (0, .ref (B + a0)), (1, .ref (B + a1)), (2, .int i2)]) fx d_Mo_spellRow_6 rfl (by decide) rfl ?_
  refine a_sub [1, 2, 3, 0] rfl ?_
  exact h
set_option maxRecDepth 100000 in
set_option maxHeartbeats 4000000 in
theorem Met_Mo_unspell (l : Launch) (B : Nat) (D : va_G) (aC : Nat → ClassId) (aS : Nat → Nat) {a0 : Nat} {M : zM} {post : zM → Prop} (hk0 : a0 < N0) (ht0 : tg a0 = 9) (h : Wp_Mo_unspell a0 M post) : Met l y_Mo_unspell (wo y_Mo_unspell b_Mo_unspell 7 none) { frames := 0, cells := 0, slots := 0, locals := 0 } (va_Pc [.ref (B + a0)] (zWl B D aC aS M)) (zQv B D aC post) 0 0 (zAb B) := by
  refine z_met (own := "MailChainModel") (lv0 := [(0, .ref (B + a0))]) (by decide) rfl (Nat.le_of_ble_eq_true rfl) rfl ?_
  intro p e s m below meth c fx hr hlo
  delta Wp_Mo_unspell at h
  have h := h (fun v1 v2 M => zAt p l e { frames := 0, cells := 0, slots := 0, locals := 0 } s m ([.ref (B + a0)] : List Value).toArray below meth c 0 0 (MQ below (zQv B D aC post) ([.ref (B + a0)] : List Value).toArray s 0 0 (zAb B)) B D aC 7 10 [(0, .ref (B + a0)), (1, .int v1), (2, .int v2)] [] M)
  have h := h (fun v1 v2 v3 v4 M => zAt p l e { frames := 0, cells := 0, slots := 0, locals := 0 } s m ([.ref (B + a0)] : List Value).toArray below meth c 0 0 (MQ below (zQv B D aC post) ([.ref (B + a0)] : List Value).toArray s 0 0 (zAb B)) B D aC 7 71 [(0, .ref (B + a0)), (1, .int v1), (2, .int v2), (3, .int v3), (4, .int v4)] [] M)
  have h := h (fun v1 v2 v3 v4 v5 v6 M => zAt p l e { frames := 0, cells := 0, slots := 0, locals := 0 } s m ([.ref (B + a0)] : List Value).toArray below meth c 0 0 (MQ below (zQv B D aC post) ([.ref (B + a0)] : List Value).toArray s 0 0 (zAb B)) B D aC 7 87 [(0, .ref (B + a0)), (1, .int v1), (2, .int v2), (3, .int v3), (4, .int v4), (5, .int v5), (6, .int v6)] [] M)
  have h := h (fun v1 v2 v3 v4 v5 v6 M => zAt p l e { frames := 0, cells := 0, slots := 0, locals := 0 } s m ([.ref (B + a0)] : List Value).toArray below meth c 0 0 (MQ below (zQv B D aC post) ([.ref (B + a0)] : List Value).toArray s 0 0 (zAb B)) B D aC 7 125 [(0, .ref (B + a0)), (1, .int v1), (2, .int v2), (3, .int v3), (4, .int v4), (5, .int v5), (6, .int v6)] [] M)
  have h := h (by
    intro v1 v2 M h
    refine a_iload_n fx 2 d_Mo_unspell_10 rfl rfl ?_
    refine a_if_eq fx 189 d_Mo_unspell_11 rfl (fun hc => ?_) (fun hc => ?_)
    · have h := h.1 hc
      exact a_vret fx hlo hr h d_Mo_unspell_189
    · have h := h.2 hc
      refine a_iload_n fx 1 d_Mo_unspell_14 rfl rfl ?_
      refine a_aload_n fx 0 d_Mo_unspell_15 rfl rfl ?_
      refine a_getI fx (T := F_Mo) (j := 47) (hk := hk0) (ht := ht0) (ht2 := by decide) (hc := rfl) (hin := u_in_Mo) (hj := by decide) (hj2 := by decide) (hf := rfl) (hT := rfl) (hw := w_1316) (hd := d_Mo_unspell_16) (kk := ?_)
      refine a_icmp_ge fx 189 d_Mo_unspell_19 rfl (fun hc => ?_) (fun hc => ?_)
      · have h := h.1 hc
        exact a_vret fx hlo hr h d_Mo_unspell_189
      · have h := h.2 hc
        refine a_aload_n fx 0 d_Mo_unspell_22 rfl rfl ?_
        refine a_getS fx (T := F_Mo) (j := 48) (hk := hk0) (ht := ht0) (ht2 := by decide) (hc := rfl) (hin := u_in_Mo) (hj := by decide) (hj2 := by decide) (hf := rfl) (n9 := 32) (hfo := rfl) (hT := rfl) (hw := w_1317) (hd := d_Mo_unspell_23) (kk := ?_)
        refine a_iload_n fx 1 d_Mo_unspell_26 rfl rfl ?_
        obtain ⟨hin, h⟩ := h
        refine a_bald fx (lo_9_48 hk0 ht0).1 (lo_9_48 hk0 ht0).2 hin d_Mo_unspell_27 ?_
        refine a_bipush (v := 32) fx d_Mo_unspell_28 rfl ?_
        refine a_isub fx d_Mo_unspell_30 ?_
        refine a_topi (fun x2 ex2 => ?_)
        have h := h x2 ex2
        refine a_istore_n (lv2 := [(3, .int x2), (0, .ref (B + a0)), (1, .int v1), (2, .int v2)]) fx d_Mo_unspell_31 rfl (by decide) rfl ?_
        obtain ⟨x3, ex3⟩ : ∃ z : Int32, z = v1 + 1 := ⟨_, rfl⟩
        have h := h x3 ex3
        refine a_iinc (lv2 := [(1, .int x3), (3, .int x2), (0, .ref (B + a0)), (2, .int v2)]) fx 2 d_Mo_unspell_32 rfl ex3.symm (by decide) rfl ?_
        refine a_iload_n fx 1 d_Mo_unspell_35 rfl rfl ?_
        refine a_iconst (v := 1) fx d_Mo_unspell_36 rfl ?_
        refine a_icmp_lt fx 66 d_Mo_unspell_37 rfl (fun hc => ?_) (fun hc => ?_)
        · have h := h.1 hc
          refine a_iconst (v := 0) fx d_Mo_unspell_66 rfl ?_
          refine a_istore_n (lv2 := [(2, .int 0), (1, .int x3), (3, .int x2), (0, .ref (B + a0))]) fx d_Mo_unspell_67 rfl (by decide) rfl ?_
          refine a_iconst (v := 0) fx d_Mo_unspell_68 rfl ?_
          refine a_istore (lv2 := [(4, .int 0), (2, .int 0), (1, .int x3), (3, .int x2), (0, .ref (B + a0))]) fx d_Mo_unspell_69 (by decide) rfl ?_
          refine a_sub [4, 2, 1, 3, 0] rfl ?_
          exact h
        · have h := h.2 hc
          refine a_iload_n fx 1 d_Mo_unspell_40 rfl rfl ?_
          refine a_bipush (v := 45) fx d_Mo_unspell_41 rfl ?_
          refine a_icmp_gt fx 66 d_Mo_unspell_43 rfl (fun hc => ?_) (fun hc => ?_)
          · have h := h.1 hc
            refine a_iconst (v := 0) fx d_Mo_unspell_66 rfl ?_
            refine a_istore_n (lv2 := [(2, .int 0), (1, .int x3), (3, .int x2), (0, .ref (B + a0))]) fx d_Mo_unspell_67 rfl (by decide) rfl ?_
            refine a_iconst (v := 0) fx d_Mo_unspell_68 rfl ?_
            refine a_istore (lv2 := [(4, .int 0), (2, .int 0), (1, .int x3), (3, .int x2), (0, .ref (B + a0))]) fx d_Mo_unspell_69 (by decide) rfl ?_
            refine a_sub [4, 2, 1, 3, 0] rfl ?_
            exact h
          · have h := h.2 hc
            refine a_iload_n fx 0 d_Mo_unspell_46 rfl rfl ?_
            refine a_iload_n fx 1 d_Mo_unspell_47 rfl rfl ?_
            refine a_iconst (v := 2) fx d_Mo_unspell_48 rfl ?_
            refine a_iadd fx d_Mo_unspell_49 ?_
            refine a_iconst (v := 3) fx d_Mo_unspell_50 rfl ?_
            refine a_idiv fx d_Mo_unspell_51 (by decide) ?_
            refine a_iconst (v := 4) fx d_Mo_unspell_52 rfl ?_
            refine a_imul fx d_Mo_unspell_53 ?_
            refine a_iadd fx d_Mo_unspell_54 ?_
            refine a_aload_n fx 2 d_Mo_unspell_55 rfl rfl ?_
            refine a_getI fx (T := F_Mo) (j := 47) (hk := hk0) (ht := ht0) (ht2 := by decide) (hc := rfl) (hin := u_in_Mo) (hj := by decide) (hj2 := by decide) (hf := rfl) (hT := rfl) (hw := w_1316) (hd := d_Mo_unspell_56) (kk := ?_)
            refine a_icmp_ge fx 66 d_Mo_unspell_59 rfl (fun hc => ?_) (fun hc => ?_)
            · have h := h.1 hc
              refine a_iconst (v := 0) fx d_Mo_unspell_66 rfl ?_
              refine a_istore_n (lv2 := [(2, .int 0), (1, .int x3), (3, .int x2), (0, .ref (B + a0))]) fx d_Mo_unspell_67 rfl (by decide) rfl ?_
              refine a_iconst (v := 0) fx d_Mo_unspell_68 rfl ?_
              refine a_istore (lv2 := [(4, .int 0), (2, .int 0), (1, .int x3), (3, .int x2), (0, .ref (B + a0))]) fx d_Mo_unspell_69 (by decide) rfl ?_
              refine a_sub [4, 2, 1, 3, 0] rfl ?_
              exact h
            · have h := h.2 hc
              refine a_iconst (v := 1) fx d_Mo_unspell_62 rfl ?_
              refine a_goto fx 67 d_Mo_unspell_63 rfl ?_
              refine a_istore_n (lv2 := [(2, .int 1), (1, .int x3), (3, .int x2), (0, .ref (B + a0))]) fx d_Mo_unspell_67 rfl (by decide) rfl ?_
              refine a_iconst (v := 0) fx d_Mo_unspell_68 rfl ?_
              refine a_istore (lv2 := [(4, .int 0), (2, .int 1), (1, .int x3), (3, .int x2), (0, .ref (B + a0))]) fx d_Mo_unspell_69 (by decide) rfl ?_
              refine a_sub [4, 2, 1, 3, 0] rfl ?_
              exact h)
  have h := h (by
    intro v1 v2 v3 v4 M h
    refine a_iload fx 4 d_Mo_unspell_71 rfl ?_
    refine a_iload_n fx 3 d_Mo_unspell_73 rfl rfl ?_
    refine a_icmp_ge fx 183 d_Mo_unspell_74 rfl (fun hc => ?_) (fun hc => ?_)
    · have h := h.1 hc
      obtain ⟨x4, ex4⟩ : ∃ z : Int32, z = v1 + 1 := ⟨_, rfl⟩
      have h := h x4 ex4
      refine a_iinc (lv2 := [(1, .int x4), (0, .ref (B + a0)), (2, .int v2), (3, .int v3), (4, .int v4)]) fx 1 d_Mo_unspell_183 rfl ex4.symm (by decide) rfl ?_
      refine a_goto fx 10 d_Mo_unspell_186 rfl ?_
      refine a_sub [1, 0, 2] rfl ?_
      exact h
    · have h := h.2 hc
      refine a_iload_n fx 2 d_Mo_unspell_77 rfl rfl ?_
      refine a_if_eq fx 183 d_Mo_unspell_78 rfl (fun hc => ?_) (fun hc => ?_)
      · have h := h.1 hc
        obtain ⟨x5, ex5⟩ : ∃ z : Int32, z = v1 + 1 := ⟨_, rfl⟩
        have h := h x5 ex5
        refine a_iinc (lv2 := [(1, .int x5), (0, .ref (B + a0)), (2, .int v2), (3, .int v3), (4, .int v4)]) fx 1 d_Mo_unspell_183 rfl ex5.symm (by decide) rfl ?_
        refine a_goto fx 10 d_Mo_unspell_186 rfl ?_
        refine a_sub [1, 0, 2] rfl ?_
        exact h
      · have h := h.2 hc
        refine a_iconst (v := 0) fx d_Mo_unspell_81 rfl ?_
        refine a_istore (lv2 := [(5, .int 0), (0, .ref (B + a0)), (1, .int v1), (2, .int v2), (3, .int v3), (4, .int v4)]) fx d_Mo_unspell_82 (by decide) rfl ?_
        refine a_iconst (v := 0) fx d_Mo_unspell_84 rfl ?_
        refine a_istore (lv2 := [(6, .int 0), (5, .int 0), (0, .ref (B + a0)), (1, .int v1), (2, .int v2), (3, .int v3), (4, .int v4)]) fx d_Mo_unspell_85 (by decide) rfl ?_
        refine a_sub [2, 3, 4, 5, 6, 1, 0] rfl ?_
        exact h)
  have h := h (by
    intro v1 v2 v3 v4 v5 v6 M h
    refine a_iload fx 6 d_Mo_unspell_87 rfl ?_
    refine a_iconst (v := 4) fx d_Mo_unspell_89 rfl ?_
    refine a_icmp_ge fx 122 d_Mo_unspell_90 rfl (fun hc => ?_) (fun hc => ?_)
    · have h := h.1 hc
      refine a_iconst (v := 0) fx d_Mo_unspell_122 rfl ?_
      refine a_istore (lv2 := [(6, .int 0), (0, .ref (B + a0)), (1, .int v1), (2, .int v2), (3, .int v3), (4, .int v4), (5, .int v5)]) fx d_Mo_unspell_123 (by decide) rfl ?_
      refine a_sub [1, 2, 3, 4, 5, 6, 0] rfl ?_
      exact h
    · have h := h.2 hc
      refine a_iload fx 5 d_Mo_unspell_93 rfl ?_
      refine a_bipush (v := 6) fx d_Mo_unspell_95 rfl ?_
      refine a_ishl fx d_Mo_unspell_97 ?_
      refine a_aload_n fx 0 d_Mo_unspell_98 rfl rfl ?_
      refine a_getS fx (T := F_Mo) (j := 48) (hk := hk0) (ht := ht0) (ht2 := by decide) (hc := rfl) (hin := u_in_Mo) (hj := by decide) (hj2 := by decide) (hf := rfl) (n9 := 32) (hfo := rfl) (hT := rfl) (hw := w_1317) (hd := d_Mo_unspell_99) (kk := ?_)
      refine a_iload_n fx 1 d_Mo_unspell_102 rfl rfl ?_
      obtain ⟨hin, h⟩ := h
      refine a_bald fx (lo_9_48 hk0 ht0).1 (lo_9_48 hk0 ht0).2 hin d_Mo_unspell_103 ?_
      refine a_bipush (v := 32) fx d_Mo_unspell_104 rfl ?_
      refine a_isub fx d_Mo_unspell_106 ?_
      refine a_bipush (v := 63) fx d_Mo_unspell_107 rfl ?_
      refine a_iand fx d_Mo_unspell_109 ?_
      refine a_ior fx d_Mo_unspell_110 ?_
      refine a_topi (fun x6 ex6 => ?_)
      have h := h x6 ex6
      refine a_istore (lv2 := [(5, .int x6), (0, .ref (B + a0)), (1, .int v1), (2, .int v2), (3, .int v3), (4, .int v4), (6, .int v6)]) fx d_Mo_unspell_111 (by decide) rfl ?_
      obtain ⟨x7, ex7⟩ : ∃ z : Int32, z = v1 + 1 := ⟨_, rfl⟩
      have h := h x7 ex7
      refine a_iinc (lv2 := [(1, .int x7), (5, .int x6), (0, .ref (B + a0)), (2, .int v2), (3, .int v3), (4, .int v4), (6, .int v6)]) fx 2 d_Mo_unspell_113 rfl ex7.symm (by decide) rfl ?_
      obtain ⟨x8, ex8⟩ : ∃ z : Int32, z = v6 + 1 := ⟨_, rfl⟩
      have h := h x8 ex8
      refine a_iinc (lv2 := [(6, .int x8), (1, .int x7), (5, .int x6), (0, .ref (B + a0)), (2, .int v2), (3, .int v3), (4, .int v4)]) fx 6 d_Mo_unspell_116 rfl ex8.symm (by decide) rfl ?_
      refine a_goto fx 87 d_Mo_unspell_119 rfl ?_
      refine a_sub [3, 1, 4, 5, 6, 2, 0] rfl ?_
      exact h)
  have h := h (by
    intro v1 v2 v3 v4 v5 v6 M h
    refine a_iload fx 6 d_Mo_unspell_125 rfl ?_
    refine a_iconst (v := 3) fx d_Mo_unspell_127 rfl ?_
    refine a_icmp_ge fx 177 d_Mo_unspell_128 rfl (fun hc => ?_) (fun hc => ?_)
    · have h := h.1 hc
      obtain ⟨x9, ex9⟩ : ∃ z : Int32, z = v4 + 3 := ⟨_, rfl⟩
      have h := h x9 ex9
      refine a_iinc (lv2 := [(4, .int x9), (0, .ref (B + a0)), (1, .int v1), (2, .int v2), (3, .int v3), (5, .int v5), (6, .int v6)]) fx 4 d_Mo_unspell_177 rfl ex9.symm (by decide) rfl ?_
      refine a_goto fx 71 d_Mo_unspell_180 rfl ?_
      refine a_sub [1, 2, 3, 4, 0] rfl ?_
      exact h
    · have h := h.2 hc
      refine a_iload fx 4 d_Mo_unspell_131 rfl ?_
      refine a_iload fx 6 d_Mo_unspell_133 rfl ?_
      refine a_iadd fx d_Mo_unspell_135 ?_
      refine a_iload_n fx 3 d_Mo_unspell_136 rfl rfl ?_
      refine a_icmp_ge fx 177 d_Mo_unspell_137 rfl (fun hc => ?_) (fun hc => ?_)
      · have h := h.1 hc
        obtain ⟨x10, ex10⟩ : ∃ z : Int32, z = v4 + 3 := ⟨_, rfl⟩
        have h := h x10 ex10
        refine a_iinc (lv2 := [(4, .int x10), (0, .ref (B + a0)), (1, .int v1), (2, .int v2), (3, .int v3), (5, .int v5), (6, .int v6)]) fx 4 d_Mo_unspell_177 rfl ex10.symm (by decide) rfl ?_
        refine a_goto fx 71 d_Mo_unspell_180 rfl ?_
        refine a_sub [1, 2, 3, 4, 0] rfl ?_
        exact h
      · have h := h.2 hc
        refine a_aload_n fx 0 d_Mo_unspell_140 rfl rfl ?_
        refine a_getS fx (T := F_Mo) (j := 46) (hk := hk0) (ht := ht0) (ht2 := by decide) (hc := rfl) (hin := u_in_Mo) (hj := by decide) (hj2 := by decide) (hf := rfl) (n9 := 31) (hfo := rfl) (hT := rfl) (hw := w_1315) (hd := d_Mo_unspell_141) (kk := ?_)
        refine a_aload_n fx 0 d_Mo_unspell_144 rfl rfl ?_
        refine a_getI fx (T := F_Mo) (j := 45) (hk := hk0) (ht := ht0) (ht2 := by decide) (hc := rfl) (hin := u_in_Mo) (hj := by decide) (hj2 := by decide) (hf := rfl) (hT := rfl) (hw := w_1314) (hd := d_Mo_unspell_145) (kk := ?_)
        refine a_iload fx 5 d_Mo_unspell_148 rfl ?_
        refine a_bipush (v := 16) fx d_Mo_unspell_150 rfl ?_
        refine a_bipush (v := 8) fx d_Mo_unspell_152 rfl ?_
        refine a_iload fx 6 d_Mo_unspell_154 rfl ?_
        refine a_imul fx d_Mo_unspell_156 ?_
        refine a_isub fx d_Mo_unspell_157 ?_
        refine a_ishr fx d_Mo_unspell_158 ?_
        refine a_i2b fx d_Mo_unspell_159 ?_
        obtain ⟨hin, h⟩ := h
        refine a_bast fx (lo_9_46 hk0 ht0).1 (lo_9_46 hk0 ht0).2 hin d_Mo_unspell_160 (a_mem (fun M11 eM11 => ?_))
        have h := h M11 eM11
        refine a_aload_n fx 0 d_Mo_unspell_161 rfl rfl ?_
        refine a_dup fx d_Mo_unspell_162 rfl ?_
        refine a_getI fx (T := F_Mo) (j := 45) (hk := hk0) (ht := ht0) (ht2 := by decide) (hc := rfl) (hin := u_in_Mo) (hj := by decide) (hj2 := by decide) (hf := rfl) (hT := rfl) (hw := w_1314) (hd := d_Mo_unspell_163) (kk := ?_)
        refine a_iconst (v := 1) fx d_Mo_unspell_166 rfl ?_
        refine a_iadd fx d_Mo_unspell_167 ?_
        refine a_putI fx (T := F_Mo) (ty0 := t_Mo) (j := 45) (hk := hk0) (ht := ht0) (ht2 := by decide) (hc := rfl) (hin := u_in_Mo) (hty := t_Mo_ok) (hnm := n_Mo) (hj := by decide) (hj2 := by decide) (hf := rfl) (hT := rfl) (hfin := rfl) (hn := rfl) (hfit := rfl) (hw := w_1314) (hd := d_Mo_unspell_168) (kk := a_mem (fun M12 eM12 => ?_))
        have h := h M12 eM12
        obtain ⟨x13, ex13⟩ : ∃ z : Int32, z = v6 + 1 := ⟨_, rfl⟩
        have h := h x13 ex13
        refine a_iinc (lv2 := [(6, .int x13), (0, .ref (B + a0)), (1, .int v1), (2, .int v2), (3, .int v3), (4, .int v4), (5, .int v5)]) fx 6 d_Mo_unspell_171 rfl ex13.symm (by decide) rfl ?_
        refine a_goto fx 125 d_Mo_unspell_174 rfl ?_
        refine a_sub [1, 2, 3, 4, 5, 6, 0] rfl ?_
        exact h)
  refine a_aload_n fx 0 d_Mo_unspell_0 rfl rfl ?_
  refine a_iconst (v := 0) fx d_Mo_unspell_1 rfl ?_
  refine a_putI fx (T := F_Mo) (ty0 := t_Mo) (j := 45) (hk := hk0) (ht := ht0) (ht2 := by decide) (hc := rfl) (hin := u_in_Mo) (hty := t_Mo_ok) (hnm := n_Mo) (hj := by decide) (hj2 := by decide) (hf := rfl) (hT := rfl) (hfin := rfl) (hn := rfl) (hfit := rfl) (hw := w_1314) (hd := d_Mo_unspell_2) (kk := a_mem (fun M1 eM1 => ?_))
  have h := h M1 eM1
  refine a_bipush (v := 15) fx d_Mo_unspell_5 rfl ?_
  refine a_istore_n (lv2 := [(1, .int 15), (0, .ref (B + a0))]) fx d_Mo_unspell_7 rfl (by decide) rfl ?_
  refine a_iconst (v := 1) fx d_Mo_unspell_8 rfl ?_
  refine a_istore_n (lv2 := [(2, .int 1), (1, .int 15), (0, .ref (B + a0))]) fx d_Mo_unspell_9 rfl (by decide) rfl ?_
  refine a_sub [2, 1, 0] rfl ?_
  exact h
set_option maxRecDepth 100000 in
set_option maxHeartbeats 4000000 in
theorem Met_Mo_step (l : Launch) (B : Nat) (D : va_G) (aC : Nat → ClassId) (aS : Nat → Nat) {i0 : Int32} {i1 : Int32} {M : zM} {post : Int32 → zM → Prop}  (h : Wp_Mo_step i0 i1 M post) : Met l y_Mo_step (wo y_Mo_step b_Mo_step 4 (some FieldType.int)) { frames := 0, cells := 0, slots := 0, locals := 0 } (va_Pc [.int i0, .int i1] (zWl B D aC aS M)) (zQi B D aC post) 0 0 (zAb B) := by
  refine z_met (own := "MailChainModel") (lv0 := [(0, .int i0), (1, .int i1)]) (by decide) rfl (Nat.le_of_ble_eq_true rfl) rfl ?_
  intro p e s m below meth c fx hr hlo
  delta Wp_Mo_step at h
  have h := h (fun v2 v3 M => zAt p l e { frames := 0, cells := 0, slots := 0, locals := 0 } s m ([.int i0, .int i1] : List Value).toArray below meth c 0 0 (MQ below (zQi B D aC post) ([.int i0, .int i1] : List Value).toArray s 0 0 (zAb B)) B D aC 4 9 [(0, .int i0), (1, .int i1), (2, .int v2), (3, .int v3)] [] M)
  have h := h (by
    intro v2 v3 M h
    refine a_iload_n fx 3 d_Mo_step_9 rfl rfl ?_
    refine a_bipush (v := 8) fx d_Mo_step_10 rfl ?_
    refine a_icmp_ge fx 39 d_Mo_step_12 rfl (fun hc => ?_) (fun hc => ?_)
    · have h := h.1 hc
      refine a_iload_n fx 2 d_Mo_step_39 rfl rfl ?_
      exact a_iret fx hlo hr h d_Mo_step_40
    · have h := h.2 hc
      refine a_iload_n fx 2 d_Mo_step_15 rfl rfl ?_
      refine a_if_ge fx 29 d_Mo_step_16 rfl (fun hc => ?_) (fun hc => ?_)
      · have h := h.1 hc
        refine a_iload_n fx 2 d_Mo_step_29 rfl rfl ?_
        refine a_iconst (v := 1) fx d_Mo_step_30 rfl ?_
        refine a_ishl fx d_Mo_step_31 ?_
        refine a_topi (fun x2 ex2 => ?_)
        have h := h x2 ex2
        refine a_istore_n (lv2 := [(2, .int x2), (0, .int i0), (1, .int i1), (3, .int v3)]) fx d_Mo_step_32 rfl (by decide) rfl ?_
        obtain ⟨x3, ex3⟩ : ∃ z : Int32, z = v3 + 1 := ⟨_, rfl⟩
        have h := h x3 ex3
        refine a_iinc (lv2 := [(3, .int x3), (2, .int x2), (0, .int i0), (1, .int i1)]) fx 3 d_Mo_step_33 rfl ex3.symm (by decide) rfl ?_
        refine a_goto fx 9 d_Mo_step_36 rfl ?_
        refine a_sub [2, 3, 1, 0] rfl ?_
        exact h
      · have h := h.2 hc
        refine a_iload_n fx 2 d_Mo_step_19 rfl rfl ?_
        refine a_iconst (v := 1) fx d_Mo_step_20 rfl ?_
        refine a_ishl fx d_Mo_step_21 ?_
        refine a_ldcw fx w_1548 d_Mo_step_22 ?_
        refine a_ixor fx d_Mo_step_25 ?_
        refine a_goto fx 32 d_Mo_step_26 rfl ?_
        refine a_topi (fun x4 ex4 => ?_)
        have h := h x4 ex4
        refine a_istore_n (lv2 := [(2, .int x4), (0, .int i0), (1, .int i1), (3, .int v3)]) fx d_Mo_step_32 rfl (by decide) rfl ?_
        obtain ⟨x5, ex5⟩ : ∃ z : Int32, z = v3 + 1 := ⟨_, rfl⟩
        have h := h x5 ex5
        refine a_iinc (lv2 := [(3, .int x5), (2, .int x4), (0, .int i0), (1, .int i1)]) fx 3 d_Mo_step_33 rfl ex5.symm (by decide) rfl ?_
        refine a_goto fx 9 d_Mo_step_36 rfl ?_
        refine a_sub [2, 3, 1, 0] rfl ?_
        exact h)
  refine a_iload_n fx 0 d_Mo_step_0 rfl rfl ?_
  refine a_iload_n fx 1 d_Mo_step_1 rfl rfl ?_
  refine a_bipush (v := 24) fx d_Mo_step_2 rfl ?_
  refine a_ishl fx d_Mo_step_4 ?_
  refine a_ixor fx d_Mo_step_5 ?_
  refine a_topi (fun x1 ex1 => ?_)
  have h := h x1 ex1
  refine a_istore_n (lv2 := [(2, .int x1), (0, .int i0), (1, .int i1)]) fx d_Mo_step_6 rfl (by decide) rfl ?_
  refine a_iconst (v := 0) fx d_Mo_step_7 rfl ?_
  refine a_istore_n (lv2 := [(3, .int 0), (2, .int x1), (0, .int i0), (1, .int i1)]) fx d_Mo_step_8 rfl (by decide) rfl ?_
  refine a_sub [2, 3, 1, 0] rfl ?_
  exact h
set_option maxRecDepth 100000 in
set_option maxHeartbeats 4000000 in
theorem Met_Mo_sumOf (l : Launch) (B : Nat) (D : va_G) (aC : Nat → ClassId) (aS : Nat → Nat) {a0 : Nat} {i1 : Int32} {i2 : Int32} {M : zM} {post : Int32 → zM → Prop} (hk0 : a0 < N0) (ht0 : tg a0 = 20) (h : Wp_Mo_sumOf a0 i1 i2 M post) : Met l y_Mo_sumOf (wo y_Mo_sumOf b_Mo_sumOf 5 (some FieldType.int)) { frames := 1, cells := 0, slots := 0, locals := 23 } (va_Pc [.ref (B + a0), .int i1, .int i2] (zWl B D aC aS M)) (zQi B D aC post) 0 0 (zAb B) := by
  refine z_met (own := "MailChainModel") (lv0 := [(0, .ref (B + a0)), (1, .int i1), (2, .int i2)]) (by decide) rfl (Nat.le_of_ble_eq_true rfl) rfl ?_
  intro p e s m below meth c fx hr hlo
  delta Wp_Mo_sumOf at h
  have h := h (fun v3 v4 M => zAt p l e { frames := 1, cells := 0, slots := 0, locals := 23 } s m ([.ref (B + a0), .int i1, .int i2] : List Value).toArray below meth c 0 0 (MQ below (zQi B D aC post) ([.ref (B + a0), .int i1, .int i2] : List Value).toArray s 0 0 (zAb B)) B D aC 5 5 [(0, .ref (B + a0)), (1, .int i1), (2, .int i2), (3, .int v3), (4, .int v4)] [] M)
  have h := h (fun v3 v4 M => zAt p l e { frames := 1, cells := 0, slots := 0, locals := 23 } s m ([.ref (B + a0), .int i1, .int i2] : List Value).toArray below meth c 0 0 (MQ below (zQi B D aC post) ([.ref (B + a0), .int i1, .int i2] : List Value).toArray s 0 0 (zAb B)) B D aC 5 35 [(0, .ref (B + a0)), (1, .int i1), (2, .int i2), (3, .int v3), (4, .int v4)] [] M)
  have h := h (by
    intro v3 v4 M h
    refine a_iload fx 4 d_Mo_sumOf_5 rfl ?_
    refine a_iload_n fx 2 d_Mo_sumOf_7 rfl rfl ?_
    refine a_icmp_ge fx 32 d_Mo_sumOf_8 rfl (fun hc => ?_) (fun hc => ?_)
    · have h := h.1 hc
      refine a_iload_n fx 2 d_Mo_sumOf_32 rfl rfl ?_
      refine a_istore (lv2 := [(4, .int i2), (0, .ref (B + a0)), (1, .int i1), (2, .int i2), (3, .int v3)]) fx d_Mo_sumOf_33 (by decide) rfl ?_
      refine a_sub [1, 2, 3, 4, 0] rfl ?_
      exact h
    · have h := h.2 hc
      refine a_iload_n fx 3 d_Mo_sumOf_11 rfl rfl ?_
      refine a_aload_n fx 0 d_Mo_sumOf_12 rfl rfl ?_
      refine a_iload_n fx 1 d_Mo_sumOf_13 rfl rfl ?_
      refine a_iload fx 4 d_Mo_sumOf_14 rfl ?_
      refine a_iadd fx d_Mo_sumOf_16 ?_
      obtain ⟨hin, h⟩ := h
      refine a_bald fx hk0 ht0 hin d_Mo_sumOf_17 ?_
      refine a_sipush (v := 255) fx d_Mo_sumOf_18 rfl ?_
      refine a_iand fx d_Mo_sumOf_21 ?_
      refine a_calli (rest := []) (a_runS (As := [.int v3, .int ((M.1 a0 ((i1 + v4)).toNatClampNeg) &&& 255)]) fx  cv_Mo_step w_1545 (Met_Mo_step l B D aC aS  h) rfl rfl (Nat.le_of_ble_eq_true rfl) rfl rfl ⟨Nat.le_of_ble_eq_true rfl, Nat.le_of_ble_eq_true rfl⟩ d_Mo_sumOf_22 ⟨Nat.le_of_ble_eq_true rfl, Nat.le_of_ble_eq_true rfl⟩) (fun x2 M1 h => ?_)
      refine a_istore_n (lv2 := [(3, .int x2), (0, .ref (B + a0)), (1, .int i1), (2, .int i2), (4, .int v4)]) fx d_Mo_sumOf_25 rfl (by decide) rfl ?_
      obtain ⟨x3, ex3⟩ : ∃ z : Int32, z = v4 + 1 := ⟨_, rfl⟩
      have h := h x3 ex3
      refine a_iinc (lv2 := [(4, .int x3), (3, .int x2), (0, .ref (B + a0)), (1, .int i1), (2, .int i2)]) fx 4 d_Mo_sumOf_26 rfl ex3.symm (by decide) rfl ?_
      refine a_goto fx 5 d_Mo_sumOf_29 rfl ?_
      refine a_sub [2, 3, 4, 1, 0] rfl ?_
      exact h)
  have h := h (by
    intro v3 v4 M h
    refine a_iload fx 4 d_Mo_sumOf_35 rfl ?_
    refine a_if_le fx 61 d_Mo_sumOf_37 rfl (fun hc => ?_) (fun hc => ?_)
    · have h := h.1 hc
      refine a_iload_n fx 3 d_Mo_sumOf_61 rfl rfl ?_
      refine a_iconst (v := (-1)) fx d_Mo_sumOf_62 rfl ?_
      refine a_ixor fx d_Mo_sumOf_63 ?_
      exact a_iret fx hlo hr h d_Mo_sumOf_64
    · have h := h.2 hc
      refine a_iload_n fx 3 d_Mo_sumOf_40 rfl rfl ?_
      refine a_iload fx 4 d_Mo_sumOf_41 rfl ?_
      refine a_sipush (v := 255) fx d_Mo_sumOf_43 rfl ?_
      refine a_iand fx d_Mo_sumOf_46 ?_
      refine a_calli (rest := []) (a_runS (As := [.int v3, .int (v4 &&& 255)]) fx  cv_Mo_step w_1545 (Met_Mo_step l B D aC aS  h) rfl rfl (Nat.le_of_ble_eq_true rfl) rfl rfl ⟨Nat.le_of_ble_eq_true rfl, Nat.le_of_ble_eq_true rfl⟩ d_Mo_sumOf_47 ⟨Nat.le_of_ble_eq_true rfl, Nat.le_of_ble_eq_true rfl⟩) (fun x5 M4 h => ?_)
      refine a_istore_n (lv2 := [(3, .int x5), (0, .ref (B + a0)), (1, .int i1), (2, .int i2), (4, .int v4)]) fx d_Mo_sumOf_50 rfl (by decide) rfl ?_
      refine a_iload fx 4 d_Mo_sumOf_51 rfl ?_
      refine a_bipush (v := 8) fx d_Mo_sumOf_53 rfl ?_
      refine a_ishr fx d_Mo_sumOf_55 ?_
      refine a_topi (fun x6 ex6 => ?_)
      have h := h x6 ex6
      refine a_istore (lv2 := [(4, .int x6), (3, .int x5), (0, .ref (B + a0)), (1, .int i1), (2, .int i2)]) fx d_Mo_sumOf_56 (by decide) rfl ?_
      refine a_goto fx 35 d_Mo_sumOf_58 rfl ?_
      refine a_sub [2, 3, 4, 1, 0] rfl ?_
      exact h)
  refine a_iconst (v := 0) fx d_Mo_sumOf_0 rfl ?_
  refine a_istore_n (lv2 := [(3, .int 0), (0, .ref (B + a0)), (1, .int i1), (2, .int i2)]) fx d_Mo_sumOf_1 rfl (by decide) rfl ?_
  refine a_iconst (v := 0) fx d_Mo_sumOf_2 rfl ?_
  refine a_istore (lv2 := [(4, .int 0), (3, .int 0), (0, .ref (B + a0)), (1, .int i1), (2, .int i2)]) fx d_Mo_sumOf_3 (by decide) rfl ?_
  refine a_sub [2, 3, 4, 1, 0] rfl ?_
  exact h
set_option maxRecDepth 100000 in
set_option maxHeartbeats 4000000 in
theorem Met_Mo_checksum (l : Launch) (B : Nat) (D : va_G) (aC : Nat → ClassId) (aS : Nat → Nat) {a0 : Nat} {M : zM} {post : Int32 → zM → Prop} (hk0 : a0 < N0) (ht0 : tg a0 = 9) (h : Wp_Mo_checksum a0 M post) : Met l y_Mo_checksum (wo y_Mo_checksum b_Mo_checksum 2 (some FieldType.int)) { frames := 2, cells := 0, slots := 0, locals := 47 } (va_Pc [.ref (B + a0)] (zWl B D aC aS M)) (zQi B D aC post) 0 0 (zAb B) := by
  refine z_met (own := "MailChainModel") (lv0 := [(0, .ref (B + a0))]) (by decide) rfl (Nat.le_of_ble_eq_true rfl) rfl ?_
  intro p e s m below meth c fx hr hlo
  delta Wp_Mo_checksum at h
  refine a_aload_n fx 0 d_Mo_checksum_0 rfl rfl ?_
  refine a_iconst (v := 0) fx d_Mo_checksum_1 rfl ?_
  refine a_putI fx (T := F_Mo) (ty0 := t_Mo) (j := 6) (hk := hk0) (ht := ht0) (ht2 := by decide) (hc := rfl) (hin := u_in_Mo) (hty := t_Mo_ok) (hnm := n_Mo) (hj := by decide) (hj2 := by decide) (hf := rfl) (hT := rfl) (hfin := rfl) (hn := rfl) (hfit := rfl) (hw := w_1275) (hd := d_Mo_checksum_2) (kk := a_mem (fun M1 eM1 => ?_))
  have h := h M1 eM1
  refine a_aload_n fx 0 d_Mo_checksum_5 rfl rfl ?_
  refine a_getS fx (T := F_Mo) (j := 8) (hk := hk0) (ht := ht0) (ht2 := by decide) (hc := rfl) (hin := u_in_Mo) (hj := by decide) (hj2 := by decide) (hf := rfl) (n9 := 7) (hfo := rfl) (hT := rfl) (hw := w_1277) (hd := d_Mo_checksum_6) (kk := ?_)
  refine a_iconst (v := 0) fx d_Mo_checksum_9 rfl ?_
  refine a_aload_n fx 0 d_Mo_checksum_10 rfl rfl ?_
  refine a_getI fx (T := F_Mo) (j := 7) (hk := hk0) (ht := ht0) (ht2 := by decide) (hc := rfl) (hin := u_in_Mo) (hj := by decide) (hj2 := by decide) (hf := rfl) (hT := rfl) (hw := w_1276) (hd := d_Mo_checksum_11) (kk := ?_)
  refine a_calli (rest := []) (a_runS (As := [.ref (B + (a0 + 7)), .int 0, .int (M1.1 a0 7)]) fx  cv_Mo_sumOf w_1542 (Met_Mo_sumOf l B D aC aS (hk0 := (lo_9_8 hk0 ht0).1) (ht0 := (lo_9_8 hk0 ht0).2) h) rfl rfl (Nat.le_of_ble_eq_true rfl) rfl rfl ⟨Nat.le_of_ble_eq_true rfl, Nat.le_of_ble_eq_true rfl⟩ d_Mo_checksum_14 ⟨Nat.le_of_ble_eq_true rfl, Nat.le_of_ble_eq_true rfl⟩) (fun x3 M2 h => ?_)
  refine a_istore_n (lv2 := [(1, .int x3), (0, .ref (B + a0))]) fx d_Mo_checksum_17 rfl (by decide) rfl ?_
  refine a_aload_n fx 1 d_Mo_checksum_18 rfl rfl ?_
  refine a_iconst (v := 0) fx d_Mo_checksum_19 rfl ?_
  refine a_putI fx (T := F_Mo) (ty0 := t_Mo) (j := 7) (hk := hk0) (ht := ht0) (ht2 := by decide) (hc := rfl) (hin := u_in_Mo) (hty := t_Mo_ok) (hnm := n_Mo) (hj := by decide) (hj2 := by decide) (hf := rfl) (hT := rfl) (hfin := rfl) (hn := rfl) (hfit := rfl) (hw := w_1276) (hd := d_Mo_checksum_20) (kk := a_mem (fun M4 eM4 => ?_))
  have h := h M4 eM4
  refine a_iload_n fx 0 d_Mo_checksum_23 rfl rfl ?_
  exact a_iret fx hlo hr h d_Mo_checksum_24
set_option maxRecDepth 100000 in
set_option maxHeartbeats 4000000 in
theorem Met_Mo_pack (l : Launch) (B : Nat) (D : va_G) (aC : Nat → ClassId) (aS : Nat → Nat) {a0 : Nat} {i1 : Int32} {i2 : Int32} {M : zM} {post : Int32 → zM → Prop} (hk0 : a0 < N0) (ht0 : tg a0 = 9) (h : Wp_Mo_pack a0 i1 i2 M post) : Met l y_Mo_pack (wo y_Mo_pack b_Mo_pack 5 (some FieldType.int)) { frames := 4, cells := 0, slots := 0, locals := 97 } (va_Pc [.ref (B + a0), .int i1, .int i2] (zWl B D aC aS M)) (zQi B D aC post) 0 0 (zAb B) := by
  refine z_met (own := "MailChainModel") (lv0 := [(0, .ref (B + a0)), (1, .int i1), (2, .int i2)]) (by decide) rfl (Nat.le_of_ble_eq_true rfl) rfl ?_
  intro p e s m below meth c fx hr hlo
  delta Wp_Mo_pack at h
  have h := h (fun w0 w1 M => zAt p l e { frames := 4, cells := 0, slots := 0, locals := 97 } s m ([.ref (B + a0), .int i1, .int i2] : List Value).toArray below meth c 0 0 (MQ below (zQi B D aC post) ([.ref (B + a0), .int i1, .int i2] : List Value).toArray s 0 0 (zAb B)) B D aC 5 31 [(0, .ref (B + a0)), (1, .int i1), (2, .int i2)] [.int w0, .ref (B + w1)] M)
  have h := h (fun v3 v4 M => zAt p l e { frames := 4, cells := 0, slots := 0, locals := 97 } s m ([.ref (B + a0), .int i1, .int i2] : List Value).toArray below meth c 0 0 (MQ below (zQi B D aC post) ([.ref (B + a0), .int i1, .int i2] : List Value).toArray s 0 0 (zAb B)) B D aC 5 125 [(0, .ref (B + a0)), (1, .int i1), (2, .int i2), (3, .int v3), (4, .int v4)] [] M)
  have h := h (fun v3 v4 M => zAt p l e { frames := 4, cells := 0, slots := 0, locals := 97 } s m ([.ref (B + a0), .int i1, .int i2] : List Value).toArray below meth c 0 0 (MQ below (zQi B D aC post) ([.ref (B + a0), .int i1, .int i2] : List Value).toArray s 0 0 (zAb B)) B D aC 5 165 [(0, .ref (B + a0)), (1, .int i1), (2, .int i2), (3, .int v3), (4, .int v4)] [] M)
  have h := h (by
    intro w0 w1 M h
    obtain ⟨hk_w1, ht_w1, h⟩ := h
    refine a_putI fx (T := F_Mo) (ty0 := t_Mo) (j := 6) (hk := hk_w1) (ht := ht_w1) (ht2 := by decide) (hc := rfl) (hin := u_in_Mo) (hty := t_Mo_ok) (hnm := n_Mo) (hj := by decide) (hj2 := by decide) (hf := rfl) (hT := rfl) (hfin := rfl) (hn := rfl) (hfit := rfl) (hw := w_1275) (hd := d_Mo_pack_31) (kk := a_mem (fun M1 eM1 => ?_))
    have h := h M1 eM1
    refine a_aload_n fx 0 d_Mo_pack_34 rfl rfl ?_
    refine a_getI fx (T := F_Mo) (j := 6) (hk := hk0) (ht := ht0) (ht2 := by decide) (hc := rfl) (hin := u_in_Mo) (hj := by decide) (hj2 := by decide) (hf := rfl) (hT := rfl) (hw := w_1275) (hd := d_Mo_pack_35) (kk := ?_)
    refine a_if_le fx 43 d_Mo_pack_38 rfl (fun hc => ?_) (fun hc => ?_)
    · have h := h.1 hc
      refine a_aload_n fx 0 d_Mo_pack_43 rfl rfl ?_
      refine a_iconst (v := 0) fx d_Mo_pack_44 rfl ?_
      refine a_calli (rest := []) (a_runV (As := [.int 0]) fx cv_Mo_isLarge w_1553 (Met_Mo_isLarge l B D aC aS (hk0 := hk0) (ht0 := ht0) h) hk0 ht0 (by decide) rfl rfl rfl (Nat.le_of_ble_eq_true rfl) rfl rfl ⟨Nat.le_of_ble_eq_true rfl, Nat.le_of_ble_eq_true rfl⟩ d_Mo_pack_45 ⟨Nat.le_of_ble_eq_true rfl, Nat.le_of_ble_eq_true rfl⟩) (fun x3 M2 h => ?_)
      refine a_if_eq fx 53 d_Mo_pack_48 rfl (fun hc => ?_) (fun hc => ?_)
      · have h := h.1 hc
        refine a_aload_n fx 0 d_Mo_pack_53 rfl rfl ?_
        refine a_iconst (v := 0) fx d_Mo_pack_54 rfl ?_
        refine a_callv (rest := []) (a_runV (As := [.int 0]) fx cv_Mo_archiveOf w_1558 (Met_Mo_archiveOf l B D aC aS (hk0 := hk0) (ht0 := ht0) h) hk0 ht0 (by decide) rfl rfl rfl (Nat.le_of_ble_eq_true rfl) rfl rfl ⟨Nat.le_of_ble_eq_true rfl, Nat.le_of_ble_eq_true rfl⟩ d_Mo_pack_55 ⟨Nat.le_of_ble_eq_true rfl, Nat.le_of_ble_eq_true rfl⟩) (fun M4 h => ?_)
        refine a_aload_n fx 0 d_Mo_pack_58 rfl rfl ?_
        refine a_aload_n fx 0 d_Mo_pack_59 rfl rfl ?_
        refine a_getS fx (T := F_Mo) (j := 26) (hk := hk0) (ht := ht0) (ht2 := by decide) (hc := rfl) (hin := u_in_Mo) (hj := by decide) (hj2 := by decide) (hf := rfl) (n9 := 22) (hfo := rfl) (hT := rfl) (hw := w_1295) (hd := d_Mo_pack_60) (kk := ?_)
        refine a_aload_n fx 0 d_Mo_pack_63 rfl rfl ?_
        refine a_getI fx (T := F_Mo) (j := 25) (hk := hk0) (ht := ht0) (ht2 := by decide) (hc := rfl) (hin := u_in_Mo) (hj := by decide) (hj2 := by decide) (hf := rfl) (hT := rfl) (hw := w_1294) (hd := d_Mo_pack_64) (kk := ?_)
        refine a_iload_n fx 1 d_Mo_pack_67 rfl rfl ?_
        refine a_callv (rest := []) (a_runV (As := [.ref (B + (a0 + 22)), .int (M4.1 a0 25), .int i1]) fx cv_Mo_compressRow w_1586 (Met_Mo_compressRow l B D aC aS (hk0 := hk0) (ht0 := ht0) (hk1 := (lo_9_26 hk0 ht0).1) (ht1 := (lo_9_26 hk0 ht0).2) h) hk0 ht0 (by decide) rfl rfl rfl (Nat.le_of_ble_eq_true rfl) rfl rfl ⟨Nat.le_of_ble_eq_true rfl, Nat.le_of_ble_eq_true rfl⟩ d_Mo_pack_68 ⟨Nat.le_of_ble_eq_true rfl, Nat.le_of_ble_eq_true rfl⟩) (fun M5 h => ?_)
        refine a_aload_n fx 0 d_Mo_pack_71 rfl rfl ?_
        refine a_aload_n fx 0 d_Mo_pack_72 rfl rfl ?_
        refine a_getS fx (T := F_Mo) (j := 28) (hk := hk0) (ht := ht0) (ht2 := by decide) (hc := rfl) (hin := u_in_Mo) (hj := by decide) (hj2 := by decide) (hf := rfl) (n9 := 23) (hfo := rfl) (hT := rfl) (hw := w_1297) (hd := d_Mo_pack_73) (kk := ?_)
        refine a_aload_n fx 0 d_Mo_pack_76 rfl rfl ?_
        refine a_getI fx (T := F_Mo) (j := 27) (hk := hk0) (ht := ht0) (ht2 := by decide) (hc := rfl) (hin := u_in_Mo) (hj := by decide) (hj2 := by decide) (hf := rfl) (hT := rfl) (hw := w_1296) (hd := d_Mo_pack_77) (kk := ?_)
        refine a_callv (rest := []) (a_runV (As := [.ref (B + (a0 + 23)), .int (M5.1 a0 27)]) fx cv_Mo_spellRow w_1611 (Met_Mo_spellRow l B D aC aS (hk0 := hk0) (ht0 := ht0) (hk1 := (lo_9_28 hk0 ht0).1) (ht1 := (lo_9_28 hk0 ht0).2) h) hk0 ht0 (by decide) rfl rfl rfl (Nat.le_of_ble_eq_true rfl) rfl rfl ⟨Nat.le_of_ble_eq_true rfl, Nat.le_of_ble_eq_true rfl⟩ d_Mo_pack_80 ⟨Nat.le_of_ble_eq_true rfl, Nat.le_of_ble_eq_true rfl⟩) (fun M6 h => ?_)
        refine a_aload_n fx 0 d_Mo_pack_83 rfl rfl ?_
        refine a_getI fx (T := F_Mo) (j := 29) (hk := hk0) (ht := ht0) (ht2 := by decide) (hc := rfl) (hin := u_in_Mo) (hj := by decide) (hj2 := by decide) (hf := rfl) (hT := rfl) (hw := w_1298) (hd := d_Mo_pack_84) (kk := ?_)
        refine a_iload_n fx 2 d_Mo_pack_87 rfl rfl ?_
        refine a_iadd fx d_Mo_pack_88 ?_
        refine a_iconst (v := 1) fx d_Mo_pack_89 rfl ?_
        refine a_isub fx d_Mo_pack_90 ?_
        refine a_iload_n fx 2 d_Mo_pack_91 rfl rfl ?_
        obtain ⟨hne, h⟩ := h
        refine a_idiv fx d_Mo_pack_92 hne ?_
        refine a_topi (fun x7 ex7 => ?_)
        have h := h x7 ex7
        refine a_istore_n (lv2 := [(3, .int x7), (0, .ref (B + a0)), (1, .int i1), (2, .int i2)]) fx d_Mo_pack_93 rfl (by decide) rfl ?_
        refine a_iload_n fx 0 d_Mo_pack_94 rfl rfl ?_
        refine a_sipush (v := 999) fx d_Mo_pack_95 rfl ?_
        refine a_icmp_le fx 104 d_Mo_pack_98 rfl (fun hc => ?_) (fun hc => ?_)
        · have h := h.1 hc
          refine a_aload_n fx 1 d_Mo_pack_104 rfl rfl ?_
          refine a_iload_n fx 0 d_Mo_pack_105 rfl rfl ?_
          refine a_putI fx (T := F_Mo) (ty0 := t_Mo) (j := 31) (hk := hk0) (ht := ht0) (ht2 := by decide) (hc := rfl) (hin := u_in_Mo) (hty := t_Mo_ok) (hnm := n_Mo) (hj := by decide) (hj2 := by decide) (hf := rfl) (hT := rfl) (hfin := rfl) (hn := rfl) (hfit := rfl) (hw := w_1300) (hd := d_Mo_pack_106) (kk := a_mem (fun M8 eM8 => ?_))
          have h := h M8 eM8
          refine a_aload_n fx 1 d_Mo_pack_109 rfl rfl ?_
          refine a_iload_n fx 3 d_Mo_pack_110 rfl rfl ?_
          refine a_putI fx (T := F_Mo) (ty0 := t_Mo) (j := 32) (hk := hk0) (ht := ht0) (ht2 := by decide) (hc := rfl) (hin := u_in_Mo) (hty := t_Mo_ok) (hnm := n_Mo) (hj := by decide) (hj2 := by decide) (hf := rfl) (hT := rfl) (hfin := rfl) (hn := rfl) (hfit := rfl) (hw := w_1301) (hd := d_Mo_pack_111) (kk := a_mem (fun M9 eM9 => ?_))
          have h := h M9 eM9
          refine a_aload_n fx 1 d_Mo_pack_114 rfl rfl ?_
          refine a_aload_n fx 1 d_Mo_pack_115 rfl rfl ?_
          refine a_getI fx (T := F_Mo) (j := 27) (hk := hk0) (ht := ht0) (ht2 := by decide) (hc := rfl) (hin := u_in_Mo) (hj := by decide) (hj2 := by decide) (hf := rfl) (hT := rfl) (hw := w_1296) (hd := d_Mo_pack_116) (kk := ?_)
          refine a_putI fx (T := F_Mo) (ty0 := t_Mo) (j := 33) (hk := hk0) (ht := ht0) (ht2 := by decide) (hc := rfl) (hin := u_in_Mo) (hty := t_Mo_ok) (hnm := n_Mo) (hj := by decide) (hj2 := by decide) (hf := rfl) (hT := rfl) (hfin := rfl) (hn := rfl) (hfit := rfl) (hw := w_1302) (hd := d_Mo_pack_119) (kk := a_mem (fun M10 eM10 => ?_))
          have h := h M10 eM10
          refine a_iconst (v := 0) fx d_Mo_pack_122 rfl ?_
          refine a_istore (lv2 := [(4, .int 0), (3, .int x7), (0, .ref (B + a0)), (1, .int i1), (2, .int i2)]) fx d_Mo_pack_123 (by decide) rfl ?_
          refine a_sub [2, 3, 4, 1, 0] rfl ?_
          exact h
        · have h := h.2 hc
          refine a_bipush (v := (-2)) fx d_Mo_pack_101 rfl ?_
          exact a_iret fx hlo hr h d_Mo_pack_103
      · have h := h.2 hc
        refine a_iconst (v := (-1)) fx d_Mo_pack_51 rfl ?_
        exact a_iret fx hlo hr h d_Mo_pack_52
    · have h := h.2 hc
      refine a_iconst (v := 0) fx d_Mo_pack_41 rfl ?_
      exact a_iret fx hlo hr h d_Mo_pack_42)
  have h := h (by
    intro v3 v4 M h
    refine a_iload fx 4 d_Mo_pack_125 rfl ?_
    refine a_aload_n fx 0 d_Mo_pack_127 rfl rfl ?_
    refine a_getI fx (T := F_Mo) (j := 27) (hk := hk0) (ht := ht0) (ht2 := by decide) (hc := rfl) (hin := u_in_Mo) (hj := by decide) (hj2 := by decide) (hf := rfl) (hT := rfl) (hw := w_1296) (hd := d_Mo_pack_128) (kk := ?_)
    refine a_icmp_ge fx 154 d_Mo_pack_131 rfl (fun hc => ?_) (fun hc => ?_)
    · have h := h.1 hc
      refine a_aload_n fx 0 d_Mo_pack_154 rfl rfl ?_
      refine a_aload_n fx 0 d_Mo_pack_155 rfl rfl ?_
      refine a_getI fx (T := F_Mo) (j := 29) (hk := hk0) (ht := ht0) (ht2 := by decide) (hc := rfl) (hin := u_in_Mo) (hj := by decide) (hj2 := by decide) (hf := rfl) (hT := rfl) (hw := w_1298) (hd := d_Mo_pack_156) (kk := ?_)
      refine a_putI fx (T := F_Mo) (ty0 := t_Mo) (j := 35) (hk := hk0) (ht := ht0) (ht2 := by decide) (hc := rfl) (hin := u_in_Mo) (hty := t_Mo_ok) (hnm := n_Mo) (hj := by decide) (hj2 := by decide) (hf := rfl) (hT := rfl) (hfin := rfl) (hn := rfl) (hfit := rfl) (hw := w_1304) (hd := d_Mo_pack_159) (kk := a_mem (fun M11 eM11 => ?_))
      have h := h M11 eM11
      refine a_iconst (v := 0) fx d_Mo_pack_162 rfl ?_
      refine a_istore (lv2 := [(4, .int 0), (0, .ref (B + a0)), (1, .int i1), (2, .int i2), (3, .int v3)]) fx d_Mo_pack_163 (by decide) rfl ?_
      refine a_sub [1, 2, 3, 4, 0] rfl ?_
      exact h
    · have h := h.2 hc
      refine a_aload_n fx 0 d_Mo_pack_134 rfl rfl ?_
      refine a_getS fx (T := F_Mo) (j := 34) (hk := hk0) (ht := ht0) (ht2 := by decide) (hc := rfl) (hin := u_in_Mo) (hj := by decide) (hj2 := by decide) (hf := rfl) (n9 := 25) (hfo := rfl) (hT := rfl) (hw := w_1303) (hd := d_Mo_pack_135) (kk := ?_)
      refine a_iload fx 4 d_Mo_pack_138 rfl ?_
      refine a_aload_n fx 0 d_Mo_pack_140 rfl rfl ?_
      refine a_getS fx (T := F_Mo) (j := 28) (hk := hk0) (ht := ht0) (ht2 := by decide) (hc := rfl) (hin := u_in_Mo) (hj := by decide) (hj2 := by decide) (hf := rfl) (n9 := 23) (hfo := rfl) (hT := rfl) (hw := w_1297) (hd := d_Mo_pack_141) (kk := ?_)
      refine a_iload fx 4 d_Mo_pack_144 rfl ?_
      obtain ⟨hin, h⟩ := h
      refine a_bald fx (lo_9_28 hk0 ht0).1 (lo_9_28 hk0 ht0).2 hin d_Mo_pack_146 ?_
      obtain ⟨hin, h⟩ := h
      refine a_bast fx (lo_9_34 hk0 ht0).1 (lo_9_34 hk0 ht0).2 hin d_Mo_pack_147 (a_mem (fun M12 eM12 => ?_))
      have h := h M12 eM12
      obtain ⟨x13, ex13⟩ : ∃ z : Int32, z = v4 + 1 := ⟨_, rfl⟩
      have h := h x13 ex13
      refine a_iinc (lv2 := [(4, .int x13), (0, .ref (B + a0)), (1, .int i1), (2, .int i2), (3, .int v3)]) fx 4 d_Mo_pack_148 rfl ex13.symm (by decide) rfl ?_
      refine a_goto fx 125 d_Mo_pack_151 rfl ?_
      refine a_sub [1, 2, 3, 4, 0] rfl ?_
      exact h)
  have h := h (by
    intro v3 v4 M h
    refine a_iload fx 4 d_Mo_pack_165 rfl ?_
    refine a_aload_n fx 0 d_Mo_pack_167 rfl rfl ?_
    refine a_getI fx (T := F_Mo) (j := 29) (hk := hk0) (ht := ht0) (ht2 := by decide) (hc := rfl) (hin := u_in_Mo) (hj := by decide) (hj2 := by decide) (hf := rfl) (hT := rfl) (hw := w_1298) (hd := d_Mo_pack_168) (kk := ?_)
    refine a_icmp_ge fx 194 d_Mo_pack_171 rfl (fun hc => ?_) (fun hc => ?_)
    · have h := h.1 hc
      refine a_iload_n fx 3 d_Mo_pack_194 rfl rfl ?_
      exact a_iret fx hlo hr h d_Mo_pack_195
    · have h := h.2 hc
      refine a_aload_n fx 0 d_Mo_pack_174 rfl rfl ?_
      refine a_getS fx (T := F_Mo) (j := 36) (hk := hk0) (ht := ht0) (ht2 := by decide) (hc := rfl) (hin := u_in_Mo) (hj := by decide) (hj2 := by decide) (hf := rfl) (n9 := 26) (hfo := rfl) (hT := rfl) (hw := w_1305) (hd := d_Mo_pack_175) (kk := ?_)
      refine a_iload fx 4 d_Mo_pack_178 rfl ?_
      refine a_aload_n fx 0 d_Mo_pack_180 rfl rfl ?_
      refine a_getS fx (T := F_Mo) (j := 30) (hk := hk0) (ht := ht0) (ht2 := by decide) (hc := rfl) (hin := u_in_Mo) (hj := by decide) (hj2 := by decide) (hf := rfl) (n9 := 24) (hfo := rfl) (hT := rfl) (hw := w_1299) (hd := d_Mo_pack_181) (kk := ?_)
      refine a_iload fx 4 d_Mo_pack_184 rfl ?_
      obtain ⟨hin, h⟩ := h
      refine a_bald fx (lo_9_30 hk0 ht0).1 (lo_9_30 hk0 ht0).2 hin d_Mo_pack_186 ?_
      obtain ⟨hin, h⟩ := h
      refine a_bast fx (lo_9_36 hk0 ht0).1 (lo_9_36 hk0 ht0).2 hin d_Mo_pack_187 (a_mem (fun M14 eM14 => ?_))
      have h := h M14 eM14
      obtain ⟨x15, ex15⟩ : ∃ z : Int32, z = v4 + 1 := ⟨_, rfl⟩
      have h := h x15 ex15
      refine a_iinc (lv2 := [(4, .int x15), (0, .ref (B + a0)), (1, .int i1), (2, .int i2), (3, .int v3)]) fx 4 d_Mo_pack_188 rfl ex15.symm (by decide) rfl ?_
      refine a_goto fx 165 d_Mo_pack_191 rfl ?_
      refine a_sub [1, 2, 3, 4, 0] rfl ?_
      exact h)
  refine a_aload_n fx 0 d_Mo_pack_0 rfl rfl ?_
  refine a_iload_n fx 1 d_Mo_pack_1 rfl rfl ?_
  refine a_bipush (v := 9) fx d_Mo_pack_2 rfl ?_
  refine a_icmp_lt fx 26 d_Mo_pack_4 rfl (fun hc => ?_) (fun hc => ?_)
  · have h := h.1 hc
    refine a_iconst (v := 1) fx d_Mo_pack_26 rfl ?_
    refine a_goto fx 31 d_Mo_pack_27 rfl ?_
    refine a_sub [0, 1, 2] rfl ?_
    exact h
  · have h := h.2 hc
    refine a_iload_n fx 1 d_Mo_pack_7 rfl rfl ?_
    refine a_bipush (v := 16) fx d_Mo_pack_8 rfl ?_
    refine a_icmp_gt fx 26 d_Mo_pack_10 rfl (fun hc => ?_) (fun hc => ?_)
    · have h := h.1 hc
      refine a_iconst (v := 1) fx d_Mo_pack_26 rfl ?_
      refine a_goto fx 31 d_Mo_pack_27 rfl ?_
      refine a_sub [0, 1, 2] rfl ?_
      exact h
    · have h := h.2 hc
      refine a_iload_n fx 2 d_Mo_pack_13 rfl rfl ?_
      refine a_bipush (v := 40) fx d_Mo_pack_14 rfl ?_
      refine a_icmp_lt fx 26 d_Mo_pack_16 rfl (fun hc => ?_) (fun hc => ?_)
      · have h := h.1 hc
        refine a_iconst (v := 1) fx d_Mo_pack_26 rfl ?_
        refine a_goto fx 31 d_Mo_pack_27 rfl ?_
        refine a_sub [0, 1, 2] rfl ?_
        exact h
      · have h := h.2 hc
        refine a_iload_n fx 2 d_Mo_pack_19 rfl rfl ?_
        refine a_sipush (v := 4000) fx d_Mo_pack_20 rfl ?_
        refine a_icmp_le fx 30 d_Mo_pack_23 rfl (fun hc => ?_) (fun hc => ?_)
        · have h := h.1 hc
          refine a_iconst (v := 0) fx d_Mo_pack_30 rfl ?_
          refine a_sub [0, 1, 2] rfl ?_
          exact h
        · have h := h.2 hc
          refine a_iconst (v := 1) fx d_Mo_pack_26 rfl ?_
          refine a_goto fx 31 d_Mo_pack_27 rfl ?_
          refine a_sub [0, 1, 2] rfl ?_
          exact h
set_option maxRecDepth 100000 in
set_option maxHeartbeats 4000000 in
theorem Met_Mo_putChar (l : Launch) (B : Nat) (D : va_G) (aC : Nat → ClassId) (aS : Nat → Nat) {a0 : Nat} {i1 : Int32} {M : zM} {post : zM → Prop} (hk0 : a0 < N0) (ht0 : tg a0 = 9) (h : Wp_Mo_putChar a0 i1 M post) : Met l y_Mo_putChar (wo y_Mo_putChar b_Mo_putChar 2 none) { frames := 0, cells := 0, slots := 0, locals := 0 } (va_Pc [.ref (B + a0), .int i1] (zWl B D aC aS M)) (zQv B D aC post) 0 0 (zAb B) := by
  refine z_met (own := "MailChainModel") (lv0 := [(0, .ref (B + a0)), (1, .int i1)]) (by decide) rfl (Nat.le_of_ble_eq_true rfl) rfl ?_
  intro p e s m below meth c fx hr hlo
  delta Wp_Mo_putChar at h
  refine a_aload_n fx 0 d_Mo_putChar_0 rfl rfl ?_
  refine a_getS fx (T := F_Mo) (j := 60) (hk := hk0) (ht := ht0) (ht2 := by decide) (hc := rfl) (hin := u_in_Mo) (hj := by decide) (hj2 := by decide) (hf := rfl) (n9 := 37) (hfo := rfl) (hT := rfl) (hw := w_1329) (hd := d_Mo_putChar_1) (kk := ?_)
  refine a_aload_n fx 0 d_Mo_putChar_4 rfl rfl ?_
  refine a_getI fx (T := F_Mo) (j := 59) (hk := hk0) (ht := ht0) (ht2 := by decide) (hc := rfl) (hin := u_in_Mo) (hj := by decide) (hj2 := by decide) (hf := rfl) (hT := rfl) (hw := w_1328) (hd := d_Mo_putChar_5) (kk := ?_)
  refine a_iload_n fx 1 d_Mo_putChar_8 rfl rfl ?_
  refine a_i2b fx d_Mo_putChar_9 ?_
  obtain ⟨hin, h⟩ := h
  refine a_bast fx (lo_9_60 hk0 ht0).1 (lo_9_60 hk0 ht0).2 hin d_Mo_putChar_10 (a_mem (fun M1 eM1 => ?_))
  have h := h M1 eM1
  refine a_aload_n fx 0 d_Mo_putChar_11 rfl rfl ?_
  refine a_dup fx d_Mo_putChar_12 rfl ?_
  refine a_getI fx (T := F_Mo) (j := 59) (hk := hk0) (ht := ht0) (ht2 := by decide) (hc := rfl) (hin := u_in_Mo) (hj := by decide) (hj2 := by decide) (hf := rfl) (hT := rfl) (hw := w_1328) (hd := d_Mo_putChar_13) (kk := ?_)
  refine a_iconst (v := 1) fx d_Mo_putChar_16 rfl ?_
  refine a_iadd fx d_Mo_putChar_17 ?_
  refine a_putI fx (T := F_Mo) (ty0 := t_Mo) (j := 59) (hk := hk0) (ht := ht0) (ht2 := by decide) (hc := rfl) (hin := u_in_Mo) (hty := t_Mo_ok) (hnm := n_Mo) (hj := by decide) (hj2 := by decide) (hf := rfl) (hT := rfl) (hfin := rfl) (hn := rfl) (hfit := rfl) (hw := w_1328) (hd := d_Mo_putChar_18) (kk := a_mem (fun M2 eM2 => ?_))
  have h := h M2 eM2
  exact a_vret fx hlo hr h d_Mo_putChar_21
set_option maxRecDepth 100000 in
set_option maxHeartbeats 4000000 in
theorem Met_Mo_putWord (l : Launch) (B : Nat) (D : va_G) (aC : Nat → ClassId) (aS : Nat → Nat) {a0 : Nat} {a1 : Nat} {M : zM} {post : zM → Prop} (hk0 : a0 < N0) (ht0 : tg a0 = 9) (hk1 : a1 < N0) (ht1 : tg a1 = 20) (h : Wp_Mo_putWord a0 a1 M post) : Met l y_Mo_putWord (wo y_Mo_putWord b_Mo_putWord 3 none) { frames := 1, cells := 0, slots := 0, locals := 21 } (va_Pc [.ref (B + a0), .ref (B + a1)] (zWl B D aC aS M)) (zQv B D aC post) 0 0 (zAb B) := by
  refine z_met (own := "MailChainModel") (lv0 := [(0, .ref (B + a0)), (1, .ref (B + a1))]) (by decide) rfl (Nat.le_of_ble_eq_true rfl) rfl ?_
  intro p e s m below meth c fx hr hlo
  delta Wp_Mo_putWord at h
  have h := h (fun v2 M => zAt p l e { frames := 1, cells := 0, slots := 0, locals := 21 } s m ([.ref (B + a0), .ref (B + a1)] : List Value).toArray below meth c 0 0 (MQ below (zQv B D aC post) ([.ref (B + a0), .ref (B + a1)] : List Value).toArray s 0 0 (zAb B)) B D aC 3 2 [(0, .ref (B + a0)), (1, .ref (B + a1)), (2, .int v2)] [] M)
  have h := h (by
    intro v2 M h
    refine a_iload_n fx 2 d_Mo_putWord_2 rfl rfl ?_
    refine a_aload_n fx 1 d_Mo_putWord_3 rfl rfl ?_
    refine a_alen fx 0 hk1 ht1 (by decide) (by decide) rfl d_Mo_putWord_4 ?_
    refine a_icmp_ge fx 21 d_Mo_putWord_5 rfl (fun hc => ?_) (fun hc => ?_)
    · have h := h.1 hc
      exact a_vret fx hlo hr h d_Mo_putWord_21
    · have h := h.2 hc
      refine a_aload_n fx 0 d_Mo_putWord_8 rfl rfl ?_
      refine a_aload_n fx 1 d_Mo_putWord_9 rfl rfl ?_
      refine a_iload_n fx 2 d_Mo_putWord_10 rfl rfl ?_
      obtain ⟨hin, h⟩ := h
      refine a_bald fx hk1 ht1 hin d_Mo_putWord_11 ?_
      refine a_callv (rest := []) (a_runV (As := [.int (M.1 a1 (v2).toNatClampNeg)]) fx cv_Mo_putChar w_1635 (Met_Mo_putChar l B D aC aS (hk0 := hk0) (ht0 := ht0) h) hk0 ht0 (by decide) rfl rfl rfl (Nat.le_of_ble_eq_true rfl) rfl rfl ⟨Nat.le_of_ble_eq_true rfl, Nat.le_of_ble_eq_true rfl⟩ d_Mo_putWord_12 ⟨Nat.le_of_ble_eq_true rfl, Nat.le_of_ble_eq_true rfl⟩) (fun M1 h => ?_)
      obtain ⟨x2, ex2⟩ : ∃ z : Int32, z = v2 + 1 := ⟨_, rfl⟩
      have h := h x2 ex2
      refine a_iinc (lv2 := [(2, .int x2), (0, .ref (B + a0)), (1, .ref (B + a1))]) fx 2 d_Mo_putWord_15 rfl ex2.symm (by decide) rfl ?_
      refine a_goto fx 2 d_Mo_putWord_18 rfl ?_
      refine a_sub [1, 2, 0] rfl ?_
      exact h)
  refine a_iconst (v := 0) fx d_Mo_putWord_0 rfl ?_
  refine a_istore_n (lv2 := [(2, .int 0), (0, .ref (B + a0)), (1, .ref (B + a1))]) fx d_Mo_putWord_1 rfl (by decide) rfl ?_
  refine a_sub [1, 2, 0] rfl ?_
  exact h
set_option maxRecDepth 100000 in
set_option maxHeartbeats 4000000 in
theorem Met_Mo_putDecimal (l : Launch) (B : Nat) (D : va_G) (aC : Nat → ClassId) (aS : Nat → Nat) {a0 : Nat} {l1 : Int64} {M : zM} {post : zM → Prop} (hk0 : a0 < N0) (ht0 : tg a0 = 9) (h : Wp_Mo_putDecimal a0 l1 M post) : Met l y_Mo_putDecimal (wo y_Mo_putDecimal b_Mo_putDecimal 5 none) { frames := 0, cells := 0, slots := 0, locals := 0 } (va_Pc [.ref (B + a0), .long l1] (zWl B D aC aS M)) (zQv B D aC post) 0 0 (zAb B) := by
  refine z_met (own := "MailChainModel") (lv0 := [(0, .ref (B + a0)), (1, .long l1)]) (by decide) rfl (Nat.le_of_ble_eq_true rfl) rfl ?_
  intro p e s m below meth c fx hr hlo
  delta Wp_Mo_putDecimal at h
  have h := h (fun v3 M => zAt p l e { frames := 0, cells := 0, slots := 0, locals := 0 } s m ([.ref (B + a0), .long l1] : List Value).toArray below meth c 0 0 (MQ below (zQv B D aC post) ([.ref (B + a0), .long l1] : List Value).toArray s 0 0 (zAb B)) B D aC 5 2 [(0, .ref (B + a0)), (1, .long l1), (3, .long v3)] [] M)
  have h := h (fun v3 M => zAt p l e { frames := 0, cells := 0, slots := 0, locals := 0 } s m ([.ref (B + a0), .long l1] : List Value).toArray below meth c 0 0 (MQ below (zQv B D aC post) ([.ref (B + a0), .long l1] : List Value).toArray s 0 0 (zAb B)) B D aC 5 21 [(0, .ref (B + a0)), (1, .long l1), (3, .long v3)] [] M)
  have h := h (by
    intro v3 M h
    refine a_lload_n fx 2 d_Mo_putDecimal_2 rfl rfl ?_
    refine a_lload_n fx 1 d_Mo_putDecimal_3 rfl rfl ?_
    refine a_ldc2 fx w_1643 d_Mo_putDecimal_4 ?_
    refine a_ldiv fx d_Mo_putDecimal_7 (by decide) ?_
    refine a_lcmp fx d_Mo_putDecimal_8 ?_
    refine a_if_gt fx 21 d_Mo_putDecimal_9 rfl (fun hc => ?_) (fun hc => ?_)
    · have h := h.1 hc
      refine a_sub [0, 1, 2] rfl ?_
      exact h
    · have h := h.2 hc
      refine a_lload_n fx 2 d_Mo_putDecimal_12 rfl rfl ?_
      refine a_ldc2 fx w_1643 d_Mo_putDecimal_13 ?_
      refine a_lmul fx d_Mo_putDecimal_16 ?_
      refine a_topl (fun y1 ey1 => ?_)
      have h := h y1 ey1
      refine a_lstore_n (lv2 := [(3, .long y1), (0, .ref (B + a0)), (1, .long l1)]) fx d_Mo_putDecimal_17 rfl (by decide) rfl ?_
      refine a_goto fx 2 d_Mo_putDecimal_18 rfl ?_
      refine a_sub [1, 2, 0] rfl ?_
      exact h)
  have h := h (by
    intro v3 M h
    refine a_lload_n fx 2 d_Mo_putDecimal_21 rfl rfl ?_
    refine a_lconst (v := 0) fx d_Mo_putDecimal_22 rfl ?_
    refine a_lcmp fx d_Mo_putDecimal_23 ?_
    refine a_if_le fx 67 d_Mo_putDecimal_24 rfl (fun hc => ?_) (fun hc => ?_)
    · have h := h.1 hc
      exact a_vret fx hlo hr h d_Mo_putDecimal_67
    · have h := h.2 hc
      refine a_aload_n fx 0 d_Mo_putDecimal_27 rfl rfl ?_
      refine a_getS fx (T := F_Mo) (j := 60) (hk := hk0) (ht := ht0) (ht2 := by decide) (hc := rfl) (hin := u_in_Mo) (hj := by decide) (hj2 := by decide) (hf := rfl) (n9 := 37) (hfo := rfl) (hT := rfl) (hw := w_1329) (hd := d_Mo_putDecimal_28) (kk := ?_)
      refine a_aload_n fx 0 d_Mo_putDecimal_31 rfl rfl ?_
      refine a_getI fx (T := F_Mo) (j := 59) (hk := hk0) (ht := ht0) (ht2 := by decide) (hc := rfl) (hin := u_in_Mo) (hj := by decide) (hj2 := by decide) (hf := rfl) (hT := rfl) (hw := w_1328) (hd := d_Mo_putDecimal_32) (kk := ?_)
      refine a_bipush (v := 48) fx d_Mo_putDecimal_35 rfl ?_
      refine a_lload_n fx 1 d_Mo_putDecimal_37 rfl rfl ?_
      refine a_lload_n fx 2 d_Mo_putDecimal_38 rfl rfl ?_
      obtain ⟨hne, h⟩ := h
      refine a_ldiv fx d_Mo_putDecimal_39 hne ?_
      refine a_ldc2 fx w_1643 d_Mo_putDecimal_40 ?_
      refine a_lrem fx d_Mo_putDecimal_43 (by decide) ?_
      refine a_l2i fx d_Mo_putDecimal_44 ?_
      refine a_iadd fx d_Mo_putDecimal_45 ?_
      refine a_i2b fx d_Mo_putDecimal_46 ?_
      obtain ⟨hin, h⟩ := h
      refine a_bast fx (lo_9_60 hk0 ht0).1 (lo_9_60 hk0 ht0).2 hin d_Mo_putDecimal_47 (a_mem (fun M2 eM2 => ?_))
      have h := h M2 eM2
      refine a_aload_n fx 0 d_Mo_putDecimal_48 rfl rfl ?_
      refine a_dup fx d_Mo_putDecimal_49 rfl ?_
      refine a_getI fx (T := F_Mo) (j := 59) (hk := hk0) (ht := ht0) (ht2 := by decide) (hc := rfl) (hin := u_in_Mo) (hj := by decide) (hj2 := by decide) (hf := rfl) (hT := rfl) (hw := w_1328) (hd := d_Mo_putDecimal_50) (kk := ?_)
      refine a_iconst (v := 1) fx d_Mo_putDecimal_53 rfl ?_
      refine a_iadd fx d_Mo_putDecimal_54 ?_
      refine a_putI fx (T := F_Mo) (ty0 := t_Mo) (j := 59) (hk := hk0) (ht := ht0) (ht2 := by decide) (hc := rfl) (hin := u_in_Mo) (hty := t_Mo_ok) (hnm := n_Mo) (hj := by decide) (hj2 := by decide) (hf := rfl) (hT := rfl) (hfin := rfl) (hn := rfl) (hfit := rfl) (hw := w_1328) (hd := d_Mo_putDecimal_55) (kk := a_mem (fun M3 eM3 => ?_))
      have h := h M3 eM3
      refine a_lload_n fx 2 d_Mo_putDecimal_58 rfl rfl ?_
      refine a_ldc2 fx w_1643 d_Mo_putDecimal_59 ?_
      refine a_ldiv fx d_Mo_putDecimal_62 (by decide) ?_
      refine a_topl (fun y4 ey4 => ?_)
      have h := h y4 ey4
      refine a_lstore_n (lv2 := [(3, .long y4), (0, .ref (B + a0)), (1, .long l1)]) fx d_Mo_putDecimal_63 rfl (by decide) rfl ?_
      refine a_goto fx 21 d_Mo_putDecimal_64 rfl ?_
      refine a_sub [1, 2, 0] rfl ?_
      exact h)
  refine a_lconst (v := 1) fx d_Mo_putDecimal_0 rfl ?_
  refine a_lstore_n (lv2 := [(3, .long 1), (0, .ref (B + a0)), (1, .long l1)]) fx d_Mo_putDecimal_1 rfl (by decide) rfl ?_
  refine a_sub [1, 2, 0] rfl ?_
  exact h
set_option maxRecDepth 100000 in
set_option maxHeartbeats 4000000 in
theorem Met_Mo_writePart (l : Launch) (B : Nat) (D : va_G) (aC : Nat → ClassId) (aS : Nat → Nat) {a0 : Nat} {i1 : Int32} {M : zM} {post : zM → Prop} (hk0 : a0 < N0) (ht0 : tg a0 = 9) (h : Wp_Mo_writePart a0 i1 M post) : Met l y_Mo_writePart (wo y_Mo_writePart b_Mo_writePart 5 none) { frames := 2, cells := 0, slots := 0, locals := 47 } (va_Pc [.ref (B + a0), .int i1] (zWl B D aC aS M)) (zQv B D aC post) 0 0 (zAb B) := by
  refine z_met (own := "MailChainModel") (lv0 := [(0, .ref (B + a0)), (1, .int i1)]) (by decide) rfl (Nat.le_of_ble_eq_true rfl) rfl ?_
  intro p e s m below meth c fx hr hlo
  delta Wp_Mo_writePart at h
  have h := h (fun v2 w0 M => zAt p l e { frames := 2, cells := 0, slots := 0, locals := 47 } s m ([.ref (B + a0), .int i1] : List Value).toArray below meth c 0 0 (MQ below (zQv B D aC post) ([.ref (B + a0), .int i1] : List Value).toArray s 0 0 (zAb B)) B D aC 5 35 [(0, .ref (B + a0)), (1, .int i1), (2, .int v2)] [.int w0] M)
  have h := h (fun v2 v3 v4 M => zAt p l e { frames := 2, cells := 0, slots := 0, locals := 47 } s m ([.ref (B + a0), .int i1] : List Value).toArray below meth c 0 0 (MQ below (zQv B D aC post) ([.ref (B + a0), .int i1] : List Value).toArray s 0 0 (zAb B)) B D aC 5 139 [(0, .ref (B + a0)), (1, .int i1), (2, .int v2), (3, .int v3), (4, .int v4)] [] M)
  have h := h (by
    intro v2 w0 M h
    refine a_istore_n (lv2 := [(3, .int w0), (0, .ref (B + a0)), (1, .int i1), (2, .int v2)]) fx d_Mo_writePart_35 rfl (by decide) rfl ?_
    refine a_aload_n fx 1 d_Mo_writePart_36 rfl rfl ?_
    refine a_iconst (v := 0) fx d_Mo_writePart_37 rfl ?_
    refine a_putI fx (T := F_Mo) (ty0 := t_Mo) (j := 59) (hk := hk0) (ht := ht0) (ht2 := by decide) (hc := rfl) (hin := u_in_Mo) (hty := t_Mo_ok) (hnm := n_Mo) (hj := by decide) (hj2 := by decide) (hf := rfl) (hT := rfl) (hfin := rfl) (hn := rfl) (hfit := rfl) (hw := w_1328) (hd := d_Mo_writePart_38) (kk := a_mem (fun M2 eM2 => ?_))
    have h := h M2 eM2
    refine a_aload_n fx 1 d_Mo_writePart_41 rfl rfl ?_
    refine a_aload_n fx 1 d_Mo_writePart_42 rfl rfl ?_
    refine a_getS fx (T := F_Mo) (j := 2) (hk := hk0) (ht := ht0) (ht2 := by decide) (hc := rfl) (hin := u_in_Mo) (hj := by decide) (hj2 := by decide) (hf := rfl) (n9 := 3) (hfo := rfl) (hT := rfl) (hw := w_1271) (hd := d_Mo_writePart_43) (kk := ?_)
    refine a_callv (rest := []) (a_runV (As := [.ref (B + (a0 + 3))]) fx cv_Mo_putWord w_1631 (Met_Mo_putWord l B D aC aS (hk0 := hk0) (ht0 := ht0) (hk1 := (lo_9_2 hk0 ht0).1) (ht1 := (lo_9_2 hk0 ht0).2) h) hk0 ht0 (by decide) rfl rfl rfl (Nat.le_of_ble_eq_true rfl) rfl rfl ⟨Nat.le_of_ble_eq_true rfl, Nat.le_of_ble_eq_true rfl⟩ d_Mo_writePart_46 ⟨Nat.le_of_ble_eq_true rfl, Nat.le_of_ble_eq_true rfl⟩) (fun M3 h => ?_)
    refine a_aload_n fx 1 d_Mo_writePart_49 rfl rfl ?_
    refine a_iload_n fx 2 d_Mo_writePart_50 rfl rfl ?_
    refine a_i2l fx d_Mo_writePart_51 ?_
    refine a_callv (rest := []) (a_runV (As := [.long ((i1).toInt64)]) fx cv_Mo_putDecimal w_1639 (Met_Mo_putDecimal l B D aC aS (hk0 := hk0) (ht0 := ht0) h) hk0 ht0 (by decide) rfl rfl rfl (Nat.le_of_ble_eq_true rfl) rfl rfl ⟨Nat.le_of_ble_eq_true rfl, Nat.le_of_ble_eq_true rfl⟩ d_Mo_writePart_52 ⟨Nat.le_of_ble_eq_true rfl, Nat.le_of_ble_eq_true rfl⟩) (fun M4 h => ?_)
    refine a_aload_n fx 1 d_Mo_writePart_55 rfl rfl ?_
    refine a_bipush (v := 32) fx d_Mo_writePart_56 rfl ?_
    refine a_callv (rest := []) (a_runV (As := [.int 32]) fx cv_Mo_putChar w_1635 (Met_Mo_putChar l B D aC aS (hk0 := hk0) (ht0 := ht0) h) hk0 ht0 (by decide) rfl rfl rfl (Nat.le_of_ble_eq_true rfl) rfl rfl ⟨Nat.le_of_ble_eq_true rfl, Nat.le_of_ble_eq_true rfl⟩ d_Mo_writePart_58 ⟨Nat.le_of_ble_eq_true rfl, Nat.le_of_ble_eq_true rfl⟩) (fun M5 h => ?_)
    refine a_aload_n fx 1 d_Mo_writePart_61 rfl rfl ?_
    refine a_aload_n fx 1 d_Mo_writePart_62 rfl rfl ?_
    refine a_getS fx (T := F_Mo) (j := 3) (hk := hk0) (ht := ht0) (ht2 := by decide) (hc := rfl) (hin := u_in_Mo) (hj := by decide) (hj2 := by decide) (hf := rfl) (n9 := 4) (hfo := rfl) (hT := rfl) (hw := w_1272) (hd := d_Mo_writePart_63) (kk := ?_)
    refine a_callv (rest := []) (a_runV (As := [.ref (B + (a0 + 4))]) fx cv_Mo_putWord w_1631 (Met_Mo_putWord l B D aC aS (hk0 := hk0) (ht0 := ht0) (hk1 := (lo_9_3 hk0 ht0).1) (ht1 := (lo_9_3 hk0 ht0).2) h) hk0 ht0 (by decide) rfl rfl rfl (Nat.le_of_ble_eq_true rfl) rfl rfl ⟨Nat.le_of_ble_eq_true rfl, Nat.le_of_ble_eq_true rfl⟩ d_Mo_writePart_66 ⟨Nat.le_of_ble_eq_true rfl, Nat.le_of_ble_eq_true rfl⟩) (fun M6 h => ?_)
    refine a_aload_n fx 1 d_Mo_writePart_69 rfl rfl ?_
    refine a_aload_n fx 1 d_Mo_writePart_70 rfl rfl ?_
    refine a_getI fx (T := F_Mo) (j := 31) (hk := hk0) (ht := ht0) (ht2 := by decide) (hc := rfl) (hin := u_in_Mo) (hj := by decide) (hj2 := by decide) (hf := rfl) (hT := rfl) (hw := w_1300) (hd := d_Mo_writePart_71) (kk := ?_)
    refine a_i2l fx d_Mo_writePart_74 ?_
    refine a_callv (rest := []) (a_runV (As := [.long (((M6.1 a0 31)).toInt64)]) fx cv_Mo_putDecimal w_1639 (Met_Mo_putDecimal l B D aC aS (hk0 := hk0) (ht0 := ht0) h) hk0 ht0 (by decide) rfl rfl rfl (Nat.le_of_ble_eq_true rfl) rfl rfl ⟨Nat.le_of_ble_eq_true rfl, Nat.le_of_ble_eq_true rfl⟩ d_Mo_writePart_75 ⟨Nat.le_of_ble_eq_true rfl, Nat.le_of_ble_eq_true rfl⟩) (fun M7 h => ?_)
    refine a_aload_n fx 1 d_Mo_writePart_78 rfl rfl ?_
    refine a_bipush (v := 32) fx d_Mo_writePart_79 rfl ?_
    refine a_callv (rest := []) (a_runV (As := [.int 32]) fx cv_Mo_putChar w_1635 (Met_Mo_putChar l B D aC aS (hk0 := hk0) (ht0 := ht0) h) hk0 ht0 (by decide) rfl rfl rfl (Nat.le_of_ble_eq_true rfl) rfl rfl ⟨Nat.le_of_ble_eq_true rfl, Nat.le_of_ble_eq_true rfl⟩ d_Mo_writePart_81 ⟨Nat.le_of_ble_eq_true rfl, Nat.le_of_ble_eq_true rfl⟩) (fun M8 h => ?_)
    refine a_aload_n fx 1 d_Mo_writePart_84 rfl rfl ?_
    refine a_aload_n fx 1 d_Mo_writePart_85 rfl rfl ?_
    refine a_getS fx (T := F_Mo) (j := 4) (hk := hk0) (ht := ht0) (ht2 := by decide) (hc := rfl) (hin := u_in_Mo) (hj := by decide) (hj2 := by decide) (hf := rfl) (n9 := 5) (hfo := rfl) (hT := rfl) (hw := w_1273) (hd := d_Mo_writePart_86) (kk := ?_)
    refine a_callv (rest := []) (a_runV (As := [.ref (B + (a0 + 5))]) fx cv_Mo_putWord w_1631 (Met_Mo_putWord l B D aC aS (hk0 := hk0) (ht0 := ht0) (hk1 := (lo_9_4 hk0 ht0).1) (ht1 := (lo_9_4 hk0 ht0).2) h) hk0 ht0 (by decide) rfl rfl rfl (Nat.le_of_ble_eq_true rfl) rfl rfl ⟨Nat.le_of_ble_eq_true rfl, Nat.le_of_ble_eq_true rfl⟩ d_Mo_writePart_89 ⟨Nat.le_of_ble_eq_true rfl, Nat.le_of_ble_eq_true rfl⟩) (fun M9 h => ?_)
    refine a_aload_n fx 1 d_Mo_writePart_92 rfl rfl ?_
    refine a_iload_n fx 0 d_Mo_writePart_93 rfl rfl ?_
    refine a_i2l fx d_Mo_writePart_94 ?_
    refine a_callv (rest := []) (a_runV (As := [.long ((w0).toInt64)]) fx cv_Mo_putDecimal w_1639 (Met_Mo_putDecimal l B D aC aS (hk0 := hk0) (ht0 := ht0) h) hk0 ht0 (by decide) rfl rfl rfl (Nat.le_of_ble_eq_true rfl) rfl rfl ⟨Nat.le_of_ble_eq_true rfl, Nat.le_of_ble_eq_true rfl⟩ d_Mo_writePart_95 ⟨Nat.le_of_ble_eq_true rfl, Nat.le_of_ble_eq_true rfl⟩) (fun M10 h => ?_)
    refine a_aload_n fx 1 d_Mo_writePart_98 rfl rfl ?_
    refine a_bipush (v := 32) fx d_Mo_writePart_99 rfl ?_
    refine a_callv (rest := []) (a_runV (As := [.int 32]) fx cv_Mo_putChar w_1635 (Met_Mo_putChar l B D aC aS (hk0 := hk0) (ht0 := ht0) h) hk0 ht0 (by decide) rfl rfl rfl (Nat.le_of_ble_eq_true rfl) rfl rfl ⟨Nat.le_of_ble_eq_true rfl, Nat.le_of_ble_eq_true rfl⟩ d_Mo_writePart_101 ⟨Nat.le_of_ble_eq_true rfl, Nat.le_of_ble_eq_true rfl⟩) (fun M11 h => ?_)
    refine a_aload_n fx 1 d_Mo_writePart_104 rfl rfl ?_
    refine a_aload_n fx 1 d_Mo_writePart_105 rfl rfl ?_
    refine a_getS fx (T := F_Mo) (j := 5) (hk := hk0) (ht := ht0) (ht2 := by decide) (hc := rfl) (hin := u_in_Mo) (hj := by decide) (hj2 := by decide) (hf := rfl) (n9 := 6) (hfo := rfl) (hT := rfl) (hw := w_1274) (hd := d_Mo_writePart_106) (kk := ?_)
    refine a_callv (rest := []) (a_runV (As := [.ref (B + (a0 + 6))]) fx cv_Mo_putWord w_1631 (Met_Mo_putWord l B D aC aS (hk0 := hk0) (ht0 := ht0) (hk1 := (lo_9_5 hk0 ht0).1) (ht1 := (lo_9_5 hk0 ht0).2) h) hk0 ht0 (by decide) rfl rfl rfl (Nat.le_of_ble_eq_true rfl) rfl rfl ⟨Nat.le_of_ble_eq_true rfl, Nat.le_of_ble_eq_true rfl⟩ d_Mo_writePart_109 ⟨Nat.le_of_ble_eq_true rfl, Nat.le_of_ble_eq_true rfl⟩) (fun M12 h => ?_)
    refine a_aload_n fx 1 d_Mo_writePart_112 rfl rfl ?_
    refine a_aload_n fx 1 d_Mo_writePart_113 rfl rfl ?_
    refine a_getS fx (T := F_Mo) (j := 36) (hk := hk0) (ht := ht0) (ht2 := by decide) (hc := rfl) (hin := u_in_Mo) (hj := by decide) (hj2 := by decide) (hf := rfl) (n9 := 26) (hfo := rfl) (hT := rfl) (hw := w_1305) (hd := d_Mo_writePart_114) (kk := ?_)
    refine a_iload_n fx 3 d_Mo_writePart_117 rfl rfl ?_
    refine a_iload_n fx 0 d_Mo_writePart_118 rfl rfl ?_
    refine a_calli (rest := [.ref (B + a0)]) (a_runS (As := [.ref (B + (a0 + 26)), .int v2, .int w0]) fx  cv_Mo_sumOf w_1542 (Met_Mo_sumOf l B D aC aS (hk0 := (lo_9_36 hk0 ht0).1) (ht0 := (lo_9_36 hk0 ht0).2) h) rfl rfl (Nat.le_of_ble_eq_true rfl) rfl rfl ⟨Nat.le_of_ble_eq_true rfl, Nat.le_of_ble_eq_true rfl⟩ d_Mo_writePart_119 ⟨Nat.le_of_ble_eq_true rfl, Nat.le_of_ble_eq_true rfl⟩) (fun x14 M13 h => ?_)
    refine a_i2l fx d_Mo_writePart_122 ?_
    refine a_ldc2 fx w_1644 d_Mo_writePart_123 ?_
    refine a_land fx d_Mo_writePart_126 ?_
    refine a_callv (rest := []) (a_runV (As := [.long (((x14).toInt64) &&& 4294967295)]) fx cv_Mo_putDecimal w_1639 (Met_Mo_putDecimal l B D aC aS (hk0 := hk0) (ht0 := ht0) h) hk0 ht0 (by decide) rfl rfl rfl (Nat.le_of_ble_eq_true rfl) rfl rfl ⟨Nat.le_of_ble_eq_true rfl, Nat.le_of_ble_eq_true rfl⟩ d_Mo_writePart_127 ⟨Nat.le_of_ble_eq_true rfl, Nat.le_of_ble_eq_true rfl⟩) (fun M15 h => ?_)
    refine a_aload_n fx 1 d_Mo_writePart_130 rfl rfl ?_
    refine a_bipush (v := 10) fx d_Mo_writePart_131 rfl ?_
    refine a_callv (rest := []) (a_runV (As := [.int 10]) fx cv_Mo_putChar w_1635 (Met_Mo_putChar l B D aC aS (hk0 := hk0) (ht0 := ht0) h) hk0 ht0 (by decide) rfl rfl rfl (Nat.le_of_ble_eq_true rfl) rfl rfl ⟨Nat.le_of_ble_eq_true rfl, Nat.le_of_ble_eq_true rfl⟩ d_Mo_writePart_133 ⟨Nat.le_of_ble_eq_true rfl, Nat.le_of_ble_eq_true rfl⟩) (fun M16 h => ?_)
    refine a_iconst (v := 0) fx d_Mo_writePart_136 rfl ?_
    refine a_istore (lv2 := [(4, .int 0), (3, .int w0), (0, .ref (B + a0)), (1, .int i1), (2, .int v2)]) fx d_Mo_writePart_137 (by decide) rfl ?_
    refine a_sub [2, 3, 4, 1, 0] rfl ?_
    exact h)
  have h := h (by
    intro v2 v3 v4 M h
    refine a_iload fx 4 d_Mo_writePart_139 rfl ?_
    refine a_iload_n fx 3 d_Mo_writePart_141 rfl rfl ?_
    refine a_icmp_ge fx 164 d_Mo_writePart_142 rfl (fun hc => ?_) (fun hc => ?_)
    · have h := h.1 hc
      exact a_vret fx hlo hr h d_Mo_writePart_164
    · have h := h.2 hc
      refine a_aload_n fx 0 d_Mo_writePart_145 rfl rfl ?_
      refine a_aload_n fx 0 d_Mo_writePart_146 rfl rfl ?_
      refine a_getS fx (T := F_Mo) (j := 36) (hk := hk0) (ht := ht0) (ht2 := by decide) (hc := rfl) (hin := u_in_Mo) (hj := by decide) (hj2 := by decide) (hf := rfl) (n9 := 26) (hfo := rfl) (hT := rfl) (hw := w_1305) (hd := d_Mo_writePart_147) (kk := ?_)
      refine a_iload_n fx 2 d_Mo_writePart_150 rfl rfl ?_
      refine a_iload fx 4 d_Mo_writePart_151 rfl ?_
      refine a_iadd fx d_Mo_writePart_153 ?_
      obtain ⟨hin, h⟩ := h
      refine a_bald fx (lo_9_36 hk0 ht0).1 (lo_9_36 hk0 ht0).2 hin d_Mo_writePart_154 ?_
      refine a_callv (rest := []) (a_runV (As := [.int (M.1 (a0 + 26) ((v2 + v4)).toNatClampNeg)]) fx cv_Mo_putChar w_1635 (Met_Mo_putChar l B D aC aS (hk0 := hk0) (ht0 := ht0) h) hk0 ht0 (by decide) rfl rfl rfl (Nat.le_of_ble_eq_true rfl) rfl rfl ⟨Nat.le_of_ble_eq_true rfl, Nat.le_of_ble_eq_true rfl⟩ d_Mo_writePart_155 ⟨Nat.le_of_ble_eq_true rfl, Nat.le_of_ble_eq_true rfl⟩) (fun M17 h => ?_)
      obtain ⟨x18, ex18⟩ : ∃ z : Int32, z = v4 + 1 := ⟨_, rfl⟩
      have h := h x18 ex18
      refine a_iinc (lv2 := [(4, .int x18), (0, .ref (B + a0)), (1, .int i1), (2, .int v2), (3, .int v3)]) fx 4 d_Mo_writePart_158 rfl ex18.symm (by decide) rfl ?_
      refine a_goto fx 139 d_Mo_writePart_161 rfl ?_
      refine a_sub [1, 2, 3, 4, 0] rfl ?_
      exact h)
  refine a_iload_n fx 1 d_Mo_writePart_0 rfl rfl ?_
  refine a_iconst (v := 1) fx d_Mo_writePart_1 rfl ?_
  refine a_isub fx d_Mo_writePart_2 ?_
  refine a_aload_n fx 0 d_Mo_writePart_3 rfl rfl ?_
  refine a_getI fx (T := F_Mo) (j := 32) (hk := hk0) (ht := ht0) (ht2 := by decide) (hc := rfl) (hin := u_in_Mo) (hj := by decide) (hj2 := by decide) (hf := rfl) (hT := rfl) (hw := w_1301) (hd := d_Mo_writePart_4) (kk := ?_)
  refine a_imul fx d_Mo_writePart_7 ?_
  refine a_topi (fun x1 ex1 => ?_)
  have h := h x1 ex1
  refine a_istore_n (lv2 := [(2, .int x1), (0, .ref (B + a0)), (1, .int i1)]) fx d_Mo_writePart_8 rfl (by decide) rfl ?_
  refine a_aload_n fx 1 d_Mo_writePart_9 rfl rfl ?_
  refine a_getI fx (T := F_Mo) (j := 35) (hk := hk0) (ht := ht0) (ht2 := by decide) (hc := rfl) (hin := u_in_Mo) (hj := by decide) (hj2 := by decide) (hf := rfl) (hT := rfl) (hw := w_1304) (hd := d_Mo_writePart_10) (kk := ?_)
  refine a_iload_n fx 0 d_Mo_writePart_13 rfl rfl ?_
  refine a_isub fx d_Mo_writePart_14 ?_
  refine a_aload_n fx 1 d_Mo_writePart_15 rfl rfl ?_
  refine a_getI fx (T := F_Mo) (j := 32) (hk := hk0) (ht := ht0) (ht2 := by decide) (hc := rfl) (hin := u_in_Mo) (hj := by decide) (hj2 := by decide) (hf := rfl) (hT := rfl) (hw := w_1301) (hd := d_Mo_writePart_16) (kk := ?_)
  refine a_icmp_ge fx 31 d_Mo_writePart_19 rfl (fun hc => ?_) (fun hc => ?_)
  · have h := h.1 hc
    refine a_aload_n fx 1 d_Mo_writePart_31 rfl rfl ?_
    refine a_getI fx (T := F_Mo) (j := 32) (hk := hk0) (ht := ht0) (ht2 := by decide) (hc := rfl) (hin := u_in_Mo) (hj := by decide) (hj2 := by decide) (hf := rfl) (hT := rfl) (hw := w_1301) (hd := d_Mo_writePart_32) (kk := ?_)
    refine a_sub [1, 2, 0] rfl ?_
    exact h
  · have h := h.2 hc
    refine a_aload_n fx 1 d_Mo_writePart_22 rfl rfl ?_
    refine a_getI fx (T := F_Mo) (j := 35) (hk := hk0) (ht := ht0) (ht2 := by decide) (hc := rfl) (hin := u_in_Mo) (hj := by decide) (hj2 := by decide) (hf := rfl) (hT := rfl) (hw := w_1304) (hd := d_Mo_writePart_23) (kk := ?_)
    refine a_iload_n fx 0 d_Mo_writePart_26 rfl rfl ?_
    refine a_isub fx d_Mo_writePart_27 ?_
    refine a_goto fx 35 d_Mo_writePart_28 rfl ?_
    refine a_sub [1, 2, 0] rfl ?_
    exact h
