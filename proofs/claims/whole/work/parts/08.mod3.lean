/-- MailChainModel.part(II)I -/
def Wp_Mo_part (a0 : Nat) (i1 : Int32) (i2 : Int32) (M : zM) (post : Int32 → zM → Prop) : Prop := ∀ K24 : Int32 → Nat → zM → Prop, ∀ K55 : Int32 → Nat → zM → Prop, (∀ (w0 : Int32) (w1 : Nat) (M : zM), w1 < N0 ∧ tg w1 = 9 ∧ (∀ M1 : zM, M1 = zI M w1 6 w0 → (((M1.1 a0 6) ≤ 0 → (Wp_Mo_writePart a0 i1 M1 (fun M2 => ((i2 < (M2.1 a0 59) → (K55 0 a0 M2)) ∧ (¬ i2 < (M2.1 a0 59) → (K55 1 a0 M2)))))) ∧ (¬ (M1.1 a0 6) ≤ 0 → (post 0 M1)))) → K24 w0 w1 M) → (∀ (w0 : Int32) (w1 : Nat) (M : zM), w1 < N0 ∧ tg w1 = 9 ∧ (∀ M3 : zM, M3 = zI M w1 6 w0 → (((M3.1 a0 6) ≤ 0 → ((0 ≤ i2 → (vp_in i2 (ln (a0 + 37)) ∧ (post ((M3.1 (a0 + 37) (i2).toNatClampNeg) &&& 255) M3))) ∧ (¬ 0 ≤ i2 → (post (M3.1 a0 59) M3)))) ∧ (¬ (M3.1 a0 6) ≤ 0 → (post 0 M3)))) → K55 w0 w1 M) → ((i1 < 1 → (K24 1 a0 M)) ∧ (¬ i1 < 1 → (((M.1 a0 31) < i1 → (K24 1 a0 M)) ∧ (¬ (M.1 a0 31) < i1 → (((-1) ≤ i2 → (K24 0 a0 M)) ∧ (¬ (-1) ≤ i2 → (K24 1 a0 M)))))))
/-- MailChainModel.stage(II)I -/
def Wp_Mo_stage (a0 : Nat) (i1 : Int32) (i2 : Int32) (M : zM) (post : Int32 → zM → Prop) : Prop := ∀ K15 : Int32 → Nat → zM → Prop, (∀ (w0 : Int32) (w1 : Nat) (M : zM), w1 < N0 ∧ tg w1 = 9 ∧ (∀ M1 : zM, M1 = zI M w1 6 w0 → ((0 < (M1.1 a0 6) → (((M1.1 a0 6) ≤ 0 → (post (-1) M1)) ∧ (¬ (M1.1 a0 6) ≤ 0 → (post 0 M1)))) ∧ (¬ 0 < (M1.1 a0 6) → ((0 ≤ i2 → ((¬ i1 = 0 → ((¬ i1 = 1 → (((M1.1 a0 35) ≤ i2 → (post (-1) M1)) ∧ (¬ (M1.1 a0 35) ≤ i2 → (vp_in i2 (ln (a0 + 26)) ∧ (post ((M1.1 (a0 + 26) (i2).toNatClampNeg) &&& 255) M1))))) ∧ (i1 = 1 → (((M1.1 a0 33) ≤ i2 → (post (-1) M1)) ∧ (¬ (M1.1 a0 33) ≤ i2 → (vp_in i2 (ln (a0 + 25)) ∧ (post ((M1.1 (a0 + 25) (i2).toNatClampNeg) &&& 255) M1))))))) ∧ (i1 = 0 → (Wp_Mo_isLarge a0 0 M1 (fun x3 M2 => ((x3 = 0 → (Wp_Mo_archiveOf a0 0 M2 (fun M4 => (((M4.1 a0 25) ≤ i2 → (post (-1) M4)) ∧ (¬ (M4.1 a0 25) ≤ i2 → (vp_in i2 (ln (a0 + 22)) ∧ (post ((M4.1 (a0 + 22) (i2).toNatClampNeg) &&& 255) M4))))))) ∧ (¬ x3 = 0 → (post (-1) M2)))))))) ∧ (¬ 0 ≤ i2 → (((M1.1 a0 6) ≤ 0 → (post (-1) M1)) ∧ (¬ (M1.1 a0 6) ≤ 0 → (post 0 M1)))))))) → K15 w0 w1 M) → ((i1 < 0 → (K15 1 a0 M)) ∧ (¬ i1 < 0 → ((i1 ≤ 2 → (K15 0 a0 M)) ∧ (¬ i1 ≤ 2 → (K15 1 a0 M)))))
/-- MailChainModel.word([B)Z -/
def Wp_Mo_word (a0 : Nat) (a1 : Nat) (M : zM) (post : Int32 → zM → Prop) : Prop := ∀ K4 : Int32 → Int32 → zM → Prop, ∀ K45 : Int32 → Int32 → zM → Prop, (∀ (v2 : Int32) (v3 : Int32) (M : zM), (((Int32.ofNat (ln a1)) ≤ v3 → (narrow .boolean (.int v2) = .int v2 ∧ post v2 M)) ∧ (¬ (Int32.ofNat (ln a1)) ≤ v3 → ((v2 = 0 → (narrow .boolean (.int v2) = .int v2 ∧ post v2 M)) ∧ (¬ v2 = 0 → (((M.1 a0 59) ≤ (M.1 a0 61) → (K45 v3 0 M)) ∧ (¬ (M.1 a0 59) ≤ (M.1 a0 61) → (vp_in (M.1 a0 61) (ln (a0 + 37)) ∧ (vp_in v3 (ln a1) ∧ ((¬ (M.1 (a0 + 37) ((M.1 a0 61)).toNatClampNeg) = (M.1 a1 (v3).toNatClampNeg) → (K45 v3 0 M)) ∧ ((M.1 (a0 + 37) ((M.1 a0 61)).toNatClampNeg) = (M.1 a1 (v3).toNatClampNeg) → (K45 v3 1 M))))))))))) → K4 v2 v3 M) → (∀ (v3 : Int32) (w0 : Int32) (M : zM), (∀ M1 : zM, M1 = zI M a0 61 ((M.1 a0 61) + 1) → (∀ x2 : Int32, x2 = v3 + 1 → (K4 w0 x2 M1))) → K45 v3 w0 M) → (K4 1 0 M)
/-- MailChainModel.decimal(I)J -/
def Wp_Mo_decimal (a0 : Nat) (i1 : Int32) (M : zM) (post : Int64 → zM → Prop) : Prop := ∀ K7 : Int32 → Int64 → zM → Prop, ∀ K91 : Int32 → Int64 → zM → Prop, ∀ K129 : Int64 → zM → Prop, ∀ K158 : Int64 → Int32 → zM → Prop, (∀ (v2 : Int32) (v3 : Int64) (M : zM), (((M.1 a0 59) ≤ (M.1 a0 61) → (K91 v2 v3 M)) ∧ (¬ (M.1 a0 59) ≤ (M.1 a0 61) → ((11 ≤ ((M.1 a0 61) - v2) → (K91 v2 v3 M)) ∧ (¬ 11 ≤ ((M.1 a0 61) - v2) → (vp_in (M.1 a0 61) (ln (a0 + 37)) ∧ (((M.1 (a0 + 37) ((M.1 a0 61)).toNatClampNeg) < 48 → (K91 v2 v3 M)) ∧ (¬ (M.1 (a0 + 37) ((M.1 a0 61)).toNatClampNeg) < 48 → (vp_in (M.1 a0 61) (ln (a0 + 37)) ∧ ((57 < (M.1 (a0 + 37) ((M.1 a0 61)).toNatClampNeg) → (K91 v2 v3 M)) ∧ (¬ 57 < (M.1 (a0 + 37) ((M.1 a0 61)).toNatClampNeg) → (vp_in (M.1 a0 61) (ln (a0 + 37)) ∧ (∀ y2 : Int64, y2 = (((10 * v3) + (((M.1 (a0 + 37) ((M.1 a0 61)).toNatClampNeg)).toInt64)) - 48) → (∀ M3 : zM, M3 = zI M a0 61 ((M.1 a0 61) + 1) → (K7 v2 y2 M3)))))))))))))) → K7 v2 v3 M) → (∀ (v2 : Int32) (v3 : Int64) (M : zM), (∀ x4 : Int32, x4 = ((M.1 a0 61) - v2) → ((x4 < 1 → (K158 v3 0 M)) ∧ (¬ x4 < 1 → ((10 < x4 → (K158 v3 0 M)) ∧ (¬ 10 < x4 → ((x4 = 1 → (K129 v3 M)) ∧ (¬ x4 = 1 → (vp_in v2 (ln (a0 + 37)) ∧ (((M.1 (a0 + 37) (v2).toNatClampNeg) = 48 → (K158 v3 0 M)) ∧ (¬ (M.1 (a0 + 37) (v2).toNatClampNeg) = 48 → (K129 v3 M))))))))))) → K91 v2 v3 M) → (∀ (v3 : Int64) (M : zM), (((M.1 a0 59) ≤ (M.1 a0 61) → (K158 v3 0 M)) ∧ (¬ (M.1 a0 59) ≤ (M.1 a0 61) → (vp_in (M.1 a0 61) (ln (a0 + 37)) ∧ ((¬ (M.1 (a0 + 37) ((M.1 a0 61)).toNatClampNeg) = i1 → (K158 v3 0 M)) ∧ ((M.1 (a0 + 37) ((M.1 a0 61)).toNatClampNeg) = i1 → (K158 v3 1 M)))))) → K129 v3 M) → (∀ (v3 : Int64) (w0 : Int32) (M : zM), (∀ M5 : zM, M5 = zI M a0 61 ((M.1 a0 61) + 1) → ((w0 = 0 → (post (-1) M5)) ∧ (¬ w0 = 0 → (post v3 M5)))) → K158 v3 w0 M) → (∀ x1 : Int32, x1 = (M.1 a0 61) → (K7 x1 0 M))
/-- MailChainModel.keep(II[BII)V -/
def Wp_Mo_keep (a0 : Nat) (i1 : Int32) (i2 : Int32) (a3 : Nat) (i4 : Int32) (i5 : Int32) (M : zM) (post : zM → Prop) : Prop := ∀ K55 : Int32 → zM → Prop, (∀ (v6 : Int32) (M : zM), ((i5 ≤ v6 → (post M)) ∧ (¬ i5 ≤ v6 → ((0 < (lg_cmp (M.2.1 a0 39) 48000) → (post M)) ∧ (¬ 0 < (lg_cmp (M.2.1 a0 39) 48000) → (vp_in (i4 + v6) (ln a3) ∧ (vp_in (M.1 a0 43) (ln (a0 + 30)) ∧ (∀ M7 : zM, M7 = zI M (a0 + 30) ((M.1 a0 43)).toNatClampNeg (vp_nar .byte (M.1 a3 ((i4 + v6)).toNatClampNeg)) → (∀ M8 : zM, M8 = zI M7 a0 43 ((M7.1 a0 43) + 1) → (∀ x9 : Int32, x9 = v6 + 1 → (K55 x9 M8)))))))))) → K55 v6 M) → (∀ M1 : zM, M1 = zI M a0 37 i2 → (∀ M2 : zM, M2 = zI M1 a0 38 ((M1.1 a0 38) + 1) → (vp_in i1 (ln (a0 + 27)) ∧ (∀ M3 : zM, M3 = zI M2 (a0 + 27) (i1).toNatClampNeg (vp_nar .boolean 1) → (vp_in i1 (ln (a0 + 28)) ∧ (∀ M4 : zM, M4 = zI M3 (a0 + 28) (i1).toNatClampNeg i5 → (vp_in i1 (ln (a0 + 29)) ∧ (∀ M5 : zM, M5 = zI M4 (a0 + 29) (i1).toNatClampNeg (M4.1 a0 43) → (∀ M6 : zM, M6 = zL M5 a0 39 ((M5.2.1 a0 39) + ((i5).toInt64)) → (K55 0 M6))))))))))
/-- MailChainModel.come()I -/
def Wp_Mo_come (a0 : Nat) (M : zM) (post : Int32 → zM → Prop) : Prop := ∀ K30 : Int32 → Int64 → zM → Prop, ∀ K57 : Int64 → Int32 → zM → Prop, ∀ K74 : Int32 → Int64 → Int64 → zM → Prop, ∀ K103 : Int64 → Int64 → Int32 → zM → Prop, ∀ K120 : Int32 → Int64 → Int64 → Int64 → zM → Prop, ∀ K149 : Int64 → Int64 → Int64 → Int32 → zM → Prop, ∀ K166 : Int32 → Int64 → Int64 → Int64 → Int64 → zM → Prop, ∀ K248 : Int64 → Int64 → Int64 → Int64 → zM → Prop, ∀ K271 : Int64 → Int64 → Int64 → Int32 → zM → Prop, (∀ (v1 : Int32) (w0 : Int64) (M : zM), ((v1 = 0 → (K57 w0 0 M)) ∧ (¬ v1 = 0 → (((lg_cmp w0 0) < 0 → (K57 w0 0 M)) ∧ (¬ (lg_cmp w0 0) < 0 → (Wp_Mo_word a0 (a0 + 4) M (fun x7 M6 => ((x7 = 0 → (K57 w0 0 M6)) ∧ (¬ x7 = 0 → (K57 w0 1 M6))))))))) → K30 v1 w0 M) → (∀ (v2 : Int64) (w0 : Int32) (M : zM), ((w0 = 0 → (K74 w0 v2 (-1) M)) ∧ (¬ w0 = 0 → (Wp_Mo_decimal a0 32 M (fun y9 M8 => (K74 w0 v2 y9 M8))))) → K57 v2 w0 M) → (∀ (v1 : Int32) (v2 : Int64) (w0 : Int64) (M : zM), ((v1 = 0 → (K103 v2 w0 0 M)) ∧ (¬ v1 = 0 → (((lg_cmp w0 0) < 0 → (K103 v2 w0 0 M)) ∧ (¬ (lg_cmp w0 0) < 0 → (Wp_Mo_word a0 (a0 + 5) M (fun x11 M10 => ((x11 = 0 → (K103 v2 w0 0 M10)) ∧ (¬ x11 = 0 → (K103 v2 w0 1 M10))))))))) → K74 v1 v2 w0 M) → (∀ (v2 : Int64) (v4 : Int64) (w0 : Int32) (M : zM), ((w0 = 0 → (K120 w0 v2 v4 (-1) M)) ∧ (¬ w0 = 0 → (Wp_Mo_decimal a0 32 M (fun y13 M12 => (K120 w0 v2 v4 y13 M12))))) → K103 v2 v4 w0 M) → (∀ (v1 : Int32) (v2 : Int64) (v4 : Int64) (w0 : Int64) (M : zM), ((v1 = 0 → (K149 v2 v4 w0 0 M)) ∧ (¬ v1 = 0 → (((lg_cmp w0 0) < 0 → (K149 v2 v4 w0 0 M)) ∧ (¬ (lg_cmp w0 0) < 0 → (Wp_Mo_word a0 (a0 + 6) M (fun x15 M14 => ((x15 = 0 → (K149 v2 v4 w0 0 M14)) ∧ (¬ x15 = 0 → (K149 v2 v4 w0 1 M14))))))))) → K120 v1 v2 v4 w0 M) → (∀ (v2 : Int64) (v4 : Int64) (v6 : Int64) (w0 : Int32) (M : zM), ((w0 = 0 → (K166 w0 v2 v4 v6 (-1) M)) ∧ (¬ w0 = 0 → (Wp_Mo_decimal a0 10 M (fun y17 M16 => (K166 w0 v2 v4 v6 y17 M16))))) → K149 v2 v4 v6 w0 M) → (∀ (v1 : Int32) (v2 : Int64) (v4 : Int64) (v6 : Int64) (w0 : Int64) (M : zM), ((v1 = 0 → (post 1 M)) ∧ (¬ v1 = 0 → (((lg_cmp w0 0) < 0 → (post 1 M)) ∧ (¬ (lg_cmp w0 0) < 0 → ((0 < (lg_cmp w0 4294967295) → (post 1 M)) ∧ (¬ 0 < (lg_cmp w0 4294967295) → ((0 < (lg_cmp v6 48000) → (post 1 M)) ∧ (¬ 0 < (lg_cmp v6 48000) → (((lg_cmp v4 1) < 0 → (post 1 M)) ∧ (¬ (lg_cmp v4 1) < 0 → ((0 < (lg_cmp v4 999) → (post 1 M)) ∧ (¬ 0 < (lg_cmp v4 999) → (((lg_cmp v2 1) < 0 → (post 1 M)) ∧ (¬ (lg_cmp v2 1) < 0 → (((lg_cmp v2 v4) ≤ 0 → (((M.1 a0 38) ≤ 0 → (K248 v2 v4 v6 w0 M)) ∧ (¬ (M.1 a0 38) ≤ 0 → (((lg_cmp (((M.1 a0 37)).toInt64) v4) = 0 → (K248 v2 v4 v6 w0 M)) ∧ (¬ (lg_cmp (((M.1 a0 37)).toInt64) v4) = 0 → (post 2 M)))))) ∧ (¬ (lg_cmp v2 v4) ≤ 0 → (post 1 M))))))))))))))))) → K166 v1 v2 v4 v6 w0 M) → (∀ (v2 : Int64) (v4 : Int64) (v6 : Int64) (v8 : Int64) (M : zM), (∀ x18 : Int32, x18 = (v2).toInt32 → (((M.1 a0 38) ≤ 0 → (K271 v4 v6 v8 x18 M)) ∧ (¬ (M.1 a0 38) ≤ 0 → (vp_in x18 (ln (a0 + 27)) ∧ (((M.1 (a0 + 27) (x18).toNatClampNeg) = 0 → (K271 v4 v6 v8 x18 M)) ∧ (¬ (M.1 (a0 + 27) (x18).toNatClampNeg) = 0 → (post 3 M))))))) → K248 v2 v4 v6 v8 M) → (∀ (v4 : Int64) (v6 : Int64) (v8 : Int64) (v10 : Int32) (M : zM), (((lg_cmp ((((M.1 a0 59) - (M.1 a0 61))).toInt64) v6) = 0 → (Wp_Mo_sumOf (a0 + 37) (M.1 a0 61) ((v6).toInt32) M (fun x20 M19 => (((lg_cmp (((x20).toInt64) &&& 4294967295) v8) = 0 → (Wp_Mo_keep a0 v10 ((v4).toInt32) (a0 + 37) (M19.1 a0 61) ((v6).toInt32) M19 (fun M21 => (post 0 M21)))) ∧ (¬ (lg_cmp (((x20).toInt64) &&& 4294967295) v8) = 0 → (post 5 M19)))))) ∧ (¬ (lg_cmp ((((M.1 a0 59) - (M.1 a0 61))).toInt64) v6) = 0 → (post 4 M))) → K271 v4 v6 v8 v10 M) → (∀ M1 : zM, M1 = zI M a0 61 0 → (Wp_Mo_word a0 (a0 + 3) M1 (fun x3 M2 => ((x3 = 0 → (K30 x3 (-1) M2)) ∧ (¬ x3 = 0 → (Wp_Mo_decimal a0 32 M2 (fun y5 M4 => (K30 x3 y5 M4))))))))
/-- MailChainModel.emptyBox()V -/
def Wp_Mo_emptyBox (a0 : Nat) (M : zM) (post : zM → Prop) : Prop := ∀ K17 : Int32 → zM → Prop, (∀ (v1 : Int32) (M : zM), ((1000 ≤ v1 → (post M)) ∧ (¬ 1000 ≤ v1 → (vp_in v1 (ln (a0 + 27)) ∧ (∀ M4 : zM, M4 = zI M (a0 + 27) (v1).toNatClampNeg (vp_nar .boolean 0) → (∀ x5 : Int32, x5 = v1 + 1 → (K17 x5 M4)))))) → K17 v1 M) → (∀ M1 : zM, M1 = zI M a0 38 0 → (∀ M2 : zM, M2 = zL M1 a0 39 0 → (∀ M3 : zM, M3 = zI M2 a0 43 0 → (K17 0 M3))))
/-- MailChainModel.receive()I -/
def Wp_Mo_receive (a0 : Nat) (M : zM) (post : Int32 → zM → Prop) : Prop := ∀ K15 : Int32 → zM → Prop, (∀ (v1 : Int32) (M : zM), (((M.1 a0 7) ≤ v1 → (∀ M3 : zM, M3 = zI M a0 7 0 → (Wp_Mo_come a0 M3 (fun x5 M4 => (post x5 M4))))) ∧ (¬ (M.1 a0 7) ≤ v1 → (vp_in v1 (ln (a0 + 7)) ∧ (vp_in v1 (ln (a0 + 37)) ∧ (∀ M6 : zM, M6 = zI M (a0 + 37) (v1).toNatClampNeg (vp_nar .byte (M.1 (a0 + 7) (v1).toNatClampNeg)) → (∀ x7 : Int32, x7 = v1 + 1 → (K15 x7 M6))))))) → K15 v1 M) → (∀ M1 : zM, M1 = zI M a0 6 0 → (∀ M2 : zM, M2 = zI M1 a0 59 (M1.1 a0 7) → (K15 0 M2)))
/-- MailChainModel.pass(III)I -/
def Wp_Mo_pass (a0 : Nat) (i1 : Int32) (i2 : Int32) (i3 : Int32) (M : zM) (post : Int32 → zM → Prop) : Prop := ∀ K19 : Int32 → Nat → zM → Prop, ∀ K69 : Int32 → Nat → zM → Prop, (∀ (w0 : Int32) (w1 : Nat) (M : zM), w1 < N0 ∧ tg w1 = 9 ∧ (∀ M1 : zM, M1 = zI M w1 6 w0 → (((M1.1 a0 6) ≤ 0 → (Wp_Mo_writePart a0 i1 M1 (fun M2 => ((i2 < 0 → (K69 1 a0 M2)) ∧ (¬ i2 < 0 → ((i2 < (M2.1 a0 59) → ((i3 < 0 → (K69 2 a0 M2)) ∧ (¬ i3 < 0 → ((i3 ≤ 255 → (K69 0 a0 M2)) ∧ (¬ i3 ≤ 255 → (K69 2 a0 M2)))))) ∧ (¬ i2 < (M2.1 a0 59) → (K69 1 a0 M2)))))))) ∧ (¬ (M1.1 a0 6) ≤ 0 → (post 0 M1)))) → K19 w0 w1 M) → (∀ (w0 : Int32) (w1 : Nat) (M : zM), w1 < N0 ∧ tg w1 = 9 ∧ (∀ M3 : zM, M3 = zI M w1 6 w0 → (((M3.1 a0 6) ≤ 0 → (vp_in i2 (ln (a0 + 37)) ∧ (vp_in i2 (ln (a0 + 37)) ∧ (∀ M4 : zM, M4 = zI M3 (a0 + 37) (i2).toNatClampNeg (vp_nar .byte ((((M3.1 (a0 + 37) (i2).toNatClampNeg) ^^^ i3)).toInt8.toInt32)) → (Wp_Mo_come a0 M4 (fun x6 M5 => (post x6 M5))))))) ∧ (¬ (M3.1 a0 6) ≤ 0 → (post 0 M3)))) → K69 w0 w1 M) → ((i1 < 1 → (K19 1 a0 M)) ∧ (¬ i1 < 1 → ((i1 ≤ (M.1 a0 31) → (K19 0 a0 M)) ∧ (¬ i1 ≤ (M.1 a0 31) → (K19 1 a0 M)))))
/-- MailChainModel.forge(II)V -/
def Wp_Mo_forge (a0 : Nat) (i1 : Int32) (i2 : Int32) (M : zM) (post : zM → Prop) : Prop := ∀ K31 : Int32 → Nat → zM → Prop, (∀ (w0 : Int32) (w1 : Nat) (M : zM), w1 < N0 ∧ tg w1 = 9 ∧ (∀ M1 : zM, M1 = zI M w1 6 w0 → ((¬ (M1.1 a0 6) = 0 → (∀ M2 : zM, M2 = zI M1 a0 7 0 → (post M2))) ∧ ((M1.1 a0 6) = 0 → (Wp_Mo_emptyBox a0 M1 (fun M3 => ((¬ i1 = 2 → ((¬ i1 = 1 → (Wp_Mo_compressRow a0 (a0 + 7) (M3.1 a0 7) i2 M3 (fun M4 => (Wp_Mo_spellRow a0 (a0 + 23) (M4.1 a0 27) M4 (fun M5 => (Wp_Mo_keep a0 1 1 (a0 + 24) 0 (M5.1 a0 29) M5 (fun M6 => (∀ M7 : zM, M7 = zI M6 a0 7 0 → (post M7))))))))) ∧ (i1 = 1 → (Wp_Mo_spellRow a0 (a0 + 7) (M3.1 a0 7) M3 (fun M8 => (Wp_Mo_keep a0 1 1 (a0 + 24) 0 (M8.1 a0 29) M8 (fun M9 => (∀ M10 : zM, M10 = zI M9 a0 7 0 → (post M10))))))))) ∧ (i1 = 2 → (Wp_Mo_keep a0 1 1 (a0 + 7) 0 (M3.1 a0 7) M3 (fun M11 => (∀ M12 : zM, M12 = zI M11 a0 7 0 → (post M12))))))))))) → K31 w0 w1 M) → ((i1 < 0 → (K31 1 a0 M)) ∧ (¬ i1 < 0 → ((2 < i1 → (K31 1 a0 M)) ∧ (¬ 2 < i1 → ((¬ i1 = 0 → (K31 0 a0 M)) ∧ (i1 = 0 → ((i2 < 9 → (K31 1 a0 M)) ∧ (¬ i2 < 9 → ((i2 ≤ 16 → (K31 0 a0 M)) ∧ (¬ i2 ≤ 16 → (K31 1 a0 M)))))))))))
/-- MailChainModel.empty()I -/
def Wp_Mo_empty (a0 : Nat) (M : zM) (post : Int32 → zM → Prop) : Prop := (∀ M1 : zM, M1 = zI M a0 6 0 → (∀ x2 : Int32, x2 = (M1.1 a0 38) → (Wp_Mo_emptyBox a0 M1 (fun M3 => (post x2 M3)))))
/-- MailChainModel.areSame([BI[BI)Z -/
def Wp_Mo_areSame (a0 : Nat) (i1 : Int32) (a2 : Nat) (i3 : Int32) (M : zM) (post : Int32 → zM → Prop) : Prop := ∀ K15 : Int32 → Int32 → zM → Prop, (∀ (v4 : Int32) (v5 : Int32) (M : zM), ((i1 ≤ v5 → (narrow .boolean (.int v4) = .int v4 ∧ post v4 M)) ∧ (¬ i1 ≤ v5 → ((v4 = 0 → (narrow .boolean (.int v4) = .int v4 ∧ post v4 M)) ∧ (¬ v4 = 0 → (vp_in v5 (ln a0) ∧ (vp_in v5 (ln a2) ∧ ((¬ (M.1 a0 (v5).toNatClampNeg) = (M.1 a2 (v5).toNatClampNeg) → (∀ x1 : Int32, x1 = v5 + 1 → (K15 0 x1 M))) ∧ ((M.1 a0 (v5).toNatClampNeg) = (M.1 a2 (v5).toNatClampNeg) → (∀ x2 : Int32, x2 = v5 + 1 → (K15 1 x2 M)))))))))) → K15 v4 v5 M) → ((¬ i1 = i3 → (K15 0 0 M)) ∧ (i1 = i3 → (K15 1 0 M)))
/-- MailChainModel.octalAt(II)J -/
def Wp_Mo_octalAt (a0 : Nat) (i1 : Int32) (i2 : Int32) (M : zM) (post : Int64 → zM → Prop) : Prop := ∀ K5 : Int64 → Int32 → zM → Prop, (∀ (v3 : Int64) (v5 : Int32) (M : zM), ((i2 ≤ v5 → (post v3 M)) ∧ (¬ i2 ≤ v5 → (vp_in (i1 + v5) (ln (a0 + 32)) ∧ (∀ y1 : Int64, y1 = ((v3 <<< (((3 : Int32)).toInt64 &&& 63)) ||| (((((M.1 (a0 + 32) ((i1 + v5)).toNatClampNeg) - 48) &&& 7)).toInt64)) → (∀ x2 : Int32, x2 = v5 + 1 → (K5 y1 x2 M)))))) → K5 v3 v5 M) → (K5 0 0 M)
/-- MailChainModel.take(IIIIII)V -/
def Wp_Mo_take (a0 : Nat) (i1 : Int32) (i2 : Int32) (i3 : Int32) (i4 : Int32) (i5 : Int32) (i6 : Int32) (M : zM) (post : zM → Prop) : Prop := ∀ K116 : Int32 → zM → Prop, (∀ (v8 : Int32) (M : zM), ((i3 ≤ v8 → (post M)) ∧ (¬ i3 ≤ v8 → (vp_in (2 : Int32) (ln (a0 + 19)) ∧ (vp_in ((((i1 + 76) + i2) + 1) + v8) (ln (a0 + 32)) ∧ (vp_in (40000 + (M.1 (a0 + 19) ((2 : Int32)).toNatClampNeg)) (ln (a0 + 20)) ∧ (∀ M17 : zM, M17 = zI M (a0 + 20) ((40000 + (M.1 (a0 + 19) ((2 : Int32)).toNatClampNeg))).toNatClampNeg (vp_nar .byte (M.1 (a0 + 32) (((((i1 + 76) + i2) + 1) + v8)).toNatClampNeg)) → (vp_in (2 : Int32) (ln (a0 + 19)) ∧ (vp_in (2 : Int32) (ln (a0 + 19)) ∧ (∀ M18 : zM, M18 = zI M17 (a0 + 19) ((2 : Int32)).toNatClampNeg ((M17.1 (a0 + 19) ((2 : Int32)).toNatClampNeg) + 1) → (∀ x19 : Int32, x19 = v8 + 1 → (K116 x19 M18))))))))))) → K116 v8 M) → (Wp_Mo_enter a0 2 M (fun x2 M1 => (vp_in x2 (ln (a0 + 11)) ∧ (∀ M3 : zM, M3 = zI M1 (a0 + 11) (x2).toNatClampNeg i4 → (vp_in x2 (ln (a0 + 12)) ∧ (∀ M4 : zM, M4 = zI M3 (a0 + 12) (x2).toNatClampNeg (i5 &&& 4095) → (Wp_Mo_octalAt a0 (i1 + 24) 6 M4 (fun y6 M5 => (vp_in x2 (ln (a0 + 13)) ∧ (∀ M7 : zM, M7 = zI M5 (a0 + 13) (x2).toNatClampNeg ((y6).toInt32) → (Wp_Mo_octalAt a0 (i1 + 30) 6 M7 (fun y9 M8 => (vp_in x2 (ln (a0 + 14)) ∧ (∀ M10 : zM, M10 = zI M8 (a0 + 14) (x2).toNatClampNeg ((y9).toInt32) → (vp_in x2 (ln (a0 + 15)) ∧ (∀ M11 : zM, M11 = zI M10 (a0 + 15) (x2).toNatClampNeg i6 → (Wp_Mo_octalAt a0 (i1 + 12) 6 M11 (fun y13 M12 => (vp_in x2 (ln (a0 + 18)) ∧ (∀ M14 : zM, M14 = zI M12 (a0 + 18) (x2).toNatClampNeg ((y13).toInt32) → (vp_in (2 : Int32) (ln (a0 + 19)) ∧ (vp_in x2 (ln (a0 + 16)) ∧ (∀ M15 : zM, M15 = zI M14 (a0 + 16) (x2).toNatClampNeg (M14.1 (a0 + 19) ((2 : Int32)).toNatClampNeg) → (vp_in x2 (ln (a0 + 17)) ∧ (∀ M16 : zM, M16 = zI M15 (a0 + 17) (x2).toNatClampNeg i3 → (K116 0 M16))))))))))))))))))))))))))
theorem d_Mo_part_0 : decode b_Mo_part 0 = .ok (.aload_n 0, 1) := by decide +kernel
theorem d_Mo_part_1 : decode b_Mo_part 1 = .ok (.iload_n 1, 1) := by decide +kernel
theorem d_Mo_part_2 : decode b_Mo_part 2 = .ok (.iconst 1, 1) := by decide +kernel
theorem d_Mo_part_3 : decode b_Mo_part 3 = .ok (.if_icmp .lt 16, 3) := by decide +kernel
theorem d_Mo_part_6 : decode b_Mo_part 6 = .ok (.iload_n 1, 1) := by decide +kernel
theorem d_Mo_part_7 : decode b_Mo_part 7 = .ok (.aload_n 0, 1) := by decide +kernel
theorem d_Mo_part_8 : decode b_Mo_part 8 = .ok (.getfield 305, 3) := by decide +kernel
theorem d_Mo_part_11 : decode b_Mo_part 11 = .ok (.if_icmp .gt 8, 3) := by decide +kernel
theorem d_Mo_part_14 : decode b_Mo_part 14 = .ok (.iload_n 2, 1) := by decide +kernel
theorem d_Mo_part_15 : decode b_Mo_part 15 = .ok (.iconst (-1), 1) := by decide +kernel
theorem d_Mo_part_16 : decode b_Mo_part 16 = .ok (.if_icmp .ge 7, 3) := by decide +kernel
theorem d_Mo_part_19 : decode b_Mo_part 19 = .ok (.iconst 1, 1) := by decide +kernel
theorem d_Mo_part_20 : decode b_Mo_part 20 = .ok (.goto 4, 3) := by decide +kernel
theorem d_Mo_part_23 : decode b_Mo_part 23 = .ok (.iconst 0, 1) := by decide +kernel
theorem d_Mo_part_24 : decode b_Mo_part 24 = .ok (.putfield 128, 3) := by decide +kernel
theorem d_Mo_part_27 : decode b_Mo_part 27 = .ok (.aload_n 0, 1) := by decide +kernel
theorem d_Mo_part_28 : decode b_Mo_part 28 = .ok (.getfield 128, 3) := by decide +kernel
theorem d_Mo_part_31 : decode b_Mo_part 31 = .ok (.ifCond .le 5, 3) := by decide +kernel
theorem d_Mo_part_34 : decode b_Mo_part 34 = .ok (.iconst 0, 1) := by decide +kernel
theorem d_Mo_part_35 : decode b_Mo_part 35 = .ok (.ireturn, 1) := by decide +kernel
theorem d_Mo_part_36 : decode b_Mo_part 36 = .ok (.aload_n 0, 1) := by decide +kernel
theorem d_Mo_part_37 : decode b_Mo_part 37 = .ok (.iload_n 1, 1) := by decide +kernel
theorem d_Mo_part_38 : decode b_Mo_part 38 = .ok (.invokevirtual 335, 3) := by decide +kernel
theorem d_Mo_part_41 : decode b_Mo_part 41 = .ok (.aload_n 0, 1) := by decide +kernel
theorem d_Mo_part_42 : decode b_Mo_part 42 = .ok (.iload_n 2, 1) := by decide +kernel
theorem d_Mo_part_43 : decode b_Mo_part 43 = .ok (.aload_n 0, 1) := by decide +kernel
theorem d_Mo_part_44 : decode b_Mo_part 44 = .ok (.getfield 322, 3) := by decide +kernel
theorem d_Mo_part_47 : decode b_Mo_part 47 = .ok (.if_icmp .lt 7, 3) := by decide +kernel
theorem d_Mo_part_50 : decode b_Mo_part 50 = .ok (.iconst 1, 1) := by decide +kernel
theorem d_Mo_part_51 : decode b_Mo_part 51 = .ok (.goto 4, 3) := by decide +kernel
theorem d_Mo_part_54 : decode b_Mo_part 54 = .ok (.iconst 0, 1) := by decide +kernel
theorem d_Mo_part_55 : decode b_Mo_part 55 = .ok (.putfield 128, 3) := by decide +kernel
theorem d_Mo_part_58 : decode b_Mo_part 58 = .ok (.aload_n 0, 1) := by decide +kernel
theorem d_Mo_part_59 : decode b_Mo_part 59 = .ok (.getfield 128, 3) := by decide +kernel
theorem d_Mo_part_62 : decode b_Mo_part 62 = .ok (.ifCond .le 7, 3) := by decide +kernel
theorem d_Mo_part_65 : decode b_Mo_part 65 = .ok (.iconst 0, 1) := by decide +kernel
theorem d_Mo_part_66 : decode b_Mo_part 66 = .ok (.goto 24, 3) := by decide +kernel
theorem d_Mo_part_69 : decode b_Mo_part 69 = .ok (.iload_n 2, 1) := by decide +kernel
theorem d_Mo_part_70 : decode b_Mo_part 70 = .ok (.ifCond .ge 10, 3) := by decide +kernel
theorem d_Mo_part_73 : decode b_Mo_part 73 = .ok (.aload_n 0, 1) := by decide +kernel
theorem d_Mo_part_74 : decode b_Mo_part 74 = .ok (.getfield 322, 3) := by decide +kernel
theorem d_Mo_part_77 : decode b_Mo_part 77 = .ok (.goto 13, 3) := by decide +kernel
theorem d_Mo_part_80 : decode b_Mo_part 80 = .ok (.aload_n 0, 1) := by decide +kernel
theorem d_Mo_part_81 : decode b_Mo_part 81 = .ok (.getfield 125, 3) := by decide +kernel
theorem d_Mo_part_84 : decode b_Mo_part 84 = .ok (.iload_n 2, 1) := by decide +kernel
theorem d_Mo_part_85 : decode b_Mo_part 85 = .ok (.baload, 1) := by decide +kernel
theorem d_Mo_part_86 : decode b_Mo_part 86 = .ok (.sipush 255, 3) := by decide +kernel
theorem d_Mo_part_89 : decode b_Mo_part 89 = .ok (.iand, 1) := by decide +kernel
theorem d_Mo_part_90 : decode b_Mo_part 90 = .ok (.ireturn, 1) := by decide +kernel
theorem d_Mo_stage_0 : decode b_Mo_stage 0 = .ok (.aload_n 0, 1) := by decide +kernel
theorem d_Mo_stage_1 : decode b_Mo_stage 1 = .ok (.iload_n 1, 1) := by decide +kernel
theorem d_Mo_stage_2 : decode b_Mo_stage 2 = .ok (.ifCond .lt 8, 3) := by decide +kernel
theorem d_Mo_stage_5 : decode b_Mo_stage 5 = .ok (.iload_n 1, 1) := by decide +kernel
theorem d_Mo_stage_6 : decode b_Mo_stage 6 = .ok (.iconst 2, 1) := by decide +kernel
theorem d_Mo_stage_7 : decode b_Mo_stage 7 = .ok (.if_icmp .le 7, 3) := by decide +kernel
theorem d_Mo_stage_10 : decode b_Mo_stage 10 = .ok (.iconst 1, 1) := by decide +kernel
theorem d_Mo_stage_11 : decode b_Mo_stage 11 = .ok (.goto 4, 3) := by decide +kernel
theorem d_Mo_stage_14 : decode b_Mo_stage 14 = .ok (.iconst 0, 1) := by decide +kernel
theorem d_Mo_stage_15 : decode b_Mo_stage 15 = .ok (.putfield 128, 3) := by decide +kernel
theorem d_Mo_stage_18 : decode b_Mo_stage 18 = .ok (.aload_n 0, 1) := by decide +kernel
theorem d_Mo_stage_19 : decode b_Mo_stage 19 = .ok (.getfield 128, 3) := by decide +kernel
theorem d_Mo_stage_22 : decode b_Mo_stage 22 = .ok (.ifCond .gt 7, 3) := by decide +kernel
theorem d_Mo_stage_25 : decode b_Mo_stage 25 = .ok (.iload_n 2, 1) := by decide +kernel
theorem d_Mo_stage_26 : decode b_Mo_stage 26 = .ok (.ifCond .ge 16, 3) := by decide +kernel
theorem d_Mo_stage_29 : decode b_Mo_stage 29 = .ok (.aload_n 0, 1) := by decide +kernel
theorem d_Mo_stage_30 : decode b_Mo_stage 30 = .ok (.getfield 128, 3) := by decide +kernel
theorem d_Mo_stage_33 : decode b_Mo_stage 33 = .ok (.ifCond .le 7, 3) := by decide +kernel
theorem d_Mo_stage_36 : decode b_Mo_stage 36 = .ok (.iconst 0, 1) := by decide +kernel
theorem d_Mo_stage_37 : decode b_Mo_stage 37 = .ok (.goto 4, 3) := by decide +kernel
theorem d_Mo_stage_40 : decode b_Mo_stage 40 = .ok (.iconst (-1), 1) := by decide +kernel
theorem d_Mo_stage_41 : decode b_Mo_stage 41 = .ok (.ireturn, 1) := by decide +kernel
theorem d_Mo_stage_42 : decode b_Mo_stage 42 = .ok (.iload_n 1, 1) := by decide +kernel
theorem d_Mo_stage_43 : decode b_Mo_stage 43 = .ok (.ifCond .ne 41, 3) := by decide +kernel
theorem d_Mo_stage_46 : decode b_Mo_stage 46 = .ok (.aload_n 0, 1) := by decide +kernel
theorem d_Mo_stage_47 : decode b_Mo_stage 47 = .ok (.iconst 0, 1) := by decide +kernel
theorem d_Mo_stage_48 : decode b_Mo_stage 48 = .ok (.invokevirtual 292, 3) := by decide +kernel
theorem d_Mo_stage_51 : decode b_Mo_stage 51 = .ok (.ifCond .eq 5, 3) := by decide +kernel
theorem d_Mo_stage_54 : decode b_Mo_stage 54 = .ok (.iconst (-1), 1) := by decide +kernel
theorem d_Mo_stage_55 : decode b_Mo_stage 55 = .ok (.ireturn, 1) := by decide +kernel
theorem d_Mo_stage_56 : decode b_Mo_stage 56 = .ok (.aload_n 0, 1) := by decide +kernel
theorem d_Mo_stage_57 : decode b_Mo_stage 57 = .ok (.iconst 0, 1) := by decide +kernel
theorem d_Mo_stage_58 : decode b_Mo_stage 58 = .ok (.invokevirtual 295, 3) := by decide +kernel
theorem d_Mo_stage_61 : decode b_Mo_stage 61 = .ok (.iload_n 2, 1) := by decide +kernel
theorem d_Mo_stage_62 : decode b_Mo_stage 62 = .ok (.aload_n 0, 1) := by decide +kernel
theorem d_Mo_stage_63 : decode b_Mo_stage 63 = .ok (.getfield 195, 3) := by decide +kernel
theorem d_Mo_stage_66 : decode b_Mo_stage 66 = .ok (.if_icmp .ge 16, 3) := by decide +kernel
theorem d_Mo_stage_69 : decode b_Mo_stage 69 = .ok (.aload_n 0, 1) := by decide +kernel
theorem d_Mo_stage_70 : decode b_Mo_stage 70 = .ok (.getfield 75, 3) := by decide +kernel
theorem d_Mo_stage_73 : decode b_Mo_stage 73 = .ok (.iload_n 2, 1) := by decide +kernel
theorem d_Mo_stage_74 : decode b_Mo_stage 74 = .ok (.baload, 1) := by decide +kernel
theorem d_Mo_stage_75 : decode b_Mo_stage 75 = .ok (.sipush 255, 3) := by decide +kernel
theorem d_Mo_stage_78 : decode b_Mo_stage 78 = .ok (.iand, 1) := by decide +kernel
theorem d_Mo_stage_79 : decode b_Mo_stage 79 = .ok (.goto 4, 3) := by decide +kernel
theorem d_Mo_stage_82 : decode b_Mo_stage 82 = .ok (.iconst (-1), 1) := by decide +kernel
theorem d_Mo_stage_83 : decode b_Mo_stage 83 = .ok (.ireturn, 1) := by decide +kernel
theorem d_Mo_stage_84 : decode b_Mo_stage 84 = .ok (.iload_n 1, 1) := by decide +kernel
theorem d_Mo_stage_85 : decode b_Mo_stage 85 = .ok (.iconst 1, 1) := by decide +kernel
theorem d_Mo_stage_86 : decode b_Mo_stage 86 = .ok (.if_icmp .ne 26, 3) := by decide +kernel
theorem d_Mo_stage_89 : decode b_Mo_stage 89 = .ok (.iload_n 2, 1) := by decide +kernel
theorem d_Mo_stage_90 : decode b_Mo_stage 90 = .ok (.aload_n 0, 1) := by decide +kernel
theorem d_Mo_stage_91 : decode b_Mo_stage 91 = .ok (.getfield 311, 3) := by decide +kernel
theorem d_Mo_stage_94 : decode b_Mo_stage 94 = .ok (.if_icmp .ge 16, 3) := by decide +kernel
theorem d_Mo_stage_97 : decode b_Mo_stage 97 = .ok (.aload_n 0, 1) := by decide +kernel
theorem d_Mo_stage_98 : decode b_Mo_stage 98 = .ok (.getfield 86, 3) := by decide +kernel
theorem d_Mo_stage_101 : decode b_Mo_stage 101 = .ok (.iload_n 2, 1) := by decide +kernel
theorem d_Mo_stage_102 : decode b_Mo_stage 102 = .ok (.baload, 1) := by decide +kernel
theorem d_Mo_stage_103 : decode b_Mo_stage 103 = .ok (.sipush 255, 3) := by decide +kernel
theorem d_Mo_stage_106 : decode b_Mo_stage 106 = .ok (.iand, 1) := by decide +kernel
theorem d_Mo_stage_107 : decode b_Mo_stage 107 = .ok (.goto 4, 3) := by decide +kernel
theorem d_Mo_stage_110 : decode b_Mo_stage 110 = .ok (.iconst (-1), 1) := by decide +kernel
theorem d_Mo_stage_111 : decode b_Mo_stage 111 = .ok (.ireturn, 1) := by decide +kernel
theorem d_Mo_stage_112 : decode b_Mo_stage 112 = .ok (.iload_n 2, 1) := by decide +kernel
theorem d_Mo_stage_113 : decode b_Mo_stage 113 = .ok (.aload_n 0, 1) := by decide +kernel
theorem d_Mo_stage_114 : decode b_Mo_stage 114 = .ok (.getfield 314, 3) := by decide +kernel
theorem d_Mo_stage_117 : decode b_Mo_stage 117 = .ok (.if_icmp .ge 16, 3) := by decide +kernel
theorem d_Mo_stage_120 : decode b_Mo_stage 120 = .ok (.aload_n 0, 1) := by decide +kernel
theorem d_Mo_stage_121 : decode b_Mo_stage 121 = .ok (.getfield 89, 3) := by decide +kernel
theorem d_Mo_stage_124 : decode b_Mo_stage 124 = .ok (.iload_n 2, 1) := by decide +kernel
theorem d_Mo_stage_125 : decode b_Mo_stage 125 = .ok (.baload, 1) := by decide +kernel
theorem d_Mo_stage_126 : decode b_Mo_stage 126 = .ok (.sipush 255, 3) := by decide +kernel
theorem d_Mo_stage_129 : decode b_Mo_stage 129 = .ok (.iand, 1) := by decide +kernel
theorem d_Mo_stage_130 : decode b_Mo_stage 130 = .ok (.goto 4, 3) := by decide +kernel
theorem d_Mo_stage_133 : decode b_Mo_stage 133 = .ok (.iconst (-1), 1) := by decide +kernel
theorem d_Mo_stage_134 : decode b_Mo_stage 134 = .ok (.ireturn, 1) := by decide +kernel
theorem d_Mo_word_0 : decode b_Mo_word 0 = .ok (.iconst 1, 1) := by decide +kernel
theorem d_Mo_word_1 : decode b_Mo_word 1 = .ok (.istore_n 2, 1) := by decide +kernel
theorem d_Mo_word_2 : decode b_Mo_word 2 = .ok (.iconst 0, 1) := by decide +kernel
theorem d_Mo_word_3 : decode b_Mo_word 3 = .ok (.istore_n 3, 1) := by decide +kernel
theorem d_Mo_word_4 : decode b_Mo_word 4 = .ok (.iload_n 3, 1) := by decide +kernel
theorem d_Mo_word_5 : decode b_Mo_word 5 = .ok (.aload_n 1, 1) := by decide +kernel
theorem d_Mo_word_6 : decode b_Mo_word 6 = .ok (.arraylength, 1) := by decide +kernel
theorem d_Mo_word_7 : decode b_Mo_word 7 = .ok (.if_icmp .ge 55, 3) := by decide +kernel
theorem d_Mo_word_10 : decode b_Mo_word 10 = .ok (.iload_n 2, 1) := by decide +kernel
theorem d_Mo_word_11 : decode b_Mo_word 11 = .ok (.ifCond .eq 51, 3) := by decide +kernel
theorem d_Mo_word_14 : decode b_Mo_word 14 = .ok (.aload_n 0, 1) := by decide +kernel
theorem d_Mo_word_15 : decode b_Mo_word 15 = .ok (.getfield 338, 3) := by decide +kernel
theorem d_Mo_word_18 : decode b_Mo_word 18 = .ok (.aload_n 0, 1) := by decide +kernel
theorem d_Mo_word_19 : decode b_Mo_word 19 = .ok (.getfield 322, 3) := by decide +kernel
theorem d_Mo_word_22 : decode b_Mo_word 22 = .ok (.if_icmp .ge 22, 3) := by decide +kernel
theorem d_Mo_word_25 : decode b_Mo_word 25 = .ok (.aload_n 0, 1) := by decide +kernel
theorem d_Mo_word_26 : decode b_Mo_word 26 = .ok (.getfield 125, 3) := by decide +kernel
theorem d_Mo_word_29 : decode b_Mo_word 29 = .ok (.aload_n 0, 1) := by decide +kernel
theorem d_Mo_word_30 : decode b_Mo_word 30 = .ok (.getfield 338, 3) := by decide +kernel
theorem d_Mo_word_33 : decode b_Mo_word 33 = .ok (.baload, 1) := by decide +kernel
theorem d_Mo_word_34 : decode b_Mo_word 34 = .ok (.aload_n 1, 1) := by decide +kernel
theorem d_Mo_word_35 : decode b_Mo_word 35 = .ok (.iload_n 3, 1) := by decide +kernel
theorem d_Mo_word_36 : decode b_Mo_word 36 = .ok (.baload, 1) := by decide +kernel
theorem d_Mo_word_37 : decode b_Mo_word 37 = .ok (.if_icmp .ne 7, 3) := by decide +kernel
theorem d_Mo_word_40 : decode b_Mo_word 40 = .ok (.iconst 1, 1) := by decide +kernel
theorem d_Mo_word_41 : decode b_Mo_word 41 = .ok (.goto 4, 3) := by decide +kernel
theorem d_Mo_word_44 : decode b_Mo_word 44 = .ok (.iconst 0, 1) := by decide +kernel
theorem d_Mo_word_45 : decode b_Mo_word 45 = .ok (.istore_n 2, 1) := by decide +kernel
theorem d_Mo_word_46 : decode b_Mo_word 46 = .ok (.aload_n 0, 1) := by decide +kernel
theorem d_Mo_word_47 : decode b_Mo_word 47 = .ok (.dup, 1) := by decide +kernel
theorem d_Mo_word_48 : decode b_Mo_word 48 = .ok (.getfield 338, 3) := by decide +kernel
theorem d_Mo_word_51 : decode b_Mo_word 51 = .ok (.iconst 1, 1) := by decide +kernel
theorem d_Mo_word_52 : decode b_Mo_word 52 = .ok (.iadd, 1) := by decide +kernel
theorem d_Mo_word_53 : decode b_Mo_word 53 = .ok (.putfield 338, 3) := by decide +kernel
theorem d_Mo_word_56 : decode b_Mo_word 56 = .ok (.iinc 3 1, 3) := by decide +kernel
theorem d_Mo_word_59 : decode b_Mo_word 59 = .ok (.goto (-55), 3) := by decide +kernel
theorem d_Mo_word_62 : decode b_Mo_word 62 = .ok (.iload_n 2, 1) := by decide +kernel
theorem d_Mo_word_63 : decode b_Mo_word 63 = .ok (.ireturn, 1) := by decide +kernel
theorem d_Mo_decimal_0 : decode b_Mo_decimal 0 = .ok (.aload_n 0, 1) := by decide +kernel
theorem d_Mo_decimal_1 : decode b_Mo_decimal 1 = .ok (.getfield 338, 3) := by decide +kernel
theorem d_Mo_decimal_4 : decode b_Mo_decimal 4 = .ok (.istore_n 2, 1) := by decide +kernel
theorem d_Mo_decimal_5 : decode b_Mo_decimal 5 = .ok (.lconst 0, 1) := by decide +kernel
theorem d_Mo_decimal_6 : decode b_Mo_decimal 6 = .ok (.lstore_n 3, 1) := by decide +kernel
theorem d_Mo_decimal_7 : decode b_Mo_decimal 7 = .ok (.aload_n 0, 1) := by decide +kernel
theorem d_Mo_decimal_8 : decode b_Mo_decimal 8 = .ok (.getfield 338, 3) := by decide +kernel
theorem d_Mo_decimal_11 : decode b_Mo_decimal 11 = .ok (.aload_n 0, 1) := by decide +kernel
theorem d_Mo_decimal_12 : decode b_Mo_decimal 12 = .ok (.getfield 322, 3) := by decide +kernel
theorem d_Mo_decimal_15 : decode b_Mo_decimal 15 = .ok (.if_icmp .ge 76, 3) := by decide +kernel
theorem d_Mo_decimal_18 : decode b_Mo_decimal 18 = .ok (.aload_n 0, 1) := by decide +kernel
theorem d_Mo_decimal_19 : decode b_Mo_decimal 19 = .ok (.getfield 338, 3) := by decide +kernel
theorem d_Mo_decimal_22 : decode b_Mo_decimal 22 = .ok (.iload_n 2, 1) := by decide +kernel
theorem d_Mo_decimal_23 : decode b_Mo_decimal 23 = .ok (.isub, 1) := by decide +kernel
theorem d_Mo_decimal_24 : decode b_Mo_decimal 24 = .ok (.bipush 11, 2) := by decide +kernel
theorem d_Mo_decimal_26 : decode b_Mo_decimal 26 = .ok (.if_icmp .ge 65, 3) := by decide +kernel
theorem d_Mo_decimal_29 : decode b_Mo_decimal 29 = .ok (.aload_n 0, 1) := by decide +kernel
theorem d_Mo_decimal_30 : decode b_Mo_decimal 30 = .ok (.getfield 125, 3) := by decide +kernel
theorem d_Mo_decimal_33 : decode b_Mo_decimal 33 = .ok (.aload_n 0, 1) := by decide +kernel
theorem d_Mo_decimal_34 : decode b_Mo_decimal 34 = .ok (.getfield 338, 3) := by decide +kernel
theorem d_Mo_decimal_37 : decode b_Mo_decimal 37 = .ok (.baload, 1) := by decide +kernel
theorem d_Mo_decimal_38 : decode b_Mo_decimal 38 = .ok (.bipush 48, 2) := by decide +kernel
theorem d_Mo_decimal_40 : decode b_Mo_decimal 40 = .ok (.if_icmp .lt 51, 3) := by decide +kernel
theorem d_Mo_decimal_43 : decode b_Mo_decimal 43 = .ok (.aload_n 0, 1) := by decide +kernel
theorem d_Mo_decimal_44 : decode b_Mo_decimal 44 = .ok (.getfield 125, 3) := by decide +kernel
theorem d_Mo_decimal_47 : decode b_Mo_decimal 47 = .ok (.aload_n 0, 1) := by decide +kernel
theorem d_Mo_decimal_48 : decode b_Mo_decimal 48 = .ok (.getfield 338, 3) := by decide +kernel
theorem d_Mo_decimal_51 : decode b_Mo_decimal 51 = .ok (.baload, 1) := by decide +kernel
theorem d_Mo_decimal_52 : decode b_Mo_decimal 52 = .ok (.bipush 57, 2) := by decide +kernel
theorem d_Mo_decimal_54 : decode b_Mo_decimal 54 = .ok (.if_icmp .gt 37, 3) := by decide +kernel
theorem d_Mo_decimal_57 : decode b_Mo_decimal 57 = .ok (.ldc2_w 320, 3) := by decide +kernel
theorem d_Mo_decimal_60 : decode b_Mo_decimal 60 = .ok (.lload_n 3, 1) := by decide +kernel
theorem d_Mo_decimal_61 : decode b_Mo_decimal 61 = .ok (.lmul, 1) := by decide +kernel
theorem d_Mo_decimal_62 : decode b_Mo_decimal 62 = .ok (.aload_n 0, 1) := by decide +kernel
theorem d_Mo_decimal_63 : decode b_Mo_decimal 63 = .ok (.getfield 125, 3) := by decide +kernel
theorem d_Mo_decimal_66 : decode b_Mo_decimal 66 = .ok (.aload_n 0, 1) := by decide +kernel
theorem d_Mo_decimal_67 : decode b_Mo_decimal 67 = .ok (.getfield 338, 3) := by decide +kernel
theorem d_Mo_decimal_70 : decode b_Mo_decimal 70 = .ok (.baload, 1) := by decide +kernel
theorem d_Mo_decimal_71 : decode b_Mo_decimal 71 = .ok (.i2l, 1) := by decide +kernel
theorem d_Mo_decimal_72 : decode b_Mo_decimal 72 = .ok (.ladd, 1) := by decide +kernel
theorem d_Mo_decimal_73 : decode b_Mo_decimal 73 = .ok (.ldc2_w 341, 3) := by decide +kernel
theorem d_Mo_decimal_76 : decode b_Mo_decimal 76 = .ok (.lsub, 1) := by decide +kernel
theorem d_Mo_decimal_77 : decode b_Mo_decimal 77 = .ok (.lstore_n 3, 1) := by decide +kernel
theorem d_Mo_decimal_78 : decode b_Mo_decimal 78 = .ok (.aload_n 0, 1) := by decide +kernel
theorem d_Mo_decimal_79 : decode b_Mo_decimal 79 = .ok (.dup, 1) := by decide +kernel
theorem d_Mo_decimal_80 : decode b_Mo_decimal 80 = .ok (.getfield 338, 3) := by decide +kernel
theorem d_Mo_decimal_83 : decode b_Mo_decimal 83 = .ok (.iconst 1, 1) := by decide +kernel
theorem d_Mo_decimal_84 : decode b_Mo_decimal 84 = .ok (.iadd, 1) := by decide +kernel
theorem d_Mo_decimal_85 : decode b_Mo_decimal 85 = .ok (.putfield 338, 3) := by decide +kernel
theorem d_Mo_decimal_88 : decode b_Mo_decimal 88 = .ok (.goto (-81), 3) := by decide +kernel
theorem d_Mo_decimal_91 : decode b_Mo_decimal 91 = .ok (.aload_n 0, 1) := by decide +kernel
theorem d_Mo_decimal_92 : decode b_Mo_decimal 92 = .ok (.getfield 338, 3) := by decide +kernel
theorem d_Mo_decimal_95 : decode b_Mo_decimal 95 = .ok (.iload_n 2, 1) := by decide +kernel
theorem d_Mo_decimal_96 : decode b_Mo_decimal 96 = .ok (.isub, 1) := by decide +kernel
theorem d_Mo_decimal_97 : decode b_Mo_decimal 97 = .ok (.istore 5, 2) := by decide +kernel
theorem d_Mo_decimal_99 : decode b_Mo_decimal 99 = .ok (.iload 5, 2) := by decide +kernel
theorem d_Mo_decimal_101 : decode b_Mo_decimal 101 = .ok (.iconst 1, 1) := by decide +kernel
theorem d_Mo_decimal_102 : decode b_Mo_decimal 102 = .ok (.if_icmp .lt 55, 3) := by decide +kernel
theorem d_Mo_decimal_105 : decode b_Mo_decimal 105 = .ok (.iload 5, 2) := by decide +kernel
theorem d_Mo_decimal_107 : decode b_Mo_decimal 107 = .ok (.bipush 10, 2) := by decide +kernel
theorem d_Mo_decimal_109 : decode b_Mo_decimal 109 = .ok (.if_icmp .gt 48, 3) := by decide +kernel
theorem d_Mo_decimal_112 : decode b_Mo_decimal 112 = .ok (.iload 5, 2) := by decide +kernel
theorem d_Mo_decimal_114 : decode b_Mo_decimal 114 = .ok (.iconst 1, 1) := by decide +kernel
theorem d_Mo_decimal_115 : decode b_Mo_decimal 115 = .ok (.if_icmp .eq 14, 3) := by decide +kernel
theorem d_Mo_decimal_118 : decode b_Mo_decimal 118 = .ok (.aload_n 0, 1) := by decide +kernel
theorem d_Mo_decimal_119 : decode b_Mo_decimal 119 = .ok (.getfield 125, 3) := by decide +kernel
theorem d_Mo_decimal_122 : decode b_Mo_decimal 122 = .ok (.iload_n 2, 1) := by decide +kernel
theorem d_Mo_decimal_123 : decode b_Mo_decimal 123 = .ok (.baload, 1) := by decide +kernel
theorem d_Mo_decimal_124 : decode b_Mo_decimal 124 = .ok (.bipush 48, 2) := by decide +kernel
theorem d_Mo_decimal_126 : decode b_Mo_decimal 126 = .ok (.if_icmp .eq 31, 3) := by decide +kernel
theorem d_Mo_decimal_129 : decode b_Mo_decimal 129 = .ok (.aload_n 0, 1) := by decide +kernel
theorem d_Mo_decimal_130 : decode b_Mo_decimal 130 = .ok (.getfield 338, 3) := by decide +kernel
theorem d_Mo_decimal_133 : decode b_Mo_decimal 133 = .ok (.aload_n 0, 1) := by decide +kernel
theorem d_Mo_decimal_134 : decode b_Mo_decimal 134 = .ok (.getfield 322, 3) := by decide +kernel
theorem d_Mo_decimal_137 : decode b_Mo_decimal 137 = .ok (.if_icmp .ge 20, 3) := by decide +kernel
theorem d_Mo_decimal_140 : decode b_Mo_decimal 140 = .ok (.aload_n 0, 1) := by decide +kernel
theorem d_Mo_decimal_141 : decode b_Mo_decimal 141 = .ok (.getfield 125, 3) := by decide +kernel
theorem d_Mo_decimal_144 : decode b_Mo_decimal 144 = .ok (.aload_n 0, 1) := by decide +kernel
theorem d_Mo_decimal_145 : decode b_Mo_decimal 145 = .ok (.getfield 338, 3) := by decide +kernel
theorem d_Mo_decimal_148 : decode b_Mo_decimal 148 = .ok (.baload, 1) := by decide +kernel
theorem d_Mo_decimal_149 : decode b_Mo_decimal 149 = .ok (.iload_n 1, 1) := by decide +kernel
theorem d_Mo_decimal_150 : decode b_Mo_decimal 150 = .ok (.if_icmp .ne 7, 3) := by decide +kernel
theorem d_Mo_decimal_153 : decode b_Mo_decimal 153 = .ok (.iconst 1, 1) := by decide +kernel
theorem d_Mo_decimal_154 : decode b_Mo_decimal 154 = .ok (.goto 4, 3) := by decide +kernel
theorem d_Mo_decimal_157 : decode b_Mo_decimal 157 = .ok (.iconst 0, 1) := by decide +kernel
theorem d_Mo_decimal_158 : decode b_Mo_decimal 158 = .ok (.istore 6, 2) := by decide +kernel
theorem d_Mo_decimal_160 : decode b_Mo_decimal 160 = .ok (.aload_n 0, 1) := by decide +kernel
theorem d_Mo_decimal_161 : decode b_Mo_decimal 161 = .ok (.dup, 1) := by decide +kernel
theorem d_Mo_decimal_162 : decode b_Mo_decimal 162 = .ok (.getfield 338, 3) := by decide +kernel
theorem d_Mo_decimal_165 : decode b_Mo_decimal 165 = .ok (.iconst 1, 1) := by decide +kernel
theorem d_Mo_decimal_166 : decode b_Mo_decimal 166 = .ok (.iadd, 1) := by decide +kernel
theorem d_Mo_decimal_167 : decode b_Mo_decimal 167 = .ok (.putfield 338, 3) := by decide +kernel
theorem d_Mo_decimal_170 : decode b_Mo_decimal 170 = .ok (.iload 6, 2) := by decide +kernel
theorem d_Mo_decimal_172 : decode b_Mo_decimal 172 = .ok (.ifCond .eq 7, 3) := by decide +kernel
theorem d_Mo_decimal_175 : decode b_Mo_decimal 175 = .ok (.lload_n 3, 1) := by decide +kernel
theorem d_Mo_decimal_176 : decode b_Mo_decimal 176 = .ok (.goto 6, 3) := by decide +kernel
theorem d_Mo_decimal_179 : decode b_Mo_decimal 179 = .ok (.ldc2_w 343, 3) := by decide +kernel
theorem d_Mo_decimal_182 : decode b_Mo_decimal 182 = .ok (.lreturn, 1) := by decide +kernel
theorem d_Mo_keep_0 : decode b_Mo_keep 0 = .ok (.aload_n 0, 1) := by decide +kernel
theorem d_Mo_keep_1 : decode b_Mo_keep 1 = .ok (.iload_n 2, 1) := by decide +kernel
theorem d_Mo_keep_2 : decode b_Mo_keep 2 = .ok (.putfield 360, 3) := by decide +kernel
theorem d_Mo_keep_5 : decode b_Mo_keep 5 = .ok (.aload_n 0, 1) := by decide +kernel
theorem d_Mo_keep_6 : decode b_Mo_keep 6 = .ok (.dup, 1) := by decide +kernel
theorem d_Mo_keep_7 : decode b_Mo_keep 7 = .ok (.getfield 357, 3) := by decide +kernel
theorem d_Mo_keep_10 : decode b_Mo_keep 10 = .ok (.iconst 1, 1) := by decide +kernel
theorem d_Mo_keep_11 : decode b_Mo_keep 11 = .ok (.iadd, 1) := by decide +kernel
theorem d_Mo_keep_12 : decode b_Mo_keep 12 = .ok (.putfield 357, 3) := by decide +kernel
theorem d_Mo_keep_15 : decode b_Mo_keep 15 = .ok (.aload_n 0, 1) := by decide +kernel
theorem d_Mo_keep_16 : decode b_Mo_keep 16 = .ok (.getfield 92, 3) := by decide +kernel
theorem d_Mo_keep_19 : decode b_Mo_keep 19 = .ok (.iload_n 1, 1) := by decide +kernel
theorem d_Mo_keep_20 : decode b_Mo_keep 20 = .ok (.iconst 1, 1) := by decide +kernel
theorem d_Mo_keep_21 : decode b_Mo_keep 21 = .ok (.bastore, 1) := by decide +kernel
theorem d_Mo_keep_22 : decode b_Mo_keep 22 = .ok (.aload_n 0, 1) := by decide +kernel
theorem d_Mo_keep_23 : decode b_Mo_keep 23 = .ok (.getfield 96, 3) := by decide +kernel
theorem d_Mo_keep_26 : decode b_Mo_keep 26 = .ok (.iload_n 1, 1) := by decide +kernel
theorem d_Mo_keep_27 : decode b_Mo_keep 27 = .ok (.iload 5, 2) := by decide +kernel
theorem d_Mo_keep_29 : decode b_Mo_keep 29 = .ok (.iastore, 1) := by decide +kernel
theorem d_Mo_keep_30 : decode b_Mo_keep 30 = .ok (.aload_n 0, 1) := by decide +kernel
theorem d_Mo_keep_31 : decode b_Mo_keep 31 = .ok (.getfield 99, 3) := by decide +kernel
theorem d_Mo_keep_34 : decode b_Mo_keep 34 = .ok (.iload_n 1, 1) := by decide +kernel
theorem d_Mo_keep_35 : decode b_Mo_keep 35 = .ok (.aload_n 0, 1) := by decide +kernel
theorem d_Mo_keep_36 : decode b_Mo_keep 36 = .ok (.getfield 371, 3) := by decide +kernel
theorem d_Mo_keep_39 : decode b_Mo_keep 39 = .ok (.iastore, 1) := by decide +kernel
theorem d_Mo_keep_40 : decode b_Mo_keep 40 = .ok (.aload_n 0, 1) := by decide +kernel
theorem d_Mo_keep_41 : decode b_Mo_keep 41 = .ok (.aload_n 0, 1) := by decide +kernel
theorem d_Mo_keep_42 : decode b_Mo_keep 42 = .ok (.getfield 367, 3) := by decide +kernel
theorem d_Mo_keep_45 : decode b_Mo_keep 45 = .ok (.iload 5, 2) := by decide +kernel
theorem d_Mo_keep_47 : decode b_Mo_keep 47 = .ok (.i2l, 1) := by decide +kernel
theorem d_Mo_keep_48 : decode b_Mo_keep 48 = .ok (.ladd, 1) := by decide +kernel
theorem d_Mo_keep_49 : decode b_Mo_keep 49 = .ok (.putfield 367, 3) := by decide +kernel
theorem d_Mo_keep_52 : decode b_Mo_keep 52 = .ok (.iconst 0, 1) := by decide +kernel
theorem d_Mo_keep_53 : decode b_Mo_keep 53 = .ok (.istore 6, 2) := by decide +kernel
theorem d_Mo_keep_55 : decode b_Mo_keep 55 = .ok (.iload 6, 2) := by decide +kernel
theorem d_Mo_keep_57 : decode b_Mo_keep 57 = .ok (.iload 5, 2) := by decide +kernel
theorem d_Mo_keep_59 : decode b_Mo_keep 59 = .ok (.if_icmp .ge 46, 3) := by decide +kernel
theorem d_Mo_keep_62 : decode b_Mo_keep 62 = .ok (.aload_n 0, 1) := by decide +kernel
theorem d_Mo_keep_63 : decode b_Mo_keep 63 = .ok (.getfield 367, 3) := by decide +kernel
theorem d_Mo_keep_66 : decode b_Mo_keep 66 = .ok (.ldc2_w 353, 3) := by decide +kernel
theorem d_Mo_keep_69 : decode b_Mo_keep 69 = .ok (.lcmp, 1) := by decide +kernel
theorem d_Mo_keep_70 : decode b_Mo_keep 70 = .ok (.ifCond .gt 35, 3) := by decide +kernel
theorem d_Mo_keep_73 : decode b_Mo_keep 73 = .ok (.aload_n 0, 1) := by decide +kernel
theorem d_Mo_keep_74 : decode b_Mo_keep 74 = .ok (.getfield 103, 3) := by decide +kernel
theorem d_Mo_keep_77 : decode b_Mo_keep 77 = .ok (.aload_n 0, 1) := by decide +kernel
theorem d_Mo_keep_78 : decode b_Mo_keep 78 = .ok (.getfield 371, 3) := by decide +kernel
theorem d_Mo_keep_81 : decode b_Mo_keep 81 = .ok (.aload_n 3, 1) := by decide +kernel
theorem d_Mo_keep_82 : decode b_Mo_keep 82 = .ok (.iload 4, 2) := by decide +kernel
theorem d_Mo_keep_84 : decode b_Mo_keep 84 = .ok (.iload 6, 2) := by decide +kernel
theorem d_Mo_keep_86 : decode b_Mo_keep 86 = .ok (.iadd, 1) := by decide +kernel
theorem d_Mo_keep_87 : decode b_Mo_keep 87 = .ok (.baload, 1) := by decide +kernel
theorem d_Mo_keep_88 : decode b_Mo_keep 88 = .ok (.bastore, 1) := by decide +kernel
theorem d_Mo_keep_89 : decode b_Mo_keep 89 = .ok (.aload_n 0, 1) := by decide +kernel
theorem d_Mo_keep_90 : decode b_Mo_keep 90 = .ok (.dup, 1) := by decide +kernel
theorem d_Mo_keep_91 : decode b_Mo_keep 91 = .ok (.getfield 371, 3) := by decide +kernel
theorem d_Mo_keep_94 : decode b_Mo_keep 94 = .ok (.iconst 1, 1) := by decide +kernel
theorem d_Mo_keep_95 : decode b_Mo_keep 95 = .ok (.iadd, 1) := by decide +kernel
theorem d_Mo_keep_96 : decode b_Mo_keep 96 = .ok (.putfield 371, 3) := by decide +kernel
theorem d_Mo_keep_99 : decode b_Mo_keep 99 = .ok (.iinc 6 1, 3) := by decide +kernel
theorem d_Mo_keep_102 : decode b_Mo_keep 102 = .ok (.goto (-47), 3) := by decide +kernel
theorem d_Mo_keep_105 : decode b_Mo_keep 105 = .ok (.return_, 1) := by decide +kernel
theorem d_Mo_come_0 : decode b_Mo_come 0 = .ok (.aload_n 0, 1) := by decide +kernel
theorem d_Mo_come_1 : decode b_Mo_come 1 = .ok (.iconst 0, 1) := by decide +kernel
theorem d_Mo_come_2 : decode b_Mo_come 2 = .ok (.putfield 338, 3) := by decide +kernel
theorem d_Mo_come_5 : decode b_Mo_come 5 = .ok (.aload_n 0, 1) := by decide +kernel
theorem d_Mo_come_6 : decode b_Mo_come 6 = .ok (.aload_n 0, 1) := by decide +kernel
theorem d_Mo_come_7 : decode b_Mo_come 7 = .ok (.getfield 16, 3) := by decide +kernel
theorem d_Mo_come_10 : decode b_Mo_come 10 = .ok (.invokevirtual 345, 3) := by decide +kernel
theorem d_Mo_come_13 : decode b_Mo_come 13 = .ok (.istore_n 1, 1) := by decide +kernel
theorem d_Mo_come_14 : decode b_Mo_come 14 = .ok (.iload_n 1, 1) := by decide +kernel
theorem d_Mo_come_15 : decode b_Mo_come 15 = .ok (.ifCond .eq 12, 3) := by decide +kernel
theorem d_Mo_come_18 : decode b_Mo_come 18 = .ok (.aload_n 0, 1) := by decide +kernel
theorem d_Mo_come_19 : decode b_Mo_come 19 = .ok (.bipush 32, 2) := by decide +kernel
theorem d_Mo_come_21 : decode b_Mo_come 21 = .ok (.invokevirtual 349, 3) := by decide +kernel
theorem d_Mo_come_24 : decode b_Mo_come 24 = .ok (.goto 6, 3) := by decide +kernel
theorem d_Mo_come_27 : decode b_Mo_come 27 = .ok (.ldc2_w 343, 3) := by decide +kernel
theorem d_Mo_come_30 : decode b_Mo_come 30 = .ok (.lstore_n 2, 1) := by decide +kernel
theorem d_Mo_come_31 : decode b_Mo_come 31 = .ok (.iload_n 1, 1) := by decide +kernel
theorem d_Mo_come_32 : decode b_Mo_come 32 = .ok (.ifCond .eq 24, 3) := by decide +kernel
theorem d_Mo_come_35 : decode b_Mo_come 35 = .ok (.lload_n 2, 1) := by decide +kernel
theorem d_Mo_come_36 : decode b_Mo_come 36 = .ok (.lconst 0, 1) := by decide +kernel
theorem d_Mo_come_37 : decode b_Mo_come 37 = .ok (.lcmp, 1) := by decide +kernel
theorem d_Mo_come_38 : decode b_Mo_come 38 = .ok (.ifCond .lt 18, 3) := by decide +kernel
theorem d_Mo_come_41 : decode b_Mo_come 41 = .ok (.aload_n 0, 1) := by decide +kernel
theorem d_Mo_come_42 : decode b_Mo_come 42 = .ok (.aload_n 0, 1) := by decide +kernel
theorem d_Mo_come_43 : decode b_Mo_come 43 = .ok (.getfield 19, 3) := by decide +kernel
theorem d_Mo_come_46 : decode b_Mo_come 46 = .ok (.invokevirtual 345, 3) := by decide +kernel
theorem d_Mo_come_49 : decode b_Mo_come 49 = .ok (.ifCond .eq 7, 3) := by decide +kernel
theorem d_Mo_come_52 : decode b_Mo_come 52 = .ok (.iconst 1, 1) := by decide +kernel
theorem d_Mo_come_53 : decode b_Mo_come 53 = .ok (.goto 4, 3) := by decide +kernel
theorem d_Mo_come_56 : decode b_Mo_come 56 = .ok (.iconst 0, 1) := by decide +kernel
theorem d_Mo_come_57 : decode b_Mo_come 57 = .ok (.istore_n 1, 1) := by decide +kernel
theorem d_Mo_come_58 : decode b_Mo_come 58 = .ok (.iload_n 1, 1) := by decide +kernel
theorem d_Mo_come_59 : decode b_Mo_come 59 = .ok (.ifCond .eq 12, 3) := by decide +kernel
theorem d_Mo_come_62 : decode b_Mo_come 62 = .ok (.aload_n 0, 1) := by decide +kernel
theorem d_Mo_come_63 : decode b_Mo_come 63 = .ok (.bipush 32, 2) := by decide +kernel
theorem d_Mo_come_65 : decode b_Mo_come 65 = .ok (.invokevirtual 349, 3) := by decide +kernel
theorem d_Mo_come_68 : decode b_Mo_come 68 = .ok (.goto 6, 3) := by decide +kernel
theorem d_Mo_come_71 : decode b_Mo_come 71 = .ok (.ldc2_w 343, 3) := by decide +kernel
theorem d_Mo_come_74 : decode b_Mo_come 74 = .ok (.lstore 4, 2) := by decide +kernel
theorem d_Mo_come_76 : decode b_Mo_come 76 = .ok (.iload_n 1, 1) := by decide +kernel
theorem d_Mo_come_77 : decode b_Mo_come 77 = .ok (.ifCond .eq 25, 3) := by decide +kernel
theorem d_Mo_come_80 : decode b_Mo_come 80 = .ok (.lload 4, 2) := by decide +kernel
theorem d_Mo_come_82 : decode b_Mo_come 82 = .ok (.lconst 0, 1) := by decide +kernel
theorem d_Mo_come_83 : decode b_Mo_come 83 = .ok (.lcmp, 1) := by decide +kernel
theorem d_Mo_come_84 : decode b_Mo_come 84 = .ok (.ifCond .lt 18, 3) := by decide +kernel
theorem d_Mo_come_87 : decode b_Mo_come 87 = .ok (.aload_n 0, 1) := by decide +kernel
theorem d_Mo_come_88 : decode b_Mo_come 88 = .ok (.aload_n 0, 1) := by decide +kernel
theorem d_Mo_come_89 : decode b_Mo_come 89 = .ok (.getfield 22, 3) := by decide +kernel
theorem d_Mo_come_92 : decode b_Mo_come 92 = .ok (.invokevirtual 345, 3) := by decide +kernel
theorem d_Mo_come_95 : decode b_Mo_come 95 = .ok (.ifCond .eq 7, 3) := by decide +kernel
theorem d_Mo_come_98 : decode b_Mo_come 98 = .ok (.iconst 1, 1) := by decide +kernel
theorem d_Mo_come_99 : decode b_Mo_come 99 = .ok (.goto 4, 3) := by decide +kernel
theorem d_Mo_come_102 : decode b_Mo_come 102 = .ok (.iconst 0, 1) := by decide +kernel
theorem d_Mo_come_103 : decode b_Mo_come 103 = .ok (.istore_n 1, 1) := by decide +kernel
theorem d_Mo_come_104 : decode b_Mo_come 104 = .ok (.iload_n 1, 1) := by decide +kernel
theorem d_Mo_come_105 : decode b_Mo_come 105 = .ok (.ifCond .eq 12, 3) := by decide +kernel
theorem d_Mo_come_108 : decode b_Mo_come 108 = .ok (.aload_n 0, 1) := by decide +kernel
theorem d_Mo_come_109 : decode b_Mo_come 109 = .ok (.bipush 32, 2) := by decide +kernel
theorem d_Mo_come_111 : decode b_Mo_come 111 = .ok (.invokevirtual 349, 3) := by decide +kernel
theorem d_Mo_come_114 : decode b_Mo_come 114 = .ok (.goto 6, 3) := by decide +kernel
theorem d_Mo_come_117 : decode b_Mo_come 117 = .ok (.ldc2_w 343, 3) := by decide +kernel
theorem d_Mo_come_120 : decode b_Mo_come 120 = .ok (.lstore 6, 2) := by decide +kernel
theorem d_Mo_come_122 : decode b_Mo_come 122 = .ok (.iload_n 1, 1) := by decide +kernel
theorem d_Mo_come_123 : decode b_Mo_come 123 = .ok (.ifCond .eq 25, 3) := by decide +kernel
theorem d_Mo_come_126 : decode b_Mo_come 126 = .ok (.lload 6, 2) := by decide +kernel
theorem d_Mo_come_128 : decode b_Mo_come 128 = .ok (.lconst 0, 1) := by decide +kernel
theorem d_Mo_come_129 : decode b_Mo_come 129 = .ok (.lcmp, 1) := by decide +kernel
theorem d_Mo_come_130 : decode b_Mo_come 130 = .ok (.ifCond .lt 18, 3) := by decide +kernel
theorem d_Mo_come_133 : decode b_Mo_come 133 = .ok (.aload_n 0, 1) := by decide +kernel
theorem d_Mo_come_134 : decode b_Mo_come 134 = .ok (.aload_n 0, 1) := by decide +kernel
theorem d_Mo_come_135 : decode b_Mo_come 135 = .ok (.getfield 25, 3) := by decide +kernel
theorem d_Mo_come_138 : decode b_Mo_come 138 = .ok (.invokevirtual 345, 3) := by decide +kernel
theorem d_Mo_come_141 : decode b_Mo_come 141 = .ok (.ifCond .eq 7, 3) := by decide +kernel
theorem d_Mo_come_144 : decode b_Mo_come 144 = .ok (.iconst 1, 1) := by decide +kernel
theorem d_Mo_come_145 : decode b_Mo_come 145 = .ok (.goto 4, 3) := by decide +kernel
theorem d_Mo_come_148 : decode b_Mo_come 148 = .ok (.iconst 0, 1) := by decide +kernel
theorem d_Mo_come_149 : decode b_Mo_come 149 = .ok (.istore_n 1, 1) := by decide +kernel
theorem d_Mo_come_150 : decode b_Mo_come 150 = .ok (.iload_n 1, 1) := by decide +kernel
theorem d_Mo_come_151 : decode b_Mo_come 151 = .ok (.ifCond .eq 12, 3) := by decide +kernel
theorem d_Mo_come_154 : decode b_Mo_come 154 = .ok (.aload_n 0, 1) := by decide +kernel
theorem d_Mo_come_155 : decode b_Mo_come 155 = .ok (.bipush 10, 2) := by decide +kernel
theorem d_Mo_come_157 : decode b_Mo_come 157 = .ok (.invokevirtual 349, 3) := by decide +kernel
theorem d_Mo_come_160 : decode b_Mo_come 160 = .ok (.goto 6, 3) := by decide +kernel
theorem d_Mo_come_163 : decode b_Mo_come 163 = .ok (.ldc2_w 343, 3) := by decide +kernel
theorem d_Mo_come_166 : decode b_Mo_come 166 = .ok (.lstore 8, 2) := by decide +kernel
theorem d_Mo_come_168 : decode b_Mo_come 168 = .ok (.iload_n 1, 1) := by decide +kernel
theorem d_Mo_come_169 : decode b_Mo_come 169 = .ok (.ifCond .eq 57, 3) := by decide +kernel
theorem d_Mo_come_172 : decode b_Mo_come 172 = .ok (.lload 8, 2) := by decide +kernel
theorem d_Mo_come_174 : decode b_Mo_come 174 = .ok (.lconst 0, 1) := by decide +kernel
theorem d_Mo_come_175 : decode b_Mo_come 175 = .ok (.lcmp, 1) := by decide +kernel
theorem d_Mo_come_176 : decode b_Mo_come 176 = .ok (.ifCond .lt 50, 3) := by decide +kernel
theorem d_Mo_come_179 : decode b_Mo_come 179 = .ok (.lload 8, 2) := by decide +kernel
theorem d_Mo_come_181 : decode b_Mo_come 181 = .ok (.ldc2_w 333, 3) := by decide +kernel
theorem d_Mo_come_184 : decode b_Mo_come 184 = .ok (.lcmp, 1) := by decide +kernel
theorem d_Mo_come_185 : decode b_Mo_come 185 = .ok (.ifCond .gt 41, 3) := by decide +kernel
theorem d_Mo_come_188 : decode b_Mo_come 188 = .ok (.lload 6, 2) := by decide +kernel
theorem d_Mo_come_190 : decode b_Mo_come 190 = .ok (.ldc2_w 353, 3) := by decide +kernel
theorem d_Mo_come_193 : decode b_Mo_come 193 = .ok (.lcmp, 1) := by decide +kernel
theorem d_Mo_come_194 : decode b_Mo_come 194 = .ok (.ifCond .gt 32, 3) := by decide +kernel
theorem d_Mo_come_197 : decode b_Mo_come 197 = .ok (.lload 4, 2) := by decide +kernel
theorem d_Mo_come_199 : decode b_Mo_come 199 = .ok (.lconst 1, 1) := by decide +kernel
theorem d_Mo_come_200 : decode b_Mo_come 200 = .ok (.lcmp, 1) := by decide +kernel
theorem d_Mo_come_201 : decode b_Mo_come 201 = .ok (.ifCond .lt 25, 3) := by decide +kernel
theorem d_Mo_come_204 : decode b_Mo_come 204 = .ok (.lload 4, 2) := by decide +kernel
theorem d_Mo_come_206 : decode b_Mo_come 206 = .ok (.ldc2_w 355, 3) := by decide +kernel
theorem d_Mo_come_209 : decode b_Mo_come 209 = .ok (.lcmp, 1) := by decide +kernel
theorem d_Mo_come_210 : decode b_Mo_come 210 = .ok (.ifCond .gt 16, 3) := by decide +kernel
theorem d_Mo_come_213 : decode b_Mo_come 213 = .ok (.lload_n 2, 1) := by decide +kernel
theorem d_Mo_come_214 : decode b_Mo_come 214 = .ok (.lconst 1, 1) := by decide +kernel
theorem d_Mo_come_215 : decode b_Mo_come 215 = .ok (.lcmp, 1) := by decide +kernel
theorem d_Mo_come_216 : decode b_Mo_come 216 = .ok (.ifCond .lt 10, 3) := by decide +kernel
theorem d_Mo_come_219 : decode b_Mo_come 219 = .ok (.lload_n 2, 1) := by decide +kernel
theorem d_Mo_come_220 : decode b_Mo_come 220 = .ok (.lload 4, 2) := by decide +kernel
theorem d_Mo_come_222 : decode b_Mo_come 222 = .ok (.lcmp, 1) := by decide +kernel
theorem d_Mo_come_223 : decode b_Mo_come 223 = .ok (.ifCond .le 5, 3) := by decide +kernel
theorem d_Mo_come_226 : decode b_Mo_come 226 = .ok (.iconst 1, 1) := by decide +kernel
theorem d_Mo_come_227 : decode b_Mo_come 227 = .ok (.ireturn, 1) := by decide +kernel
theorem d_Mo_come_228 : decode b_Mo_come 228 = .ok (.aload_n 0, 1) := by decide +kernel
theorem d_Mo_come_229 : decode b_Mo_come 229 = .ok (.getfield 357, 3) := by decide +kernel
theorem d_Mo_come_232 : decode b_Mo_come 232 = .ok (.ifCond .le 16, 3) := by decide +kernel
theorem d_Mo_come_235 : decode b_Mo_come 235 = .ok (.aload_n 0, 1) := by decide +kernel
theorem d_Mo_come_236 : decode b_Mo_come 236 = .ok (.getfield 360, 3) := by decide +kernel
theorem d_Mo_come_239 : decode b_Mo_come 239 = .ok (.i2l, 1) := by decide +kernel
theorem d_Mo_come_240 : decode b_Mo_come 240 = .ok (.lload 4, 2) := by decide +kernel
theorem d_Mo_come_242 : decode b_Mo_come 242 = .ok (.lcmp, 1) := by decide +kernel
theorem d_Mo_come_243 : decode b_Mo_come 243 = .ok (.ifCond .eq 5, 3) := by decide +kernel
theorem d_Mo_come_246 : decode b_Mo_come 246 = .ok (.iconst 2, 1) := by decide +kernel
theorem d_Mo_come_247 : decode b_Mo_come 247 = .ok (.ireturn, 1) := by decide +kernel
theorem d_Mo_come_248 : decode b_Mo_come 248 = .ok (.lload_n 2, 1) := by decide +kernel
theorem d_Mo_come_249 : decode b_Mo_come 249 = .ok (.l2i, 1) := by decide +kernel
theorem d_Mo_come_250 : decode b_Mo_come 250 = .ok (.istore 10, 2) := by decide +kernel
theorem d_Mo_come_252 : decode b_Mo_come 252 = .ok (.aload_n 0, 1) := by decide +kernel
theorem d_Mo_come_253 : decode b_Mo_come 253 = .ok (.getfield 357, 3) := by decide +kernel
theorem d_Mo_come_256 : decode b_Mo_come 256 = .ok (.ifCond .le 15, 3) := by decide +kernel
theorem d_Mo_come_259 : decode b_Mo_come 259 = .ok (.aload_n 0, 1) := by decide +kernel
theorem d_Mo_come_260 : decode b_Mo_come 260 = .ok (.getfield 92, 3) := by decide +kernel
theorem d_Mo_come_263 : decode b_Mo_come 263 = .ok (.iload 10, 2) := by decide +kernel
theorem d_Mo_come_265 : decode b_Mo_come 265 = .ok (.baload, 1) := by decide +kernel
theorem d_Mo_come_266 : decode b_Mo_come 266 = .ok (.ifCond .eq 5, 3) := by decide +kernel
theorem d_Mo_come_269 : decode b_Mo_come 269 = .ok (.iconst 3, 1) := by decide +kernel
theorem d_Mo_come_270 : decode b_Mo_come 270 = .ok (.ireturn, 1) := by decide +kernel
theorem d_Mo_come_271 : decode b_Mo_come 271 = .ok (.aload_n 0, 1) := by decide +kernel
theorem d_Mo_come_272 : decode b_Mo_come 272 = .ok (.getfield 322, 3) := by decide +kernel
theorem d_Mo_come_275 : decode b_Mo_come 275 = .ok (.aload_n 0, 1) := by decide +kernel
theorem d_Mo_come_276 : decode b_Mo_come 276 = .ok (.getfield 338, 3) := by decide +kernel
theorem d_Mo_come_279 : decode b_Mo_come 279 = .ok (.isub, 1) := by decide +kernel
theorem d_Mo_come_280 : decode b_Mo_come 280 = .ok (.i2l, 1) := by decide +kernel
theorem d_Mo_come_281 : decode b_Mo_come 281 = .ok (.lload 6, 2) := by decide +kernel
theorem d_Mo_come_283 : decode b_Mo_come 283 = .ok (.lcmp, 1) := by decide +kernel
theorem d_Mo_come_284 : decode b_Mo_come 284 = .ok (.ifCond .eq 5, 3) := by decide +kernel
theorem d_Mo_come_287 : decode b_Mo_come 287 = .ok (.iconst 4, 1) := by decide +kernel
theorem d_Mo_come_288 : decode b_Mo_come 288 = .ok (.ireturn, 1) := by decide +kernel
theorem d_Mo_come_289 : decode b_Mo_come 289 = .ok (.aload_n 0, 1) := by decide +kernel
theorem d_Mo_come_290 : decode b_Mo_come 290 = .ok (.getfield 125, 3) := by decide +kernel
theorem d_Mo_come_293 : decode b_Mo_come 293 = .ok (.aload_n 0, 1) := by decide +kernel
theorem d_Mo_come_294 : decode b_Mo_come 294 = .ok (.getfield 338, 3) := by decide +kernel
theorem d_Mo_come_297 : decode b_Mo_come 297 = .ok (.lload 6, 2) := by decide +kernel
theorem d_Mo_come_299 : decode b_Mo_come 299 = .ok (.l2i, 1) := by decide +kernel
theorem d_Mo_come_300 : decode b_Mo_come 300 = .ok (.invokestatic 288, 3) := by decide +kernel
theorem d_Mo_come_303 : decode b_Mo_come 303 = .ok (.i2l, 1) := by decide +kernel
theorem d_Mo_come_304 : decode b_Mo_come 304 = .ok (.ldc2_w 333, 3) := by decide +kernel
theorem d_Mo_come_307 : decode b_Mo_come 307 = .ok (.land, 1) := by decide +kernel
theorem d_Mo_come_308 : decode b_Mo_come 308 = .ok (.lload 8, 2) := by decide +kernel
theorem d_Mo_come_310 : decode b_Mo_come 310 = .ok (.lcmp, 1) := by decide +kernel
theorem d_Mo_come_311 : decode b_Mo_come 311 = .ok (.ifCond .eq 5, 3) := by decide +kernel
theorem d_Mo_come_314 : decode b_Mo_come 314 = .ok (.iconst 5, 1) := by decide +kernel
theorem d_Mo_come_315 : decode b_Mo_come 315 = .ok (.ireturn, 1) := by decide +kernel
theorem d_Mo_come_316 : decode b_Mo_come 316 = .ok (.aload_n 0, 1) := by decide +kernel
theorem d_Mo_come_317 : decode b_Mo_come 317 = .ok (.iload 10, 2) := by decide +kernel
theorem d_Mo_come_319 : decode b_Mo_come 319 = .ok (.lload 4, 2) := by decide +kernel
theorem d_Mo_come_321 : decode b_Mo_come 321 = .ok (.l2i, 1) := by decide +kernel
theorem d_Mo_come_322 : decode b_Mo_come 322 = .ok (.aload_n 0, 1) := by decide +kernel
theorem d_Mo_come_323 : decode b_Mo_come 323 = .ok (.getfield 125, 3) := by decide +kernel
theorem d_Mo_come_326 : decode b_Mo_come 326 = .ok (.aload_n 0, 1) := by decide +kernel
theorem d_Mo_come_327 : decode b_Mo_come 327 = .ok (.getfield 338, 3) := by decide +kernel
theorem d_Mo_come_330 : decode b_Mo_come 330 = .ok (.lload 6, 2) := by decide +kernel
theorem d_Mo_come_332 : decode b_Mo_come 332 = .ok (.l2i, 1) := by decide +kernel
theorem d_Mo_come_333 : decode b_Mo_come 333 = .ok (.invokevirtual 363, 3) := by decide +kernel
theorem d_Mo_come_336 : decode b_Mo_come 336 = .ok (.iconst 0, 1) := by decide +kernel
theorem d_Mo_come_337 : decode b_Mo_come 337 = .ok (.ireturn, 1) := by decide +kernel
theorem d_Mo_emptyBox_0 : decode b_Mo_emptyBox 0 = .ok (.aload_n 0, 1) := by decide +kernel
theorem d_Mo_emptyBox_1 : decode b_Mo_emptyBox 1 = .ok (.iconst 0, 1) := by decide +kernel
theorem d_Mo_emptyBox_2 : decode b_Mo_emptyBox 2 = .ok (.putfield 357, 3) := by decide +kernel
theorem d_Mo_emptyBox_5 : decode b_Mo_emptyBox 5 = .ok (.aload_n 0, 1) := by decide +kernel
theorem d_Mo_emptyBox_6 : decode b_Mo_emptyBox 6 = .ok (.lconst 0, 1) := by decide +kernel
theorem d_Mo_emptyBox_7 : decode b_Mo_emptyBox 7 = .ok (.putfield 367, 3) := by decide +kernel
theorem d_Mo_emptyBox_10 : decode b_Mo_emptyBox 10 = .ok (.aload_n 0, 1) := by decide +kernel
theorem d_Mo_emptyBox_11 : decode b_Mo_emptyBox 11 = .ok (.iconst 0, 1) := by decide +kernel
theorem d_Mo_emptyBox_12 : decode b_Mo_emptyBox 12 = .ok (.putfield 371, 3) := by decide +kernel
theorem d_Mo_emptyBox_15 : decode b_Mo_emptyBox 15 = .ok (.iconst 0, 1) := by decide +kernel
theorem d_Mo_emptyBox_16 : decode b_Mo_emptyBox 16 = .ok (.istore_n 1, 1) := by decide +kernel
theorem d_Mo_emptyBox_17 : decode b_Mo_emptyBox 17 = .ok (.iload_n 1, 1) := by decide +kernel
theorem d_Mo_emptyBox_18 : decode b_Mo_emptyBox 18 = .ok (.sipush 1000, 3) := by decide +kernel
theorem d_Mo_emptyBox_21 : decode b_Mo_emptyBox 21 = .ok (.if_icmp .ge 16, 3) := by decide +kernel
theorem d_Mo_emptyBox_24 : decode b_Mo_emptyBox 24 = .ok (.aload_n 0, 1) := by decide +kernel
theorem d_Mo_emptyBox_25 : decode b_Mo_emptyBox 25 = .ok (.getfield 92, 3) := by decide +kernel
theorem d_Mo_emptyBox_28 : decode b_Mo_emptyBox 28 = .ok (.iload_n 1, 1) := by decide +kernel
theorem d_Mo_emptyBox_29 : decode b_Mo_emptyBox 29 = .ok (.iconst 0, 1) := by decide +kernel
theorem d_Mo_emptyBox_30 : decode b_Mo_emptyBox 30 = .ok (.bastore, 1) := by decide +kernel
theorem d_Mo_emptyBox_31 : decode b_Mo_emptyBox 31 = .ok (.iinc 1 1, 3) := by decide +kernel
theorem d_Mo_emptyBox_34 : decode b_Mo_emptyBox 34 = .ok (.goto (-17), 3) := by decide +kernel
theorem d_Mo_emptyBox_37 : decode b_Mo_emptyBox 37 = .ok (.return_, 1) := by decide +kernel
theorem d_Mo_receive_0 : decode b_Mo_receive 0 = .ok (.aload_n 0, 1) := by decide +kernel
theorem d_Mo_receive_1 : decode b_Mo_receive 1 = .ok (.iconst 0, 1) := by decide +kernel
theorem d_Mo_receive_2 : decode b_Mo_receive 2 = .ok (.putfield 128, 3) := by decide +kernel
theorem d_Mo_receive_5 : decode b_Mo_receive 5 = .ok (.aload_n 0, 1) := by decide +kernel
theorem d_Mo_receive_6 : decode b_Mo_receive 6 = .ok (.aload_n 0, 1) := by decide +kernel
theorem d_Mo_receive_7 : decode b_Mo_receive 7 = .ok (.getfield 132, 3) := by decide +kernel
theorem d_Mo_receive_10 : decode b_Mo_receive 10 = .ok (.putfield 322, 3) := by decide +kernel
theorem d_Mo_receive_13 : decode b_Mo_receive 13 = .ok (.iconst 0, 1) := by decide +kernel
theorem d_Mo_receive_14 : decode b_Mo_receive 14 = .ok (.istore_n 1, 1) := by decide +kernel
theorem d_Mo_receive_15 : decode b_Mo_receive 15 = .ok (.iload_n 1, 1) := by decide +kernel
theorem d_Mo_receive_16 : decode b_Mo_receive 16 = .ok (.aload_n 0, 1) := by decide +kernel
theorem d_Mo_receive_17 : decode b_Mo_receive 17 = .ok (.getfield 132, 3) := by decide +kernel
theorem d_Mo_receive_20 : decode b_Mo_receive 20 = .ok (.if_icmp .ge 21, 3) := by decide +kernel
theorem d_Mo_receive_23 : decode b_Mo_receive 23 = .ok (.aload_n 0, 1) := by decide +kernel
theorem d_Mo_receive_24 : decode b_Mo_receive 24 = .ok (.getfield 125, 3) := by decide +kernel
theorem d_Mo_receive_27 : decode b_Mo_receive 27 = .ok (.iload_n 1, 1) := by decide +kernel
theorem d_Mo_receive_28 : decode b_Mo_receive 28 = .ok (.aload_n 0, 1) := by decide +kernel
theorem d_Mo_receive_29 : decode b_Mo_receive 29 = .ok (.getfield 28, 3) := by decide +kernel
theorem d_Mo_receive_32 : decode b_Mo_receive 32 = .ok (.iload_n 1, 1) := by decide +kernel
theorem d_Mo_receive_33 : decode b_Mo_receive 33 = .ok (.baload, 1) := by decide +kernel
theorem d_Mo_receive_34 : decode b_Mo_receive 34 = .ok (.bastore, 1) := by decide +kernel
theorem d_Mo_receive_35 : decode b_Mo_receive 35 = .ok (.iinc 1 1, 3) := by decide +kernel
theorem d_Mo_receive_38 : decode b_Mo_receive 38 = .ok (.goto (-23), 3) := by decide +kernel
theorem d_Mo_receive_41 : decode b_Mo_receive 41 = .ok (.aload_n 0, 1) := by decide +kernel
theorem d_Mo_receive_42 : decode b_Mo_receive 42 = .ok (.iconst 0, 1) := by decide +kernel
theorem d_Mo_receive_43 : decode b_Mo_receive 43 = .ok (.putfield 132, 3) := by decide +kernel
theorem d_Mo_receive_46 : decode b_Mo_receive 46 = .ok (.aload_n 0, 1) := by decide +kernel
theorem d_Mo_receive_47 : decode b_Mo_receive 47 = .ok (.invokevirtual 374, 3) := by decide +kernel
theorem d_Mo_receive_50 : decode b_Mo_receive 50 = .ok (.ireturn, 1) := by decide +kernel
theorem d_Mo_pass_0 : decode b_Mo_pass 0 = .ok (.aload_n 0, 1) := by decide +kernel
theorem d_Mo_pass_1 : decode b_Mo_pass 1 = .ok (.iload_n 1, 1) := by decide +kernel
theorem d_Mo_pass_2 : decode b_Mo_pass 2 = .ok (.iconst 1, 1) := by decide +kernel
theorem d_Mo_pass_3 : decode b_Mo_pass 3 = .ok (.if_icmp .lt 11, 3) := by decide +kernel
theorem d_Mo_pass_6 : decode b_Mo_pass 6 = .ok (.iload_n 1, 1) := by decide +kernel
theorem d_Mo_pass_7 : decode b_Mo_pass 7 = .ok (.aload_n 0, 1) := by decide +kernel
theorem d_Mo_pass_8 : decode b_Mo_pass 8 = .ok (.getfield 305, 3) := by decide +kernel
theorem d_Mo_pass_11 : decode b_Mo_pass 11 = .ok (.if_icmp .le 7, 3) := by decide +kernel
theorem d_Mo_pass_14 : decode b_Mo_pass 14 = .ok (.iconst 1, 1) := by decide +kernel
theorem d_Mo_pass_15 : decode b_Mo_pass 15 = .ok (.goto 4, 3) := by decide +kernel
theorem d_Mo_pass_18 : decode b_Mo_pass 18 = .ok (.iconst 0, 1) := by decide +kernel
theorem d_Mo_pass_19 : decode b_Mo_pass 19 = .ok (.putfield 128, 3) := by decide +kernel
theorem d_Mo_pass_22 : decode b_Mo_pass 22 = .ok (.aload_n 0, 1) := by decide +kernel
theorem d_Mo_pass_23 : decode b_Mo_pass 23 = .ok (.getfield 128, 3) := by decide +kernel
theorem d_Mo_pass_26 : decode b_Mo_pass 26 = .ok (.ifCond .le 5, 3) := by decide +kernel
theorem d_Mo_pass_29 : decode b_Mo_pass 29 = .ok (.iconst 0, 1) := by decide +kernel
theorem d_Mo_pass_30 : decode b_Mo_pass 30 = .ok (.ireturn, 1) := by decide +kernel
theorem d_Mo_pass_31 : decode b_Mo_pass 31 = .ok (.aload_n 0, 1) := by decide +kernel
theorem d_Mo_pass_32 : decode b_Mo_pass 32 = .ok (.iload_n 1, 1) := by decide +kernel
theorem d_Mo_pass_33 : decode b_Mo_pass 33 = .ok (.invokevirtual 335, 3) := by decide +kernel
theorem d_Mo_pass_36 : decode b_Mo_pass 36 = .ok (.aload_n 0, 1) := by decide +kernel
theorem d_Mo_pass_37 : decode b_Mo_pass 37 = .ok (.iload_n 2, 1) := by decide +kernel
theorem d_Mo_pass_38 : decode b_Mo_pass 38 = .ok (.ifCond .lt 11, 3) := by decide +kernel
theorem d_Mo_pass_41 : decode b_Mo_pass 41 = .ok (.iload_n 2, 1) := by decide +kernel
theorem d_Mo_pass_42 : decode b_Mo_pass 42 = .ok (.aload_n 0, 1) := by decide +kernel
theorem d_Mo_pass_43 : decode b_Mo_pass 43 = .ok (.getfield 322, 3) := by decide +kernel
theorem d_Mo_pass_46 : decode b_Mo_pass 46 = .ok (.if_icmp .lt 7, 3) := by decide +kernel
theorem d_Mo_pass_49 : decode b_Mo_pass 49 = .ok (.iconst 1, 1) := by decide +kernel
theorem d_Mo_pass_50 : decode b_Mo_pass 50 = .ok (.goto 19, 3) := by decide +kernel
theorem d_Mo_pass_53 : decode b_Mo_pass 53 = .ok (.iload_n 3, 1) := by decide +kernel
theorem d_Mo_pass_54 : decode b_Mo_pass 54 = .ok (.ifCond .lt 10, 3) := by decide +kernel
theorem d_Mo_pass_57 : decode b_Mo_pass 57 = .ok (.iload_n 3, 1) := by decide +kernel
theorem d_Mo_pass_58 : decode b_Mo_pass 58 = .ok (.sipush 255, 3) := by decide +kernel
theorem d_Mo_pass_61 : decode b_Mo_pass 61 = .ok (.if_icmp .le 7, 3) := by decide +kernel
theorem d_Mo_pass_64 : decode b_Mo_pass 64 = .ok (.iconst 2, 1) := by decide +kernel
theorem d_Mo_pass_65 : decode b_Mo_pass 65 = .ok (.goto 4, 3) := by decide +kernel
theorem d_Mo_pass_68 : decode b_Mo_pass 68 = .ok (.iconst 0, 1) := by decide +kernel
theorem d_Mo_pass_69 : decode b_Mo_pass 69 = .ok (.putfield 128, 3) := by decide +kernel
theorem d_Mo_pass_72 : decode b_Mo_pass 72 = .ok (.aload_n 0, 1) := by decide +kernel
theorem d_Mo_pass_73 : decode b_Mo_pass 73 = .ok (.getfield 128, 3) := by decide +kernel
theorem d_Mo_pass_76 : decode b_Mo_pass 76 = .ok (.ifCond .le 5, 3) := by decide +kernel
theorem d_Mo_pass_79 : decode b_Mo_pass 79 = .ok (.iconst 0, 1) := by decide +kernel
theorem d_Mo_pass_80 : decode b_Mo_pass 80 = .ok (.ireturn, 1) := by decide +kernel
theorem d_Mo_pass_81 : decode b_Mo_pass 81 = .ok (.aload_n 0, 1) := by decide +kernel
theorem d_Mo_pass_82 : decode b_Mo_pass 82 = .ok (.getfield 125, 3) := by decide +kernel
theorem d_Mo_pass_85 : decode b_Mo_pass 85 = .ok (.iload_n 2, 1) := by decide +kernel
theorem d_Mo_pass_86 : decode b_Mo_pass 86 = .ok (.aload_n 0, 1) := by decide +kernel
theorem d_Mo_pass_87 : decode b_Mo_pass 87 = .ok (.getfield 125, 3) := by decide +kernel
theorem d_Mo_pass_90 : decode b_Mo_pass 90 = .ok (.iload_n 2, 1) := by decide +kernel
theorem d_Mo_pass_91 : decode b_Mo_pass 91 = .ok (.baload, 1) := by decide +kernel
theorem d_Mo_pass_92 : decode b_Mo_pass 92 = .ok (.iload_n 3, 1) := by decide +kernel
theorem d_Mo_pass_93 : decode b_Mo_pass 93 = .ok (.ixor, 1) := by decide +kernel
theorem d_Mo_pass_94 : decode b_Mo_pass 94 = .ok (.i2b, 1) := by decide +kernel
theorem d_Mo_pass_95 : decode b_Mo_pass 95 = .ok (.bastore, 1) := by decide +kernel
theorem d_Mo_pass_96 : decode b_Mo_pass 96 = .ok (.aload_n 0, 1) := by decide +kernel
theorem d_Mo_pass_97 : decode b_Mo_pass 97 = .ok (.invokevirtual 374, 3) := by decide +kernel
theorem d_Mo_pass_100 : decode b_Mo_pass 100 = .ok (.ireturn, 1) := by decide +kernel
theorem d_Mo_forge_0 : decode b_Mo_forge 0 = .ok (.aload_n 0, 1) := by decide +kernel
theorem d_Mo_forge_1 : decode b_Mo_forge 1 = .ok (.iload_n 1, 1) := by decide +kernel
theorem d_Mo_forge_2 : decode b_Mo_forge 2 = .ok (.ifCond .lt 24, 3) := by decide +kernel
theorem d_Mo_forge_5 : decode b_Mo_forge 5 = .ok (.iload_n 1, 1) := by decide +kernel
theorem d_Mo_forge_6 : decode b_Mo_forge 6 = .ok (.iconst 2, 1) := by decide +kernel
theorem d_Mo_forge_7 : decode b_Mo_forge 7 = .ok (.if_icmp .gt 19, 3) := by decide +kernel
theorem d_Mo_forge_10 : decode b_Mo_forge 10 = .ok (.iload_n 1, 1) := by decide +kernel
theorem d_Mo_forge_11 : decode b_Mo_forge 11 = .ok (.ifCond .ne 19, 3) := by decide +kernel
theorem d_Mo_forge_14 : decode b_Mo_forge 14 = .ok (.iload_n 2, 1) := by decide +kernel
theorem d_Mo_forge_15 : decode b_Mo_forge 15 = .ok (.bipush 9, 2) := by decide +kernel
theorem d_Mo_forge_17 : decode b_Mo_forge 17 = .ok (.if_icmp .lt 9, 3) := by decide +kernel
theorem d_Mo_forge_20 : decode b_Mo_forge 20 = .ok (.iload_n 2, 1) := by decide +kernel
theorem d_Mo_forge_21 : decode b_Mo_forge 21 = .ok (.bipush 16, 2) := by decide +kernel
theorem d_Mo_forge_23 : decode b_Mo_forge 23 = .ok (.if_icmp .le 7, 3) := by decide +kernel
theorem d_Mo_forge_26 : decode b_Mo_forge 26 = .ok (.iconst 1, 1) := by decide +kernel
theorem d_Mo_forge_27 : decode b_Mo_forge 27 = .ok (.goto 4, 3) := by decide +kernel
theorem d_Mo_forge_30 : decode b_Mo_forge 30 = .ok (.iconst 0, 1) := by decide +kernel
theorem d_Mo_forge_31 : decode b_Mo_forge 31 = .ok (.putfield 128, 3) := by decide +kernel
theorem d_Mo_forge_34 : decode b_Mo_forge 34 = .ok (.aload_n 0, 1) := by decide +kernel
theorem d_Mo_forge_35 : decode b_Mo_forge 35 = .ok (.getfield 128, 3) := by decide +kernel
theorem d_Mo_forge_38 : decode b_Mo_forge 38 = .ok (.ifCond .ne 105, 3) := by decide +kernel
theorem d_Mo_forge_41 : decode b_Mo_forge 41 = .ok (.aload_n 0, 1) := by decide +kernel
theorem d_Mo_forge_42 : decode b_Mo_forge 42 = .ok (.invokevirtual 378, 3) := by decide +kernel
theorem d_Mo_forge_45 : decode b_Mo_forge 45 = .ok (.iload_n 1, 1) := by decide +kernel
theorem d_Mo_forge_46 : decode b_Mo_forge 46 = .ok (.iconst 2, 1) := by decide +kernel
theorem d_Mo_forge_47 : decode b_Mo_forge 47 = .ok (.if_icmp .ne 21, 3) := by decide +kernel
theorem d_Mo_forge_50 : decode b_Mo_forge 50 = .ok (.aload_n 0, 1) := by decide +kernel
theorem d_Mo_forge_51 : decode b_Mo_forge 51 = .ok (.iconst 1, 1) := by decide +kernel
theorem d_Mo_forge_52 : decode b_Mo_forge 52 = .ok (.iconst 1, 1) := by decide +kernel
theorem d_Mo_forge_53 : decode b_Mo_forge 53 = .ok (.aload_n 0, 1) := by decide +kernel
theorem d_Mo_forge_54 : decode b_Mo_forge 54 = .ok (.getfield 28, 3) := by decide +kernel
theorem d_Mo_forge_57 : decode b_Mo_forge 57 = .ok (.iconst 0, 1) := by decide +kernel
theorem d_Mo_forge_58 : decode b_Mo_forge 58 = .ok (.aload_n 0, 1) := by decide +kernel
theorem d_Mo_forge_59 : decode b_Mo_forge 59 = .ok (.getfield 132, 3) := by decide +kernel
theorem d_Mo_forge_62 : decode b_Mo_forge 62 = .ok (.invokevirtual 363, 3) := by decide +kernel
theorem d_Mo_forge_65 : decode b_Mo_forge 65 = .ok (.goto 78, 3) := by decide +kernel
theorem d_Mo_forge_68 : decode b_Mo_forge 68 = .ok (.iload_n 1, 1) := by decide +kernel
theorem d_Mo_forge_69 : decode b_Mo_forge 69 = .ok (.iconst 1, 1) := by decide +kernel
theorem d_Mo_forge_70 : decode b_Mo_forge 70 = .ok (.if_icmp .ne 33, 3) := by decide +kernel
theorem d_Mo_forge_73 : decode b_Mo_forge 73 = .ok (.aload_n 0, 1) := by decide +kernel
theorem d_Mo_forge_74 : decode b_Mo_forge 74 = .ok (.aload_n 0, 1) := by decide +kernel
theorem d_Mo_forge_75 : decode b_Mo_forge 75 = .ok (.getfield 28, 3) := by decide +kernel
theorem d_Mo_forge_78 : decode b_Mo_forge 78 = .ok (.aload_n 0, 1) := by decide +kernel
theorem d_Mo_forge_79 : decode b_Mo_forge 79 = .ok (.getfield 132, 3) := by decide +kernel
theorem d_Mo_forge_82 : decode b_Mo_forge 82 = .ok (.invokevirtual 301, 3) := by decide +kernel
theorem d_Mo_forge_85 : decode b_Mo_forge 85 = .ok (.aload_n 0, 1) := by decide +kernel
theorem d_Mo_forge_86 : decode b_Mo_forge 86 = .ok (.iconst 1, 1) := by decide +kernel
theorem d_Mo_forge_87 : decode b_Mo_forge 87 = .ok (.iconst 1, 1) := by decide +kernel
theorem d_Mo_forge_88 : decode b_Mo_forge 88 = .ok (.aload_n 0, 1) := by decide +kernel
theorem d_Mo_forge_89 : decode b_Mo_forge 89 = .ok (.getfield 83, 3) := by decide +kernel
theorem d_Mo_forge_92 : decode b_Mo_forge 92 = .ok (.iconst 0, 1) := by decide +kernel
theorem d_Mo_forge_93 : decode b_Mo_forge 93 = .ok (.aload_n 0, 1) := by decide +kernel
theorem d_Mo_forge_94 : decode b_Mo_forge 94 = .ok (.getfield 274, 3) := by decide +kernel
theorem d_Mo_forge_97 : decode b_Mo_forge 97 = .ok (.invokevirtual 363, 3) := by decide +kernel
theorem d_Mo_forge_100 : decode b_Mo_forge 100 = .ok (.goto 43, 3) := by decide +kernel
theorem d_Mo_forge_103 : decode b_Mo_forge 103 = .ok (.aload_n 0, 1) := by decide +kernel
theorem d_Mo_forge_104 : decode b_Mo_forge 104 = .ok (.aload_n 0, 1) := by decide +kernel
theorem d_Mo_forge_105 : decode b_Mo_forge 105 = .ok (.getfield 28, 3) := by decide +kernel
theorem d_Mo_forge_108 : decode b_Mo_forge 108 = .ok (.aload_n 0, 1) := by decide +kernel
theorem d_Mo_forge_109 : decode b_Mo_forge 109 = .ok (.getfield 132, 3) := by decide +kernel
theorem d_Mo_forge_112 : decode b_Mo_forge 112 = .ok (.iload_n 2, 1) := by decide +kernel
theorem d_Mo_forge_113 : decode b_Mo_forge 113 = .ok (.invokevirtual 298, 3) := by decide +kernel
theorem d_Mo_forge_116 : decode b_Mo_forge 116 = .ok (.aload_n 0, 1) := by decide +kernel
theorem d_Mo_forge_117 : decode b_Mo_forge 117 = .ok (.aload_n 0, 1) := by decide +kernel
theorem d_Mo_forge_118 : decode b_Mo_forge 118 = .ok (.getfield 79, 3) := by decide +kernel
theorem d_Mo_forge_121 : decode b_Mo_forge 121 = .ok (.aload_n 0, 1) := by decide +kernel
theorem d_Mo_forge_122 : decode b_Mo_forge 122 = .ok (.getfield 232, 3) := by decide +kernel
theorem d_Mo_forge_125 : decode b_Mo_forge 125 = .ok (.invokevirtual 301, 3) := by decide +kernel
theorem d_Mo_forge_128 : decode b_Mo_forge 128 = .ok (.aload_n 0, 1) := by decide +kernel
theorem d_Mo_forge_129 : decode b_Mo_forge 129 = .ok (.iconst 1, 1) := by decide +kernel
theorem d_Mo_forge_130 : decode b_Mo_forge 130 = .ok (.iconst 1, 1) := by decide +kernel
theorem d_Mo_forge_131 : decode b_Mo_forge 131 = .ok (.aload_n 0, 1) := by decide +kernel
theorem d_Mo_forge_132 : decode b_Mo_forge 132 = .ok (.getfield 83, 3) := by decide +kernel
theorem d_Mo_forge_135 : decode b_Mo_forge 135 = .ok (.iconst 0, 1) := by decide +kernel
theorem d_Mo_forge_136 : decode b_Mo_forge 136 = .ok (.aload_n 0, 1) := by decide +kernel
theorem d_Mo_forge_137 : decode b_Mo_forge 137 = .ok (.getfield 274, 3) := by decide +kernel
theorem d_Mo_forge_140 : decode b_Mo_forge 140 = .ok (.invokevirtual 363, 3) := by decide +kernel
theorem d_Mo_forge_143 : decode b_Mo_forge 143 = .ok (.aload_n 0, 1) := by decide +kernel
theorem d_Mo_forge_144 : decode b_Mo_forge 144 = .ok (.iconst 0, 1) := by decide +kernel
theorem d_Mo_forge_145 : decode b_Mo_forge 145 = .ok (.putfield 132, 3) := by decide +kernel
theorem d_Mo_forge_148 : decode b_Mo_forge 148 = .ok (.return_, 1) := by decide +kernel
theorem d_Mo_empty_0 : decode b_Mo_empty 0 = .ok (.aload_n 0, 1) := by decide +kernel
theorem d_Mo_empty_1 : decode b_Mo_empty 1 = .ok (.iconst 0, 1) := by decide +kernel
theorem d_Mo_empty_2 : decode b_Mo_empty 2 = .ok (.putfield 128, 3) := by decide +kernel
theorem d_Mo_empty_5 : decode b_Mo_empty 5 = .ok (.aload_n 0, 1) := by decide +kernel
theorem d_Mo_empty_6 : decode b_Mo_empty 6 = .ok (.getfield 357, 3) := by decide +kernel
theorem d_Mo_empty_9 : decode b_Mo_empty 9 = .ok (.istore_n 1, 1) := by decide +kernel
theorem d_Mo_empty_10 : decode b_Mo_empty 10 = .ok (.aload_n 0, 1) := by decide +kernel
theorem d_Mo_empty_11 : decode b_Mo_empty 11 = .ok (.invokevirtual 378, 3) := by decide +kernel
theorem d_Mo_empty_14 : decode b_Mo_empty 14 = .ok (.iload_n 1, 1) := by decide +kernel
theorem d_Mo_empty_15 : decode b_Mo_empty 15 = .ok (.ireturn, 1) := by decide +kernel
theorem d_Mo_areSame_0 : decode b_Mo_areSame 0 = .ok (.iload_n 1, 1) := by decide +kernel
theorem d_Mo_areSame_1 : decode b_Mo_areSame 1 = .ok (.iload_n 3, 1) := by decide +kernel
theorem d_Mo_areSame_2 : decode b_Mo_areSame 2 = .ok (.if_icmp .ne 7, 3) := by decide +kernel
theorem d_Mo_areSame_5 : decode b_Mo_areSame 5 = .ok (.iconst 1, 1) := by decide +kernel
theorem d_Mo_areSame_6 : decode b_Mo_areSame 6 = .ok (.goto 4, 3) := by decide +kernel
theorem d_Mo_areSame_9 : decode b_Mo_areSame 9 = .ok (.iconst 0, 1) := by decide +kernel
theorem d_Mo_areSame_10 : decode b_Mo_areSame 10 = .ok (.istore 4, 2) := by decide +kernel
theorem d_Mo_areSame_12 : decode b_Mo_areSame 12 = .ok (.iconst 0, 1) := by decide +kernel
theorem d_Mo_areSame_13 : decode b_Mo_areSame 13 = .ok (.istore 5, 2) := by decide +kernel
theorem d_Mo_areSame_15 : decode b_Mo_areSame 15 = .ok (.iload 5, 2) := by decide +kernel
theorem d_Mo_areSame_17 : decode b_Mo_areSame 17 = .ok (.iload_n 1, 1) := by decide +kernel
theorem d_Mo_areSame_18 : decode b_Mo_areSame 18 = .ok (.if_icmp .ge 32, 3) := by decide +kernel
theorem d_Mo_areSame_21 : decode b_Mo_areSame 21 = .ok (.iload 4, 2) := by decide +kernel
theorem d_Mo_areSame_23 : decode b_Mo_areSame 23 = .ok (.ifCond .eq 27, 3) := by decide +kernel
theorem d_Mo_areSame_26 : decode b_Mo_areSame 26 = .ok (.aload_n 0, 1) := by decide +kernel
theorem d_Mo_areSame_27 : decode b_Mo_areSame 27 = .ok (.iload 5, 2) := by decide +kernel
theorem d_Mo_areSame_29 : decode b_Mo_areSame 29 = .ok (.baload, 1) := by decide +kernel
theorem d_Mo_areSame_30 : decode b_Mo_areSame 30 = .ok (.aload_n 2, 1) := by decide +kernel
theorem d_Mo_areSame_31 : decode b_Mo_areSame 31 = .ok (.iload 5, 2) := by decide +kernel
theorem d_Mo_areSame_33 : decode b_Mo_areSame 33 = .ok (.baload, 1) := by decide +kernel
theorem d_Mo_areSame_34 : decode b_Mo_areSame 34 = .ok (.if_icmp .ne 7, 3) := by decide +kernel
theorem d_Mo_areSame_37 : decode b_Mo_areSame 37 = .ok (.iconst 1, 1) := by decide +kernel
theorem d_Mo_areSame_38 : decode b_Mo_areSame 38 = .ok (.goto 4, 3) := by decide +kernel
theorem d_Mo_areSame_41 : decode b_Mo_areSame 41 = .ok (.iconst 0, 1) := by decide +kernel
theorem d_Mo_areSame_42 : decode b_Mo_areSame 42 = .ok (.istore 4, 2) := by decide +kernel
theorem d_Mo_areSame_44 : decode b_Mo_areSame 44 = .ok (.iinc 5 1, 3) := by decide +kernel
theorem d_Mo_areSame_47 : decode b_Mo_areSame 47 = .ok (.goto (-32), 3) := by decide +kernel
theorem d_Mo_areSame_50 : decode b_Mo_areSame 50 = .ok (.iload 4, 2) := by decide +kernel
theorem d_Mo_areSame_52 : decode b_Mo_areSame 52 = .ok (.ireturn, 1) := by decide +kernel
theorem d_Mo_octalAt_0 : decode b_Mo_octalAt 0 = .ok (.lconst 0, 1) := by decide +kernel
theorem d_Mo_octalAt_1 : decode b_Mo_octalAt 1 = .ok (.lstore_n 3, 1) := by decide +kernel
theorem d_Mo_octalAt_2 : decode b_Mo_octalAt 2 = .ok (.iconst 0, 1) := by decide +kernel
theorem d_Mo_octalAt_3 : decode b_Mo_octalAt 3 = .ok (.istore 5, 2) := by decide +kernel
theorem d_Mo_octalAt_5 : decode b_Mo_octalAt 5 = .ok (.iload 5, 2) := by decide +kernel
theorem d_Mo_octalAt_7 : decode b_Mo_octalAt 7 = .ok (.iload_n 2, 1) := by decide +kernel
theorem d_Mo_octalAt_8 : decode b_Mo_octalAt 8 = .ok (.if_icmp .ge 30, 3) := by decide +kernel
theorem d_Mo_octalAt_11 : decode b_Mo_octalAt 11 = .ok (.lload_n 3, 1) := by decide +kernel
theorem d_Mo_octalAt_12 : decode b_Mo_octalAt 12 = .ok (.iconst 3, 1) := by decide +kernel
theorem d_Mo_octalAt_13 : decode b_Mo_octalAt 13 = .ok (.lshl, 1) := by decide +kernel
theorem d_Mo_octalAt_14 : decode b_Mo_octalAt 14 = .ok (.aload_n 0, 1) := by decide +kernel
theorem d_Mo_octalAt_15 : decode b_Mo_octalAt 15 = .ok (.getfield 109, 3) := by decide +kernel
theorem d_Mo_octalAt_18 : decode b_Mo_octalAt 18 = .ok (.iload_n 1, 1) := by decide +kernel
theorem d_Mo_octalAt_19 : decode b_Mo_octalAt 19 = .ok (.iload 5, 2) := by decide +kernel
theorem d_Mo_octalAt_21 : decode b_Mo_octalAt 21 = .ok (.iadd, 1) := by decide +kernel
theorem d_Mo_octalAt_22 : decode b_Mo_octalAt 22 = .ok (.baload, 1) := by decide +kernel
theorem d_Mo_octalAt_23 : decode b_Mo_octalAt 23 = .ok (.bipush 48, 2) := by decide +kernel
theorem d_Mo_octalAt_25 : decode b_Mo_octalAt 25 = .ok (.isub, 1) := by decide +kernel
theorem d_Mo_octalAt_26 : decode b_Mo_octalAt 26 = .ok (.bipush 7, 2) := by decide +kernel
theorem d_Mo_octalAt_28 : decode b_Mo_octalAt 28 = .ok (.iand, 1) := by decide +kernel
theorem d_Mo_octalAt_29 : decode b_Mo_octalAt 29 = .ok (.i2l, 1) := by decide +kernel
theorem d_Mo_octalAt_30 : decode b_Mo_octalAt 30 = .ok (.lor, 1) := by decide +kernel
theorem d_Mo_octalAt_31 : decode b_Mo_octalAt 31 = .ok (.lstore_n 3, 1) := by decide +kernel
theorem d_Mo_octalAt_32 : decode b_Mo_octalAt 32 = .ok (.iinc 5 1, 3) := by decide +kernel
theorem d_Mo_octalAt_35 : decode b_Mo_octalAt 35 = .ok (.goto (-30), 3) := by decide +kernel
theorem d_Mo_octalAt_38 : decode b_Mo_octalAt 38 = .ok (.lload_n 3, 1) := by decide +kernel
theorem d_Mo_octalAt_39 : decode b_Mo_octalAt 39 = .ok (.lreturn, 1) := by decide +kernel
theorem d_Mo_take_0 : decode b_Mo_take 0 = .ok (.aload_n 0, 1) := by decide +kernel
theorem d_Mo_take_1 : decode b_Mo_take 1 = .ok (.iconst 2, 1) := by decide +kernel
theorem d_Mo_take_2 : decode b_Mo_take 2 = .ok (.invokevirtual 179, 3) := by decide +kernel
theorem d_Mo_take_5 : decode b_Mo_take 5 = .ok (.istore 7, 2) := by decide +kernel
theorem d_Mo_take_7 : decode b_Mo_take 7 = .ok (.aload_n 0, 1) := by decide +kernel
theorem d_Mo_take_8 : decode b_Mo_take 8 = .ok (.getfield 41, 3) := by decide +kernel
theorem d_Mo_take_11 : decode b_Mo_take 11 = .ok (.iload 7, 2) := by decide +kernel
theorem d_Mo_take_13 : decode b_Mo_take 13 = .ok (.iload 4, 2) := by decide +kernel
theorem d_Mo_take_15 : decode b_Mo_take 15 = .ok (.iastore, 1) := by decide +kernel
theorem d_Mo_take_16 : decode b_Mo_take 16 = .ok (.aload_n 0, 1) := by decide +kernel
theorem d_Mo_take_17 : decode b_Mo_take 17 = .ok (.getfield 44, 3) := by decide +kernel
theorem d_Mo_take_20 : decode b_Mo_take 20 = .ok (.iload 7, 2) := by decide +kernel
theorem d_Mo_take_22 : decode b_Mo_take 22 = .ok (.iload 5, 2) := by decide +kernel
theorem d_Mo_take_24 : decode b_Mo_take 24 = .ok (.sipush 4095, 3) := by decide +kernel
theorem d_Mo_take_27 : decode b_Mo_take 27 = .ok (.iand, 1) := by decide +kernel
theorem d_Mo_take_28 : decode b_Mo_take 28 = .ok (.iastore, 1) := by decide +kernel
theorem d_Mo_take_29 : decode b_Mo_take 29 = .ok (.aload_n 0, 1) := by decide +kernel
theorem d_Mo_take_30 : decode b_Mo_take 30 = .ok (.getfield 47, 3) := by decide +kernel
theorem d_Mo_take_33 : decode b_Mo_take 33 = .ok (.iload 7, 2) := by decide +kernel
theorem d_Mo_take_35 : decode b_Mo_take 35 = .ok (.aload_n 0, 1) := by decide +kernel
theorem d_Mo_take_36 : decode b_Mo_take 36 = .ok (.iload_n 1, 1) := by decide +kernel
theorem d_Mo_take_37 : decode b_Mo_take 37 = .ok (.bipush 24, 2) := by decide +kernel
theorem d_Mo_take_39 : decode b_Mo_take 39 = .ok (.iadd, 1) := by decide +kernel
theorem d_Mo_take_40 : decode b_Mo_take 40 = .ok (.bipush 6, 2) := by decide +kernel
theorem d_Mo_take_42 : decode b_Mo_take 42 = .ok (.invokevirtual 381, 3) := by decide +kernel
theorem d_Mo_take_45 : decode b_Mo_take 45 = .ok (.l2i, 1) := by decide +kernel
theorem d_Mo_take_46 : decode b_Mo_take 46 = .ok (.iastore, 1) := by decide +kernel
theorem d_Mo_take_47 : decode b_Mo_take 47 = .ok (.aload_n 0, 1) := by decide +kernel
theorem d_Mo_take_48 : decode b_Mo_take 48 = .ok (.getfield 50, 3) := by decide +kernel
theorem d_Mo_take_51 : decode b_Mo_take 51 = .ok (.iload 7, 2) := by decide +kernel
theorem d_Mo_take_53 : decode b_Mo_take 53 = .ok (.aload_n 0, 1) := by decide +kernel
theorem d_Mo_take_54 : decode b_Mo_take 54 = .ok (.iload_n 1, 1) := by decide +kernel
theorem d_Mo_take_55 : decode b_Mo_take 55 = .ok (.bipush 30, 2) := by decide +kernel
theorem d_Mo_take_57 : decode b_Mo_take 57 = .ok (.iadd, 1) := by decide +kernel
theorem d_Mo_take_58 : decode b_Mo_take 58 = .ok (.bipush 6, 2) := by decide +kernel
theorem d_Mo_take_60 : decode b_Mo_take 60 = .ok (.invokevirtual 381, 3) := by decide +kernel
theorem d_Mo_take_63 : decode b_Mo_take 63 = .ok (.l2i, 1) := by decide +kernel
theorem d_Mo_take_64 : decode b_Mo_take 64 = .ok (.iastore, 1) := by decide +kernel
theorem d_Mo_take_65 : decode b_Mo_take 65 = .ok (.aload_n 0, 1) := by decide +kernel
theorem d_Mo_take_66 : decode b_Mo_take 66 = .ok (.getfield 53, 3) := by decide +kernel
theorem d_Mo_take_69 : decode b_Mo_take 69 = .ok (.iload 7, 2) := by decide +kernel
theorem d_Mo_take_71 : decode b_Mo_take 71 = .ok (.iload 6, 2) := by decide +kernel
theorem d_Mo_take_73 : decode b_Mo_take 73 = .ok (.iastore, 1) := by decide +kernel
theorem d_Mo_take_74 : decode b_Mo_take 74 = .ok (.aload_n 0, 1) := by decide +kernel
theorem d_Mo_take_75 : decode b_Mo_take 75 = .ok (.getfield 62, 3) := by decide +kernel
theorem d_Mo_take_78 : decode b_Mo_take 78 = .ok (.iload 7, 2) := by decide +kernel
theorem d_Mo_take_80 : decode b_Mo_take 80 = .ok (.aload_n 0, 1) := by decide +kernel
theorem d_Mo_take_81 : decode b_Mo_take 81 = .ok (.iload_n 1, 1) := by decide +kernel
theorem d_Mo_take_82 : decode b_Mo_take 82 = .ok (.bipush 12, 2) := by decide +kernel
theorem d_Mo_take_84 : decode b_Mo_take 84 = .ok (.iadd, 1) := by decide +kernel
theorem d_Mo_take_85 : decode b_Mo_take 85 = .ok (.bipush 6, 2) := by decide +kernel
theorem d_Mo_take_87 : decode b_Mo_take 87 = .ok (.invokevirtual 381, 3) := by decide +kernel
theorem d_Mo_take_90 : decode b_Mo_take 90 = .ok (.l2i, 1) := by decide +kernel
theorem d_Mo_take_91 : decode b_Mo_take 91 = .ok (.iastore, 1) := by decide +kernel
theorem d_Mo_take_92 : decode b_Mo_take 92 = .ok (.aload_n 0, 1) := by decide +kernel
theorem d_Mo_take_93 : decode b_Mo_take 93 = .ok (.getfield 56, 3) := by decide +kernel
theorem d_Mo_take_96 : decode b_Mo_take 96 = .ok (.iload 7, 2) := by decide +kernel
theorem d_Mo_take_98 : decode b_Mo_take 98 = .ok (.aload_n 0, 1) := by decide +kernel
theorem d_Mo_take_99 : decode b_Mo_take 99 = .ok (.getfield 65, 3) := by decide +kernel
theorem d_Mo_take_102 : decode b_Mo_take 102 = .ok (.iconst 2, 1) := by decide +kernel
theorem d_Mo_take_103 : decode b_Mo_take 103 = .ok (.iaload, 1) := by decide +kernel
theorem d_Mo_take_104 : decode b_Mo_take 104 = .ok (.iastore, 1) := by decide +kernel
theorem d_Mo_take_105 : decode b_Mo_take 105 = .ok (.aload_n 0, 1) := by decide +kernel
theorem d_Mo_take_106 : decode b_Mo_take 106 = .ok (.getfield 59, 3) := by decide +kernel
theorem d_Mo_take_109 : decode b_Mo_take 109 = .ok (.iload 7, 2) := by decide +kernel
theorem d_Mo_take_111 : decode b_Mo_take 111 = .ok (.iload_n 3, 1) := by decide +kernel
theorem d_Mo_take_112 : decode b_Mo_take 112 = .ok (.iastore, 1) := by decide +kernel
theorem d_Mo_take_113 : decode b_Mo_take 113 = .ok (.iconst 0, 1) := by decide +kernel
theorem d_Mo_take_114 : decode b_Mo_take 114 = .ok (.istore 8, 2) := by decide +kernel
theorem d_Mo_take_116 : decode b_Mo_take 116 = .ok (.iload 8, 2) := by decide +kernel
theorem d_Mo_take_118 : decode b_Mo_take 118 = .ok (.iload_n 3, 1) := by decide +kernel
theorem d_Mo_take_119 : decode b_Mo_take 119 = .ok (.if_icmp .ge 49, 3) := by decide +kernel
theorem d_Mo_take_122 : decode b_Mo_take 122 = .ok (.aload_n 0, 1) := by decide +kernel
theorem d_Mo_take_123 : decode b_Mo_take 123 = .ok (.getfield 69, 3) := by decide +kernel
theorem d_Mo_take_126 : decode b_Mo_take 126 = .ok (.ldc 78, 2) := by decide +kernel
theorem d_Mo_take_128 : decode b_Mo_take 128 = .ok (.aload_n 0, 1) := by decide +kernel
theorem d_Mo_take_129 : decode b_Mo_take 129 = .ok (.getfield 65, 3) := by decide +kernel
theorem d_Mo_take_132 : decode b_Mo_take 132 = .ok (.iconst 2, 1) := by decide +kernel
theorem d_Mo_take_133 : decode b_Mo_take 133 = .ok (.iaload, 1) := by decide +kernel
theorem d_Mo_take_134 : decode b_Mo_take 134 = .ok (.iadd, 1) := by decide +kernel
theorem d_Mo_take_135 : decode b_Mo_take 135 = .ok (.aload_n 0, 1) := by decide +kernel
theorem d_Mo_take_136 : decode b_Mo_take 136 = .ok (.getfield 109, 3) := by decide +kernel
theorem d_Mo_take_139 : decode b_Mo_take 139 = .ok (.iload_n 1, 1) := by decide +kernel
theorem d_Mo_take_140 : decode b_Mo_take 140 = .ok (.bipush 76, 2) := by decide +kernel
theorem d_Mo_take_142 : decode b_Mo_take 142 = .ok (.iadd, 1) := by decide +kernel
theorem d_Mo_take_143 : decode b_Mo_take 143 = .ok (.iload_n 2, 1) := by decide +kernel
theorem d_Mo_take_144 : decode b_Mo_take 144 = .ok (.iadd, 1) := by decide +kernel
theorem d_Mo_take_145 : decode b_Mo_take 145 = .ok (.iconst 1, 1) := by decide +kernel
theorem d_Mo_take_146 : decode b_Mo_take 146 = .ok (.iadd, 1) := by decide +kernel
theorem d_Mo_take_147 : decode b_Mo_take 147 = .ok (.iload 8, 2) := by decide +kernel
theorem d_Mo_take_149 : decode b_Mo_take 149 = .ok (.iadd, 1) := by decide +kernel
theorem d_Mo_take_150 : decode b_Mo_take 150 = .ok (.baload, 1) := by decide +kernel
theorem d_Mo_take_151 : decode b_Mo_take 151 = .ok (.bastore, 1) := by decide +kernel
theorem d_Mo_take_152 : decode b_Mo_take 152 = .ok (.aload_n 0, 1) := by decide +kernel
theorem d_Mo_take_153 : decode b_Mo_take 153 = .ok (.getfield 65, 3) := by decide +kernel
theorem d_Mo_take_156 : decode b_Mo_take 156 = .ok (.iconst 2, 1) := by decide +kernel
theorem d_Mo_take_157 : decode b_Mo_take 157 = .ok (.dup2, 1) := by decide +kernel
theorem d_Mo_take_158 : decode b_Mo_take 158 = .ok (.iaload, 1) := by decide +kernel
theorem d_Mo_take_159 : decode b_Mo_take 159 = .ok (.iconst 1, 1) := by decide +kernel
theorem d_Mo_take_160 : decode b_Mo_take 160 = .ok (.iadd, 1) := by decide +kernel
theorem d_Mo_take_161 : decode b_Mo_take 161 = .ok (.iastore, 1) := by decide +kernel
theorem d_Mo_take_162 : decode b_Mo_take 162 = .ok (.iinc 8 1, 3) := by decide +kernel
theorem d_Mo_take_165 : decode b_Mo_take 165 = .ok (.goto (-49), 3) := by decide +kernel
theorem d_Mo_take_168 : decode b_Mo_take 168 = .ok (.return_, 1) := by decide +kernel
set_option maxRecDepth 100000 in
set_option maxHeartbeats 4000000 in
theorem Met_Mo_part (l : Launch) (B : Nat) (D : va_G) (aC : Nat → ClassId) (aS : Nat → Nat) {a0 : Nat} {i1 : Int32} {i2 : Int32} {M : zM} {post : Int32 → zM → Prop} (hk0 : a0 < N0) (ht0 : tg a0 = 9) (h : Wp_Mo_part a0 i1 i2 M post) : Met l y_Mo_part (wo y_Mo_part b_Mo_part 3 (some FieldType.int)) { frames := 3, cells := 0, slots := 0, locals := 71 } (va_Pc [.ref (B + a0), .int i1, .int i2] (zWl B D aC aS M)) (zQi B D aC post) 0 0 (zAb B) := by
  refine z_met (own := "MailChainModel") (lv0 := [(0, .ref (B + a0)), (1, .int i1), (2, .int i2)]) (by decide) rfl (Nat.le_of_ble_eq_true rfl) rfl ?_
  intro p e s m below meth c fx hr hlo
  delta Wp_Mo_part at h
  have h := h (fun w0 w1 M => zAt p l e { frames := 3, cells := 0, slots := 0, locals := 71 } s m ([.ref (B + a0), .int i1, .int i2] : List Value).toArray below meth c 0 0 (MQ below (zQi B D aC post) ([.ref (B + a0), .int i1, .int i2] : List Value).toArray s 0 0 (zAb B)) B D aC 3 24 [(0, .ref (B + a0)), (1, .int i1), (2, .int i2)] [.int w0, .ref (B + w1)] M)
  have h := h (fun w0 w1 M => zAt p l e { frames := 3, cells := 0, slots := 0, locals := 71 } s m ([.ref (B + a0), .int i1, .int i2] : List Value).toArray below meth c 0 0 (MQ below (zQi B D aC post) ([.ref (B + a0), .int i1, .int i2] : List Value).toArray s 0 0 (zAb B)) B D aC 3 55 [(0, .ref (B + a0)), (1, .int i1), (2, .int i2)] [.int w0, .ref (B + w1)] M)
  have h := h (by
    intro w0 w1 M h
    obtain ⟨hk_w1, ht_w1, h⟩ := h
    refine a_putI fx (T := F_Mo) (ty0 := t_Mo) (j := 6) (hk := hk_w1) (ht := ht_w1) (ht2 := by decide) (hc := rfl) (hin := u_in_Mo) (hty := t_Mo_ok) (hnm := n_Mo) (hj := by decide) (hj2 := by decide) (hf := rfl) (hT := rfl) (hfin := rfl) (hn := rfl) (hfit := rfl) (hw := w_1275) (hd := d_Mo_part_24) (kk := a_mem (fun M1 eM1 => ?_))
    have h := h M1 eM1
    refine a_aload_n fx 0 d_Mo_part_27 rfl rfl ?_
    refine a_getI fx (T := F_Mo) (j := 6) (hk := hk0) (ht := ht0) (ht2 := by decide) (hc := rfl) (hin := u_in_Mo) (hj := by decide) (hj2 := by decide) (hf := rfl) (hT := rfl) (hw := w_1275) (hd := d_Mo_part_28) (kk := ?_)
    refine a_if_le fx 36 d_Mo_part_31 rfl (fun hc => ?_) (fun hc => ?_)
    · have h := h.1 hc
      refine a_aload_n fx 0 d_Mo_part_36 rfl rfl ?_
      refine a_iload_n fx 1 d_Mo_part_37 rfl rfl ?_
      refine a_callv (rest := []) (a_runV (As := [.int i1]) fx cv_Mo_writePart w_1627 (Met_Mo_writePart l B D aC aS (hk0 := hk0) (ht0 := ht0) h) hk0 ht0 (by decide) rfl rfl rfl (Nat.le_of_ble_eq_true rfl) rfl rfl ⟨Nat.le_of_ble_eq_true rfl, Nat.le_of_ble_eq_true rfl⟩ d_Mo_part_38 ⟨Nat.le_of_ble_eq_true rfl, Nat.le_of_ble_eq_true rfl⟩) (fun M2 h => ?_)
      refine a_aload_n fx 0 d_Mo_part_41 rfl rfl ?_
      refine a_iload_n fx 2 d_Mo_part_42 rfl rfl ?_
      refine a_aload_n fx 0 d_Mo_part_43 rfl rfl ?_
      refine a_getI fx (T := F_Mo) (j := 59) (hk := hk0) (ht := ht0) (ht2 := by decide) (hc := rfl) (hin := u_in_Mo) (hj := by decide) (hj2 := by decide) (hf := rfl) (hT := rfl) (hw := w_1328) (hd := d_Mo_part_44) (kk := ?_)
      refine a_icmp_lt fx 54 d_Mo_part_47 rfl (fun hc => ?_) (fun hc => ?_)
      · have h := h.1 hc
        refine a_iconst (v := 0) fx d_Mo_part_54 rfl ?_
        refine a_sub [0, 1, 2] rfl ?_
        exact h
      · have h := h.2 hc
        refine a_iconst (v := 1) fx d_Mo_part_50 rfl ?_
        refine a_goto fx 55 d_Mo_part_51 rfl ?_
        refine a_sub [0, 1, 2] rfl ?_
        exact h
    · have h := h.2 hc
      refine a_iconst (v := 0) fx d_Mo_part_34 rfl ?_
      exact a_iret fx hlo hr h d_Mo_part_35)
  have h := h (by
    intro w0 w1 M h
    obtain ⟨hk_w1, ht_w1, h⟩ := h
    refine a_putI fx (T := F_Mo) (ty0 := t_Mo) (j := 6) (hk := hk_w1) (ht := ht_w1) (ht2 := by decide) (hc := rfl) (hin := u_in_Mo) (hty := t_Mo_ok) (hnm := n_Mo) (hj := by decide) (hj2 := by decide) (hf := rfl) (hT := rfl) (hfin := rfl) (hn := rfl) (hfit := rfl) (hw := w_1275) (hd := d_Mo_part_55) (kk := a_mem (fun M3 eM3 => ?_))
    have h := h M3 eM3
    refine a_aload_n fx 0 d_Mo_part_58 rfl rfl ?_
    refine a_getI fx (T := F_Mo) (j := 6) (hk := hk0) (ht := ht0) (ht2 := by decide) (hc := rfl) (hin := u_in_Mo) (hj := by decide) (hj2 := by decide) (hf := rfl) (hT := rfl) (hw := w_1275) (hd := d_Mo_part_59) (kk := ?_)
    refine a_if_le fx 69 d_Mo_part_62 rfl (fun hc => ?_) (fun hc => ?_)
    · have h := h.1 hc
      refine a_iload_n fx 2 d_Mo_part_69 rfl rfl ?_
      refine a_if_ge fx 80 d_Mo_part_70 rfl (fun hc => ?_) (fun hc => ?_)
      · have h := h.1 hc
        refine a_aload_n fx 0 d_Mo_part_80 rfl rfl ?_
        refine a_getS fx (T := F_Mo) (j := 60) (hk := hk0) (ht := ht0) (ht2 := by decide) (hc := rfl) (hin := u_in_Mo) (hj := by decide) (hj2 := by decide) (hf := rfl) (n9 := 37) (hfo := rfl) (hT := rfl) (hw := w_1329) (hd := d_Mo_part_81) (kk := ?_)
        refine a_iload_n fx 2 d_Mo_part_84 rfl rfl ?_
        obtain ⟨hin, h⟩ := h
        refine a_bald fx (lo_9_60 hk0 ht0).1 (lo_9_60 hk0 ht0).2 hin d_Mo_part_85 ?_
        refine a_sipush (v := 255) fx d_Mo_part_86 rfl ?_
        refine a_iand fx d_Mo_part_89 ?_
        exact a_iret fx hlo hr h d_Mo_part_90
      · have h := h.2 hc
        refine a_aload_n fx 0 d_Mo_part_73 rfl rfl ?_
        refine a_getI fx (T := F_Mo) (j := 59) (hk := hk0) (ht := ht0) (ht2 := by decide) (hc := rfl) (hin := u_in_Mo) (hj := by decide) (hj2 := by decide) (hf := rfl) (hT := rfl) (hw := w_1328) (hd := d_Mo_part_74) (kk := ?_)
        refine a_goto fx 90 d_Mo_part_77 rfl ?_
        exact a_iret fx hlo hr h d_Mo_part_90
    · have h := h.2 hc
      refine a_iconst (v := 0) fx d_Mo_part_65 rfl ?_
      refine a_goto fx 90 d_Mo_part_66 rfl ?_
      exact a_iret fx hlo hr h d_Mo_part_90)
  refine a_aload_n fx 0 d_Mo_part_0 rfl rfl ?_
  refine a_iload_n fx 1 d_Mo_part_1 rfl rfl ?_
  refine a_iconst (v := 1) fx d_Mo_part_2 rfl ?_
  refine a_icmp_lt fx 19 d_Mo_part_3 rfl (fun hc => ?_) (fun hc => ?_)
  · have h := h.1 hc
    refine a_iconst (v := 1) fx d_Mo_part_19 rfl ?_
    refine a_goto fx 24 d_Mo_part_20 rfl ?_
    refine a_sub [0, 1, 2] rfl ?_
    exact h
  · have h := h.2 hc
    refine a_iload_n fx 1 d_Mo_part_6 rfl rfl ?_
    refine a_aload_n fx 0 d_Mo_part_7 rfl rfl ?_
    refine a_getI fx (T := F_Mo) (j := 31) (hk := hk0) (ht := ht0) (ht2 := by decide) (hc := rfl) (hin := u_in_Mo) (hj := by decide) (hj2 := by decide) (hf := rfl) (hT := rfl) (hw := w_1300) (hd := d_Mo_part_8) (kk := ?_)
    refine a_icmp_gt fx 19 d_Mo_part_11 rfl (fun hc => ?_) (fun hc => ?_)
    · have h := h.1 hc
      refine a_iconst (v := 1) fx d_Mo_part_19 rfl ?_
      refine a_goto fx 24 d_Mo_part_20 rfl ?_
      refine a_sub [0, 1, 2] rfl ?_
      exact h
    · have h := h.2 hc
      refine a_iload_n fx 2 d_Mo_part_14 rfl rfl ?_
      refine a_iconst (v := (-1)) fx d_Mo_part_15 rfl ?_
      refine a_icmp_ge fx 23 d_Mo_part_16 rfl (fun hc => ?_) (fun hc => ?_)
      · have h := h.1 hc
        refine a_iconst (v := 0) fx d_Mo_part_23 rfl ?_
        refine a_sub [0, 1, 2] rfl ?_
        exact h
      · have h := h.2 hc
        refine a_iconst (v := 1) fx d_Mo_part_19 rfl ?_
        refine a_goto fx 24 d_Mo_part_20 rfl ?_
        refine a_sub [0, 1, 2] rfl ?_
        exact h
set_option maxRecDepth 100000 in
set_option maxHeartbeats 4000000 in
theorem Met_Mo_stage (l : Launch) (B : Nat) (D : va_G) (aC : Nat → ClassId) (aS : Nat → Nat) {a0 : Nat} {i1 : Int32} {i2 : Int32} {M : zM} {post : Int32 → zM → Prop} (hk0 : a0 < N0) (ht0 : tg a0 = 9) (h : Wp_Mo_stage a0 i1 i2 M post) : Met l y_Mo_stage (wo y_Mo_stage b_Mo_stage 3 (some FieldType.int)) { frames := 4, cells := 0, slots := 0, locals := 97 } (va_Pc [.ref (B + a0), .int i1, .int i2] (zWl B D aC aS M)) (zQi B D aC post) 0 0 (zAb B) := by
  refine z_met (own := "MailChainModel") (lv0 := [(0, .ref (B + a0)), (1, .int i1), (2, .int i2)]) (by decide) rfl (Nat.le_of_ble_eq_true rfl) rfl ?_
  intro p e s m below meth c fx hr hlo
  delta Wp_Mo_stage at h
  have h := h (fun w0 w1 M => zAt p l e { frames := 4, cells := 0, slots := 0, locals := 97 } s m ([.ref (B + a0), .int i1, .int i2] : List Value).toArray below meth c 0 0 (MQ below (zQi B D aC post) ([.ref (B + a0), .int i1, .int i2] : List Value).toArray s 0 0 (zAb B)) B D aC 3 15 [(0, .ref (B + a0)), (1, .int i1), (2, .int i2)] [.int w0, .ref (B + w1)] M)
  have h := h (by
    intro w0 w1 M h
    obtain ⟨hk_w1, ht_w1, h⟩ := h
    refine a_putI fx (T := F_Mo) (ty0 := t_Mo) (j := 6) (hk := hk_w1) (ht := ht_w1) (ht2 := by decide) (hc := rfl) (hin := u_in_Mo) (hty := t_Mo_ok) (hnm := n_Mo) (hj := by decide) (hj2 := by decide) (hf := rfl) (hT := rfl) (hfin := rfl) (hn := rfl) (hfit := rfl) (hw := w_1275) (hd := d_Mo_stage_15) (kk := a_mem (fun M1 eM1 => ?_))
    have h := h M1 eM1
    refine a_aload_n fx 0 d_Mo_stage_18 rfl rfl ?_
    refine a_getI fx (T := F_Mo) (j := 6) (hk := hk0) (ht := ht0) (ht2 := by decide) (hc := rfl) (hin := u_in_Mo) (hj := by decide) (hj2 := by decide) (hf := rfl) (hT := rfl) (hw := w_1275) (hd := d_Mo_stage_19) (kk := ?_)
    refine a_if_gt fx 29 d_Mo_stage_22 rfl (fun hc => ?_) (fun hc => ?_)
    · have h := h.1 hc
      refine a_aload_n fx 0 d_Mo_stage_29 rfl rfl ?_
      refine a_getI fx (T := F_Mo) (j := 6) (hk := hk0) (ht := ht0) (ht2 := by decide) (hc := rfl) (hin := u_in_Mo) (hj := by decide) (hj2 := by decide) (hf := rfl) (hT := rfl) (hw := w_1275) (hd := d_Mo_stage_30) (kk := ?_)
      refine a_if_le fx 40 d_Mo_stage_33 rfl (fun hc => ?_) (fun hc => ?_)
      · have h := h.1 hc
        refine a_iconst (v := (-1)) fx d_Mo_stage_40 rfl ?_
        exact a_iret fx hlo hr h d_Mo_stage_41
      · have h := h.2 hc
        refine a_iconst (v := 0) fx d_Mo_stage_36 rfl ?_
        refine a_goto fx 41 d_Mo_stage_37 rfl ?_
        exact a_iret fx hlo hr h d_Mo_stage_41
    · have h := h.2 hc
      refine a_iload_n fx 2 d_Mo_stage_25 rfl rfl ?_
      refine a_if_ge fx 42 d_Mo_stage_26 rfl (fun hc => ?_) (fun hc => ?_)
      · have h := h.1 hc
        refine a_iload_n fx 1 d_Mo_stage_42 rfl rfl ?_
        refine a_if_ne fx 84 d_Mo_stage_43 rfl (fun hc => ?_) (fun hc => ?_)
        · have h := h.1 hc
          refine a_iload_n fx 1 d_Mo_stage_84 rfl rfl ?_
          refine a_iconst (v := 1) fx d_Mo_stage_85 rfl ?_
          refine a_icmp_ne fx 112 d_Mo_stage_86 rfl (fun hc => ?_) (fun hc => ?_)
          · have h := h.1 hc
            refine a_iload_n fx 2 d_Mo_stage_112 rfl rfl ?_
            refine a_aload_n fx 0 d_Mo_stage_113 rfl rfl ?_
            refine a_getI fx (T := F_Mo) (j := 35) (hk := hk0) (ht := ht0) (ht2 := by decide) (hc := rfl) (hin := u_in_Mo) (hj := by decide) (hj2 := by decide) (hf := rfl) (hT := rfl) (hw := w_1304) (hd := d_Mo_stage_114) (kk := ?_)
            refine a_icmp_ge fx 133 d_Mo_stage_117 rfl (fun hc => ?_) (fun hc => ?_)
            · have h := h.1 hc
              refine a_iconst (v := (-1)) fx d_Mo_stage_133 rfl ?_
              exact a_iret fx hlo hr h d_Mo_stage_134
            · have h := h.2 hc
              refine a_aload_n fx 0 d_Mo_stage_120 rfl rfl ?_
              refine a_getS fx (T := F_Mo) (j := 36) (hk := hk0) (ht := ht0) (ht2 := by decide) (hc := rfl) (hin := u_in_Mo) (hj := by decide) (hj2 := by decide) (hf := rfl) (n9 := 26) (hfo := rfl) (hT := rfl) (hw := w_1305) (hd := d_Mo_stage_121) (kk := ?_)
              refine a_iload_n fx 2 d_Mo_stage_124 rfl rfl ?_
              obtain ⟨hin, h⟩ := h
              refine a_bald fx (lo_9_36 hk0 ht0).1 (lo_9_36 hk0 ht0).2 hin d_Mo_stage_125 ?_
              refine a_sipush (v := 255) fx d_Mo_stage_126 rfl ?_
              refine a_iand fx d_Mo_stage_129 ?_
              refine a_goto fx 134 d_Mo_stage_130 rfl ?_
              exact a_iret fx hlo hr h d_Mo_stage_134
          · have h := h.2 hc
            refine a_iload_n fx 2 d_Mo_stage_89 rfl rfl ?_
            refine a_aload_n fx 0 d_Mo_stage_90 rfl rfl ?_
            refine a_getI fx (T := F_Mo) (j := 33) (hk := hk0) (ht := ht0) (ht2 := by decide) (hc := rfl) (hin := u_in_Mo) (hj := by decide) (hj2 := by decide) (hf := rfl) (hT := rfl) (hw := w_1302) (hd := d_Mo_stage_91) (kk := ?_)
            refine a_icmp_ge fx 110 d_Mo_stage_94 rfl (fun hc => ?_) (fun hc => ?_)
            · have h := h.1 hc
              refine a_iconst (v := (-1)) fx d_Mo_stage_110 rfl ?_
              exact a_iret fx hlo hr h d_Mo_stage_111
            · have h := h.2 hc
              refine a_aload_n fx 0 d_Mo_stage_97 rfl rfl ?_
              refine a_getS fx (T := F_Mo) (j := 34) (hk := hk0) (ht := ht0) (ht2 := by decide) (hc := rfl) (hin := u_in_Mo) (hj := by decide) (hj2 := by decide) (hf := rfl) (n9 := 25) (hfo := rfl) (hT := rfl) (hw := w_1303) (hd := d_Mo_stage_98) (kk := ?_)
              refine a_iload_n fx 2 d_Mo_stage_101 rfl rfl ?_
              obtain ⟨hin, h⟩ := h
              refine a_bald fx (lo_9_34 hk0 ht0).1 (lo_9_34 hk0 ht0).2 hin d_Mo_stage_102 ?_
              refine a_sipush (v := 255) fx d_Mo_stage_103 rfl ?_
              refine a_iand fx d_Mo_stage_106 ?_
              refine a_goto fx 111 d_Mo_stage_107 rfl ?_
              exact a_iret fx hlo hr h d_Mo_stage_111
        · have h := h.2 hc
          refine a_aload_n fx 0 d_Mo_stage_46 rfl rfl ?_
          refine a_iconst (v := 0) fx d_Mo_stage_47 rfl ?_
          refine a_calli (rest := []) (a_runV (As := [.int 0]) fx cv_Mo_isLarge w_1553 (Met_Mo_isLarge l B D aC aS (hk0 := hk0) (ht0 := ht0) h) hk0 ht0 (by decide) rfl rfl rfl (Nat.le_of_ble_eq_true rfl) rfl rfl ⟨Nat.le_of_ble_eq_true rfl, Nat.le_of_ble_eq_true rfl⟩ d_Mo_stage_48 ⟨Nat.le_of_ble_eq_true rfl, Nat.le_of_ble_eq_true rfl⟩) (fun x3 M2 h => ?_)
          refine a_if_eq fx 56 d_Mo_stage_51 rfl (fun hc => ?_) (fun hc => ?_)
          · have h := h.1 hc
            refine a_aload_n fx 0 d_Mo_stage_56 rfl rfl ?_
            refine a_iconst (v := 0) fx d_Mo_stage_57 rfl ?_
            refine a_callv (rest := []) (a_runV (As := [.int 0]) fx cv_Mo_archiveOf w_1558 (Met_Mo_archiveOf l B D aC aS (hk0 := hk0) (ht0 := ht0) h) hk0 ht0 (by decide) rfl rfl rfl (Nat.le_of_ble_eq_true rfl) rfl rfl ⟨Nat.le_of_ble_eq_true rfl, Nat.le_of_ble_eq_true rfl⟩ d_Mo_stage_58 ⟨Nat.le_of_ble_eq_true rfl, Nat.le_of_ble_eq_true rfl⟩) (fun M4 h => ?_)
            refine a_iload_n fx 2 d_Mo_stage_61 rfl rfl ?_
            refine a_aload_n fx 0 d_Mo_stage_62 rfl rfl ?_
            refine a_getI fx (T := F_Mo) (j := 25) (hk := hk0) (ht := ht0) (ht2 := by decide) (hc := rfl) (hin := u_in_Mo) (hj := by decide) (hj2 := by decide) (hf := rfl) (hT := rfl) (hw := w_1294) (hd := d_Mo_stage_63) (kk := ?_)
            refine a_icmp_ge fx 82 d_Mo_stage_66 rfl (fun hc => ?_) (fun hc => ?_)
            · have h := h.1 hc
              refine a_iconst (v := (-1)) fx d_Mo_stage_82 rfl ?_
              exact a_iret fx hlo hr h d_Mo_stage_83
            · have h := h.2 hc
              refine a_aload_n fx 0 d_Mo_stage_69 rfl rfl ?_
              refine a_getS fx (T := F_Mo) (j := 26) (hk := hk0) (ht := ht0) (ht2 := by decide) (hc := rfl) (hin := u_in_Mo) (hj := by decide) (hj2 := by decide) (hf := rfl) (n9 := 22) (hfo := rfl) (hT := rfl) (hw := w_1295) (hd := d_Mo_stage_70) (kk := ?_)
              refine a_iload_n fx 2 d_Mo_stage_73 rfl rfl ?_
              obtain ⟨hin, h⟩ := h
              refine a_bald fx (lo_9_26 hk0 ht0).1 (lo_9_26 hk0 ht0).2 hin d_Mo_stage_74 ?_
              refine a_sipush (v := 255) fx d_Mo_stage_75 rfl ?_
              refine a_iand fx d_Mo_stage_78 ?_
              refine a_goto fx 83 d_Mo_stage_79 rfl ?_
              exact a_iret fx hlo hr h d_Mo_stage_83
          · have h := h.2 hc
            refine a_iconst (v := (-1)) fx d_Mo_stage_54 rfl ?_
            exact a_iret fx hlo hr h d_Mo_stage_55
      · have h := h.2 hc
        refine a_aload_n fx 0 d_Mo_stage_29 rfl rfl ?_
        refine a_getI fx (T := F_Mo) (j := 6) (hk := hk0) (ht := ht0) (ht2 := by decide) (hc := rfl) (hin := u_in_Mo) (hj := by decide) (hj2 := by decide) (hf := rfl) (hT := rfl) (hw := w_1275) (hd := d_Mo_stage_30) (kk := ?_)
        refine a_if_le fx 40 d_Mo_stage_33 rfl (fun hc => ?_) (fun hc => ?_)
        · have h := h.1 hc
          refine a_iconst (v := (-1)) fx d_Mo_stage_40 rfl ?_
          exact a_iret fx hlo hr h d_Mo_stage_41
        · have h := h.2 hc
          refine a_iconst (v := 0) fx d_Mo_stage_36 rfl ?_
          refine a_goto fx 41 d_Mo_stage_37 rfl ?_
          exact a_iret fx hlo hr h d_Mo_stage_41)
  refine a_aload_n fx 0 d_Mo_stage_0 rfl rfl ?_
  refine a_iload_n fx 1 d_Mo_stage_1 rfl rfl ?_
  refine a_if_lt fx 10 d_Mo_stage_2 rfl (fun hc => ?_) (fun hc => ?_)
  · have h := h.1 hc
    refine a_iconst (v := 1) fx d_Mo_stage_10 rfl ?_
    refine a_goto fx 15 d_Mo_stage_11 rfl ?_
    refine a_sub [0, 1, 2] rfl ?_
    exact h
  · have h := h.2 hc
    refine a_iload_n fx 1 d_Mo_stage_5 rfl rfl ?_
    refine a_iconst (v := 2) fx d_Mo_stage_6 rfl ?_
    refine a_icmp_le fx 14 d_Mo_stage_7 rfl (fun hc => ?_) (fun hc => ?_)
    · have h := h.1 hc
      refine a_iconst (v := 0) fx d_Mo_stage_14 rfl ?_
      refine a_sub [0, 1, 2] rfl ?_
      exact h
    · have h := h.2 hc
      refine a_iconst (v := 1) fx d_Mo_stage_10 rfl ?_
      refine a_goto fx 15 d_Mo_stage_11 rfl ?_
      refine a_sub [0, 1, 2] rfl ?_
      exact h
set_option maxRecDepth 100000 in
set_option maxHeartbeats 4000000 in
theorem Met_Mo_word (l : Launch) (B : Nat) (D : va_G) (aC : Nat → ClassId) (aS : Nat → Nat) {a0 : Nat} {a1 : Nat} {M : zM} {post : Int32 → zM → Prop} (hk0 : a0 < N0) (ht0 : tg a0 = 9) (hk1 : a1 < N0) (ht1 : tg a1 = 20) (h : Wp_Mo_word a0 a1 M post) : Met l y_Mo_word (wo y_Mo_word b_Mo_word 4 (some FieldType.boolean)) { frames := 0, cells := 0, slots := 0, locals := 0 } (va_Pc [.ref (B + a0), .ref (B + a1)] (zWl B D aC aS M)) (zQi B D aC post) 0 0 (zAb B) := by
  refine z_met (own := "MailChainModel") (lv0 := [(0, .ref (B + a0)), (1, .ref (B + a1))]) (by decide) rfl (Nat.le_of_ble_eq_true rfl) rfl ?_
  intro p e s m below meth c fx hr hlo
  delta Wp_Mo_word at h
  have h := h (fun v2 v3 M => zAt p l e { frames := 0, cells := 0, slots := 0, locals := 0 } s m ([.ref (B + a0), .ref (B + a1)] : List Value).toArray below meth c 0 0 (MQ below (zQi B D aC post) ([.ref (B + a0), .ref (B + a1)] : List Value).toArray s 0 0 (zAb B)) B D aC 4 4 [(0, .ref (B + a0)), (1, .ref (B + a1)), (2, .int v2), (3, .int v3)] [] M)
  have h := h (fun v3 w0 M => zAt p l e { frames := 0, cells := 0, slots := 0, locals := 0 } s m ([.ref (B + a0), .ref (B + a1)] : List Value).toArray below meth c 0 0 (MQ below (zQi B D aC post) ([.ref (B + a0), .ref (B + a1)] : List Value).toArray s 0 0 (zAb B)) B D aC 4 45 [(0, .ref (B + a0)), (1, .ref (B + a1)), (3, .int v3)] [.int w0] M)
  have h := h (by
    intro v2 v3 M h
    refine a_iload_n fx 3 d_Mo_word_4 rfl rfl ?_
    refine a_aload_n fx 1 d_Mo_word_5 rfl rfl ?_
    refine a_alen fx 0 hk1 ht1 (by decide) (by decide) rfl d_Mo_word_6 ?_
    refine a_icmp_ge fx 62 d_Mo_word_7 rfl (fun hc => ?_) (fun hc => ?_)
    · have h := h.1 hc
      refine a_iload_n fx 2 d_Mo_word_62 rfl rfl ?_
      exact a_zret fx hlo hr h.1 h.2 d_Mo_word_63
    · have h := h.2 hc
      refine a_iload_n fx 2 d_Mo_word_10 rfl rfl ?_
      refine a_if_eq fx 62 d_Mo_word_11 rfl (fun hc => ?_) (fun hc => ?_)
      · have h := h.1 hc
        refine a_iload_n fx 2 d_Mo_word_62 rfl rfl ?_
        exact a_zret fx hlo hr h.1 h.2 d_Mo_word_63
      · have h := h.2 hc
        refine a_aload_n fx 0 d_Mo_word_14 rfl rfl ?_
        refine a_getI fx (T := F_Mo) (j := 61) (hk := hk0) (ht := ht0) (ht2 := by decide) (hc := rfl) (hin := u_in_Mo) (hj := by decide) (hj2 := by decide) (hf := rfl) (hT := rfl) (hw := w_1330) (hd := d_Mo_word_15) (kk := ?_)
        refine a_aload_n fx 0 d_Mo_word_18 rfl rfl ?_
        refine a_getI fx (T := F_Mo) (j := 59) (hk := hk0) (ht := ht0) (ht2 := by decide) (hc := rfl) (hin := u_in_Mo) (hj := by decide) (hj2 := by decide) (hf := rfl) (hT := rfl) (hw := w_1328) (hd := d_Mo_word_19) (kk := ?_)
        refine a_icmp_ge fx 44 d_Mo_word_22 rfl (fun hc => ?_) (fun hc => ?_)
        · have h := h.1 hc
          refine a_iconst (v := 0) fx d_Mo_word_44 rfl ?_
          refine a_sub [0, 1, 3] rfl ?_
          exact h
        · have h := h.2 hc
          refine a_aload_n fx 0 d_Mo_word_25 rfl rfl ?_
          refine a_getS fx (T := F_Mo) (j := 60) (hk := hk0) (ht := ht0) (ht2 := by decide) (hc := rfl) (hin := u_in_Mo) (hj := by decide) (hj2 := by decide) (hf := rfl) (n9 := 37) (hfo := rfl) (hT := rfl) (hw := w_1329) (hd := d_Mo_word_26) (kk := ?_)
          refine a_aload_n fx 0 d_Mo_word_29 rfl rfl ?_
          refine a_getI fx (T := F_Mo) (j := 61) (hk := hk0) (ht := ht0) (ht2 := by decide) (hc := rfl) (hin := u_in_Mo) (hj := by decide) (hj2 := by decide) (hf := rfl) (hT := rfl) (hw := w_1330) (hd := d_Mo_word_30) (kk := ?_)
          obtain ⟨hin, h⟩ := h
          refine a_bald fx (lo_9_60 hk0 ht0).1 (lo_9_60 hk0 ht0).2 hin d_Mo_word_33 ?_
          refine a_aload_n fx 1 d_Mo_word_34 rfl rfl ?_
          refine a_iload_n fx 3 d_Mo_word_35 rfl rfl ?_
          obtain ⟨hin, h⟩ := h
          refine a_bald fx hk1 ht1 hin d_Mo_word_36 ?_
          refine a_icmp_ne fx 44 d_Mo_word_37 rfl (fun hc => ?_) (fun hc => ?_)
          · have h := h.1 hc
            refine a_iconst (v := 0) fx d_Mo_word_44 rfl ?_
            refine a_sub [0, 1, 3] rfl ?_
            exact h
          · have h := h.2 hc
            refine a_iconst (v := 1) fx d_Mo_word_40 rfl ?_
            refine a_goto fx 45 d_Mo_word_41 rfl ?_
            refine a_sub [0, 1, 3] rfl ?_
            exact h)
  have h := h (by
    intro v3 w0 M h
    refine a_istore_n (lv2 := [(2, .int w0), (0, .ref (B + a0)), (1, .ref (B + a1)), (3, .int v3)]) fx d_Mo_word_45 rfl (by decide) rfl ?_
    refine a_aload_n fx 1 d_Mo_word_46 rfl rfl ?_
    refine a_dup fx d_Mo_word_47 rfl ?_
    refine a_getI fx (T := F_Mo) (j := 61) (hk := hk0) (ht := ht0) (ht2 := by decide) (hc := rfl) (hin := u_in_Mo) (hj := by decide) (hj2 := by decide) (hf := rfl) (hT := rfl) (hw := w_1330) (hd := d_Mo_word_48) (kk := ?_)
    refine a_iconst (v := 1) fx d_Mo_word_51 rfl ?_
    refine a_iadd fx d_Mo_word_52 ?_
    refine a_putI fx (T := F_Mo) (ty0 := t_Mo) (j := 61) (hk := hk0) (ht := ht0) (ht2 := by decide) (hc := rfl) (hin := u_in_Mo) (hty := t_Mo_ok) (hnm := n_Mo) (hj := by decide) (hj2 := by decide) (hf := rfl) (hT := rfl) (hfin := rfl) (hn := rfl) (hfit := rfl) (hw := w_1330) (hd := d_Mo_word_53) (kk := a_mem (fun M1 eM1 => ?_))
    have h := h M1 eM1
    obtain ⟨x2, ex2⟩ : ∃ z : Int32, z = v3 + 1 := ⟨_, rfl⟩
    have h := h x2 ex2
    refine a_iinc (lv2 := [(3, .int x2), (2, .int w0), (0, .ref (B + a0)), (1, .ref (B + a1))]) fx 3 d_Mo_word_56 rfl ex2.symm (by decide) rfl ?_
    refine a_goto fx 4 d_Mo_word_59 rfl ?_
    refine a_sub [2, 3, 1, 0] rfl ?_
    exact h)
  refine a_iconst (v := 1) fx d_Mo_word_0 rfl ?_
  refine a_istore_n (lv2 := [(2, .int 1), (0, .ref (B + a0)), (1, .ref (B + a1))]) fx d_Mo_word_1 rfl (by decide) rfl ?_
  refine a_iconst (v := 0) fx d_Mo_word_2 rfl ?_
  refine a_istore_n (lv2 := [(3, .int 0), (2, .int 1), (0, .ref (B + a0)), (1, .ref (B + a1))]) fx d_Mo_word_3 rfl (by decide) rfl ?_
  refine a_sub [2, 3, 1, 0] rfl ?_
  exact h
set_option maxRecDepth 100000 in
set_option maxHeartbeats 4000000 in
theorem Met_Mo_decimal (l : Launch) (B : Nat) (D : va_G) (aC : Nat → ClassId) (aS : Nat → Nat) {a0 : Nat} {i1 : Int32} {M : zM} {post : Int64 → zM → Prop} (hk0 : a0 < N0) (ht0 : tg a0 = 9) (h : Wp_Mo_decimal a0 i1 M post) : Met l y_Mo_decimal (wo y_Mo_decimal b_Mo_decimal 7 (some FieldType.long)) { frames := 0, cells := 0, slots := 0, locals := 0 } (va_Pc [.ref (B + a0), .int i1] (zWl B D aC aS M)) (zQl B D aC post) 0 0 (zAb B) := by
  refine z_met (own := "MailChainModel") (lv0 := [(0, .ref (B + a0)), (1, .int i1)]) (by decide) rfl (Nat.le_of_ble_eq_true rfl) rfl ?_
  intro p e s m below meth c fx hr hlo
  delta Wp_Mo_decimal at h
  have h := h (fun v2 v3 M => zAt p l e { frames := 0, cells := 0, slots := 0, locals := 0 } s m ([.ref (B + a0), .int i1] : List Value).toArray below meth c 0 0 (MQ below (zQl B D aC post) ([.ref (B + a0), .int i1] : List Value).toArray s 0 0 (zAb B)) B D aC 7 7 [(0, .ref (B + a0)), (1, .int i1), (2, .int v2), (3, .long v3)] [] M)
  have h := h (fun v2 v3 M => zAt p l e { frames := 0, cells := 0, slots := 0, locals := 0 } s m ([.ref (B + a0), .int i1] : List Value).toArray below meth c 0 0 (MQ below (zQl B D aC post) ([.ref (B + a0), .int i1] : List Value).toArray s 0 0 (zAb B)) B D aC 7 91 [(0, .ref (B + a0)), (1, .int i1), (2, .int v2), (3, .long v3)] [] M)
  have h := h (fun v3 M => zAt p l e { frames := 0, cells := 0, slots := 0, locals := 0 } s m ([.ref (B + a0), .int i1] : List Value).toArray below meth c 0 0 (MQ below (zQl B D aC post) ([.ref (B + a0), .int i1] : List Value).toArray s 0 0 (zAb B)) B D aC 7 129 [(0, .ref (B + a0)), (1, .int i1), (3, .long v3)] [] M)
  have h := h (fun v3 w0 M => zAt p l e { frames := 0, cells := 0, slots := 0, locals := 0 } s m ([.ref (B + a0), .int i1] : List Value).toArray below meth c 0 0 (MQ below (zQl B D aC post) ([.ref (B + a0), .int i1] : List Value).toArray s 0 0 (zAb B)) B D aC 7 158 [(0, .ref (B + a0)), (1, .int i1), (3, .long v3)] [.int w0] M)
  have h := h (by
    intro v2 v3 M h
    refine a_aload_n fx 0 d_Mo_decimal_7 rfl rfl ?_
    refine a_getI fx (T := F_Mo) (j := 61) (hk := hk0) (ht := ht0) (ht2 := by decide) (hc := rfl) (hin := u_in_Mo) (hj := by decide) (hj2 := by decide) (hf := rfl) (hT := rfl) (hw := w_1330) (hd := d_Mo_decimal_8) (kk := ?_)
    refine a_aload_n fx 0 d_Mo_decimal_11 rfl rfl ?_
    refine a_getI fx (T := F_Mo) (j := 59) (hk := hk0) (ht := ht0) (ht2 := by decide) (hc := rfl) (hin := u_in_Mo) (hj := by decide) (hj2 := by decide) (hf := rfl) (hT := rfl) (hw := w_1328) (hd := d_Mo_decimal_12) (kk := ?_)
    refine a_icmp_ge fx 91 d_Mo_decimal_15 rfl (fun hc => ?_) (fun hc => ?_)
    · have h := h.1 hc
      refine a_sub [0, 1, 2, 3] rfl ?_
      exact h
    · have h := h.2 hc
      refine a_aload_n fx 0 d_Mo_decimal_18 rfl rfl ?_
      refine a_getI fx (T := F_Mo) (j := 61) (hk := hk0) (ht := ht0) (ht2 := by decide) (hc := rfl) (hin := u_in_Mo) (hj := by decide) (hj2 := by decide) (hf := rfl) (hT := rfl) (hw := w_1330) (hd := d_Mo_decimal_19) (kk := ?_)
      refine a_iload_n fx 2 d_Mo_decimal_22 rfl rfl ?_
      refine a_isub fx d_Mo_decimal_23 ?_
      refine a_bipush (v := 11) fx d_Mo_decimal_24 rfl ?_
      refine a_icmp_ge fx 91 d_Mo_decimal_26 rfl (fun hc => ?_) (fun hc => ?_)
      · have h := h.1 hc
        refine a_sub [0, 1, 2, 3] rfl ?_
        exact h
      · have h := h.2 hc
        refine a_aload_n fx 0 d_Mo_decimal_29 rfl rfl ?_
        refine a_getS fx (T := F_Mo) (j := 60) (hk := hk0) (ht := ht0) (ht2 := by decide) (hc := rfl) (hin := u_in_Mo) (hj := by decide) (hj2 := by decide) (hf := rfl) (n9 := 37) (hfo := rfl) (hT := rfl) (hw := w_1329) (hd := d_Mo_decimal_30) (kk := ?_)
        refine a_aload_n fx 0 d_Mo_decimal_33 rfl rfl ?_
        refine a_getI fx (T := F_Mo) (j := 61) (hk := hk0) (ht := ht0) (ht2 := by decide) (hc := rfl) (hin := u_in_Mo) (hj := by decide) (hj2 := by decide) (hf := rfl) (hT := rfl) (hw := w_1330) (hd := d_Mo_decimal_34) (kk := ?_)
        obtain ⟨hin, h⟩ := h
        refine a_bald fx (lo_9_60 hk0 ht0).1 (lo_9_60 hk0 ht0).2 hin d_Mo_decimal_37 ?_
        refine a_bipush (v := 48) fx d_Mo_decimal_38 rfl ?_
        refine a_icmp_lt fx 91 d_Mo_decimal_40 rfl (fun hc => ?_) (fun hc => ?_)
        · have h := h.1 hc
          refine a_sub [0, 1, 2, 3] rfl ?_
          exact h
        · have h := h.2 hc
          refine a_aload_n fx 0 d_Mo_decimal_43 rfl rfl ?_
          refine a_getS fx (T := F_Mo) (j := 60) (hk := hk0) (ht := ht0) (ht2 := by decide) (hc := rfl) (hin := u_in_Mo) (hj := by decide) (hj2 := by decide) (hf := rfl) (n9 := 37) (hfo := rfl) (hT := rfl) (hw := w_1329) (hd := d_Mo_decimal_44) (kk := ?_)
          refine a_aload_n fx 0 d_Mo_decimal_47 rfl rfl ?_
          refine a_getI fx (T := F_Mo) (j := 61) (hk := hk0) (ht := ht0) (ht2 := by decide) (hc := rfl) (hin := u_in_Mo) (hj := by decide) (hj2 := by decide) (hf := rfl) (hT := rfl) (hw := w_1330) (hd := d_Mo_decimal_48) (kk := ?_)
          obtain ⟨hin, h⟩ := h
          refine a_bald fx (lo_9_60 hk0 ht0).1 (lo_9_60 hk0 ht0).2 hin d_Mo_decimal_51 ?_
          refine a_bipush (v := 57) fx d_Mo_decimal_52 rfl ?_
          refine a_icmp_gt fx 91 d_Mo_decimal_54 rfl (fun hc => ?_) (fun hc => ?_)
          · have h := h.1 hc
            refine a_sub [0, 1, 2, 3] rfl ?_
            exact h
          · have h := h.2 hc
            refine a_ldc2 fx w_1643 d_Mo_decimal_57 ?_
            refine a_lload_n fx 3 d_Mo_decimal_60 rfl rfl ?_
            refine a_lmul fx d_Mo_decimal_61 ?_
            refine a_aload_n fx 0 d_Mo_decimal_62 rfl rfl ?_
            refine a_getS fx (T := F_Mo) (j := 60) (hk := hk0) (ht := ht0) (ht2 := by decide) (hc := rfl) (hin := u_in_Mo) (hj := by decide) (hj2 := by decide) (hf := rfl) (n9 := 37) (hfo := rfl) (hT := rfl) (hw := w_1329) (hd := d_Mo_decimal_63) (kk := ?_)
            refine a_aload_n fx 0 d_Mo_decimal_66 rfl rfl ?_
            refine a_getI fx (T := F_Mo) (j := 61) (hk := hk0) (ht := ht0) (ht2 := by decide) (hc := rfl) (hin := u_in_Mo) (hj := by decide) (hj2 := by decide) (hf := rfl) (hT := rfl) (hw := w_1330) (hd := d_Mo_decimal_67) (kk := ?_)
            obtain ⟨hin, h⟩ := h
            refine a_bald fx (lo_9_60 hk0 ht0).1 (lo_9_60 hk0 ht0).2 hin d_Mo_decimal_70 ?_
            refine a_i2l fx d_Mo_decimal_71 ?_
            refine a_ladd fx d_Mo_decimal_72 ?_
            refine a_ldc2 fx w_1665 d_Mo_decimal_73 ?_
            refine a_lsub fx d_Mo_decimal_76 ?_
            refine a_topl (fun y2 ey2 => ?_)
            have h := h y2 ey2
            refine a_lstore_n (lv2 := [(3, .long y2), (0, .ref (B + a0)), (1, .int i1), (2, .int v2)]) fx d_Mo_decimal_77 rfl (by decide) rfl ?_
            refine a_aload_n fx 1 d_Mo_decimal_78 rfl rfl ?_
            refine a_dup fx d_Mo_decimal_79 rfl ?_
            refine a_getI fx (T := F_Mo) (j := 61) (hk := hk0) (ht := ht0) (ht2 := by decide) (hc := rfl) (hin := u_in_Mo) (hj := by decide) (hj2 := by decide) (hf := rfl) (hT := rfl) (hw := w_1330) (hd := d_Mo_decimal_80) (kk := ?_)
            refine a_iconst (v := 1) fx d_Mo_decimal_83 rfl ?_
            refine a_iadd fx d_Mo_decimal_84 ?_
            refine a_putI fx (T := F_Mo) (ty0 := t_Mo) (j := 61) (hk := hk0) (ht := ht0) (ht2 := by decide) (hc := rfl) (hin := u_in_Mo) (hty := t_Mo_ok) (hnm := n_Mo) (hj := by decide) (hj2 := by decide) (hf := rfl) (hT := rfl) (hfin := rfl) (hn := rfl) (hfit := rfl) (hw := w_1330) (hd := d_Mo_decimal_85) (kk := a_mem (fun M3 eM3 => ?_))
            have h := h M3 eM3
            refine a_goto fx 7 d_Mo_decimal_88 rfl ?_
            refine a_sub [1, 2, 3, 0] rfl ?_
            exact h)
  have h := h (by
    intro v2 v3 M h
    refine a_aload_n fx 0 d_Mo_decimal_91 rfl rfl ?_
    refine a_getI fx (T := F_Mo) (j := 61) (hk := hk0) (ht := ht0) (ht2 := by decide) (hc := rfl) (hin := u_in_Mo) (hj := by decide) (hj2 := by decide) (hf := rfl) (hT := rfl) (hw := w_1330) (hd := d_Mo_decimal_92) (kk := ?_)
    refine a_iload_n fx 2 d_Mo_decimal_95 rfl rfl ?_
    refine a_isub fx d_Mo_decimal_96 ?_
    refine a_topi (fun x4 ex4 => ?_)
    have h := h x4 ex4
    refine a_istore (lv2 := [(5, .int x4), (0, .ref (B + a0)), (1, .int i1), (2, .int v2), (3, .long v3)]) fx d_Mo_decimal_97 (by decide) rfl ?_
    refine a_iload fx 0 d_Mo_decimal_99 rfl ?_
    refine a_iconst (v := 1) fx d_Mo_decimal_101 rfl ?_
    refine a_icmp_lt fx 157 d_Mo_decimal_102 rfl (fun hc => ?_) (fun hc => ?_)
    · have h := h.1 hc
      refine a_iconst (v := 0) fx d_Mo_decimal_157 rfl ?_
      refine a_sub [1, 2, 4] rfl ?_
      exact h
    · have h := h.2 hc
      refine a_iload fx 0 d_Mo_decimal_105 rfl ?_
      refine a_bipush (v := 10) fx d_Mo_decimal_107 rfl ?_
      refine a_icmp_gt fx 157 d_Mo_decimal_109 rfl (fun hc => ?_) (fun hc => ?_)
      · have h := h.1 hc
        refine a_iconst (v := 0) fx d_Mo_decimal_157 rfl ?_
        refine a_sub [1, 2, 4] rfl ?_
        exact h
      · have h := h.2 hc
        refine a_iload fx 0 d_Mo_decimal_112 rfl ?_
        refine a_iconst (v := 1) fx d_Mo_decimal_114 rfl ?_
        refine a_icmp_eq fx 129 d_Mo_decimal_115 rfl (fun hc => ?_) (fun hc => ?_)
        · have h := h.1 hc
          refine a_sub [1, 2, 4] rfl ?_
          exact h
        · have h := h.2 hc
          refine a_aload_n fx 1 d_Mo_decimal_118 rfl rfl ?_
          refine a_getS fx (T := F_Mo) (j := 60) (hk := hk0) (ht := ht0) (ht2 := by decide) (hc := rfl) (hin := u_in_Mo) (hj := by decide) (hj2 := by decide) (hf := rfl) (n9 := 37) (hfo := rfl) (hT := rfl) (hw := w_1329) (hd := d_Mo_decimal_119) (kk := ?_)
          refine a_iload_n fx 3 d_Mo_decimal_122 rfl rfl ?_
          obtain ⟨hin, h⟩ := h
          refine a_bald fx (lo_9_60 hk0 ht0).1 (lo_9_60 hk0 ht0).2 hin d_Mo_decimal_123 ?_
          refine a_bipush (v := 48) fx d_Mo_decimal_124 rfl ?_
          refine a_icmp_eq fx 157 d_Mo_decimal_126 rfl (fun hc => ?_) (fun hc => ?_)
          · have h := h.1 hc
            refine a_iconst (v := 0) fx d_Mo_decimal_157 rfl ?_
            refine a_sub [1, 2, 4] rfl ?_
            exact h
          · have h := h.2 hc
            refine a_sub [1, 2, 4] rfl ?_
            exact h)
  have h := h (by
    intro v3 M h
    refine a_aload_n fx 0 d_Mo_decimal_129 rfl rfl ?_
    refine a_getI fx (T := F_Mo) (j := 61) (hk := hk0) (ht := ht0) (ht2 := by decide) (hc := rfl) (hin := u_in_Mo) (hj := by decide) (hj2 := by decide) (hf := rfl) (hT := rfl) (hw := w_1330) (hd := d_Mo_decimal_130) (kk := ?_)
    refine a_aload_n fx 0 d_Mo_decimal_133 rfl rfl ?_
    refine a_getI fx (T := F_Mo) (j := 59) (hk := hk0) (ht := ht0) (ht2 := by decide) (hc := rfl) (hin := u_in_Mo) (hj := by decide) (hj2 := by decide) (hf := rfl) (hT := rfl) (hw := w_1328) (hd := d_Mo_decimal_134) (kk := ?_)
    refine a_icmp_ge fx 157 d_Mo_decimal_137 rfl (fun hc => ?_) (fun hc => ?_)
    · have h := h.1 hc
      refine a_iconst (v := 0) fx d_Mo_decimal_157 rfl ?_
      refine a_sub [0, 1, 2] rfl ?_
      exact h
    · have h := h.2 hc
      refine a_aload_n fx 0 d_Mo_decimal_140 rfl rfl ?_
      refine a_getS fx (T := F_Mo) (j := 60) (hk := hk0) (ht := ht0) (ht2 := by decide) (hc := rfl) (hin := u_in_Mo) (hj := by decide) (hj2 := by decide) (hf := rfl) (n9 := 37) (hfo := rfl) (hT := rfl) (hw := w_1329) (hd := d_Mo_decimal_141) (kk := ?_)
      refine a_aload_n fx 0 d_Mo_decimal_144 rfl rfl ?_
      refine a_getI fx (T := F_Mo) (j := 61) (hk := hk0) (ht := ht0) (ht2 := by decide) (hc := rfl) (hin := u_in_Mo) (hj := by decide) (hj2 := by decide) (hf := rfl) (hT := rfl) (hw := w_1330) (hd := d_Mo_decimal_145) (kk := ?_)
      obtain ⟨hin, h⟩ := h
      refine a_bald fx (lo_9_60 hk0 ht0).1 (lo_9_60 hk0 ht0).2 hin d_Mo_decimal_148 ?_
      refine a_iload_n fx 1 d_Mo_decimal_149 rfl rfl ?_
      refine a_icmp_ne fx 157 d_Mo_decimal_150 rfl (fun hc => ?_) (fun hc => ?_)
      · have h := h.1 hc
        refine a_iconst (v := 0) fx d_Mo_decimal_157 rfl ?_
        refine a_sub [0, 1, 2] rfl ?_
        exact h
      · have h := h.2 hc
        refine a_iconst (v := 1) fx d_Mo_decimal_153 rfl ?_
        refine a_goto fx 158 d_Mo_decimal_154 rfl ?_
        refine a_sub [0, 1, 2] rfl ?_
        exact h)
  have h := h (by
    intro v3 w0 M h
    refine a_istore (lv2 := [(6, .int w0), (0, .ref (B + a0)), (1, .int i1), (3, .long v3)]) fx d_Mo_decimal_158 (by decide) rfl ?_
    refine a_aload_n fx 1 d_Mo_decimal_160 rfl rfl ?_
    refine a_dup fx d_Mo_decimal_161 rfl ?_
    refine a_getI fx (T := F_Mo) (j := 61) (hk := hk0) (ht := ht0) (ht2 := by decide) (hc := rfl) (hin := u_in_Mo) (hj := by decide) (hj2 := by decide) (hf := rfl) (hT := rfl) (hw := w_1330) (hd := d_Mo_decimal_162) (kk := ?_)
    refine a_iconst (v := 1) fx d_Mo_decimal_165 rfl ?_
    refine a_iadd fx d_Mo_decimal_166 ?_
    refine a_putI fx (T := F_Mo) (ty0 := t_Mo) (j := 61) (hk := hk0) (ht := ht0) (ht2 := by decide) (hc := rfl) (hin := u_in_Mo) (hty := t_Mo_ok) (hnm := n_Mo) (hj := by decide) (hj2 := by decide) (hf := rfl) (hT := rfl) (hfin := rfl) (hn := rfl) (hfit := rfl) (hw := w_1330) (hd := d_Mo_decimal_167) (kk := a_mem (fun M5 eM5 => ?_))
    have h := h M5 eM5
    refine a_iload fx 0 d_Mo_decimal_170 rfl ?_
    refine a_if_eq fx 179 d_Mo_decimal_172 rfl (fun hc => ?_) (fun hc => ?_)
    · have h := h.1 hc
      refine a_ldc2 fx w_1666 d_Mo_decimal_179 ?_
      exact a_lret fx hlo hr h d_Mo_decimal_182
    · have h := h.2 hc
      refine a_lload_n fx 3 d_Mo_decimal_175 rfl rfl ?_
      refine a_goto fx 182 d_Mo_decimal_176 rfl ?_
      exact a_lret fx hlo hr h d_Mo_decimal_182)
  refine a_aload_n fx 0 d_Mo_decimal_0 rfl rfl ?_
  refine a_getI fx (T := F_Mo) (j := 61) (hk := hk0) (ht := ht0) (ht2 := by decide) (hc := rfl) (hin := u_in_Mo) (hj := by decide) (hj2 := by decide) (hf := rfl) (hT := rfl) (hw := w_1330) (hd := d_Mo_decimal_1) (kk := ?_)
  refine a_topi (fun x1 ex1 => ?_)
  have h := h x1 ex1
  refine a_istore_n (lv2 := [(2, .int x1), (0, .ref (B + a0)), (1, .int i1)]) fx d_Mo_decimal_4 rfl (by decide) rfl ?_
  refine a_lconst (v := 0) fx d_Mo_decimal_5 rfl ?_
  refine a_lstore_n (lv2 := [(3, .long 0), (2, .int x1), (0, .ref (B + a0)), (1, .int i1)]) fx d_Mo_decimal_6 rfl (by decide) rfl ?_
  refine a_sub [2, 3, 1, 0] rfl ?_
  exact h
set_option maxRecDepth 100000 in
set_option maxHeartbeats 4000000 in
theorem Met_Mo_keep (l : Launch) (B : Nat) (D : va_G) (aC : Nat → ClassId) (aS : Nat → Nat) {a0 : Nat} {i1 : Int32} {i2 : Int32} {a3 : Nat} {i4 : Int32} {i5 : Int32} {M : zM} {post : zM → Prop} (hk0 : a0 < N0) (ht0 : tg a0 = 9) (hk3 : a3 < N0) (ht3 : tg a3 = 20) (h : Wp_Mo_keep a0 i1 i2 a3 i4 i5 M post) : Met l y_Mo_keep (wo y_Mo_keep b_Mo_keep 7 none) { frames := 0, cells := 0, slots := 0, locals := 0 } (va_Pc [.ref (B + a0), .int i1, .int i2, .ref (B + a3), .int i4, .int i5] (zWl B D aC aS M)) (zQv B D aC post) 0 0 (zAb B) := by
  refine z_met (own := "MailChainModel") (lv0 := [(0, .ref (B + a0)), (1, .int i1), (2, .int i2), (3, .ref (B + a3)), (4, .int i4), (5, .int i5)]) (by decide) rfl (Nat.le_of_ble_eq_true rfl) rfl ?_
  intro p e s m below meth c fx hr hlo
  delta Wp_Mo_keep at h
  have h := h (fun v6 M => zAt p l e { frames := 0, cells := 0, slots := 0, locals := 0 } s m ([.ref (B + a0), .int i1, .int i2, .ref (B + a3), .int i4, .int i5] : List Value).toArray below meth c 0 0 (MQ below (zQv B D aC post) ([.ref (B + a0), .int i1, .int i2, .ref (B + a3), .int i4, .int i5] : List Value).toArray s 0 0 (zAb B)) B D aC 7 55 [(0, .ref (B + a0)), (1, .int i1), (2, .int i2), (3, .ref (B + a3)), (4, .int i4), (5, .int i5), (6, .int v6)] [] M)
  have h := h (by
    intro v6 M h
    refine a_iload fx 6 d_Mo_keep_55 rfl ?_
    refine a_iload fx 5 d_Mo_keep_57 rfl ?_
    refine a_icmp_ge fx 105 d_Mo_keep_59 rfl (fun hc => ?_) (fun hc => ?_)
    · have h := h.1 hc
      exact a_vret fx hlo hr h d_Mo_keep_105
    · have h := h.2 hc
      refine a_aload_n fx 0 d_Mo_keep_62 rfl rfl ?_
      refine a_getL fx (T := F_Mo) (j := 39) (hk := hk0) (ht := ht0) (ht2 := by decide) (hc := rfl) (hin := u_in_Mo) (hj := by decide) (hj2 := by decide) (hf := rfl) (hT := rfl) (hw := w_1308) (hd := d_Mo_keep_63) (kk := ?_)
      refine a_ldc2 fx w_1667 d_Mo_keep_66 ?_
      refine a_lcmp fx d_Mo_keep_69 ?_
      refine a_if_gt fx 105 d_Mo_keep_70 rfl (fun hc => ?_) (fun hc => ?_)
      · have h := h.1 hc
        exact a_vret fx hlo hr h d_Mo_keep_105
      · have h := h.2 hc
        refine a_aload_n fx 0 d_Mo_keep_73 rfl rfl ?_
        refine a_getS fx (T := F_Mo) (j := 44) (hk := hk0) (ht := ht0) (ht2 := by decide) (hc := rfl) (hin := u_in_Mo) (hj := by decide) (hj2 := by decide) (hf := rfl) (n9 := 30) (hfo := rfl) (hT := rfl) (hw := w_1313) (hd := d_Mo_keep_74) (kk := ?_)
        refine a_aload_n fx 0 d_Mo_keep_77 rfl rfl ?_
        refine a_getI fx (T := F_Mo) (j := 43) (hk := hk0) (ht := ht0) (ht2 := by decide) (hc := rfl) (hin := u_in_Mo) (hj := by decide) (hj2 := by decide) (hf := rfl) (hT := rfl) (hw := w_1312) (hd := d_Mo_keep_78) (kk := ?_)
        refine a_aload_n fx 3 d_Mo_keep_81 rfl rfl ?_
        refine a_iload fx 4 d_Mo_keep_82 rfl ?_
        refine a_iload fx 6 d_Mo_keep_84 rfl ?_
        refine a_iadd fx d_Mo_keep_86 ?_
        obtain ⟨hin, h⟩ := h
        refine a_bald fx hk3 ht3 hin d_Mo_keep_87 ?_
        obtain ⟨hin, h⟩ := h
        refine a_bast fx (lo_9_44 hk0 ht0).1 (lo_9_44 hk0 ht0).2 hin d_Mo_keep_88 (a_mem (fun M7 eM7 => ?_))
        have h := h M7 eM7
        refine a_aload_n fx 0 d_Mo_keep_89 rfl rfl ?_
        refine a_dup fx d_Mo_keep_90 rfl ?_
        refine a_getI fx (T := F_Mo) (j := 43) (hk := hk0) (ht := ht0) (ht2 := by decide) (hc := rfl) (hin := u_in_Mo) (hj := by decide) (hj2 := by decide) (hf := rfl) (hT := rfl) (hw := w_1312) (hd := d_Mo_keep_91) (kk := ?_)
        refine a_iconst (v := 1) fx d_Mo_keep_94 rfl ?_
        refine a_iadd fx d_Mo_keep_95 ?_
        refine a_putI fx (T := F_Mo) (ty0 := t_Mo) (j := 43) (hk := hk0) (ht := ht0) (ht2 := by decide) (hc := rfl) (hin := u_in_Mo) (hty := t_Mo_ok) (hnm := n_Mo) (hj := by decide) (hj2 := by decide) (hf := rfl) (hT := rfl) (hfin := rfl) (hn := rfl) (hfit := rfl) (hw := w_1312) (hd := d_Mo_keep_96) (kk := a_mem (fun M8 eM8 => ?_))
        have h := h M8 eM8
        obtain ⟨x9, ex9⟩ : ∃ z : Int32, z = v6 + 1 := ⟨_, rfl⟩
        have h := h x9 ex9
        refine a_iinc (lv2 := [(6, .int x9), (0, .ref (B + a0)), (1, .int i1), (2, .int i2), (3, .ref (B + a3)), (4, .int i4), (5, .int i5)]) fx 6 d_Mo_keep_99 rfl ex9.symm (by decide) rfl ?_
        refine a_goto fx 55 d_Mo_keep_102 rfl ?_
        refine a_sub [1, 2, 3, 4, 5, 6, 0] rfl ?_
        exact h)
  refine a_aload_n fx 0 d_Mo_keep_0 rfl rfl ?_
  refine a_iload_n fx 2 d_Mo_keep_1 rfl rfl ?_
  refine a_putI fx (T := F_Mo) (ty0 := t_Mo) (j := 37) (hk := hk0) (ht := ht0) (ht2 := by decide) (hc := rfl) (hin := u_in_Mo) (hty := t_Mo_ok) (hnm := n_Mo) (hj := by decide) (hj2 := by decide) (hf := rfl) (hT := rfl) (hfin := rfl) (hn := rfl) (hfit := rfl) (hw := w_1306) (hd := d_Mo_keep_2) (kk := a_mem (fun M1 eM1 => ?_))
  have h := h M1 eM1
  refine a_aload_n fx 0 d_Mo_keep_5 rfl rfl ?_
  refine a_dup fx d_Mo_keep_6 rfl ?_
  refine a_getI fx (T := F_Mo) (j := 38) (hk := hk0) (ht := ht0) (ht2 := by decide) (hc := rfl) (hin := u_in_Mo) (hj := by decide) (hj2 := by decide) (hf := rfl) (hT := rfl) (hw := w_1307) (hd := d_Mo_keep_7) (kk := ?_)
  refine a_iconst (v := 1) fx d_Mo_keep_10 rfl ?_
  refine a_iadd fx d_Mo_keep_11 ?_
  refine a_putI fx (T := F_Mo) (ty0 := t_Mo) (j := 38) (hk := hk0) (ht := ht0) (ht2 := by decide) (hc := rfl) (hin := u_in_Mo) (hty := t_Mo_ok) (hnm := n_Mo) (hj := by decide) (hj2 := by decide) (hf := rfl) (hT := rfl) (hfin := rfl) (hn := rfl) (hfit := rfl) (hw := w_1307) (hd := d_Mo_keep_12) (kk := a_mem (fun M2 eM2 => ?_))
  have h := h M2 eM2
  refine a_aload_n fx 0 d_Mo_keep_15 rfl rfl ?_
  refine a_getS fx (T := F_Mo) (j := 40) (hk := hk0) (ht := ht0) (ht2 := by decide) (hc := rfl) (hin := u_in_Mo) (hj := by decide) (hj2 := by decide) (hf := rfl) (n9 := 27) (hfo := rfl) (hT := rfl) (hw := w_1309) (hd := d_Mo_keep_16) (kk := ?_)
  refine a_iload_n fx 1 d_Mo_keep_19 rfl rfl ?_
  refine a_iconst (v := 1) fx d_Mo_keep_20 rfl ?_
  obtain ⟨hin, h⟩ := h
  refine a_zast fx (lo_9_40 hk0 ht0).1 (lo_9_40 hk0 ht0).2 hin d_Mo_keep_21 (a_mem (fun M3 eM3 => ?_))
  have h := h M3 eM3
  refine a_aload_n fx 0 d_Mo_keep_22 rfl rfl ?_
  refine a_getS fx (T := F_Mo) (j := 41) (hk := hk0) (ht := ht0) (ht2 := by decide) (hc := rfl) (hin := u_in_Mo) (hj := by decide) (hj2 := by decide) (hf := rfl) (n9 := 28) (hfo := rfl) (hT := rfl) (hw := w_1310) (hd := d_Mo_keep_23) (kk := ?_)
  refine a_iload_n fx 1 d_Mo_keep_26 rfl rfl ?_
  refine a_iload fx 5 d_Mo_keep_27 rfl ?_
  obtain ⟨hin, h⟩ := h
  refine a_iast fx (lo_9_41 hk0 ht0).1 (lo_9_41 hk0 ht0).2 hin d_Mo_keep_29 (a_mem (fun M4 eM4 => ?_))
  have h := h M4 eM4
  refine a_aload_n fx 0 d_Mo_keep_30 rfl rfl ?_
  refine a_getS fx (T := F_Mo) (j := 42) (hk := hk0) (ht := ht0) (ht2 := by decide) (hc := rfl) (hin := u_in_Mo) (hj := by decide) (hj2 := by decide) (hf := rfl) (n9 := 29) (hfo := rfl) (hT := rfl) (hw := w_1311) (hd := d_Mo_keep_31) (kk := ?_)
  refine a_iload_n fx 1 d_Mo_keep_34 rfl rfl ?_
  refine a_aload_n fx 0 d_Mo_keep_35 rfl rfl ?_
  refine a_getI fx (T := F_Mo) (j := 43) (hk := hk0) (ht := ht0) (ht2 := by decide) (hc := rfl) (hin := u_in_Mo) (hj := by decide) (hj2 := by decide) (hf := rfl) (hT := rfl) (hw := w_1312) (hd := d_Mo_keep_36) (kk := ?_)
  obtain ⟨hin, h⟩ := h
  refine a_iast fx (lo_9_42 hk0 ht0).1 (lo_9_42 hk0 ht0).2 hin d_Mo_keep_39 (a_mem (fun M5 eM5 => ?_))
  have h := h M5 eM5
  refine a_aload_n fx 0 d_Mo_keep_40 rfl rfl ?_
  refine a_aload_n fx 0 d_Mo_keep_41 rfl rfl ?_
  refine a_getL fx (T := F_Mo) (j := 39) (hk := hk0) (ht := ht0) (ht2 := by decide) (hc := rfl) (hin := u_in_Mo) (hj := by decide) (hj2 := by decide) (hf := rfl) (hT := rfl) (hw := w_1308) (hd := d_Mo_keep_42) (kk := ?_)
  refine a_iload fx 5 d_Mo_keep_45 rfl ?_
  refine a_i2l fx d_Mo_keep_47 ?_
  refine a_ladd fx d_Mo_keep_48 ?_
  refine a_putL fx (T := F_Mo) (ty0 := t_Mo) (j := 39) (hk := hk0) (ht := ht0) (ht2 := by decide) (hc := rfl) (hin := u_in_Mo) (hty := t_Mo_ok) (hnm := n_Mo) (hj := by decide) (hj2 := by decide) (hf := rfl) (hT := rfl) (hfin := rfl) (hn := rfl) (hfit := rfl) (hw := w_1308) (hd := d_Mo_keep_49) (kk := a_mem (fun M6 eM6 => ?_))
  have h := h M6 eM6
  refine a_iconst (v := 0) fx d_Mo_keep_52 rfl ?_
  refine a_istore (lv2 := [(6, .int 0), (0, .ref (B + a0)), (1, .int i1), (2, .int i2), (3, .ref (B + a3)), (4, .int i4), (5, .int i5)]) fx d_Mo_keep_53 (by decide) rfl ?_
  refine a_sub [1, 2, 3, 4, 5, 6, 0] rfl ?_
  exact h
set_option maxRecDepth 100000 in
set_option maxHeartbeats 4000000 in
theorem Met_Mo_come (l : Launch) (B : Nat) (D : va_G) (aC : Nat → ClassId) (aS : Nat → Nat) {a0 : Nat} {M : zM} {post : Int32 → zM → Prop} (hk0 : a0 < N0) (ht0 : tg a0 = 9) (h : Wp_Mo_come a0 M post) : Met l y_Mo_come (wo y_Mo_come b_Mo_come 11 (some FieldType.int)) { frames := 2, cells := 0, slots := 0, locals := 47 } (va_Pc [.ref (B + a0)] (zWl B D aC aS M)) (zQi B D aC post) 0 0 (zAb B) := by
  refine z_met (own := "MailChainModel") (lv0 := [(0, .ref (B + a0))]) (by decide) rfl (Nat.le_of_ble_eq_true rfl) rfl ?_
  intro p e s m below meth c fx hr hlo
  delta Wp_Mo_come at h
  have h := h (fun v1 w0 M => zAt p l e { frames := 2, cells := 0, slots := 0, locals := 47 } s m ([.ref (B + a0)] : List Value).toArray below meth c 0 0 (MQ below (zQi B D aC post) ([.ref (B + a0)] : List Value).toArray s 0 0 (zAb B)) B D aC 11 30 [(0, .ref (B + a0)), (1, .int v1)] [.long w0] M)
  have h := h (fun v2 w0 M => zAt p l e { frames := 2, cells := 0, slots := 0, locals := 47 } s m ([.ref (B + a0)] : List Value).toArray below meth c 0 0 (MQ below (zQi B D aC post) ([.ref (B + a0)] : List Value).toArray s 0 0 (zAb B)) B D aC 11 57 [(0, .ref (B + a0)), (2, .long v2)] [.int w0] M)
  have h := h (fun v1 v2 w0 M => zAt p l e { frames := 2, cells := 0, slots := 0, locals := 47 } s m ([.ref (B + a0)] : List Value).toArray below meth c 0 0 (MQ below (zQi B D aC post) ([.ref (B + a0)] : List Value).toArray s 0 0 (zAb B)) B D aC 11 74 [(0, .ref (B + a0)), (1, .int v1), (2, .long v2)] [.long w0] M)
  have h := h (fun v2 v4 w0 M => zAt p l e { frames := 2, cells := 0, slots := 0, locals := 47 } s m ([.ref (B + a0)] : List Value).toArray below meth c 0 0 (MQ below (zQi B D aC post) ([.ref (B + a0)] : List Value).toArray s 0 0 (zAb B)) B D aC 11 103 [(0, .ref (B + a0)), (2, .long v2), (4, .long v4)] [.int w0] M)
  have h := h (fun v1 v2 v4 w0 M => zAt p l e { frames := 2, cells := 0, slots := 0, locals := 47 } s m ([.ref (B + a0)] : List Value).toArray below meth c 0 0 (MQ below (zQi B D aC post) ([.ref (B + a0)] : List Value).toArray s 0 0 (zAb B)) B D aC 11 120 [(0, .ref (B + a0)), (1, .int v1), (2, .long v2), (4, .long v4)] [.long w0] M)
  have h := h (fun v2 v4 v6 w0 M => zAt p l e { frames := 2, cells := 0, slots := 0, locals := 47 } s m ([.ref (B + a0)] : List Value).toArray below meth c 0 0 (MQ below (zQi B D aC post) ([.ref (B + a0)] : List Value).toArray s 0 0 (zAb B)) B D aC 11 149 [(0, .ref (B + a0)), (2, .long v2), (4, .long v4), (6, .long v6)] [.int w0] M)
  have h := h (fun v1 v2 v4 v6 w0 M => zAt p l e { frames := 2, cells := 0, slots := 0, locals := 47 } s m ([.ref (B + a0)] : List Value).toArray below meth c 0 0 (MQ below (zQi B D aC post) ([.ref (B + a0)] : List Value).toArray s 0 0 (zAb B)) B D aC 11 166 [(0, .ref (B + a0)), (1, .int v1), (2, .long v2), (4, .long v4), (6, .long v6)] [.long w0] M)
  have h := h (fun v2 v4 v6 v8 M => zAt p l e { frames := 2, cells := 0, slots := 0, locals := 47 } s m ([.ref (B + a0)] : List Value).toArray below meth c 0 0 (MQ below (zQi B D aC post) ([.ref (B + a0)] : List Value).toArray s 0 0 (zAb B)) B D aC 11 248 [(0, .ref (B + a0)), (2, .long v2), (4, .long v4), (6, .long v6), (8, .long v8)] [] M)
  have h := h (fun v4 v6 v8 v10 M => zAt p l e { frames := 2, cells := 0, slots := 0, locals := 47 } s m ([.ref (B + a0)] : List Value).toArray below meth c 0 0 (MQ below (zQi B D aC post) ([.ref (B + a0)] : List Value).toArray s 0 0 (zAb B)) B D aC 11 271 [(0, .ref (B + a0)), (4, .long v4), (6, .long v6), (8, .long v8), (10, .int v10)] [] M)
  have h := h (by
    intro v1 w0 M h
    refine a_lstore_n (lv2 := [(2, .long w0), (0, .ref (B + a0)), (1, .int v1)]) fx d_Mo_come_30 rfl (by decide) rfl ?_
    refine a_iload_n fx 2 d_Mo_come_31 rfl rfl ?_
    refine a_if_eq fx 56 d_Mo_come_32 rfl (fun hc => ?_) (fun hc => ?_)
    · have h := h.1 hc
      refine a_iconst (v := 0) fx d_Mo_come_56 rfl ?_
      refine a_sub [1, 0] rfl ?_
      exact h
    · have h := h.2 hc
      refine a_lload_n fx 0 d_Mo_come_35 rfl rfl ?_
      refine a_lconst (v := 0) fx d_Mo_come_36 rfl ?_
      refine a_lcmp fx d_Mo_come_37 ?_
      refine a_if_lt fx 56 d_Mo_come_38 rfl (fun hc => ?_) (fun hc => ?_)
      · have h := h.1 hc
        refine a_iconst (v := 0) fx d_Mo_come_56 rfl ?_
        refine a_sub [1, 0] rfl ?_
        exact h
      · have h := h.2 hc
        refine a_aload_n fx 1 d_Mo_come_41 rfl rfl ?_
        refine a_aload_n fx 1 d_Mo_come_42 rfl rfl ?_
        refine a_getS fx (T := F_Mo) (j := 3) (hk := hk0) (ht := ht0) (ht2 := by decide) (hc := rfl) (hin := u_in_Mo) (hj := by decide) (hj2 := by decide) (hf := rfl) (n9 := 4) (hfo := rfl) (hT := rfl) (hw := w_1272) (hd := d_Mo_come_43) (kk := ?_)
        refine a_calli (rest := []) (a_runV (As := [.ref (B + (a0 + 4))]) fx cv_Mo_word w_1657 (Met_Mo_word l B D aC aS (hk0 := hk0) (ht0 := ht0) (hk1 := (lo_9_3 hk0 ht0).1) (ht1 := (lo_9_3 hk0 ht0).2) h) hk0 ht0 (by decide) rfl rfl rfl (Nat.le_of_ble_eq_true rfl) rfl rfl ⟨Nat.le_of_ble_eq_true rfl, Nat.le_of_ble_eq_true rfl⟩ d_Mo_come_46 ⟨Nat.le_of_ble_eq_true rfl, Nat.le_of_ble_eq_true rfl⟩) (fun x7 M6 h => ?_)
        refine a_if_eq fx 56 d_Mo_come_49 rfl (fun hc => ?_) (fun hc => ?_)
        · have h := h.1 hc
          refine a_iconst (v := 0) fx d_Mo_come_56 rfl ?_
          refine a_sub [1, 0] rfl ?_
          exact h
        · have h := h.2 hc
          refine a_iconst (v := 1) fx d_Mo_come_52 rfl ?_
          refine a_goto fx 57 d_Mo_come_53 rfl ?_
          refine a_sub [1, 0] rfl ?_
          exact h)
  have h := h (by
    intro v2 w0 M h
    refine a_istore_n (lv2 := [(1, .int w0), (0, .ref (B + a0)), (2, .long v2)]) fx d_Mo_come_57 rfl (by decide) rfl ?_
    refine a_iload_n fx 0 d_Mo_come_58 rfl rfl ?_
    refine a_if_eq fx 71 d_Mo_come_59 rfl (fun hc => ?_) (fun hc => ?_)
    · have h := h.1 hc
      refine a_ldc2 fx w_1666 d_Mo_come_71 ?_
      refine a_sub [1, 0, 2] rfl ?_
      exact h
    · have h := h.2 hc
      refine a_aload_n fx 1 d_Mo_come_62 rfl rfl ?_
      refine a_bipush (v := 32) fx d_Mo_come_63 rfl ?_
      refine a_calll (rest := []) (a_runV (As := [.int 32]) fx cv_Mo_decimal w_1661 (Met_Mo_decimal l B D aC aS (hk0 := hk0) (ht0 := ht0) h) hk0 ht0 (by decide) rfl rfl rfl (Nat.le_of_ble_eq_true rfl) rfl rfl ⟨Nat.le_of_ble_eq_true rfl, Nat.le_of_ble_eq_true rfl⟩ d_Mo_come_65 ⟨Nat.le_of_ble_eq_true rfl, Nat.le_of_ble_eq_true rfl⟩) (fun y9 M8 h => ?_)
      refine a_goto fx 74 d_Mo_come_68 rfl ?_
      refine a_sub [1, 0, 2] rfl ?_
      exact h)
  have h := h (by
    intro v1 v2 w0 M h
    refine a_lstore (lv2 := [(4, .long w0), (0, .ref (B + a0)), (1, .int v1), (2, .long v2)]) fx d_Mo_come_74 (by decide) rfl ?_
    refine a_iload_n fx 2 d_Mo_come_76 rfl rfl ?_
    refine a_if_eq fx 102 d_Mo_come_77 rfl (fun hc => ?_) (fun hc => ?_)
    · have h := h.1 hc
      refine a_iconst (v := 0) fx d_Mo_come_102 rfl ?_
      refine a_sub [1, 3, 0] rfl ?_
      exact h
    · have h := h.2 hc
      refine a_lload fx 0 d_Mo_come_80 rfl ?_
      refine a_lconst (v := 0) fx d_Mo_come_82 rfl ?_
      refine a_lcmp fx d_Mo_come_83 ?_
      refine a_if_lt fx 102 d_Mo_come_84 rfl (fun hc => ?_) (fun hc => ?_)
      · have h := h.1 hc
        refine a_iconst (v := 0) fx d_Mo_come_102 rfl ?_
        refine a_sub [1, 3, 0] rfl ?_
        exact h
      · have h := h.2 hc
        refine a_aload_n fx 1 d_Mo_come_87 rfl rfl ?_
        refine a_aload_n fx 1 d_Mo_come_88 rfl rfl ?_
        refine a_getS fx (T := F_Mo) (j := 4) (hk := hk0) (ht := ht0) (ht2 := by decide) (hc := rfl) (hin := u_in_Mo) (hj := by decide) (hj2 := by decide) (hf := rfl) (n9 := 5) (hfo := rfl) (hT := rfl) (hw := w_1273) (hd := d_Mo_come_89) (kk := ?_)
        refine a_calli (rest := []) (a_runV (As := [.ref (B + (a0 + 5))]) fx cv_Mo_word w_1657 (Met_Mo_word l B D aC aS (hk0 := hk0) (ht0 := ht0) (hk1 := (lo_9_4 hk0 ht0).1) (ht1 := (lo_9_4 hk0 ht0).2) h) hk0 ht0 (by decide) rfl rfl rfl (Nat.le_of_ble_eq_true rfl) rfl rfl ⟨Nat.le_of_ble_eq_true rfl, Nat.le_of_ble_eq_true rfl⟩ d_Mo_come_92 ⟨Nat.le_of_ble_eq_true rfl, Nat.le_of_ble_eq_true rfl⟩) (fun x11 M10 h => ?_)
        refine a_if_eq fx 102 d_Mo_come_95 rfl (fun hc => ?_) (fun hc => ?_)
        · have h := h.1 hc
          refine a_iconst (v := 0) fx d_Mo_come_102 rfl ?_
          refine a_sub [1, 3, 0] rfl ?_
          exact h
        · have h := h.2 hc
          refine a_iconst (v := 1) fx d_Mo_come_98 rfl ?_
          refine a_goto fx 103 d_Mo_come_99 rfl ?_
          refine a_sub [1, 3, 0] rfl ?_
          exact h)
  have h := h (by
    intro v2 v4 w0 M h
    refine a_istore_n (lv2 := [(1, .int w0), (0, .ref (B + a0)), (2, .long v2), (4, .long v4)]) fx d_Mo_come_103 rfl (by decide) rfl ?_
    refine a_iload_n fx 0 d_Mo_come_104 rfl rfl ?_
    refine a_if_eq fx 117 d_Mo_come_105 rfl (fun hc => ?_) (fun hc => ?_)
    · have h := h.1 hc
      refine a_ldc2 fx w_1666 d_Mo_come_117 ?_
      refine a_sub [1, 0, 2, 3] rfl ?_
      exact h
    · have h := h.2 hc
      refine a_aload_n fx 1 d_Mo_come_108 rfl rfl ?_
      refine a_bipush (v := 32) fx d_Mo_come_109 rfl ?_
      refine a_calll (rest := []) (a_runV (As := [.int 32]) fx cv_Mo_decimal w_1661 (Met_Mo_decimal l B D aC aS (hk0 := hk0) (ht0 := ht0) h) hk0 ht0 (by decide) rfl rfl rfl (Nat.le_of_ble_eq_true rfl) rfl rfl ⟨Nat.le_of_ble_eq_true rfl, Nat.le_of_ble_eq_true rfl⟩ d_Mo_come_111 ⟨Nat.le_of_ble_eq_true rfl, Nat.le_of_ble_eq_true rfl⟩) (fun y13 M12 h => ?_)
      refine a_goto fx 120 d_Mo_come_114 rfl ?_
      refine a_sub [1, 0, 2, 3] rfl ?_
      exact h)
  have h := h (by
    intro v1 v2 v4 w0 M h
    refine a_lstore (lv2 := [(6, .long w0), (0, .ref (B + a0)), (1, .int v1), (2, .long v2), (4, .long v4)]) fx d_Mo_come_120 (by decide) rfl ?_
    refine a_iload_n fx 2 d_Mo_come_122 rfl rfl ?_
    refine a_if_eq fx 148 d_Mo_come_123 rfl (fun hc => ?_) (fun hc => ?_)
    · have h := h.1 hc
      refine a_iconst (v := 0) fx d_Mo_come_148 rfl ?_
      refine a_sub [1, 3, 4, 0] rfl ?_
      exact h
    · have h := h.2 hc
      refine a_lload fx 0 d_Mo_come_126 rfl ?_
      refine a_lconst (v := 0) fx d_Mo_come_128 rfl ?_
      refine a_lcmp fx d_Mo_come_129 ?_
      refine a_if_lt fx 148 d_Mo_come_130 rfl (fun hc => ?_) (fun hc => ?_)
      · have h := h.1 hc
        refine a_iconst (v := 0) fx d_Mo_come_148 rfl ?_
        refine a_sub [1, 3, 4, 0] rfl ?_
        exact h
      · have h := h.2 hc
        refine a_aload_n fx 1 d_Mo_come_133 rfl rfl ?_
        refine a_aload_n fx 1 d_Mo_come_134 rfl rfl ?_
        refine a_getS fx (T := F_Mo) (j := 5) (hk := hk0) (ht := ht0) (ht2 := by decide) (hc := rfl) (hin := u_in_Mo) (hj := by decide) (hj2 := by decide) (hf := rfl) (n9 := 6) (hfo := rfl) (hT := rfl) (hw := w_1274) (hd := d_Mo_come_135) (kk := ?_)
        refine a_calli (rest := []) (a_runV (As := [.ref (B + (a0 + 6))]) fx cv_Mo_word w_1657 (Met_Mo_word l B D aC aS (hk0 := hk0) (ht0 := ht0) (hk1 := (lo_9_5 hk0 ht0).1) (ht1 := (lo_9_5 hk0 ht0).2) h) hk0 ht0 (by decide) rfl rfl rfl (Nat.le_of_ble_eq_true rfl) rfl rfl ⟨Nat.le_of_ble_eq_true rfl, Nat.le_of_ble_eq_true rfl⟩ d_Mo_come_138 ⟨Nat.le_of_ble_eq_true rfl, Nat.le_of_ble_eq_true rfl⟩) (fun x15 M14 h => ?_)
        refine a_if_eq fx 148 d_Mo_come_141 rfl (fun hc => ?_) (fun hc => ?_)
        · have h := h.1 hc
          refine a_iconst (v := 0) fx d_Mo_come_148 rfl ?_
          refine a_sub [1, 3, 4, 0] rfl ?_
          exact h
        · have h := h.2 hc
          refine a_iconst (v := 1) fx d_Mo_come_144 rfl ?_
          refine a_goto fx 149 d_Mo_come_145 rfl ?_
          refine a_sub [1, 3, 4, 0] rfl ?_
          exact h)
  have h := h (by
    intro v2 v4 v6 w0 M h
    refine a_istore_n (lv2 := [(1, .int w0), (0, .ref (B + a0)), (2, .long v2), (4, .long v4), (6, .long v6)]) fx d_Mo_come_149 rfl (by decide) rfl ?_
    refine a_iload_n fx 0 d_Mo_come_150 rfl rfl ?_
    refine a_if_eq fx 163 d_Mo_come_151 rfl (fun hc => ?_) (fun hc => ?_)
    · have h := h.1 hc
      refine a_ldc2 fx w_1666 d_Mo_come_163 ?_
      refine a_sub [1, 0, 2, 3, 4] rfl ?_
      exact h
    · have h := h.2 hc
      refine a_aload_n fx 1 d_Mo_come_154 rfl rfl ?_
      refine a_bipush (v := 10) fx d_Mo_come_155 rfl ?_
      refine a_calll (rest := []) (a_runV (As := [.int 10]) fx cv_Mo_decimal w_1661 (Met_Mo_decimal l B D aC aS (hk0 := hk0) (ht0 := ht0) h) hk0 ht0 (by decide) rfl rfl rfl (Nat.le_of_ble_eq_true rfl) rfl rfl ⟨Nat.le_of_ble_eq_true rfl, Nat.le_of_ble_eq_true rfl⟩ d_Mo_come_157 ⟨Nat.le_of_ble_eq_true rfl, Nat.le_of_ble_eq_true rfl⟩) (fun y17 M16 h => ?_)
      refine a_goto fx 166 d_Mo_come_160 rfl ?_
      refine a_sub [1, 0, 2, 3, 4] rfl ?_
      exact h)
  have h := h (by
    intro v1 v2 v4 v6 w0 M h
    refine a_lstore (lv2 := [(8, .long w0), (0, .ref (B + a0)), (1, .int v1), (2, .long v2), (4, .long v4), (6, .long v6)]) fx d_Mo_come_166 (by decide) rfl ?_
    refine a_iload_n fx 2 d_Mo_come_168 rfl rfl ?_
    refine a_if_eq fx 226 d_Mo_come_169 rfl (fun hc => ?_) (fun hc => ?_)
    · have h := h.1 hc
      refine a_iconst (v := 1) fx d_Mo_come_226 rfl ?_
      exact a_iret fx hlo hr h d_Mo_come_227
    · have h := h.2 hc
      refine a_lload fx 0 d_Mo_come_172 rfl ?_
      refine a_lconst (v := 0) fx d_Mo_come_174 rfl ?_
      refine a_lcmp fx d_Mo_come_175 ?_
      refine a_if_lt fx 226 d_Mo_come_176 rfl (fun hc => ?_) (fun hc => ?_)
      · have h := h.1 hc
        refine a_iconst (v := 1) fx d_Mo_come_226 rfl ?_
        exact a_iret fx hlo hr h d_Mo_come_227
      · have h := h.2 hc
        refine a_lload fx 0 d_Mo_come_179 rfl ?_
        refine a_ldc2 fx w_1644 d_Mo_come_181 ?_
        refine a_lcmp fx d_Mo_come_184 ?_
        refine a_if_gt fx 226 d_Mo_come_185 rfl (fun hc => ?_) (fun hc => ?_)
        · have h := h.1 hc
          refine a_iconst (v := 1) fx d_Mo_come_226 rfl ?_
          exact a_iret fx hlo hr h d_Mo_come_227
        · have h := h.2 hc
          refine a_lload fx 5 d_Mo_come_188 rfl ?_
          refine a_ldc2 fx w_1667 d_Mo_come_190 ?_
          refine a_lcmp fx d_Mo_come_193 ?_
          refine a_if_gt fx 226 d_Mo_come_194 rfl (fun hc => ?_) (fun hc => ?_)
          · have h := h.1 hc
            refine a_iconst (v := 1) fx d_Mo_come_226 rfl ?_
            exact a_iret fx hlo hr h d_Mo_come_227
          · have h := h.2 hc
            refine a_lload fx 4 d_Mo_come_197 rfl ?_
            refine a_lconst (v := 1) fx d_Mo_come_199 rfl ?_
            refine a_lcmp fx d_Mo_come_200 ?_
            refine a_if_lt fx 226 d_Mo_come_201 rfl (fun hc => ?_) (fun hc => ?_)
            · have h := h.1 hc
              refine a_iconst (v := 1) fx d_Mo_come_226 rfl ?_
              exact a_iret fx hlo hr h d_Mo_come_227
            · have h := h.2 hc
              refine a_lload fx 4 d_Mo_come_204 rfl ?_
              refine a_ldc2 fx w_1668 d_Mo_come_206 ?_
              refine a_lcmp fx d_Mo_come_209 ?_
              refine a_if_gt fx 226 d_Mo_come_210 rfl (fun hc => ?_) (fun hc => ?_)
              · have h := h.1 hc
                refine a_iconst (v := 1) fx d_Mo_come_226 rfl ?_
                exact a_iret fx hlo hr h d_Mo_come_227
              · have h := h.2 hc
                refine a_lload_n fx 3 d_Mo_come_213 rfl rfl ?_
                refine a_lconst (v := 1) fx d_Mo_come_214 rfl ?_
                refine a_lcmp fx d_Mo_come_215 ?_
                refine a_if_lt fx 226 d_Mo_come_216 rfl (fun hc => ?_) (fun hc => ?_)
                · have h := h.1 hc
                  refine a_iconst (v := 1) fx d_Mo_come_226 rfl ?_
                  exact a_iret fx hlo hr h d_Mo_come_227
                · have h := h.2 hc
                  refine a_lload_n fx 3 d_Mo_come_219 rfl rfl ?_
                  refine a_lload fx 4 d_Mo_come_220 rfl ?_
                  refine a_lcmp fx d_Mo_come_222 ?_
                  refine a_if_le fx 228 d_Mo_come_223 rfl (fun hc => ?_) (fun hc => ?_)
                  · have h := h.1 hc
                    refine a_aload_n fx 1 d_Mo_come_228 rfl rfl ?_
                    refine a_getI fx (T := F_Mo) (j := 38) (hk := hk0) (ht := ht0) (ht2 := by decide) (hc := rfl) (hin := u_in_Mo) (hj := by decide) (hj2 := by decide) (hf := rfl) (hT := rfl) (hw := w_1307) (hd := d_Mo_come_229) (kk := ?_)
                    refine a_if_le fx 248 d_Mo_come_232 rfl (fun hc => ?_) (fun hc => ?_)
                    · have h := h.1 hc
                      refine a_sub [1, 3, 4, 5, 0] rfl ?_
                      exact h
                    · have h := h.2 hc
                      refine a_aload_n fx 1 d_Mo_come_235 rfl rfl ?_
                      refine a_getI fx (T := F_Mo) (j := 37) (hk := hk0) (ht := ht0) (ht2 := by decide) (hc := rfl) (hin := u_in_Mo) (hj := by decide) (hj2 := by decide) (hf := rfl) (hT := rfl) (hw := w_1306) (hd := d_Mo_come_236) (kk := ?_)
                      refine a_i2l fx d_Mo_come_239 ?_
                      refine a_lload fx 4 d_Mo_come_240 rfl ?_
                      refine a_lcmp fx d_Mo_come_242 ?_
                      refine a_if_eq fx 248 d_Mo_come_243 rfl (fun hc => ?_) (fun hc => ?_)
                      · have h := h.1 hc
                        refine a_sub [1, 3, 4, 5, 0] rfl ?_
                        exact h
                      · have h := h.2 hc
                        refine a_iconst (v := 2) fx d_Mo_come_246 rfl ?_
                        exact a_iret fx hlo hr h d_Mo_come_247
                  · have h := h.2 hc
                    refine a_iconst (v := 1) fx d_Mo_come_226 rfl ?_
                    exact a_iret fx hlo hr h d_Mo_come_227)
  have h := h (by
    intro v2 v4 v6 v8 M h
    refine a_lload_n fx 1 d_Mo_come_248 rfl rfl ?_
    refine a_l2i fx d_Mo_come_249 ?_
    refine a_topi (fun x18 ex18 => ?_)
    have h := h x18 ex18
    refine a_istore (lv2 := [(10, .int x18), (0, .ref (B + a0)), (2, .long v2), (4, .long v4), (6, .long v6), (8, .long v8)]) fx d_Mo_come_250 (by decide) rfl ?_
    refine a_aload_n fx 1 d_Mo_come_252 rfl rfl ?_
    refine a_getI fx (T := F_Mo) (j := 38) (hk := hk0) (ht := ht0) (ht2 := by decide) (hc := rfl) (hin := u_in_Mo) (hj := by decide) (hj2 := by decide) (hf := rfl) (hT := rfl) (hw := w_1307) (hd := d_Mo_come_253) (kk := ?_)
    refine a_if_le fx 271 d_Mo_come_256 rfl (fun hc => ?_) (fun hc => ?_)
    · have h := h.1 hc
      refine a_sub [1, 3, 4, 5, 0] rfl ?_
      exact h
    · have h := h.2 hc
      refine a_aload_n fx 1 d_Mo_come_259 rfl rfl ?_
      refine a_getS fx (T := F_Mo) (j := 40) (hk := hk0) (ht := ht0) (ht2 := by decide) (hc := rfl) (hin := u_in_Mo) (hj := by decide) (hj2 := by decide) (hf := rfl) (n9 := 27) (hfo := rfl) (hT := rfl) (hw := w_1309) (hd := d_Mo_come_260) (kk := ?_)
      refine a_iload fx 0 d_Mo_come_263 rfl ?_
      obtain ⟨hin, h⟩ := h
      refine a_zald fx (lo_9_40 hk0 ht0).1 (lo_9_40 hk0 ht0).2 hin d_Mo_come_265 ?_
      refine a_if_eq fx 271 d_Mo_come_266 rfl (fun hc => ?_) (fun hc => ?_)
      · have h := h.1 hc
        refine a_sub [1, 3, 4, 5, 0] rfl ?_
        exact h
      · have h := h.2 hc
        refine a_iconst (v := 3) fx d_Mo_come_269 rfl ?_
        exact a_iret fx hlo hr h d_Mo_come_270)
  have h := h (by
    intro v4 v6 v8 v10 M h
    refine a_aload_n fx 0 d_Mo_come_271 rfl rfl ?_
    refine a_getI fx (T := F_Mo) (j := 59) (hk := hk0) (ht := ht0) (ht2 := by decide) (hc := rfl) (hin := u_in_Mo) (hj := by decide) (hj2 := by decide) (hf := rfl) (hT := rfl) (hw := w_1328) (hd := d_Mo_come_272) (kk := ?_)
    refine a_aload_n fx 0 d_Mo_come_275 rfl rfl ?_
    refine a_getI fx (T := F_Mo) (j := 61) (hk := hk0) (ht := ht0) (ht2 := by decide) (hc := rfl) (hin := u_in_Mo) (hj := by decide) (hj2 := by decide) (hf := rfl) (hT := rfl) (hw := w_1330) (hd := d_Mo_come_276) (kk := ?_)
    refine a_isub fx d_Mo_come_279 ?_
    refine a_i2l fx d_Mo_come_280 ?_
    refine a_lload fx 2 d_Mo_come_281 rfl ?_
    refine a_lcmp fx d_Mo_come_283 ?_
    refine a_if_eq fx 289 d_Mo_come_284 rfl (fun hc => ?_) (fun hc => ?_)
    · have h := h.1 hc
      refine a_aload_n fx 0 d_Mo_come_289 rfl rfl ?_
      refine a_getS fx (T := F_Mo) (j := 60) (hk := hk0) (ht := ht0) (ht2 := by decide) (hc := rfl) (hin := u_in_Mo) (hj := by decide) (hj2 := by decide) (hf := rfl) (n9 := 37) (hfo := rfl) (hT := rfl) (hw := w_1329) (hd := d_Mo_come_290) (kk := ?_)
      refine a_aload_n fx 0 d_Mo_come_293 rfl rfl ?_
      refine a_getI fx (T := F_Mo) (j := 61) (hk := hk0) (ht := ht0) (ht2 := by decide) (hc := rfl) (hin := u_in_Mo) (hj := by decide) (hj2 := by decide) (hf := rfl) (hT := rfl) (hw := w_1330) (hd := d_Mo_come_294) (kk := ?_)
      refine a_lload fx 2 d_Mo_come_297 rfl ?_
      refine a_l2i fx d_Mo_come_299 ?_
      refine a_calli (rest := []) (a_runS (As := [.ref (B + (a0 + 37)), .int (M.1 a0 61), .int ((v6).toInt32)]) fx  cv_Mo_sumOf w_1542 (Met_Mo_sumOf l B D aC aS (hk0 := (lo_9_60 hk0 ht0).1) (ht0 := (lo_9_60 hk0 ht0).2) h) rfl rfl (Nat.le_of_ble_eq_true rfl) rfl rfl ⟨Nat.le_of_ble_eq_true rfl, Nat.le_of_ble_eq_true rfl⟩ d_Mo_come_300 ⟨Nat.le_of_ble_eq_true rfl, Nat.le_of_ble_eq_true rfl⟩) (fun x20 M19 h => ?_)
      refine a_i2l fx d_Mo_come_303 ?_
      refine a_ldc2 fx w_1644 d_Mo_come_304 ?_
      refine a_land fx d_Mo_come_307 ?_
      refine a_lload fx 3 d_Mo_come_308 rfl ?_
      refine a_lcmp fx d_Mo_come_310 ?_
      refine a_if_eq fx 316 d_Mo_come_311 rfl (fun hc => ?_) (fun hc => ?_)
      · have h := h.1 hc
        refine a_aload_n fx 0 d_Mo_come_316 rfl rfl ?_
        refine a_iload fx 4 d_Mo_come_317 rfl ?_
        refine a_lload fx 1 d_Mo_come_319 rfl ?_
        refine a_l2i fx d_Mo_come_321 ?_
        refine a_aload_n fx 0 d_Mo_come_322 rfl rfl ?_
        refine a_getS fx (T := F_Mo) (j := 60) (hk := hk0) (ht := ht0) (ht2 := by decide) (hc := rfl) (hin := u_in_Mo) (hj := by decide) (hj2 := by decide) (hf := rfl) (n9 := 37) (hfo := rfl) (hT := rfl) (hw := w_1329) (hd := d_Mo_come_323) (kk := ?_)
        refine a_aload_n fx 0 d_Mo_come_326 rfl rfl ?_
        refine a_getI fx (T := F_Mo) (j := 61) (hk := hk0) (ht := ht0) (ht2 := by decide) (hc := rfl) (hin := u_in_Mo) (hj := by decide) (hj2 := by decide) (hf := rfl) (hT := rfl) (hw := w_1330) (hd := d_Mo_come_327) (kk := ?_)
        refine a_lload fx 2 d_Mo_come_330 rfl ?_
        refine a_l2i fx d_Mo_come_332 ?_
        refine a_callv (rest := []) (a_runV (As := [.int v10, .int ((v4).toInt32), .ref (B + (a0 + 37)), .int (M19.1 a0 61), .int ((v6).toInt32)]) fx cv_Mo_keep w_1669 (Met_Mo_keep l B D aC aS (hk0 := hk0) (ht0 := ht0) (hk3 := (lo_9_60 hk0 ht0).1) (ht3 := (lo_9_60 hk0 ht0).2) h) hk0 ht0 (by decide) rfl rfl rfl (Nat.le_of_ble_eq_true rfl) rfl rfl ⟨Nat.le_of_ble_eq_true rfl, Nat.le_of_ble_eq_true rfl⟩ d_Mo_come_333 ⟨Nat.le_of_ble_eq_true rfl, Nat.le_of_ble_eq_true rfl⟩) (fun M21 h => ?_)
        refine a_iconst (v := 0) fx d_Mo_come_336 rfl ?_
        exact a_iret fx hlo hr h d_Mo_come_337
      · have h := h.2 hc
        refine a_iconst (v := 5) fx d_Mo_come_314 rfl ?_
        exact a_iret fx hlo hr h d_Mo_come_315
    · have h := h.2 hc
      refine a_iconst (v := 4) fx d_Mo_come_287 rfl ?_
      exact a_iret fx hlo hr h d_Mo_come_288)
  refine a_aload_n fx 0 d_Mo_come_0 rfl rfl ?_
  refine a_iconst (v := 0) fx d_Mo_come_1 rfl ?_
  refine a_putI fx (T := F_Mo) (ty0 := t_Mo) (j := 61) (hk := hk0) (ht := ht0) (ht2 := by decide) (hc := rfl) (hin := u_in_Mo) (hty := t_Mo_ok) (hnm := n_Mo) (hj := by decide) (hj2 := by decide) (hf := rfl) (hT := rfl) (hfin := rfl) (hn := rfl) (hfit := rfl) (hw := w_1330) (hd := d_Mo_come_2) (kk := a_mem (fun M1 eM1 => ?_))
  have h := h M1 eM1
  refine a_aload_n fx 0 d_Mo_come_5 rfl rfl ?_
  refine a_aload_n fx 0 d_Mo_come_6 rfl rfl ?_
  refine a_getS fx (T := F_Mo) (j := 2) (hk := hk0) (ht := ht0) (ht2 := by decide) (hc := rfl) (hin := u_in_Mo) (hj := by decide) (hj2 := by decide) (hf := rfl) (n9 := 3) (hfo := rfl) (hT := rfl) (hw := w_1271) (hd := d_Mo_come_7) (kk := ?_)
  refine a_calli (rest := []) (a_runV (As := [.ref (B + (a0 + 3))]) fx cv_Mo_word w_1657 (Met_Mo_word l B D aC aS (hk0 := hk0) (ht0 := ht0) (hk1 := (lo_9_2 hk0 ht0).1) (ht1 := (lo_9_2 hk0 ht0).2) h) hk0 ht0 (by decide) rfl rfl rfl (Nat.le_of_ble_eq_true rfl) rfl rfl ⟨Nat.le_of_ble_eq_true rfl, Nat.le_of_ble_eq_true rfl⟩ d_Mo_come_10 ⟨Nat.le_of_ble_eq_true rfl, Nat.le_of_ble_eq_true rfl⟩) (fun x3 M2 h => ?_)
  refine a_istore_n (lv2 := [(1, .int x3), (0, .ref (B + a0))]) fx d_Mo_come_13 rfl (by decide) rfl ?_
  refine a_iload_n fx 0 d_Mo_come_14 rfl rfl ?_
  refine a_if_eq fx 27 d_Mo_come_15 rfl (fun hc => ?_) (fun hc => ?_)
  · have h := h.1 hc
    refine a_ldc2 fx w_1666 d_Mo_come_27 ?_
    refine a_sub [1, 0] rfl ?_
    exact h
  · have h := h.2 hc
    refine a_aload_n fx 1 d_Mo_come_18 rfl rfl ?_
    refine a_bipush (v := 32) fx d_Mo_come_19 rfl ?_
    refine a_calll (rest := []) (a_runV (As := [.int 32]) fx cv_Mo_decimal w_1661 (Met_Mo_decimal l B D aC aS (hk0 := hk0) (ht0 := ht0) h) hk0 ht0 (by decide) rfl rfl rfl (Nat.le_of_ble_eq_true rfl) rfl rfl ⟨Nat.le_of_ble_eq_true rfl, Nat.le_of_ble_eq_true rfl⟩ d_Mo_come_21 ⟨Nat.le_of_ble_eq_true rfl, Nat.le_of_ble_eq_true rfl⟩) (fun y5 M4 h => ?_)
    refine a_goto fx 30 d_Mo_come_24 rfl ?_
    refine a_sub [1, 0] rfl ?_
    exact h
set_option maxRecDepth 100000 in
set_option maxHeartbeats 4000000 in
theorem Met_Mo_emptyBox (l : Launch) (B : Nat) (D : va_G) (aC : Nat → ClassId) (aS : Nat → Nat) {a0 : Nat} {M : zM} {post : zM → Prop} (hk0 : a0 < N0) (ht0 : tg a0 = 9) (h : Wp_Mo_emptyBox a0 M post) : Met l y_Mo_emptyBox (wo y_Mo_emptyBox b_Mo_emptyBox 2 none) { frames := 0, cells := 0, slots := 0, locals := 0 } (va_Pc [.ref (B + a0)] (zWl B D aC aS M)) (zQv B D aC post) 0 0 (zAb B) := by
  refine z_met (own := "MailChainModel") (lv0 := [(0, .ref (B + a0))]) (by decide) rfl (Nat.le_of_ble_eq_true rfl) rfl ?_
  intro p e s m below meth c fx hr hlo
  delta Wp_Mo_emptyBox at h
  have h := h (fun v1 M => zAt p l e { frames := 0, cells := 0, slots := 0, locals := 0 } s m ([.ref (B + a0)] : List Value).toArray below meth c 0 0 (MQ below (zQv B D aC post) ([.ref (B + a0)] : List Value).toArray s 0 0 (zAb B)) B D aC 2 17 [(0, .ref (B + a0)), (1, .int v1)] [] M)
  have h := h (by
    intro v1 M h
    refine a_iload_n fx 1 d_Mo_emptyBox_17 rfl rfl ?_
    refine a_sipush (v := 1000) fx d_Mo_emptyBox_18 rfl ?_
    refine a_icmp_ge fx 37 d_Mo_emptyBox_21 rfl (fun hc => ?_) (fun hc => ?_)
    · have h := h.1 hc
      exact a_vret fx hlo hr h d_Mo_emptyBox_37
    · have h := h.2 hc
      refine a_aload_n fx 0 d_Mo_emptyBox_24 rfl rfl ?_
      refine a_getS fx (T := F_Mo) (j := 40) (hk := hk0) (ht := ht0) (ht2 := by decide) (hc := rfl) (hin := u_in_Mo) (hj := by decide) (hj2 := by decide) (hf := rfl) (n9 := 27) (hfo := rfl) (hT := rfl) (hw := w_1309) (hd := d_Mo_emptyBox_25) (kk := ?_)
      refine a_iload_n fx 1 d_Mo_emptyBox_28 rfl rfl ?_
      refine a_iconst (v := 0) fx d_Mo_emptyBox_29 rfl ?_
      obtain ⟨hin, h⟩ := h
      refine a_zast fx (lo_9_40 hk0 ht0).1 (lo_9_40 hk0 ht0).2 hin d_Mo_emptyBox_30 (a_mem (fun M4 eM4 => ?_))
      have h := h M4 eM4
      obtain ⟨x5, ex5⟩ : ∃ z : Int32, z = v1 + 1 := ⟨_, rfl⟩
      have h := h x5 ex5
      refine a_iinc (lv2 := [(1, .int x5), (0, .ref (B + a0))]) fx 1 d_Mo_emptyBox_31 rfl ex5.symm (by decide) rfl ?_
      refine a_goto fx 17 d_Mo_emptyBox_34 rfl ?_
      refine a_sub [1, 0] rfl ?_
      exact h)
  refine a_aload_n fx 0 d_Mo_emptyBox_0 rfl rfl ?_
  refine a_iconst (v := 0) fx d_Mo_emptyBox_1 rfl ?_
  refine a_putI fx (T := F_Mo) (ty0 := t_Mo) (j := 38) (hk := hk0) (ht := ht0) (ht2 := by decide) (hc := rfl) (hin := u_in_Mo) (hty := t_Mo_ok) (hnm := n_Mo) (hj := by decide) (hj2 := by decide) (hf := rfl) (hT := rfl) (hfin := rfl) (hn := rfl) (hfit := rfl) (hw := w_1307) (hd := d_Mo_emptyBox_2) (kk := a_mem (fun M1 eM1 => ?_))
  have h := h M1 eM1
  refine a_aload_n fx 0 d_Mo_emptyBox_5 rfl rfl ?_
  refine a_lconst (v := 0) fx d_Mo_emptyBox_6 rfl ?_
  refine a_putL fx (T := F_Mo) (ty0 := t_Mo) (j := 39) (hk := hk0) (ht := ht0) (ht2 := by decide) (hc := rfl) (hin := u_in_Mo) (hty := t_Mo_ok) (hnm := n_Mo) (hj := by decide) (hj2 := by decide) (hf := rfl) (hT := rfl) (hfin := rfl) (hn := rfl) (hfit := rfl) (hw := w_1308) (hd := d_Mo_emptyBox_7) (kk := a_mem (fun M2 eM2 => ?_))
  have h := h M2 eM2
  refine a_aload_n fx 0 d_Mo_emptyBox_10 rfl rfl ?_
  refine a_iconst (v := 0) fx d_Mo_emptyBox_11 rfl ?_
  refine a_putI fx (T := F_Mo) (ty0 := t_Mo) (j := 43) (hk := hk0) (ht := ht0) (ht2 := by decide) (hc := rfl) (hin := u_in_Mo) (hty := t_Mo_ok) (hnm := n_Mo) (hj := by decide) (hj2 := by decide) (hf := rfl) (hT := rfl) (hfin := rfl) (hn := rfl) (hfit := rfl) (hw := w_1312) (hd := d_Mo_emptyBox_12) (kk := a_mem (fun M3 eM3 => ?_))
  have h := h M3 eM3
  refine a_iconst (v := 0) fx d_Mo_emptyBox_15 rfl ?_
  refine a_istore_n (lv2 := [(1, .int 0), (0, .ref (B + a0))]) fx d_Mo_emptyBox_16 rfl (by decide) rfl ?_
  refine a_sub [1, 0] rfl ?_
  exact h
set_option maxRecDepth 100000 in
set_option maxHeartbeats 4000000 in
theorem Met_Mo_receive (l : Launch) (B : Nat) (D : va_G) (aC : Nat → ClassId) (aS : Nat → Nat) {a0 : Nat} {M : zM} {post : Int32 → zM → Prop} (hk0 : a0 < N0) (ht0 : tg a0 = 9) (h : Wp_Mo_receive a0 M post) : Met l y_Mo_receive (wo y_Mo_receive b_Mo_receive 2 (some FieldType.int)) { frames := 3, cells := 0, slots := 0, locals := 77 } (va_Pc [.ref (B + a0)] (zWl B D aC aS M)) (zQi B D aC post) 0 0 (zAb B) := by
  refine z_met (own := "MailChainModel") (lv0 := [(0, .ref (B + a0))]) (by decide) rfl (Nat.le_of_ble_eq_true rfl) rfl ?_
  intro p e s m below meth c fx hr hlo
  delta Wp_Mo_receive at h
  have h := h (fun v1 M => zAt p l e { frames := 3, cells := 0, slots := 0, locals := 77 } s m ([.ref (B + a0)] : List Value).toArray below meth c 0 0 (MQ below (zQi B D aC post) ([.ref (B + a0)] : List Value).toArray s 0 0 (zAb B)) B D aC 2 15 [(0, .ref (B + a0)), (1, .int v1)] [] M)
  have h := h (by
    intro v1 M h
    refine a_iload_n fx 1 d_Mo_receive_15 rfl rfl ?_
    refine a_aload_n fx 0 d_Mo_receive_16 rfl rfl ?_
    refine a_getI fx (T := F_Mo) (j := 7) (hk := hk0) (ht := ht0) (ht2 := by decide) (hc := rfl) (hin := u_in_Mo) (hj := by decide) (hj2 := by decide) (hf := rfl) (hT := rfl) (hw := w_1276) (hd := d_Mo_receive_17) (kk := ?_)
    refine a_icmp_ge fx 41 d_Mo_receive_20 rfl (fun hc => ?_) (fun hc => ?_)
    · have h := h.1 hc
      refine a_aload_n fx 0 d_Mo_receive_41 rfl rfl ?_
      refine a_iconst (v := 0) fx d_Mo_receive_42 rfl ?_
      refine a_putI fx (T := F_Mo) (ty0 := t_Mo) (j := 7) (hk := hk0) (ht := ht0) (ht2 := by decide) (hc := rfl) (hin := u_in_Mo) (hty := t_Mo_ok) (hnm := n_Mo) (hj := by decide) (hj2 := by decide) (hf := rfl) (hT := rfl) (hfin := rfl) (hn := rfl) (hfit := rfl) (hw := w_1276) (hd := d_Mo_receive_43) (kk := a_mem (fun M3 eM3 => ?_))
      have h := h M3 eM3
      refine a_aload_n fx 0 d_Mo_receive_46 rfl rfl ?_
      refine a_calli (rest := []) (a_runV (As := []) fx cv_Mo_come w_1653 (Met_Mo_come l B D aC aS (hk0 := hk0) (ht0 := ht0) h) hk0 ht0 (by decide) rfl rfl rfl (Nat.le_of_ble_eq_true rfl) rfl rfl ⟨Nat.le_of_ble_eq_true rfl, Nat.le_of_ble_eq_true rfl⟩ d_Mo_receive_47 ⟨Nat.le_of_ble_eq_true rfl, Nat.le_of_ble_eq_true rfl⟩) (fun x5 M4 h => ?_)
      exact a_iret fx hlo hr h d_Mo_receive_50
    · have h := h.2 hc
      refine a_aload_n fx 0 d_Mo_receive_23 rfl rfl ?_
      refine a_getS fx (T := F_Mo) (j := 60) (hk := hk0) (ht := ht0) (ht2 := by decide) (hc := rfl) (hin := u_in_Mo) (hj := by decide) (hj2 := by decide) (hf := rfl) (n9 := 37) (hfo := rfl) (hT := rfl) (hw := w_1329) (hd := d_Mo_receive_24) (kk := ?_)
      refine a_iload_n fx 1 d_Mo_receive_27 rfl rfl ?_
      refine a_aload_n fx 0 d_Mo_receive_28 rfl rfl ?_
      refine a_getS fx (T := F_Mo) (j := 8) (hk := hk0) (ht := ht0) (ht2 := by decide) (hc := rfl) (hin := u_in_Mo) (hj := by decide) (hj2 := by decide) (hf := rfl) (n9 := 7) (hfo := rfl) (hT := rfl) (hw := w_1277) (hd := d_Mo_receive_29) (kk := ?_)
      refine a_iload_n fx 1 d_Mo_receive_32 rfl rfl ?_
      obtain ⟨hin, h⟩ := h
      refine a_bald fx (lo_9_8 hk0 ht0).1 (lo_9_8 hk0 ht0).2 hin d_Mo_receive_33 ?_
      obtain ⟨hin, h⟩ := h
      refine a_bast fx (lo_9_60 hk0 ht0).1 (lo_9_60 hk0 ht0).2 hin d_Mo_receive_34 (a_mem (fun M6 eM6 => ?_))
      have h := h M6 eM6
      obtain ⟨x7, ex7⟩ : ∃ z : Int32, z = v1 + 1 := ⟨_, rfl⟩
      have h := h x7 ex7
      refine a_iinc (lv2 := [(1, .int x7), (0, .ref (B + a0))]) fx 1 d_Mo_receive_35 rfl ex7.symm (by decide) rfl ?_
      refine a_goto fx 15 d_Mo_receive_38 rfl ?_
      refine a_sub [1, 0] rfl ?_
      exact h)
  refine a_aload_n fx 0 d_Mo_receive_0 rfl rfl ?_
  refine a_iconst (v := 0) fx d_Mo_receive_1 rfl ?_
  refine a_putI fx (T := F_Mo) (ty0 := t_Mo) (j := 6) (hk := hk0) (ht := ht0) (ht2 := by decide) (hc := rfl) (hin := u_in_Mo) (hty := t_Mo_ok) (hnm := n_Mo) (hj := by decide) (hj2 := by decide) (hf := rfl) (hT := rfl) (hfin := rfl) (hn := rfl) (hfit := rfl) (hw := w_1275) (hd := d_Mo_receive_2) (kk := a_mem (fun M1 eM1 => ?_))
  have h := h M1 eM1
  refine a_aload_n fx 0 d_Mo_receive_5 rfl rfl ?_
  refine a_aload_n fx 0 d_Mo_receive_6 rfl rfl ?_
  refine a_getI fx (T := F_Mo) (j := 7) (hk := hk0) (ht := ht0) (ht2 := by decide) (hc := rfl) (hin := u_in_Mo) (hj := by decide) (hj2 := by decide) (hf := rfl) (hT := rfl) (hw := w_1276) (hd := d_Mo_receive_7) (kk := ?_)
  refine a_putI fx (T := F_Mo) (ty0 := t_Mo) (j := 59) (hk := hk0) (ht := ht0) (ht2 := by decide) (hc := rfl) (hin := u_in_Mo) (hty := t_Mo_ok) (hnm := n_Mo) (hj := by decide) (hj2 := by decide) (hf := rfl) (hT := rfl) (hfin := rfl) (hn := rfl) (hfit := rfl) (hw := w_1328) (hd := d_Mo_receive_10) (kk := a_mem (fun M2 eM2 => ?_))
  have h := h M2 eM2
  refine a_iconst (v := 0) fx d_Mo_receive_13 rfl ?_
  refine a_istore_n (lv2 := [(1, .int 0), (0, .ref (B + a0))]) fx d_Mo_receive_14 rfl (by decide) rfl ?_
  refine a_sub [1, 0] rfl ?_
  exact h
set_option maxRecDepth 100000 in
set_option maxHeartbeats 4000000 in
theorem Met_Mo_pass (l : Launch) (B : Nat) (D : va_G) (aC : Nat → ClassId) (aS : Nat → Nat) {a0 : Nat} {i1 : Int32} {i2 : Int32} {i3 : Int32} {M : zM} {post : Int32 → zM → Prop} (hk0 : a0 < N0) (ht0 : tg a0 = 9) (h : Wp_Mo_pass a0 i1 i2 i3 M post) : Met l y_Mo_pass (wo y_Mo_pass b_Mo_pass 4 (some FieldType.int)) { frames := 3, cells := 0, slots := 0, locals := 77 } (va_Pc [.ref (B + a0), .int i1, .int i2, .int i3] (zWl B D aC aS M)) (zQi B D aC post) 0 0 (zAb B) := by
  refine z_met (own := "MailChainModel") (lv0 := [(0, .ref (B + a0)), (1, .int i1), (2, .int i2), (3, .int i3)]) (by decide) rfl (Nat.le_of_ble_eq_true rfl) rfl ?_
  intro p e s m below meth c fx hr hlo
  delta Wp_Mo_pass at h
  have h := h (fun w0 w1 M => zAt p l e { frames := 3, cells := 0, slots := 0, locals := 77 } s m ([.ref (B + a0), .int i1, .int i2, .int i3] : List Value).toArray below meth c 0 0 (MQ below (zQi B D aC post) ([.ref (B + a0), .int i1, .int i2, .int i3] : List Value).toArray s 0 0 (zAb B)) B D aC 4 19 [(0, .ref (B + a0)), (1, .int i1), (2, .int i2), (3, .int i3)] [.int w0, .ref (B + w1)] M)
  have h := h (fun w0 w1 M => zAt p l e { frames := 3, cells := 0, slots := 0, locals := 77 } s m ([.ref (B + a0), .int i1, .int i2, .int i3] : List Value).toArray below meth c 0 0 (MQ below (zQi B D aC post) ([.ref (B + a0), .int i1, .int i2, .int i3] : List Value).toArray s 0 0 (zAb B)) B D aC 4 69 [(0, .ref (B + a0)), (1, .int i1), (2, .int i2), (3, .int i3)] [.int w0, .ref (B + w1)] M)
  have h := h (by
    intro w0 w1 M h
    obtain ⟨hk_w1, ht_w1, h⟩ := h
    refine a_putI fx (T := F_Mo) (ty0 := t_Mo) (j := 6) (hk := hk_w1) (ht := ht_w1) (ht2 := by decide) (hc := rfl) (hin := u_in_Mo) (hty := t_Mo_ok) (hnm := n_Mo) (hj := by decide) (hj2 := by decide) (hf := rfl) (hT := rfl) (hfin := rfl) (hn := rfl) (hfit := rfl) (hw := w_1275) (hd := d_Mo_pass_19) (kk := a_mem (fun M1 eM1 => ?_))
    have h := h M1 eM1
    refine a_aload_n fx 0 d_Mo_pass_22 rfl rfl ?_
    refine a_getI fx (T := F_Mo) (j := 6) (hk := hk0) (ht := ht0) (ht2 := by decide) (hc := rfl) (hin := u_in_Mo) (hj := by decide) (hj2 := by decide) (hf := rfl) (hT := rfl) (hw := w_1275) (hd := d_Mo_pass_23) (kk := ?_)
    refine a_if_le fx 31 d_Mo_pass_26 rfl (fun hc => ?_) (fun hc => ?_)
    · have h := h.1 hc
      refine a_aload_n fx 0 d_Mo_pass_31 rfl rfl ?_
      refine a_iload_n fx 1 d_Mo_pass_32 rfl rfl ?_
      refine a_callv (rest := []) (a_runV (As := [.int i1]) fx cv_Mo_writePart w_1627 (Met_Mo_writePart l B D aC aS (hk0 := hk0) (ht0 := ht0) h) hk0 ht0 (by decide) rfl rfl rfl (Nat.le_of_ble_eq_true rfl) rfl rfl ⟨Nat.le_of_ble_eq_true rfl, Nat.le_of_ble_eq_true rfl⟩ d_Mo_pass_33 ⟨Nat.le_of_ble_eq_true rfl, Nat.le_of_ble_eq_true rfl⟩) (fun M2 h => ?_)
      refine a_aload_n fx 0 d_Mo_pass_36 rfl rfl ?_
      refine a_iload_n fx 2 d_Mo_pass_37 rfl rfl ?_
      refine a_if_lt fx 49 d_Mo_pass_38 rfl (fun hc => ?_) (fun hc => ?_)
      · have h := h.1 hc
        refine a_iconst (v := 1) fx d_Mo_pass_49 rfl ?_
        refine a_goto fx 69 d_Mo_pass_50 rfl ?_
        refine a_sub [0, 1, 2, 3] rfl ?_
        exact h
      · have h := h.2 hc
        refine a_iload_n fx 2 d_Mo_pass_41 rfl rfl ?_
        refine a_aload_n fx 0 d_Mo_pass_42 rfl rfl ?_
        refine a_getI fx (T := F_Mo) (j := 59) (hk := hk0) (ht := ht0) (ht2 := by decide) (hc := rfl) (hin := u_in_Mo) (hj := by decide) (hj2 := by decide) (hf := rfl) (hT := rfl) (hw := w_1328) (hd := d_Mo_pass_43) (kk := ?_)
        refine a_icmp_lt fx 53 d_Mo_pass_46 rfl (fun hc => ?_) (fun hc => ?_)
        · have h := h.1 hc
          refine a_iload_n fx 3 d_Mo_pass_53 rfl rfl ?_
          refine a_if_lt fx 64 d_Mo_pass_54 rfl (fun hc => ?_) (fun hc => ?_)
          · have h := h.1 hc
            refine a_iconst (v := 2) fx d_Mo_pass_64 rfl ?_
            refine a_goto fx 69 d_Mo_pass_65 rfl ?_
            refine a_sub [0, 1, 2, 3] rfl ?_
            exact h
          · have h := h.2 hc
            refine a_iload_n fx 3 d_Mo_pass_57 rfl rfl ?_
            refine a_sipush (v := 255) fx d_Mo_pass_58 rfl ?_
            refine a_icmp_le fx 68 d_Mo_pass_61 rfl (fun hc => ?_) (fun hc => ?_)
            · have h := h.1 hc
              refine a_iconst (v := 0) fx d_Mo_pass_68 rfl ?_
              refine a_sub [0, 1, 2, 3] rfl ?_
              exact h
            · have h := h.2 hc
              refine a_iconst (v := 2) fx d_Mo_pass_64 rfl ?_
              refine a_goto fx 69 d_Mo_pass_65 rfl ?_
              refine a_sub [0, 1, 2, 3] rfl ?_
              exact h
        · have h := h.2 hc
          refine a_iconst (v := 1) fx d_Mo_pass_49 rfl ?_
          refine a_goto fx 69 d_Mo_pass_50 rfl ?_
          refine a_sub [0, 1, 2, 3] rfl ?_
          exact h
    · have h := h.2 hc
      refine a_iconst (v := 0) fx d_Mo_pass_29 rfl ?_
      exact a_iret fx hlo hr h d_Mo_pass_30)
  have h := h (by
    intro w0 w1 M h
    obtain ⟨hk_w1, ht_w1, h⟩ := h
    refine a_putI fx (T := F_Mo) (ty0 := t_Mo) (j := 6) (hk := hk_w1) (ht := ht_w1) (ht2 := by decide) (hc := rfl) (hin := u_in_Mo) (hty := t_Mo_ok) (hnm := n_Mo) (hj := by decide) (hj2 := by decide) (hf := rfl) (hT := rfl) (hfin := rfl) (hn := rfl) (hfit := rfl) (hw := w_1275) (hd := d_Mo_pass_69) (kk := a_mem (fun M3 eM3 => ?_))
    have h := h M3 eM3
    refine a_aload_n fx 0 d_Mo_pass_72 rfl rfl ?_
    refine a_getI fx (T := F_Mo) (j := 6) (hk := hk0) (ht := ht0) (ht2 := by decide) (hc := rfl) (hin := u_in_Mo) (hj := by decide) (hj2 := by decide) (hf := rfl) (hT := rfl) (hw := w_1275) (hd := d_Mo_pass_73) (kk := ?_)
    refine a_if_le fx 81 d_Mo_pass_76 rfl (fun hc => ?_) (fun hc => ?_)
    · have h := h.1 hc
      refine a_aload_n fx 0 d_Mo_pass_81 rfl rfl ?_
      refine a_getS fx (T := F_Mo) (j := 60) (hk := hk0) (ht := ht0) (ht2 := by decide) (hc := rfl) (hin := u_in_Mo) (hj := by decide) (hj2 := by decide) (hf := rfl) (n9 := 37) (hfo := rfl) (hT := rfl) (hw := w_1329) (hd := d_Mo_pass_82) (kk := ?_)
      refine a_iload_n fx 2 d_Mo_pass_85 rfl rfl ?_
      refine a_aload_n fx 0 d_Mo_pass_86 rfl rfl ?_
      refine a_getS fx (T := F_Mo) (j := 60) (hk := hk0) (ht := ht0) (ht2 := by decide) (hc := rfl) (hin := u_in_Mo) (hj := by decide) (hj2 := by decide) (hf := rfl) (n9 := 37) (hfo := rfl) (hT := rfl) (hw := w_1329) (hd := d_Mo_pass_87) (kk := ?_)
      refine a_iload_n fx 2 d_Mo_pass_90 rfl rfl ?_
      obtain ⟨hin, h⟩ := h
      refine a_bald fx (lo_9_60 hk0 ht0).1 (lo_9_60 hk0 ht0).2 hin d_Mo_pass_91 ?_
      refine a_iload_n fx 3 d_Mo_pass_92 rfl rfl ?_
      refine a_ixor fx d_Mo_pass_93 ?_
      refine a_i2b fx d_Mo_pass_94 ?_
      obtain ⟨hin, h⟩ := h
      refine a_bast fx (lo_9_60 hk0 ht0).1 (lo_9_60 hk0 ht0).2 hin d_Mo_pass_95 (a_mem (fun M4 eM4 => ?_))
      have h := h M4 eM4
      refine a_aload_n fx 0 d_Mo_pass_96 rfl rfl ?_
      refine a_calli (rest := []) (a_runV (As := []) fx cv_Mo_come w_1653 (Met_Mo_come l B D aC aS (hk0 := hk0) (ht0 := ht0) h) hk0 ht0 (by decide) rfl rfl rfl (Nat.le_of_ble_eq_true rfl) rfl rfl ⟨Nat.le_of_ble_eq_true rfl, Nat.le_of_ble_eq_true rfl⟩ d_Mo_pass_97 ⟨Nat.le_of_ble_eq_true rfl, Nat.le_of_ble_eq_true rfl⟩) (fun x6 M5 h => ?_)
      exact a_iret fx hlo hr h d_Mo_pass_100
    · have h := h.2 hc
      refine a_iconst (v := 0) fx d_Mo_pass_79 rfl ?_
      exact a_iret fx hlo hr h d_Mo_pass_80)
  refine a_aload_n fx 0 d_Mo_pass_0 rfl rfl ?_
  refine a_iload_n fx 1 d_Mo_pass_1 rfl rfl ?_
  refine a_iconst (v := 1) fx d_Mo_pass_2 rfl ?_
  refine a_icmp_lt fx 14 d_Mo_pass_3 rfl (fun hc => ?_) (fun hc => ?_)
  · have h := h.1 hc
    refine a_iconst (v := 1) fx d_Mo_pass_14 rfl ?_
    refine a_goto fx 19 d_Mo_pass_15 rfl ?_
    refine a_sub [0, 1, 2, 3] rfl ?_
    exact h
  · have h := h.2 hc
    refine a_iload_n fx 1 d_Mo_pass_6 rfl rfl ?_
    refine a_aload_n fx 0 d_Mo_pass_7 rfl rfl ?_
    refine a_getI fx (T := F_Mo) (j := 31) (hk := hk0) (ht := ht0) (ht2 := by decide) (hc := rfl) (hin := u_in_Mo) (hj := by decide) (hj2 := by decide) (hf := rfl) (hT := rfl) (hw := w_1300) (hd := d_Mo_pass_8) (kk := ?_)
    refine a_icmp_le fx 18 d_Mo_pass_11 rfl (fun hc => ?_) (fun hc => ?_)
    · have h := h.1 hc
      refine a_iconst (v := 0) fx d_Mo_pass_18 rfl ?_
      refine a_sub [0, 1, 2, 3] rfl ?_
      exact h
    · have h := h.2 hc
      refine a_iconst (v := 1) fx d_Mo_pass_14 rfl ?_
      refine a_goto fx 19 d_Mo_pass_15 rfl ?_
      refine a_sub [0, 1, 2, 3] rfl ?_
      exact h
set_option maxRecDepth 100000 in
set_option maxHeartbeats 4000000 in
theorem Met_Mo_forge (l : Launch) (B : Nat) (D : va_G) (aC : Nat → ClassId) (aS : Nat → Nat) {a0 : Nat} {i1 : Int32} {i2 : Int32} {M : zM} {post : zM → Prop} (hk0 : a0 < N0) (ht0 : tg a0 = 9) (h : Wp_Mo_forge a0 i1 i2 M post) : Met l y_Mo_forge (wo y_Mo_forge b_Mo_forge 3 none) { frames := 4, cells := 0, slots := 0, locals := 91 } (va_Pc [.ref (B + a0), .int i1, .int i2] (zWl B D aC aS M)) (zQv B D aC post) 0 0 (zAb B) := by
  refine z_met (own := "MailChainModel") (lv0 := [(0, .ref (B + a0)), (1, .int i1), (2, .int i2)]) (by decide) rfl (Nat.le_of_ble_eq_true rfl) rfl ?_
  intro p e s m below meth c fx hr hlo
  delta Wp_Mo_forge at h
  have h := h (fun w0 w1 M => zAt p l e { frames := 4, cells := 0, slots := 0, locals := 91 } s m ([.ref (B + a0), .int i1, .int i2] : List Value).toArray below meth c 0 0 (MQ below (zQv B D aC post) ([.ref (B + a0), .int i1, .int i2] : List Value).toArray s 0 0 (zAb B)) B D aC 3 31 [(0, .ref (B + a0)), (1, .int i1), (2, .int i2)] [.int w0, .ref (B + w1)] M)
  have h := h (by
    intro w0 w1 M h
    obtain ⟨hk_w1, ht_w1, h⟩ := h
    refine a_putI fx (T := F_Mo) (ty0 := t_Mo) (j := 6) (hk := hk_w1) (ht := ht_w1) (ht2 := by decide) (hc := rfl) (hin := u_in_Mo) (hty := t_Mo_ok) (hnm := n_Mo) (hj := by decide) (hj2 := by decide) (hf := rfl) (hT := rfl) (hfin := rfl) (hn := rfl) (hfit := rfl) (hw := w_1275) (hd := d_Mo_forge_31) (kk := a_mem (fun M1 eM1 => ?_))
    have h := h M1 eM1
    refine a_aload_n fx 0 d_Mo_forge_34 rfl rfl ?_
    refine a_getI fx (T := F_Mo) (j := 6) (hk := hk0) (ht := ht0) (ht2 := by decide) (hc := rfl) (hin := u_in_Mo) (hj := by decide) (hj2 := by decide) (hf := rfl) (hT := rfl) (hw := w_1275) (hd := d_Mo_forge_35) (kk := ?_)
    refine a_if_ne fx 143 d_Mo_forge_38 rfl (fun hc => ?_) (fun hc => ?_)
    · have h := h.1 hc
      refine a_aload_n fx 0 d_Mo_forge_143 rfl rfl ?_
      refine a_iconst (v := 0) fx d_Mo_forge_144 rfl ?_
      refine a_putI fx (T := F_Mo) (ty0 := t_Mo) (j := 7) (hk := hk0) (ht := ht0) (ht2 := by decide) (hc := rfl) (hin := u_in_Mo) (hty := t_Mo_ok) (hnm := n_Mo) (hj := by decide) (hj2 := by decide) (hf := rfl) (hT := rfl) (hfin := rfl) (hn := rfl) (hfit := rfl) (hw := w_1276) (hd := d_Mo_forge_145) (kk := a_mem (fun M2 eM2 => ?_))
      have h := h M2 eM2
      exact a_vret fx hlo hr h d_Mo_forge_148
    · have h := h.2 hc
      refine a_aload_n fx 0 d_Mo_forge_41 rfl rfl ?_
      refine a_callv (rest := []) (a_runV (As := []) fx cv_Mo_emptyBox w_1681 (Met_Mo_emptyBox l B D aC aS (hk0 := hk0) (ht0 := ht0) h) hk0 ht0 (by decide) rfl rfl rfl (Nat.le_of_ble_eq_true rfl) rfl rfl ⟨Nat.le_of_ble_eq_true rfl, Nat.le_of_ble_eq_true rfl⟩ d_Mo_forge_42 ⟨Nat.le_of_ble_eq_true rfl, Nat.le_of_ble_eq_true rfl⟩) (fun M3 h => ?_)
      refine a_iload_n fx 1 d_Mo_forge_45 rfl rfl ?_
      refine a_iconst (v := 2) fx d_Mo_forge_46 rfl ?_
      refine a_icmp_ne fx 68 d_Mo_forge_47 rfl (fun hc => ?_) (fun hc => ?_)
      · have h := h.1 hc
        refine a_iload_n fx 1 d_Mo_forge_68 rfl rfl ?_
        refine a_iconst (v := 1) fx d_Mo_forge_69 rfl ?_
        refine a_icmp_ne fx 103 d_Mo_forge_70 rfl (fun hc => ?_) (fun hc => ?_)
        · have h := h.1 hc
          refine a_aload_n fx 0 d_Mo_forge_103 rfl rfl ?_
          refine a_aload_n fx 0 d_Mo_forge_104 rfl rfl ?_
          refine a_getS fx (T := F_Mo) (j := 8) (hk := hk0) (ht := ht0) (ht2 := by decide) (hc := rfl) (hin := u_in_Mo) (hj := by decide) (hj2 := by decide) (hf := rfl) (n9 := 7) (hfo := rfl) (hT := rfl) (hw := w_1277) (hd := d_Mo_forge_105) (kk := ?_)
          refine a_aload_n fx 0 d_Mo_forge_108 rfl rfl ?_
          refine a_getI fx (T := F_Mo) (j := 7) (hk := hk0) (ht := ht0) (ht2 := by decide) (hc := rfl) (hin := u_in_Mo) (hj := by decide) (hj2 := by decide) (hf := rfl) (hT := rfl) (hw := w_1276) (hd := d_Mo_forge_109) (kk := ?_)
          refine a_iload_n fx 2 d_Mo_forge_112 rfl rfl ?_
          refine a_callv (rest := []) (a_runV (As := [.ref (B + (a0 + 7)), .int (M3.1 a0 7), .int i2]) fx cv_Mo_compressRow w_1586 (Met_Mo_compressRow l B D aC aS (hk0 := hk0) (ht0 := ht0) (hk1 := (lo_9_8 hk0 ht0).1) (ht1 := (lo_9_8 hk0 ht0).2) h) hk0 ht0 (by decide) rfl rfl rfl (Nat.le_of_ble_eq_true rfl) rfl rfl ⟨Nat.le_of_ble_eq_true rfl, Nat.le_of_ble_eq_true rfl⟩ d_Mo_forge_113 ⟨Nat.le_of_ble_eq_true rfl, Nat.le_of_ble_eq_true rfl⟩) (fun M4 h => ?_)
          refine a_aload_n fx 0 d_Mo_forge_116 rfl rfl ?_
          refine a_aload_n fx 0 d_Mo_forge_117 rfl rfl ?_
          refine a_getS fx (T := F_Mo) (j := 28) (hk := hk0) (ht := ht0) (ht2 := by decide) (hc := rfl) (hin := u_in_Mo) (hj := by decide) (hj2 := by decide) (hf := rfl) (n9 := 23) (hfo := rfl) (hT := rfl) (hw := w_1297) (hd := d_Mo_forge_118) (kk := ?_)
          refine a_aload_n fx 0 d_Mo_forge_121 rfl rfl ?_
          refine a_getI fx (T := F_Mo) (j := 27) (hk := hk0) (ht := ht0) (ht2 := by decide) (hc := rfl) (hin := u_in_Mo) (hj := by decide) (hj2 := by decide) (hf := rfl) (hT := rfl) (hw := w_1296) (hd := d_Mo_forge_122) (kk := ?_)
          refine a_callv (rest := []) (a_runV (As := [.ref (B + (a0 + 23)), .int (M4.1 a0 27)]) fx cv_Mo_spellRow w_1611 (Met_Mo_spellRow l B D aC aS (hk0 := hk0) (ht0 := ht0) (hk1 := (lo_9_28 hk0 ht0).1) (ht1 := (lo_9_28 hk0 ht0).2) h) hk0 ht0 (by decide) rfl rfl rfl (Nat.le_of_ble_eq_true rfl) rfl rfl ⟨Nat.le_of_ble_eq_true rfl, Nat.le_of_ble_eq_true rfl⟩ d_Mo_forge_125 ⟨Nat.le_of_ble_eq_true rfl, Nat.le_of_ble_eq_true rfl⟩) (fun M5 h => ?_)
          refine a_aload_n fx 0 d_Mo_forge_128 rfl rfl ?_
          refine a_iconst (v := 1) fx d_Mo_forge_129 rfl ?_
          refine a_iconst (v := 1) fx d_Mo_forge_130 rfl ?_
          refine a_aload_n fx 0 d_Mo_forge_131 rfl rfl ?_
          refine a_getS fx (T := F_Mo) (j := 30) (hk := hk0) (ht := ht0) (ht2 := by decide) (hc := rfl) (hin := u_in_Mo) (hj := by decide) (hj2 := by decide) (hf := rfl) (n9 := 24) (hfo := rfl) (hT := rfl) (hw := w_1299) (hd := d_Mo_forge_132) (kk := ?_)
          refine a_iconst (v := 0) fx d_Mo_forge_135 rfl ?_
          refine a_aload_n fx 0 d_Mo_forge_136 rfl rfl ?_
          refine a_getI fx (T := F_Mo) (j := 29) (hk := hk0) (ht := ht0) (ht2 := by decide) (hc := rfl) (hin := u_in_Mo) (hj := by decide) (hj2 := by decide) (hf := rfl) (hT := rfl) (hw := w_1298) (hd := d_Mo_forge_137) (kk := ?_)
          refine a_callv (rest := []) (a_runV (As := [.int 1, .int 1, .ref (B + (a0 + 24)), .int 0, .int (M5.1 a0 29)]) fx cv_Mo_keep w_1669 (Met_Mo_keep l B D aC aS (hk0 := hk0) (ht0 := ht0) (hk3 := (lo_9_30 hk0 ht0).1) (ht3 := (lo_9_30 hk0 ht0).2) h) hk0 ht0 (by decide) rfl rfl rfl (Nat.le_of_ble_eq_true rfl) rfl rfl ⟨Nat.le_of_ble_eq_true rfl, Nat.le_of_ble_eq_true rfl⟩ d_Mo_forge_140 ⟨Nat.le_of_ble_eq_true rfl, Nat.le_of_ble_eq_true rfl⟩) (fun M6 h => ?_)
          refine a_aload_n fx 0 d_Mo_forge_143 rfl rfl ?_
          refine a_iconst (v := 0) fx d_Mo_forge_144 rfl ?_
          refine a_putI fx (T := F_Mo) (ty0 := t_Mo) (j := 7) (hk := hk0) (ht := ht0) (ht2 := by decide) (hc := rfl) (hin := u_in_Mo) (hty := t_Mo_ok) (hnm := n_Mo) (hj := by decide) (hj2 := by decide) (hf := rfl) (hT := rfl) (hfin := rfl) (hn := rfl) (hfit := rfl) (hw := w_1276) (hd := d_Mo_forge_145) (kk := a_mem (fun M7 eM7 => ?_))
          have h := h M7 eM7
          exact a_vret fx hlo hr h d_Mo_forge_148
        · have h := h.2 hc
          refine a_aload_n fx 0 d_Mo_forge_73 rfl rfl ?_
          refine a_aload_n fx 0 d_Mo_forge_74 rfl rfl ?_
          refine a_getS fx (T := F_Mo) (j := 8) (hk := hk0) (ht := ht0) (ht2 := by decide) (hc := rfl) (hin := u_in_Mo) (hj := by decide) (hj2 := by decide) (hf := rfl) (n9 := 7) (hfo := rfl) (hT := rfl) (hw := w_1277) (hd := d_Mo_forge_75) (kk := ?_)
          refine a_aload_n fx 0 d_Mo_forge_78 rfl rfl ?_
          refine a_getI fx (T := F_Mo) (j := 7) (hk := hk0) (ht := ht0) (ht2 := by decide) (hc := rfl) (hin := u_in_Mo) (hj := by decide) (hj2 := by decide) (hf := rfl) (hT := rfl) (hw := w_1276) (hd := d_Mo_forge_79) (kk := ?_)
          refine a_callv (rest := []) (a_runV (As := [.ref (B + (a0 + 7)), .int (M3.1 a0 7)]) fx cv_Mo_spellRow w_1611 (Met_Mo_spellRow l B D aC aS (hk0 := hk0) (ht0 := ht0) (hk1 := (lo_9_8 hk0 ht0).1) (ht1 := (lo_9_8 hk0 ht0).2) h) hk0 ht0 (by decide) rfl rfl rfl (Nat.le_of_ble_eq_true rfl) rfl rfl ⟨Nat.le_of_ble_eq_true rfl, Nat.le_of_ble_eq_true rfl⟩ d_Mo_forge_82 ⟨Nat.le_of_ble_eq_true rfl, Nat.le_of_ble_eq_true rfl⟩) (fun M8 h => ?_)
          refine a_aload_n fx 0 d_Mo_forge_85 rfl rfl ?_
          refine a_iconst (v := 1) fx d_Mo_forge_86 rfl ?_
          refine a_iconst (v := 1) fx d_Mo_forge_87 rfl ?_
          refine a_aload_n fx 0 d_Mo_forge_88 rfl rfl ?_
          refine a_getS fx (T := F_Mo) (j := 30) (hk := hk0) (ht := ht0) (ht2 := by decide) (hc := rfl) (hin := u_in_Mo) (hj := by decide) (hj2 := by decide) (hf := rfl) (n9 := 24) (hfo := rfl) (hT := rfl) (hw := w_1299) (hd := d_Mo_forge_89) (kk := ?_)
          refine a_iconst (v := 0) fx d_Mo_forge_92 rfl ?_
          refine a_aload_n fx 0 d_Mo_forge_93 rfl rfl ?_
          refine a_getI fx (T := F_Mo) (j := 29) (hk := hk0) (ht := ht0) (ht2 := by decide) (hc := rfl) (hin := u_in_Mo) (hj := by decide) (hj2 := by decide) (hf := rfl) (hT := rfl) (hw := w_1298) (hd := d_Mo_forge_94) (kk := ?_)
          refine a_callv (rest := []) (a_runV (As := [.int 1, .int 1, .ref (B + (a0 + 24)), .int 0, .int (M8.1 a0 29)]) fx cv_Mo_keep w_1669 (Met_Mo_keep l B D aC aS (hk0 := hk0) (ht0 := ht0) (hk3 := (lo_9_30 hk0 ht0).1) (ht3 := (lo_9_30 hk0 ht0).2) h) hk0 ht0 (by decide) rfl rfl rfl (Nat.le_of_ble_eq_true rfl) rfl rfl ⟨Nat.le_of_ble_eq_true rfl, Nat.le_of_ble_eq_true rfl⟩ d_Mo_forge_97 ⟨Nat.le_of_ble_eq_true rfl, Nat.le_of_ble_eq_true rfl⟩) (fun M9 h => ?_)
          refine a_goto fx 143 d_Mo_forge_100 rfl ?_
          refine a_aload_n fx 0 d_Mo_forge_143 rfl rfl ?_
          refine a_iconst (v := 0) fx d_Mo_forge_144 rfl ?_
          refine a_putI fx (T := F_Mo) (ty0 := t_Mo) (j := 7) (hk := hk0) (ht := ht0) (ht2 := by decide) (hc := rfl) (hin := u_in_Mo) (hty := t_Mo_ok) (hnm := n_Mo) (hj := by decide) (hj2 := by decide) (hf := rfl) (hT := rfl) (hfin := rfl) (hn := rfl) (hfit := rfl) (hw := w_1276) (hd := d_Mo_forge_145) (kk := a_mem (fun M10 eM10 => ?_))
          have h := h M10 eM10
          exact a_vret fx hlo hr h d_Mo_forge_148
      · have h := h.2 hc
        refine a_aload_n fx 0 d_Mo_forge_50 rfl rfl ?_
        refine a_iconst (v := 1) fx d_Mo_forge_51 rfl ?_
        refine a_iconst (v := 1) fx d_Mo_forge_52 rfl ?_
        refine a_aload_n fx 0 d_Mo_forge_53 rfl rfl ?_
        refine a_getS fx (T := F_Mo) (j := 8) (hk := hk0) (ht := ht0) (ht2 := by decide) (hc := rfl) (hin := u_in_Mo) (hj := by decide) (hj2 := by decide) (hf := rfl) (n9 := 7) (hfo := rfl) (hT := rfl) (hw := w_1277) (hd := d_Mo_forge_54) (kk := ?_)
        refine a_iconst (v := 0) fx d_Mo_forge_57 rfl ?_
        refine a_aload_n fx 0 d_Mo_forge_58 rfl rfl ?_
        refine a_getI fx (T := F_Mo) (j := 7) (hk := hk0) (ht := ht0) (ht2 := by decide) (hc := rfl) (hin := u_in_Mo) (hj := by decide) (hj2 := by decide) (hf := rfl) (hT := rfl) (hw := w_1276) (hd := d_Mo_forge_59) (kk := ?_)
        refine a_callv (rest := []) (a_runV (As := [.int 1, .int 1, .ref (B + (a0 + 7)), .int 0, .int (M3.1 a0 7)]) fx cv_Mo_keep w_1669 (Met_Mo_keep l B D aC aS (hk0 := hk0) (ht0 := ht0) (hk3 := (lo_9_8 hk0 ht0).1) (ht3 := (lo_9_8 hk0 ht0).2) h) hk0 ht0 (by decide) rfl rfl rfl (Nat.le_of_ble_eq_true rfl) rfl rfl ⟨Nat.le_of_ble_eq_true rfl, Nat.le_of_ble_eq_true rfl⟩ d_Mo_forge_62 ⟨Nat.le_of_ble_eq_true rfl, Nat.le_of_ble_eq_true rfl⟩) (fun M11 h => ?_)
        refine a_goto fx 143 d_Mo_forge_65 rfl ?_
        refine a_aload_n fx 0 d_Mo_forge_143 rfl rfl ?_
        refine a_iconst (v := 0) fx d_Mo_forge_144 rfl ?_
        refine a_putI fx (T := F_Mo) (ty0 := t_Mo) (j := 7) (hk := hk0) (ht := ht0) (ht2 := by decide) (hc := rfl) (hin := u_in_Mo) (hty := t_Mo_ok) (hnm := n_Mo) (hj := by decide) (hj2 := by decide) (hf := rfl) (hT := rfl) (hfin := rfl) (hn := rfl) (hfit := rfl) (hw := w_1276) (hd := d_Mo_forge_145) (kk := a_mem (fun M12 eM12 => ?_))
        have h := h M12 eM12
        exact a_vret fx hlo hr h d_Mo_forge_148)
  refine a_aload_n fx 0 d_Mo_forge_0 rfl rfl ?_
  refine a_iload_n fx 1 d_Mo_forge_1 rfl rfl ?_
  refine a_if_lt fx 26 d_Mo_forge_2 rfl (fun hc => ?_) (fun hc => ?_)
  · have h := h.1 hc
    refine a_iconst (v := 1) fx d_Mo_forge_26 rfl ?_
    refine a_goto fx 31 d_Mo_forge_27 rfl ?_
    refine a_sub [0, 1, 2] rfl ?_
    exact h
  · have h := h.2 hc
    refine a_iload_n fx 1 d_Mo_forge_5 rfl rfl ?_
    refine a_iconst (v := 2) fx d_Mo_forge_6 rfl ?_
    refine a_icmp_gt fx 26 d_Mo_forge_7 rfl (fun hc => ?_) (fun hc => ?_)
    · have h := h.1 hc
      refine a_iconst (v := 1) fx d_Mo_forge_26 rfl ?_
      refine a_goto fx 31 d_Mo_forge_27 rfl ?_
      refine a_sub [0, 1, 2] rfl ?_
      exact h
    · have h := h.2 hc
      refine a_iload_n fx 1 d_Mo_forge_10 rfl rfl ?_
      refine a_if_ne fx 30 d_Mo_forge_11 rfl (fun hc => ?_) (fun hc => ?_)
      · have h := h.1 hc
        refine a_iconst (v := 0) fx d_Mo_forge_30 rfl ?_
        refine a_sub [0, 1, 2] rfl ?_
        exact h
      · have h := h.2 hc
        refine a_iload_n fx 2 d_Mo_forge_14 rfl rfl ?_
        refine a_bipush (v := 9) fx d_Mo_forge_15 rfl ?_
        refine a_icmp_lt fx 26 d_Mo_forge_17 rfl (fun hc => ?_) (fun hc => ?_)
        · have h := h.1 hc
          refine a_iconst (v := 1) fx d_Mo_forge_26 rfl ?_
          refine a_goto fx 31 d_Mo_forge_27 rfl ?_
          refine a_sub [0, 1, 2] rfl ?_
          exact h
        · have h := h.2 hc
          refine a_iload_n fx 2 d_Mo_forge_20 rfl rfl ?_
          refine a_bipush (v := 16) fx d_Mo_forge_21 rfl ?_
          refine a_icmp_le fx 30 d_Mo_forge_23 rfl (fun hc => ?_) (fun hc => ?_)
          · have h := h.1 hc
            refine a_iconst (v := 0) fx d_Mo_forge_30 rfl ?_
            refine a_sub [0, 1, 2] rfl ?_
            exact h
          · have h := h.2 hc
            refine a_iconst (v := 1) fx d_Mo_forge_26 rfl ?_
            refine a_goto fx 31 d_Mo_forge_27 rfl ?_
            refine a_sub [0, 1, 2] rfl ?_
            exact h
set_option maxRecDepth 100000 in
set_option maxHeartbeats 4000000 in
theorem Met_Mo_empty (l : Launch) (B : Nat) (D : va_G) (aC : Nat → ClassId) (aS : Nat → Nat) {a0 : Nat} {M : zM} {post : Int32 → zM → Prop} (hk0 : a0 < N0) (ht0 : tg a0 = 9) (h : Wp_Mo_empty a0 M post) : Met l y_Mo_empty (wo y_Mo_empty b_Mo_empty 2 (some FieldType.int)) { frames := 1, cells := 0, slots := 0, locals := 21 } (va_Pc [.ref (B + a0)] (zWl B D aC aS M)) (zQi B D aC post) 0 0 (zAb B) := by
  refine z_met (own := "MailChainModel") (lv0 := [(0, .ref (B + a0))]) (by decide) rfl (Nat.le_of_ble_eq_true rfl) rfl ?_
  intro p e s m below meth c fx hr hlo
  delta Wp_Mo_empty at h
  refine a_aload_n fx 0 d_Mo_empty_0 rfl rfl ?_
  refine a_iconst (v := 0) fx d_Mo_empty_1 rfl ?_
  refine a_putI fx (T := F_Mo) (ty0 := t_Mo) (j := 6) (hk := hk0) (ht := ht0) (ht2 := by decide) (hc := rfl) (hin := u_in_Mo) (hty := t_Mo_ok) (hnm := n_Mo) (hj := by decide) (hj2 := by decide) (hf := rfl) (hT := rfl) (hfin := rfl) (hn := rfl) (hfit := rfl) (hw := w_1275) (hd := d_Mo_empty_2) (kk := a_mem (fun M1 eM1 => ?_))
  have h := h M1 eM1
  refine a_aload_n fx 0 d_Mo_empty_5 rfl rfl ?_
  refine a_getI fx (T := F_Mo) (j := 38) (hk := hk0) (ht := ht0) (ht2 := by decide) (hc := rfl) (hin := u_in_Mo) (hj := by decide) (hj2 := by decide) (hf := rfl) (hT := rfl) (hw := w_1307) (hd := d_Mo_empty_6) (kk := ?_)
  refine a_topi (fun x2 ex2 => ?_)
  have h := h x2 ex2
  refine a_istore_n (lv2 := [(1, .int x2), (0, .ref (B + a0))]) fx d_Mo_empty_9 rfl (by decide) rfl ?_
  refine a_aload_n fx 1 d_Mo_empty_10 rfl rfl ?_
  refine a_callv (rest := []) (a_runV (As := []) fx cv_Mo_emptyBox w_1681 (Met_Mo_emptyBox l B D aC aS (hk0 := hk0) (ht0 := ht0) h) hk0 ht0 (by decide) rfl rfl rfl (Nat.le_of_ble_eq_true rfl) rfl rfl ⟨Nat.le_of_ble_eq_true rfl, Nat.le_of_ble_eq_true rfl⟩ d_Mo_empty_11 ⟨Nat.le_of_ble_eq_true rfl, Nat.le_of_ble_eq_true rfl⟩) (fun M3 h => ?_)
  refine a_iload_n fx 0 d_Mo_empty_14 rfl rfl ?_
  exact a_iret fx hlo hr h d_Mo_empty_15
set_option maxRecDepth 100000 in
set_option maxHeartbeats 4000000 in
theorem Met_Mo_areSame (l : Launch) (B : Nat) (D : va_G) (aC : Nat → ClassId) (aS : Nat → Nat) {a0 : Nat} {i1 : Int32} {a2 : Nat} {i3 : Int32} {M : zM} {post : Int32 → zM → Prop} (hk0 : a0 < N0) (ht0 : tg a0 = 20) (hk2 : a2 < N0) (ht2 : tg a2 = 20) (h : Wp_Mo_areSame a0 i1 a2 i3 M post) : Met l y_Mo_areSame (wo y_Mo_areSame b_Mo_areSame 6 (some FieldType.boolean)) { frames := 0, cells := 0, slots := 0, locals := 0 } (va_Pc [.ref (B + a0), .int i1, .ref (B + a2), .int i3] (zWl B D aC aS M)) (zQi B D aC post) 0 0 (zAb B) := by
  refine z_met (own := "MailChainModel") (lv0 := [(0, .ref (B + a0)), (1, .int i1), (2, .ref (B + a2)), (3, .int i3)]) (by decide) rfl (Nat.le_of_ble_eq_true rfl) rfl ?_
  intro p e s m below meth c fx hr hlo
  delta Wp_Mo_areSame at h
  have h := h (fun v4 v5 M => zAt p l e { frames := 0, cells := 0, slots := 0, locals := 0 } s m ([.ref (B + a0), .int i1, .ref (B + a2), .int i3] : List Value).toArray below meth c 0 0 (MQ below (zQi B D aC post) ([.ref (B + a0), .int i1, .ref (B + a2), .int i3] : List Value).toArray s 0 0 (zAb B)) B D aC 6 15 [(0, .ref (B + a0)), (1, .int i1), (2, .ref (B + a2)), (3, .int i3), (4, .int v4), (5, .int v5)] [] M)
  have h := h (by
    intro v4 v5 M h
    refine a_iload fx 5 d_Mo_areSame_15 rfl ?_
    refine a_iload_n fx 1 d_Mo_areSame_17 rfl rfl ?_
    refine a_icmp_ge fx 50 d_Mo_areSame_18 rfl (fun hc => ?_) (fun hc => ?_)
    · have h := h.1 hc
      refine a_iload fx 4 d_Mo_areSame_50 rfl ?_
      exact a_zret fx hlo hr h.1 h.2 d_Mo_areSame_52
    · have h := h.2 hc
      refine a_iload fx 4 d_Mo_areSame_21 rfl ?_
      refine a_if_eq fx 50 d_Mo_areSame_23 rfl (fun hc => ?_) (fun hc => ?_)
      · have h := h.1 hc
        refine a_iload fx 4 d_Mo_areSame_50 rfl ?_
        exact a_zret fx hlo hr h.1 h.2 d_Mo_areSame_52
      · have h := h.2 hc
        refine a_aload_n fx 0 d_Mo_areSame_26 rfl rfl ?_
        refine a_iload fx 5 d_Mo_areSame_27 rfl ?_
        obtain ⟨hin, h⟩ := h
        refine a_bald fx hk0 ht0 hin d_Mo_areSame_29 ?_
        refine a_aload_n fx 2 d_Mo_areSame_30 rfl rfl ?_
        refine a_iload fx 5 d_Mo_areSame_31 rfl ?_
        obtain ⟨hin, h⟩ := h
        refine a_bald fx hk2 ht2 hin d_Mo_areSame_33 ?_
        refine a_icmp_ne fx 41 d_Mo_areSame_34 rfl (fun hc => ?_) (fun hc => ?_)
        · have h := h.1 hc
          refine a_iconst (v := 0) fx d_Mo_areSame_41 rfl ?_
          refine a_istore (lv2 := [(4, .int 0), (0, .ref (B + a0)), (1, .int i1), (2, .ref (B + a2)), (3, .int i3), (5, .int v5)]) fx d_Mo_areSame_42 (by decide) rfl ?_
          obtain ⟨x1, ex1⟩ : ∃ z : Int32, z = v5 + 1 := ⟨_, rfl⟩
          have h := h x1 ex1
          refine a_iinc (lv2 := [(5, .int x1), (4, .int 0), (0, .ref (B + a0)), (1, .int i1), (2, .ref (B + a2)), (3, .int i3)]) fx 5 d_Mo_areSame_44 rfl ex1.symm (by decide) rfl ?_
          refine a_goto fx 15 d_Mo_areSame_47 rfl ?_
          refine a_sub [2, 3, 4, 5, 1, 0] rfl ?_
          exact h
        · have h := h.2 hc
          refine a_iconst (v := 1) fx d_Mo_areSame_37 rfl ?_
          refine a_goto fx 42 d_Mo_areSame_38 rfl ?_
          refine a_istore (lv2 := [(4, .int 1), (0, .ref (B + a0)), (1, .int i1), (2, .ref (B + a2)), (3, .int i3), (5, .int v5)]) fx d_Mo_areSame_42 (by decide) rfl ?_
          obtain ⟨x2, ex2⟩ : ∃ z : Int32, z = v5 + 1 := ⟨_, rfl⟩
          have h := h x2 ex2
          refine a_iinc (lv2 := [(5, .int x2), (4, .int 1), (0, .ref (B + a0)), (1, .int i1), (2, .ref (B + a2)), (3, .int i3)]) fx 5 d_Mo_areSame_44 rfl ex2.symm (by decide) rfl ?_
          refine a_goto fx 15 d_Mo_areSame_47 rfl ?_
          refine a_sub [2, 3, 4, 5, 1, 0] rfl ?_
          exact h)
  refine a_iload_n fx 1 d_Mo_areSame_0 rfl rfl ?_
  refine a_iload_n fx 3 d_Mo_areSame_1 rfl rfl ?_
  refine a_icmp_ne fx 9 d_Mo_areSame_2 rfl (fun hc => ?_) (fun hc => ?_)
  · have h := h.1 hc
    refine a_iconst (v := 0) fx d_Mo_areSame_9 rfl ?_
    refine a_istore (lv2 := [(4, .int 0), (0, .ref (B + a0)), (1, .int i1), (2, .ref (B + a2)), (3, .int i3)]) fx d_Mo_areSame_10 (by decide) rfl ?_
    refine a_iconst (v := 0) fx d_Mo_areSame_12 rfl ?_
    refine a_istore (lv2 := [(5, .int 0), (4, .int 0), (0, .ref (B + a0)), (1, .int i1), (2, .ref (B + a2)), (3, .int i3)]) fx d_Mo_areSame_13 (by decide) rfl ?_
    refine a_sub [2, 3, 4, 5, 1, 0] rfl ?_
    exact h
  · have h := h.2 hc
    refine a_iconst (v := 1) fx d_Mo_areSame_5 rfl ?_
    refine a_goto fx 10 d_Mo_areSame_6 rfl ?_
    refine a_istore (lv2 := [(4, .int 1), (0, .ref (B + a0)), (1, .int i1), (2, .ref (B + a2)), (3, .int i3)]) fx d_Mo_areSame_10 (by decide) rfl ?_
    refine a_iconst (v := 0) fx d_Mo_areSame_12 rfl ?_
    refine a_istore (lv2 := [(5, .int 0), (4, .int 1), (0, .ref (B + a0)), (1, .int i1), (2, .ref (B + a2)), (3, .int i3)]) fx d_Mo_areSame_13 (by decide) rfl ?_
    refine a_sub [2, 3, 4, 5, 1, 0] rfl ?_
    exact h
set_option maxRecDepth 100000 in
set_option maxHeartbeats 4000000 in
theorem Met_Mo_octalAt (l : Launch) (B : Nat) (D : va_G) (aC : Nat → ClassId) (aS : Nat → Nat) {a0 : Nat} {i1 : Int32} {i2 : Int32} {M : zM} {post : Int64 → zM → Prop} (hk0 : a0 < N0) (ht0 : tg a0 = 9) (h : Wp_Mo_octalAt a0 i1 i2 M post) : Met l y_Mo_octalAt (wo y_Mo_octalAt b_Mo_octalAt 6 (some FieldType.long)) { frames := 0, cells := 0, slots := 0, locals := 0 } (va_Pc [.ref (B + a0), .int i1, .int i2] (zWl B D aC aS M)) (zQl B D aC post) 0 0 (zAb B) := by
  refine z_met (own := "MailChainModel") (lv0 := [(0, .ref (B + a0)), (1, .int i1), (2, .int i2)]) (by decide) rfl (Nat.le_of_ble_eq_true rfl) rfl ?_
  intro p e s m below meth c fx hr hlo
  delta Wp_Mo_octalAt at h
  have h := h (fun v3 v5 M => zAt p l e { frames := 0, cells := 0, slots := 0, locals := 0 } s m ([.ref (B + a0), .int i1, .int i2] : List Value).toArray below meth c 0 0 (MQ below (zQl B D aC post) ([.ref (B + a0), .int i1, .int i2] : List Value).toArray s 0 0 (zAb B)) B D aC 6 5 [(0, .ref (B + a0)), (1, .int i1), (2, .int i2), (3, .long v3), (5, .int v5)] [] M)
  have h := h (by
    intro v3 v5 M h
    refine a_iload fx 4 d_Mo_octalAt_5 rfl ?_
    refine a_iload_n fx 2 d_Mo_octalAt_7 rfl rfl ?_
    refine a_icmp_ge fx 38 d_Mo_octalAt_8 rfl (fun hc => ?_) (fun hc => ?_)
    · have h := h.1 hc
      refine a_lload_n fx 3 d_Mo_octalAt_38 rfl rfl ?_
      exact a_lret fx hlo hr h d_Mo_octalAt_39
    · have h := h.2 hc
      refine a_lload_n fx 3 d_Mo_octalAt_11 rfl rfl ?_
      refine a_iconst (v := 3) fx d_Mo_octalAt_12 rfl ?_
      refine a_lshl fx d_Mo_octalAt_13 ?_
      refine a_aload_n fx 0 d_Mo_octalAt_14 rfl rfl ?_
      refine a_getS fx (T := F_Mo) (j := 48) (hk := hk0) (ht := ht0) (ht2 := by decide) (hc := rfl) (hin := u_in_Mo) (hj := by decide) (hj2 := by decide) (hf := rfl) (n9 := 32) (hfo := rfl) (hT := rfl) (hw := w_1317) (hd := d_Mo_octalAt_15) (kk := ?_)
      refine a_iload_n fx 1 d_Mo_octalAt_18 rfl rfl ?_
      refine a_iload fx 4 d_Mo_octalAt_19 rfl ?_
      refine a_iadd fx d_Mo_octalAt_21 ?_
      obtain ⟨hin, h⟩ := h
      refine a_bald fx (lo_9_48 hk0 ht0).1 (lo_9_48 hk0 ht0).2 hin d_Mo_octalAt_22 ?_
      refine a_bipush (v := 48) fx d_Mo_octalAt_23 rfl ?_
      refine a_isub fx d_Mo_octalAt_25 ?_
      refine a_bipush (v := 7) fx d_Mo_octalAt_26 rfl ?_
      refine a_iand fx d_Mo_octalAt_28 ?_
      refine a_i2l fx d_Mo_octalAt_29 ?_
      refine a_lor fx d_Mo_octalAt_30 ?_
      refine a_topl (fun y1 ey1 => ?_)
      have h := h y1 ey1
      refine a_lstore_n (lv2 := [(3, .long y1), (0, .ref (B + a0)), (1, .int i1), (2, .int i2), (5, .int v5)]) fx d_Mo_octalAt_31 rfl (by decide) rfl ?_
      obtain ⟨x2, ex2⟩ : ∃ z : Int32, z = v5 + 1 := ⟨_, rfl⟩
      have h := h x2 ex2
      refine a_iinc (lv2 := [(5, .int x2), (3, .long y1), (0, .ref (B + a0)), (1, .int i1), (2, .int i2)]) fx 4 d_Mo_octalAt_32 rfl ex2.symm (by decide) rfl ?_
      refine a_goto fx 5 d_Mo_octalAt_35 rfl ?_
      refine a_sub [2, 3, 4, 1, 0] rfl ?_
      exact h)
  refine a_lconst (v := 0) fx d_Mo_octalAt_0 rfl ?_
  refine a_lstore_n (lv2 := [(3, .long 0), (0, .ref (B + a0)), (1, .int i1), (2, .int i2)]) fx d_Mo_octalAt_1 rfl (by decide) rfl ?_
  refine a_iconst (v := 0) fx d_Mo_octalAt_2 rfl ?_
  refine a_istore (lv2 := [(5, .int 0), (3, .long 0), (0, .ref (B + a0)), (1, .int i1), (2, .int i2)]) fx d_Mo_octalAt_3 (by decide) rfl ?_
  refine a_sub [2, 3, 4, 1, 0] rfl ?_
  exact h
set_option maxRecDepth 100000 in
set_option maxHeartbeats 4000000 in
theorem Met_Mo_take (l : Launch) (B : Nat) (D : va_G) (aC : Nat → ClassId) (aS : Nat → Nat) {a0 : Nat} {i1 : Int32} {i2 : Int32} {i3 : Int32} {i4 : Int32} {i5 : Int32} {i6 : Int32} {M : zM} {post : zM → Prop} (hk0 : a0 < N0) (ht0 : tg a0 = 9) (h : Wp_Mo_take a0 i1 i2 i3 i4 i5 i6 M post) : Met l y_Mo_take (wo y_Mo_take b_Mo_take 9 none) { frames := 2, cells := 0, slots := 0, locals := 49 } (va_Pc [.ref (B + a0), .int i1, .int i2, .int i3, .int i4, .int i5, .int i6] (zWl B D aC aS M)) (zQv B D aC post) 0 0 (zAb B) := by
  refine z_met (own := "MailChainModel") (lv0 := [(0, .ref (B + a0)), (1, .int i1), (2, .int i2), (3, .int i3), (4, .int i4), (5, .int i5), (6, .int i6)]) (by decide) rfl (Nat.le_of_ble_eq_true rfl) rfl ?_
  intro p e s m below meth c fx hr hlo
  delta Wp_Mo_take at h
  have h := h (fun v8 M => zAt p l e { frames := 2, cells := 0, slots := 0, locals := 49 } s m ([.ref (B + a0), .int i1, .int i2, .int i3, .int i4, .int i5, .int i6] : List Value).toArray below meth c 0 0 (MQ below (zQv B D aC post) ([.ref (B + a0), .int i1, .int i2, .int i3, .int i4, .int i5, .int i6] : List Value).toArray s 0 0 (zAb B)) B D aC 9 116 [(0, .ref (B + a0)), (1, .int i1), (2, .int i2), (3, .int i3), (4, .int i4), (5, .int i5), (6, .int i6), (8, .int v8)] [] M)
  have h := h (by
    intro v8 M h
    refine a_iload fx 7 d_Mo_take_116 rfl ?_
    refine a_iload_n fx 3 d_Mo_take_118 rfl rfl ?_
    refine a_icmp_ge fx 168 d_Mo_take_119 rfl (fun hc => ?_) (fun hc => ?_)
    · have h := h.1 hc
      exact a_vret fx hlo hr h d_Mo_take_168
    · have h := h.2 hc
      refine a_aload_n fx 0 d_Mo_take_122 rfl rfl ?_
      refine a_getS fx (T := F_Mo) (j := 21) (hk := hk0) (ht := ht0) (ht2 := by decide) (hc := rfl) (hin := u_in_Mo) (hj := by decide) (hj2 := by decide) (hf := rfl) (n9 := 20) (hfo := rfl) (hT := rfl) (hw := w_1290) (hd := d_Mo_take_123) (kk := ?_)
      refine a_ldc fx w_1265 d_Mo_take_126 ?_
      refine a_aload_n fx 0 d_Mo_take_128 rfl rfl ?_
      refine a_getS fx (T := F_Mo) (j := 20) (hk := hk0) (ht := ht0) (ht2 := by decide) (hc := rfl) (hin := u_in_Mo) (hj := by decide) (hj2 := by decide) (hf := rfl) (n9 := 19) (hfo := rfl) (hT := rfl) (hw := w_1289) (hd := d_Mo_take_129) (kk := ?_)
      refine a_iconst (v := 2) fx d_Mo_take_132 rfl ?_
      obtain ⟨hin, h⟩ := h
      refine a_iald fx (lo_9_20 hk0 ht0).1 (lo_9_20 hk0 ht0).2 hin d_Mo_take_133 ?_
      refine a_iadd fx d_Mo_take_134 ?_
      refine a_aload_n fx 0 d_Mo_take_135 rfl rfl ?_
      refine a_getS fx (T := F_Mo) (j := 48) (hk := hk0) (ht := ht0) (ht2 := by decide) (hc := rfl) (hin := u_in_Mo) (hj := by decide) (hj2 := by decide) (hf := rfl) (n9 := 32) (hfo := rfl) (hT := rfl) (hw := w_1317) (hd := d_Mo_take_136) (kk := ?_)
      refine a_iload_n fx 1 d_Mo_take_139 rfl rfl ?_
      refine a_bipush (v := 76) fx d_Mo_take_140 rfl ?_
      refine a_iadd fx d_Mo_take_142 ?_
      refine a_iload_n fx 2 d_Mo_take_143 rfl rfl ?_
      refine a_iadd fx d_Mo_take_144 ?_
      refine a_iconst (v := 1) fx d_Mo_take_145 rfl ?_
      refine a_iadd fx d_Mo_take_146 ?_
      refine a_iload fx 7 d_Mo_take_147 rfl ?_
      refine a_iadd fx d_Mo_take_149 ?_
      obtain ⟨hin, h⟩ := h
      refine a_bald fx (lo_9_48 hk0 ht0).1 (lo_9_48 hk0 ht0).2 hin d_Mo_take_150 ?_
      obtain ⟨hin, h⟩ := h
      refine a_bast fx (lo_9_21 hk0 ht0).1 (lo_9_21 hk0 ht0).2 hin d_Mo_take_151 (a_mem (fun M17 eM17 => ?_))
      have h := h M17 eM17
      refine a_aload_n fx 0 d_Mo_take_152 rfl rfl ?_
      refine a_getS fx (T := F_Mo) (j := 20) (hk := hk0) (ht := ht0) (ht2 := by decide) (hc := rfl) (hin := u_in_Mo) (hj := by decide) (hj2 := by decide) (hf := rfl) (n9 := 19) (hfo := rfl) (hT := rfl) (hw := w_1289) (hd := d_Mo_take_153) (kk := ?_)
      refine a_iconst (v := 2) fx d_Mo_take_156 rfl ?_
      refine a_dup2 fx d_Mo_take_157 rfl rfl ?_
      obtain ⟨hin, h⟩ := h
      refine a_iald fx (lo_9_20 hk0 ht0).1 (lo_9_20 hk0 ht0).2 hin d_Mo_take_158 ?_
      refine a_iconst (v := 1) fx d_Mo_take_159 rfl ?_
      refine a_iadd fx d_Mo_take_160 ?_
      obtain ⟨hin, h⟩ := h
      refine a_iast fx (lo_9_20 hk0 ht0).1 (lo_9_20 hk0 ht0).2 hin d_Mo_take_161 (a_mem (fun M18 eM18 => ?_))
      have h := h M18 eM18
      obtain ⟨x19, ex19⟩ : ∃ z : Int32, z = v8 + 1 := ⟨_, rfl⟩
      have h := h x19 ex19
      refine a_iinc (lv2 := [(8, .int x19), (0, .ref (B + a0)), (1, .int i1), (2, .int i2), (3, .int i3), (4, .int i4), (5, .int i5), (6, .int i6)]) fx 7 d_Mo_take_162 rfl ex19.symm (by decide) rfl ?_
      refine a_goto fx 116 d_Mo_take_165 rfl ?_
      refine a_sub [1, 2, 3, 4, 5, 6, 7, 0] rfl ?_
      exact h)
  refine a_aload_n fx 0 d_Mo_take_0 rfl rfl ?_
  refine a_iconst (v := 2) fx d_Mo_take_1 rfl ?_
  refine a_calli (rest := []) (a_runV (As := [.int 2]) fx cv_Mo_enter w_1514 (Met_Mo_enter l B D aC aS (hk0 := hk0) (ht0 := ht0) h) hk0 ht0 (by decide) rfl rfl rfl (Nat.le_of_ble_eq_true rfl) rfl rfl ⟨Nat.le_of_ble_eq_true rfl, Nat.le_of_ble_eq_true rfl⟩ d_Mo_take_2 ⟨Nat.le_of_ble_eq_true rfl, Nat.le_of_ble_eq_true rfl⟩) (fun x2 M1 h => ?_)
  refine a_istore (lv2 := [(7, .int x2), (0, .ref (B + a0)), (1, .int i1), (2, .int i2), (3, .int i3), (4, .int i4), (5, .int i5), (6, .int i6)]) fx d_Mo_take_5 (by decide) rfl ?_
  refine a_aload_n fx 1 d_Mo_take_7 rfl rfl ?_
  refine a_getS fx (T := F_Mo) (j := 12) (hk := hk0) (ht := ht0) (ht2 := by decide) (hc := rfl) (hin := u_in_Mo) (hj := by decide) (hj2 := by decide) (hf := rfl) (n9 := 11) (hfo := rfl) (hT := rfl) (hw := w_1281) (hd := d_Mo_take_8) (kk := ?_)
  refine a_iload fx 0 d_Mo_take_11 rfl ?_
  refine a_iload fx 5 d_Mo_take_13 rfl ?_
  obtain ⟨hin, h⟩ := h
  refine a_iast fx (lo_9_12 hk0 ht0).1 (lo_9_12 hk0 ht0).2 hin d_Mo_take_15 (a_mem (fun M3 eM3 => ?_))
  have h := h M3 eM3
  refine a_aload_n fx 1 d_Mo_take_16 rfl rfl ?_
  refine a_getS fx (T := F_Mo) (j := 13) (hk := hk0) (ht := ht0) (ht2 := by decide) (hc := rfl) (hin := u_in_Mo) (hj := by decide) (hj2 := by decide) (hf := rfl) (n9 := 12) (hfo := rfl) (hT := rfl) (hw := w_1282) (hd := d_Mo_take_17) (kk := ?_)
  refine a_iload fx 0 d_Mo_take_20 rfl ?_
  refine a_iload fx 6 d_Mo_take_22 rfl ?_
  refine a_sipush (v := 4095) fx d_Mo_take_24 rfl ?_
  refine a_iand fx d_Mo_take_27 ?_
  obtain ⟨hin, h⟩ := h
  refine a_iast fx (lo_9_13 hk0 ht0).1 (lo_9_13 hk0 ht0).2 hin d_Mo_take_28 (a_mem (fun M4 eM4 => ?_))
  have h := h M4 eM4
  refine a_aload_n fx 1 d_Mo_take_29 rfl rfl ?_
  refine a_getS fx (T := F_Mo) (j := 14) (hk := hk0) (ht := ht0) (ht2 := by decide) (hc := rfl) (hin := u_in_Mo) (hj := by decide) (hj2 := by decide) (hf := rfl) (n9 := 13) (hfo := rfl) (hT := rfl) (hw := w_1283) (hd := d_Mo_take_30) (kk := ?_)
  refine a_iload fx 0 d_Mo_take_33 rfl ?_
  refine a_aload_n fx 1 d_Mo_take_35 rfl rfl ?_
  refine a_iload_n fx 2 d_Mo_take_36 rfl rfl ?_
  refine a_bipush (v := 24) fx d_Mo_take_37 rfl ?_
  refine a_iadd fx d_Mo_take_39 ?_
  refine a_bipush (v := 6) fx d_Mo_take_40 rfl ?_
  refine a_calll (rest := [.int x2, .ref (B + (a0 + 13))]) (a_runV (As := [.int (i1 + 24), .int 6]) fx cv_Mo_octalAt w_1724 (Met_Mo_octalAt l B D aC aS (hk0 := hk0) (ht0 := ht0) h) hk0 ht0 (by decide) rfl rfl rfl (Nat.le_of_ble_eq_true rfl) rfl rfl ⟨Nat.le_of_ble_eq_true rfl, Nat.le_of_ble_eq_true rfl⟩ d_Mo_take_42 ⟨Nat.le_of_ble_eq_true rfl, Nat.le_of_ble_eq_true rfl⟩) (fun y6 M5 h => ?_)
  refine a_l2i fx d_Mo_take_45 ?_
  obtain ⟨hin, h⟩ := h
  refine a_iast fx (lo_9_14 hk0 ht0).1 (lo_9_14 hk0 ht0).2 hin d_Mo_take_46 (a_mem (fun M7 eM7 => ?_))
  have h := h M7 eM7
  refine a_aload_n fx 1 d_Mo_take_47 rfl rfl ?_
  refine a_getS fx (T := F_Mo) (j := 15) (hk := hk0) (ht := ht0) (ht2 := by decide) (hc := rfl) (hin := u_in_Mo) (hj := by decide) (hj2 := by decide) (hf := rfl) (n9 := 14) (hfo := rfl) (hT := rfl) (hw := w_1284) (hd := d_Mo_take_48) (kk := ?_)
  refine a_iload fx 0 d_Mo_take_51 rfl ?_
  refine a_aload_n fx 1 d_Mo_take_53 rfl rfl ?_
  refine a_iload_n fx 2 d_Mo_take_54 rfl rfl ?_
  refine a_bipush (v := 30) fx d_Mo_take_55 rfl ?_
  refine a_iadd fx d_Mo_take_57 ?_
  refine a_bipush (v := 6) fx d_Mo_take_58 rfl ?_
  refine a_calll (rest := [.int x2, .ref (B + (a0 + 14))]) (a_runV (As := [.int (i1 + 30), .int 6]) fx cv_Mo_octalAt w_1724 (Met_Mo_octalAt l B D aC aS (hk0 := hk0) (ht0 := ht0) h) hk0 ht0 (by decide) rfl rfl rfl (Nat.le_of_ble_eq_true rfl) rfl rfl ⟨Nat.le_of_ble_eq_true rfl, Nat.le_of_ble_eq_true rfl⟩ d_Mo_take_60 ⟨Nat.le_of_ble_eq_true rfl, Nat.le_of_ble_eq_true rfl⟩) (fun y9 M8 h => ?_)
  refine a_l2i fx d_Mo_take_63 ?_
  obtain ⟨hin, h⟩ := h
  refine a_iast fx (lo_9_15 hk0 ht0).1 (lo_9_15 hk0 ht0).2 hin d_Mo_take_64 (a_mem (fun M10 eM10 => ?_))
  have h := h M10 eM10
  refine a_aload_n fx 1 d_Mo_take_65 rfl rfl ?_
  refine a_getS fx (T := F_Mo) (j := 16) (hk := hk0) (ht := ht0) (ht2 := by decide) (hc := rfl) (hin := u_in_Mo) (hj := by decide) (hj2 := by decide) (hf := rfl) (n9 := 15) (hfo := rfl) (hT := rfl) (hw := w_1285) (hd := d_Mo_take_66) (kk := ?_)
  refine a_iload fx 0 d_Mo_take_69 rfl ?_
  refine a_iload fx 7 d_Mo_take_71 rfl ?_
  obtain ⟨hin, h⟩ := h
  refine a_iast fx (lo_9_16 hk0 ht0).1 (lo_9_16 hk0 ht0).2 hin d_Mo_take_73 (a_mem (fun M11 eM11 => ?_))
  have h := h M11 eM11
  refine a_aload_n fx 1 d_Mo_take_74 rfl rfl ?_
  refine a_getS fx (T := F_Mo) (j := 19) (hk := hk0) (ht := ht0) (ht2 := by decide) (hc := rfl) (hin := u_in_Mo) (hj := by decide) (hj2 := by decide) (hf := rfl) (n9 := 18) (hfo := rfl) (hT := rfl) (hw := w_1288) (hd := d_Mo_take_75) (kk := ?_)
  refine a_iload fx 0 d_Mo_take_78 rfl ?_
  refine a_aload_n fx 1 d_Mo_take_80 rfl rfl ?_
  refine a_iload_n fx 2 d_Mo_take_81 rfl rfl ?_
  refine a_bipush (v := 12) fx d_Mo_take_82 rfl ?_
  refine a_iadd fx d_Mo_take_84 ?_
  refine a_bipush (v := 6) fx d_Mo_take_85 rfl ?_
  refine a_calll (rest := [.int x2, .ref (B + (a0 + 18))]) (a_runV (As := [.int (i1 + 12), .int 6]) fx cv_Mo_octalAt w_1724 (Met_Mo_octalAt l B D aC aS (hk0 := hk0) (ht0 := ht0) h) hk0 ht0 (by decide) rfl rfl rfl (Nat.le_of_ble_eq_true rfl) rfl rfl ⟨Nat.le_of_ble_eq_true rfl, Nat.le_of_ble_eq_true rfl⟩ d_Mo_take_87 ⟨Nat.le_of_ble_eq_true rfl, Nat.le_of_ble_eq_true rfl⟩) (fun y13 M12 h => ?_)
  refine a_l2i fx d_Mo_take_90 ?_
  obtain ⟨hin, h⟩ := h
  refine a_iast fx (lo_9_19 hk0 ht0).1 (lo_9_19 hk0 ht0).2 hin d_Mo_take_91 (a_mem (fun M14 eM14 => ?_))
  have h := h M14 eM14
  refine a_aload_n fx 1 d_Mo_take_92 rfl rfl ?_
  refine a_getS fx (T := F_Mo) (j := 17) (hk := hk0) (ht := ht0) (ht2 := by decide) (hc := rfl) (hin := u_in_Mo) (hj := by decide) (hj2 := by decide) (hf := rfl) (n9 := 16) (hfo := rfl) (hT := rfl) (hw := w_1286) (hd := d_Mo_take_93) (kk := ?_)
  refine a_iload fx 0 d_Mo_take_96 rfl ?_
  refine a_aload_n fx 1 d_Mo_take_98 rfl rfl ?_
  refine a_getS fx (T := F_Mo) (j := 20) (hk := hk0) (ht := ht0) (ht2 := by decide) (hc := rfl) (hin := u_in_Mo) (hj := by decide) (hj2 := by decide) (hf := rfl) (n9 := 19) (hfo := rfl) (hT := rfl) (hw := w_1289) (hd := d_Mo_take_99) (kk := ?_)
  refine a_iconst (v := 2) fx d_Mo_take_102 rfl ?_
  obtain ⟨hin, h⟩ := h
  refine a_iald fx (lo_9_20 hk0 ht0).1 (lo_9_20 hk0 ht0).2 hin d_Mo_take_103 ?_
  obtain ⟨hin, h⟩ := h
  refine a_iast fx (lo_9_17 hk0 ht0).1 (lo_9_17 hk0 ht0).2 hin d_Mo_take_104 (a_mem (fun M15 eM15 => ?_))
  have h := h M15 eM15
  refine a_aload_n fx 1 d_Mo_take_105 rfl rfl ?_
  refine a_getS fx (T := F_Mo) (j := 18) (hk := hk0) (ht := ht0) (ht2 := by decide) (hc := rfl) (hin := u_in_Mo) (hj := by decide) (hj2 := by decide) (hf := rfl) (n9 := 17) (hfo := rfl) (hT := rfl) (hw := w_1287) (hd := d_Mo_take_106) (kk := ?_)
  refine a_iload fx 0 d_Mo_take_109 rfl ?_
  refine a_iload_n fx 4 d_Mo_take_111 rfl rfl ?_
  obtain ⟨hin, h⟩ := h
  refine a_iast fx (lo_9_18 hk0 ht0).1 (lo_9_18 hk0 ht0).2 hin d_Mo_take_112 (a_mem (fun M16 eM16 => ?_))
  have h := h M16 eM16
  refine a_iconst (v := 0) fx d_Mo_take_113 rfl ?_
  refine a_istore (lv2 := [(8, .int 0), (7, .int x2), (0, .ref (B + a0)), (1, .int i1), (2, .int i2), (3, .int i3), (4, .int i4), (5, .int i5), (6, .int i6)]) fx d_Mo_take_114 (by decide) rfl ?_
  refine a_sub [2, 3, 4, 5, 6, 7, 8, 0] rfl ?_
  exact h
