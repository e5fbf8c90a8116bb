/-- MailChainModel.areLinks()Z -/
def Wp_Mo_areLinks (a0 : Nat) (M : zM) (post : Int32 → zM → Prop) : Prop := ∀ K4 : Int32 → Int32 → zM → Prop, ∀ K125 : Int32 → Int32 → Int32 → Int32 → Int32 → zM → Prop, (∀ (v1 : Int32) (v2 : Int32) (M : zM), (vp_in (2 : Int32) (ln (a0 + 8)) ∧ (((M.1 (a0 + 8) ((2 : Int32)).toNatClampNeg) ≤ v2 → (narrow .boolean (.int v1) = .int v1 ∧ post v1 M)) ∧ (¬ (M.1 (a0 + 8) ((2 : Int32)).toNatClampNeg) ≤ v2 → (Wp_Mo_at 2 v2 M (fun x2 M1 => (Wp_Mo_firstOf a0 2 v2 M1 (fun x4 M3 => (Wp_Mo_at 2 x4 M3 (fun x6 M5 => ((v1 = 0 → (K125 0 v2 x2 x6 0 M5)) ∧ (¬ v1 = 0 → (vp_in x2 (ln (a0 + 12)) ∧ (vp_in x6 (ln (a0 + 12)) ∧ ((¬ (M5.1 (a0 + 12) (x2).toNatClampNeg) = (M5.1 (a0 + 12) (x6).toNatClampNeg) → (K125 0 v2 x2 x6 0 M5)) ∧ ((M5.1 (a0 + 12) (x2).toNatClampNeg) = (M5.1 (a0 + 12) (x6).toNatClampNeg) → (vp_in x2 (ln (a0 + 13)) ∧ (vp_in x6 (ln (a0 + 13)) ∧ ((¬ (M5.1 (a0 + 13) (x2).toNatClampNeg) = (M5.1 (a0 + 13) (x6).toNatClampNeg) → (K125 0 v2 x2 x6 0 M5)) ∧ ((M5.1 (a0 + 13) (x2).toNatClampNeg) = (M5.1 (a0 + 13) (x6).toNatClampNeg) → (vp_in x2 (ln (a0 + 14)) ∧ (vp_in x6 (ln (a0 + 14)) ∧ ((¬ (M5.1 (a0 + 14) (x2).toNatClampNeg) = (M5.1 (a0 + 14) (x6).toNatClampNeg) → (K125 0 v2 x2 x6 0 M5)) ∧ ((M5.1 (a0 + 14) (x2).toNatClampNeg) = (M5.1 (a0 + 14) (x6).toNatClampNeg) → (vp_in x2 (ln (a0 + 15)) ∧ (vp_in x6 (ln (a0 + 15)) ∧ ((¬ (M5.1 (a0 + 15) (x2).toNatClampNeg) = (M5.1 (a0 + 15) (x6).toNatClampNeg) → (K125 0 v2 x2 x6 0 M5)) ∧ ((M5.1 (a0 + 15) (x2).toNatClampNeg) = (M5.1 (a0 + 15) (x6).toNatClampNeg) → (vp_in x2 (ln (a0 + 17)) ∧ (vp_in x6 (ln (a0 + 17)) ∧ ((¬ (M5.1 (a0 + 17) (x2).toNatClampNeg) = (M5.1 (a0 + 17) (x6).toNatClampNeg) → (K125 0 v2 x2 x6 0 M5)) ∧ ((M5.1 (a0 + 17) (x2).toNatClampNeg) = (M5.1 (a0 + 17) (x6).toNatClampNeg) → (K125 1 v2 x2 x6 0 M5)))))))))))))))))))))))))))))))) → K4 v1 v2 M) → (∀ (v1 : Int32) (v2 : Int32) (v3 : Int32) (v4 : Int32) (v5 : Int32) (M : zM), (vp_in v3 (ln (a0 + 17)) ∧ (((M.1 (a0 + 17) (v3).toNatClampNeg) ≤ v5 → (∀ x7 : Int32, x7 = v2 + 1 → (K4 v1 x7 M))) ∧ (¬ (M.1 (a0 + 17) (v3).toNatClampNeg) ≤ v5 → ((v1 = 0 → (∀ x8 : Int32, x8 = v2 + 1 → (K4 v1 x8 M))) ∧ (¬ v1 = 0 → (vp_in v3 (ln (a0 + 16)) ∧ (vp_in ((40000 + (M.1 (a0 + 16) (v3).toNatClampNeg)) + v5) (ln (a0 + 20)) ∧ (vp_in v4 (ln (a0 + 16)) ∧ (vp_in ((40000 + (M.1 (a0 + 16) (v4).toNatClampNeg)) + v5) (ln (a0 + 20)) ∧ ((¬ (M.1 (a0 + 20) (((40000 + (M.1 (a0 + 16) (v3).toNatClampNeg)) + v5)).toNatClampNeg) = (M.1 (a0 + 20) (((40000 + (M.1 (a0 + 16) (v4).toNatClampNeg)) + v5)).toNatClampNeg) → (∀ x9 : Int32, x9 = v5 + 1 → (K125 0 v2 v3 v4 x9 M))) ∧ ((M.1 (a0 + 20) (((40000 + (M.1 (a0 + 16) (v3).toNatClampNeg)) + v5)).toNatClampNeg) = (M.1 (a0 + 20) (((40000 + (M.1 (a0 + 16) (v4).toNatClampNeg)) + v5)).toNatClampNeg) → (∀ x10 : Int32, x10 = v5 + 1 → (K125 1 v2 v3 v4 x10 M))))))))))))) → K125 v1 v2 v3 v4 v5 M) → (K4 1 0 M)
/-- MailChainModel.readTree()Z -/
def Wp_Mo_readTree (a0 : Nat) (M : zM) (post : Int32 → zM → Prop) : Prop := ∀ K16 : Int32 → zM → Prop, ∀ K185 : Int32 → Int32 → Int64 → Int32 → Int64 → Int32 → zM → Prop, ∀ K221 : Int32 → Int32 → Int64 → Int32 → Int64 → Int32 → Int32 → zM → Prop, ∀ K265 : Int32 → Int32 → Int64 → Int32 → Int64 → Int32 → zM → Prop, ∀ K291 : Int32 → Int32 → Int64 → Int32 → Int64 → Int32 → zM → Prop, ∀ K314 : Int32 → Int32 → Int64 → Int32 → Int64 → Int32 → zM → Prop, (∀ (v1 : Int32) (M : zM), (((M.1 a0 47) < (v1 + 76) → (Wp_Mo_areLinks a0 M (fun x4 M3 => (narrow .boolean (.int x4) = .int x4 ∧ post x4 M3)))) ∧ (¬ (M.1 a0 47) < (v1 + 76) → (Wp_Mo_octalAt a0 (v1 + 12) 6 M (fun y6 M5 => (((lg_cmp y6 0) = 0 → (Wp_Mo_areLinks a0 M5 (fun x8 M7 => (narrow .boolean (.int x8) = .int x8 ∧ post x8 M7)))) ∧ (¬ (lg_cmp y6 0) = 0 → (Wp_Mo_octalAt a0 (v1 + 59) 6 M5 (fun y10 M9 => (∀ x11 : Int32, x11 = (((y10).toInt32) - 1) → (Wp_Mo_octalAt a0 (v1 + 65) 11 M9 (fun y13 M12 => ((x11 < 1 → (post 0 M12)) ∧ (¬ x11 < 1 → ((60 < x11 → (post 0 M12)) ∧ (¬ 60 < x11 → ((0 < (lg_cmp y13 6000) → (post 0 M12)) ∧ (¬ 0 < (lg_cmp y13 6000) → ((0 < (lg_cmp ((((((v1 + 76) + x11) + 1)).toInt64) + y13) (((M12.1 a0 47)).toInt64)) → (post 0 M12)) ∧ (¬ 0 < (lg_cmp ((((((v1 + 76) + x11) + 1)).toInt64) + y13) (((M12.1 a0 47)).toInt64)) → (vp_in (2 : Int32) (ln (a0 + 8)) ∧ ((¬ (M12.1 (a0 + 8) ((2 : Int32)).toNatClampNeg) = 40 → (Wp_Mo_look a0 (a0 + 32) (v1 + 76) x11 M12 (fun M14 => (Wp_Mo_octalAt a0 (v1 + 18) 6 M14 (fun y16 M15 => (∀ x17 : Int32, x17 = (y16).toInt32 → (Wp_Mo_octalAt a0 (v1 + 48) 11 M15 (fun y19 M18 => ((¬ (x17 >>> (12 &&& 31)) = 4 → ((¬ (x17 >>> (12 &&& 31)) = 8 → (K185 v1 x11 y13 x17 y19 2 M18)) ∧ ((x17 >>> (12 &&& 31)) = 8 → (K185 v1 x11 y13 x17 y19 1 M18)))) ∧ ((x17 >>> (12 &&& 31)) = 4 → (K185 v1 x11 y13 x17 y19 0 M18))))))))))) ∧ ((M12.1 (a0 + 8) ((2 : Int32)).toNatClampNeg) = 40 → (post 0 M12))))))))))))))))))))))) → K16 v1 M) → (∀ (v1 : Int32) (v2 : Int32) (v3 : Int64) (v5 : Int32) (v6 : Int64) (w0 : Int32) (M : zM), (vp_in (2 : Int32) (ln (a0 + 8)) ∧ (((M.1 (a0 + 8) ((2 : Int32)).toNatClampNeg) = 0 → (K221 v1 v2 v3 v5 v6 w0 1 M)) ∧ (¬ (M.1 (a0 + 8) ((2 : Int32)).toNatClampNeg) = 0 → (vp_in (2 : Int32) (ln (a0 + 8)) ∧ (Wp_Mo_at 2 ((M.1 (a0 + 8) ((2 : Int32)).toNatClampNeg) - 1) M (fun x21 M20 => (Wp_Mo_compare a0 x21 v2 M20 (fun x23 M22 => ((0 ≤ x23 → (K221 v1 v2 v3 v5 v6 w0 0 M22)) ∧ (¬ 0 ≤ x23 → (K221 v1 v2 v3 v5 v6 w0 1 M22))))))))))) → K185 v1 v2 v3 v5 v6 w0 M) → (∀ (v1 : Int32) (v2 : Int32) (v3 : Int64) (v5 : Int32) (v6 : Int64) (v8 : Int32) (w0 : Int32) (M : zM), (Wp_Mo_isPath a0 M (fun x25 M24 => ((x25 = 0 → (post 0 M24)) ∧ (¬ x25 = 0 → (Wp_Mo_hasParent a0 2 M24 (fun x27 M26 => ((x27 = 0 → (post 0 M26)) ∧ (¬ x27 = 0 → ((w0 = 0 → (post 0 M26)) ∧ (¬ w0 = 0 → (((lg_cmp v6 2147483647) ≤ 0 → ((¬ v8 = 0 → (K265 v1 v2 v3 v5 v6 v8 M26)) ∧ (v8 = 0 → ((0 < (lg_cmp v3 0) → (post 0 M26)) ∧ (¬ 0 < (lg_cmp v3 0) → (K265 v1 v2 v3 v5 v6 v8 M26)))))) ∧ (¬ (lg_cmp v6 2147483647) ≤ 0 → (post 0 M26))))))))))))) → K221 v1 v2 v3 v5 v6 v8 w0 M) → (∀ (v1 : Int32) (v2 : Int32) (v3 : Int64) (v5 : Int32) (v6 : Int64) (v8 : Int32) (M : zM), ((¬ v8 = 2 → (K291 v1 v2 v3 v5 v6 v8 M)) ∧ (v8 = 2 → (Wp_Mo_isTarget (a0 + 32) (((v1 + 76) + v2) + 1) ((v3).toInt32) M (fun x29 M28 => ((x29 = 0 → (post 0 M28)) ∧ (¬ x29 = 0 → (K291 v1 v2 v3 v5 v6 v8 M28))))))) → K265 v1 v2 v3 v5 v6 v8 M) → (∀ (v1 : Int32) (v2 : Int32) (v3 : Int64) (v5 : Int32) (v6 : Int64) (v8 : Int32) (M : zM), ((¬ v8 = 1 → (K314 v1 v2 v3 v5 v6 v8 M)) ∧ (v8 = 1 → (Wp_Mo_bytesOf a0 2 M (fun x31 M30 => (((lg_cmp (((x31).toInt64) + v3) 6000) ≤ 0 → (K314 v1 v2 v3 v5 v6 v8 M30)) ∧ (¬ (lg_cmp (((x31).toInt64) + v3) 6000) ≤ 0 → (post 0 M30))))))) → K291 v1 v2 v3 v5 v6 v8 M) → (∀ (v1 : Int32) (v2 : Int32) (v3 : Int64) (v5 : Int32) (v6 : Int64) (v8 : Int32) (M : zM), (Wp_Mo_take a0 v1 v2 ((v3).toInt32) v8 v5 ((v6).toInt32) M (fun M32 => (∀ x33 : Int32, x33 = ((((v1 + 76) + v2) + 1) + ((v3).toInt32)) → (K16 x33 M32)))) → K314 v1 v2 v3 v5 v6 v8 M) → (vp_in (2 : Int32) (ln (a0 + 8)) ∧ (∀ M1 : zM, M1 = zI M (a0 + 8) ((2 : Int32)).toNatClampNeg 0 → (vp_in (2 : Int32) (ln (a0 + 19)) ∧ (∀ M2 : zM, M2 = zI M1 (a0 + 19) ((2 : Int32)).toNatClampNeg 0 → (K16 0 M2)))))
/-- MailChainModel.unpacked()I -/
def Wp_Mo_unpacked (a0 : Nat) (M : zM) (post : Int32 → zM → Prop) : Prop := ∀ K15 : Int32 → Int32 → zM → Prop, ∀ K40 : Int32 → zM → Prop, ∀ K68 : Int32 → zM → Prop, ∀ K78 : Int32 → Int32 → zM → Prop, ∀ K199 : Int32 → zM → Prop, (∀ (v1 : Int32) (v2 : Int32) (M : zM), (((M.1 a0 37) < v2 → (K40 v1 M)) ∧ (¬ (M.1 a0 37) < v2 → ((v1 = 0 → (K40 v1 M)) ∧ (¬ v1 = 0 → (vp_in v2 (ln (a0 + 27)) ∧ (∀ x1 : Int32, x1 = (M.1 (a0 + 27) (v2).toNatClampNeg) → (∀ x2 : Int32, x2 = v2 + 1 → (K15 x1 x2 M)))))))) → K15 v1 v2 M) → (∀ (v1 : Int32) (M : zM), ((¬ v1 = 0 → (((lg_cmp (M.2.1 a0 39) 48000) ≤ 0 → (∀ M3 : zM, M3 = zI M a0 47 0 → (K68 1 M3))) ∧ (¬ (lg_cmp (M.2.1 a0 39) 48000) ≤ 0 → (post 7 M)))) ∧ (v1 = 0 → (post 6 M))) → K40 v1 M) → (∀ (v2 : Int32) (M : zM), (((M.1 a0 37) < v2 → (Wp_Mo_unspell a0 M (fun M4 => (Wp_Mo_spellRow a0 (a0 + 31) (M4.1 a0 45) M4 (fun M5 => (Wp_Mo_areSame (a0 + 24) (M5.1 a0 29) (a0 + 32) (M5.1 a0 47) M5 (fun x7 M6 => ((¬ x7 = 0 → (((M6.1 a0 45) < 3 → (K199 0 M6)) ∧ (¬ (M6.1 a0 45) < 3 → (vp_in (2 : Int32) (ln (a0 + 31)) ∧ (K199 (((M6.1 (a0 + 31) ((2 : Int32)).toNatClampNeg) &&& 255) - 128) M6))))) ∧ (x7 = 0 → (post 7 M6)))))))))) ∧ (¬ (M.1 a0 37) < v2 → (K78 v2 0 M))) → K68 v2 M) → (∀ (v2 : Int32) (v3 : Int32) (M : zM), (vp_in v2 (ln (a0 + 28)) ∧ (((M.1 (a0 + 28) (v2).toNatClampNeg) ≤ v3 → (∀ x18 : Int32, x18 = v2 + 1 → (K68 x18 M))) ∧ (¬ (M.1 (a0 + 28) (v2).toNatClampNeg) ≤ v3 → (vp_in v2 (ln (a0 + 29)) ∧ (vp_in ((M.1 (a0 + 29) (v2).toNatClampNeg) + v3) (ln (a0 + 30)) ∧ (vp_in (M.1 a0 47) (ln (a0 + 32)) ∧ (∀ M19 : zM, M19 = zI M (a0 + 32) ((M.1 a0 47)).toNatClampNeg (vp_nar .byte (M.1 (a0 + 30) (((M.1 (a0 + 29) (v2).toNatClampNeg) + v3)).toNatClampNeg)) → (∀ M20 : zM, M20 = zI M19 a0 47 ((M19.1 a0 47) + 1) → (∀ x21 : Int32, x21 = v3 + 1 → (K78 v2 x21 M20)))))))))) → K78 v2 v3 M) → (∀ (w0 : Int32) (M : zM), ((30000 < (M.1 a0 45) → (post 8 M)) ∧ (¬ 30000 < (M.1 a0 45) → ((w0 < 9 → (post 8 M)) ∧ (¬ w0 < 9 → ((16 < w0 → (post 8 M)) ∧ (¬ 16 < w0 → (Wp_Mo_expand a0 w0 M (fun x9 M8 => ((¬ x9 = 0 → (Wp_Mo_compressRow a0 (a0 + 32) (M8.1 a0 47) w0 M8 (fun M10 => (Wp_Mo_areSame (a0 + 23) (M10.1 a0 27) (a0 + 31) (M10.1 a0 45) M10 (fun x12 M11 => ((¬ x12 = 0 → (Wp_Mo_readTree a0 M11 (fun x14 M13 => ((¬ x14 = 0 → (Wp_Mo_archiveOf a0 2 M13 (fun M15 => (Wp_Mo_areSame (a0 + 22) (M15.1 a0 25) (a0 + 32) (M15.1 a0 47) M15 (fun x17 M16 => ((x17 = 0 → (post 9 M16)) ∧ (¬ x17 = 0 → (post 0 M16)))))))) ∧ (x14 = 0 → (post 9 M13)))))) ∧ (x12 = 0 → (post 8 M11)))))))) ∧ (x9 = 0 → (post 8 M8))))))))))) → K199 w0 M) → (((M.1 a0 38) ≤ 0 → (K15 0 1 M)) ∧ (¬ (M.1 a0 38) ≤ 0 → (K15 1 1 M)))
/-- MailChainModel.unpack()I -/
def Wp_Mo_unpack (a0 : Nat) (M : zM) (post : Int32 → zM → Prop) : Prop := ∀ K40 : Int32 → Int32 → zM → Prop, ∀ K72 : Int32 → Int32 → zM → Prop, (∀ (v1 : Int32) (v2 : Int32) (M : zM), (vp_in (2 : Int32) (ln (a0 + 8)) ∧ (((M.1 (a0 + 8) ((2 : Int32)).toNatClampNeg) ≤ v2 → (K72 v1 0 M)) ∧ (¬ (M.1 (a0 + 8) ((2 : Int32)).toNatClampNeg) ≤ v2 → (Wp_Mo_at 1 v2 M (fun x7 M6 => (Wp_Mo_at 2 v2 M6 (fun x9 M8 => (Wp_Mo_copyEntry a0 x7 x9 M8 (fun M10 => (∀ x11 : Int32, x11 = v2 + 1 → (K40 v1 x11 M10))))))))))) → K40 v1 v2 M) → (∀ (v1 : Int32) (v2 : Int32) (M : zM), (vp_in (2 : Int32) (ln (a0 + 19)) ∧ (((M.1 (a0 + 19) ((2 : Int32)).toNatClampNeg) ≤ v2 → (Wp_Mo_emptyBox a0 M (fun M12 => (post v1 M12)))) ∧ (¬ (M.1 (a0 + 19) ((2 : Int32)).toNatClampNeg) ≤ v2 → (vp_in (40000 + v2) (ln (a0 + 20)) ∧ (vp_in (20000 + v2) (ln (a0 + 20)) ∧ (∀ M13 : zM, M13 = zI M (a0 + 20) ((20000 + v2)).toNatClampNeg (vp_nar .byte (M.1 (a0 + 20) ((40000 + v2)).toNatClampNeg)) → (∀ x14 : Int32, x14 = v2 + 1 → (K72 v1 x14 M13)))))))) → K72 v1 v2 M) → (∀ M1 : zM, M1 = zI M a0 6 0 → (Wp_Mo_unpacked a0 M1 (fun x3 M2 => ((¬ x3 = 0 → (post x3 M2)) ∧ (x3 = 0 → (vp_in (2 : Int32) (ln (a0 + 8)) ∧ (vp_in (1 : Int32) (ln (a0 + 8)) ∧ (∀ M4 : zM, M4 = zI M2 (a0 + 8) ((1 : Int32)).toNatClampNeg (M2.1 (a0 + 8) ((2 : Int32)).toNatClampNeg) → (vp_in (2 : Int32) (ln (a0 + 19)) ∧ (vp_in (1 : Int32) (ln (a0 + 19)) ∧ (∀ M5 : zM, M5 = zI M4 (a0 + 19) ((1 : Int32)).toNatClampNeg (M4.1 (a0 + 19) ((2 : Int32)).toNatClampNeg) → (K40 x3 0 M5))))))))))))
/-- MailChainModel.about(III)I -/
def Wp_Mo_about (a0 : Nat) (i1 : Int32) (i2 : Int32) (i3 : Int32) (M : zM) (post : Int32 → zM → Prop) : Prop := ∀ K14 : Int32 → zM → Prop, ∀ K54 : Int32 → Int32 → zM → Prop, ∀ K76 : Int32 → Nat → zM → Prop, ∀ K101 : Int32 → zM → Prop, (∀ (w0 : Int32) (M : zM), ((w0 = 0 → (K54 w0 0 M)) ∧ (¬ w0 = 0 → ((i2 < 0 → (K54 w0 0 M)) ∧ (¬ i2 < 0 → ((9 < i2 → (K54 w0 0 M)) ∧ (¬ 9 < i2 → ((i2 = 0 → (K54 w0 1 M)) ∧ (¬ i2 = 0 → ((i3 < 0 → (K54 w0 0 M)) ∧ (¬ i3 < 0 → (vp_in i1 (ln (a0 + 8)) ∧ (((M.1 (a0 + 8) (i1).toNatClampNeg) ≤ i3 → (K54 w0 0 M)) ∧ (¬ (M.1 (a0 + 8) (i1).toNatClampNeg) ≤ i3 → (K54 w0 1 M)))))))))))))) → K14 w0 M) → (∀ (v4 : Int32) (w0 : Int32) (M : zM), ((¬ v4 = 0 → ((¬ w0 = 0 → (K76 0 a0 M)) ∧ (w0 = 0 → (K76 2 a0 M)))) ∧ (v4 = 0 → (K76 1 a0 M))) → K54 v4 w0 M) → (∀ (w0 : Int32) (w1 : Nat) (M : zM), w1 < N0 ∧ tg w1 = 9 ∧ (∀ M1 : zM, M1 = zI M w1 6 w0 → (((M1.1 a0 6) ≤ 0 → ((¬ i2 = 0 → (Wp_Mo_at i1 i3 M1 (fun x3 M2 => (K101 x3 M2)))) ∧ (i2 = 0 → (K101 0 M1)))) ∧ (¬ (M1.1 a0 6) ≤ 0 → (post 0 M1)))) → K76 w0 w1 M) → (∀ (w0 : Int32) (M : zM), ((i2 = 0 → (vp_in i1 (ln (a0 + 8)) ∧ (post (M.1 (a0 + 8) (i1).toNatClampNeg) M))) ∧ (i2 = 1 → (vp_in w0 (ln (a0 + 11)) ∧ (post (M.1 (a0 + 11) (w0).toNatClampNeg) M))) ∧ (i2 = 2 → (vp_in w0 (ln (a0 + 12)) ∧ (post (M.1 (a0 + 12) (w0).toNatClampNeg) M))) ∧ (i2 = 3 → (vp_in w0 (ln (a0 + 13)) ∧ (post (M.1 (a0 + 13) (w0).toNatClampNeg) M))) ∧ (i2 = 4 → (vp_in w0 (ln (a0 + 14)) ∧ (post (M.1 (a0 + 14) (w0).toNatClampNeg) M))) ∧ (i2 = 5 → (vp_in w0 (ln (a0 + 15)) ∧ (post (M.1 (a0 + 15) (w0).toNatClampNeg) M))) ∧ (i2 = 6 → (vp_in w0 (ln (a0 + 10)) ∧ (post (M.1 (a0 + 10) (w0).toNatClampNeg) M))) ∧ (i2 = 7 → (vp_in w0 (ln (a0 + 17)) ∧ (post (M.1 (a0 + 17) (w0).toNatClampNeg) M))) ∧ (i2 = 8 → (Wp_Mo_firstOf a0 i1 i3 M (fun x5 M4 => (post x5 M4)))) ∧ (¬ i2 = 0 → ¬ i2 = 1 → ¬ i2 = 2 → ¬ i2 = 3 → ¬ i2 = 4 → ¬ i2 = 5 → ¬ i2 = 6 → ¬ i2 = 7 → ¬ i2 = 8 → (Wp_Mo_linksOf a0 i1 i3 M (fun x7 M6 => (post x7 M6))))) → K101 w0 M) → ((i1 = 0 → (K14 1 M)) ∧ (¬ i1 = 0 → ((¬ i1 = 1 → (K14 0 M)) ∧ (i1 = 1 → (K14 1 M)))))
/-- MailChainModel.byteOf(III)I -/
def Wp_Mo_byteOf (a0 : Nat) (i1 : Int32) (i2 : Int32) (i3 : Int32) (M : zM) (post : Int32 → zM → Prop) : Prop := ∀ K14 : Int32 → zM → Prop, ∀ K69 : Int32 → Int32 → zM → Prop, ∀ K91 : Int32 → Nat → zM → Prop, (∀ (w0 : Int32) (M : zM), ((w0 = 0 → (K69 w0 0 M)) ∧ (¬ w0 = 0 → ((i2 < 0 → (K69 w0 0 M)) ∧ (¬ i2 < 0 → (vp_in i1 (ln (a0 + 8)) ∧ (((M.1 (a0 + 8) (i1).toNatClampNeg) ≤ i2 → (K69 w0 0 M)) ∧ (¬ (M.1 (a0 + 8) (i1).toNatClampNeg) ≤ i2 → ((i3 < 0 → (K69 w0 0 M)) ∧ (¬ i3 < 0 → (Wp_Mo_at i1 i2 M (fun x2 M1 => (vp_in x2 (ln (a0 + 10)) ∧ (Wp_Mo_at i1 i2 M1 (fun x4 M3 => (vp_in x4 (ln (a0 + 17)) ∧ ((((M1.1 (a0 + 10) (x2).toNatClampNeg) + (M3.1 (a0 + 17) (x4).toNatClampNeg)) ≤ i3 → (K69 w0 0 M3)) ∧ (¬ ((M1.1 (a0 + 10) (x2).toNatClampNeg) + (M3.1 (a0 + 17) (x4).toNatClampNeg)) ≤ i3 → (K69 w0 1 M3)))))))))))))))))) → K14 w0 M) → (∀ (v4 : Int32) (w0 : Int32) (M : zM), ((¬ v4 = 0 → ((¬ w0 = 0 → (K91 0 a0 M)) ∧ (w0 = 0 → (K91 2 a0 M)))) ∧ (v4 = 0 → (K91 1 a0 M))) → K69 v4 w0 M) → (∀ (w0 : Int32) (w1 : Nat) (M : zM), w1 < N0 ∧ tg w1 = 9 ∧ (∀ M5 : zM, M5 = zI M w1 6 w0 → (((M5.1 a0 6) ≤ 0 → (Wp_Mo_at i1 i2 M5 (fun x7 M6 => (vp_in x7 (ln (a0 + 10)) ∧ (∀ x8 : Int32, x8 = (M6.1 (a0 + 10) (x7).toNatClampNeg) → ((x8 ≤ i3 → (vp_in x7 (ln (a0 + 16)) ∧ (vp_in ((((20000 * i1) + (M6.1 (a0 + 16) (x7).toNatClampNeg)) + i3) - x8) (ln (a0 + 20)) ∧ (post ((M6.1 (a0 + 20) (((((20000 * i1) + (M6.1 (a0 + 16) (x7).toNatClampNeg)) + i3) - x8)).toNatClampNeg) &&& 255) M6)))) ∧ (¬ x8 ≤ i3 → (vp_in ((60 * x7) + i3) (ln (a0 + 9)) ∧ (post ((M6.1 (a0 + 9) (((60 * x7) + i3)).toNatClampNeg) &&& 255) M6))))))))) ∧ (¬ (M5.1 a0 6) ≤ 0 → (post 0 M5)))) → K91 w0 w1 M) → ((i1 = 0 → (K14 1 M)) ∧ (¬ i1 = 0 → ((¬ i1 = 1 → (K14 0 M)) ∧ (i1 = 1 → (K14 1 M)))))
theorem d_Mo_areLinks_0 : decode b_Mo_areLinks 0 = .ok (.iconst 1, 1) := by decide +kernel
theorem d_Mo_areLinks_1 : decode b_Mo_areLinks 1 = .ok (.istore_n 1, 1) := by decide +kernel
theorem d_Mo_areLinks_2 : decode b_Mo_areLinks 2 = .ok (.iconst 0, 1) := by decide +kernel
theorem d_Mo_areLinks_3 : decode b_Mo_areLinks 3 = .ok (.istore_n 2, 1) := by decide +kernel
theorem d_Mo_areLinks_4 : decode b_Mo_areLinks 4 = .ok (.iload_n 2, 1) := by decide +kernel
theorem d_Mo_areLinks_5 : decode b_Mo_areLinks 5 = .ok (.aload_n 0, 1) := by decide +kernel
theorem d_Mo_areLinks_6 : decode b_Mo_areLinks 6 = .ok (.getfield 31, 3) := by decide +kernel
theorem d_Mo_areLinks_9 : decode b_Mo_areLinks 9 = .ok (.iconst 2, 1) := by decide +kernel
theorem d_Mo_areLinks_10 : decode b_Mo_areLinks 10 = .ok (.iaload, 1) := by decide +kernel
theorem d_Mo_areLinks_11 : decode b_Mo_areLinks 11 = .ok (.if_icmp .ge 185, 3) := by decide +kernel
theorem d_Mo_areLinks_14 : decode b_Mo_areLinks 14 = .ok (.iconst 2, 1) := by decide +kernel
theorem d_Mo_areLinks_15 : decode b_Mo_areLinks 15 = .ok (.iload_n 2, 1) := by decide +kernel
theorem d_Mo_areLinks_16 : decode b_Mo_areLinks 16 = .ok (.invokestatic 138, 3) := by decide +kernel
theorem d_Mo_areLinks_19 : decode b_Mo_areLinks 19 = .ok (.istore_n 3, 1) := by decide +kernel
theorem d_Mo_areLinks_20 : decode b_Mo_areLinks 20 = .ok (.iconst 2, 1) := by decide +kernel
theorem d_Mo_areLinks_21 : decode b_Mo_areLinks 21 = .ok (.aload_n 0, 1) := by decide +kernel
theorem d_Mo_areLinks_22 : decode b_Mo_areLinks 22 = .ok (.iconst 2, 1) := by decide +kernel
theorem d_Mo_areLinks_23 : decode b_Mo_areLinks 23 = .ok (.iload_n 2, 1) := by decide +kernel
theorem d_Mo_areLinks_24 : decode b_Mo_areLinks 24 = .ok (.invokevirtual 206, 3) := by decide +kernel
theorem d_Mo_areLinks_27 : decode b_Mo_areLinks 27 = .ok (.invokestatic 138, 3) := by decide +kernel
theorem d_Mo_areLinks_30 : decode b_Mo_areLinks 30 = .ok (.istore 4, 2) := by decide +kernel
theorem d_Mo_areLinks_32 : decode b_Mo_areLinks 32 = .ok (.iload_n 1, 1) := by decide +kernel
theorem d_Mo_areLinks_33 : decode b_Mo_areLinks 33 = .ok (.ifCond .eq 87, 3) := by decide +kernel
theorem d_Mo_areLinks_36 : decode b_Mo_areLinks 36 = .ok (.aload_n 0, 1) := by decide +kernel
theorem d_Mo_areLinks_37 : decode b_Mo_areLinks 37 = .ok (.getfield 44, 3) := by decide +kernel
theorem d_Mo_areLinks_40 : decode b_Mo_areLinks 40 = .ok (.iload_n 3, 1) := by decide +kernel
theorem d_Mo_areLinks_41 : decode b_Mo_areLinks 41 = .ok (.iaload, 1) := by decide +kernel
theorem d_Mo_areLinks_42 : decode b_Mo_areLinks 42 = .ok (.aload_n 0, 1) := by decide +kernel
theorem d_Mo_areLinks_43 : decode b_Mo_areLinks 43 = .ok (.getfield 44, 3) := by decide +kernel
theorem d_Mo_areLinks_46 : decode b_Mo_areLinks 46 = .ok (.iload 4, 2) := by decide +kernel
theorem d_Mo_areLinks_48 : decode b_Mo_areLinks 48 = .ok (.iaload, 1) := by decide +kernel
theorem d_Mo_areLinks_49 : decode b_Mo_areLinks 49 = .ok (.if_icmp .ne 71, 3) := by decide +kernel
theorem d_Mo_areLinks_52 : decode b_Mo_areLinks 52 = .ok (.aload_n 0, 1) := by decide +kernel
theorem d_Mo_areLinks_53 : decode b_Mo_areLinks 53 = .ok (.getfield 47, 3) := by decide +kernel
theorem d_Mo_areLinks_56 : decode b_Mo_areLinks 56 = .ok (.iload_n 3, 1) := by decide +kernel
theorem d_Mo_areLinks_57 : decode b_Mo_areLinks 57 = .ok (.iaload, 1) := by decide +kernel
theorem d_Mo_areLinks_58 : decode b_Mo_areLinks 58 = .ok (.aload_n 0, 1) := by decide +kernel
theorem d_Mo_areLinks_59 : decode b_Mo_areLinks 59 = .ok (.getfield 47, 3) := by decide +kernel
theorem d_Mo_areLinks_62 : decode b_Mo_areLinks 62 = .ok (.iload 4, 2) := by decide +kernel
theorem d_Mo_areLinks_64 : decode b_Mo_areLinks 64 = .ok (.iaload, 1) := by decide +kernel
theorem d_Mo_areLinks_65 : decode b_Mo_areLinks 65 = .ok (.if_icmp .ne 55, 3) := by decide +kernel
theorem d_Mo_areLinks_68 : decode b_Mo_areLinks 68 = .ok (.aload_n 0, 1) := by decide +kernel
theorem d_Mo_areLinks_69 : decode b_Mo_areLinks 69 = .ok (.getfield 50, 3) := by decide +kernel
theorem d_Mo_areLinks_72 : decode b_Mo_areLinks 72 = .ok (.iload_n 3, 1) := by decide +kernel
theorem d_Mo_areLinks_73 : decode b_Mo_areLinks 73 = .ok (.iaload, 1) := by decide +kernel
theorem d_Mo_areLinks_74 : decode b_Mo_areLinks 74 = .ok (.aload_n 0, 1) := by decide +kernel
theorem d_Mo_areLinks_75 : decode b_Mo_areLinks 75 = .ok (.getfield 50, 3) := by decide +kernel
theorem d_Mo_areLinks_78 : decode b_Mo_areLinks 78 = .ok (.iload 4, 2) := by decide +kernel
theorem d_Mo_areLinks_80 : decode b_Mo_areLinks 80 = .ok (.iaload, 1) := by decide +kernel
theorem d_Mo_areLinks_81 : decode b_Mo_areLinks 81 = .ok (.if_icmp .ne 39, 3) := by decide +kernel
theorem d_Mo_areLinks_84 : decode b_Mo_areLinks 84 = .ok (.aload_n 0, 1) := by decide +kernel
theorem d_Mo_areLinks_85 : decode b_Mo_areLinks 85 = .ok (.getfield 53, 3) := by decide +kernel
theorem d_Mo_areLinks_88 : decode b_Mo_areLinks 88 = .ok (.iload_n 3, 1) := by decide +kernel
theorem d_Mo_areLinks_89 : decode b_Mo_areLinks 89 = .ok (.iaload, 1) := by decide +kernel
theorem d_Mo_areLinks_90 : decode b_Mo_areLinks 90 = .ok (.aload_n 0, 1) := by decide +kernel
theorem d_Mo_areLinks_91 : decode b_Mo_areLinks 91 = .ok (.getfield 53, 3) := by decide +kernel
theorem d_Mo_areLinks_94 : decode b_Mo_areLinks 94 = .ok (.iload 4, 2) := by decide +kernel
theorem d_Mo_areLinks_96 : decode b_Mo_areLinks 96 = .ok (.iaload, 1) := by decide +kernel
theorem d_Mo_areLinks_97 : decode b_Mo_areLinks 97 = .ok (.if_icmp .ne 23, 3) := by decide +kernel
theorem d_Mo_areLinks_100 : decode b_Mo_areLinks 100 = .ok (.aload_n 0, 1) := by decide +kernel
theorem d_Mo_areLinks_101 : decode b_Mo_areLinks 101 = .ok (.getfield 59, 3) := by decide +kernel
theorem d_Mo_areLinks_104 : decode b_Mo_areLinks 104 = .ok (.iload_n 3, 1) := by decide +kernel
theorem d_Mo_areLinks_105 : decode b_Mo_areLinks 105 = .ok (.iaload, 1) := by decide +kernel
theorem d_Mo_areLinks_106 : decode b_Mo_areLinks 106 = .ok (.aload_n 0, 1) := by decide +kernel
theorem d_Mo_areLinks_107 : decode b_Mo_areLinks 107 = .ok (.getfield 59, 3) := by decide +kernel
theorem d_Mo_areLinks_110 : decode b_Mo_areLinks 110 = .ok (.iload 4, 2) := by decide +kernel
theorem d_Mo_areLinks_112 : decode b_Mo_areLinks 112 = .ok (.iaload, 1) := by decide +kernel
theorem d_Mo_areLinks_113 : decode b_Mo_areLinks 113 = .ok (.if_icmp .ne 7, 3) := by decide +kernel
theorem d_Mo_areLinks_116 : decode b_Mo_areLinks 116 = .ok (.iconst 1, 1) := by decide +kernel
theorem d_Mo_areLinks_117 : decode b_Mo_areLinks 117 = .ok (.goto 4, 3) := by decide +kernel
theorem d_Mo_areLinks_120 : decode b_Mo_areLinks 120 = .ok (.iconst 0, 1) := by decide +kernel
theorem d_Mo_areLinks_121 : decode b_Mo_areLinks 121 = .ok (.istore_n 1, 1) := by decide +kernel
theorem d_Mo_areLinks_122 : decode b_Mo_areLinks 122 = .ok (.iconst 0, 1) := by decide +kernel
theorem d_Mo_areLinks_123 : decode b_Mo_areLinks 123 = .ok (.istore 5, 2) := by decide +kernel
theorem d_Mo_areLinks_125 : decode b_Mo_areLinks 125 = .ok (.iload 5, 2) := by decide +kernel
theorem d_Mo_areLinks_127 : decode b_Mo_areLinks 127 = .ok (.aload_n 0, 1) := by decide +kernel
theorem d_Mo_areLinks_128 : decode b_Mo_areLinks 128 = .ok (.getfield 59, 3) := by decide +kernel
theorem d_Mo_areLinks_131 : decode b_Mo_areLinks 131 = .ok (.iload_n 3, 1) := by decide +kernel
theorem d_Mo_areLinks_132 : decode b_Mo_areLinks 132 = .ok (.iaload, 1) := by decide +kernel
theorem d_Mo_areLinks_133 : decode b_Mo_areLinks 133 = .ok (.if_icmp .ge 57, 3) := by decide +kernel
theorem d_Mo_areLinks_136 : decode b_Mo_areLinks 136 = .ok (.iload_n 1, 1) := by decide +kernel
theorem d_Mo_areLinks_137 : decode b_Mo_areLinks 137 = .ok (.ifCond .eq 53, 3) := by decide +kernel
theorem d_Mo_areLinks_140 : decode b_Mo_areLinks 140 = .ok (.aload_n 0, 1) := by decide +kernel
theorem d_Mo_areLinks_141 : decode b_Mo_areLinks 141 = .ok (.getfield 69, 3) := by decide +kernel
theorem d_Mo_areLinks_144 : decode b_Mo_areLinks 144 = .ok (.ldc 78, 2) := by decide +kernel
theorem d_Mo_areLinks_146 : decode b_Mo_areLinks 146 = .ok (.aload_n 0, 1) := by decide +kernel
theorem d_Mo_areLinks_147 : decode b_Mo_areLinks 147 = .ok (.getfield 56, 3) := by decide +kernel
theorem d_Mo_areLinks_150 : decode b_Mo_areLinks 150 = .ok (.iload_n 3, 1) := by decide +kernel
theorem d_Mo_areLinks_151 : decode b_Mo_areLinks 151 = .ok (.iaload, 1) := by decide +kernel
theorem d_Mo_areLinks_152 : decode b_Mo_areLinks 152 = .ok (.iadd, 1) := by decide +kernel
theorem d_Mo_areLinks_153 : decode b_Mo_areLinks 153 = .ok (.iload 5, 2) := by decide +kernel
theorem d_Mo_areLinks_155 : decode b_Mo_areLinks 155 = .ok (.iadd, 1) := by decide +kernel
theorem d_Mo_areLinks_156 : decode b_Mo_areLinks 156 = .ok (.baload, 1) := by decide +kernel
theorem d_Mo_areLinks_157 : decode b_Mo_areLinks 157 = .ok (.aload_n 0, 1) := by decide +kernel
theorem d_Mo_areLinks_158 : decode b_Mo_areLinks 158 = .ok (.getfield 69, 3) := by decide +kernel
theorem d_Mo_areLinks_161 : decode b_Mo_areLinks 161 = .ok (.ldc 78, 2) := by decide +kernel
theorem d_Mo_areLinks_163 : decode b_Mo_areLinks 163 = .ok (.aload_n 0, 1) := by decide +kernel
theorem d_Mo_areLinks_164 : decode b_Mo_areLinks 164 = .ok (.getfield 56, 3) := by decide +kernel
theorem d_Mo_areLinks_167 : decode b_Mo_areLinks 167 = .ok (.iload 4, 2) := by decide +kernel
theorem d_Mo_areLinks_169 : decode b_Mo_areLinks 169 = .ok (.iaload, 1) := by decide +kernel
theorem d_Mo_areLinks_170 : decode b_Mo_areLinks 170 = .ok (.iadd, 1) := by decide +kernel
theorem d_Mo_areLinks_171 : decode b_Mo_areLinks 171 = .ok (.iload 5, 2) := by decide +kernel
theorem d_Mo_areLinks_173 : decode b_Mo_areLinks 173 = .ok (.iadd, 1) := by decide +kernel
theorem d_Mo_areLinks_174 : decode b_Mo_areLinks 174 = .ok (.baload, 1) := by decide +kernel
theorem d_Mo_areLinks_175 : decode b_Mo_areLinks 175 = .ok (.if_icmp .ne 7, 3) := by decide +kernel
theorem d_Mo_areLinks_178 : decode b_Mo_areLinks 178 = .ok (.iconst 1, 1) := by decide +kernel
theorem d_Mo_areLinks_179 : decode b_Mo_areLinks 179 = .ok (.goto 4, 3) := by decide +kernel
theorem d_Mo_areLinks_182 : decode b_Mo_areLinks 182 = .ok (.iconst 0, 1) := by decide +kernel
theorem d_Mo_areLinks_183 : decode b_Mo_areLinks 183 = .ok (.istore_n 1, 1) := by decide +kernel
theorem d_Mo_areLinks_184 : decode b_Mo_areLinks 184 = .ok (.iinc 5 1, 3) := by decide +kernel
theorem d_Mo_areLinks_187 : decode b_Mo_areLinks 187 = .ok (.goto (-62), 3) := by decide +kernel
theorem d_Mo_areLinks_190 : decode b_Mo_areLinks 190 = .ok (.iinc 2 1, 3) := by decide +kernel
theorem d_Mo_areLinks_193 : decode b_Mo_areLinks 193 = .ok (.goto (-189), 3) := by decide +kernel
theorem d_Mo_areLinks_196 : decode b_Mo_areLinks 196 = .ok (.iload_n 1, 1) := by decide +kernel
theorem d_Mo_areLinks_197 : decode b_Mo_areLinks 197 = .ok (.ireturn, 1) := by decide +kernel
theorem d_Mo_readTree_0 : decode b_Mo_readTree 0 = .ok (.aload_n 0, 1) := by decide +kernel
theorem d_Mo_readTree_1 : decode b_Mo_readTree 1 = .ok (.getfield 31, 3) := by decide +kernel
theorem d_Mo_readTree_4 : decode b_Mo_readTree 4 = .ok (.iconst 2, 1) := by decide +kernel
theorem d_Mo_readTree_5 : decode b_Mo_readTree 5 = .ok (.iconst 0, 1) := by decide +kernel
theorem d_Mo_readTree_6 : decode b_Mo_readTree 6 = .ok (.iastore, 1) := by decide +kernel
theorem d_Mo_readTree_7 : decode b_Mo_readTree 7 = .ok (.aload_n 0, 1) := by decide +kernel
theorem d_Mo_readTree_8 : decode b_Mo_readTree 8 = .ok (.getfield 65, 3) := by decide +kernel
theorem d_Mo_readTree_11 : decode b_Mo_readTree 11 = .ok (.iconst 2, 1) := by decide +kernel
theorem d_Mo_readTree_12 : decode b_Mo_readTree 12 = .ok (.iconst 0, 1) := by decide +kernel
theorem d_Mo_readTree_13 : decode b_Mo_readTree 13 = .ok (.iastore, 1) := by decide +kernel
theorem d_Mo_readTree_14 : decode b_Mo_readTree 14 = .ok (.iconst 0, 1) := by decide +kernel
theorem d_Mo_readTree_15 : decode b_Mo_readTree 15 = .ok (.istore_n 1, 1) := by decide +kernel
theorem d_Mo_readTree_16 : decode b_Mo_readTree 16 = .ok (.iload_n 1, 1) := by decide +kernel
theorem d_Mo_readTree_17 : decode b_Mo_readTree 17 = .ok (.bipush 76, 2) := by decide +kernel
theorem d_Mo_readTree_19 : decode b_Mo_readTree 19 = .ok (.iadd, 1) := by decide +kernel
theorem d_Mo_readTree_20 : decode b_Mo_readTree 20 = .ok (.aload_n 0, 1) := by decide +kernel
theorem d_Mo_readTree_21 : decode b_Mo_readTree 21 = .ok (.getfield 262, 3) := by decide +kernel
theorem d_Mo_readTree_24 : decode b_Mo_readTree 24 = .ok (.if_icmp .gt 320, 3) := by decide +kernel
theorem d_Mo_readTree_27 : decode b_Mo_readTree 27 = .ok (.aload_n 0, 1) := by decide +kernel
theorem d_Mo_readTree_28 : decode b_Mo_readTree 28 = .ok (.iload_n 1, 1) := by decide +kernel
theorem d_Mo_readTree_29 : decode b_Mo_readTree 29 = .ok (.bipush 12, 2) := by decide +kernel
theorem d_Mo_readTree_31 : decode b_Mo_readTree 31 = .ok (.iadd, 1) := by decide +kernel
theorem d_Mo_readTree_32 : decode b_Mo_readTree 32 = .ok (.bipush 6, 2) := by decide +kernel
theorem d_Mo_readTree_34 : decode b_Mo_readTree 34 = .ok (.invokevirtual 381, 3) := by decide +kernel
theorem d_Mo_readTree_37 : decode b_Mo_readTree 37 = .ok (.lconst 0, 1) := by decide +kernel
theorem d_Mo_readTree_38 : decode b_Mo_readTree 38 = .ok (.lcmp, 1) := by decide +kernel
theorem d_Mo_readTree_39 : decode b_Mo_readTree 39 = .ok (.ifCond .eq 305, 3) := by decide +kernel
theorem d_Mo_readTree_42 : decode b_Mo_readTree 42 = .ok (.aload_n 0, 1) := by decide +kernel
theorem d_Mo_readTree_43 : decode b_Mo_readTree 43 = .ok (.iload_n 1, 1) := by decide +kernel
theorem d_Mo_readTree_44 : decode b_Mo_readTree 44 = .ok (.bipush 59, 2) := by decide +kernel
theorem d_Mo_readTree_46 : decode b_Mo_readTree 46 = .ok (.iadd, 1) := by decide +kernel
theorem d_Mo_readTree_47 : decode b_Mo_readTree 47 = .ok (.bipush 6, 2) := by decide +kernel
theorem d_Mo_readTree_49 : decode b_Mo_readTree 49 = .ok (.invokevirtual 381, 3) := by decide +kernel
theorem d_Mo_readTree_52 : decode b_Mo_readTree 52 = .ok (.l2i, 1) := by decide +kernel
theorem d_Mo_readTree_53 : decode b_Mo_readTree 53 = .ok (.iconst 1, 1) := by decide +kernel
theorem d_Mo_readTree_54 : decode b_Mo_readTree 54 = .ok (.isub, 1) := by decide +kernel
theorem d_Mo_readTree_55 : decode b_Mo_readTree 55 = .ok (.istore_n 2, 1) := by decide +kernel
theorem d_Mo_readTree_56 : decode b_Mo_readTree 56 = .ok (.aload_n 0, 1) := by decide +kernel
theorem d_Mo_readTree_57 : decode b_Mo_readTree 57 = .ok (.iload_n 1, 1) := by decide +kernel
theorem d_Mo_readTree_58 : decode b_Mo_readTree 58 = .ok (.bipush 65, 2) := by decide +kernel
theorem d_Mo_readTree_60 : decode b_Mo_readTree 60 = .ok (.iadd, 1) := by decide +kernel
theorem d_Mo_readTree_61 : decode b_Mo_readTree 61 = .ok (.bipush 11, 2) := by decide +kernel
theorem d_Mo_readTree_63 : decode b_Mo_readTree 63 = .ok (.invokevirtual 381, 3) := by decide +kernel
theorem d_Mo_readTree_66 : decode b_Mo_readTree 66 = .ok (.lstore_n 3, 1) := by decide +kernel
theorem d_Mo_readTree_67 : decode b_Mo_readTree 67 = .ok (.iload_n 2, 1) := by decide +kernel
theorem d_Mo_readTree_68 : decode b_Mo_readTree 68 = .ok (.iconst 1, 1) := by decide +kernel
theorem d_Mo_readTree_69 : decode b_Mo_readTree 69 = .ok (.if_icmp .lt 48, 3) := by decide +kernel
theorem d_Mo_readTree_72 : decode b_Mo_readTree 72 = .ok (.iload_n 2, 1) := by decide +kernel
theorem d_Mo_readTree_73 : decode b_Mo_readTree 73 = .ok (.bipush 60, 2) := by decide +kernel
theorem d_Mo_readTree_75 : decode b_Mo_readTree 75 = .ok (.if_icmp .gt 42, 3) := by decide +kernel
theorem d_Mo_readTree_78 : decode b_Mo_readTree 78 = .ok (.lload_n 3, 1) := by decide +kernel
theorem d_Mo_readTree_79 : decode b_Mo_readTree 79 = .ok (.ldc2_w 385, 3) := by decide +kernel
theorem d_Mo_readTree_82 : decode b_Mo_readTree 82 = .ok (.lcmp, 1) := by decide +kernel
theorem d_Mo_readTree_83 : decode b_Mo_readTree 83 = .ok (.ifCond .gt 34, 3) := by decide +kernel
theorem d_Mo_readTree_86 : decode b_Mo_readTree 86 = .ok (.iload_n 1, 1) := by decide +kernel
theorem d_Mo_readTree_87 : decode b_Mo_readTree 87 = .ok (.bipush 76, 2) := by decide +kernel
theorem d_Mo_readTree_89 : decode b_Mo_readTree 89 = .ok (.iadd, 1) := by decide +kernel
theorem d_Mo_readTree_90 : decode b_Mo_readTree 90 = .ok (.iload_n 2, 1) := by decide +kernel
theorem d_Mo_readTree_91 : decode b_Mo_readTree 91 = .ok (.iadd, 1) := by decide +kernel
theorem d_Mo_readTree_92 : decode b_Mo_readTree 92 = .ok (.iconst 1, 1) := by decide +kernel
theorem d_Mo_readTree_93 : decode b_Mo_readTree 93 = .ok (.iadd, 1) := by decide +kernel
theorem d_Mo_readTree_94 : decode b_Mo_readTree 94 = .ok (.i2l, 1) := by decide +kernel
theorem d_Mo_readTree_95 : decode b_Mo_readTree 95 = .ok (.lload_n 3, 1) := by decide +kernel
theorem d_Mo_readTree_96 : decode b_Mo_readTree 96 = .ok (.ladd, 1) := by decide +kernel
theorem d_Mo_readTree_97 : decode b_Mo_readTree 97 = .ok (.aload_n 0, 1) := by decide +kernel
theorem d_Mo_readTree_98 : decode b_Mo_readTree 98 = .ok (.getfield 262, 3) := by decide +kernel
theorem d_Mo_readTree_101 : decode b_Mo_readTree 101 = .ok (.i2l, 1) := by decide +kernel
theorem d_Mo_readTree_102 : decode b_Mo_readTree 102 = .ok (.lcmp, 1) := by decide +kernel
theorem d_Mo_readTree_103 : decode b_Mo_readTree 103 = .ok (.ifCond .gt 14, 3) := by decide +kernel
theorem d_Mo_readTree_106 : decode b_Mo_readTree 106 = .ok (.aload_n 0, 1) := by decide +kernel
theorem d_Mo_readTree_107 : decode b_Mo_readTree 107 = .ok (.getfield 31, 3) := by decide +kernel
theorem d_Mo_readTree_110 : decode b_Mo_readTree 110 = .ok (.iconst 2, 1) := by decide +kernel
theorem d_Mo_readTree_111 : decode b_Mo_readTree 111 = .ok (.iaload, 1) := by decide +kernel
theorem d_Mo_readTree_112 : decode b_Mo_readTree 112 = .ok (.bipush 40, 2) := by decide +kernel
theorem d_Mo_readTree_114 : decode b_Mo_readTree 114 = .ok (.if_icmp .ne 5, 3) := by decide +kernel
theorem d_Mo_readTree_117 : decode b_Mo_readTree 117 = .ok (.iconst 0, 1) := by decide +kernel
theorem d_Mo_readTree_118 : decode b_Mo_readTree 118 = .ok (.ireturn, 1) := by decide +kernel
theorem d_Mo_readTree_119 : decode b_Mo_readTree 119 = .ok (.aload_n 0, 1) := by decide +kernel
theorem d_Mo_readTree_120 : decode b_Mo_readTree 120 = .ok (.aload_n 0, 1) := by decide +kernel
theorem d_Mo_readTree_121 : decode b_Mo_readTree 121 = .ok (.getfield 109, 3) := by decide +kernel
theorem d_Mo_readTree_124 : decode b_Mo_readTree 124 = .ok (.iload_n 1, 1) := by decide +kernel
theorem d_Mo_readTree_125 : decode b_Mo_readTree 125 = .ok (.bipush 76, 2) := by decide +kernel
theorem d_Mo_readTree_127 : decode b_Mo_readTree 127 = .ok (.iadd, 1) := by decide +kernel
theorem d_Mo_readTree_128 : decode b_Mo_readTree 128 = .ok (.iload_n 2, 1) := by decide +kernel
theorem d_Mo_readTree_129 : decode b_Mo_readTree 129 = .ok (.invokevirtual 160, 3) := by decide +kernel
theorem d_Mo_readTree_132 : decode b_Mo_readTree 132 = .ok (.aload_n 0, 1) := by decide +kernel
theorem d_Mo_readTree_133 : decode b_Mo_readTree 133 = .ok (.iload_n 1, 1) := by decide +kernel
theorem d_Mo_readTree_134 : decode b_Mo_readTree 134 = .ok (.bipush 18, 2) := by decide +kernel
theorem d_Mo_readTree_136 : decode b_Mo_readTree 136 = .ok (.iadd, 1) := by decide +kernel
theorem d_Mo_readTree_137 : decode b_Mo_readTree 137 = .ok (.bipush 6, 2) := by decide +kernel
theorem d_Mo_readTree_139 : decode b_Mo_readTree 139 = .ok (.invokevirtual 381, 3) := by decide +kernel
theorem d_Mo_readTree_142 : decode b_Mo_readTree 142 = .ok (.l2i, 1) := by decide +kernel
theorem d_Mo_readTree_143 : decode b_Mo_readTree 143 = .ok (.istore 5, 2) := by decide +kernel
theorem d_Mo_readTree_145 : decode b_Mo_readTree 145 = .ok (.aload_n 0, 1) := by decide +kernel
theorem d_Mo_readTree_146 : decode b_Mo_readTree 146 = .ok (.iload_n 1, 1) := by decide +kernel
theorem d_Mo_readTree_147 : decode b_Mo_readTree 147 = .ok (.bipush 48, 2) := by decide +kernel
theorem d_Mo_readTree_149 : decode b_Mo_readTree 149 = .ok (.iadd, 1) := by decide +kernel
theorem d_Mo_readTree_150 : decode b_Mo_readTree 150 = .ok (.bipush 11, 2) := by decide +kernel
theorem d_Mo_readTree_152 : decode b_Mo_readTree 152 = .ok (.invokevirtual 381, 3) := by decide +kernel
theorem d_Mo_readTree_155 : decode b_Mo_readTree 155 = .ok (.lstore 6, 2) := by decide +kernel
theorem d_Mo_readTree_157 : decode b_Mo_readTree 157 = .ok (.iload 5, 2) := by decide +kernel
theorem d_Mo_readTree_159 : decode b_Mo_readTree 159 = .ok (.bipush 12, 2) := by decide +kernel
theorem d_Mo_readTree_161 : decode b_Mo_readTree 161 = .ok (.ishr, 1) := by decide +kernel
theorem d_Mo_readTree_162 : decode b_Mo_readTree 162 = .ok (.iconst 4, 1) := by decide +kernel
theorem d_Mo_readTree_163 : decode b_Mo_readTree 163 = .ok (.if_icmp .ne 7, 3) := by decide +kernel
theorem d_Mo_readTree_166 : decode b_Mo_readTree 166 = .ok (.iconst 0, 1) := by decide +kernel
theorem d_Mo_readTree_167 : decode b_Mo_readTree 167 = .ok (.goto 18, 3) := by decide +kernel
theorem d_Mo_readTree_170 : decode b_Mo_readTree 170 = .ok (.iload 5, 2) := by decide +kernel
theorem d_Mo_readTree_172 : decode b_Mo_readTree 172 = .ok (.bipush 12, 2) := by decide +kernel
theorem d_Mo_readTree_174 : decode b_Mo_readTree 174 = .ok (.ishr, 1) := by decide +kernel
theorem d_Mo_readTree_175 : decode b_Mo_readTree 175 = .ok (.bipush 8, 2) := by decide +kernel
theorem d_Mo_readTree_177 : decode b_Mo_readTree 177 = .ok (.if_icmp .ne 7, 3) := by decide +kernel
theorem d_Mo_readTree_180 : decode b_Mo_readTree 180 = .ok (.iconst 1, 1) := by decide +kernel
theorem d_Mo_readTree_181 : decode b_Mo_readTree 181 = .ok (.goto 4, 3) := by decide +kernel
theorem d_Mo_readTree_184 : decode b_Mo_readTree 184 = .ok (.iconst 2, 1) := by decide +kernel
theorem d_Mo_readTree_185 : decode b_Mo_readTree 185 = .ok (.istore 8, 2) := by decide +kernel
theorem d_Mo_readTree_187 : decode b_Mo_readTree 187 = .ok (.aload_n 0, 1) := by decide +kernel
theorem d_Mo_readTree_188 : decode b_Mo_readTree 188 = .ok (.getfield 31, 3) := by decide +kernel
theorem d_Mo_readTree_191 : decode b_Mo_readTree 191 = .ok (.iconst 2, 1) := by decide +kernel
theorem d_Mo_readTree_192 : decode b_Mo_readTree 192 = .ok (.iaload, 1) := by decide +kernel
theorem d_Mo_readTree_193 : decode b_Mo_readTree 193 = .ok (.ifCond .eq 23, 3) := by decide +kernel
theorem d_Mo_readTree_196 : decode b_Mo_readTree 196 = .ok (.aload_n 0, 1) := by decide +kernel
theorem d_Mo_readTree_197 : decode b_Mo_readTree 197 = .ok (.iconst 2, 1) := by decide +kernel
theorem d_Mo_readTree_198 : decode b_Mo_readTree 198 = .ok (.aload_n 0, 1) := by decide +kernel
theorem d_Mo_readTree_199 : decode b_Mo_readTree 199 = .ok (.getfield 31, 3) := by decide +kernel
theorem d_Mo_readTree_202 : decode b_Mo_readTree 202 = .ok (.iconst 2, 1) := by decide +kernel
theorem d_Mo_readTree_203 : decode b_Mo_readTree 203 = .ok (.iaload, 1) := by decide +kernel
theorem d_Mo_readTree_204 : decode b_Mo_readTree 204 = .ok (.iconst 1, 1) := by decide +kernel
theorem d_Mo_readTree_205 : decode b_Mo_readTree 205 = .ok (.isub, 1) := by decide +kernel
theorem d_Mo_readTree_206 : decode b_Mo_readTree 206 = .ok (.invokestatic 138, 3) := by decide +kernel
theorem d_Mo_readTree_209 : decode b_Mo_readTree 209 = .ok (.iload_n 2, 1) := by decide +kernel
theorem d_Mo_readTree_210 : decode b_Mo_readTree 210 = .ok (.invokevirtual 142, 3) := by decide +kernel
theorem d_Mo_readTree_213 : decode b_Mo_readTree 213 = .ok (.ifCond .ge 7, 3) := by decide +kernel
theorem d_Mo_readTree_216 : decode b_Mo_readTree 216 = .ok (.iconst 1, 1) := by decide +kernel
theorem d_Mo_readTree_217 : decode b_Mo_readTree 217 = .ok (.goto 4, 3) := by decide +kernel
theorem d_Mo_readTree_220 : decode b_Mo_readTree 220 = .ok (.iconst 0, 1) := by decide +kernel
theorem d_Mo_readTree_221 : decode b_Mo_readTree 221 = .ok (.istore 9, 2) := by decide +kernel
theorem d_Mo_readTree_223 : decode b_Mo_readTree 223 = .ok (.aload_n 0, 1) := by decide +kernel
theorem d_Mo_readTree_224 : decode b_Mo_readTree 224 = .ok (.invokevirtual 168, 3) := by decide +kernel
theorem d_Mo_readTree_227 : decode b_Mo_readTree 227 = .ok (.ifCond .eq 25, 3) := by decide +kernel
theorem d_Mo_readTree_230 : decode b_Mo_readTree 230 = .ok (.aload_n 0, 1) := by decide +kernel
theorem d_Mo_readTree_231 : decode b_Mo_readTree 231 = .ok (.iconst 2, 1) := by decide +kernel
theorem d_Mo_readTree_232 : decode b_Mo_readTree 232 = .ok (.invokevirtual 172, 3) := by decide +kernel
theorem d_Mo_readTree_235 : decode b_Mo_readTree 235 = .ok (.ifCond .eq 17, 3) := by decide +kernel
theorem d_Mo_readTree_238 : decode b_Mo_readTree 238 = .ok (.iload 9, 2) := by decide +kernel
theorem d_Mo_readTree_240 : decode b_Mo_readTree 240 = .ok (.ifCond .eq 12, 3) := by decide +kernel
theorem d_Mo_readTree_243 : decode b_Mo_readTree 243 = .ok (.lload 6, 2) := by decide +kernel
theorem d_Mo_readTree_245 : decode b_Mo_readTree 245 = .ok (.ldc2_w 387, 3) := by decide +kernel
theorem d_Mo_readTree_248 : decode b_Mo_readTree 248 = .ok (.lcmp, 1) := by decide +kernel
theorem d_Mo_readTree_249 : decode b_Mo_readTree 249 = .ok (.ifCond .le 5, 3) := by decide +kernel
theorem d_Mo_readTree_252 : decode b_Mo_readTree 252 = .ok (.iconst 0, 1) := by decide +kernel
theorem d_Mo_readTree_253 : decode b_Mo_readTree 253 = .ok (.ireturn, 1) := by decide +kernel
theorem d_Mo_readTree_254 : decode b_Mo_readTree 254 = .ok (.iload 8, 2) := by decide +kernel
theorem d_Mo_readTree_256 : decode b_Mo_readTree 256 = .ok (.ifCond .ne 9, 3) := by decide +kernel
theorem d_Mo_readTree_259 : decode b_Mo_readTree 259 = .ok (.lload_n 3, 1) := by decide +kernel
theorem d_Mo_readTree_260 : decode b_Mo_readTree 260 = .ok (.lconst 0, 1) := by decide +kernel
theorem d_Mo_readTree_261 : decode b_Mo_readTree 261 = .ok (.lcmp, 1) := by decide +kernel
theorem d_Mo_readTree_262 : decode b_Mo_readTree 262 = .ok (.ifCond .gt 50, 3) := by decide +kernel
theorem d_Mo_readTree_265 : decode b_Mo_readTree 265 = .ok (.iload 8, 2) := by decide +kernel
theorem d_Mo_readTree_267 : decode b_Mo_readTree 267 = .ok (.iconst 2, 1) := by decide +kernel
theorem d_Mo_readTree_268 : decode b_Mo_readTree 268 = .ok (.if_icmp .ne 23, 3) := by decide +kernel
theorem d_Mo_readTree_271 : decode b_Mo_readTree 271 = .ok (.aload_n 0, 1) := by decide +kernel
theorem d_Mo_readTree_272 : decode b_Mo_readTree 272 = .ok (.getfield 109, 3) := by decide +kernel
theorem d_Mo_readTree_275 : decode b_Mo_readTree 275 = .ok (.iload_n 1, 1) := by decide +kernel
theorem d_Mo_readTree_276 : decode b_Mo_readTree 276 = .ok (.bipush 76, 2) := by decide +kernel
theorem d_Mo_readTree_278 : decode b_Mo_readTree 278 = .ok (.iadd, 1) := by decide +kernel
theorem d_Mo_readTree_279 : decode b_Mo_readTree 279 = .ok (.iload_n 2, 1) := by decide +kernel
theorem d_Mo_readTree_280 : decode b_Mo_readTree 280 = .ok (.iadd, 1) := by decide +kernel
theorem d_Mo_readTree_281 : decode b_Mo_readTree 281 = .ok (.iconst 1, 1) := by decide +kernel
theorem d_Mo_readTree_282 : decode b_Mo_readTree 282 = .ok (.iadd, 1) := by decide +kernel
theorem d_Mo_readTree_283 : decode b_Mo_readTree 283 = .ok (.lload_n 3, 1) := by decide +kernel
theorem d_Mo_readTree_284 : decode b_Mo_readTree 284 = .ok (.l2i, 1) := by decide +kernel
theorem d_Mo_readTree_285 : decode b_Mo_readTree 285 = .ok (.invokestatic 152, 3) := by decide +kernel
theorem d_Mo_readTree_288 : decode b_Mo_readTree 288 = .ok (.ifCond .eq 24, 3) := by decide +kernel
theorem d_Mo_readTree_291 : decode b_Mo_readTree 291 = .ok (.iload 8, 2) := by decide +kernel
theorem d_Mo_readTree_293 : decode b_Mo_readTree 293 = .ok (.iconst 1, 1) := by decide +kernel
theorem d_Mo_readTree_294 : decode b_Mo_readTree 294 = .ok (.if_icmp .ne 20, 3) := by decide +kernel
theorem d_Mo_readTree_297 : decode b_Mo_readTree 297 = .ok (.aload_n 0, 1) := by decide +kernel
theorem d_Mo_readTree_298 : decode b_Mo_readTree 298 = .ok (.iconst 2, 1) := by decide +kernel
theorem d_Mo_readTree_299 : decode b_Mo_readTree 299 = .ok (.invokevirtual 175, 3) := by decide +kernel
theorem d_Mo_readTree_302 : decode b_Mo_readTree 302 = .ok (.i2l, 1) := by decide +kernel
theorem d_Mo_readTree_303 : decode b_Mo_readTree 303 = .ok (.lload_n 3, 1) := by decide +kernel
theorem d_Mo_readTree_304 : decode b_Mo_readTree 304 = .ok (.ladd, 1) := by decide +kernel
theorem d_Mo_readTree_305 : decode b_Mo_readTree 305 = .ok (.ldc2_w 385, 3) := by decide +kernel
theorem d_Mo_readTree_308 : decode b_Mo_readTree 308 = .ok (.lcmp, 1) := by decide +kernel
theorem d_Mo_readTree_309 : decode b_Mo_readTree 309 = .ok (.ifCond .le 5, 3) := by decide +kernel
theorem d_Mo_readTree_312 : decode b_Mo_readTree 312 = .ok (.iconst 0, 1) := by decide +kernel
theorem d_Mo_readTree_313 : decode b_Mo_readTree 313 = .ok (.ireturn, 1) := by decide +kernel
theorem d_Mo_readTree_314 : decode b_Mo_readTree 314 = .ok (.aload_n 0, 1) := by decide +kernel
theorem d_Mo_readTree_315 : decode b_Mo_readTree 315 = .ok (.iload_n 1, 1) := by decide +kernel
theorem d_Mo_readTree_316 : decode b_Mo_readTree 316 = .ok (.iload_n 2, 1) := by decide +kernel
theorem d_Mo_readTree_317 : decode b_Mo_readTree 317 = .ok (.lload_n 3, 1) := by decide +kernel
theorem d_Mo_readTree_318 : decode b_Mo_readTree 318 = .ok (.l2i, 1) := by decide +kernel
theorem d_Mo_readTree_319 : decode b_Mo_readTree 319 = .ok (.iload 8, 2) := by decide +kernel
theorem d_Mo_readTree_321 : decode b_Mo_readTree 321 = .ok (.iload 5, 2) := by decide +kernel
theorem d_Mo_readTree_323 : decode b_Mo_readTree 323 = .ok (.lload 6, 2) := by decide +kernel
theorem d_Mo_readTree_325 : decode b_Mo_readTree 325 = .ok (.l2i, 1) := by decide +kernel
theorem d_Mo_readTree_326 : decode b_Mo_readTree 326 = .ok (.invokevirtual 389, 3) := by decide +kernel
theorem d_Mo_readTree_329 : decode b_Mo_readTree 329 = .ok (.iload_n 1, 1) := by decide +kernel
theorem d_Mo_readTree_330 : decode b_Mo_readTree 330 = .ok (.bipush 76, 2) := by decide +kernel
theorem d_Mo_readTree_332 : decode b_Mo_readTree 332 = .ok (.iadd, 1) := by decide +kernel
theorem d_Mo_readTree_333 : decode b_Mo_readTree 333 = .ok (.iload_n 2, 1) := by decide +kernel
theorem d_Mo_readTree_334 : decode b_Mo_readTree 334 = .ok (.iadd, 1) := by decide +kernel
theorem d_Mo_readTree_335 : decode b_Mo_readTree 335 = .ok (.iconst 1, 1) := by decide +kernel
theorem d_Mo_readTree_336 : decode b_Mo_readTree 336 = .ok (.iadd, 1) := by decide +kernel
theorem d_Mo_readTree_337 : decode b_Mo_readTree 337 = .ok (.lload_n 3, 1) := by decide +kernel
theorem d_Mo_readTree_338 : decode b_Mo_readTree 338 = .ok (.l2i, 1) := by decide +kernel
theorem d_Mo_readTree_339 : decode b_Mo_readTree 339 = .ok (.iadd, 1) := by decide +kernel
theorem d_Mo_readTree_340 : decode b_Mo_readTree 340 = .ok (.istore_n 1, 1) := by decide +kernel
theorem d_Mo_readTree_341 : decode b_Mo_readTree 341 = .ok (.goto (-325), 3) := by decide +kernel
theorem d_Mo_readTree_344 : decode b_Mo_readTree 344 = .ok (.aload_n 0, 1) := by decide +kernel
theorem d_Mo_readTree_345 : decode b_Mo_readTree 345 = .ok (.invokevirtual 393, 3) := by decide +kernel
theorem d_Mo_readTree_348 : decode b_Mo_readTree 348 = .ok (.ireturn, 1) := by decide +kernel
theorem d_Mo_unpacked_0 : decode b_Mo_unpacked 0 = .ok (.aload_n 0, 1) := by decide +kernel
theorem d_Mo_unpacked_1 : decode b_Mo_unpacked 1 = .ok (.getfield 357, 3) := by decide +kernel
theorem d_Mo_unpacked_4 : decode b_Mo_unpacked 4 = .ok (.ifCond .le 7, 3) := by decide +kernel
theorem d_Mo_unpacked_7 : decode b_Mo_unpacked 7 = .ok (.iconst 1, 1) := by decide +kernel
theorem d_Mo_unpacked_8 : decode b_Mo_unpacked 8 = .ok (.goto 4, 3) := by decide +kernel
theorem d_Mo_unpacked_11 : decode b_Mo_unpacked 11 = .ok (.iconst 0, 1) := by decide +kernel
theorem d_Mo_unpacked_12 : decode b_Mo_unpacked 12 = .ok (.istore_n 1, 1) := by decide +kernel
theorem d_Mo_unpacked_13 : decode b_Mo_unpacked 13 = .ok (.iconst 1, 1) := by decide +kernel
theorem d_Mo_unpacked_14 : decode b_Mo_unpacked 14 = .ok (.istore_n 2, 1) := by decide +kernel
theorem d_Mo_unpacked_15 : decode b_Mo_unpacked 15 = .ok (.iload_n 2, 1) := by decide +kernel
theorem d_Mo_unpacked_16 : decode b_Mo_unpacked 16 = .ok (.aload_n 0, 1) := by decide +kernel
theorem d_Mo_unpacked_17 : decode b_Mo_unpacked 17 = .ok (.getfield 360, 3) := by decide +kernel
theorem d_Mo_unpacked_20 : decode b_Mo_unpacked 20 = .ok (.if_icmp .gt 20, 3) := by decide +kernel
theorem d_Mo_unpacked_23 : decode b_Mo_unpacked 23 = .ok (.iload_n 1, 1) := by decide +kernel
theorem d_Mo_unpacked_24 : decode b_Mo_unpacked 24 = .ok (.ifCond .eq 16, 3) := by decide +kernel
theorem d_Mo_unpacked_27 : decode b_Mo_unpacked 27 = .ok (.aload_n 0, 1) := by decide +kernel
theorem d_Mo_unpacked_28 : decode b_Mo_unpacked 28 = .ok (.getfield 92, 3) := by decide +kernel
theorem d_Mo_unpacked_31 : decode b_Mo_unpacked 31 = .ok (.iload_n 2, 1) := by decide +kernel
theorem d_Mo_unpacked_32 : decode b_Mo_unpacked 32 = .ok (.baload, 1) := by decide +kernel
theorem d_Mo_unpacked_33 : decode b_Mo_unpacked 33 = .ok (.istore_n 1, 1) := by decide +kernel
theorem d_Mo_unpacked_34 : decode b_Mo_unpacked 34 = .ok (.iinc 2 1, 3) := by decide +kernel
theorem d_Mo_unpacked_37 : decode b_Mo_unpacked 37 = .ok (.goto (-22), 3) := by decide +kernel
theorem d_Mo_unpacked_40 : decode b_Mo_unpacked 40 = .ok (.iload_n 1, 1) := by decide +kernel
theorem d_Mo_unpacked_41 : decode b_Mo_unpacked 41 = .ok (.ifCond .ne 6, 3) := by decide +kernel
theorem d_Mo_unpacked_44 : decode b_Mo_unpacked 44 = .ok (.bipush 6, 2) := by decide +kernel
theorem d_Mo_unpacked_46 : decode b_Mo_unpacked 46 = .ok (.ireturn, 1) := by decide +kernel
theorem d_Mo_unpacked_47 : decode b_Mo_unpacked 47 = .ok (.aload_n 0, 1) := by decide +kernel
theorem d_Mo_unpacked_48 : decode b_Mo_unpacked 48 = .ok (.getfield 367, 3) := by decide +kernel
theorem d_Mo_unpacked_51 : decode b_Mo_unpacked 51 = .ok (.ldc2_w 353, 3) := by decide +kernel
theorem d_Mo_unpacked_54 : decode b_Mo_unpacked 54 = .ok (.lcmp, 1) := by decide +kernel
theorem d_Mo_unpacked_55 : decode b_Mo_unpacked 55 = .ok (.ifCond .le 6, 3) := by decide +kernel
theorem d_Mo_unpacked_58 : decode b_Mo_unpacked 58 = .ok (.bipush 7, 2) := by decide +kernel
theorem d_Mo_unpacked_60 : decode b_Mo_unpacked 60 = .ok (.ireturn, 1) := by decide +kernel
theorem d_Mo_unpacked_61 : decode b_Mo_unpacked 61 = .ok (.aload_n 0, 1) := by decide +kernel
theorem d_Mo_unpacked_62 : decode b_Mo_unpacked 62 = .ok (.iconst 0, 1) := by decide +kernel
theorem d_Mo_unpacked_63 : decode b_Mo_unpacked 63 = .ok (.putfield 262, 3) := by decide +kernel
theorem d_Mo_unpacked_66 : decode b_Mo_unpacked 66 = .ok (.iconst 1, 1) := by decide +kernel
theorem d_Mo_unpacked_67 : decode b_Mo_unpacked 67 = .ok (.istore_n 2, 1) := by decide +kernel
theorem d_Mo_unpacked_68 : decode b_Mo_unpacked 68 = .ok (.iload_n 2, 1) := by decide +kernel
theorem d_Mo_unpacked_69 : decode b_Mo_unpacked 69 = .ok (.aload_n 0, 1) := by decide +kernel
theorem d_Mo_unpacked_70 : decode b_Mo_unpacked 70 = .ok (.getfield 360, 3) := by decide +kernel
theorem d_Mo_unpacked_73 : decode b_Mo_unpacked 73 = .ok (.if_icmp .gt 59, 3) := by decide +kernel
theorem d_Mo_unpacked_76 : decode b_Mo_unpacked 76 = .ok (.iconst 0, 1) := by decide +kernel
theorem d_Mo_unpacked_77 : decode b_Mo_unpacked 77 = .ok (.istore_n 3, 1) := by decide +kernel
theorem d_Mo_unpacked_78 : decode b_Mo_unpacked 78 = .ok (.iload_n 3, 1) := by decide +kernel
theorem d_Mo_unpacked_79 : decode b_Mo_unpacked 79 = .ok (.aload_n 0, 1) := by decide +kernel
theorem d_Mo_unpacked_80 : decode b_Mo_unpacked 80 = .ok (.getfield 96, 3) := by decide +kernel
theorem d_Mo_unpacked_83 : decode b_Mo_unpacked 83 = .ok (.iload_n 2, 1) := by decide +kernel
theorem d_Mo_unpacked_84 : decode b_Mo_unpacked 84 = .ok (.iaload, 1) := by decide +kernel
theorem d_Mo_unpacked_85 : decode b_Mo_unpacked 85 = .ok (.if_icmp .ge 41, 3) := by decide +kernel
theorem d_Mo_unpacked_88 : decode b_Mo_unpacked 88 = .ok (.aload_n 0, 1) := by decide +kernel
theorem d_Mo_unpacked_89 : decode b_Mo_unpacked 89 = .ok (.getfield 109, 3) := by decide +kernel
theorem d_Mo_unpacked_92 : decode b_Mo_unpacked 92 = .ok (.aload_n 0, 1) := by decide +kernel
theorem d_Mo_unpacked_93 : decode b_Mo_unpacked 93 = .ok (.getfield 262, 3) := by decide +kernel
theorem d_Mo_unpacked_96 : decode b_Mo_unpacked 96 = .ok (.aload_n 0, 1) := by decide +kernel
theorem d_Mo_unpacked_97 : decode b_Mo_unpacked 97 = .ok (.getfield 103, 3) := by decide +kernel
theorem d_Mo_unpacked_100 : decode b_Mo_unpacked 100 = .ok (.aload_n 0, 1) := by decide +kernel
theorem d_Mo_unpacked_101 : decode b_Mo_unpacked 101 = .ok (.getfield 99, 3) := by decide +kernel
theorem d_Mo_unpacked_104 : decode b_Mo_unpacked 104 = .ok (.iload_n 2, 1) := by decide +kernel
theorem d_Mo_unpacked_105 : decode b_Mo_unpacked 105 = .ok (.iaload, 1) := by decide +kernel
theorem d_Mo_unpacked_106 : decode b_Mo_unpacked 106 = .ok (.iload_n 3, 1) := by decide +kernel
theorem d_Mo_unpacked_107 : decode b_Mo_unpacked 107 = .ok (.iadd, 1) := by decide +kernel
theorem d_Mo_unpacked_108 : decode b_Mo_unpacked 108 = .ok (.baload, 1) := by decide +kernel
theorem d_Mo_unpacked_109 : decode b_Mo_unpacked 109 = .ok (.bastore, 1) := by decide +kernel
theorem d_Mo_unpacked_110 : decode b_Mo_unpacked 110 = .ok (.aload_n 0, 1) := by decide +kernel
theorem d_Mo_unpacked_111 : decode b_Mo_unpacked 111 = .ok (.dup, 1) := by decide +kernel
theorem d_Mo_unpacked_112 : decode b_Mo_unpacked 112 = .ok (.getfield 262, 3) := by decide +kernel
theorem d_Mo_unpacked_115 : decode b_Mo_unpacked 115 = .ok (.iconst 1, 1) := by decide +kernel
theorem d_Mo_unpacked_116 : decode b_Mo_unpacked 116 = .ok (.iadd, 1) := by decide +kernel
theorem d_Mo_unpacked_117 : decode b_Mo_unpacked 117 = .ok (.putfield 262, 3) := by decide +kernel
theorem d_Mo_unpacked_120 : decode b_Mo_unpacked 120 = .ok (.iinc 3 1, 3) := by decide +kernel
theorem d_Mo_unpacked_123 : decode b_Mo_unpacked 123 = .ok (.goto (-45), 3) := by decide +kernel
theorem d_Mo_unpacked_126 : decode b_Mo_unpacked 126 = .ok (.iinc 2 1, 3) := by decide +kernel
theorem d_Mo_unpacked_129 : decode b_Mo_unpacked 129 = .ok (.goto (-61), 3) := by decide +kernel
theorem d_Mo_unpacked_132 : decode b_Mo_unpacked 132 = .ok (.aload_n 0, 1) := by decide +kernel
theorem d_Mo_unpacked_133 : decode b_Mo_unpacked 133 = .ok (.invokevirtual 396, 3) := by decide +kernel
theorem d_Mo_unpacked_136 : decode b_Mo_unpacked 136 = .ok (.aload_n 0, 1) := by decide +kernel
theorem d_Mo_unpacked_137 : decode b_Mo_unpacked 137 = .ok (.aload_n 0, 1) := by decide +kernel
theorem d_Mo_unpacked_138 : decode b_Mo_unpacked 138 = .ok (.getfield 106, 3) := by decide +kernel
theorem d_Mo_unpacked_141 : decode b_Mo_unpacked 141 = .ok (.aload_n 0, 1) := by decide +kernel
theorem d_Mo_unpacked_142 : decode b_Mo_unpacked 142 = .ok (.getfield 259, 3) := by decide +kernel
theorem d_Mo_unpacked_145 : decode b_Mo_unpacked 145 = .ok (.invokevirtual 301, 3) := by decide +kernel
theorem d_Mo_unpacked_148 : decode b_Mo_unpacked 148 = .ok (.aload_n 0, 1) := by decide +kernel
theorem d_Mo_unpacked_149 : decode b_Mo_unpacked 149 = .ok (.getfield 83, 3) := by decide +kernel
theorem d_Mo_unpacked_152 : decode b_Mo_unpacked 152 = .ok (.aload_n 0, 1) := by decide +kernel
theorem d_Mo_unpacked_153 : decode b_Mo_unpacked 153 = .ok (.getfield 274, 3) := by decide +kernel
theorem d_Mo_unpacked_156 : decode b_Mo_unpacked 156 = .ok (.aload_n 0, 1) := by decide +kernel
theorem d_Mo_unpacked_157 : decode b_Mo_unpacked 157 = .ok (.getfield 109, 3) := by decide +kernel
theorem d_Mo_unpacked_160 : decode b_Mo_unpacked 160 = .ok (.aload_n 0, 1) := by decide +kernel
theorem d_Mo_unpacked_161 : decode b_Mo_unpacked 161 = .ok (.getfield 262, 3) := by decide +kernel
theorem d_Mo_unpacked_164 : decode b_Mo_unpacked 164 = .ok (.invokestatic 399, 3) := by decide +kernel
theorem d_Mo_unpacked_167 : decode b_Mo_unpacked 167 = .ok (.ifCond .ne 6, 3) := by decide +kernel
theorem d_Mo_unpacked_170 : decode b_Mo_unpacked 170 = .ok (.bipush 7, 2) := by decide +kernel
theorem d_Mo_unpacked_172 : decode b_Mo_unpacked 172 = .ok (.ireturn, 1) := by decide +kernel
theorem d_Mo_unpacked_173 : decode b_Mo_unpacked 173 = .ok (.aload_n 0, 1) := by decide +kernel
theorem d_Mo_unpacked_174 : decode b_Mo_unpacked 174 = .ok (.getfield 259, 3) := by decide +kernel
theorem d_Mo_unpacked_177 : decode b_Mo_unpacked 177 = .ok (.iconst 3, 1) := by decide +kernel
theorem d_Mo_unpacked_178 : decode b_Mo_unpacked 178 = .ok (.if_icmp .lt 20, 3) := by decide +kernel
theorem d_Mo_unpacked_181 : decode b_Mo_unpacked 181 = .ok (.aload_n 0, 1) := by decide +kernel
theorem d_Mo_unpacked_182 : decode b_Mo_unpacked 182 = .ok (.getfield 106, 3) := by decide +kernel
theorem d_Mo_unpacked_185 : decode b_Mo_unpacked 185 = .ok (.iconst 2, 1) := by decide +kernel
theorem d_Mo_unpacked_186 : decode b_Mo_unpacked 186 = .ok (.baload, 1) := by decide +kernel
theorem d_Mo_unpacked_187 : decode b_Mo_unpacked 187 = .ok (.sipush 255, 3) := by decide +kernel
theorem d_Mo_unpacked_190 : decode b_Mo_unpacked 190 = .ok (.iand, 1) := by decide +kernel
theorem d_Mo_unpacked_191 : decode b_Mo_unpacked 191 = .ok (.sipush 128, 3) := by decide +kernel
theorem d_Mo_unpacked_194 : decode b_Mo_unpacked 194 = .ok (.isub, 1) := by decide +kernel
theorem d_Mo_unpacked_195 : decode b_Mo_unpacked 195 = .ok (.goto 4, 3) := by decide +kernel
theorem d_Mo_unpacked_198 : decode b_Mo_unpacked 198 = .ok (.iconst 0, 1) := by decide +kernel
theorem d_Mo_unpacked_199 : decode b_Mo_unpacked 199 = .ok (.istore_n 2, 1) := by decide +kernel
theorem d_Mo_unpacked_200 : decode b_Mo_unpacked 200 = .ok (.aload_n 0, 1) := by decide +kernel
theorem d_Mo_unpacked_201 : decode b_Mo_unpacked 201 = .ok (.getfield 259, 3) := by decide +kernel
theorem d_Mo_unpacked_204 : decode b_Mo_unpacked 204 = .ok (.sipush 30000, 3) := by decide +kernel
theorem d_Mo_unpacked_207 : decode b_Mo_unpacked 207 = .ok (.if_icmp .gt 23, 3) := by decide +kernel
theorem d_Mo_unpacked_210 : decode b_Mo_unpacked 210 = .ok (.iload_n 2, 1) := by decide +kernel
theorem d_Mo_unpacked_211 : decode b_Mo_unpacked 211 = .ok (.bipush 9, 2) := by decide +kernel
theorem d_Mo_unpacked_213 : decode b_Mo_unpacked 213 = .ok (.if_icmp .lt 17, 3) := by decide +kernel
theorem d_Mo_unpacked_216 : decode b_Mo_unpacked 216 = .ok (.iload_n 2, 1) := by decide +kernel
theorem d_Mo_unpacked_217 : decode b_Mo_unpacked 217 = .ok (.bipush 16, 2) := by decide +kernel
theorem d_Mo_unpacked_219 : decode b_Mo_unpacked 219 = .ok (.if_icmp .gt 11, 3) := by decide +kernel
theorem d_Mo_unpacked_222 : decode b_Mo_unpacked 222 = .ok (.aload_n 0, 1) := by decide +kernel
theorem d_Mo_unpacked_223 : decode b_Mo_unpacked 223 = .ok (.iload_n 2, 1) := by decide +kernel
theorem d_Mo_unpacked_224 : decode b_Mo_unpacked 224 = .ok (.invokevirtual 403, 3) := by decide +kernel
theorem d_Mo_unpacked_227 : decode b_Mo_unpacked 227 = .ok (.ifCond .ne 6, 3) := by decide +kernel
theorem d_Mo_unpacked_230 : decode b_Mo_unpacked 230 = .ok (.bipush 8, 2) := by decide +kernel
theorem d_Mo_unpacked_232 : decode b_Mo_unpacked 232 = .ok (.ireturn, 1) := by decide +kernel
theorem d_Mo_unpacked_233 : decode b_Mo_unpacked 233 = .ok (.aload_n 0, 1) := by decide +kernel
theorem d_Mo_unpacked_234 : decode b_Mo_unpacked 234 = .ok (.aload_n 0, 1) := by decide +kernel
theorem d_Mo_unpacked_235 : decode b_Mo_unpacked 235 = .ok (.getfield 109, 3) := by decide +kernel
theorem d_Mo_unpacked_238 : decode b_Mo_unpacked 238 = .ok (.aload_n 0, 1) := by decide +kernel
theorem d_Mo_unpacked_239 : decode b_Mo_unpacked 239 = .ok (.getfield 262, 3) := by decide +kernel
theorem d_Mo_unpacked_242 : decode b_Mo_unpacked 242 = .ok (.iload_n 2, 1) := by decide +kernel
theorem d_Mo_unpacked_243 : decode b_Mo_unpacked 243 = .ok (.invokevirtual 298, 3) := by decide +kernel
theorem d_Mo_unpacked_246 : decode b_Mo_unpacked 246 = .ok (.aload_n 0, 1) := by decide +kernel
theorem d_Mo_unpacked_247 : decode b_Mo_unpacked 247 = .ok (.getfield 79, 3) := by decide +kernel
theorem d_Mo_unpacked_250 : decode b_Mo_unpacked 250 = .ok (.aload_n 0, 1) := by decide +kernel
theorem d_Mo_unpacked_251 : decode b_Mo_unpacked 251 = .ok (.getfield 232, 3) := by decide +kernel
theorem d_Mo_unpacked_254 : decode b_Mo_unpacked 254 = .ok (.aload_n 0, 1) := by decide +kernel
theorem d_Mo_unpacked_255 : decode b_Mo_unpacked 255 = .ok (.getfield 106, 3) := by decide +kernel
theorem d_Mo_unpacked_258 : decode b_Mo_unpacked 258 = .ok (.aload_n 0, 1) := by decide +kernel
theorem d_Mo_unpacked_259 : decode b_Mo_unpacked 259 = .ok (.getfield 259, 3) := by decide +kernel
theorem d_Mo_unpacked_262 : decode b_Mo_unpacked 262 = .ok (.invokestatic 399, 3) := by decide +kernel
theorem d_Mo_unpacked_265 : decode b_Mo_unpacked 265 = .ok (.ifCond .ne 6, 3) := by decide +kernel
theorem d_Mo_unpacked_268 : decode b_Mo_unpacked 268 = .ok (.bipush 8, 2) := by decide +kernel
theorem d_Mo_unpacked_270 : decode b_Mo_unpacked 270 = .ok (.ireturn, 1) := by decide +kernel
theorem d_Mo_unpacked_271 : decode b_Mo_unpacked 271 = .ok (.aload_n 0, 1) := by decide +kernel
theorem d_Mo_unpacked_272 : decode b_Mo_unpacked 272 = .ok (.invokevirtual 406, 3) := by decide +kernel
theorem d_Mo_unpacked_275 : decode b_Mo_unpacked 275 = .ok (.ifCond .ne 6, 3) := by decide +kernel
theorem d_Mo_unpacked_278 : decode b_Mo_unpacked 278 = .ok (.bipush 9, 2) := by decide +kernel
theorem d_Mo_unpacked_280 : decode b_Mo_unpacked 280 = .ok (.ireturn, 1) := by decide +kernel
theorem d_Mo_unpacked_281 : decode b_Mo_unpacked 281 = .ok (.aload_n 0, 1) := by decide +kernel
theorem d_Mo_unpacked_282 : decode b_Mo_unpacked 282 = .ok (.iconst 2, 1) := by decide +kernel
theorem d_Mo_unpacked_283 : decode b_Mo_unpacked 283 = .ok (.invokevirtual 295, 3) := by decide +kernel
theorem d_Mo_unpacked_286 : decode b_Mo_unpacked 286 = .ok (.aload_n 0, 1) := by decide +kernel
theorem d_Mo_unpacked_287 : decode b_Mo_unpacked 287 = .ok (.getfield 75, 3) := by decide +kernel
theorem d_Mo_unpacked_290 : decode b_Mo_unpacked 290 = .ok (.aload_n 0, 1) := by decide +kernel
theorem d_Mo_unpacked_291 : decode b_Mo_unpacked 291 = .ok (.getfield 195, 3) := by decide +kernel
theorem d_Mo_unpacked_294 : decode b_Mo_unpacked 294 = .ok (.aload_n 0, 1) := by decide +kernel
theorem d_Mo_unpacked_295 : decode b_Mo_unpacked 295 = .ok (.getfield 109, 3) := by decide +kernel
theorem d_Mo_unpacked_298 : decode b_Mo_unpacked 298 = .ok (.aload_n 0, 1) := by decide +kernel
theorem d_Mo_unpacked_299 : decode b_Mo_unpacked 299 = .ok (.getfield 262, 3) := by decide +kernel
theorem d_Mo_unpacked_302 : decode b_Mo_unpacked 302 = .ok (.invokestatic 399, 3) := by decide +kernel
theorem d_Mo_unpacked_305 : decode b_Mo_unpacked 305 = .ok (.ifCond .eq 7, 3) := by decide +kernel
theorem d_Mo_unpacked_308 : decode b_Mo_unpacked 308 = .ok (.iconst 0, 1) := by decide +kernel
theorem d_Mo_unpacked_309 : decode b_Mo_unpacked 309 = .ok (.goto 5, 3) := by decide +kernel
theorem d_Mo_unpacked_312 : decode b_Mo_unpacked 312 = .ok (.bipush 9, 2) := by decide +kernel
theorem d_Mo_unpacked_314 : decode b_Mo_unpacked 314 = .ok (.ireturn, 1) := by decide +kernel
theorem d_Mo_unpack_0 : decode b_Mo_unpack 0 = .ok (.aload_n 0, 1) := by decide +kernel
theorem d_Mo_unpack_1 : decode b_Mo_unpack 1 = .ok (.iconst 0, 1) := by decide +kernel
theorem d_Mo_unpack_2 : decode b_Mo_unpack 2 = .ok (.putfield 128, 3) := by decide +kernel
theorem d_Mo_unpack_5 : decode b_Mo_unpack 5 = .ok (.aload_n 0, 1) := by decide +kernel
theorem d_Mo_unpack_6 : decode b_Mo_unpack 6 = .ok (.invokevirtual 409, 3) := by decide +kernel
theorem d_Mo_unpack_9 : decode b_Mo_unpack 9 = .ok (.istore_n 1, 1) := by decide +kernel
theorem d_Mo_unpack_10 : decode b_Mo_unpack 10 = .ok (.iload_n 1, 1) := by decide +kernel
theorem d_Mo_unpack_11 : decode b_Mo_unpack 11 = .ok (.ifCond .ne 100, 3) := by decide +kernel
theorem d_Mo_unpack_14 : decode b_Mo_unpack 14 = .ok (.aload_n 0, 1) := by decide +kernel
theorem d_Mo_unpack_15 : decode b_Mo_unpack 15 = .ok (.getfield 31, 3) := by decide +kernel
theorem d_Mo_unpack_18 : decode b_Mo_unpack 18 = .ok (.iconst 1, 1) := by decide +kernel
theorem d_Mo_unpack_19 : decode b_Mo_unpack 19 = .ok (.aload_n 0, 1) := by decide +kernel
theorem d_Mo_unpack_20 : decode b_Mo_unpack 20 = .ok (.getfield 31, 3) := by decide +kernel
theorem d_Mo_unpack_23 : decode b_Mo_unpack 23 = .ok (.iconst 2, 1) := by decide +kernel
theorem d_Mo_unpack_24 : decode b_Mo_unpack 24 = .ok (.iaload, 1) := by decide +kernel
theorem d_Mo_unpack_25 : decode b_Mo_unpack 25 = .ok (.iastore, 1) := by decide +kernel
theorem d_Mo_unpack_26 : decode b_Mo_unpack 26 = .ok (.aload_n 0, 1) := by decide +kernel
theorem d_Mo_unpack_27 : decode b_Mo_unpack 27 = .ok (.getfield 65, 3) := by decide +kernel
theorem d_Mo_unpack_30 : decode b_Mo_unpack 30 = .ok (.iconst 1, 1) := by decide +kernel
theorem d_Mo_unpack_31 : decode b_Mo_unpack 31 = .ok (.aload_n 0, 1) := by decide +kernel
theorem d_Mo_unpack_32 : decode b_Mo_unpack 32 = .ok (.getfield 65, 3) := by decide +kernel
theorem d_Mo_unpack_35 : decode b_Mo_unpack 35 = .ok (.iconst 2, 1) := by decide +kernel
theorem d_Mo_unpack_36 : decode b_Mo_unpack 36 = .ok (.iaload, 1) := by decide +kernel
theorem d_Mo_unpack_37 : decode b_Mo_unpack 37 = .ok (.iastore, 1) := by decide +kernel
theorem d_Mo_unpack_38 : decode b_Mo_unpack 38 = .ok (.iconst 0, 1) := by decide +kernel
theorem d_Mo_unpack_39 : decode b_Mo_unpack 39 = .ok (.istore_n 2, 1) := by decide +kernel
theorem d_Mo_unpack_40 : decode b_Mo_unpack 40 = .ok (.iload_n 2, 1) := by decide +kernel
theorem d_Mo_unpack_41 : decode b_Mo_unpack 41 = .ok (.aload_n 0, 1) := by decide +kernel
theorem d_Mo_unpack_42 : decode b_Mo_unpack 42 = .ok (.getfield 31, 3) := by decide +kernel
theorem d_Mo_unpack_45 : decode b_Mo_unpack 45 = .ok (.iconst 2, 1) := by decide +kernel
theorem d_Mo_unpack_46 : decode b_Mo_unpack 46 = .ok (.iaload, 1) := by decide +kernel
theorem d_Mo_unpack_47 : decode b_Mo_unpack 47 = .ok (.if_icmp .ge 23, 3) := by decide +kernel
theorem d_Mo_unpack_50 : decode b_Mo_unpack 50 = .ok (.aload_n 0, 1) := by decide +kernel
theorem d_Mo_unpack_51 : decode b_Mo_unpack 51 = .ok (.iconst 1, 1) := by decide +kernel
theorem d_Mo_unpack_52 : decode b_Mo_unpack 52 = .ok (.iload_n 2, 1) := by decide +kernel
theorem d_Mo_unpack_53 : decode b_Mo_unpack 53 = .ok (.invokestatic 138, 3) := by decide +kernel
theorem d_Mo_unpack_56 : decode b_Mo_unpack 56 = .ok (.iconst 2, 1) := by decide +kernel
theorem d_Mo_unpack_57 : decode b_Mo_unpack 57 = .ok (.iload_n 2, 1) := by decide +kernel
theorem d_Mo_unpack_58 : decode b_Mo_unpack 58 = .ok (.invokestatic 138, 3) := by decide +kernel
theorem d_Mo_unpack_61 : decode b_Mo_unpack 61 = .ok (.invokevirtual 148, 3) := by decide +kernel
theorem d_Mo_unpack_64 : decode b_Mo_unpack 64 = .ok (.iinc 2 1, 3) := by decide +kernel
theorem d_Mo_unpack_67 : decode b_Mo_unpack 67 = .ok (.goto (-27), 3) := by decide +kernel
theorem d_Mo_unpack_70 : decode b_Mo_unpack 70 = .ok (.iconst 0, 1) := by decide +kernel
theorem d_Mo_unpack_71 : decode b_Mo_unpack 71 = .ok (.istore_n 2, 1) := by decide +kernel
theorem d_Mo_unpack_72 : decode b_Mo_unpack 72 = .ok (.iload_n 2, 1) := by decide +kernel
theorem d_Mo_unpack_73 : decode b_Mo_unpack 73 = .ok (.aload_n 0, 1) := by decide +kernel
theorem d_Mo_unpack_74 : decode b_Mo_unpack 74 = .ok (.getfield 65, 3) := by decide +kernel
theorem d_Mo_unpack_77 : decode b_Mo_unpack 77 = .ok (.iconst 2, 1) := by decide +kernel
theorem d_Mo_unpack_78 : decode b_Mo_unpack 78 = .ok (.iaload, 1) := by decide +kernel
theorem d_Mo_unpack_79 : decode b_Mo_unpack 79 = .ok (.if_icmp .ge 28, 3) := by decide +kernel
theorem d_Mo_unpack_82 : decode b_Mo_unpack 82 = .ok (.aload_n 0, 1) := by decide +kernel
theorem d_Mo_unpack_83 : decode b_Mo_unpack 83 = .ok (.getfield 69, 3) := by decide +kernel
theorem d_Mo_unpack_86 : decode b_Mo_unpack 86 = .ok (.sipush 20000, 3) := by decide +kernel
theorem d_Mo_unpack_89 : decode b_Mo_unpack 89 = .ok (.iload_n 2, 1) := by decide +kernel
theorem d_Mo_unpack_90 : decode b_Mo_unpack 90 = .ok (.iadd, 1) := by decide +kernel
theorem d_Mo_unpack_91 : decode b_Mo_unpack 91 = .ok (.aload_n 0, 1) := by decide +kernel
theorem d_Mo_unpack_92 : decode b_Mo_unpack 92 = .ok (.getfield 69, 3) := by decide +kernel
theorem d_Mo_unpack_95 : decode b_Mo_unpack 95 = .ok (.ldc 78, 2) := by decide +kernel
theorem d_Mo_unpack_97 : decode b_Mo_unpack 97 = .ok (.iload_n 2, 1) := by decide +kernel
theorem d_Mo_unpack_98 : decode b_Mo_unpack 98 = .ok (.iadd, 1) := by decide +kernel
theorem d_Mo_unpack_99 : decode b_Mo_unpack 99 = .ok (.baload, 1) := by decide +kernel
theorem d_Mo_unpack_100 : decode b_Mo_unpack 100 = .ok (.bastore, 1) := by decide +kernel
theorem d_Mo_unpack_101 : decode b_Mo_unpack 101 = .ok (.iinc 2 1, 3) := by decide +kernel
theorem d_Mo_unpack_104 : decode b_Mo_unpack 104 = .ok (.goto (-32), 3) := by decide +kernel
theorem d_Mo_unpack_107 : decode b_Mo_unpack 107 = .ok (.aload_n 0, 1) := by decide +kernel
theorem d_Mo_unpack_108 : decode b_Mo_unpack 108 = .ok (.invokevirtual 378, 3) := by decide +kernel
theorem d_Mo_unpack_111 : decode b_Mo_unpack 111 = .ok (.iload_n 1, 1) := by decide +kernel
theorem d_Mo_unpack_112 : decode b_Mo_unpack 112 = .ok (.ireturn, 1) := by decide +kernel
theorem d_Mo_about_0 : decode b_Mo_about 0 = .ok (.iload_n 1, 1) := by decide +kernel
theorem d_Mo_about_1 : decode b_Mo_about 1 = .ok (.ifCond .eq 8, 3) := by decide +kernel
theorem d_Mo_about_4 : decode b_Mo_about 4 = .ok (.iload_n 1, 1) := by decide +kernel
theorem d_Mo_about_5 : decode b_Mo_about 5 = .ok (.iconst 1, 1) := by decide +kernel
theorem d_Mo_about_6 : decode b_Mo_about 6 = .ok (.if_icmp .ne 7, 3) := by decide +kernel
theorem d_Mo_about_9 : decode b_Mo_about 9 = .ok (.iconst 1, 1) := by decide +kernel
theorem d_Mo_about_10 : decode b_Mo_about 10 = .ok (.goto 4, 3) := by decide +kernel
theorem d_Mo_about_13 : decode b_Mo_about 13 = .ok (.iconst 0, 1) := by decide +kernel
theorem d_Mo_about_14 : decode b_Mo_about 14 = .ok (.istore 4, 2) := by decide +kernel
theorem d_Mo_about_16 : decode b_Mo_about 16 = .ok (.iload 4, 2) := by decide +kernel
theorem d_Mo_about_18 : decode b_Mo_about 18 = .ok (.ifCond .eq 35, 3) := by decide +kernel
theorem d_Mo_about_21 : decode b_Mo_about 21 = .ok (.iload_n 2, 1) := by decide +kernel
theorem d_Mo_about_22 : decode b_Mo_about 22 = .ok (.ifCond .lt 31, 3) := by decide +kernel
theorem d_Mo_about_25 : decode b_Mo_about 25 = .ok (.iload_n 2, 1) := by decide +kernel
theorem d_Mo_about_26 : decode b_Mo_about 26 = .ok (.bipush 9, 2) := by decide +kernel
theorem d_Mo_about_28 : decode b_Mo_about 28 = .ok (.if_icmp .gt 25, 3) := by decide +kernel
theorem d_Mo_about_31 : decode b_Mo_about 31 = .ok (.iload_n 2, 1) := by decide +kernel
theorem d_Mo_about_32 : decode b_Mo_about 32 = .ok (.ifCond .eq 17, 3) := by decide +kernel
theorem d_Mo_about_35 : decode b_Mo_about 35 = .ok (.iload_n 3, 1) := by decide +kernel
theorem d_Mo_about_36 : decode b_Mo_about 36 = .ok (.ifCond .lt 17, 3) := by decide +kernel
theorem d_Mo_about_39 : decode b_Mo_about 39 = .ok (.iload_n 3, 1) := by decide +kernel
theorem d_Mo_about_40 : decode b_Mo_about 40 = .ok (.aload_n 0, 1) := by decide +kernel
theorem d_Mo_about_41 : decode b_Mo_about 41 = .ok (.getfield 31, 3) := by decide +kernel
theorem d_Mo_about_44 : decode b_Mo_about 44 = .ok (.iload_n 1, 1) := by decide +kernel
theorem d_Mo_about_45 : decode b_Mo_about 45 = .ok (.iaload, 1) := by decide +kernel
theorem d_Mo_about_46 : decode b_Mo_about 46 = .ok (.if_icmp .ge 7, 3) := by decide +kernel
theorem d_Mo_about_49 : decode b_Mo_about 49 = .ok (.iconst 1, 1) := by decide +kernel
theorem d_Mo_about_50 : decode b_Mo_about 50 = .ok (.goto 4, 3) := by decide +kernel
theorem d_Mo_about_53 : decode b_Mo_about 53 = .ok (.iconst 0, 1) := by decide +kernel
theorem d_Mo_about_54 : decode b_Mo_about 54 = .ok (.istore 5, 2) := by decide +kernel
theorem d_Mo_about_56 : decode b_Mo_about 56 = .ok (.aload_n 0, 1) := by decide +kernel
theorem d_Mo_about_57 : decode b_Mo_about 57 = .ok (.iload 4, 2) := by decide +kernel
theorem d_Mo_about_59 : decode b_Mo_about 59 = .ok (.ifCond .ne 7, 3) := by decide +kernel
theorem d_Mo_about_62 : decode b_Mo_about 62 = .ok (.iconst 1, 1) := by decide +kernel
theorem d_Mo_about_63 : decode b_Mo_about 63 = .ok (.goto 13, 3) := by decide +kernel
theorem d_Mo_about_66 : decode b_Mo_about 66 = .ok (.iload 5, 2) := by decide +kernel
theorem d_Mo_about_68 : decode b_Mo_about 68 = .ok (.ifCond .ne 7, 3) := by decide +kernel
theorem d_Mo_about_71 : decode b_Mo_about 71 = .ok (.iconst 2, 1) := by decide +kernel
theorem d_Mo_about_72 : decode b_Mo_about 72 = .ok (.goto 4, 3) := by decide +kernel
theorem d_Mo_about_75 : decode b_Mo_about 75 = .ok (.iconst 0, 1) := by decide +kernel
theorem d_Mo_about_76 : decode b_Mo_about 76 = .ok (.putfield 128, 3) := by decide +kernel
theorem d_Mo_about_79 : decode b_Mo_about 79 = .ok (.aload_n 0, 1) := by decide +kernel
theorem d_Mo_about_80 : decode b_Mo_about 80 = .ok (.getfield 128, 3) := by decide +kernel
theorem d_Mo_about_83 : decode b_Mo_about 83 = .ok (.ifCond .le 5, 3) := by decide +kernel
theorem d_Mo_about_86 : decode b_Mo_about 86 = .ok (.iconst 0, 1) := by decide +kernel
theorem d_Mo_about_87 : decode b_Mo_about 87 = .ok (.ireturn, 1) := by decide +kernel
theorem d_Mo_about_88 : decode b_Mo_about 88 = .ok (.iload_n 2, 1) := by decide +kernel
theorem d_Mo_about_89 : decode b_Mo_about 89 = .ok (.ifCond .ne 7, 3) := by decide +kernel
theorem d_Mo_about_92 : decode b_Mo_about 92 = .ok (.iconst 0, 1) := by decide +kernel
theorem d_Mo_about_93 : decode b_Mo_about 93 = .ok (.goto 8, 3) := by decide +kernel
theorem d_Mo_about_96 : decode b_Mo_about 96 = .ok (.iload_n 1, 1) := by decide +kernel
theorem d_Mo_about_97 : decode b_Mo_about 97 = .ok (.iload_n 3, 1) := by decide +kernel
theorem d_Mo_about_98 : decode b_Mo_about 98 = .ok (.invokestatic 138, 3) := by decide +kernel
theorem d_Mo_about_101 : decode b_Mo_about 101 = .ok (.istore 6, 2) := by decide +kernel
theorem d_Mo_about_103 : decode b_Mo_about 103 = .ok (.iload_n 2, 1) := by decide +kernel
theorem d_Mo_about_104 : decode b_Mo_about 104 = .ok (.tableswitch 122 0 8 #[52, 59, 67, 75, 83, 91, 99, 107, 115], 52) := by decide +kernel
theorem d_Mo_about_156 : decode b_Mo_about 156 = .ok (.aload_n 0, 1) := by decide +kernel
theorem d_Mo_about_157 : decode b_Mo_about 157 = .ok (.getfield 31, 3) := by decide +kernel
theorem d_Mo_about_160 : decode b_Mo_about 160 = .ok (.iload_n 1, 1) := by decide +kernel
theorem d_Mo_about_161 : decode b_Mo_about 161 = .ok (.iaload, 1) := by decide +kernel
theorem d_Mo_about_162 : decode b_Mo_about 162 = .ok (.ireturn, 1) := by decide +kernel
theorem d_Mo_about_163 : decode b_Mo_about 163 = .ok (.aload_n 0, 1) := by decide +kernel
theorem d_Mo_about_164 : decode b_Mo_about 164 = .ok (.getfield 41, 3) := by decide +kernel
theorem d_Mo_about_167 : decode b_Mo_about 167 = .ok (.iload 6, 2) := by decide +kernel
theorem d_Mo_about_169 : decode b_Mo_about 169 = .ok (.iaload, 1) := by decide +kernel
theorem d_Mo_about_170 : decode b_Mo_about 170 = .ok (.ireturn, 1) := by decide +kernel
theorem d_Mo_about_171 : decode b_Mo_about 171 = .ok (.aload_n 0, 1) := by decide +kernel
theorem d_Mo_about_172 : decode b_Mo_about 172 = .ok (.getfield 44, 3) := by decide +kernel
theorem d_Mo_about_175 : decode b_Mo_about 175 = .ok (.iload 6, 2) := by decide +kernel
theorem d_Mo_about_177 : decode b_Mo_about 177 = .ok (.iaload, 1) := by decide +kernel
theorem d_Mo_about_178 : decode b_Mo_about 178 = .ok (.ireturn, 1) := by decide +kernel
theorem d_Mo_about_179 : decode b_Mo_about 179 = .ok (.aload_n 0, 1) := by decide +kernel
theorem d_Mo_about_180 : decode b_Mo_about 180 = .ok (.getfield 47, 3) := by decide +kernel
theorem d_Mo_about_183 : decode b_Mo_about 183 = .ok (.iload 6, 2) := by decide +kernel
theorem d_Mo_about_185 : decode b_Mo_about 185 = .ok (.iaload, 1) := by decide +kernel
theorem d_Mo_about_186 : decode b_Mo_about 186 = .ok (.ireturn, 1) := by decide +kernel
theorem d_Mo_about_187 : decode b_Mo_about 187 = .ok (.aload_n 0, 1) := by decide +kernel
theorem d_Mo_about_188 : decode b_Mo_about 188 = .ok (.getfield 50, 3) := by decide +kernel
theorem d_Mo_about_191 : decode b_Mo_about 191 = .ok (.iload 6, 2) := by decide +kernel
theorem d_Mo_about_193 : decode b_Mo_about 193 = .ok (.iaload, 1) := by decide +kernel
theorem d_Mo_about_194 : decode b_Mo_about 194 = .ok (.ireturn, 1) := by decide +kernel
theorem d_Mo_about_195 : decode b_Mo_about 195 = .ok (.aload_n 0, 1) := by decide +kernel
theorem d_Mo_about_196 : decode b_Mo_about 196 = .ok (.getfield 53, 3) := by decide +kernel
theorem d_Mo_about_199 : decode b_Mo_about 199 = .ok (.iload 6, 2) := by decide +kernel
theorem d_Mo_about_201 : decode b_Mo_about 201 = .ok (.iaload, 1) := by decide +kernel
theorem d_Mo_about_202 : decode b_Mo_about 202 = .ok (.ireturn, 1) := by decide +kernel
theorem d_Mo_about_203 : decode b_Mo_about 203 = .ok (.aload_n 0, 1) := by decide +kernel
theorem d_Mo_about_204 : decode b_Mo_about 204 = .ok (.getfield 38, 3) := by decide +kernel
theorem d_Mo_about_207 : decode b_Mo_about 207 = .ok (.iload 6, 2) := by decide +kernel
theorem d_Mo_about_209 : decode b_Mo_about 209 = .ok (.iaload, 1) := by decide +kernel
theorem d_Mo_about_210 : decode b_Mo_about 210 = .ok (.ireturn, 1) := by decide +kernel
theorem d_Mo_about_211 : decode b_Mo_about 211 = .ok (.aload_n 0, 1) := by decide +kernel
theorem d_Mo_about_212 : decode b_Mo_about 212 = .ok (.getfield 59, 3) := by decide +kernel
theorem d_Mo_about_215 : decode b_Mo_about 215 = .ok (.iload 6, 2) := by decide +kernel
theorem d_Mo_about_217 : decode b_Mo_about 217 = .ok (.iaload, 1) := by decide +kernel
theorem d_Mo_about_218 : decode b_Mo_about 218 = .ok (.ireturn, 1) := by decide +kernel
theorem d_Mo_about_219 : decode b_Mo_about 219 = .ok (.aload_n 0, 1) := by decide +kernel
theorem d_Mo_about_220 : decode b_Mo_about 220 = .ok (.iload_n 1, 1) := by decide +kernel
theorem d_Mo_about_221 : decode b_Mo_about 221 = .ok (.iload_n 3, 1) := by decide +kernel
theorem d_Mo_about_222 : decode b_Mo_about 222 = .ok (.invokevirtual 206, 3) := by decide +kernel
theorem d_Mo_about_225 : decode b_Mo_about 225 = .ok (.ireturn, 1) := by decide +kernel
theorem d_Mo_about_226 : decode b_Mo_about 226 = .ok (.aload_n 0, 1) := by decide +kernel
theorem d_Mo_about_227 : decode b_Mo_about 227 = .ok (.iload_n 1, 1) := by decide +kernel
theorem d_Mo_about_228 : decode b_Mo_about 228 = .ok (.iload_n 3, 1) := by decide +kernel
theorem d_Mo_about_229 : decode b_Mo_about 229 = .ok (.invokevirtual 211, 3) := by decide +kernel
theorem d_Mo_about_232 : decode b_Mo_about 232 = .ok (.ireturn, 1) := by decide +kernel
theorem d_Mo_byteOf_0 : decode b_Mo_byteOf 0 = .ok (.iload_n 1, 1) := by decide +kernel
theorem d_Mo_byteOf_1 : decode b_Mo_byteOf 1 = .ok (.ifCond .eq 8, 3) := by decide +kernel
theorem d_Mo_byteOf_4 : decode b_Mo_byteOf 4 = .ok (.iload_n 1, 1) := by decide +kernel
theorem d_Mo_byteOf_5 : decode b_Mo_byteOf 5 = .ok (.iconst 1, 1) := by decide +kernel
theorem d_Mo_byteOf_6 : decode b_Mo_byteOf 6 = .ok (.if_icmp .ne 7, 3) := by decide +kernel
theorem d_Mo_byteOf_9 : decode b_Mo_byteOf 9 = .ok (.iconst 1, 1) := by decide +kernel
theorem d_Mo_byteOf_10 : decode b_Mo_byteOf 10 = .ok (.goto 4, 3) := by decide +kernel
theorem d_Mo_byteOf_13 : decode b_Mo_byteOf 13 = .ok (.iconst 0, 1) := by decide +kernel
theorem d_Mo_byteOf_14 : decode b_Mo_byteOf 14 = .ok (.istore 4, 2) := by decide +kernel
theorem d_Mo_byteOf_16 : decode b_Mo_byteOf 16 = .ok (.iload 4, 2) := by decide +kernel
theorem d_Mo_byteOf_18 : decode b_Mo_byteOf 18 = .ok (.ifCond .eq 50, 3) := by decide +kernel
theorem d_Mo_byteOf_21 : decode b_Mo_byteOf 21 = .ok (.iload_n 2, 1) := by decide +kernel
theorem d_Mo_byteOf_22 : decode b_Mo_byteOf 22 = .ok (.ifCond .lt 46, 3) := by decide +kernel
theorem d_Mo_byteOf_25 : decode b_Mo_byteOf 25 = .ok (.iload_n 2, 1) := by decide +kernel
theorem d_Mo_byteOf_26 : decode b_Mo_byteOf 26 = .ok (.aload_n 0, 1) := by decide +kernel
theorem d_Mo_byteOf_27 : decode b_Mo_byteOf 27 = .ok (.getfield 31, 3) := by decide +kernel
theorem d_Mo_byteOf_30 : decode b_Mo_byteOf 30 = .ok (.iload_n 1, 1) := by decide +kernel
theorem d_Mo_byteOf_31 : decode b_Mo_byteOf 31 = .ok (.iaload, 1) := by decide +kernel
theorem d_Mo_byteOf_32 : decode b_Mo_byteOf 32 = .ok (.if_icmp .ge 36, 3) := by decide +kernel
theorem d_Mo_byteOf_35 : decode b_Mo_byteOf 35 = .ok (.iload_n 3, 1) := by decide +kernel
theorem d_Mo_byteOf_36 : decode b_Mo_byteOf 36 = .ok (.ifCond .lt 32, 3) := by decide +kernel
theorem d_Mo_byteOf_39 : decode b_Mo_byteOf 39 = .ok (.iload_n 3, 1) := by decide +kernel
theorem d_Mo_byteOf_40 : decode b_Mo_byteOf 40 = .ok (.aload_n 0, 1) := by decide +kernel
theorem d_Mo_byteOf_41 : decode b_Mo_byteOf 41 = .ok (.getfield 38, 3) := by decide +kernel
theorem d_Mo_byteOf_44 : decode b_Mo_byteOf 44 = .ok (.iload_n 1, 1) := by decide +kernel
theorem d_Mo_byteOf_45 : decode b_Mo_byteOf 45 = .ok (.iload_n 2, 1) := by decide +kernel
theorem d_Mo_byteOf_46 : decode b_Mo_byteOf 46 = .ok (.invokestatic 138, 3) := by decide +kernel
theorem d_Mo_byteOf_49 : decode b_Mo_byteOf 49 = .ok (.iaload, 1) := by decide +kernel
theorem d_Mo_byteOf_50 : decode b_Mo_byteOf 50 = .ok (.aload_n 0, 1) := by decide +kernel
theorem d_Mo_byteOf_51 : decode b_Mo_byteOf 51 = .ok (.getfield 59, 3) := by decide +kernel
theorem d_Mo_byteOf_54 : decode b_Mo_byteOf 54 = .ok (.iload_n 1, 1) := by decide +kernel
theorem d_Mo_byteOf_55 : decode b_Mo_byteOf 55 = .ok (.iload_n 2, 1) := by decide +kernel
theorem d_Mo_byteOf_56 : decode b_Mo_byteOf 56 = .ok (.invokestatic 138, 3) := by decide +kernel
theorem d_Mo_byteOf_59 : decode b_Mo_byteOf 59 = .ok (.iaload, 1) := by decide +kernel
theorem d_Mo_byteOf_60 : decode b_Mo_byteOf 60 = .ok (.iadd, 1) := by decide +kernel
theorem d_Mo_byteOf_61 : decode b_Mo_byteOf 61 = .ok (.if_icmp .ge 7, 3) := by decide +kernel
theorem d_Mo_byteOf_64 : decode b_Mo_byteOf 64 = .ok (.iconst 1, 1) := by decide +kernel
theorem d_Mo_byteOf_65 : decode b_Mo_byteOf 65 = .ok (.goto 4, 3) := by decide +kernel
theorem d_Mo_byteOf_68 : decode b_Mo_byteOf 68 = .ok (.iconst 0, 1) := by decide +kernel
theorem d_Mo_byteOf_69 : decode b_Mo_byteOf 69 = .ok (.istore 5, 2) := by decide +kernel
theorem d_Mo_byteOf_71 : decode b_Mo_byteOf 71 = .ok (.aload_n 0, 1) := by decide +kernel
theorem d_Mo_byteOf_72 : decode b_Mo_byteOf 72 = .ok (.iload 4, 2) := by decide +kernel
theorem d_Mo_byteOf_74 : decode b_Mo_byteOf 74 = .ok (.ifCond .ne 7, 3) := by decide +kernel
theorem d_Mo_byteOf_77 : decode b_Mo_byteOf 77 = .ok (.iconst 1, 1) := by decide +kernel
theorem d_Mo_byteOf_78 : decode b_Mo_byteOf 78 = .ok (.goto 13, 3) := by decide +kernel
theorem d_Mo_byteOf_81 : decode b_Mo_byteOf 81 = .ok (.iload 5, 2) := by decide +kernel
theorem d_Mo_byteOf_83 : decode b_Mo_byteOf 83 = .ok (.ifCond .ne 7, 3) := by decide +kernel
theorem d_Mo_byteOf_86 : decode b_Mo_byteOf 86 = .ok (.iconst 2, 1) := by decide +kernel
theorem d_Mo_byteOf_87 : decode b_Mo_byteOf 87 = .ok (.goto 4, 3) := by decide +kernel
theorem d_Mo_byteOf_90 : decode b_Mo_byteOf 90 = .ok (.iconst 0, 1) := by decide +kernel
theorem d_Mo_byteOf_91 : decode b_Mo_byteOf 91 = .ok (.putfield 128, 3) := by decide +kernel
theorem d_Mo_byteOf_94 : decode b_Mo_byteOf 94 = .ok (.aload_n 0, 1) := by decide +kernel
theorem d_Mo_byteOf_95 : decode b_Mo_byteOf 95 = .ok (.getfield 128, 3) := by decide +kernel
theorem d_Mo_byteOf_98 : decode b_Mo_byteOf 98 = .ok (.ifCond .le 5, 3) := by decide +kernel
theorem d_Mo_byteOf_101 : decode b_Mo_byteOf 101 = .ok (.iconst 0, 1) := by decide +kernel
theorem d_Mo_byteOf_102 : decode b_Mo_byteOf 102 = .ok (.ireturn, 1) := by decide +kernel
theorem d_Mo_byteOf_103 : decode b_Mo_byteOf 103 = .ok (.iload_n 1, 1) := by decide +kernel
theorem d_Mo_byteOf_104 : decode b_Mo_byteOf 104 = .ok (.iload_n 2, 1) := by decide +kernel
theorem d_Mo_byteOf_105 : decode b_Mo_byteOf 105 = .ok (.invokestatic 138, 3) := by decide +kernel
theorem d_Mo_byteOf_108 : decode b_Mo_byteOf 108 = .ok (.istore 6, 2) := by decide +kernel
theorem d_Mo_byteOf_110 : decode b_Mo_byteOf 110 = .ok (.aload_n 0, 1) := by decide +kernel
theorem d_Mo_byteOf_111 : decode b_Mo_byteOf 111 = .ok (.getfield 38, 3) := by decide +kernel
theorem d_Mo_byteOf_114 : decode b_Mo_byteOf 114 = .ok (.iload 6, 2) := by decide +kernel
theorem d_Mo_byteOf_116 : decode b_Mo_byteOf 116 = .ok (.iaload, 1) := by decide +kernel
theorem d_Mo_byteOf_117 : decode b_Mo_byteOf 117 = .ok (.istore 7, 2) := by decide +kernel
theorem d_Mo_byteOf_119 : decode b_Mo_byteOf 119 = .ok (.iload_n 3, 1) := by decide +kernel
theorem d_Mo_byteOf_120 : decode b_Mo_byteOf 120 = .ok (.iload 7, 2) := by decide +kernel
theorem d_Mo_byteOf_122 : decode b_Mo_byteOf 122 = .ok (.if_icmp .ge 22, 3) := by decide +kernel
theorem d_Mo_byteOf_125 : decode b_Mo_byteOf 125 = .ok (.aload_n 0, 1) := by decide +kernel
theorem d_Mo_byteOf_126 : decode b_Mo_byteOf 126 = .ok (.getfield 35, 3) := by decide +kernel
theorem d_Mo_byteOf_129 : decode b_Mo_byteOf 129 = .ok (.bipush 60, 2) := by decide +kernel
theorem d_Mo_byteOf_131 : decode b_Mo_byteOf 131 = .ok (.iload 6, 2) := by decide +kernel
theorem d_Mo_byteOf_133 : decode b_Mo_byteOf 133 = .ok (.imul, 1) := by decide +kernel
theorem d_Mo_byteOf_134 : decode b_Mo_byteOf 134 = .ok (.iload_n 3, 1) := by decide +kernel
theorem d_Mo_byteOf_135 : decode b_Mo_byteOf 135 = .ok (.iadd, 1) := by decide +kernel
theorem d_Mo_byteOf_136 : decode b_Mo_byteOf 136 = .ok (.baload, 1) := by decide +kernel
theorem d_Mo_byteOf_137 : decode b_Mo_byteOf 137 = .ok (.sipush 255, 3) := by decide +kernel
theorem d_Mo_byteOf_140 : decode b_Mo_byteOf 140 = .ok (.iand, 1) := by decide +kernel
theorem d_Mo_byteOf_141 : decode b_Mo_byteOf 141 = .ok (.goto 30, 3) := by decide +kernel
theorem d_Mo_byteOf_144 : decode b_Mo_byteOf 144 = .ok (.aload_n 0, 1) := by decide +kernel
theorem d_Mo_byteOf_145 : decode b_Mo_byteOf 145 = .ok (.getfield 69, 3) := by decide +kernel
theorem d_Mo_byteOf_148 : decode b_Mo_byteOf 148 = .ok (.sipush 20000, 3) := by decide +kernel
theorem d_Mo_byteOf_151 : decode b_Mo_byteOf 151 = .ok (.iload_n 1, 1) := by decide +kernel
theorem d_Mo_byteOf_152 : decode b_Mo_byteOf 152 = .ok (.imul, 1) := by decide +kernel
theorem d_Mo_byteOf_153 : decode b_Mo_byteOf 153 = .ok (.aload_n 0, 1) := by decide +kernel
theorem d_Mo_byteOf_154 : decode b_Mo_byteOf 154 = .ok (.getfield 56, 3) := by decide +kernel
theorem d_Mo_byteOf_157 : decode b_Mo_byteOf 157 = .ok (.iload 6, 2) := by decide +kernel
theorem d_Mo_byteOf_159 : decode b_Mo_byteOf 159 = .ok (.iaload, 1) := by decide +kernel
theorem d_Mo_byteOf_160 : decode b_Mo_byteOf 160 = .ok (.iadd, 1) := by decide +kernel
theorem d_Mo_byteOf_161 : decode b_Mo_byteOf 161 = .ok (.iload_n 3, 1) := by decide +kernel
theorem d_Mo_byteOf_162 : decode b_Mo_byteOf 162 = .ok (.iadd, 1) := by decide +kernel
theorem d_Mo_byteOf_163 : decode b_Mo_byteOf 163 = .ok (.iload 7, 2) := by decide +kernel
theorem d_Mo_byteOf_165 : decode b_Mo_byteOf 165 = .ok (.isub, 1) := by decide +kernel
theorem d_Mo_byteOf_166 : decode b_Mo_byteOf 166 = .ok (.baload, 1) := by decide +kernel
theorem d_Mo_byteOf_167 : decode b_Mo_byteOf 167 = .ok (.sipush 255, 3) := by decide +kernel
theorem d_Mo_byteOf_170 : decode b_Mo_byteOf 170 = .ok (.iand, 1) := by decide +kernel
theorem d_Mo_byteOf_171 : decode b_Mo_byteOf 171 = .ok (.ireturn, 1) := by decide +kernel
set_option maxRecDepth 100000 in
set_option maxHeartbeats 4000000 in
theorem Met_Mo_areLinks (l : Launch) (B : Nat) (D : va_G) (aC : Nat → ClassId) (aS : Nat → Nat) {a0 : Nat} {M : zM} {post : Int32 → zM → Prop} (hk0 : a0 < N0) (ht0 : tg a0 = 9) (h : Wp_Mo_areLinks a0 M post) : Met l y_Mo_areLinks (wo y_Mo_areLinks b_Mo_areLinks 6 (some FieldType.boolean)) { frames := 2, cells := 0, slots := 0, locals := 47 } (va_Pc [.ref (B + a0)] (zWl B D aC aS M)) (zQi B D aC post) 0 0 (zAb B) := by
  refine z_met (own := "MailChainModel") (lv0 := [(0, .ref (B + a0))]) (by decide) rfl (Nat.le_of_ble_eq_true rfl) rfl ?_
  intro p e s m below meth c fx hr hlo
  delta Wp_Mo_areLinks at h
  have h := h (fun v1 v2 M => zAt p l e { frames := 2, cells := 0, slots := 0, locals := 47 } s m ([.ref (B + a0)] : List Value).toArray below meth c 0 0 (MQ below (zQi B D aC post) ([.ref (B + a0)] : List Value).toArray s 0 0 (zAb B)) B D aC 6 4 [(0, .ref (B + a0)), (1, .int v1), (2, .int v2)] [] M)
  have h := h (fun v1 v2 v3 v4 v5 M => zAt p l e { frames := 2, cells := 0, slots := 0, locals := 47 } s m ([.ref (B + a0)] : List Value).toArray below meth c 0 0 (MQ below (zQi B D aC post) ([.ref (B + a0)] : List Value).toArray s 0 0 (zAb B)) B D aC 6 125 [(0, .ref (B + a0)), (1, .int v1), (2, .int v2), (3, .int v3), (4, .int v4), (5, .int v5)] [] M)
  have h := h (by
    intro v1 v2 M h
    refine a_iload_n fx 2 d_Mo_areLinks_4 rfl rfl ?_
    refine a_aload_n fx 0 d_Mo_areLinks_5 rfl rfl ?_
    refine a_getS fx (T := F_Mo) (j := 9) (hk := hk0) (ht := ht0) (ht2 := by decide) (hc := rfl) (hin := u_in_Mo) (hj := by decide) (hj2 := by decide) (hf := rfl) (n9 := 8) (hfo := rfl) (hT := rfl) (hw := w_1278) (hd := d_Mo_areLinks_6) (kk := ?_)
    refine a_iconst (v := 2) fx d_Mo_areLinks_9 rfl ?_
    obtain ⟨hin, h⟩ := h
    refine a_iald fx (lo_9_9 hk0 ht0).1 (lo_9_9 hk0 ht0).2 hin d_Mo_areLinks_10 ?_
    refine a_icmp_ge fx 196 d_Mo_areLinks_11 rfl (fun hc => ?_) (fun hc => ?_)
    · have h := h.1 hc
      refine a_iload_n fx 1 d_Mo_areLinks_196 rfl rfl ?_
      exact a_zret fx hlo hr h.1 h.2 d_Mo_areLinks_197
    · have h := h.2 hc
      refine a_iconst (v := 2) fx d_Mo_areLinks_14 rfl ?_
      refine a_iload_n fx 2 d_Mo_areLinks_15 rfl rfl ?_
      refine a_calli (rest := []) (a_runS (As := [.int 2, .int v2]) fx  cv_Mo_at w_1503 (Met_Mo_at l B D aC aS  h) rfl rfl (Nat.le_of_ble_eq_true rfl) rfl rfl ⟨Nat.le_of_ble_eq_true rfl, Nat.le_of_ble_eq_true rfl⟩ d_Mo_areLinks_16 ⟨Nat.le_of_ble_eq_true rfl, Nat.le_of_ble_eq_true rfl⟩) (fun x2 M1 h => ?_)
      refine a_istore_n (lv2 := [(3, .int x2), (0, .ref (B + a0)), (1, .int v1), (2, .int v2)]) fx d_Mo_areLinks_19 rfl (by decide) rfl ?_
      refine a_iconst (v := 2) fx d_Mo_areLinks_20 rfl ?_
      refine a_aload_n fx 1 d_Mo_areLinks_21 rfl rfl ?_
      refine a_iconst (v := 2) fx d_Mo_areLinks_22 rfl ?_
      refine a_iload_n fx 3 d_Mo_areLinks_23 rfl rfl ?_
      refine a_calli (rest := [.int 2]) (a_runV (As := [.int 2, .int v2]) fx cv_Mo_firstOf w_1564 (Met_Mo_firstOf l B D aC aS (hk0 := hk0) (ht0 := ht0) h) hk0 ht0 (by decide) rfl rfl rfl (Nat.le_of_ble_eq_true rfl) rfl rfl ⟨Nat.le_of_ble_eq_true rfl, Nat.le_of_ble_eq_true rfl⟩ d_Mo_areLinks_24 ⟨Nat.le_of_ble_eq_true rfl, Nat.le_of_ble_eq_true rfl⟩) (fun x4 M3 h => ?_)
      refine a_calli (rest := []) (a_runS (As := [.int 2, .int x4]) fx  cv_Mo_at w_1503 (Met_Mo_at l B D aC aS  h) rfl rfl (Nat.le_of_ble_eq_true rfl) rfl rfl ⟨Nat.le_of_ble_eq_true rfl, Nat.le_of_ble_eq_true rfl⟩ d_Mo_areLinks_27 ⟨Nat.le_of_ble_eq_true rfl, Nat.le_of_ble_eq_true rfl⟩) (fun x6 M5 h => ?_)
      refine a_istore (lv2 := [(4, .int x6), (3, .int x2), (0, .ref (B + a0)), (1, .int v1), (2, .int v2)]) fx d_Mo_areLinks_30 (by decide) rfl ?_
      refine a_iload_n fx 3 d_Mo_areLinks_32 rfl rfl ?_
      refine a_if_eq fx 120 d_Mo_areLinks_33 rfl (fun hc => ?_) (fun hc => ?_)
      · have h := h.1 hc
        refine a_iconst (v := 0) fx d_Mo_areLinks_120 rfl ?_
        refine a_istore_n (lv2 := [(1, .int 0), (4, .int x6), (3, .int x2), (0, .ref (B + a0)), (2, .int v2)]) fx d_Mo_areLinks_121 rfl (by decide) rfl ?_
        refine a_iconst (v := 0) fx d_Mo_areLinks_122 rfl ?_
        refine a_istore (lv2 := [(5, .int 0), (1, .int 0), (4, .int x6), (3, .int x2), (0, .ref (B + a0)), (2, .int v2)]) fx d_Mo_areLinks_123 (by decide) rfl ?_
        refine a_sub [4, 1, 5, 3, 2, 0] rfl ?_
        exact h
      · have h := h.2 hc
        refine a_aload_n fx 2 d_Mo_areLinks_36 rfl rfl ?_
        refine a_getS fx (T := F_Mo) (j := 13) (hk := hk0) (ht := ht0) (ht2 := by decide) (hc := rfl) (hin := u_in_Mo) (hj := by decide) (hj2 := by decide) (hf := rfl) (n9 := 12) (hfo := rfl) (hT := rfl) (hw := w_1282) (hd := d_Mo_areLinks_37) (kk := ?_)
        refine a_iload_n fx 1 d_Mo_areLinks_40 rfl rfl ?_
        obtain ⟨hin, h⟩ := h
        refine a_iald fx (lo_9_13 hk0 ht0).1 (lo_9_13 hk0 ht0).2 hin d_Mo_areLinks_41 ?_
        refine a_aload_n fx 2 d_Mo_areLinks_42 rfl rfl ?_
        refine a_getS fx (T := F_Mo) (j := 13) (hk := hk0) (ht := ht0) (ht2 := by decide) (hc := rfl) (hin := u_in_Mo) (hj := by decide) (hj2 := by decide) (hf := rfl) (n9 := 12) (hfo := rfl) (hT := rfl) (hw := w_1282) (hd := d_Mo_areLinks_43) (kk := ?_)
        refine a_iload fx 0 d_Mo_areLinks_46 rfl ?_
        obtain ⟨hin, h⟩ := h
        refine a_iald fx (lo_9_13 hk0 ht0).1 (lo_9_13 hk0 ht0).2 hin d_Mo_areLinks_48 ?_
        refine a_icmp_ne fx 120 d_Mo_areLinks_49 rfl (fun hc => ?_) (fun hc => ?_)
        · have h := h.1 hc
          refine a_iconst (v := 0) fx d_Mo_areLinks_120 rfl ?_
          refine a_istore_n (lv2 := [(1, .int 0), (4, .int x6), (3, .int x2), (0, .ref (B + a0)), (2, .int v2)]) fx d_Mo_areLinks_121 rfl (by decide) rfl ?_
          refine a_iconst (v := 0) fx d_Mo_areLinks_122 rfl ?_
          refine a_istore (lv2 := [(5, .int 0), (1, .int 0), (4, .int x6), (3, .int x2), (0, .ref (B + a0)), (2, .int v2)]) fx d_Mo_areLinks_123 (by decide) rfl ?_
          refine a_sub [4, 1, 5, 3, 2, 0] rfl ?_
          exact h
        · have h := h.2 hc
          refine a_aload_n fx 2 d_Mo_areLinks_52 rfl rfl ?_
          refine a_getS fx (T := F_Mo) (j := 14) (hk := hk0) (ht := ht0) (ht2 := by decide) (hc := rfl) (hin := u_in_Mo) (hj := by decide) (hj2 := by decide) (hf := rfl) (n9 := 13) (hfo := rfl) (hT := rfl) (hw := w_1283) (hd := d_Mo_areLinks_53) (kk := ?_)
          refine a_iload_n fx 1 d_Mo_areLinks_56 rfl rfl ?_
          obtain ⟨hin, h⟩ := h
          refine a_iald fx (lo_9_14 hk0 ht0).1 (lo_9_14 hk0 ht0).2 hin d_Mo_areLinks_57 ?_
          refine a_aload_n fx 2 d_Mo_areLinks_58 rfl rfl ?_
          refine a_getS fx (T := F_Mo) (j := 14) (hk := hk0) (ht := ht0) (ht2 := by decide) (hc := rfl) (hin := u_in_Mo) (hj := by decide) (hj2 := by decide) (hf := rfl) (n9 := 13) (hfo := rfl) (hT := rfl) (hw := w_1283) (hd := d_Mo_areLinks_59) (kk := ?_)
          refine a_iload fx 0 d_Mo_areLinks_62 rfl ?_
          obtain ⟨hin, h⟩ := h
          refine a_iald fx (lo_9_14 hk0 ht0).1 (lo_9_14 hk0 ht0).2 hin d_Mo_areLinks_64 ?_
          refine a_icmp_ne fx 120 d_Mo_areLinks_65 rfl (fun hc => ?_) (fun hc => ?_)
          · have h := h.1 hc
            refine a_iconst (v := 0) fx d_Mo_areLinks_120 rfl ?_
            refine a_istore_n (lv2 := [(1, .int 0), (4, .int x6), (3, .int x2), (0, .ref (B + a0)), (2, .int v2)]) fx d_Mo_areLinks_121 rfl (by decide) rfl ?_
            refine a_iconst (v := 0) fx d_Mo_areLinks_122 rfl ?_
            refine a_istore (lv2 := [(5, .int 0), (1, .int 0), (4, .int x6), (3, .int x2), (0, .ref (B + a0)), (2, .int v2)]) fx d_Mo_areLinks_123 (by decide) rfl ?_
            refine a_sub [4, 1, 5, 3, 2, 0] rfl ?_
            exact h
          · have h := h.2 hc
            refine a_aload_n fx 2 d_Mo_areLinks_68 rfl rfl ?_
            refine a_getS fx (T := F_Mo) (j := 15) (hk := hk0) (ht := ht0) (ht2 := by decide) (hc := rfl) (hin := u_in_Mo) (hj := by decide) (hj2 := by decide) (hf := rfl) (n9 := 14) (hfo := rfl) (hT := rfl) (hw := w_1284) (hd := d_Mo_areLinks_69) (kk := ?_)
            refine a_iload_n fx 1 d_Mo_areLinks_72 rfl rfl ?_
            obtain ⟨hin, h⟩ := h
            refine a_iald fx (lo_9_15 hk0 ht0).1 (lo_9_15 hk0 ht0).2 hin d_Mo_areLinks_73 ?_
            refine a_aload_n fx 2 d_Mo_areLinks_74 rfl rfl ?_
            refine a_getS fx (T := F_Mo) (j := 15) (hk := hk0) (ht := ht0) (ht2 := by decide) (hc := rfl) (hin := u_in_Mo) (hj := by decide) (hj2 := by decide) (hf := rfl) (n9 := 14) (hfo := rfl) (hT := rfl) (hw := w_1284) (hd := d_Mo_areLinks_75) (kk := ?_)
            refine a_iload fx 0 d_Mo_areLinks_78 rfl ?_
            obtain ⟨hin, h⟩ := h
            refine a_iald fx (lo_9_15 hk0 ht0).1 (lo_9_15 hk0 ht0).2 hin d_Mo_areLinks_80 ?_
            refine a_icmp_ne fx 120 d_Mo_areLinks_81 rfl (fun hc => ?_) (fun hc => ?_)
            · have h := h.1 hc
              refine a_iconst (v := 0) fx d_Mo_areLinks_120 rfl ?_
              refine a_istore_n (lv2 := [(1, .int 0), (4, .int x6), (3, .int x2), (0, .ref (B + a0)), (2, .int v2)]) fx d_Mo_areLinks_121 rfl (by decide) rfl ?_
              refine a_iconst (v := 0) fx d_Mo_areLinks_122 rfl ?_
              refine a_istore (lv2 := [(5, .int 0), (1, .int 0), (4, .int x6), (3, .int x2), (0, .ref (B + a0)), (2, .int v2)]) fx d_Mo_areLinks_123 (by decide) rfl ?_
              refine a_sub [4, 1, 5, 3, 2, 0] rfl ?_
              exact h
            · have h := h.2 hc
              refine a_aload_n fx 2 d_Mo_areLinks_84 rfl rfl ?_
              refine a_getS fx (T := F_Mo) (j := 16) (hk := hk0) (ht := ht0) (ht2 := by decide) (hc := rfl) (hin := u_in_Mo) (hj := by decide) (hj2 := by decide) (hf := rfl) (n9 := 15) (hfo := rfl) (hT := rfl) (hw := w_1285) (hd := d_Mo_areLinks_85) (kk := ?_)
              refine a_iload_n fx 1 d_Mo_areLinks_88 rfl rfl ?_
              obtain ⟨hin, h⟩ := h
              refine a_iald fx (lo_9_16 hk0 ht0).1 (lo_9_16 hk0 ht0).2 hin d_Mo_areLinks_89 ?_
              refine a_aload_n fx 2 d_Mo_areLinks_90 rfl rfl ?_
              refine a_getS fx (T := F_Mo) (j := 16) (hk := hk0) (ht := ht0) (ht2 := by decide) (hc := rfl) (hin := u_in_Mo) (hj := by decide) (hj2 := by decide) (hf := rfl) (n9 := 15) (hfo := rfl) (hT := rfl) (hw := w_1285) (hd := d_Mo_areLinks_91) (kk := ?_)
              refine a_iload fx 0 d_Mo_areLinks_94 rfl ?_
              obtain ⟨hin, h⟩ := h
              refine a_iald fx (lo_9_16 hk0 ht0).1 (lo_9_16 hk0 ht0).2 hin d_Mo_areLinks_96 ?_
              refine a_icmp_ne fx 120 d_Mo_areLinks_97 rfl (fun hc => ?_) (fun hc => ?_)
              · have h := h.1 hc
                refine a_iconst (v := 0) fx d_Mo_areLinks_120 rfl ?_
                refine a_istore_n (lv2 := [(1, .int 0), (4, .int x6), (3, .int x2), (0, .ref (B + a0)), (2, .int v2)]) fx d_Mo_areLinks_121 rfl (by decide) rfl ?_
                refine a_iconst (v := 0) fx d_Mo_areLinks_122 rfl ?_
                refine a_istore (lv2 := [(5, .int 0), (1, .int 0), (4, .int x6), (3, .int x2), (0, .ref (B + a0)), (2, .int v2)]) fx d_Mo_areLinks_123 (by decide) rfl ?_
                refine a_sub [4, 1, 5, 3, 2, 0] rfl ?_
                exact h
              · have h := h.2 hc
                refine a_aload_n fx 2 d_Mo_areLinks_100 rfl rfl ?_
                refine a_getS fx (T := F_Mo) (j := 18) (hk := hk0) (ht := ht0) (ht2 := by decide) (hc := rfl) (hin := u_in_Mo) (hj := by decide) (hj2 := by decide) (hf := rfl) (n9 := 17) (hfo := rfl) (hT := rfl) (hw := w_1287) (hd := d_Mo_areLinks_101) (kk := ?_)
                refine a_iload_n fx 1 d_Mo_areLinks_104 rfl rfl ?_
                obtain ⟨hin, h⟩ := h
                refine a_iald fx (lo_9_18 hk0 ht0).1 (lo_9_18 hk0 ht0).2 hin d_Mo_areLinks_105 ?_
                refine a_aload_n fx 2 d_Mo_areLinks_106 rfl rfl ?_
                refine a_getS fx (T := F_Mo) (j := 18) (hk := hk0) (ht := ht0) (ht2 := by decide) (hc := rfl) (hin := u_in_Mo) (hj := by decide) (hj2 := by decide) (hf := rfl) (n9 := 17) (hfo := rfl) (hT := rfl) (hw := w_1287) (hd := d_Mo_areLinks_107) (kk := ?_)
                refine a_iload fx 0 d_Mo_areLinks_110 rfl ?_
                obtain ⟨hin, h⟩ := h
                refine a_iald fx (lo_9_18 hk0 ht0).1 (lo_9_18 hk0 ht0).2 hin d_Mo_areLinks_112 ?_
                refine a_icmp_ne fx 120 d_Mo_areLinks_113 rfl (fun hc => ?_) (fun hc => ?_)
                · have h := h.1 hc
                  refine a_iconst (v := 0) fx d_Mo_areLinks_120 rfl ?_
                  refine a_istore_n (lv2 := [(1, .int 0), (4, .int x6), (3, .int x2), (0, .ref (B + a0)), (2, .int v2)]) fx d_Mo_areLinks_121 rfl (by decide) rfl ?_
                  refine a_iconst (v := 0) fx d_Mo_areLinks_122 rfl ?_
                  refine a_istore (lv2 := [(5, .int 0), (1, .int 0), (4, .int x6), (3, .int x2), (0, .ref (B + a0)), (2, .int v2)]) fx d_Mo_areLinks_123 (by decide) rfl ?_
                  refine a_sub [4, 1, 5, 3, 2, 0] rfl ?_
                  exact h
                · have h := h.2 hc
                  refine a_iconst (v := 1) fx d_Mo_areLinks_116 rfl ?_
                  refine a_goto fx 121 d_Mo_areLinks_117 rfl ?_
                  refine a_istore_n (lv2 := [(1, .int 1), (4, .int x6), (3, .int x2), (0, .ref (B + a0)), (2, .int v2)]) fx d_Mo_areLinks_121 rfl (by decide) rfl ?_
                  refine a_iconst (v := 0) fx d_Mo_areLinks_122 rfl ?_
                  refine a_istore (lv2 := [(5, .int 0), (1, .int 1), (4, .int x6), (3, .int x2), (0, .ref (B + a0)), (2, .int v2)]) fx d_Mo_areLinks_123 (by decide) rfl ?_
                  refine a_sub [4, 1, 5, 3, 2, 0] rfl ?_
                  exact h)
  have h := h (by
    intro v1 v2 v3 v4 v5 M h
    refine a_iload fx 5 d_Mo_areLinks_125 rfl ?_
    refine a_aload_n fx 0 d_Mo_areLinks_127 rfl rfl ?_
    refine a_getS fx (T := F_Mo) (j := 18) (hk := hk0) (ht := ht0) (ht2 := by decide) (hc := rfl) (hin := u_in_Mo) (hj := by decide) (hj2 := by decide) (hf := rfl) (n9 := 17) (hfo := rfl) (hT := rfl) (hw := w_1287) (hd := d_Mo_areLinks_128) (kk := ?_)
    refine a_iload_n fx 3 d_Mo_areLinks_131 rfl rfl ?_
    obtain ⟨hin, h⟩ := h
    refine a_iald fx (lo_9_18 hk0 ht0).1 (lo_9_18 hk0 ht0).2 hin d_Mo_areLinks_132 ?_
    refine a_icmp_ge fx 190 d_Mo_areLinks_133 rfl (fun hc => ?_) (fun hc => ?_)
    · have h := h.1 hc
      obtain ⟨x7, ex7⟩ : ∃ z : Int32, z = v2 + 1 := ⟨_, rfl⟩
      have h := h x7 ex7
      refine a_iinc (lv2 := [(2, .int x7), (0, .ref (B + a0)), (1, .int v1), (3, .int v3), (4, .int v4), (5, .int v5)]) fx 2 d_Mo_areLinks_190 rfl ex7.symm (by decide) rfl ?_
      refine a_goto fx 4 d_Mo_areLinks_193 rfl ?_
      refine a_sub [1, 2, 0] rfl ?_
      exact h
    · have h := h.2 hc
      refine a_iload_n fx 1 d_Mo_areLinks_136 rfl rfl ?_
      refine a_if_eq fx 190 d_Mo_areLinks_137 rfl (fun hc => ?_) (fun hc => ?_)
      · have h := h.1 hc
        obtain ⟨x8, ex8⟩ : ∃ z : Int32, z = v2 + 1 := ⟨_, rfl⟩
        have h := h x8 ex8
        refine a_iinc (lv2 := [(2, .int x8), (0, .ref (B + a0)), (1, .int v1), (3, .int v3), (4, .int v4), (5, .int v5)]) fx 2 d_Mo_areLinks_190 rfl ex8.symm (by decide) rfl ?_
        refine a_goto fx 4 d_Mo_areLinks_193 rfl ?_
        refine a_sub [1, 2, 0] rfl ?_
        exact h
      · have h := h.2 hc
        refine a_aload_n fx 0 d_Mo_areLinks_140 rfl rfl ?_
        refine a_getS fx (T := F_Mo) (j := 21) (hk := hk0) (ht := ht0) (ht2 := by decide) (hc := rfl) (hin := u_in_Mo) (hj := by decide) (hj2 := by decide) (hf := rfl) (n9 := 20) (hfo := rfl) (hT := rfl) (hw := w_1290) (hd := d_Mo_areLinks_141) (kk := ?_)
        refine a_ldc fx w_1265 d_Mo_areLinks_144 ?_
        refine a_aload_n fx 0 d_Mo_areLinks_146 rfl rfl ?_
        refine a_getS fx (T := F_Mo) (j := 17) (hk := hk0) (ht := ht0) (ht2 := by decide) (hc := rfl) (hin := u_in_Mo) (hj := by decide) (hj2 := by decide) (hf := rfl) (n9 := 16) (hfo := rfl) (hT := rfl) (hw := w_1286) (hd := d_Mo_areLinks_147) (kk := ?_)
        refine a_iload_n fx 3 d_Mo_areLinks_150 rfl rfl ?_
        obtain ⟨hin, h⟩ := h
        refine a_iald fx (lo_9_17 hk0 ht0).1 (lo_9_17 hk0 ht0).2 hin d_Mo_areLinks_151 ?_
        refine a_iadd fx d_Mo_areLinks_152 ?_
        refine a_iload fx 5 d_Mo_areLinks_153 rfl ?_
        refine a_iadd fx d_Mo_areLinks_155 ?_
        obtain ⟨hin, h⟩ := h
        refine a_bald fx (lo_9_21 hk0 ht0).1 (lo_9_21 hk0 ht0).2 hin d_Mo_areLinks_156 ?_
        refine a_aload_n fx 0 d_Mo_areLinks_157 rfl rfl ?_
        refine a_getS fx (T := F_Mo) (j := 21) (hk := hk0) (ht := ht0) (ht2 := by decide) (hc := rfl) (hin := u_in_Mo) (hj := by decide) (hj2 := by decide) (hf := rfl) (n9 := 20) (hfo := rfl) (hT := rfl) (hw := w_1290) (hd := d_Mo_areLinks_158) (kk := ?_)
        refine a_ldc fx w_1265 d_Mo_areLinks_161 ?_
        refine a_aload_n fx 0 d_Mo_areLinks_163 rfl rfl ?_
        refine a_getS fx (T := F_Mo) (j := 17) (hk := hk0) (ht := ht0) (ht2 := by decide) (hc := rfl) (hin := u_in_Mo) (hj := by decide) (hj2 := by decide) (hf := rfl) (n9 := 16) (hfo := rfl) (hT := rfl) (hw := w_1286) (hd := d_Mo_areLinks_164) (kk := ?_)
        refine a_iload fx 4 d_Mo_areLinks_167 rfl ?_
        obtain ⟨hin, h⟩ := h
        refine a_iald fx (lo_9_17 hk0 ht0).1 (lo_9_17 hk0 ht0).2 hin d_Mo_areLinks_169 ?_
        refine a_iadd fx d_Mo_areLinks_170 ?_
        refine a_iload fx 5 d_Mo_areLinks_171 rfl ?_
        refine a_iadd fx d_Mo_areLinks_173 ?_
        obtain ⟨hin, h⟩ := h
        refine a_bald fx (lo_9_21 hk0 ht0).1 (lo_9_21 hk0 ht0).2 hin d_Mo_areLinks_174 ?_
        refine a_icmp_ne fx 182 d_Mo_areLinks_175 rfl (fun hc => ?_) (fun hc => ?_)
        · have h := h.1 hc
          refine a_iconst (v := 0) fx d_Mo_areLinks_182 rfl ?_
          refine a_istore_n (lv2 := [(1, .int 0), (0, .ref (B + a0)), (2, .int v2), (3, .int v3), (4, .int v4), (5, .int v5)]) fx d_Mo_areLinks_183 rfl (by decide) rfl ?_
          obtain ⟨x9, ex9⟩ : ∃ z : Int32, z = v5 + 1 := ⟨_, rfl⟩
          have h := h x9 ex9
          refine a_iinc (lv2 := [(5, .int x9), (1, .int 0), (0, .ref (B + a0)), (2, .int v2), (3, .int v3), (4, .int v4)]) fx 5 d_Mo_areLinks_184 rfl ex9.symm (by decide) rfl ?_
          refine a_goto fx 125 d_Mo_areLinks_187 rfl ?_
          refine a_sub [2, 1, 3, 4, 5, 0] rfl ?_
          exact h
        · have h := h.2 hc
          refine a_iconst (v := 1) fx d_Mo_areLinks_178 rfl ?_
          refine a_goto fx 183 d_Mo_areLinks_179 rfl ?_
          refine a_istore_n (lv2 := [(1, .int 1), (0, .ref (B + a0)), (2, .int v2), (3, .int v3), (4, .int v4), (5, .int v5)]) fx d_Mo_areLinks_183 rfl (by decide) rfl ?_
          obtain ⟨x10, ex10⟩ : ∃ z : Int32, z = v5 + 1 := ⟨_, rfl⟩
          have h := h x10 ex10
          refine a_iinc (lv2 := [(5, .int x10), (1, .int 1), (0, .ref (B + a0)), (2, .int v2), (3, .int v3), (4, .int v4)]) fx 5 d_Mo_areLinks_184 rfl ex10.symm (by decide) rfl ?_
          refine a_goto fx 125 d_Mo_areLinks_187 rfl ?_
          refine a_sub [2, 1, 3, 4, 5, 0] rfl ?_
          exact h)
  refine a_iconst (v := 1) fx d_Mo_areLinks_0 rfl ?_
  refine a_istore_n (lv2 := [(1, .int 1), (0, .ref (B + a0))]) fx d_Mo_areLinks_1 rfl (by decide) rfl ?_
  refine a_iconst (v := 0) fx d_Mo_areLinks_2 rfl ?_
  refine a_istore_n (lv2 := [(2, .int 0), (1, .int 1), (0, .ref (B + a0))]) fx d_Mo_areLinks_3 rfl (by decide) rfl ?_
  refine a_sub [2, 1, 0] rfl ?_
  exact h
set_option maxRecDepth 100000 in
set_option maxHeartbeats 4000000 in
theorem Met_Mo_readTree (l : Launch) (B : Nat) (D : va_G) (aC : Nat → ClassId) (aS : Nat → Nat) {a0 : Nat} {M : zM} {post : Int32 → zM → Prop} (hk0 : a0 < N0) (ht0 : tg a0 = 9) (h : Wp_Mo_readTree a0 M post) : Met l y_Mo_readTree (wo y_Mo_readTree b_Mo_readTree 10 (some FieldType.boolean)) { frames := 3, cells := 0, slots := 0, locals := 77 } (va_Pc [.ref (B + a0)] (zWl B D aC aS M)) (zQi B D aC post) 0 0 (zAb B) := by
  refine z_met (own := "MailChainModel") (lv0 := [(0, .ref (B + a0))]) (by decide) rfl (Nat.le_of_ble_eq_true rfl) rfl ?_
  intro p e s m below meth c fx hr hlo
  delta Wp_Mo_readTree at h
  have h := h (fun v1 M => zAt p l e { frames := 3, cells := 0, slots := 0, locals := 77 } s m ([.ref (B + a0)] : List Value).toArray below meth c 0 0 (MQ below (zQi B D aC post) ([.ref (B + a0)] : List Value).toArray s 0 0 (zAb B)) B D aC 10 16 [(0, .ref (B + a0)), (1, .int v1)] [] M)
  have h := h (fun v1 v2 v3 v5 v6 w0 M => zAt p l e { frames := 3, cells := 0, slots := 0, locals := 77 } s m ([.ref (B + a0)] : List Value).toArray below meth c 0 0 (MQ below (zQi B D aC post) ([.ref (B + a0)] : List Value).toArray s 0 0 (zAb B)) B D aC 10 185 [(0, .ref (B + a0)), (1, .int v1), (2, .int v2), (3, .long v3), (5, .int v5), (6, .long v6)] [.int w0] M)
  have h := h (fun v1 v2 v3 v5 v6 v8 w0 M => zAt p l e { frames := 3, cells := 0, slots := 0, locals := 77 } s m ([.ref (B + a0)] : List Value).toArray below meth c 0 0 (MQ below (zQi B D aC post) ([.ref (B + a0)] : List Value).toArray s 0 0 (zAb B)) B D aC 10 221 [(0, .ref (B + a0)), (1, .int v1), (2, .int v2), (3, .long v3), (5, .int v5), (6, .long v6), (8, .int v8)] [.int w0] M)
  have h := h (fun v1 v2 v3 v5 v6 v8 M => zAt p l e { frames := 3, cells := 0, slots := 0, locals := 77 } s m ([.ref (B + a0)] : List Value).toArray below meth c 0 0 (MQ below (zQi B D aC post) ([.ref (B + a0)] : List Value).toArray s 0 0 (zAb B)) B D aC 10 265 [(0, .ref (B + a0)), (1, .int v1), (2, .int v2), (3, .long v3), (5, .int v5), (6, .long v6), (8, .int v8)] [] M)
  have h := h (fun v1 v2 v3 v5 v6 v8 M => zAt p l e { frames := 3, cells := 0, slots := 0, locals := 77 } s m ([.ref (B + a0)] : List Value).toArray below meth c 0 0 (MQ below (zQi B D aC post) ([.ref (B + a0)] : List Value).toArray s 0 0 (zAb B)) B D aC 10 291 [(0, .ref (B + a0)), (1, .int v1), (2, .int v2), (3, .long v3), (5, .int v5), (6, .long v6), (8, .int v8)] [] M)
  have h := h (fun v1 v2 v3 v5 v6 v8 M => zAt p l e { frames := 3, cells := 0, slots := 0, locals := 77 } s m ([.ref (B + a0)] : List Value).toArray below meth c 0 0 (MQ below (zQi B D aC post) ([.ref (B + a0)] : List Value).toArray s 0 0 (zAb B)) B D aC 10 314 [(0, .ref (B + a0)), (1, .int v1), (2, .int v2), (3, .long v3), (5, .int v5), (6, .long v6), (8, .int v8)] [] M)
  have h := h (by
    intro v1 M h
    refine a_iload_n fx 1 d_Mo_readTree_16 rfl rfl ?_
    refine a_bipush (v := 76) fx d_Mo_readTree_17 rfl ?_
    refine a_iadd fx d_Mo_readTree_19 ?_
    refine a_aload_n fx 0 d_Mo_readTree_20 rfl rfl ?_
    refine a_getI fx (T := F_Mo) (j := 47) (hk := hk0) (ht := ht0) (ht2 := by decide) (hc := rfl) (hin := u_in_Mo) (hj := by decide) (hj2 := by decide) (hf := rfl) (hT := rfl) (hw := w_1316) (hd := d_Mo_readTree_21) (kk := ?_)
    refine a_icmp_gt fx 344 d_Mo_readTree_24 rfl (fun hc => ?_) (fun hc => ?_)
    · have h := h.1 hc
      refine a_aload_n fx 0 d_Mo_readTree_344 rfl rfl ?_
      refine a_calli (rest := []) (a_runV (As := []) fx cv_Mo_areLinks w_1734 (Met_Mo_areLinks l B D aC aS (hk0 := hk0) (ht0 := ht0) h) hk0 ht0 (by decide) rfl rfl rfl (Nat.le_of_ble_eq_true rfl) rfl rfl ⟨Nat.le_of_ble_eq_true rfl, Nat.le_of_ble_eq_true rfl⟩ d_Mo_readTree_345 ⟨Nat.le_of_ble_eq_true rfl, Nat.le_of_ble_eq_true rfl⟩) (fun x4 M3 h => ?_)
      exact a_zret fx hlo hr h.1 h.2 d_Mo_readTree_348
    · have h := h.2 hc
      refine a_aload_n fx 0 d_Mo_readTree_27 rfl rfl ?_
      refine a_iload_n fx 1 d_Mo_readTree_28 rfl rfl ?_
      refine a_bipush (v := 12) fx d_Mo_readTree_29 rfl ?_
      refine a_iadd fx d_Mo_readTree_31 ?_
      refine a_bipush (v := 6) fx d_Mo_readTree_32 rfl ?_
      refine a_calll (rest := []) (a_runV (As := [.int (v1 + 12), .int 6]) fx cv_Mo_octalAt w_1724 (Met_Mo_octalAt l B D aC aS (hk0 := hk0) (ht0 := ht0) h) hk0 ht0 (by decide) rfl rfl rfl (Nat.le_of_ble_eq_true rfl) rfl rfl ⟨Nat.le_of_ble_eq_true rfl, Nat.le_of_ble_eq_true rfl⟩ d_Mo_readTree_34 ⟨Nat.le_of_ble_eq_true rfl, Nat.le_of_ble_eq_true rfl⟩) (fun y6 M5 h => ?_)
      refine a_lconst (v := 0) fx d_Mo_readTree_37 rfl ?_
      refine a_lcmp fx d_Mo_readTree_38 ?_
      refine a_if_eq fx 344 d_Mo_readTree_39 rfl (fun hc => ?_) (fun hc => ?_)
      · have h := h.1 hc
        refine a_aload_n fx 0 d_Mo_readTree_344 rfl rfl ?_
        refine a_calli (rest := []) (a_runV (As := []) fx cv_Mo_areLinks w_1734 (Met_Mo_areLinks l B D aC aS (hk0 := hk0) (ht0 := ht0) h) hk0 ht0 (by decide) rfl rfl rfl (Nat.le_of_ble_eq_true rfl) rfl rfl ⟨Nat.le_of_ble_eq_true rfl, Nat.le_of_ble_eq_true rfl⟩ d_Mo_readTree_345 ⟨Nat.le_of_ble_eq_true rfl, Nat.le_of_ble_eq_true rfl⟩) (fun x8 M7 h => ?_)
        exact a_zret fx hlo hr h.1 h.2 d_Mo_readTree_348
      · have h := h.2 hc
        refine a_aload_n fx 0 d_Mo_readTree_42 rfl rfl ?_
        refine a_iload_n fx 1 d_Mo_readTree_43 rfl rfl ?_
        refine a_bipush (v := 59) fx d_Mo_readTree_44 rfl ?_
        refine a_iadd fx d_Mo_readTree_46 ?_
        refine a_bipush (v := 6) fx d_Mo_readTree_47 rfl ?_
        refine a_calll (rest := []) (a_runV (As := [.int (v1 + 59), .int 6]) fx cv_Mo_octalAt w_1724 (Met_Mo_octalAt l B D aC aS (hk0 := hk0) (ht0 := ht0) h) hk0 ht0 (by decide) rfl rfl rfl (Nat.le_of_ble_eq_true rfl) rfl rfl ⟨Nat.le_of_ble_eq_true rfl, Nat.le_of_ble_eq_true rfl⟩ d_Mo_readTree_49 ⟨Nat.le_of_ble_eq_true rfl, Nat.le_of_ble_eq_true rfl⟩) (fun y10 M9 h => ?_)
        refine a_l2i fx d_Mo_readTree_52 ?_
        refine a_iconst (v := 1) fx d_Mo_readTree_53 rfl ?_
        refine a_isub fx d_Mo_readTree_54 ?_
        refine a_topi (fun x11 ex11 => ?_)
        have h := h x11 ex11
        refine a_istore_n (lv2 := [(2, .int x11), (0, .ref (B + a0)), (1, .int v1)]) fx d_Mo_readTree_55 rfl (by decide) rfl ?_
        refine a_aload_n fx 1 d_Mo_readTree_56 rfl rfl ?_
        refine a_iload_n fx 2 d_Mo_readTree_57 rfl rfl ?_
        refine a_bipush (v := 65) fx d_Mo_readTree_58 rfl ?_
        refine a_iadd fx d_Mo_readTree_60 ?_
        refine a_bipush (v := 11) fx d_Mo_readTree_61 rfl ?_
        refine a_calll (rest := []) (a_runV (As := [.int (v1 + 65), .int 11]) fx cv_Mo_octalAt w_1724 (Met_Mo_octalAt l B D aC aS (hk0 := hk0) (ht0 := ht0) h) hk0 ht0 (by decide) rfl rfl rfl (Nat.le_of_ble_eq_true rfl) rfl rfl ⟨Nat.le_of_ble_eq_true rfl, Nat.le_of_ble_eq_true rfl⟩ d_Mo_readTree_63 ⟨Nat.le_of_ble_eq_true rfl, Nat.le_of_ble_eq_true rfl⟩) (fun y13 M12 h => ?_)
        refine a_lstore_n (lv2 := [(3, .long y13), (2, .int x11), (0, .ref (B + a0)), (1, .int v1)]) fx d_Mo_readTree_66 rfl (by decide) rfl ?_
        refine a_iload_n fx 1 d_Mo_readTree_67 rfl rfl ?_
        refine a_iconst (v := 1) fx d_Mo_readTree_68 rfl ?_
        refine a_icmp_lt fx 117 d_Mo_readTree_69 rfl (fun hc => ?_) (fun hc => ?_)
        · have h := h.1 hc
          refine a_iconst (v := 0) fx d_Mo_readTree_117 rfl ?_
          exact a_zret fx hlo hr rfl h d_Mo_readTree_118
        · have h := h.2 hc
          refine a_iload_n fx 1 d_Mo_readTree_72 rfl rfl ?_
          refine a_bipush (v := 60) fx d_Mo_readTree_73 rfl ?_
          refine a_icmp_gt fx 117 d_Mo_readTree_75 rfl (fun hc => ?_) (fun hc => ?_)
          · have h := h.1 hc
            refine a_iconst (v := 0) fx d_Mo_readTree_117 rfl ?_
            exact a_zret fx hlo hr rfl h d_Mo_readTree_118
          · have h := h.2 hc
            refine a_lload_n fx 0 d_Mo_readTree_78 rfl rfl ?_
            refine a_ldc2 fx w_1728 d_Mo_readTree_79 ?_
            refine a_lcmp fx d_Mo_readTree_82 ?_
            refine a_if_gt fx 117 d_Mo_readTree_83 rfl (fun hc => ?_) (fun hc => ?_)
            · have h := h.1 hc
              refine a_iconst (v := 0) fx d_Mo_readTree_117 rfl ?_
              exact a_zret fx hlo hr rfl h d_Mo_readTree_118
            · have h := h.2 hc
              refine a_iload_n fx 3 d_Mo_readTree_86 rfl rfl ?_
              refine a_bipush (v := 76) fx d_Mo_readTree_87 rfl ?_
              refine a_iadd fx d_Mo_readTree_89 ?_
              refine a_iload_n fx 1 d_Mo_readTree_90 rfl rfl ?_
              refine a_iadd fx d_Mo_readTree_91 ?_
              refine a_iconst (v := 1) fx d_Mo_readTree_92 rfl ?_
              refine a_iadd fx d_Mo_readTree_93 ?_
              refine a_i2l fx d_Mo_readTree_94 ?_
              refine a_lload_n fx 0 d_Mo_readTree_95 rfl rfl ?_
              refine a_ladd fx d_Mo_readTree_96 ?_
              refine a_aload_n fx 2 d_Mo_readTree_97 rfl rfl ?_
              refine a_getI fx (T := F_Mo) (j := 47) (hk := hk0) (ht := ht0) (ht2 := by decide) (hc := rfl) (hin := u_in_Mo) (hj := by decide) (hj2 := by decide) (hf := rfl) (hT := rfl) (hw := w_1316) (hd := d_Mo_readTree_98) (kk := ?_)
              refine a_i2l fx d_Mo_readTree_101 ?_
              refine a_lcmp fx d_Mo_readTree_102 ?_
              refine a_if_gt fx 117 d_Mo_readTree_103 rfl (fun hc => ?_) (fun hc => ?_)
              · have h := h.1 hc
                refine a_iconst (v := 0) fx d_Mo_readTree_117 rfl ?_
                exact a_zret fx hlo hr rfl h d_Mo_readTree_118
              · have h := h.2 hc
                refine a_aload_n fx 2 d_Mo_readTree_106 rfl rfl ?_
                refine a_getS fx (T := F_Mo) (j := 9) (hk := hk0) (ht := ht0) (ht2 := by decide) (hc := rfl) (hin := u_in_Mo) (hj := by decide) (hj2 := by decide) (hf := rfl) (n9 := 8) (hfo := rfl) (hT := rfl) (hw := w_1278) (hd := d_Mo_readTree_107) (kk := ?_)
                refine a_iconst (v := 2) fx d_Mo_readTree_110 rfl ?_
                obtain ⟨hin, h⟩ := h
                refine a_iald fx (lo_9_9 hk0 ht0).1 (lo_9_9 hk0 ht0).2 hin d_Mo_readTree_111 ?_
                refine a_bipush (v := 40) fx d_Mo_readTree_112 rfl ?_
                refine a_icmp_ne fx 119 d_Mo_readTree_114 rfl (fun hc => ?_) (fun hc => ?_)
                · have h := h.1 hc
                  refine a_aload_n fx 2 d_Mo_readTree_119 rfl rfl ?_
                  refine a_aload_n fx 2 d_Mo_readTree_120 rfl rfl ?_
                  refine a_getS fx (T := F_Mo) (j := 48) (hk := hk0) (ht := ht0) (ht2 := by decide) (hc := rfl) (hin := u_in_Mo) (hj := by decide) (hj2 := by decide) (hf := rfl) (n9 := 32) (hfo := rfl) (hT := rfl) (hw := w_1317) (hd := d_Mo_readTree_121) (kk := ?_)
                  refine a_iload_n fx 3 d_Mo_readTree_124 rfl rfl ?_
                  refine a_bipush (v := 76) fx d_Mo_readTree_125 rfl ?_
                  refine a_iadd fx d_Mo_readTree_127 ?_
                  refine a_iload_n fx 1 d_Mo_readTree_128 rfl rfl ?_
                  refine a_callv (rest := []) (a_runV (As := [.ref (B + (a0 + 32)), .int (v1 + 76), .int x11]) fx cv_Mo_look w_1480 (Met_Mo_look l B D aC aS (hk0 := hk0) (ht0 := ht0) (hk1 := (lo_9_48 hk0 ht0).1) (ht1 := (lo_9_48 hk0 ht0).2) h) hk0 ht0 (by decide) rfl rfl rfl (Nat.le_of_ble_eq_true rfl) rfl rfl ⟨Nat.le_of_ble_eq_true rfl, Nat.le_of_ble_eq_true rfl⟩ d_Mo_readTree_129 ⟨Nat.le_of_ble_eq_true rfl, Nat.le_of_ble_eq_true rfl⟩) (fun M14 h => ?_)
                  refine a_aload_n fx 2 d_Mo_readTree_132 rfl rfl ?_
                  refine a_iload_n fx 3 d_Mo_readTree_133 rfl rfl ?_
                  refine a_bipush (v := 18) fx d_Mo_readTree_134 rfl ?_
                  refine a_iadd fx d_Mo_readTree_136 ?_
                  refine a_bipush (v := 6) fx d_Mo_readTree_137 rfl ?_
                  refine a_calll (rest := []) (a_runV (As := [.int (v1 + 18), .int 6]) fx cv_Mo_octalAt w_1724 (Met_Mo_octalAt l B D aC aS (hk0 := hk0) (ht0 := ht0) h) hk0 ht0 (by decide) rfl rfl rfl (Nat.le_of_ble_eq_true rfl) rfl rfl ⟨Nat.le_of_ble_eq_true rfl, Nat.le_of_ble_eq_true rfl⟩ d_Mo_readTree_139 ⟨Nat.le_of_ble_eq_true rfl, Nat.le_of_ble_eq_true rfl⟩) (fun y16 M15 h => ?_)
                  refine a_l2i fx d_Mo_readTree_142 ?_
                  refine a_topi (fun x17 ex17 => ?_)
                  have h := h x17 ex17
                  refine a_istore (lv2 := [(5, .int x17), (3, .long y13), (2, .int x11), (0, .ref (B + a0)), (1, .int v1)]) fx d_Mo_readTree_143 (by decide) rfl ?_
                  refine a_aload_n fx 3 d_Mo_readTree_145 rfl rfl ?_
                  refine a_iload_n fx 4 d_Mo_readTree_146 rfl rfl ?_
                  refine a_bipush (v := 48) fx d_Mo_readTree_147 rfl ?_
                  refine a_iadd fx d_Mo_readTree_149 ?_
                  refine a_bipush (v := 11) fx d_Mo_readTree_150 rfl ?_
                  refine a_calll (rest := []) (a_runV (As := [.int (v1 + 48), .int 11]) fx cv_Mo_octalAt w_1724 (Met_Mo_octalAt l B D aC aS (hk0 := hk0) (ht0 := ht0) h) hk0 ht0 (by decide) rfl rfl rfl (Nat.le_of_ble_eq_true rfl) rfl rfl ⟨Nat.le_of_ble_eq_true rfl, Nat.le_of_ble_eq_true rfl⟩ d_Mo_readTree_152 ⟨Nat.le_of_ble_eq_true rfl, Nat.le_of_ble_eq_true rfl⟩) (fun y19 M18 h => ?_)
                  refine a_lstore (lv2 := [(6, .long y19), (5, .int x17), (3, .long y13), (2, .int x11), (0, .ref (B + a0)), (1, .int v1)]) fx d_Mo_readTree_155 (by decide) rfl ?_
                  refine a_iload fx 1 d_Mo_readTree_157 rfl ?_
                  refine a_bipush (v := 12) fx d_Mo_readTree_159 rfl ?_
                  refine a_ishr fx d_Mo_readTree_161 ?_
                  refine a_iconst (v := 4) fx d_Mo_readTree_162 rfl ?_
                  refine a_icmp_ne fx 170 d_Mo_readTree_163 rfl (fun hc => ?_) (fun hc => ?_)
                  · have h := h.1 hc
                    refine a_iload fx 1 d_Mo_readTree_170 rfl ?_
                    refine a_bipush (v := 12) fx d_Mo_readTree_172 rfl ?_
                    refine a_ishr fx d_Mo_readTree_174 ?_
                    refine a_bipush (v := 8) fx d_Mo_readTree_175 rfl ?_
                    refine a_icmp_ne fx 184 d_Mo_readTree_177 rfl (fun hc => ?_) (fun hc => ?_)
                    · have h := h.1 hc
                      refine a_iconst (v := 2) fx d_Mo_readTree_184 rfl ?_
                      refine a_sub [4, 5, 3, 2, 1, 0] rfl ?_
                      exact h
                    · have h := h.2 hc
                      refine a_iconst (v := 1) fx d_Mo_readTree_180 rfl ?_
                      refine a_goto fx 185 d_Mo_readTree_181 rfl ?_
                      refine a_sub [4, 5, 3, 2, 1, 0] rfl ?_
                      exact h
                  · have h := h.2 hc
                    refine a_iconst (v := 0) fx d_Mo_readTree_166 rfl ?_
                    refine a_goto fx 185 d_Mo_readTree_167 rfl ?_
                    refine a_sub [4, 5, 3, 2, 1, 0] rfl ?_
                    exact h
                · have h := h.2 hc
                  refine a_iconst (v := 0) fx d_Mo_readTree_117 rfl ?_
                  exact a_zret fx hlo hr rfl h d_Mo_readTree_118)
  have h := h (by
    intro v1 v2 v3 v5 v6 w0 M h
    refine a_istore (lv2 := [(8, .int w0), (0, .ref (B + a0)), (1, .int v1), (2, .int v2), (3, .long v3), (5, .int v5), (6, .long v6)]) fx d_Mo_readTree_185 (by decide) rfl ?_
    refine a_aload_n fx 1 d_Mo_readTree_187 rfl rfl ?_
    refine a_getS fx (T := F_Mo) (j := 9) (hk := hk0) (ht := ht0) (ht2 := by decide) (hc := rfl) (hin := u_in_Mo) (hj := by decide) (hj2 := by decide) (hf := rfl) (n9 := 8) (hfo := rfl) (hT := rfl) (hw := w_1278) (hd := d_Mo_readTree_188) (kk := ?_)
    refine a_iconst (v := 2) fx d_Mo_readTree_191 rfl ?_
    obtain ⟨hin, h⟩ := h
    refine a_iald fx (lo_9_9 hk0 ht0).1 (lo_9_9 hk0 ht0).2 hin d_Mo_readTree_192 ?_
    refine a_if_eq fx 216 d_Mo_readTree_193 rfl (fun hc => ?_) (fun hc => ?_)
    · have h := h.1 hc
      refine a_iconst (v := 1) fx d_Mo_readTree_216 rfl ?_
      refine a_goto fx 221 d_Mo_readTree_217 rfl ?_
      refine a_sub [1, 2, 3, 4, 5, 6, 0] rfl ?_
      exact h
    · have h := h.2 hc
      refine a_aload_n fx 1 d_Mo_readTree_196 rfl rfl ?_
      refine a_iconst (v := 2) fx d_Mo_readTree_197 rfl ?_
      refine a_aload_n fx 1 d_Mo_readTree_198 rfl rfl ?_
      refine a_getS fx (T := F_Mo) (j := 9) (hk := hk0) (ht := ht0) (ht2 := by decide) (hc := rfl) (hin := u_in_Mo) (hj := by decide) (hj2 := by decide) (hf := rfl) (n9 := 8) (hfo := rfl) (hT := rfl) (hw := w_1278) (hd := d_Mo_readTree_199) (kk := ?_)
      refine a_iconst (v := 2) fx d_Mo_readTree_202 rfl ?_
      obtain ⟨hin, h⟩ := h
      refine a_iald fx (lo_9_9 hk0 ht0).1 (lo_9_9 hk0 ht0).2 hin d_Mo_readTree_203 ?_
      refine a_iconst (v := 1) fx d_Mo_readTree_204 rfl ?_
      refine a_isub fx d_Mo_readTree_205 ?_
      refine a_calli (rest := [.ref (B + a0)]) (a_runS (As := [.int 2, .int ((M.1 (a0 + 8) ((2 : Int32)).toNatClampNeg) - 1)]) fx  cv_Mo_at w_1503 (Met_Mo_at l B D aC aS  h) rfl rfl (Nat.le_of_ble_eq_true rfl) rfl rfl ⟨Nat.le_of_ble_eq_true rfl, Nat.le_of_ble_eq_true rfl⟩ d_Mo_readTree_206 ⟨Nat.le_of_ble_eq_true rfl, Nat.le_of_ble_eq_true rfl⟩) (fun x21 M20 h => ?_)
      refine a_iload_n fx 3 d_Mo_readTree_209 rfl rfl ?_
      refine a_calli (rest := []) (a_runV (As := [.int x21, .int v2]) fx cv_Mo_compare w_1506 (Met_Mo_compare l B D aC aS (hk0 := hk0) (ht0 := ht0) h) hk0 ht0 (by decide) rfl rfl rfl (Nat.le_of_ble_eq_true rfl) rfl rfl ⟨Nat.le_of_ble_eq_true rfl, Nat.le_of_ble_eq_true rfl⟩ d_Mo_readTree_210 ⟨Nat.le_of_ble_eq_true rfl, Nat.le_of_ble_eq_true rfl⟩) (fun x23 M22 h => ?_)
      refine a_if_ge fx 220 d_Mo_readTree_213 rfl (fun hc => ?_) (fun hc => ?_)
      · have h := h.1 hc
        refine a_iconst (v := 0) fx d_Mo_readTree_220 rfl ?_
        refine a_sub [1, 2, 3, 4, 5, 6, 0] rfl ?_
        exact h
      · have h := h.2 hc
        refine a_iconst (v := 1) fx d_Mo_readTree_216 rfl ?_
        refine a_goto fx 221 d_Mo_readTree_217 rfl ?_
        refine a_sub [1, 2, 3, 4, 5, 6, 0] rfl ?_
        exact h)
  have h := h (by
    intro v1 v2 v3 v5 v6 v8 w0 M h
    refine a_istore (lv2 := [(9, .int w0), (0, .ref (B + a0)), (1, .int v1), (2, .int v2), (3, .long v3), (5, .int v5), (6, .long v6), (8, .int v8)]) fx d_Mo_readTree_221 (by decide) rfl ?_
    refine a_aload_n fx 1 d_Mo_readTree_223 rfl rfl ?_
    refine a_calli (rest := []) (a_runV (As := []) fx cv_Mo_isPath w_1491 (Met_Mo_isPath l B D aC aS (hk0 := hk0) (ht0 := ht0) h) hk0 ht0 (by decide) rfl rfl rfl (Nat.le_of_ble_eq_true rfl) rfl rfl ⟨Nat.le_of_ble_eq_true rfl, Nat.le_of_ble_eq_true rfl⟩ d_Mo_readTree_224 ⟨Nat.le_of_ble_eq_true rfl, Nat.le_of_ble_eq_true rfl⟩) (fun x25 M24 h => ?_)
    refine a_if_eq fx 252 d_Mo_readTree_227 rfl (fun hc => ?_) (fun hc => ?_)
    · have h := h.1 hc
      refine a_iconst (v := 0) fx d_Mo_readTree_252 rfl ?_
      exact a_zret fx hlo hr rfl h d_Mo_readTree_253
    · have h := h.2 hc
      refine a_aload_n fx 1 d_Mo_readTree_230 rfl rfl ?_
      refine a_iconst (v := 2) fx d_Mo_readTree_231 rfl ?_
      refine a_calli (rest := []) (a_runV (As := [.int 2]) fx cv_Mo_hasParent w_1495 (Met_Mo_hasParent l B D aC aS (hk0 := hk0) (ht0 := ht0) h) hk0 ht0 (by decide) rfl rfl rfl (Nat.le_of_ble_eq_true rfl) rfl rfl ⟨Nat.le_of_ble_eq_true rfl, Nat.le_of_ble_eq_true rfl⟩ d_Mo_readTree_232 ⟨Nat.le_of_ble_eq_true rfl, Nat.le_of_ble_eq_true rfl⟩) (fun x27 M26 h => ?_)
      refine a_if_eq fx 252 d_Mo_readTree_235 rfl (fun hc => ?_) (fun hc => ?_)
      · have h := h.1 hc
        refine a_iconst (v := 0) fx d_Mo_readTree_252 rfl ?_
        exact a_zret fx hlo hr rfl h d_Mo_readTree_253
      · have h := h.2 hc
        refine a_iload fx 0 d_Mo_readTree_238 rfl ?_
        refine a_if_eq fx 252 d_Mo_readTree_240 rfl (fun hc => ?_) (fun hc => ?_)
        · have h := h.1 hc
          refine a_iconst (v := 0) fx d_Mo_readTree_252 rfl ?_
          exact a_zret fx hlo hr rfl h d_Mo_readTree_253
        · have h := h.2 hc
          refine a_lload fx 6 d_Mo_readTree_243 rfl ?_
          refine a_ldc2 fx w_1729 d_Mo_readTree_245 ?_
          refine a_lcmp fx d_Mo_readTree_248 ?_
          refine a_if_le fx 254 d_Mo_readTree_249 rfl (fun hc => ?_) (fun hc => ?_)
          · have h := h.1 hc
            refine a_iload fx 7 d_Mo_readTree_254 rfl ?_
            refine a_if_ne fx 265 d_Mo_readTree_256 rfl (fun hc => ?_) (fun hc => ?_)
            · have h := h.1 hc
              refine a_sub [1, 2, 3, 4, 5, 6, 7] rfl ?_
              exact h
            · have h := h.2 hc
              refine a_lload_n fx 4 d_Mo_readTree_259 rfl rfl ?_
              refine a_lconst (v := 0) fx d_Mo_readTree_260 rfl ?_
              refine a_lcmp fx d_Mo_readTree_261 ?_
              refine a_if_gt fx 312 d_Mo_readTree_262 rfl (fun hc => ?_) (fun hc => ?_)
              · have h := h.1 hc
                refine a_iconst (v := 0) fx d_Mo_readTree_312 rfl ?_
                exact a_zret fx hlo hr rfl h d_Mo_readTree_313
              · have h := h.2 hc
                refine a_sub [1, 2, 3, 4, 5, 6, 7] rfl ?_
                exact h
          · have h := h.2 hc
            refine a_iconst (v := 0) fx d_Mo_readTree_252 rfl ?_
            exact a_zret fx hlo hr rfl h d_Mo_readTree_253)
  have h := h (by
    intro v1 v2 v3 v5 v6 v8 M h
    refine a_iload fx 6 d_Mo_readTree_265 rfl ?_
    refine a_iconst (v := 2) fx d_Mo_readTree_267 rfl ?_
    refine a_icmp_ne fx 291 d_Mo_readTree_268 rfl (fun hc => ?_) (fun hc => ?_)
    · have h := h.1 hc
      refine a_sub [0, 1, 2, 3, 4, 5, 6] rfl ?_
      exact h
    · have h := h.2 hc
      refine a_aload_n fx 0 d_Mo_readTree_271 rfl rfl ?_
      refine a_getS fx (T := F_Mo) (j := 48) (hk := hk0) (ht := ht0) (ht2 := by decide) (hc := rfl) (hin := u_in_Mo) (hj := by decide) (hj2 := by decide) (hf := rfl) (n9 := 32) (hfo := rfl) (hT := rfl) (hw := w_1317) (hd := d_Mo_readTree_272) (kk := ?_)
      refine a_iload_n fx 1 d_Mo_readTree_275 rfl rfl ?_
      refine a_bipush (v := 76) fx d_Mo_readTree_276 rfl ?_
      refine a_iadd fx d_Mo_readTree_278 ?_
      refine a_iload_n fx 2 d_Mo_readTree_279 rfl rfl ?_
      refine a_iadd fx d_Mo_readTree_280 ?_
      refine a_iconst (v := 1) fx d_Mo_readTree_281 rfl ?_
      refine a_iadd fx d_Mo_readTree_282 ?_
      refine a_lload_n fx 3 d_Mo_readTree_283 rfl rfl ?_
      refine a_l2i fx d_Mo_readTree_284 ?_
      refine a_calli (rest := []) (a_runS (As := [.ref (B + (a0 + 32)), .int (((v1 + 76) + v2) + 1), .int ((v3).toInt32)]) fx  cv_Mo_isTarget w_1488 (Met_Mo_isTarget l B D aC aS (hk0 := (lo_9_48 hk0 ht0).1) (ht0 := (lo_9_48 hk0 ht0).2) h) rfl rfl (Nat.le_of_ble_eq_true rfl) rfl rfl ⟨Nat.le_of_ble_eq_true rfl, Nat.le_of_ble_eq_true rfl⟩ d_Mo_readTree_285 ⟨Nat.le_of_ble_eq_true rfl, Nat.le_of_ble_eq_true rfl⟩) (fun x29 M28 h => ?_)
      refine a_if_eq fx 312 d_Mo_readTree_288 rfl (fun hc => ?_) (fun hc => ?_)
      · have h := h.1 hc
        refine a_iconst (v := 0) fx d_Mo_readTree_312 rfl ?_
        exact a_zret fx hlo hr rfl h d_Mo_readTree_313
      · have h := h.2 hc
        refine a_sub [0, 1, 2, 3, 4, 5, 6] rfl ?_
        exact h)
  have h := h (by
    intro v1 v2 v3 v5 v6 v8 M h
    refine a_iload fx 6 d_Mo_readTree_291 rfl ?_
    refine a_iconst (v := 1) fx d_Mo_readTree_293 rfl ?_
    refine a_icmp_ne fx 314 d_Mo_readTree_294 rfl (fun hc => ?_) (fun hc => ?_)
    · have h := h.1 hc
      refine a_sub [0, 1, 2, 3, 4, 5, 6] rfl ?_
      exact h
    · have h := h.2 hc
      refine a_aload_n fx 0 d_Mo_readTree_297 rfl rfl ?_
      refine a_iconst (v := 2) fx d_Mo_readTree_298 rfl ?_
      refine a_calli (rest := []) (a_runV (As := [.int 2]) fx cv_Mo_bytesOf w_1510 (Met_Mo_bytesOf l B D aC aS (hk0 := hk0) (ht0 := ht0) h) hk0 ht0 (by decide) rfl rfl rfl (Nat.le_of_ble_eq_true rfl) rfl rfl ⟨Nat.le_of_ble_eq_true rfl, Nat.le_of_ble_eq_true rfl⟩ d_Mo_readTree_299 ⟨Nat.le_of_ble_eq_true rfl, Nat.le_of_ble_eq_true rfl⟩) (fun x31 M30 h => ?_)
      refine a_i2l fx d_Mo_readTree_302 ?_
      refine a_lload_n fx 3 d_Mo_readTree_303 rfl rfl ?_
      refine a_ladd fx d_Mo_readTree_304 ?_
      refine a_ldc2 fx w_1728 d_Mo_readTree_305 ?_
      refine a_lcmp fx d_Mo_readTree_308 ?_
      refine a_if_le fx 314 d_Mo_readTree_309 rfl (fun hc => ?_) (fun hc => ?_)
      · have h := h.1 hc
        refine a_sub [0, 1, 2, 3, 4, 5, 6] rfl ?_
        exact h
      · have h := h.2 hc
        refine a_iconst (v := 0) fx d_Mo_readTree_312 rfl ?_
        exact a_zret fx hlo hr rfl h d_Mo_readTree_313)
  have h := h (by
    intro v1 v2 v3 v5 v6 v8 M h
    refine a_aload_n fx 0 d_Mo_readTree_314 rfl rfl ?_
    refine a_iload_n fx 1 d_Mo_readTree_315 rfl rfl ?_
    refine a_iload_n fx 2 d_Mo_readTree_316 rfl rfl ?_
    refine a_lload_n fx 3 d_Mo_readTree_317 rfl rfl ?_
    refine a_l2i fx d_Mo_readTree_318 ?_
    refine a_iload fx 6 d_Mo_readTree_319 rfl ?_
    refine a_iload fx 4 d_Mo_readTree_321 rfl ?_
    refine a_lload fx 5 d_Mo_readTree_323 rfl ?_
    refine a_l2i fx d_Mo_readTree_325 ?_
    refine a_callv (rest := []) (a_runV (As := [.int v1, .int v2, .int ((v3).toInt32), .int v8, .int v5, .int ((v6).toInt32)]) fx cv_Mo_take w_1730 (Met_Mo_take l B D aC aS (hk0 := hk0) (ht0 := ht0) h) hk0 ht0 (by decide) rfl rfl rfl (Nat.le_of_ble_eq_true rfl) rfl rfl ⟨Nat.le_of_ble_eq_true rfl, Nat.le_of_ble_eq_true rfl⟩ d_Mo_readTree_326 ⟨Nat.le_of_ble_eq_true rfl, Nat.le_of_ble_eq_true rfl⟩) (fun M32 h => ?_)
    refine a_iload_n fx 1 d_Mo_readTree_329 rfl rfl ?_
    refine a_bipush (v := 76) fx d_Mo_readTree_330 rfl ?_
    refine a_iadd fx d_Mo_readTree_332 ?_
    refine a_iload_n fx 2 d_Mo_readTree_333 rfl rfl ?_
    refine a_iadd fx d_Mo_readTree_334 ?_
    refine a_iconst (v := 1) fx d_Mo_readTree_335 rfl ?_
    refine a_iadd fx d_Mo_readTree_336 ?_
    refine a_lload_n fx 3 d_Mo_readTree_337 rfl rfl ?_
    refine a_l2i fx d_Mo_readTree_338 ?_
    refine a_iadd fx d_Mo_readTree_339 ?_
    refine a_topi (fun x33 ex33 => ?_)
    have h := h x33 ex33
    refine a_istore_n (lv2 := [(1, .int x33), (0, .ref (B + a0)), (2, .int v2), (3, .long v3), (5, .int v5), (6, .long v6), (8, .int v8)]) fx d_Mo_readTree_340 rfl (by decide) rfl ?_
    refine a_goto fx 16 d_Mo_readTree_341 rfl ?_
    refine a_sub [1, 0] rfl ?_
    exact h)
  refine a_aload_n fx 0 d_Mo_readTree_0 rfl rfl ?_
  refine a_getS fx (T := F_Mo) (j := 9) (hk := hk0) (ht := ht0) (ht2 := by decide) (hc := rfl) (hin := u_in_Mo) (hj := by decide) (hj2 := by decide) (hf := rfl) (n9 := 8) (hfo := rfl) (hT := rfl) (hw := w_1278) (hd := d_Mo_readTree_1) (kk := ?_)
  refine a_iconst (v := 2) fx d_Mo_readTree_4 rfl ?_
  refine a_iconst (v := 0) fx d_Mo_readTree_5 rfl ?_
  obtain ⟨hin, h⟩ := h
  refine a_iast fx (lo_9_9 hk0 ht0).1 (lo_9_9 hk0 ht0).2 hin d_Mo_readTree_6 (a_mem (fun M1 eM1 => ?_))
  have h := h M1 eM1
  refine a_aload_n fx 0 d_Mo_readTree_7 rfl rfl ?_
  refine a_getS fx (T := F_Mo) (j := 20) (hk := hk0) (ht := ht0) (ht2 := by decide) (hc := rfl) (hin := u_in_Mo) (hj := by decide) (hj2 := by decide) (hf := rfl) (n9 := 19) (hfo := rfl) (hT := rfl) (hw := w_1289) (hd := d_Mo_readTree_8) (kk := ?_)
  refine a_iconst (v := 2) fx d_Mo_readTree_11 rfl ?_
  refine a_iconst (v := 0) fx d_Mo_readTree_12 rfl ?_
  obtain ⟨hin, h⟩ := h
  refine a_iast fx (lo_9_20 hk0 ht0).1 (lo_9_20 hk0 ht0).2 hin d_Mo_readTree_13 (a_mem (fun M2 eM2 => ?_))
  have h := h M2 eM2
  refine a_iconst (v := 0) fx d_Mo_readTree_14 rfl ?_
  refine a_istore_n (lv2 := [(1, .int 0), (0, .ref (B + a0))]) fx d_Mo_readTree_15 rfl (by decide) rfl ?_
  refine a_sub [1, 0] rfl ?_
  exact h
set_option maxRecDepth 100000 in
set_option maxHeartbeats 4000000 in
theorem Met_Mo_unpacked (l : Launch) (B : Nat) (D : va_G) (aC : Nat → ClassId) (aS : Nat → Nat) {a0 : Nat} {M : zM} {post : Int32 → zM → Prop} (hk0 : a0 < N0) (ht0 : tg a0 = 9) (h : Wp_Mo_unpacked a0 M post) : Met l y_Mo_unpacked (wo y_Mo_unpacked b_Mo_unpacked 4 (some FieldType.int)) { frames := 4, cells := 0, slots := 0, locals := 106 } (va_Pc [.ref (B + a0)] (zWl B D aC aS M)) (zQi B D aC post) 0 0 (zAb B) := by
  refine z_met (own := "MailChainModel") (lv0 := [(0, .ref (B + a0))]) (by decide) rfl (Nat.le_of_ble_eq_true rfl) rfl ?_
  intro p e s m below meth c fx hr hlo
  delta Wp_Mo_unpacked at h
  have h := h (fun v1 v2 M => zAt p l e { frames := 4, cells := 0, slots := 0, locals := 106 } s m ([.ref (B + a0)] : List Value).toArray below meth c 0 0 (MQ below (zQi B D aC post) ([.ref (B + a0)] : List Value).toArray s 0 0 (zAb B)) B D aC 4 15 [(0, .ref (B + a0)), (1, .int v1), (2, .int v2)] [] M)
  have h := h (fun v1 M => zAt p l e { frames := 4, cells := 0, slots := 0, locals := 106 } s m ([.ref (B + a0)] : List Value).toArray below meth c 0 0 (MQ below (zQi B D aC post) ([.ref (B + a0)] : List Value).toArray s 0 0 (zAb B)) B D aC 4 40 [(0, .ref (B + a0)), (1, .int v1)] [] M)
  have h := h (fun v2 M => zAt p l e { frames := 4, cells := 0, slots := 0, locals := 106 } s m ([.ref (B + a0)] : List Value).toArray below meth c 0 0 (MQ below (zQi B D aC post) ([.ref (B + a0)] : List Value).toArray s 0 0 (zAb B)) B D aC 4 68 [(0, .ref (B + a0)), (2, .int v2)] [] M)
  have h := h (fun v2 v3 M => zAt p l e { frames := 4, cells := 0, slots := 0, locals := 106 } s m ([.ref (B + a0)] : List Value).toArray below meth c 0 0 (MQ below (zQi B D aC post) ([.ref (B + a0)] : List Value).toArray s 0 0 (zAb B)) B D aC 4 78 [(0, .ref (B + a0)), (2, .int v2), (3, .int v3)] [] M)
  have h := h (fun w0 M => zAt p l e { frames := 4, cells := 0, slots := 0, locals := 106 } s m ([.ref (B + a0)] : List Value).toArray below meth c 0 0 (MQ below (zQi B D aC post) ([.ref (B + a0)] : List Value).toArray s 0 0 (zAb B)) B D aC 4 199 [(0, .ref (B + a0))] [.int w0] M)
  have h := h (by
    intro v1 v2 M h
    refine a_iload_n fx 2 d_Mo_unpacked_15 rfl rfl ?_
    refine a_aload_n fx 0 d_Mo_unpacked_16 rfl rfl ?_
    refine a_getI fx (T := F_Mo) (j := 37) (hk := hk0) (ht := ht0) (ht2 := by decide) (hc := rfl) (hin := u_in_Mo) (hj := by decide) (hj2 := by decide) (hf := rfl) (hT := rfl) (hw := w_1306) (hd := d_Mo_unpacked_17) (kk := ?_)
    refine a_icmp_gt fx 40 d_Mo_unpacked_20 rfl (fun hc => ?_) (fun hc => ?_)
    · have h := h.1 hc
      refine a_sub [0, 1] rfl ?_
      exact h
    · have h := h.2 hc
      refine a_iload_n fx 1 d_Mo_unpacked_23 rfl rfl ?_
      refine a_if_eq fx 40 d_Mo_unpacked_24 rfl (fun hc => ?_) (fun hc => ?_)
      · have h := h.1 hc
        refine a_sub [0, 1] rfl ?_
        exact h
      · have h := h.2 hc
        refine a_aload_n fx 0 d_Mo_unpacked_27 rfl rfl ?_
        refine a_getS fx (T := F_Mo) (j := 40) (hk := hk0) (ht := ht0) (ht2 := by decide) (hc := rfl) (hin := u_in_Mo) (hj := by decide) (hj2 := by decide) (hf := rfl) (n9 := 27) (hfo := rfl) (hT := rfl) (hw := w_1309) (hd := d_Mo_unpacked_28) (kk := ?_)
        refine a_iload_n fx 2 d_Mo_unpacked_31 rfl rfl ?_
        obtain ⟨hin, h⟩ := h
        refine a_zald fx (lo_9_40 hk0 ht0).1 (lo_9_40 hk0 ht0).2 hin d_Mo_unpacked_32 ?_
        refine a_topi (fun x1 ex1 => ?_)
        have h := h x1 ex1
        refine a_istore_n (lv2 := [(1, .int x1), (0, .ref (B + a0)), (2, .int v2)]) fx d_Mo_unpacked_33 rfl (by decide) rfl ?_
        obtain ⟨x2, ex2⟩ : ∃ z : Int32, z = v2 + 1 := ⟨_, rfl⟩
        have h := h x2 ex2
        refine a_iinc (lv2 := [(2, .int x2), (1, .int x1), (0, .ref (B + a0))]) fx 2 d_Mo_unpacked_34 rfl ex2.symm (by decide) rfl ?_
        refine a_goto fx 15 d_Mo_unpacked_37 rfl ?_
        refine a_sub [2, 1, 0] rfl ?_
        exact h)
  have h := h (by
    intro v1 M h
    refine a_iload_n fx 1 d_Mo_unpacked_40 rfl rfl ?_
    refine a_if_ne fx 47 d_Mo_unpacked_41 rfl (fun hc => ?_) (fun hc => ?_)
    · have h := h.1 hc
      refine a_aload_n fx 0 d_Mo_unpacked_47 rfl rfl ?_
      refine a_getL fx (T := F_Mo) (j := 39) (hk := hk0) (ht := ht0) (ht2 := by decide) (hc := rfl) (hin := u_in_Mo) (hj := by decide) (hj2 := by decide) (hf := rfl) (hT := rfl) (hw := w_1308) (hd := d_Mo_unpacked_48) (kk := ?_)
      refine a_ldc2 fx w_1667 d_Mo_unpacked_51 ?_
      refine a_lcmp fx d_Mo_unpacked_54 ?_
      refine a_if_le fx 61 d_Mo_unpacked_55 rfl (fun hc => ?_) (fun hc => ?_)
      · have h := h.1 hc
        refine a_aload_n fx 0 d_Mo_unpacked_61 rfl rfl ?_
        refine a_iconst (v := 0) fx d_Mo_unpacked_62 rfl ?_
        refine a_putI fx (T := F_Mo) (ty0 := t_Mo) (j := 47) (hk := hk0) (ht := ht0) (ht2 := by decide) (hc := rfl) (hin := u_in_Mo) (hty := t_Mo_ok) (hnm := n_Mo) (hj := by decide) (hj2 := by decide) (hf := rfl) (hT := rfl) (hfin := rfl) (hn := rfl) (hfit := rfl) (hw := w_1316) (hd := d_Mo_unpacked_63) (kk := a_mem (fun M3 eM3 => ?_))
        have h := h M3 eM3
        refine a_iconst (v := 1) fx d_Mo_unpacked_66 rfl ?_
        refine a_istore_n (lv2 := [(2, .int 1), (0, .ref (B + a0)), (1, .int v1)]) fx d_Mo_unpacked_67 rfl (by decide) rfl ?_
        refine a_sub [1, 0] rfl ?_
        exact h
      · have h := h.2 hc
        refine a_bipush (v := 7) fx d_Mo_unpacked_58 rfl ?_
        exact a_iret fx hlo hr h d_Mo_unpacked_60
    · have h := h.2 hc
      refine a_bipush (v := 6) fx d_Mo_unpacked_44 rfl ?_
      exact a_iret fx hlo hr h d_Mo_unpacked_46)
  have h := h (by
    intro v2 M h
    refine a_iload_n fx 1 d_Mo_unpacked_68 rfl rfl ?_
    refine a_aload_n fx 0 d_Mo_unpacked_69 rfl rfl ?_
    refine a_getI fx (T := F_Mo) (j := 37) (hk := hk0) (ht := ht0) (ht2 := by decide) (hc := rfl) (hin := u_in_Mo) (hj := by decide) (hj2 := by decide) (hf := rfl) (hT := rfl) (hw := w_1306) (hd := d_Mo_unpacked_70) (kk := ?_)
    refine a_icmp_gt fx 132 d_Mo_unpacked_73 rfl (fun hc => ?_) (fun hc => ?_)
    · have h := h.1 hc
      refine a_aload_n fx 0 d_Mo_unpacked_132 rfl rfl ?_
      refine a_callv (rest := []) (a_runV (As := []) fx cv_Mo_unspell w_1697 (Met_Mo_unspell l B D aC aS (hk0 := hk0) (ht0 := ht0) h) hk0 ht0 (by decide) rfl rfl rfl (Nat.le_of_ble_eq_true rfl) rfl rfl ⟨Nat.le_of_ble_eq_true rfl, Nat.le_of_ble_eq_true rfl⟩ d_Mo_unpacked_133 ⟨Nat.le_of_ble_eq_true rfl, Nat.le_of_ble_eq_true rfl⟩) (fun M4 h => ?_)
      refine a_aload_n fx 0 d_Mo_unpacked_136 rfl rfl ?_
      refine a_aload_n fx 0 d_Mo_unpacked_137 rfl rfl ?_
      refine a_getS fx (T := F_Mo) (j := 46) (hk := hk0) (ht := ht0) (ht2 := by decide) (hc := rfl) (hin := u_in_Mo) (hj := by decide) (hj2 := by decide) (hf := rfl) (n9 := 31) (hfo := rfl) (hT := rfl) (hw := w_1315) (hd := d_Mo_unpacked_138) (kk := ?_)
      refine a_aload_n fx 0 d_Mo_unpacked_141 rfl rfl ?_
      refine a_getI fx (T := F_Mo) (j := 45) (hk := hk0) (ht := ht0) (ht2 := by decide) (hc := rfl) (hin := u_in_Mo) (hj := by decide) (hj2 := by decide) (hf := rfl) (hT := rfl) (hw := w_1314) (hd := d_Mo_unpacked_142) (kk := ?_)
      refine a_callv (rest := []) (a_runV (As := [.ref (B + (a0 + 31)), .int (M4.1 a0 45)]) fx cv_Mo_spellRow w_1611 (Met_Mo_spellRow l B D aC aS (hk0 := hk0) (ht0 := ht0) (hk1 := (lo_9_46 hk0 ht0).1) (ht1 := (lo_9_46 hk0 ht0).2) h) hk0 ht0 (by decide) rfl rfl rfl (Nat.le_of_ble_eq_true rfl) rfl rfl ⟨Nat.le_of_ble_eq_true rfl, Nat.le_of_ble_eq_true rfl⟩ d_Mo_unpacked_145 ⟨Nat.le_of_ble_eq_true rfl, Nat.le_of_ble_eq_true rfl⟩) (fun M5 h => ?_)
      refine a_aload_n fx 0 d_Mo_unpacked_148 rfl rfl ?_
      refine a_getS fx (T := F_Mo) (j := 30) (hk := hk0) (ht := ht0) (ht2 := by decide) (hc := rfl) (hin := u_in_Mo) (hj := by decide) (hj2 := by decide) (hf := rfl) (n9 := 24) (hfo := rfl) (hT := rfl) (hw := w_1299) (hd := d_Mo_unpacked_149) (kk := ?_)
      refine a_aload_n fx 0 d_Mo_unpacked_152 rfl rfl ?_
      refine a_getI fx (T := F_Mo) (j := 29) (hk := hk0) (ht := ht0) (ht2 := by decide) (hc := rfl) (hin := u_in_Mo) (hj := by decide) (hj2 := by decide) (hf := rfl) (hT := rfl) (hw := w_1298) (hd := d_Mo_unpacked_153) (kk := ?_)
      refine a_aload_n fx 0 d_Mo_unpacked_156 rfl rfl ?_
      refine a_getS fx (T := F_Mo) (j := 48) (hk := hk0) (ht := ht0) (ht2 := by decide) (hc := rfl) (hin := u_in_Mo) (hj := by decide) (hj2 := by decide) (hf := rfl) (n9 := 32) (hfo := rfl) (hT := rfl) (hw := w_1317) (hd := d_Mo_unpacked_157) (kk := ?_)
      refine a_aload_n fx 0 d_Mo_unpacked_160 rfl rfl ?_
      refine a_getI fx (T := F_Mo) (j := 47) (hk := hk0) (ht := ht0) (ht2 := by decide) (hc := rfl) (hin := u_in_Mo) (hj := by decide) (hj2 := by decide) (hf := rfl) (hT := rfl) (hw := w_1316) (hd := d_Mo_unpacked_161) (kk := ?_)
      refine a_calli (rest := []) (a_runS (As := [.ref (B + (a0 + 24)), .int (M5.1 a0 29), .ref (B + (a0 + 32)), .int (M5.1 a0 47)]) fx  cv_Mo_areSame w_1701 (Met_Mo_areSame l B D aC aS (hk0 := (lo_9_30 hk0 ht0).1) (ht0 := (lo_9_30 hk0 ht0).2) (hk2 := (lo_9_48 hk0 ht0).1) (ht2 := (lo_9_48 hk0 ht0).2) h) rfl rfl (Nat.le_of_ble_eq_true rfl) rfl rfl ⟨Nat.le_of_ble_eq_true rfl, Nat.le_of_ble_eq_true rfl⟩ d_Mo_unpacked_164 ⟨Nat.le_of_ble_eq_true rfl, Nat.le_of_ble_eq_true rfl⟩) (fun x7 M6 h => ?_)
      refine a_if_ne fx 173 d_Mo_unpacked_167 rfl (fun hc => ?_) (fun hc => ?_)
      · have h := h.1 hc
        refine a_aload_n fx 0 d_Mo_unpacked_173 rfl rfl ?_
        refine a_getI fx (T := F_Mo) (j := 45) (hk := hk0) (ht := ht0) (ht2 := by decide) (hc := rfl) (hin := u_in_Mo) (hj := by decide) (hj2 := by decide) (hf := rfl) (hT := rfl) (hw := w_1314) (hd := d_Mo_unpacked_174) (kk := ?_)
        refine a_iconst (v := 3) fx d_Mo_unpacked_177 rfl ?_
        refine a_icmp_lt fx 198 d_Mo_unpacked_178 rfl (fun hc => ?_) (fun hc => ?_)
        · have h := h.1 hc
          refine a_iconst (v := 0) fx d_Mo_unpacked_198 rfl ?_
          refine a_sub [0] rfl ?_
          exact h
        · have h := h.2 hc
          refine a_aload_n fx 0 d_Mo_unpacked_181 rfl rfl ?_
          refine a_getS fx (T := F_Mo) (j := 46) (hk := hk0) (ht := ht0) (ht2 := by decide) (hc := rfl) (hin := u_in_Mo) (hj := by decide) (hj2 := by decide) (hf := rfl) (n9 := 31) (hfo := rfl) (hT := rfl) (hw := w_1315) (hd := d_Mo_unpacked_182) (kk := ?_)
          refine a_iconst (v := 2) fx d_Mo_unpacked_185 rfl ?_
          obtain ⟨hin, h⟩ := h
          refine a_bald fx (lo_9_46 hk0 ht0).1 (lo_9_46 hk0 ht0).2 hin d_Mo_unpacked_186 ?_
          refine a_sipush (v := 255) fx d_Mo_unpacked_187 rfl ?_
          refine a_iand fx d_Mo_unpacked_190 ?_
          refine a_sipush (v := 128) fx d_Mo_unpacked_191 rfl ?_
          refine a_isub fx d_Mo_unpacked_194 ?_
          refine a_goto fx 199 d_Mo_unpacked_195 rfl ?_
          refine a_sub [0] rfl ?_
          exact h
      · have h := h.2 hc
        refine a_bipush (v := 7) fx d_Mo_unpacked_170 rfl ?_
        exact a_iret fx hlo hr h d_Mo_unpacked_172
    · have h := h.2 hc
      refine a_iconst (v := 0) fx d_Mo_unpacked_76 rfl ?_
      refine a_istore_n (lv2 := [(3, .int 0), (0, .ref (B + a0)), (2, .int v2)]) fx d_Mo_unpacked_77 rfl (by decide) rfl ?_
      refine a_sub [1, 2, 0] rfl ?_
      exact h)
  have h := h (by
    intro v2 v3 M h
    refine a_iload_n fx 2 d_Mo_unpacked_78 rfl rfl ?_
    refine a_aload_n fx 0 d_Mo_unpacked_79 rfl rfl ?_
    refine a_getS fx (T := F_Mo) (j := 41) (hk := hk0) (ht := ht0) (ht2 := by decide) (hc := rfl) (hin := u_in_Mo) (hj := by decide) (hj2 := by decide) (hf := rfl) (n9 := 28) (hfo := rfl) (hT := rfl) (hw := w_1310) (hd := d_Mo_unpacked_80) (kk := ?_)
    refine a_iload_n fx 1 d_Mo_unpacked_83 rfl rfl ?_
    obtain ⟨hin, h⟩ := h
    refine a_iald fx (lo_9_41 hk0 ht0).1 (lo_9_41 hk0 ht0).2 hin d_Mo_unpacked_84 ?_
    refine a_icmp_ge fx 126 d_Mo_unpacked_85 rfl (fun hc => ?_) (fun hc => ?_)
    · have h := h.1 hc
      obtain ⟨x18, ex18⟩ : ∃ z : Int32, z = v2 + 1 := ⟨_, rfl⟩
      have h := h x18 ex18
      refine a_iinc (lv2 := [(2, .int x18), (0, .ref (B + a0)), (3, .int v3)]) fx 1 d_Mo_unpacked_126 rfl ex18.symm (by decide) rfl ?_
      refine a_goto fx 68 d_Mo_unpacked_129 rfl ?_
      refine a_sub [1, 0] rfl ?_
      exact h
    · have h := h.2 hc
      refine a_aload_n fx 0 d_Mo_unpacked_88 rfl rfl ?_
      refine a_getS fx (T := F_Mo) (j := 48) (hk := hk0) (ht := ht0) (ht2 := by decide) (hc := rfl) (hin := u_in_Mo) (hj := by decide) (hj2 := by decide) (hf := rfl) (n9 := 32) (hfo := rfl) (hT := rfl) (hw := w_1317) (hd := d_Mo_unpacked_89) (kk := ?_)
      refine a_aload_n fx 0 d_Mo_unpacked_92 rfl rfl ?_
      refine a_getI fx (T := F_Mo) (j := 47) (hk := hk0) (ht := ht0) (ht2 := by decide) (hc := rfl) (hin := u_in_Mo) (hj := by decide) (hj2 := by decide) (hf := rfl) (hT := rfl) (hw := w_1316) (hd := d_Mo_unpacked_93) (kk := ?_)
      refine a_aload_n fx 0 d_Mo_unpacked_96 rfl rfl ?_
      refine a_getS fx (T := F_Mo) (j := 44) (hk := hk0) (ht := ht0) (ht2 := by decide) (hc := rfl) (hin := u_in_Mo) (hj := by decide) (hj2 := by decide) (hf := rfl) (n9 := 30) (hfo := rfl) (hT := rfl) (hw := w_1313) (hd := d_Mo_unpacked_97) (kk := ?_)
      refine a_aload_n fx 0 d_Mo_unpacked_100 rfl rfl ?_
      refine a_getS fx (T := F_Mo) (j := 42) (hk := hk0) (ht := ht0) (ht2 := by decide) (hc := rfl) (hin := u_in_Mo) (hj := by decide) (hj2 := by decide) (hf := rfl) (n9 := 29) (hfo := rfl) (hT := rfl) (hw := w_1311) (hd := d_Mo_unpacked_101) (kk := ?_)
      refine a_iload_n fx 1 d_Mo_unpacked_104 rfl rfl ?_
      obtain ⟨hin, h⟩ := h
      refine a_iald fx (lo_9_42 hk0 ht0).1 (lo_9_42 hk0 ht0).2 hin d_Mo_unpacked_105 ?_
      refine a_iload_n fx 2 d_Mo_unpacked_106 rfl rfl ?_
      refine a_iadd fx d_Mo_unpacked_107 ?_
      obtain ⟨hin, h⟩ := h
      refine a_bald fx (lo_9_44 hk0 ht0).1 (lo_9_44 hk0 ht0).2 hin d_Mo_unpacked_108 ?_
      obtain ⟨hin, h⟩ := h
      refine a_bast fx (lo_9_48 hk0 ht0).1 (lo_9_48 hk0 ht0).2 hin d_Mo_unpacked_109 (a_mem (fun M19 eM19 => ?_))
      have h := h M19 eM19
      refine a_aload_n fx 0 d_Mo_unpacked_110 rfl rfl ?_
      refine a_dup fx d_Mo_unpacked_111 rfl ?_
      refine a_getI fx (T := F_Mo) (j := 47) (hk := hk0) (ht := ht0) (ht2 := by decide) (hc := rfl) (hin := u_in_Mo) (hj := by decide) (hj2 := by decide) (hf := rfl) (hT := rfl) (hw := w_1316) (hd := d_Mo_unpacked_112) (kk := ?_)
      refine a_iconst (v := 1) fx d_Mo_unpacked_115 rfl ?_
      refine a_iadd fx d_Mo_unpacked_116 ?_
      refine a_putI fx (T := F_Mo) (ty0 := t_Mo) (j := 47) (hk := hk0) (ht := ht0) (ht2 := by decide) (hc := rfl) (hin := u_in_Mo) (hty := t_Mo_ok) (hnm := n_Mo) (hj := by decide) (hj2 := by decide) (hf := rfl) (hT := rfl) (hfin := rfl) (hn := rfl) (hfit := rfl) (hw := w_1316) (hd := d_Mo_unpacked_117) (kk := a_mem (fun M20 eM20 => ?_))
      have h := h M20 eM20
      obtain ⟨x21, ex21⟩ : ∃ z : Int32, z = v3 + 1 := ⟨_, rfl⟩
      have h := h x21 ex21
      refine a_iinc (lv2 := [(3, .int x21), (0, .ref (B + a0)), (2, .int v2)]) fx 2 d_Mo_unpacked_120 rfl ex21.symm (by decide) rfl ?_
      refine a_goto fx 78 d_Mo_unpacked_123 rfl ?_
      refine a_sub [1, 2, 0] rfl ?_
      exact h)
  have h := h (by
    intro w0 M h
    refine a_istore_n (lv2 := [(2, .int w0), (0, .ref (B + a0))]) fx d_Mo_unpacked_199 rfl (by decide) rfl ?_
    refine a_aload_n fx 1 d_Mo_unpacked_200 rfl rfl ?_
    refine a_getI fx (T := F_Mo) (j := 45) (hk := hk0) (ht := ht0) (ht2 := by decide) (hc := rfl) (hin := u_in_Mo) (hj := by decide) (hj2 := by decide) (hf := rfl) (hT := rfl) (hw := w_1314) (hd := d_Mo_unpacked_201) (kk := ?_)
    refine a_sipush (v := 30000) fx d_Mo_unpacked_204 rfl ?_
    refine a_icmp_gt fx 230 d_Mo_unpacked_207 rfl (fun hc => ?_) (fun hc => ?_)
    · have h := h.1 hc
      refine a_bipush (v := 8) fx d_Mo_unpacked_230 rfl ?_
      exact a_iret fx hlo hr h d_Mo_unpacked_232
    · have h := h.2 hc
      refine a_iload_n fx 0 d_Mo_unpacked_210 rfl rfl ?_
      refine a_bipush (v := 9) fx d_Mo_unpacked_211 rfl ?_
      refine a_icmp_lt fx 230 d_Mo_unpacked_213 rfl (fun hc => ?_) (fun hc => ?_)
      · have h := h.1 hc
        refine a_bipush (v := 8) fx d_Mo_unpacked_230 rfl ?_
        exact a_iret fx hlo hr h d_Mo_unpacked_232
      · have h := h.2 hc
        refine a_iload_n fx 0 d_Mo_unpacked_216 rfl rfl ?_
        refine a_bipush (v := 16) fx d_Mo_unpacked_217 rfl ?_
        refine a_icmp_gt fx 230 d_Mo_unpacked_219 rfl (fun hc => ?_) (fun hc => ?_)
        · have h := h.1 hc
          refine a_bipush (v := 8) fx d_Mo_unpacked_230 rfl ?_
          exact a_iret fx hlo hr h d_Mo_unpacked_232
        · have h := h.2 hc
          refine a_aload_n fx 1 d_Mo_unpacked_222 rfl rfl ?_
          refine a_iload_n fx 0 d_Mo_unpacked_223 rfl rfl ?_
          refine a_calli (rest := []) (a_runV (As := [.int w0]) fx cv_Mo_expand w_1704 (Met_Mo_expand l B D aC aS (hk0 := hk0) (ht0 := ht0) h) hk0 ht0 (by decide) rfl rfl rfl (Nat.le_of_ble_eq_true rfl) rfl rfl ⟨Nat.le_of_ble_eq_true rfl, Nat.le_of_ble_eq_true rfl⟩ d_Mo_unpacked_224 ⟨Nat.le_of_ble_eq_true rfl, Nat.le_of_ble_eq_true rfl⟩) (fun x9 M8 h => ?_)
          refine a_if_ne fx 233 d_Mo_unpacked_227 rfl (fun hc => ?_) (fun hc => ?_)
          · have h := h.1 hc
            refine a_aload_n fx 1 d_Mo_unpacked_233 rfl rfl ?_
            refine a_aload_n fx 1 d_Mo_unpacked_234 rfl rfl ?_
            refine a_getS fx (T := F_Mo) (j := 48) (hk := hk0) (ht := ht0) (ht2 := by decide) (hc := rfl) (hin := u_in_Mo) (hj := by decide) (hj2 := by decide) (hf := rfl) (n9 := 32) (hfo := rfl) (hT := rfl) (hw := w_1317) (hd := d_Mo_unpacked_235) (kk := ?_)
            refine a_aload_n fx 1 d_Mo_unpacked_238 rfl rfl ?_
            refine a_getI fx (T := F_Mo) (j := 47) (hk := hk0) (ht := ht0) (ht2 := by decide) (hc := rfl) (hin := u_in_Mo) (hj := by decide) (hj2 := by decide) (hf := rfl) (hT := rfl) (hw := w_1316) (hd := d_Mo_unpacked_239) (kk := ?_)
            refine a_iload_n fx 0 d_Mo_unpacked_242 rfl rfl ?_
            refine a_callv (rest := []) (a_runV (As := [.ref (B + (a0 + 32)), .int (M8.1 a0 47), .int w0]) fx cv_Mo_compressRow w_1586 (Met_Mo_compressRow l B D aC aS (hk0 := hk0) (ht0 := ht0) (hk1 := (lo_9_48 hk0 ht0).1) (ht1 := (lo_9_48 hk0 ht0).2) h) hk0 ht0 (by decide) rfl rfl rfl (Nat.le_of_ble_eq_true rfl) rfl rfl ⟨Nat.le_of_ble_eq_true rfl, Nat.le_of_ble_eq_true rfl⟩ d_Mo_unpacked_243 ⟨Nat.le_of_ble_eq_true rfl, Nat.le_of_ble_eq_true rfl⟩) (fun M10 h => ?_)
            refine a_aload_n fx 1 d_Mo_unpacked_246 rfl rfl ?_
            refine a_getS fx (T := F_Mo) (j := 28) (hk := hk0) (ht := ht0) (ht2 := by decide) (hc := rfl) (hin := u_in_Mo) (hj := by decide) (hj2 := by decide) (hf := rfl) (n9 := 23) (hfo := rfl) (hT := rfl) (hw := w_1297) (hd := d_Mo_unpacked_247) (kk := ?_)
            refine a_aload_n fx 1 d_Mo_unpacked_250 rfl rfl ?_
            refine a_getI fx (T := F_Mo) (j := 27) (hk := hk0) (ht := ht0) (ht2 := by decide) (hc := rfl) (hin := u_in_Mo) (hj := by decide) (hj2 := by decide) (hf := rfl) (hT := rfl) (hw := w_1296) (hd := d_Mo_unpacked_251) (kk := ?_)
            refine a_aload_n fx 1 d_Mo_unpacked_254 rfl rfl ?_
            refine a_getS fx (T := F_Mo) (j := 46) (hk := hk0) (ht := ht0) (ht2 := by decide) (hc := rfl) (hin := u_in_Mo) (hj := by decide) (hj2 := by decide) (hf := rfl) (n9 := 31) (hfo := rfl) (hT := rfl) (hw := w_1315) (hd := d_Mo_unpacked_255) (kk := ?_)
            refine a_aload_n fx 1 d_Mo_unpacked_258 rfl rfl ?_
            refine a_getI fx (T := F_Mo) (j := 45) (hk := hk0) (ht := ht0) (ht2 := by decide) (hc := rfl) (hin := u_in_Mo) (hj := by decide) (hj2 := by decide) (hf := rfl) (hT := rfl) (hw := w_1314) (hd := d_Mo_unpacked_259) (kk := ?_)
            refine a_calli (rest := []) (a_runS (As := [.ref (B + (a0 + 23)), .int (M10.1 a0 27), .ref (B + (a0 + 31)), .int (M10.1 a0 45)]) fx  cv_Mo_areSame w_1701 (Met_Mo_areSame l B D aC aS (hk0 := (lo_9_28 hk0 ht0).1) (ht0 := (lo_9_28 hk0 ht0).2) (hk2 := (lo_9_46 hk0 ht0).1) (ht2 := (lo_9_46 hk0 ht0).2) h) rfl rfl (Nat.le_of_ble_eq_true rfl) rfl rfl ⟨Nat.le_of_ble_eq_true rfl, Nat.le_of_ble_eq_true rfl⟩ d_Mo_unpacked_262 ⟨Nat.le_of_ble_eq_true rfl, Nat.le_of_ble_eq_true rfl⟩) (fun x12 M11 h => ?_)
            refine a_if_ne fx 271 d_Mo_unpacked_265 rfl (fun hc => ?_) (fun hc => ?_)
            · have h := h.1 hc
              refine a_aload_n fx 1 d_Mo_unpacked_271 rfl rfl ?_
              refine a_calli (rest := []) (a_runV (As := []) fx cv_Mo_readTree w_1720 (Met_Mo_readTree l B D aC aS (hk0 := hk0) (ht0 := ht0) h) hk0 ht0 (by decide) rfl rfl rfl (Nat.le_of_ble_eq_true rfl) rfl rfl ⟨Nat.le_of_ble_eq_true rfl, Nat.le_of_ble_eq_true rfl⟩ d_Mo_unpacked_272 ⟨Nat.le_of_ble_eq_true rfl, Nat.le_of_ble_eq_true rfl⟩) (fun x14 M13 h => ?_)
              refine a_if_ne fx 281 d_Mo_unpacked_275 rfl (fun hc => ?_) (fun hc => ?_)
              · have h := h.1 hc
                refine a_aload_n fx 1 d_Mo_unpacked_281 rfl rfl ?_
                refine a_iconst (v := 2) fx d_Mo_unpacked_282 rfl ?_
                refine a_callv (rest := []) (a_runV (As := [.int 2]) fx cv_Mo_archiveOf w_1558 (Met_Mo_archiveOf l B D aC aS (hk0 := hk0) (ht0 := ht0) h) hk0 ht0 (by decide) rfl rfl rfl (Nat.le_of_ble_eq_true rfl) rfl rfl ⟨Nat.le_of_ble_eq_true rfl, Nat.le_of_ble_eq_true rfl⟩ d_Mo_unpacked_283 ⟨Nat.le_of_ble_eq_true rfl, Nat.le_of_ble_eq_true rfl⟩) (fun M15 h => ?_)
                refine a_aload_n fx 1 d_Mo_unpacked_286 rfl rfl ?_
                refine a_getS fx (T := F_Mo) (j := 26) (hk := hk0) (ht := ht0) (ht2 := by decide) (hc := rfl) (hin := u_in_Mo) (hj := by decide) (hj2 := by decide) (hf := rfl) (n9 := 22) (hfo := rfl) (hT := rfl) (hw := w_1295) (hd := d_Mo_unpacked_287) (kk := ?_)
                refine a_aload_n fx 1 d_Mo_unpacked_290 rfl rfl ?_
                refine a_getI fx (T := F_Mo) (j := 25) (hk := hk0) (ht := ht0) (ht2 := by decide) (hc := rfl) (hin := u_in_Mo) (hj := by decide) (hj2 := by decide) (hf := rfl) (hT := rfl) (hw := w_1294) (hd := d_Mo_unpacked_291) (kk := ?_)
                refine a_aload_n fx 1 d_Mo_unpacked_294 rfl rfl ?_
                refine a_getS fx (T := F_Mo) (j := 48) (hk := hk0) (ht := ht0) (ht2 := by decide) (hc := rfl) (hin := u_in_Mo) (hj := by decide) (hj2 := by decide) (hf := rfl) (n9 := 32) (hfo := rfl) (hT := rfl) (hw := w_1317) (hd := d_Mo_unpacked_295) (kk := ?_)
                refine a_aload_n fx 1 d_Mo_unpacked_298 rfl rfl ?_
                refine a_getI fx (T := F_Mo) (j := 47) (hk := hk0) (ht := ht0) (ht2 := by decide) (hc := rfl) (hin := u_in_Mo) (hj := by decide) (hj2 := by decide) (hf := rfl) (hT := rfl) (hw := w_1316) (hd := d_Mo_unpacked_299) (kk := ?_)
                refine a_calli (rest := []) (a_runS (As := [.ref (B + (a0 + 22)), .int (M15.1 a0 25), .ref (B + (a0 + 32)), .int (M15.1 a0 47)]) fx  cv_Mo_areSame w_1701 (Met_Mo_areSame l B D aC aS (hk0 := (lo_9_26 hk0 ht0).1) (ht0 := (lo_9_26 hk0 ht0).2) (hk2 := (lo_9_48 hk0 ht0).1) (ht2 := (lo_9_48 hk0 ht0).2) h) rfl rfl (Nat.le_of_ble_eq_true rfl) rfl rfl ⟨Nat.le_of_ble_eq_true rfl, Nat.le_of_ble_eq_true rfl⟩ d_Mo_unpacked_302 ⟨Nat.le_of_ble_eq_true rfl, Nat.le_of_ble_eq_true rfl⟩) (fun x17 M16 h => ?_)
                refine a_if_eq fx 312 d_Mo_unpacked_305 rfl (fun hc => ?_) (fun hc => ?_)
                · have h := h.1 hc
                  refine a_bipush (v := 9) fx d_Mo_unpacked_312 rfl ?_
                  exact a_iret fx hlo hr h d_Mo_unpacked_314
                · have h := h.2 hc
                  refine a_iconst (v := 0) fx d_Mo_unpacked_308 rfl ?_
                  refine a_goto fx 314 d_Mo_unpacked_309 rfl ?_
                  exact a_iret fx hlo hr h d_Mo_unpacked_314
              · have h := h.2 hc
                refine a_bipush (v := 9) fx d_Mo_unpacked_278 rfl ?_
                exact a_iret fx hlo hr h d_Mo_unpacked_280
            · have h := h.2 hc
              refine a_bipush (v := 8) fx d_Mo_unpacked_268 rfl ?_
              exact a_iret fx hlo hr h d_Mo_unpacked_270
          · have h := h.2 hc
            refine a_bipush (v := 8) fx d_Mo_unpacked_230 rfl ?_
            exact a_iret fx hlo hr h d_Mo_unpacked_232)
  refine a_aload_n fx 0 d_Mo_unpacked_0 rfl rfl ?_
  refine a_getI fx (T := F_Mo) (j := 38) (hk := hk0) (ht := ht0) (ht2 := by decide) (hc := rfl) (hin := u_in_Mo) (hj := by decide) (hj2 := by decide) (hf := rfl) (hT := rfl) (hw := w_1307) (hd := d_Mo_unpacked_1) (kk := ?_)
  refine a_if_le fx 11 d_Mo_unpacked_4 rfl (fun hc => ?_) (fun hc => ?_)
  · have h := h.1 hc
    refine a_iconst (v := 0) fx d_Mo_unpacked_11 rfl ?_
    refine a_istore_n (lv2 := [(1, .int 0), (0, .ref (B + a0))]) fx d_Mo_unpacked_12 rfl (by decide) rfl ?_
    refine a_iconst (v := 1) fx d_Mo_unpacked_13 rfl ?_
    refine a_istore_n (lv2 := [(2, .int 1), (1, .int 0), (0, .ref (B + a0))]) fx d_Mo_unpacked_14 rfl (by decide) rfl ?_
    refine a_sub [2, 1, 0] rfl ?_
    exact h
  · have h := h.2 hc
    refine a_iconst (v := 1) fx d_Mo_unpacked_7 rfl ?_
    refine a_goto fx 12 d_Mo_unpacked_8 rfl ?_
    refine a_istore_n (lv2 := [(1, .int 1), (0, .ref (B + a0))]) fx d_Mo_unpacked_12 rfl (by decide) rfl ?_
    refine a_iconst (v := 1) fx d_Mo_unpacked_13 rfl ?_
    refine a_istore_n (lv2 := [(2, .int 1), (1, .int 1), (0, .ref (B + a0))]) fx d_Mo_unpacked_14 rfl (by decide) rfl ?_
    refine a_sub [2, 1, 0] rfl ?_
    exact h
set_option maxRecDepth 100000 in
set_option maxHeartbeats 4000000 in
theorem Met_Mo_unpack (l : Launch) (B : Nat) (D : va_G) (aC : Nat → ClassId) (aS : Nat → Nat) {a0 : Nat} {M : zM} {post : Int32 → zM → Prop} (hk0 : a0 < N0) (ht0 : tg a0 = 9) (h : Wp_Mo_unpack a0 M post) : Met l y_Mo_unpack (wo y_Mo_unpack b_Mo_unpack 3 (some FieldType.int)) { frames := 5, cells := 0, slots := 0, locals := 129 } (va_Pc [.ref (B + a0)] (zWl B D aC aS M)) (zQi B D aC post) 0 0 (zAb B) := by
  refine z_met (own := "MailChainModel") (lv0 := [(0, .ref (B + a0))]) (by decide) rfl (Nat.le_of_ble_eq_true rfl) rfl ?_
  intro p e s m below meth c fx hr hlo
  delta Wp_Mo_unpack at h
  have h := h (fun v1 v2 M => zAt p l e { frames := 5, cells := 0, slots := 0, locals := 129 } s m ([.ref (B + a0)] : List Value).toArray below meth c 0 0 (MQ below (zQi B D aC post) ([.ref (B + a0)] : List Value).toArray s 0 0 (zAb B)) B D aC 3 40 [(0, .ref (B + a0)), (1, .int v1), (2, .int v2)] [] M)
  have h := h (fun v1 v2 M => zAt p l e { frames := 5, cells := 0, slots := 0, locals := 129 } s m ([.ref (B + a0)] : List Value).toArray below meth c 0 0 (MQ below (zQi B D aC post) ([.ref (B + a0)] : List Value).toArray s 0 0 (zAb B)) B D aC 3 72 [(0, .ref (B + a0)), (1, .int v1), (2, .int v2)] [] M)
  have h := h (by
    intro v1 v2 M h
    refine a_iload_n fx 2 d_Mo_unpack_40 rfl rfl ?_
    refine a_aload_n fx 0 d_Mo_unpack_41 rfl rfl ?_
    refine a_getS fx (T := F_Mo) (j := 9) (hk := hk0) (ht := ht0) (ht2 := by decide) (hc := rfl) (hin := u_in_Mo) (hj := by decide) (hj2 := by decide) (hf := rfl) (n9 := 8) (hfo := rfl) (hT := rfl) (hw := w_1278) (hd := d_Mo_unpack_42) (kk := ?_)
    refine a_iconst (v := 2) fx d_Mo_unpack_45 rfl ?_
    obtain ⟨hin, h⟩ := h
    refine a_iald fx (lo_9_9 hk0 ht0).1 (lo_9_9 hk0 ht0).2 hin d_Mo_unpack_46 ?_
    refine a_icmp_ge fx 70 d_Mo_unpack_47 rfl (fun hc => ?_) (fun hc => ?_)
    · have h := h.1 hc
      refine a_iconst (v := 0) fx d_Mo_unpack_70 rfl ?_
      refine a_istore_n (lv2 := [(2, .int 0), (0, .ref (B + a0)), (1, .int v1)]) fx d_Mo_unpack_71 rfl (by decide) rfl ?_
      refine a_sub [1, 2, 0] rfl ?_
      exact h
    · have h := h.2 hc
      refine a_aload_n fx 0 d_Mo_unpack_50 rfl rfl ?_
      refine a_iconst (v := 1) fx d_Mo_unpack_51 rfl ?_
      refine a_iload_n fx 2 d_Mo_unpack_52 rfl rfl ?_
      refine a_calli (rest := [.ref (B + a0)]) (a_runS (As := [.int 1, .int v2]) fx  cv_Mo_at w_1503 (Met_Mo_at l B D aC aS  h) rfl rfl (Nat.le_of_ble_eq_true rfl) rfl rfl ⟨Nat.le_of_ble_eq_true rfl, Nat.le_of_ble_eq_true rfl⟩ d_Mo_unpack_53 ⟨Nat.le_of_ble_eq_true rfl, Nat.le_of_ble_eq_true rfl⟩) (fun x7 M6 h => ?_)
      refine a_iconst (v := 2) fx d_Mo_unpack_56 rfl ?_
      refine a_iload_n fx 2 d_Mo_unpack_57 rfl rfl ?_
      refine a_calli (rest := [.int x7, .ref (B + a0)]) (a_runS (As := [.int 2, .int v2]) fx  cv_Mo_at w_1503 (Met_Mo_at l B D aC aS  h) rfl rfl (Nat.le_of_ble_eq_true rfl) rfl rfl ⟨Nat.le_of_ble_eq_true rfl, Nat.le_of_ble_eq_true rfl⟩ d_Mo_unpack_58 ⟨Nat.le_of_ble_eq_true rfl, Nat.le_of_ble_eq_true rfl⟩) (fun x9 M8 h => ?_)
      refine a_callv (rest := []) (a_runV (As := [.int x7, .int x9]) fx cv_Mo_copyEntry w_1518 (Met_Mo_copyEntry l B D aC aS (hk0 := hk0) (ht0 := ht0) h) hk0 ht0 (by decide) rfl rfl rfl (Nat.le_of_ble_eq_true rfl) rfl rfl ⟨Nat.le_of_ble_eq_true rfl, Nat.le_of_ble_eq_true rfl⟩ d_Mo_unpack_61 ⟨Nat.le_of_ble_eq_true rfl, Nat.le_of_ble_eq_true rfl⟩) (fun M10 h => ?_)
      obtain ⟨x11, ex11⟩ : ∃ z : Int32, z = v2 + 1 := ⟨_, rfl⟩
      have h := h x11 ex11
      refine a_iinc (lv2 := [(2, .int x11), (0, .ref (B + a0)), (1, .int v1)]) fx 2 d_Mo_unpack_64 rfl ex11.symm (by decide) rfl ?_
      refine a_goto fx 40 d_Mo_unpack_67 rfl ?_
      refine a_sub [1, 2, 0] rfl ?_
      exact h)
  have h := h (by
    intro v1 v2 M h
    refine a_iload_n fx 2 d_Mo_unpack_72 rfl rfl ?_
    refine a_aload_n fx 0 d_Mo_unpack_73 rfl rfl ?_
    refine a_getS fx (T := F_Mo) (j := 20) (hk := hk0) (ht := ht0) (ht2 := by decide) (hc := rfl) (hin := u_in_Mo) (hj := by decide) (hj2 := by decide) (hf := rfl) (n9 := 19) (hfo := rfl) (hT := rfl) (hw := w_1289) (hd := d_Mo_unpack_74) (kk := ?_)
    refine a_iconst (v := 2) fx d_Mo_unpack_77 rfl ?_
    obtain ⟨hin, h⟩ := h
    refine a_iald fx (lo_9_20 hk0 ht0).1 (lo_9_20 hk0 ht0).2 hin d_Mo_unpack_78 ?_
    refine a_icmp_ge fx 107 d_Mo_unpack_79 rfl (fun hc => ?_) (fun hc => ?_)
    · have h := h.1 hc
      refine a_aload_n fx 0 d_Mo_unpack_107 rfl rfl ?_
      refine a_callv (rest := []) (a_runV (As := []) fx cv_Mo_emptyBox w_1681 (Met_Mo_emptyBox l B D aC aS (hk0 := hk0) (ht0 := ht0) h) hk0 ht0 (by decide) rfl rfl rfl (Nat.le_of_ble_eq_true rfl) rfl rfl ⟨Nat.le_of_ble_eq_true rfl, Nat.le_of_ble_eq_true rfl⟩ d_Mo_unpack_108 ⟨Nat.le_of_ble_eq_true rfl, Nat.le_of_ble_eq_true rfl⟩) (fun M12 h => ?_)
      refine a_iload_n fx 1 d_Mo_unpack_111 rfl rfl ?_
      exact a_iret fx hlo hr h d_Mo_unpack_112
    · have h := h.2 hc
      refine a_aload_n fx 0 d_Mo_unpack_82 rfl rfl ?_
      refine a_getS fx (T := F_Mo) (j := 21) (hk := hk0) (ht := ht0) (ht2 := by decide) (hc := rfl) (hin := u_in_Mo) (hj := by decide) (hj2 := by decide) (hf := rfl) (n9 := 20) (hfo := rfl) (hT := rfl) (hw := w_1290) (hd := d_Mo_unpack_83) (kk := ?_)
      refine a_sipush (v := 20000) fx d_Mo_unpack_86 rfl ?_
      refine a_iload_n fx 2 d_Mo_unpack_89 rfl rfl ?_
      refine a_iadd fx d_Mo_unpack_90 ?_
      refine a_aload_n fx 0 d_Mo_unpack_91 rfl rfl ?_
      refine a_getS fx (T := F_Mo) (j := 21) (hk := hk0) (ht := ht0) (ht2 := by decide) (hc := rfl) (hin := u_in_Mo) (hj := by decide) (hj2 := by decide) (hf := rfl) (n9 := 20) (hfo := rfl) (hT := rfl) (hw := w_1290) (hd := d_Mo_unpack_92) (kk := ?_)
      refine a_ldc fx w_1265 d_Mo_unpack_95 ?_
      refine a_iload_n fx 2 d_Mo_unpack_97 rfl rfl ?_
      refine a_iadd fx d_Mo_unpack_98 ?_
      obtain ⟨hin, h⟩ := h
      refine a_bald fx (lo_9_21 hk0 ht0).1 (lo_9_21 hk0 ht0).2 hin d_Mo_unpack_99 ?_
      obtain ⟨hin, h⟩ := h
      refine a_bast fx (lo_9_21 hk0 ht0).1 (lo_9_21 hk0 ht0).2 hin d_Mo_unpack_100 (a_mem (fun M13 eM13 => ?_))
      have h := h M13 eM13
      obtain ⟨x14, ex14⟩ : ∃ z : Int32, z = v2 + 1 := ⟨_, rfl⟩
      have h := h x14 ex14
      refine a_iinc (lv2 := [(2, .int x14), (0, .ref (B + a0)), (1, .int v1)]) fx 2 d_Mo_unpack_101 rfl ex14.symm (by decide) rfl ?_
      refine a_goto fx 72 d_Mo_unpack_104 rfl ?_
      refine a_sub [1, 2, 0] rfl ?_
      exact h)
  refine a_aload_n fx 0 d_Mo_unpack_0 rfl rfl ?_
  refine a_iconst (v := 0) fx d_Mo_unpack_1 rfl ?_
  refine a_putI fx (T := F_Mo) (ty0 := t_Mo) (j := 6) (hk := hk0) (ht := ht0) (ht2 := by decide) (hc := rfl) (hin := u_in_Mo) (hty := t_Mo_ok) (hnm := n_Mo) (hj := by decide) (hj2 := by decide) (hf := rfl) (hT := rfl) (hfin := rfl) (hn := rfl) (hfit := rfl) (hw := w_1275) (hd := d_Mo_unpack_2) (kk := a_mem (fun M1 eM1 => ?_))
  have h := h M1 eM1
  refine a_aload_n fx 0 d_Mo_unpack_5 rfl rfl ?_
  refine a_calli (rest := []) (a_runV (As := []) fx cv_Mo_unpacked w_1693 (Met_Mo_unpacked l B D aC aS (hk0 := hk0) (ht0 := ht0) h) hk0 ht0 (by decide) rfl rfl rfl (Nat.le_of_ble_eq_true rfl) rfl rfl ⟨Nat.le_of_ble_eq_true rfl, Nat.le_of_ble_eq_true rfl⟩ d_Mo_unpack_6 ⟨Nat.le_of_ble_eq_true rfl, Nat.le_of_ble_eq_true rfl⟩) (fun x3 M2 h => ?_)
  refine a_istore_n (lv2 := [(1, .int x3), (0, .ref (B + a0))]) fx d_Mo_unpack_9 rfl (by decide) rfl ?_
  refine a_iload_n fx 0 d_Mo_unpack_10 rfl rfl ?_
  refine a_if_ne fx 111 d_Mo_unpack_11 rfl (fun hc => ?_) (fun hc => ?_)
  · have h := h.1 hc
    refine a_iload_n fx 0 d_Mo_unpack_111 rfl rfl ?_
    exact a_iret fx hlo hr h d_Mo_unpack_112
  · have h := h.2 hc
    refine a_aload_n fx 1 d_Mo_unpack_14 rfl rfl ?_
    refine a_getS fx (T := F_Mo) (j := 9) (hk := hk0) (ht := ht0) (ht2 := by decide) (hc := rfl) (hin := u_in_Mo) (hj := by decide) (hj2 := by decide) (hf := rfl) (n9 := 8) (hfo := rfl) (hT := rfl) (hw := w_1278) (hd := d_Mo_unpack_15) (kk := ?_)
    refine a_iconst (v := 1) fx d_Mo_unpack_18 rfl ?_
    refine a_aload_n fx 1 d_Mo_unpack_19 rfl rfl ?_
    refine a_getS fx (T := F_Mo) (j := 9) (hk := hk0) (ht := ht0) (ht2 := by decide) (hc := rfl) (hin := u_in_Mo) (hj := by decide) (hj2 := by decide) (hf := rfl) (n9 := 8) (hfo := rfl) (hT := rfl) (hw := w_1278) (hd := d_Mo_unpack_20) (kk := ?_)
    refine a_iconst (v := 2) fx d_Mo_unpack_23 rfl ?_
    obtain ⟨hin, h⟩ := h
    refine a_iald fx (lo_9_9 hk0 ht0).1 (lo_9_9 hk0 ht0).2 hin d_Mo_unpack_24 ?_
    obtain ⟨hin, h⟩ := h
    refine a_iast fx (lo_9_9 hk0 ht0).1 (lo_9_9 hk0 ht0).2 hin d_Mo_unpack_25 (a_mem (fun M4 eM4 => ?_))
    have h := h M4 eM4
    refine a_aload_n fx 1 d_Mo_unpack_26 rfl rfl ?_
    refine a_getS fx (T := F_Mo) (j := 20) (hk := hk0) (ht := ht0) (ht2 := by decide) (hc := rfl) (hin := u_in_Mo) (hj := by decide) (hj2 := by decide) (hf := rfl) (n9 := 19) (hfo := rfl) (hT := rfl) (hw := w_1289) (hd := d_Mo_unpack_27) (kk := ?_)
    refine a_iconst (v := 1) fx d_Mo_unpack_30 rfl ?_
    refine a_aload_n fx 1 d_Mo_unpack_31 rfl rfl ?_
    refine a_getS fx (T := F_Mo) (j := 20) (hk := hk0) (ht := ht0) (ht2 := by decide) (hc := rfl) (hin := u_in_Mo) (hj := by decide) (hj2 := by decide) (hf := rfl) (n9 := 19) (hfo := rfl) (hT := rfl) (hw := w_1289) (hd := d_Mo_unpack_32) (kk := ?_)
    refine a_iconst (v := 2) fx d_Mo_unpack_35 rfl ?_
    obtain ⟨hin, h⟩ := h
    refine a_iald fx (lo_9_20 hk0 ht0).1 (lo_9_20 hk0 ht0).2 hin d_Mo_unpack_36 ?_
    obtain ⟨hin, h⟩ := h
    refine a_iast fx (lo_9_20 hk0 ht0).1 (lo_9_20 hk0 ht0).2 hin d_Mo_unpack_37 (a_mem (fun M5 eM5 => ?_))
    have h := h M5 eM5
    refine a_iconst (v := 0) fx d_Mo_unpack_38 rfl ?_
    refine a_istore_n (lv2 := [(2, .int 0), (1, .int x3), (0, .ref (B + a0))]) fx d_Mo_unpack_39 rfl (by decide) rfl ?_
    refine a_sub [2, 1, 0] rfl ?_
    exact h
set_option maxRecDepth 100000 in
set_option maxHeartbeats 4000000 in
theorem Met_Mo_about (l : Launch) (B : Nat) (D : va_G) (aC : Nat → ClassId) (aS : Nat → Nat) {a0 : Nat} {i1 : Int32} {i2 : Int32} {i3 : Int32} {M : zM} {post : Int32 → zM → Prop} (hk0 : a0 < N0) (ht0 : tg a0 = 9) (h : Wp_Mo_about a0 i1 i2 i3 M post) : Met l y_Mo_about (wo y_Mo_about b_Mo_about 7 (some FieldType.int)) { frames := 3, cells := 0, slots := 0, locals := 72 } (va_Pc [.ref (B + a0), .int i1, .int i2, .int i3] (zWl B D aC aS M)) (zQi B D aC post) 0 0 (zAb B) := by
  refine z_met (own := "MailChainModel") (lv0 := [(0, .ref (B + a0)), (1, .int i1), (2, .int i2), (3, .int i3)]) (by decide) rfl (Nat.le_of_ble_eq_true rfl) rfl ?_
  intro p e s m below meth c fx hr hlo
  delta Wp_Mo_about at h
  have h := h (fun w0 M => zAt p l e { frames := 3, cells := 0, slots := 0, locals := 72 } s m ([.ref (B + a0), .int i1, .int i2, .int i3] : List Value).toArray below meth c 0 0 (MQ below (zQi B D aC post) ([.ref (B + a0), .int i1, .int i2, .int i3] : List Value).toArray s 0 0 (zAb B)) B D aC 7 14 [(0, .ref (B + a0)), (1, .int i1), (2, .int i2), (3, .int i3)] [.int w0] M)
  have h := h (fun v4 w0 M => zAt p l e { frames := 3, cells := 0, slots := 0, locals := 72 } s m ([.ref (B + a0), .int i1, .int i2, .int i3] : List Value).toArray below meth c 0 0 (MQ below (zQi B D aC post) ([.ref (B + a0), .int i1, .int i2, .int i3] : List Value).toArray s 0 0 (zAb B)) B D aC 7 54 [(0, .ref (B + a0)), (1, .int i1), (2, .int i2), (3, .int i3), (4, .int v4)] [.int w0] M)
  have h := h (fun w0 w1 M => zAt p l e { frames := 3, cells := 0, slots := 0, locals := 72 } s m ([.ref (B + a0), .int i1, .int i2, .int i3] : List Value).toArray below meth c 0 0 (MQ below (zQi B D aC post) ([.ref (B + a0), .int i1, .int i2, .int i3] : List Value).toArray s 0 0 (zAb B)) B D aC 7 76 [(0, .ref (B + a0)), (1, .int i1), (2, .int i2), (3, .int i3)] [.int w0, .ref (B + w1)] M)
  have h := h (fun w0 M => zAt p l e { frames := 3, cells := 0, slots := 0, locals := 72 } s m ([.ref (B + a0), .int i1, .int i2, .int i3] : List Value).toArray below meth c 0 0 (MQ below (zQi B D aC post) ([.ref (B + a0), .int i1, .int i2, .int i3] : List Value).toArray s 0 0 (zAb B)) B D aC 7 101 [(0, .ref (B + a0)), (1, .int i1), (2, .int i2), (3, .int i3)] [.int w0] M)
  have h := h (by
    intro w0 M h
    refine a_istore (lv2 := [(4, .int w0), (0, .ref (B + a0)), (1, .int i1), (2, .int i2), (3, .int i3)]) fx d_Mo_about_14 (by decide) rfl ?_
    refine a_iload fx 0 d_Mo_about_16 rfl ?_
    refine a_if_eq fx 53 d_Mo_about_18 rfl (fun hc => ?_) (fun hc => ?_)
    · have h := h.1 hc
      refine a_iconst (v := 0) fx d_Mo_about_53 rfl ?_
      refine a_sub [1, 2, 3, 4, 0] rfl ?_
      exact h
    · have h := h.2 hc
      refine a_iload_n fx 3 d_Mo_about_21 rfl rfl ?_
      refine a_if_lt fx 53 d_Mo_about_22 rfl (fun hc => ?_) (fun hc => ?_)
      · have h := h.1 hc
        refine a_iconst (v := 0) fx d_Mo_about_53 rfl ?_
        refine a_sub [1, 2, 3, 4, 0] rfl ?_
        exact h
      · have h := h.2 hc
        refine a_iload_n fx 3 d_Mo_about_25 rfl rfl ?_
        refine a_bipush (v := 9) fx d_Mo_about_26 rfl ?_
        refine a_icmp_gt fx 53 d_Mo_about_28 rfl (fun hc => ?_) (fun hc => ?_)
        · have h := h.1 hc
          refine a_iconst (v := 0) fx d_Mo_about_53 rfl ?_
          refine a_sub [1, 2, 3, 4, 0] rfl ?_
          exact h
        · have h := h.2 hc
          refine a_iload_n fx 3 d_Mo_about_31 rfl rfl ?_
          refine a_if_eq fx 49 d_Mo_about_32 rfl (fun hc => ?_) (fun hc => ?_)
          · have h := h.1 hc
            refine a_iconst (v := 1) fx d_Mo_about_49 rfl ?_
            refine a_goto fx 54 d_Mo_about_50 rfl ?_
            refine a_sub [1, 2, 3, 4, 0] rfl ?_
            exact h
          · have h := h.2 hc
            refine a_iload_n fx 4 d_Mo_about_35 rfl rfl ?_
            refine a_if_lt fx 53 d_Mo_about_36 rfl (fun hc => ?_) (fun hc => ?_)
            · have h := h.1 hc
              refine a_iconst (v := 0) fx d_Mo_about_53 rfl ?_
              refine a_sub [1, 2, 3, 4, 0] rfl ?_
              exact h
            · have h := h.2 hc
              refine a_iload_n fx 4 d_Mo_about_39 rfl rfl ?_
              refine a_aload_n fx 1 d_Mo_about_40 rfl rfl ?_
              refine a_getS fx (T := F_Mo) (j := 9) (hk := hk0) (ht := ht0) (ht2 := by decide) (hc := rfl) (hin := u_in_Mo) (hj := by decide) (hj2 := by decide) (hf := rfl) (n9 := 8) (hfo := rfl) (hT := rfl) (hw := w_1278) (hd := d_Mo_about_41) (kk := ?_)
              refine a_iload_n fx 2 d_Mo_about_44 rfl rfl ?_
              obtain ⟨hin, h⟩ := h
              refine a_iald fx (lo_9_9 hk0 ht0).1 (lo_9_9 hk0 ht0).2 hin d_Mo_about_45 ?_
              refine a_icmp_ge fx 53 d_Mo_about_46 rfl (fun hc => ?_) (fun hc => ?_)
              · have h := h.1 hc
                refine a_iconst (v := 0) fx d_Mo_about_53 rfl ?_
                refine a_sub [1, 2, 3, 4, 0] rfl ?_
                exact h
              · have h := h.2 hc
                refine a_iconst (v := 1) fx d_Mo_about_49 rfl ?_
                refine a_goto fx 54 d_Mo_about_50 rfl ?_
                refine a_sub [1, 2, 3, 4, 0] rfl ?_
                exact h)
  have h := h (by
    intro v4 w0 M h
    refine a_istore (lv2 := [(5, .int w0), (0, .ref (B + a0)), (1, .int i1), (2, .int i2), (3, .int i3), (4, .int v4)]) fx d_Mo_about_54 (by decide) rfl ?_
    refine a_aload_n fx 1 d_Mo_about_56 rfl rfl ?_
    refine a_iload fx 5 d_Mo_about_57 rfl ?_
    refine a_if_ne fx 66 d_Mo_about_59 rfl (fun hc => ?_) (fun hc => ?_)
    · have h := h.1 hc
      refine a_iload fx 0 d_Mo_about_66 rfl ?_
      refine a_if_ne fx 75 d_Mo_about_68 rfl (fun hc => ?_) (fun hc => ?_)
      · have h := h.1 hc
        refine a_iconst (v := 0) fx d_Mo_about_75 rfl ?_
        refine a_sub [1, 2, 3, 4] rfl ?_
        exact h
      · have h := h.2 hc
        refine a_iconst (v := 2) fx d_Mo_about_71 rfl ?_
        refine a_goto fx 76 d_Mo_about_72 rfl ?_
        refine a_sub [1, 2, 3, 4] rfl ?_
        exact h
    · have h := h.2 hc
      refine a_iconst (v := 1) fx d_Mo_about_62 rfl ?_
      refine a_goto fx 76 d_Mo_about_63 rfl ?_
      refine a_sub [1, 2, 3, 4] rfl ?_
      exact h)
  have h := h (by
    intro w0 w1 M h
    obtain ⟨hk_w1, ht_w1, h⟩ := h
    refine a_putI fx (T := F_Mo) (ty0 := t_Mo) (j := 6) (hk := hk_w1) (ht := ht_w1) (ht2 := by decide) (hc := rfl) (hin := u_in_Mo) (hty := t_Mo_ok) (hnm := n_Mo) (hj := by decide) (hj2 := by decide) (hf := rfl) (hT := rfl) (hfin := rfl) (hn := rfl) (hfit := rfl) (hw := w_1275) (hd := d_Mo_about_76) (kk := a_mem (fun M1 eM1 => ?_))
    have h := h M1 eM1
    refine a_aload_n fx 0 d_Mo_about_79 rfl rfl ?_
    refine a_getI fx (T := F_Mo) (j := 6) (hk := hk0) (ht := ht0) (ht2 := by decide) (hc := rfl) (hin := u_in_Mo) (hj := by decide) (hj2 := by decide) (hf := rfl) (hT := rfl) (hw := w_1275) (hd := d_Mo_about_80) (kk := ?_)
    refine a_if_le fx 88 d_Mo_about_83 rfl (fun hc => ?_) (fun hc => ?_)
    · have h := h.1 hc
      refine a_iload_n fx 2 d_Mo_about_88 rfl rfl ?_
      refine a_if_ne fx 96 d_Mo_about_89 rfl (fun hc => ?_) (fun hc => ?_)
      · have h := h.1 hc
        refine a_iload_n fx 1 d_Mo_about_96 rfl rfl ?_
        refine a_iload_n fx 3 d_Mo_about_97 rfl rfl ?_
        refine a_calli (rest := []) (a_runS (As := [.int i1, .int i3]) fx  cv_Mo_at w_1503 (Met_Mo_at l B D aC aS  h) rfl rfl (Nat.le_of_ble_eq_true rfl) rfl rfl ⟨Nat.le_of_ble_eq_true rfl, Nat.le_of_ble_eq_true rfl⟩ d_Mo_about_98 ⟨Nat.le_of_ble_eq_true rfl, Nat.le_of_ble_eq_true rfl⟩) (fun x3 M2 h => ?_)
        refine a_sub [0, 1, 2, 3] rfl ?_
        exact h
      · have h := h.2 hc
        refine a_iconst (v := 0) fx d_Mo_about_92 rfl ?_
        refine a_goto fx 101 d_Mo_about_93 rfl ?_
        refine a_sub [0, 1, 2, 3] rfl ?_
        exact h
    · have h := h.2 hc
      refine a_iconst (v := 0) fx d_Mo_about_86 rfl ?_
      exact a_iret fx hlo hr h d_Mo_about_87)
  have h := h (by
    intro w0 M h
    refine a_istore (lv2 := [(6, .int w0), (0, .ref (B + a0)), (1, .int i1), (2, .int i2), (3, .int i3)]) fx d_Mo_about_101 (by decide) rfl ?_
    refine a_iload_n fx 3 d_Mo_about_103 rfl rfl ?_
    by_cases hc0 : i2 = 0
    · have h := h.1 hc0
      refine a_tabI fx 156 d_Mo_about_104 (by rw [hc0]; decide) (by rw [hc0]; decide) (by rw [hc0]; rfl) rfl ?_
      refine a_aload_n fx 1 d_Mo_about_156 rfl rfl ?_
      refine a_getS fx (T := F_Mo) (j := 9) (hk := hk0) (ht := ht0) (ht2 := by decide) (hc := rfl) (hin := u_in_Mo) (hj := by decide) (hj2 := by decide) (hf := rfl) (n9 := 8) (hfo := rfl) (hT := rfl) (hw := w_1278) (hd := d_Mo_about_157) (kk := ?_)
      refine a_iload_n fx 2 d_Mo_about_160 rfl rfl ?_
      obtain ⟨hin, h⟩ := h
      refine a_iald fx (lo_9_9 hk0 ht0).1 (lo_9_9 hk0 ht0).2 hin d_Mo_about_161 ?_
      exact a_iret fx hlo hr h d_Mo_about_162
    have h := h.2
    by_cases hc1 : i2 = 1
    · have h := h.1 hc1
      refine a_tabI fx 163 d_Mo_about_104 (by rw [hc1]; decide) (by rw [hc1]; decide) (by rw [hc1]; rfl) rfl ?_
      refine a_aload_n fx 1 d_Mo_about_163 rfl rfl ?_
      refine a_getS fx (T := F_Mo) (j := 12) (hk := hk0) (ht := ht0) (ht2 := by decide) (hc := rfl) (hin := u_in_Mo) (hj := by decide) (hj2 := by decide) (hf := rfl) (n9 := 11) (hfo := rfl) (hT := rfl) (hw := w_1281) (hd := d_Mo_about_164) (kk := ?_)
      refine a_iload fx 0 d_Mo_about_167 rfl ?_
      obtain ⟨hin, h⟩ := h
      refine a_iald fx (lo_9_12 hk0 ht0).1 (lo_9_12 hk0 ht0).2 hin d_Mo_about_169 ?_
      exact a_iret fx hlo hr h d_Mo_about_170
    have h := h.2
    by_cases hc2 : i2 = 2
    · have h := h.1 hc2
      refine a_tabI fx 171 d_Mo_about_104 (by rw [hc2]; decide) (by rw [hc2]; decide) (by rw [hc2]; rfl) rfl ?_
      refine a_aload_n fx 1 d_Mo_about_171 rfl rfl ?_
      refine a_getS fx (T := F_Mo) (j := 13) (hk := hk0) (ht := ht0) (ht2 := by decide) (hc := rfl) (hin := u_in_Mo) (hj := by decide) (hj2 := by decide) (hf := rfl) (n9 := 12) (hfo := rfl) (hT := rfl) (hw := w_1282) (hd := d_Mo_about_172) (kk := ?_)
      refine a_iload fx 0 d_Mo_about_175 rfl ?_
      obtain ⟨hin, h⟩ := h
      refine a_iald fx (lo_9_13 hk0 ht0).1 (lo_9_13 hk0 ht0).2 hin d_Mo_about_177 ?_
      exact a_iret fx hlo hr h d_Mo_about_178
    have h := h.2
    by_cases hc3 : i2 = 3
    · have h := h.1 hc3
      refine a_tabI fx 179 d_Mo_about_104 (by rw [hc3]; decide) (by rw [hc3]; decide) (by rw [hc3]; rfl) rfl ?_
      refine a_aload_n fx 1 d_Mo_about_179 rfl rfl ?_
      refine a_getS fx (T := F_Mo) (j := 14) (hk := hk0) (ht := ht0) (ht2 := by decide) (hc := rfl) (hin := u_in_Mo) (hj := by decide) (hj2 := by decide) (hf := rfl) (n9 := 13) (hfo := rfl) (hT := rfl) (hw := w_1283) (hd := d_Mo_about_180) (kk := ?_)
      refine a_iload fx 0 d_Mo_about_183 rfl ?_
      obtain ⟨hin, h⟩ := h
      refine a_iald fx (lo_9_14 hk0 ht0).1 (lo_9_14 hk0 ht0).2 hin d_Mo_about_185 ?_
      exact a_iret fx hlo hr h d_Mo_about_186
    have h := h.2
    by_cases hc4 : i2 = 4
    · have h := h.1 hc4
      refine a_tabI fx 187 d_Mo_about_104 (by rw [hc4]; decide) (by rw [hc4]; decide) (by rw [hc4]; rfl) rfl ?_
      refine a_aload_n fx 1 d_Mo_about_187 rfl rfl ?_
      refine a_getS fx (T := F_Mo) (j := 15) (hk := hk0) (ht := ht0) (ht2 := by decide) (hc := rfl) (hin := u_in_Mo) (hj := by decide) (hj2 := by decide) (hf := rfl) (n9 := 14) (hfo := rfl) (hT := rfl) (hw := w_1284) (hd := d_Mo_about_188) (kk := ?_)
      refine a_iload fx 0 d_Mo_about_191 rfl ?_
      obtain ⟨hin, h⟩ := h
      refine a_iald fx (lo_9_15 hk0 ht0).1 (lo_9_15 hk0 ht0).2 hin d_Mo_about_193 ?_
      exact a_iret fx hlo hr h d_Mo_about_194
    have h := h.2
    by_cases hc5 : i2 = 5
    · have h := h.1 hc5
      refine a_tabI fx 195 d_Mo_about_104 (by rw [hc5]; decide) (by rw [hc5]; decide) (by rw [hc5]; rfl) rfl ?_
      refine a_aload_n fx 1 d_Mo_about_195 rfl rfl ?_
      refine a_getS fx (T := F_Mo) (j := 16) (hk := hk0) (ht := ht0) (ht2 := by decide) (hc := rfl) (hin := u_in_Mo) (hj := by decide) (hj2 := by decide) (hf := rfl) (n9 := 15) (hfo := rfl) (hT := rfl) (hw := w_1285) (hd := d_Mo_about_196) (kk := ?_)
      refine a_iload fx 0 d_Mo_about_199 rfl ?_
      obtain ⟨hin, h⟩ := h
      refine a_iald fx (lo_9_16 hk0 ht0).1 (lo_9_16 hk0 ht0).2 hin d_Mo_about_201 ?_
      exact a_iret fx hlo hr h d_Mo_about_202
    have h := h.2
    by_cases hc6 : i2 = 6
    · have h := h.1 hc6
      refine a_tabI fx 203 d_Mo_about_104 (by rw [hc6]; decide) (by rw [hc6]; decide) (by rw [hc6]; rfl) rfl ?_
      refine a_aload_n fx 1 d_Mo_about_203 rfl rfl ?_
      refine a_getS fx (T := F_Mo) (j := 11) (hk := hk0) (ht := ht0) (ht2 := by decide) (hc := rfl) (hin := u_in_Mo) (hj := by decide) (hj2 := by decide) (hf := rfl) (n9 := 10) (hfo := rfl) (hT := rfl) (hw := w_1280) (hd := d_Mo_about_204) (kk := ?_)
      refine a_iload fx 0 d_Mo_about_207 rfl ?_
      obtain ⟨hin, h⟩ := h
      refine a_iald fx (lo_9_11 hk0 ht0).1 (lo_9_11 hk0 ht0).2 hin d_Mo_about_209 ?_
      exact a_iret fx hlo hr h d_Mo_about_210
    have h := h.2
    by_cases hc7 : i2 = 7
    · have h := h.1 hc7
      refine a_tabI fx 211 d_Mo_about_104 (by rw [hc7]; decide) (by rw [hc7]; decide) (by rw [hc7]; rfl) rfl ?_
      refine a_aload_n fx 1 d_Mo_about_211 rfl rfl ?_
      refine a_getS fx (T := F_Mo) (j := 18) (hk := hk0) (ht := ht0) (ht2 := by decide) (hc := rfl) (hin := u_in_Mo) (hj := by decide) (hj2 := by decide) (hf := rfl) (n9 := 17) (hfo := rfl) (hT := rfl) (hw := w_1287) (hd := d_Mo_about_212) (kk := ?_)
      refine a_iload fx 0 d_Mo_about_215 rfl ?_
      obtain ⟨hin, h⟩ := h
      refine a_iald fx (lo_9_18 hk0 ht0).1 (lo_9_18 hk0 ht0).2 hin d_Mo_about_217 ?_
      exact a_iret fx hlo hr h d_Mo_about_218
    have h := h.2
    by_cases hc8 : i2 = 8
    · have h := h.1 hc8
      refine a_tabI fx 219 d_Mo_about_104 (by rw [hc8]; decide) (by rw [hc8]; decide) (by rw [hc8]; rfl) rfl ?_
      refine a_aload_n fx 1 d_Mo_about_219 rfl rfl ?_
      refine a_iload_n fx 2 d_Mo_about_220 rfl rfl ?_
      refine a_iload_n fx 4 d_Mo_about_221 rfl rfl ?_
      refine a_calli (rest := []) (a_runV (As := [.int i1, .int i3]) fx cv_Mo_firstOf w_1564 (Met_Mo_firstOf l B D aC aS (hk0 := hk0) (ht0 := ht0) h) hk0 ht0 (by decide) rfl rfl rfl (Nat.le_of_ble_eq_true rfl) rfl rfl ⟨Nat.le_of_ble_eq_true rfl, Nat.le_of_ble_eq_true rfl⟩ d_Mo_about_222 ⟨Nat.le_of_ble_eq_true rfl, Nat.le_of_ble_eq_true rfl⟩) (fun x5 M4 h => ?_)
      exact a_iret fx hlo hr h d_Mo_about_225
    have h := h.2
    refine a_tabO fx 226 d_Mo_about_104 (by have e0 : ¬ (i2).toInt = 0 := fun e => hc0 (Int32.toInt_inj.mp (e.trans (by decide : (0 : Int) = (0 : Int32).toInt))); have e1 : ¬ (i2).toInt = 1 := fun e => hc1 (Int32.toInt_inj.mp (e.trans (by decide : (1 : Int) = (1 : Int32).toInt))); have e2 : ¬ (i2).toInt = 2 := fun e => hc2 (Int32.toInt_inj.mp (e.trans (by decide : (2 : Int) = (2 : Int32).toInt))); have e3 : ¬ (i2).toInt = 3 := fun e => hc3 (Int32.toInt_inj.mp (e.trans (by decide : (3 : Int) = (3 : Int32).toInt))); have e4 : ¬ (i2).toInt = 4 := fun e => hc4 (Int32.toInt_inj.mp (e.trans (by decide : (4 : Int) = (4 : Int32).toInt))); have e5 : ¬ (i2).toInt = 5 := fun e => hc5 (Int32.toInt_inj.mp (e.trans (by decide : (5 : Int) = (5 : Int32).toInt))); have e6 : ¬ (i2).toInt = 6 := fun e => hc6 (Int32.toInt_inj.mp (e.trans (by decide : (6 : Int) = (6 : Int32).toInt))); have e7 : ¬ (i2).toInt = 7 := fun e => hc7 (Int32.toInt_inj.mp (e.trans (by decide : (7 : Int) = (7 : Int32).toInt))); have e8 : ¬ (i2).toInt = 8 := fun e => hc8 (Int32.toInt_inj.mp (e.trans (by decide : (8 : Int) = (8 : Int32).toInt))); omega) rfl ?_
    have h := h hc0 hc1 hc2 hc3 hc4 hc5 hc6 hc7 hc8
    refine a_aload_n fx 1 d_Mo_about_226 rfl rfl ?_
    refine a_iload_n fx 2 d_Mo_about_227 rfl rfl ?_
    refine a_iload_n fx 4 d_Mo_about_228 rfl rfl ?_
    refine a_calli (rest := []) (a_runV (As := [.int i1, .int i3]) fx cv_Mo_linksOf w_1568 (Met_Mo_linksOf l B D aC aS (hk0 := hk0) (ht0 := ht0) h) hk0 ht0 (by decide) rfl rfl rfl (Nat.le_of_ble_eq_true rfl) rfl rfl ⟨Nat.le_of_ble_eq_true rfl, Nat.le_of_ble_eq_true rfl⟩ d_Mo_about_229 ⟨Nat.le_of_ble_eq_true rfl, Nat.le_of_ble_eq_true rfl⟩) (fun x7 M6 h => ?_)
    exact a_iret fx hlo hr h d_Mo_about_232)
  refine a_iload_n fx 1 d_Mo_about_0 rfl rfl ?_
  refine a_if_eq fx 9 d_Mo_about_1 rfl (fun hc => ?_) (fun hc => ?_)
  · have h := h.1 hc
    refine a_iconst (v := 1) fx d_Mo_about_9 rfl ?_
    refine a_goto fx 14 d_Mo_about_10 rfl ?_
    refine a_sub [0, 1, 2, 3] rfl ?_
    exact h
  · have h := h.2 hc
    refine a_iload_n fx 1 d_Mo_about_4 rfl rfl ?_
    refine a_iconst (v := 1) fx d_Mo_about_5 rfl ?_
    refine a_icmp_ne fx 13 d_Mo_about_6 rfl (fun hc => ?_) (fun hc => ?_)
    · have h := h.1 hc
      refine a_iconst (v := 0) fx d_Mo_about_13 rfl ?_
      refine a_sub [0, 1, 2, 3] rfl ?_
      exact h
    · have h := h.2 hc
      refine a_iconst (v := 1) fx d_Mo_about_9 rfl ?_
      refine a_goto fx 14 d_Mo_about_10 rfl ?_
      refine a_sub [0, 1, 2, 3] rfl ?_
      exact h
set_option maxRecDepth 100000 in
set_option maxHeartbeats 4000000 in
theorem Met_Mo_byteOf (l : Launch) (B : Nat) (D : va_G) (aC : Nat → ClassId) (aS : Nat → Nat) {a0 : Nat} {i1 : Int32} {i2 : Int32} {i3 : Int32} {M : zM} {post : Int32 → zM → Prop} (hk0 : a0 < N0) (ht0 : tg a0 = 9) (h : Wp_Mo_byteOf a0 i1 i2 i3 M post) : Met l y_Mo_byteOf (wo y_Mo_byteOf b_Mo_byteOf 8 (some FieldType.int)) { frames := 1, cells := 0, slots := 0, locals := 21 } (va_Pc [.ref (B + a0), .int i1, .int i2, .int i3] (zWl B D aC aS M)) (zQi B D aC post) 0 0 (zAb B) := by
  refine z_met (own := "MailChainModel") (lv0 := [(0, .ref (B + a0)), (1, .int i1), (2, .int i2), (3, .int i3)]) (by decide) rfl (Nat.le_of_ble_eq_true rfl) rfl ?_
  intro p e s m below meth c fx hr hlo
  delta Wp_Mo_byteOf at h
  have h := h (fun w0 M => zAt p l e { frames := 1, cells := 0, slots := 0, locals := 21 } s m ([.ref (B + a0), .int i1, .int i2, .int i3] : List Value).toArray below meth c 0 0 (MQ below (zQi B D aC post) ([.ref (B + a0), .int i1, .int i2, .int i3] : List Value).toArray s 0 0 (zAb B)) B D aC 8 14 [(0, .ref (B + a0)), (1, .int i1), (2, .int i2), (3, .int i3)] [.int w0] M)
  have h := h (fun v4 w0 M => zAt p l e { frames := 1, cells := 0, slots := 0, locals := 21 } s m ([.ref (B + a0), .int i1, .int i2, .int i3] : List Value).toArray below meth c 0 0 (MQ below (zQi B D aC post) ([.ref (B + a0), .int i1, .int i2, .int i3] : List Value).toArray s 0 0 (zAb B)) B D aC 8 69 [(0, .ref (B + a0)), (1, .int i1), (2, .int i2), (3, .int i3), (4, .int v4)] [.int w0] M)
  have h := h (fun w0 w1 M => zAt p l e { frames := 1, cells := 0, slots := 0, locals := 21 } s m ([.ref (B + a0), .int i1, .int i2, .int i3] : List Value).toArray below meth c 0 0 (MQ below (zQi B D aC post) ([.ref (B + a0), .int i1, .int i2, .int i3] : List Value).toArray s 0 0 (zAb B)) B D aC 8 91 [(0, .ref (B + a0)), (1, .int i1), (2, .int i2), (3, .int i3)] [.int w0, .ref (B + w1)] M)
  have h := h (by
    intro w0 M h
    refine a_istore (lv2 := [(4, .int w0), (0, .ref (B + a0)), (1, .int i1), (2, .int i2), (3, .int i3)]) fx d_Mo_byteOf_14 (by decide) rfl ?_
    refine a_iload fx 0 d_Mo_byteOf_16 rfl ?_
    refine a_if_eq fx 68 d_Mo_byteOf_18 rfl (fun hc => ?_) (fun hc => ?_)
    · have h := h.1 hc
      refine a_iconst (v := 0) fx d_Mo_byteOf_68 rfl ?_
      refine a_sub [1, 2, 3, 4, 0] rfl ?_
      exact h
    · have h := h.2 hc
      refine a_iload_n fx 3 d_Mo_byteOf_21 rfl rfl ?_
      refine a_if_lt fx 68 d_Mo_byteOf_22 rfl (fun hc => ?_) (fun hc => ?_)
      · have h := h.1 hc
        refine a_iconst (v := 0) fx d_Mo_byteOf_68 rfl ?_
        refine a_sub [1, 2, 3, 4, 0] rfl ?_
        exact h
      · have h := h.2 hc
        refine a_iload_n fx 3 d_Mo_byteOf_25 rfl rfl ?_
        refine a_aload_n fx 1 d_Mo_byteOf_26 rfl rfl ?_
        refine a_getS fx (T := F_Mo) (j := 9) (hk := hk0) (ht := ht0) (ht2 := by decide) (hc := rfl) (hin := u_in_Mo) (hj := by decide) (hj2 := by decide) (hf := rfl) (n9 := 8) (hfo := rfl) (hT := rfl) (hw := w_1278) (hd := d_Mo_byteOf_27) (kk := ?_)
        refine a_iload_n fx 2 d_Mo_byteOf_30 rfl rfl ?_
        obtain ⟨hin, h⟩ := h
        refine a_iald fx (lo_9_9 hk0 ht0).1 (lo_9_9 hk0 ht0).2 hin d_Mo_byteOf_31 ?_
        refine a_icmp_ge fx 68 d_Mo_byteOf_32 rfl (fun hc => ?_) (fun hc => ?_)
        · have h := h.1 hc
          refine a_iconst (v := 0) fx d_Mo_byteOf_68 rfl ?_
          refine a_sub [1, 2, 3, 4, 0] rfl ?_
          exact h
        · have h := h.2 hc
          refine a_iload_n fx 4 d_Mo_byteOf_35 rfl rfl ?_
          refine a_if_lt fx 68 d_Mo_byteOf_36 rfl (fun hc => ?_) (fun hc => ?_)
          · have h := h.1 hc
            refine a_iconst (v := 0) fx d_Mo_byteOf_68 rfl ?_
            refine a_sub [1, 2, 3, 4, 0] rfl ?_
            exact h
          · have h := h.2 hc
            refine a_iload_n fx 4 d_Mo_byteOf_39 rfl rfl ?_
            refine a_aload_n fx 1 d_Mo_byteOf_40 rfl rfl ?_
            refine a_getS fx (T := F_Mo) (j := 11) (hk := hk0) (ht := ht0) (ht2 := by decide) (hc := rfl) (hin := u_in_Mo) (hj := by decide) (hj2 := by decide) (hf := rfl) (n9 := 10) (hfo := rfl) (hT := rfl) (hw := w_1280) (hd := d_Mo_byteOf_41) (kk := ?_)
            refine a_iload_n fx 2 d_Mo_byteOf_44 rfl rfl ?_
            refine a_iload_n fx 3 d_Mo_byteOf_45 rfl rfl ?_
            refine a_calli (rest := [.ref (B + (a0 + 10)), .int i3]) (a_runS (As := [.int i1, .int i2]) fx  cv_Mo_at w_1503 (Met_Mo_at l B D aC aS  h) rfl rfl (Nat.le_of_ble_eq_true rfl) rfl rfl ⟨Nat.le_of_ble_eq_true rfl, Nat.le_of_ble_eq_true rfl⟩ d_Mo_byteOf_46 ⟨Nat.le_of_ble_eq_true rfl, Nat.le_of_ble_eq_true rfl⟩) (fun x2 M1 h => ?_)
            obtain ⟨hin, h⟩ := h
            refine a_iald fx (lo_9_11 hk0 ht0).1 (lo_9_11 hk0 ht0).2 hin d_Mo_byteOf_49 ?_
            refine a_aload_n fx 1 d_Mo_byteOf_50 rfl rfl ?_
            refine a_getS fx (T := F_Mo) (j := 18) (hk := hk0) (ht := ht0) (ht2 := by decide) (hc := rfl) (hin := u_in_Mo) (hj := by decide) (hj2 := by decide) (hf := rfl) (n9 := 17) (hfo := rfl) (hT := rfl) (hw := w_1287) (hd := d_Mo_byteOf_51) (kk := ?_)
            refine a_iload_n fx 2 d_Mo_byteOf_54 rfl rfl ?_
            refine a_iload_n fx 3 d_Mo_byteOf_55 rfl rfl ?_
            refine a_calli (rest := [.ref (B + (a0 + 17)), .int (M1.1 (a0 + 10) (x2).toNatClampNeg), .int i3]) (a_runS (As := [.int i1, .int i2]) fx  cv_Mo_at w_1503 (Met_Mo_at l B D aC aS  h) rfl rfl (Nat.le_of_ble_eq_true rfl) rfl rfl ⟨Nat.le_of_ble_eq_true rfl, Nat.le_of_ble_eq_true rfl⟩ d_Mo_byteOf_56 ⟨Nat.le_of_ble_eq_true rfl, Nat.le_of_ble_eq_true rfl⟩) (fun x4 M3 h => ?_)
            obtain ⟨hin, h⟩ := h
            refine a_iald fx (lo_9_18 hk0 ht0).1 (lo_9_18 hk0 ht0).2 hin d_Mo_byteOf_59 ?_
            refine a_iadd fx d_Mo_byteOf_60 ?_
            refine a_icmp_ge fx 68 d_Mo_byteOf_61 rfl (fun hc => ?_) (fun hc => ?_)
            · have h := h.1 hc
              refine a_iconst (v := 0) fx d_Mo_byteOf_68 rfl ?_
              refine a_sub [1, 2, 3, 4, 0] rfl ?_
              exact h
            · have h := h.2 hc
              refine a_iconst (v := 1) fx d_Mo_byteOf_64 rfl ?_
              refine a_goto fx 69 d_Mo_byteOf_65 rfl ?_
              refine a_sub [1, 2, 3, 4, 0] rfl ?_
              exact h)
  have h := h (by
    intro v4 w0 M h
    refine a_istore (lv2 := [(5, .int w0), (0, .ref (B + a0)), (1, .int i1), (2, .int i2), (3, .int i3), (4, .int v4)]) fx d_Mo_byteOf_69 (by decide) rfl ?_
    refine a_aload_n fx 1 d_Mo_byteOf_71 rfl rfl ?_
    refine a_iload fx 5 d_Mo_byteOf_72 rfl ?_
    refine a_if_ne fx 81 d_Mo_byteOf_74 rfl (fun hc => ?_) (fun hc => ?_)
    · have h := h.1 hc
      refine a_iload fx 0 d_Mo_byteOf_81 rfl ?_
      refine a_if_ne fx 90 d_Mo_byteOf_83 rfl (fun hc => ?_) (fun hc => ?_)
      · have h := h.1 hc
        refine a_iconst (v := 0) fx d_Mo_byteOf_90 rfl ?_
        refine a_sub [1, 2, 3, 4] rfl ?_
        exact h
      · have h := h.2 hc
        refine a_iconst (v := 2) fx d_Mo_byteOf_86 rfl ?_
        refine a_goto fx 91 d_Mo_byteOf_87 rfl ?_
        refine a_sub [1, 2, 3, 4] rfl ?_
        exact h
    · have h := h.2 hc
      refine a_iconst (v := 1) fx d_Mo_byteOf_77 rfl ?_
      refine a_goto fx 91 d_Mo_byteOf_78 rfl ?_
      refine a_sub [1, 2, 3, 4] rfl ?_
      exact h)
  have h := h (by
    intro w0 w1 M h
    obtain ⟨hk_w1, ht_w1, h⟩ := h
    refine a_putI fx (T := F_Mo) (ty0 := t_Mo) (j := 6) (hk := hk_w1) (ht := ht_w1) (ht2 := by decide) (hc := rfl) (hin := u_in_Mo) (hty := t_Mo_ok) (hnm := n_Mo) (hj := by decide) (hj2 := by decide) (hf := rfl) (hT := rfl) (hfin := rfl) (hn := rfl) (hfit := rfl) (hw := w_1275) (hd := d_Mo_byteOf_91) (kk := a_mem (fun M5 eM5 => ?_))
    have h := h M5 eM5
    refine a_aload_n fx 0 d_Mo_byteOf_94 rfl rfl ?_
    refine a_getI fx (T := F_Mo) (j := 6) (hk := hk0) (ht := ht0) (ht2 := by decide) (hc := rfl) (hin := u_in_Mo) (hj := by decide) (hj2 := by decide) (hf := rfl) (hT := rfl) (hw := w_1275) (hd := d_Mo_byteOf_95) (kk := ?_)
    refine a_if_le fx 103 d_Mo_byteOf_98 rfl (fun hc => ?_) (fun hc => ?_)
    · have h := h.1 hc
      refine a_iload_n fx 1 d_Mo_byteOf_103 rfl rfl ?_
      refine a_iload_n fx 2 d_Mo_byteOf_104 rfl rfl ?_
      refine a_calli (rest := []) (a_runS (As := [.int i1, .int i2]) fx  cv_Mo_at w_1503 (Met_Mo_at l B D aC aS  h) rfl rfl (Nat.le_of_ble_eq_true rfl) rfl rfl ⟨Nat.le_of_ble_eq_true rfl, Nat.le_of_ble_eq_true rfl⟩ d_Mo_byteOf_105 ⟨Nat.le_of_ble_eq_true rfl, Nat.le_of_ble_eq_true rfl⟩) (fun x7 M6 h => ?_)
      refine a_istore (lv2 := [(6, .int x7), (0, .ref (B + a0)), (1, .int i1), (2, .int i2), (3, .int i3)]) fx d_Mo_byteOf_108 (by decide) rfl ?_
      refine a_aload_n fx 1 d_Mo_byteOf_110 rfl rfl ?_
      refine a_getS fx (T := F_Mo) (j := 11) (hk := hk0) (ht := ht0) (ht2 := by decide) (hc := rfl) (hin := u_in_Mo) (hj := by decide) (hj2 := by decide) (hf := rfl) (n9 := 10) (hfo := rfl) (hT := rfl) (hw := w_1280) (hd := d_Mo_byteOf_111) (kk := ?_)
      refine a_iload fx 0 d_Mo_byteOf_114 rfl ?_
      obtain ⟨hin, h⟩ := h
      refine a_iald fx (lo_9_11 hk0 ht0).1 (lo_9_11 hk0 ht0).2 hin d_Mo_byteOf_116 ?_
      refine a_topi (fun x8 ex8 => ?_)
      have h := h x8 ex8
      refine a_istore (lv2 := [(7, .int x8), (6, .int x7), (0, .ref (B + a0)), (1, .int i1), (2, .int i2), (3, .int i3)]) fx d_Mo_byteOf_117 (by decide) rfl ?_
      refine a_iload_n fx 5 d_Mo_byteOf_119 rfl rfl ?_
      refine a_iload fx 0 d_Mo_byteOf_120 rfl ?_
      refine a_icmp_ge fx 144 d_Mo_byteOf_122 rfl (fun hc => ?_) (fun hc => ?_)
      · have h := h.1 hc
        refine a_aload_n fx 2 d_Mo_byteOf_144 rfl rfl ?_
        refine a_getS fx (T := F_Mo) (j := 21) (hk := hk0) (ht := ht0) (ht2 := by decide) (hc := rfl) (hin := u_in_Mo) (hj := by decide) (hj2 := by decide) (hf := rfl) (n9 := 20) (hfo := rfl) (hT := rfl) (hw := w_1290) (hd := d_Mo_byteOf_145) (kk := ?_)
        refine a_sipush (v := 20000) fx d_Mo_byteOf_148 rfl ?_
        refine a_iload_n fx 3 d_Mo_byteOf_151 rfl rfl ?_
        refine a_imul fx d_Mo_byteOf_152 ?_
        refine a_aload_n fx 2 d_Mo_byteOf_153 rfl rfl ?_
        refine a_getS fx (T := F_Mo) (j := 17) (hk := hk0) (ht := ht0) (ht2 := by decide) (hc := rfl) (hin := u_in_Mo) (hj := by decide) (hj2 := by decide) (hf := rfl) (n9 := 16) (hfo := rfl) (hT := rfl) (hw := w_1286) (hd := d_Mo_byteOf_154) (kk := ?_)
        refine a_iload fx 1 d_Mo_byteOf_157 rfl ?_
        obtain ⟨hin, h⟩ := h
        refine a_iald fx (lo_9_17 hk0 ht0).1 (lo_9_17 hk0 ht0).2 hin d_Mo_byteOf_159 ?_
        refine a_iadd fx d_Mo_byteOf_160 ?_
        refine a_iload_n fx 5 d_Mo_byteOf_161 rfl rfl ?_
        refine a_iadd fx d_Mo_byteOf_162 ?_
        refine a_iload fx 0 d_Mo_byteOf_163 rfl ?_
        refine a_isub fx d_Mo_byteOf_165 ?_
        obtain ⟨hin, h⟩ := h
        refine a_bald fx (lo_9_21 hk0 ht0).1 (lo_9_21 hk0 ht0).2 hin d_Mo_byteOf_166 ?_
        refine a_sipush (v := 255) fx d_Mo_byteOf_167 rfl ?_
        refine a_iand fx d_Mo_byteOf_170 ?_
        exact a_iret fx hlo hr h d_Mo_byteOf_171
      · have h := h.2 hc
        refine a_aload_n fx 2 d_Mo_byteOf_125 rfl rfl ?_
        refine a_getS fx (T := F_Mo) (j := 10) (hk := hk0) (ht := ht0) (ht2 := by decide) (hc := rfl) (hin := u_in_Mo) (hj := by decide) (hj2 := by decide) (hf := rfl) (n9 := 9) (hfo := rfl) (hT := rfl) (hw := w_1279) (hd := d_Mo_byteOf_126) (kk := ?_)
        refine a_bipush (v := 60) fx d_Mo_byteOf_129 rfl ?_
        refine a_iload fx 1 d_Mo_byteOf_131 rfl ?_
        refine a_imul fx d_Mo_byteOf_133 ?_
        refine a_iload_n fx 5 d_Mo_byteOf_134 rfl rfl ?_
        refine a_iadd fx d_Mo_byteOf_135 ?_
        obtain ⟨hin, h⟩ := h
        refine a_bald fx (lo_9_10 hk0 ht0).1 (lo_9_10 hk0 ht0).2 hin d_Mo_byteOf_136 ?_
        refine a_sipush (v := 255) fx d_Mo_byteOf_137 rfl ?_
        refine a_iand fx d_Mo_byteOf_140 ?_
        refine a_goto fx 171 d_Mo_byteOf_141 rfl ?_
        exact a_iret fx hlo hr h d_Mo_byteOf_171
    · have h := h.2 hc
      refine a_iconst (v := 0) fx d_Mo_byteOf_101 rfl ?_
      exact a_iret fx hlo hr h d_Mo_byteOf_102)
  refine a_iload_n fx 1 d_Mo_byteOf_0 rfl rfl ?_
  refine a_if_eq fx 9 d_Mo_byteOf_1 rfl (fun hc => ?_) (fun hc => ?_)
  · have h := h.1 hc
    refine a_iconst (v := 1) fx d_Mo_byteOf_9 rfl ?_
    refine a_goto fx 14 d_Mo_byteOf_10 rfl ?_
    refine a_sub [0, 1, 2, 3] rfl ?_
    exact h
  · have h := h.2 hc
    refine a_iload_n fx 1 d_Mo_byteOf_4 rfl rfl ?_
    refine a_iconst (v := 1) fx d_Mo_byteOf_5 rfl ?_
    refine a_icmp_ne fx 13 d_Mo_byteOf_6 rfl (fun hc => ?_) (fun hc => ?_)
    · have h := h.1 hc
      refine a_iconst (v := 0) fx d_Mo_byteOf_13 rfl ?_
      refine a_sub [0, 1, 2, 3] rfl ?_
      exact h
    · have h := h.2 hc
      refine a_iconst (v := 1) fx d_Mo_byteOf_9 rfl ?_
      refine a_goto fx 14 d_Mo_byteOf_10 rfl ?_
      refine a_sub [0, 1, 2, 3] rfl ?_
      exact h
