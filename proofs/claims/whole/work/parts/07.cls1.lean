/-- MailChain.Tree.insertDraft()I -/
def Wp_Tr_insertDraft (a0 : Nat) (M : zM) (post : Int32 → zM → Prop) : Prop := ∀ K67 : Nat → Int32 → zM → Prop, ∀ K83 : Nat → Int32 → Int32 → zM → Prop, ∀ K113 : Nat → Int32 → Int32 → Int32 → zM → Prop, (∀ (v1 : Nat) (v2 : Int32) (M : zM), v1 < N0 ∧ tg v1 = 2 ∧ ((¬ (M.1 v1 1) = 1 → (K83 v1 v2 0 M)) ∧ ((M.1 v1 1) = 1 → (K83 v1 v2 (M.1 v1 7) M))) → K67 v1 v2 M) → (∀ (v1 : Nat) (v2 : Int32) (w0 : Int32) (M : zM), v1 < N0 ∧ tg v1 = 2 ∧ ((40 ≤ (M.1 a0 2) → (post 4 M)) ∧ (¬ 40 ≤ (M.1 a0 2) → ((((M.1 a0 3) + w0) ≤ 6000 → (∀ x14 : Int32, x14 = (M.1 a0 2) → (K113 v1 v2 w0 x14 M))) ∧ (¬ ((M.1 a0 3) + w0) ≤ 6000 → (post 4 M))))) → K83 v1 v2 w0 M) → (∀ (v1 : Nat) (v2 : Int32) (v3 : Int32) (v4 : Int32) (M : zM), v1 < N0 ∧ tg v1 = 2 ∧ ((v4 ≤ v2 → (vp_in v2 (ln (a0 + 1)) ∧ (∀ M15 : zM, M15 = zR M (a0 + 1) (v2).toNatClampNeg v1 → (∀ M16 : zM, M16 = zI M15 a0 2 ((M15.1 a0 2) + 1) → (∀ M17 : zM, M17 = zI M16 a0 3 ((M16.1 a0 3) + v3) → (post 0 M17)))))) ∧ (¬ v4 ≤ v2 → (vp_in (v4 - 1) (ln (a0 + 1)) ∧ (∀ r18 : Nat, r18 = (M.2.2 (a0 + 1) ((v4 - 1)).toNatClampNeg) → r18 < N0 ∧ tg r18 = 2 ∧ (vp_in v4 (ln (a0 + 1)) ∧ (∀ M19 : zM, M19 = zR M (a0 + 1) (v4).toNatClampNeg r18 → (∀ x20 : Int32, x20 = v4 + (-1) → (K113 v1 v2 v3 x20 M19)))))))) → K113 v1 v2 v3 v4 M) → (Wp_Tr_draft a0 M (fun r2 M1 => r2 < N0 ∧ tg r2 = 2 ∧ (Wp_En_hasSoundPath r2 M1 (fun x4 M3 => ((x4 = 0 → (post 2 M3)) ∧ (¬ x4 = 0 → (Wp_Tr_hasParentOf a0 r2 M3 (fun x6 M5 => ((¬ x6 = 0 → (Wp_Tr_placeOf a0 (r2 + 1) (M5.1 (r2 + 1) 1) M5 (fun x8 M7 => (Wp_Tr_has a0 x8 M7 (fun x10 M9 => ((x10 = 0 → (K67 r2 x8 M9)) ∧ (¬ x10 = 0 → (vp_in x8 (ln (a0 + 1)) ∧ (∀ r11 : Nat, r11 = (M9.2.2 (a0 + 1) (x8).toNatClampNeg) → r11 < N0 ∧ tg r11 = 2 ∧ (Wp_Ro_same (r11 + 1) (r2 + 1) M9 (fun x13 M12 => ((x13 = 0 → (K67 r2 x8 M12)) ∧ (¬ x13 = 0 → (post 3 M12)))))))))))))) ∧ (x6 = 0 → (post 2 M5)))))))))))
/-- MailChain.Tree.enter(LMailChain$Row;II)I -/
def Wp_Tr_enter (a0 : Nat) (a1 : Nat) (i2 : Int32) (i3 : Int32) (M : zM) (post : Int32 → zM → Prop) : Prop := (Wp_Tr_draft a0 M (fun r2 M1 => r2 < N0 ∧ tg r2 = 2 ∧ (Wp_En_hasSoundFields r2 M1 (fun x4 M3 => ((x4 = 0 → (post 2 M3)) ∧ (¬ x4 = 0 → (Wp_Tr_isBody (M3.1 r2 1) a1 i2 i3 M3 (fun x6 M5 => ((¬ x6 = 0 → (∀ M7 : zM, M7 = zI M5 r2 6 (M5.1 (a0 + 125) 1) → (∀ M8 : zM, M8 = zI M7 r2 7 (i3 - i2) → (∀ M9 : zM, M9 = zI M8 r2 8 (M8.1 a0 2) → (Wp_Tr_insertDraft a0 M9 (fun x11 M10 => ((¬ x11 = 0 → (post x11 M10)) ∧ (x11 = 0 → (Wp_Ro_putRange (a0 + 125) a1 i2 i3 M10 (fun M12 => (post x11 M12))))))))))) ∧ (x6 = 0 → (post 2 M5)))))))))))
/-- MailChain.Tree.enterLink(I)I -/
def Wp_Tr_enterLink (a0 : Nat) (i1 : Int32) (M : zM) (post : Int32 → zM → Prop) : Prop := (Wp_Tr_has a0 i1 M (fun x2 M1 => ((¬ x2 = 0 → (vp_in i1 (ln (a0 + 1)) ∧ (∀ r3 : Nat, r3 = (M1.2.2 (a0 + 1) (i1).toNatClampNeg) → r3 < N0 ∧ tg r3 = 2 ∧ (((M1.1 r3 1) = 1 → (Wp_Tr_draft a0 M1 (fun r5 M4 => r5 < N0 ∧ tg r5 = 2 ∧ (vp_in i1 (ln (a0 + 1)) ∧ (∀ r6 : Nat, r6 = (M4.2.2 (a0 + 1) (i1).toNatClampNeg) → r6 < N0 ∧ tg r6 = 2 ∧ (Wp_En_becomeLinkOf r5 r6 M4 (fun M7 => (Wp_Tr_insertDraft a0 M7 (fun x9 M8 => (post x9 M8)))))))))) ∧ (¬ (M1.1 r3 1) = 1 → (post 2 M1)))))) ∧ (x2 = 0 → (post 1 M1)))))
/-- MailChain.Tree.firstLinkOf(I)I -/
def Wp_Tr_firstLinkOf (a0 : Nat) (i1 : Int32) (M : zM) (post : Int32 → zM → Prop) : Prop := ∀ K2 : Int32 → zM → Prop, (∀ (v2 : Int32) (M : zM), ((i1 ≤ v2 → (post v2 M)) ∧ (¬ i1 ≤ v2 → (vp_in v2 (ln (a0 + 1)) ∧ (∀ r1 : Nat, r1 = (M.2.2 (a0 + 1) (v2).toNatClampNeg) → r1 < N0 ∧ tg r1 = 2 ∧ (vp_in i1 (ln (a0 + 1)) ∧ (∀ r2 : Nat, r2 = (M.2.2 (a0 + 1) (i1).toNatClampNeg) → r2 < N0 ∧ tg r2 = 2 ∧ (((M.1 r1 8) = (M.1 r2 8) → (post v2 M)) ∧ (¬ (M.1 r1 8) = (M.1 r2 8) → (∀ x3 : Int32, x3 = v2 + 1 → (K2 x3 M)))))))))) → K2 v2 M) → (K2 0 M)
/-- MailChain.Tree.linksOf(I)I -/
def Wp_Tr_linksOf (a0 : Nat) (i1 : Int32) (M : zM) (post : Int32 → zM → Prop) : Prop := ∀ K4 : Int32 → Int32 → zM → Prop, (∀ (v2 : Int32) (v3 : Int32) (M : zM), (((M.1 a0 2) ≤ v3 → (post v2 M)) ∧ (¬ (M.1 a0 2) ≤ v3 → (vp_in v3 (ln (a0 + 1)) ∧ (∀ r1 : Nat, r1 = (M.2.2 (a0 + 1) (v3).toNatClampNeg) → r1 < N0 ∧ tg r1 = 2 ∧ (vp_in i1 (ln (a0 + 1)) ∧ (∀ r2 : Nat, r2 = (M.2.2 (a0 + 1) (i1).toNatClampNeg) → r2 < N0 ∧ tg r2 = 2 ∧ ((¬ (M.1 r1 8) = (M.1 r2 8) → (∀ x3 : Int32, x3 = v3 + 1 → (K4 v2 x3 M))) ∧ ((M.1 r1 8) = (M.1 r2 8) → (∀ x4 : Int32, x4 = v2 + 1 → (∀ x5 : Int32, x5 = v3 + 1 → (K4 x4 x5 M))))))))))) → K4 v2 v3 M) → (K4 0 0 M)
/-- MailChain.Tree.hasArchive()Z -/
def Wp_Tr_hasArchive (a0 : Nat) (M : zM) (post : Int32 → zM → Prop) : Prop := ∀ K2 : Int32 → zM → Prop, (∀ (v1 : Int32) (M : zM), (((M.1 a0 2) ≤ v1 → (post 1 M)) ∧ (¬ (M.1 a0 2) ≤ v1 → (vp_in v1 (ln (a0 + 1)) ∧ (∀ r1 : Nat, r1 = (M.2.2 (a0 + 1) (v1).toNatClampNeg) → r1 < N0 ∧ tg r1 = 2 ∧ ((262143 < (M.1 r1 3) → (post 0 M)) ∧ (¬ 262143 < (M.1 r1 3) → (((M.1 r1 4) ≤ 262143 → (∀ x2 : Int32, x2 = v1 + 1 → (K2 x2 M))) ∧ (¬ (M.1 r1 4) ≤ 262143 → (post 0 M))))))))) → K2 v1 M) → (K2 0 M)
/-- MailChain.Tree.tell(II)I -/
def Wp_Tr_tell (a0 : Nat) (i1 : Int32) (i2 : Int32) (M : zM) (post : Int32 → zM → Prop) : Prop := (vp_in i2 (ln (a0 + 1)) ∧ (∀ r1 : Nat, r1 = (M.2.2 (a0 + 1) (i2).toNatClampNeg) → r1 < N0 ∧ tg r1 = 2 ∧ ((i1 = 1 → (post (M.1 r1 1) M)) ∧ (i1 = 2 → (post (M.1 r1 2) M)) ∧ (i1 = 3 → (post (M.1 r1 3) M)) ∧ (i1 = 4 → (post (M.1 r1 4) M)) ∧ (i1 = 5 → (post (M.1 r1 5) M)) ∧ (i1 = 6 → (post (M.1 (r1 + 1) 1) M)) ∧ (i1 = 7 → (post (M.1 r1 7) M)) ∧ (i1 = 8 → (Wp_Tr_firstLinkOf a0 i2 M (fun x3 M2 => (post x3 M2)))) ∧ (¬ i1 = 1 → ¬ i1 = 2 → ¬ i1 = 3 → ¬ i1 = 4 → ¬ i1 = 5 → ¬ i1 = 6 → ¬ i1 = 7 → ¬ i1 = 8 → (Wp_Tr_linksOf a0 i2 M (fun x5 M4 => (post x5 M4)))))))
/-- MailChain.Tree.hasByte(II)Z -/
def Wp_Tr_hasByte (a0 : Nat) (i1 : Int32) (i2 : Int32) (M : zM) (post : Int32 → zM → Prop) : Prop := ((i2 < 0 → (post 0 M)) ∧ (¬ i2 < 0 → (vp_in i1 (ln (a0 + 1)) ∧ (∀ r1 : Nat, r1 = (M.2.2 (a0 + 1) (i1).toNatClampNeg) → r1 < N0 ∧ tg r1 = 2 ∧ (vp_in i1 (ln (a0 + 1)) ∧ (∀ r2 : Nat, r2 = (M.2.2 (a0 + 1) (i1).toNatClampNeg) → r2 < N0 ∧ tg r2 = 2 ∧ ((((M.1 (r1 + 1) 1) + (M.1 r2 7)) ≤ i2 → (post 0 M)) ∧ (¬ ((M.1 (r1 + 1) 1) + (M.1 r2 7)) ≤ i2 → (post 1 M)))))))))
/-- MailChain.Tree.byteAt(II)I -/
def Wp_Tr_byteAt (a0 : Nat) (i1 : Int32) (i2 : Int32) (M : zM) (post : Int32 → zM → Prop) : Prop := (vp_in i1 (ln (a0 + 1)) ∧ (∀ r1 : Nat, r1 = (M.2.2 (a0 + 1) (i1).toNatClampNeg) → r1 < N0 ∧ tg r1 = 2 ∧ (∀ x2 : Int32, x2 = (i2 - (M.1 (r1 + 1) 1)) → ((0 ≤ x2 → (Wp_Ro_at (a0 + 125) ((M.1 r1 6) + x2) M (fun x4 M3 => (post x4 M3)))) ∧ (¬ 0 ≤ x2 → (Wp_Ro_at (r1 + 1) i2 M (fun x6 M5 => (post x6 M5))))))))
/-- MailChain.Mail.pieceEnd(I)I -/
def Wp_Ma_pieceEnd (a0 : Nat) (i1 : Int32) (M : zM) (post : Int32 → zM → Prop) : Prop := (post (if (M.1 (a0 + 3) 1) < (i1 * (M.1 a0 3)) then (M.1 (a0 + 3) 1) else (i1 * (M.1 a0 3))) M)
/-- MailChain.Mail.keep(LMailChain$Row;LMailChain$Row;I)V -/
def Wp_Ma_keep (a0 : Nat) (a1 : Nat) (a2 : Nat) (i3 : Int32) (M : zM) (post : zM → Prop) : Prop := ∀ K39 : Int32 → zM → Prop, (∀ (v4 : Int32) (M : zM), (((M.1 (a0 + 3) 1) ≤ v4 → (post M)) ∧ (¬ (M.1 (a0 + 3) 1) ≤ v4 → ((999 ≤ (M.1 a0 2) → (post M)) ∧ (¬ 999 ≤ (M.1 a0 2) → (∀ M5 : zM, M5 = zI M a0 2 ((M.1 a0 2) + 1) → (Wp_Ma_pieceEnd a0 (M5.1 a0 2) M5 (fun x7 M6 => (Wp_Ro_sum (a0 + 3) v4 x7 M6 (fun x9 M8 => (vp_in ((M5.1 a0 2) - 1) (ln (a0 + 5)) ∧ (∀ M10 : zM, M10 = zI M8 (a0 + 5) (((M5.1 a0 2) - 1)).toNatClampNeg x9 → (∀ x11 : Int32, x11 = (v4 + i3) → (K39 x11 M10))))))))))))) → K39 v4 M) → (Wp_Ro_copy (a0 + 1) a1 0 (M.1 a1 1) M (fun M1 => (Wp_Ro_copy (a0 + 3) a2 0 (M1.1 a2 1) M1 (fun M2 => (∀ M3 : zM, M3 = zI M2 a0 3 i3 → (∀ M4 : zM, M4 = zI M3 a0 2 0 → (K39 0 M4)))))))
/-- MailChain.Mail.has(I)Z -/
def Wp_Ma_has (a0 : Nat) (i1 : Int32) (M : zM) (post : Int32 → zM → Prop) : Prop := ((i1 < 1 → (post 0 M)) ∧ (¬ i1 < 1 → (((M.1 a0 2) < i1 → (post 0 M)) ∧ (¬ (M.1 a0 2) < i1 → (post 1 M)))))
/-- MailChain.Mail.write(ILMailChain$Row;)V -/
def Wp_Ma_write (a0 : Nat) (i1 : Int32) (a2 : Nat) (M : zM) (post : zM → Prop) : Prop := (Wp_Ro_wipe a2 M (fun M1 => (Wp_Ma_has a0 i1 M1 (fun x3 M2 => ((¬ x3 = 0 → (∀ x4 : Int32, x4 = ((i1 - 1) * (M2.1 a0 3)) → (Wp_Ma_pieceEnd a0 i1 M2 (fun x6 M5 => (Wp_Ro_putText a2 0 M5 (fun M7 => (Wp_Ro_putDecimal a2 ((i1).toInt64) M7 (fun M8 => (Wp_Ro_putText a2 1 M8 (fun M9 => (Wp_Ro_putDecimal a2 (((M9.1 a0 2)).toInt64) M9 (fun M10 => (Wp_Ro_putText a2 2 M10 (fun M11 => (Wp_Ro_putDecimal a2 (((x6 - x4)).toInt64) M11 (fun M12 => (Wp_Ro_putText a2 3 M12 (fun M13 => (vp_in (i1 - 1) (ln (a0 + 5)) ∧ (Wp_Ro_putDecimal a2 ((((M13.1 (a0 + 5) ((i1 - 1)).toNatClampNeg)).toInt64) &&& 4294967295) M13 (fun M14 => (Wp_Ro_put a2 10 M14 (fun M15 => (Wp_Ro_putRange a2 (a0 + 3) x4 x6 M15 (fun M16 => (post M16)))))))))))))))))))))))))) ∧ (x3 = 0 → (post M2)))))))
/-- MailChain.PartLine.isDigit(I)Z -/
def Wp_Pl_isDigit (i0 : Int32) (M : zM) (post : Int32 → zM → Prop) : Prop := ((i0 < 48 → (post 0 M)) ∧ (¬ i0 < 48 → ((57 < i0 → (post 0 M)) ∧ (¬ 57 < i0 → (post 1 M)))))
/-- MailChain.PartLine.number(LMailChain$Row;Ljava/lang/String;J)J -/
def Wp_Pl_number (a0 : Nat) (a1 : Nat) (s2 : Nat) (l3 : Int64) (M : zM) (post : Int64 → zM → Prop) : Prop := ∀ K38 : Int32 → Int64 → zM → Prop, ∀ K99 : Int32 → Int64 → zM → Prop, ∀ K126 : Int32 → Int64 → Int32 → zM → Prop, (∀ (v5 : Int32) (v6 : Int64) (M : zM), (((v5 + 10) ≤ (M.1 a0 4) → (K99 v5 v6 M)) ∧ (¬ (v5 + 10) ≤ (M.1 a0 4) → (Wp_Ro_at a1 (M.1 a0 4) M (fun x8 M7 => (Wp_Pl_isDigit x8 M7 (fun x10 M9 => ((x10 = 0 → (K99 v5 v6 M9)) ∧ (¬ x10 = 0 → (Wp_Ro_at a1 (M9.1 a0 4) M9 (fun x12 M11 => (∀ y13 : Int64, y13 = (((10 * v6) + ((x12).toInt64)) - 48) → (∀ M14 : zM, M14 = zI M11 a0 4 ((M11.1 a0 4) + 1) → (K38 v5 y13 M14))))))))))))) → K38 v5 v6 M) → (∀ (v5 : Int32) (v6 : Int64) (M : zM), (((M.1 a0 4) ≤ (v5 + 1) → (K126 v5 v6 0 M)) ∧ (¬ (M.1 a0 4) ≤ (v5 + 1) → (Wp_Ro_at a1 v5 M (fun x16 M15 => ((¬ x16 = 48 → (K126 v5 v6 0 M15)) ∧ (x16 = 48 → (K126 v5 v6 1 M15))))))) → K99 v5 v6 M) → (∀ (v5 : Int32) (v6 : Int64) (w0 : Int32) (M : zM), (((M.1 a0 4) = v5 → (post (-1) M)) ∧ (¬ (M.1 a0 4) = v5 → ((¬ w0 = 0 → (post (-1) M)) ∧ (w0 = 0 → (((lg_cmp v6 l3) ≤ 0 → (post v6 M)) ∧ (¬ (lg_cmp v6 l3) ≤ 0 → (post (-1) M))))))) → K126 v5 v6 w0 M) → (Wp_Ro_hasText a1 s2 (M.1 a0 4) M (fun x2 M1 => ((¬ x2 = 0 → (Wp_JString_length s2 M1 (fun x4 M3 => (∀ M5 : zM, M5 = zI M3 a0 4 ((M1.1 a0 4) + x4) → (∀ x6 : Int32, x6 = (M5.1 a0 4) → (K38 x6 0 M5)))))) ∧ (x2 = 0 → (post (-1) M1)))))
/-- MailChain.PartLine.read(LMailChain$Row;)Z -/
def Wp_Pl_read (a0 : Nat) (a1 : Nat) (M : zM) (post : Int32 → zM → Prop) : Prop := ∀ K82 : Int32 → zM → Prop, (∀ (w0 : Int32) (M : zM), (∀ M16 : zM, M16 = zI M a0 4 ((M.1 a0 4) + 1) → ((w0 = 0 → (post 0 M16)) ∧ (¬ w0 = 0 → (((M16.1 a0 0) < 1 → (post 0 M16)) ∧ (¬ (M16.1 a0 0) < 1 → (((M16.1 a0 1) < (M16.1 a0 0) → (post 0 M16)) ∧ (¬ (M16.1 a0 1) < (M16.1 a0 0) → (((M16.1 a0 2) = (-1) → (post 0 M16)) ∧ (¬ (M16.1 a0 2) = (-1) → (((lg_cmp (M16.2.1 a0 3) (-1)) = 0 → (post 0 M16)) ∧ (¬ (lg_cmp (M16.2.1 a0 3) (-1)) = 0 → (post 1 M16)))))))))))) → K82 w0 M) → (∀ M1 : zM, M1 = zI M a0 4 0 → (Wp_Pl_number a0 a1 0 999 M1 (fun y3 M2 => (∀ M4 : zM, M4 = zI M2 a0 0 ((y3).toInt32) → (Wp_Pl_number a0 a1 1 999 M4 (fun y6 M5 => (∀ M7 : zM, M7 = zI M5 a0 1 ((y6).toInt32) → (Wp_Pl_number a0 a1 2 48000 M7 (fun y9 M8 => (∀ M10 : zM, M10 = zI M8 a0 2 ((y9).toInt32) → (Wp_Pl_number a0 a1 3 4294967295 M10 (fun y12 M11 => (∀ M13 : zM, M13 = zL M11 a0 3 y12 → (Wp_Ro_at a1 (M13.1 a0 4) M13 (fun x15 M14 => ((¬ x15 = 10 → (K82 0 M14)) ∧ (x15 = 10 → (K82 1 M14))))))))))))))))))
/-- MailChain.Box.wipe()V -/
def Wp_Bo_wipe (a0 : Nat) (M : zM) (post : zM → Prop) : Prop := (Wp_Ro_wipe (a0 + 1) M (fun M1 => (Wp_JArrays_fill (a0 + 4) (-1) M1 (fun M2 => (∀ M3 : zM, M3 = zI M2 a0 4 0 → (∀ M4 : zM, M4 = zI M3 a0 5 0 → (∀ M5 : zM, M5 = zI M4 a0 6 0 → (post M5))))))))
/-- MailChain.Box.keep(IILMailChain$Row;I)V -/
def Wp_Bo_keep (a0 : Nat) (i1 : Int32) (i2 : Int32) (a3 : Nat) (i4 : Int32) (M : zM) (post : zM → Prop) : Prop := (∀ M1 : zM, M1 = zI M a0 4 i2 → (vp_in i1 (ln (a0 + 3)) ∧ (∀ M2 : zM, M2 = zI M1 (a0 + 3) (i1).toNatClampNeg (M1.1 (a0 + 1) 1) → (vp_in i1 (ln (a0 + 4)) ∧ (∀ M3 : zM, M3 = zI M2 (a0 + 4) (i1).toNatClampNeg ((M2.1 a3 1) - i4) → (Wp_Ro_putRange (a0 + 1) a3 i4 (M3.1 a3 1) M3 (fun M4 => (vp_in i1 (ln (a0 + 4)) ∧ (∀ M5 : zM, M5 = zI M4 a0 5 ((M4.1 a0 5) + (M4.1 (a0 + 4) (i1).toNatClampNeg)) → (∀ M6 : zM, M6 = zI M5 a0 6 ((M5.1 a0 6) + 1) → (post M6)))))))))))
theorem d_Tr_insertDraft_0 : decode b_Tr_insertDraft 0 = .ok (.aload_n 0, 1) := by decide +kernel
theorem d_Tr_insertDraft_1 : decode b_Tr_insertDraft 1 = .ok (.invokevirtual 37, 3) := by decide +kernel
theorem d_Tr_insertDraft_4 : decode b_Tr_insertDraft 4 = .ok (.astore_n 1, 1) := by decide +kernel
theorem d_Tr_insertDraft_5 : decode b_Tr_insertDraft 5 = .ok (.aload_n 1, 1) := by decide +kernel
theorem d_Tr_insertDraft_6 : decode b_Tr_insertDraft 6 = .ok (.invokevirtual 86, 3) := by decide +kernel
theorem d_Tr_insertDraft_9 : decode b_Tr_insertDraft 9 = .ok (.ifCond .eq 11, 3) := by decide +kernel
theorem d_Tr_insertDraft_12 : decode b_Tr_insertDraft 12 = .ok (.aload_n 0, 1) := by decide +kernel
theorem d_Tr_insertDraft_13 : decode b_Tr_insertDraft 13 = .ok (.aload_n 1, 1) := by decide +kernel
theorem d_Tr_insertDraft_14 : decode b_Tr_insertDraft 14 = .ok (.invokevirtual 89, 3) := by decide +kernel
theorem d_Tr_insertDraft_17 : decode b_Tr_insertDraft 17 = .ok (.ifCond .ne 5, 3) := by decide +kernel
theorem d_Tr_insertDraft_20 : decode b_Tr_insertDraft 20 = .ok (.iconst 2, 1) := by decide +kernel
theorem d_Tr_insertDraft_21 : decode b_Tr_insertDraft 21 = .ok (.ireturn, 1) := by decide +kernel
theorem d_Tr_insertDraft_22 : decode b_Tr_insertDraft 22 = .ok (.aload_n 0, 1) := by decide +kernel
theorem d_Tr_insertDraft_23 : decode b_Tr_insertDraft 23 = .ok (.aload_n 1, 1) := by decide +kernel
theorem d_Tr_insertDraft_24 : decode b_Tr_insertDraft 24 = .ok (.getfield 93, 3) := by decide +kernel
theorem d_Tr_insertDraft_27 : decode b_Tr_insertDraft 27 = .ok (.aload_n 1, 1) := by decide +kernel
theorem d_Tr_insertDraft_28 : decode b_Tr_insertDraft 28 = .ok (.getfield 93, 3) := by decide +kernel
theorem d_Tr_insertDraft_31 : decode b_Tr_insertDraft 31 = .ok (.getfield 52, 3) := by decide +kernel
theorem d_Tr_insertDraft_34 : decode b_Tr_insertDraft 34 = .ok (.invokevirtual 96, 3) := by decide +kernel
theorem d_Tr_insertDraft_37 : decode b_Tr_insertDraft 37 = .ok (.istore_n 2, 1) := by decide +kernel
theorem d_Tr_insertDraft_38 : decode b_Tr_insertDraft 38 = .ok (.aload_n 0, 1) := by decide +kernel
theorem d_Tr_insertDraft_39 : decode b_Tr_insertDraft 39 = .ok (.iload_n 2, 1) := by decide +kernel
theorem d_Tr_insertDraft_40 : decode b_Tr_insertDraft 40 = .ok (.invokevirtual 70, 3) := by decide +kernel
theorem d_Tr_insertDraft_43 : decode b_Tr_insertDraft 43 = .ok (.ifCond .eq 24, 3) := by decide +kernel
theorem d_Tr_insertDraft_46 : decode b_Tr_insertDraft 46 = .ok (.aload_n 0, 1) := by decide +kernel
theorem d_Tr_insertDraft_47 : decode b_Tr_insertDraft 47 = .ok (.getfield 11, 3) := by decide +kernel
theorem d_Tr_insertDraft_50 : decode b_Tr_insertDraft 50 = .ok (.iload_n 2, 1) := by decide +kernel
theorem d_Tr_insertDraft_51 : decode b_Tr_insertDraft 51 = .ok (.aaload, 1) := by decide +kernel
theorem d_Tr_insertDraft_52 : decode b_Tr_insertDraft 52 = .ok (.getfield 93, 3) := by decide +kernel
theorem d_Tr_insertDraft_55 : decode b_Tr_insertDraft 55 = .ok (.aload_n 1, 1) := by decide +kernel
theorem d_Tr_insertDraft_56 : decode b_Tr_insertDraft 56 = .ok (.getfield 93, 3) := by decide +kernel
theorem d_Tr_insertDraft_59 : decode b_Tr_insertDraft 59 = .ok (.invokevirtual 100, 3) := by decide +kernel
theorem d_Tr_insertDraft_62 : decode b_Tr_insertDraft 62 = .ok (.ifCond .eq 5, 3) := by decide +kernel
theorem d_Tr_insertDraft_65 : decode b_Tr_insertDraft 65 = .ok (.iconst 3, 1) := by decide +kernel
theorem d_Tr_insertDraft_66 : decode b_Tr_insertDraft 66 = .ok (.ireturn, 1) := by decide +kernel
theorem d_Tr_insertDraft_67 : decode b_Tr_insertDraft 67 = .ok (.aload_n 1, 1) := by decide +kernel
theorem d_Tr_insertDraft_68 : decode b_Tr_insertDraft 68 = .ok (.getfield 45, 3) := by decide +kernel
theorem d_Tr_insertDraft_71 : decode b_Tr_insertDraft 71 = .ok (.iconst 1, 1) := by decide +kernel
theorem d_Tr_insertDraft_72 : decode b_Tr_insertDraft 72 = .ok (.if_icmp .ne 10, 3) := by decide +kernel
theorem d_Tr_insertDraft_75 : decode b_Tr_insertDraft 75 = .ok (.aload_n 1, 1) := by decide +kernel
theorem d_Tr_insertDraft_76 : decode b_Tr_insertDraft 76 = .ok (.getfield 58, 3) := by decide +kernel
theorem d_Tr_insertDraft_79 : decode b_Tr_insertDraft 79 = .ok (.goto 4, 3) := by decide +kernel
theorem d_Tr_insertDraft_82 : decode b_Tr_insertDraft 82 = .ok (.iconst 0, 1) := by decide +kernel
theorem d_Tr_insertDraft_83 : decode b_Tr_insertDraft 83 = .ok (.istore_n 3, 1) := by decide +kernel
theorem d_Tr_insertDraft_84 : decode b_Tr_insertDraft 84 = .ok (.aload_n 0, 1) := by decide +kernel
theorem d_Tr_insertDraft_85 : decode b_Tr_insertDraft 85 = .ok (.getfield 27, 3) := by decide +kernel
theorem d_Tr_insertDraft_88 : decode b_Tr_insertDraft 88 = .ok (.bipush 40, 2) := by decide +kernel
theorem d_Tr_insertDraft_90 : decode b_Tr_insertDraft 90 = .ok (.if_icmp .ge 15, 3) := by decide +kernel
theorem d_Tr_insertDraft_93 : decode b_Tr_insertDraft 93 = .ok (.aload_n 0, 1) := by decide +kernel
theorem d_Tr_insertDraft_94 : decode b_Tr_insertDraft 94 = .ok (.getfield 31, 3) := by decide +kernel
theorem d_Tr_insertDraft_97 : decode b_Tr_insertDraft 97 = .ok (.iload_n 3, 1) := by decide +kernel
theorem d_Tr_insertDraft_98 : decode b_Tr_insertDraft 98 = .ok (.iadd, 1) := by decide +kernel
theorem d_Tr_insertDraft_99 : decode b_Tr_insertDraft 99 = .ok (.sipush 6000, 3) := by decide +kernel
theorem d_Tr_insertDraft_102 : decode b_Tr_insertDraft 102 = .ok (.if_icmp .le 5, 3) := by decide +kernel
theorem d_Tr_insertDraft_105 : decode b_Tr_insertDraft 105 = .ok (.iconst 4, 1) := by decide +kernel
theorem d_Tr_insertDraft_106 : decode b_Tr_insertDraft 106 = .ok (.ireturn, 1) := by decide +kernel
theorem d_Tr_insertDraft_107 : decode b_Tr_insertDraft 107 = .ok (.aload_n 0, 1) := by decide +kernel
theorem d_Tr_insertDraft_108 : decode b_Tr_insertDraft 108 = .ok (.getfield 27, 3) := by decide +kernel
theorem d_Tr_insertDraft_111 : decode b_Tr_insertDraft 111 = .ok (.istore 4, 2) := by decide +kernel
theorem d_Tr_insertDraft_113 : decode b_Tr_insertDraft 113 = .ok (.iload 4, 2) := by decide +kernel
theorem d_Tr_insertDraft_115 : decode b_Tr_insertDraft 115 = .ok (.iload_n 2, 1) := by decide +kernel
theorem d_Tr_insertDraft_116 : decode b_Tr_insertDraft 116 = .ok (.if_icmp .le 25, 3) := by decide +kernel
theorem d_Tr_insertDraft_119 : decode b_Tr_insertDraft 119 = .ok (.aload_n 0, 1) := by decide +kernel
theorem d_Tr_insertDraft_120 : decode b_Tr_insertDraft 120 = .ok (.getfield 11, 3) := by decide +kernel
theorem d_Tr_insertDraft_123 : decode b_Tr_insertDraft 123 = .ok (.iload 4, 2) := by decide +kernel
theorem d_Tr_insertDraft_125 : decode b_Tr_insertDraft 125 = .ok (.aload_n 0, 1) := by decide +kernel
theorem d_Tr_insertDraft_126 : decode b_Tr_insertDraft 126 = .ok (.getfield 11, 3) := by decide +kernel
theorem d_Tr_insertDraft_129 : decode b_Tr_insertDraft 129 = .ok (.iload 4, 2) := by decide +kernel
theorem d_Tr_insertDraft_131 : decode b_Tr_insertDraft 131 = .ok (.iconst 1, 1) := by decide +kernel
theorem d_Tr_insertDraft_132 : decode b_Tr_insertDraft 132 = .ok (.isub, 1) := by decide +kernel
theorem d_Tr_insertDraft_133 : decode b_Tr_insertDraft 133 = .ok (.aaload, 1) := by decide +kernel
theorem d_Tr_insertDraft_134 : decode b_Tr_insertDraft 134 = .ok (.aastore, 1) := by decide +kernel
theorem d_Tr_insertDraft_135 : decode b_Tr_insertDraft 135 = .ok (.iinc 4 (-1), 3) := by decide +kernel
theorem d_Tr_insertDraft_138 : decode b_Tr_insertDraft 138 = .ok (.goto (-25), 3) := by decide +kernel
theorem d_Tr_insertDraft_141 : decode b_Tr_insertDraft 141 = .ok (.aload_n 0, 1) := by decide +kernel
theorem d_Tr_insertDraft_142 : decode b_Tr_insertDraft 142 = .ok (.getfield 11, 3) := by decide +kernel
theorem d_Tr_insertDraft_145 : decode b_Tr_insertDraft 145 = .ok (.iload_n 2, 1) := by decide +kernel
theorem d_Tr_insertDraft_146 : decode b_Tr_insertDraft 146 = .ok (.aload_n 1, 1) := by decide +kernel
theorem d_Tr_insertDraft_147 : decode b_Tr_insertDraft 147 = .ok (.aastore, 1) := by decide +kernel
theorem d_Tr_insertDraft_148 : decode b_Tr_insertDraft 148 = .ok (.aload_n 0, 1) := by decide +kernel
theorem d_Tr_insertDraft_149 : decode b_Tr_insertDraft 149 = .ok (.dup, 1) := by decide +kernel
theorem d_Tr_insertDraft_150 : decode b_Tr_insertDraft 150 = .ok (.getfield 27, 3) := by decide +kernel
theorem d_Tr_insertDraft_153 : decode b_Tr_insertDraft 153 = .ok (.iconst 1, 1) := by decide +kernel
theorem d_Tr_insertDraft_154 : decode b_Tr_insertDraft 154 = .ok (.iadd, 1) := by decide +kernel
theorem d_Tr_insertDraft_155 : decode b_Tr_insertDraft 155 = .ok (.putfield 27, 3) := by decide +kernel
theorem d_Tr_insertDraft_158 : decode b_Tr_insertDraft 158 = .ok (.aload_n 0, 1) := by decide +kernel
theorem d_Tr_insertDraft_159 : decode b_Tr_insertDraft 159 = .ok (.dup, 1) := by decide +kernel
theorem d_Tr_insertDraft_160 : decode b_Tr_insertDraft 160 = .ok (.getfield 31, 3) := by decide +kernel
theorem d_Tr_insertDraft_163 : decode b_Tr_insertDraft 163 = .ok (.iload_n 3, 1) := by decide +kernel
theorem d_Tr_insertDraft_164 : decode b_Tr_insertDraft 164 = .ok (.iadd, 1) := by decide +kernel
theorem d_Tr_insertDraft_165 : decode b_Tr_insertDraft 165 = .ok (.putfield 31, 3) := by decide +kernel
theorem d_Tr_insertDraft_168 : decode b_Tr_insertDraft 168 = .ok (.iconst 0, 1) := by decide +kernel
theorem d_Tr_insertDraft_169 : decode b_Tr_insertDraft 169 = .ok (.ireturn, 1) := by decide +kernel
theorem d_Tr_enter_0 : decode b_Tr_enter 0 = .ok (.aload_n 0, 1) := by decide +kernel
theorem d_Tr_enter_1 : decode b_Tr_enter 1 = .ok (.invokevirtual 37, 3) := by decide +kernel
theorem d_Tr_enter_4 : decode b_Tr_enter 4 = .ok (.astore 4, 2) := by decide +kernel
theorem d_Tr_enter_6 : decode b_Tr_enter 6 = .ok (.aload 4, 2) := by decide +kernel
theorem d_Tr_enter_8 : decode b_Tr_enter 8 = .ok (.invokevirtual 41, 3) := by decide +kernel
theorem d_Tr_enter_11 : decode b_Tr_enter 11 = .ok (.ifCond .eq 17, 3) := by decide +kernel
theorem d_Tr_enter_14 : decode b_Tr_enter 14 = .ok (.aload 4, 2) := by decide +kernel
theorem d_Tr_enter_16 : decode b_Tr_enter 16 = .ok (.getfield 45, 3) := by decide +kernel
theorem d_Tr_enter_19 : decode b_Tr_enter 19 = .ok (.aload_n 1, 1) := by decide +kernel
theorem d_Tr_enter_20 : decode b_Tr_enter 20 = .ok (.iload_n 2, 1) := by decide +kernel
theorem d_Tr_enter_21 : decode b_Tr_enter 21 = .ok (.iload_n 3, 1) := by decide +kernel
theorem d_Tr_enter_22 : decode b_Tr_enter 22 = .ok (.invokestatic 48, 3) := by decide +kernel
theorem d_Tr_enter_25 : decode b_Tr_enter 25 = .ok (.ifCond .ne 5, 3) := by decide +kernel
theorem d_Tr_enter_28 : decode b_Tr_enter 28 = .ok (.iconst 2, 1) := by decide +kernel
theorem d_Tr_enter_29 : decode b_Tr_enter 29 = .ok (.ireturn, 1) := by decide +kernel
theorem d_Tr_enter_30 : decode b_Tr_enter 30 = .ok (.aload 4, 2) := by decide +kernel
theorem d_Tr_enter_32 : decode b_Tr_enter 32 = .ok (.aload_n 0, 1) := by decide +kernel
theorem d_Tr_enter_33 : decode b_Tr_enter 33 = .ok (.getfield 23, 3) := by decide +kernel
theorem d_Tr_enter_36 : decode b_Tr_enter 36 = .ok (.getfield 52, 3) := by decide +kernel
theorem d_Tr_enter_39 : decode b_Tr_enter 39 = .ok (.putfield 55, 3) := by decide +kernel
theorem d_Tr_enter_42 : decode b_Tr_enter 42 = .ok (.aload 4, 2) := by decide +kernel
theorem d_Tr_enter_44 : decode b_Tr_enter 44 = .ok (.iload_n 3, 1) := by decide +kernel
theorem d_Tr_enter_45 : decode b_Tr_enter 45 = .ok (.iload_n 2, 1) := by decide +kernel
theorem d_Tr_enter_46 : decode b_Tr_enter 46 = .ok (.isub, 1) := by decide +kernel
theorem d_Tr_enter_47 : decode b_Tr_enter 47 = .ok (.putfield 58, 3) := by decide +kernel
theorem d_Tr_enter_50 : decode b_Tr_enter 50 = .ok (.aload 4, 2) := by decide +kernel
theorem d_Tr_enter_52 : decode b_Tr_enter 52 = .ok (.aload_n 0, 1) := by decide +kernel
theorem d_Tr_enter_53 : decode b_Tr_enter 53 = .ok (.getfield 27, 3) := by decide +kernel
theorem d_Tr_enter_56 : decode b_Tr_enter 56 = .ok (.putfield 59, 3) := by decide +kernel
theorem d_Tr_enter_59 : decode b_Tr_enter 59 = .ok (.aload_n 0, 1) := by decide +kernel
theorem d_Tr_enter_60 : decode b_Tr_enter 60 = .ok (.invokevirtual 62, 3) := by decide +kernel
theorem d_Tr_enter_63 : decode b_Tr_enter 63 = .ok (.istore 5, 2) := by decide +kernel
theorem d_Tr_enter_65 : decode b_Tr_enter 65 = .ok (.iload 5, 2) := by decide +kernel
theorem d_Tr_enter_67 : decode b_Tr_enter 67 = .ok (.ifCond .ne 13, 3) := by decide +kernel
theorem d_Tr_enter_70 : decode b_Tr_enter 70 = .ok (.aload_n 0, 1) := by decide +kernel
theorem d_Tr_enter_71 : decode b_Tr_enter 71 = .ok (.getfield 23, 3) := by decide +kernel
theorem d_Tr_enter_74 : decode b_Tr_enter 74 = .ok (.aload_n 1, 1) := by decide +kernel
theorem d_Tr_enter_75 : decode b_Tr_enter 75 = .ok (.iload_n 2, 1) := by decide +kernel
theorem d_Tr_enter_76 : decode b_Tr_enter 76 = .ok (.iload_n 3, 1) := by decide +kernel
theorem d_Tr_enter_77 : decode b_Tr_enter 77 = .ok (.invokevirtual 66, 3) := by decide +kernel
theorem d_Tr_enter_80 : decode b_Tr_enter 80 = .ok (.iload 5, 2) := by decide +kernel
theorem d_Tr_enter_82 : decode b_Tr_enter 82 = .ok (.ireturn, 1) := by decide +kernel
theorem d_Tr_enterLink_0 : decode b_Tr_enterLink 0 = .ok (.aload_n 0, 1) := by decide +kernel
theorem d_Tr_enterLink_1 : decode b_Tr_enterLink 1 = .ok (.iload_n 1, 1) := by decide +kernel
theorem d_Tr_enterLink_2 : decode b_Tr_enterLink 2 = .ok (.invokevirtual 70, 3) := by decide +kernel
theorem d_Tr_enterLink_5 : decode b_Tr_enterLink 5 = .ok (.ifCond .ne 5, 3) := by decide +kernel
theorem d_Tr_enterLink_8 : decode b_Tr_enterLink 8 = .ok (.iconst 1, 1) := by decide +kernel
theorem d_Tr_enterLink_9 : decode b_Tr_enterLink 9 = .ok (.ireturn, 1) := by decide +kernel
theorem d_Tr_enterLink_10 : decode b_Tr_enterLink 10 = .ok (.aload_n 0, 1) := by decide +kernel
theorem d_Tr_enterLink_11 : decode b_Tr_enterLink 11 = .ok (.getfield 11, 3) := by decide +kernel
theorem d_Tr_enterLink_14 : decode b_Tr_enterLink 14 = .ok (.iload_n 1, 1) := by decide +kernel
theorem d_Tr_enterLink_15 : decode b_Tr_enterLink 15 = .ok (.aaload, 1) := by decide +kernel
theorem d_Tr_enterLink_16 : decode b_Tr_enterLink 16 = .ok (.getfield 45, 3) := by decide +kernel
theorem d_Tr_enterLink_19 : decode b_Tr_enterLink 19 = .ok (.iconst 1, 1) := by decide +kernel
theorem d_Tr_enterLink_20 : decode b_Tr_enterLink 20 = .ok (.if_icmp .eq 5, 3) := by decide +kernel
theorem d_Tr_enterLink_23 : decode b_Tr_enterLink 23 = .ok (.iconst 2, 1) := by decide +kernel
theorem d_Tr_enterLink_24 : decode b_Tr_enterLink 24 = .ok (.ireturn, 1) := by decide +kernel
theorem d_Tr_enterLink_25 : decode b_Tr_enterLink 25 = .ok (.aload_n 0, 1) := by decide +kernel
theorem d_Tr_enterLink_26 : decode b_Tr_enterLink 26 = .ok (.invokevirtual 37, 3) := by decide +kernel
theorem d_Tr_enterLink_29 : decode b_Tr_enterLink 29 = .ok (.aload_n 0, 1) := by decide +kernel
theorem d_Tr_enterLink_30 : decode b_Tr_enterLink 30 = .ok (.getfield 11, 3) := by decide +kernel
theorem d_Tr_enterLink_33 : decode b_Tr_enterLink 33 = .ok (.iload_n 1, 1) := by decide +kernel
theorem d_Tr_enterLink_34 : decode b_Tr_enterLink 34 = .ok (.aaload, 1) := by decide +kernel
theorem d_Tr_enterLink_35 : decode b_Tr_enterLink 35 = .ok (.invokevirtual 74, 3) := by decide +kernel
theorem d_Tr_enterLink_38 : decode b_Tr_enterLink 38 = .ok (.aload_n 0, 1) := by decide +kernel
theorem d_Tr_enterLink_39 : decode b_Tr_enterLink 39 = .ok (.invokevirtual 62, 3) := by decide +kernel
theorem d_Tr_enterLink_42 : decode b_Tr_enterLink 42 = .ok (.ireturn, 1) := by decide +kernel
theorem d_Tr_firstLinkOf_0 : decode b_Tr_firstLinkOf 0 = .ok (.iconst 0, 1) := by decide +kernel
theorem d_Tr_firstLinkOf_1 : decode b_Tr_firstLinkOf 1 = .ok (.istore_n 2, 1) := by decide +kernel
theorem d_Tr_firstLinkOf_2 : decode b_Tr_firstLinkOf 2 = .ok (.iload_n 2, 1) := by decide +kernel
theorem d_Tr_firstLinkOf_3 : decode b_Tr_firstLinkOf 3 = .ok (.iload_n 1, 1) := by decide +kernel
theorem d_Tr_firstLinkOf_4 : decode b_Tr_firstLinkOf 4 = .ok (.if_icmp .ge 30, 3) := by decide +kernel
theorem d_Tr_firstLinkOf_7 : decode b_Tr_firstLinkOf 7 = .ok (.aload_n 0, 1) := by decide +kernel
theorem d_Tr_firstLinkOf_8 : decode b_Tr_firstLinkOf 8 = .ok (.getfield 11, 3) := by decide +kernel
theorem d_Tr_firstLinkOf_11 : decode b_Tr_firstLinkOf 11 = .ok (.iload_n 2, 1) := by decide +kernel
theorem d_Tr_firstLinkOf_12 : decode b_Tr_firstLinkOf 12 = .ok (.aaload, 1) := by decide +kernel
theorem d_Tr_firstLinkOf_13 : decode b_Tr_firstLinkOf 13 = .ok (.getfield 59, 3) := by decide +kernel
theorem d_Tr_firstLinkOf_16 : decode b_Tr_firstLinkOf 16 = .ok (.aload_n 0, 1) := by decide +kernel
theorem d_Tr_firstLinkOf_17 : decode b_Tr_firstLinkOf 17 = .ok (.getfield 11, 3) := by decide +kernel
theorem d_Tr_firstLinkOf_20 : decode b_Tr_firstLinkOf 20 = .ok (.iload_n 1, 1) := by decide +kernel
theorem d_Tr_firstLinkOf_21 : decode b_Tr_firstLinkOf 21 = .ok (.aaload, 1) := by decide +kernel
theorem d_Tr_firstLinkOf_22 : decode b_Tr_firstLinkOf 22 = .ok (.getfield 59, 3) := by decide +kernel
theorem d_Tr_firstLinkOf_25 : decode b_Tr_firstLinkOf 25 = .ok (.if_icmp .eq 9, 3) := by decide +kernel
theorem d_Tr_firstLinkOf_28 : decode b_Tr_firstLinkOf 28 = .ok (.iinc 2 1, 3) := by decide +kernel
theorem d_Tr_firstLinkOf_31 : decode b_Tr_firstLinkOf 31 = .ok (.goto (-29), 3) := by decide +kernel
theorem d_Tr_firstLinkOf_34 : decode b_Tr_firstLinkOf 34 = .ok (.iload_n 2, 1) := by decide +kernel
theorem d_Tr_firstLinkOf_35 : decode b_Tr_firstLinkOf 35 = .ok (.ireturn, 1) := by decide +kernel
theorem d_Tr_linksOf_0 : decode b_Tr_linksOf 0 = .ok (.iconst 0, 1) := by decide +kernel
theorem d_Tr_linksOf_1 : decode b_Tr_linksOf 1 = .ok (.istore_n 2, 1) := by decide +kernel
theorem d_Tr_linksOf_2 : decode b_Tr_linksOf 2 = .ok (.iconst 0, 1) := by decide +kernel
theorem d_Tr_linksOf_3 : decode b_Tr_linksOf 3 = .ok (.istore_n 3, 1) := by decide +kernel
theorem d_Tr_linksOf_4 : decode b_Tr_linksOf 4 = .ok (.iload_n 3, 1) := by decide +kernel
theorem d_Tr_linksOf_5 : decode b_Tr_linksOf 5 = .ok (.aload_n 0, 1) := by decide +kernel
theorem d_Tr_linksOf_6 : decode b_Tr_linksOf 6 = .ok (.getfield 27, 3) := by decide +kernel
theorem d_Tr_linksOf_9 : decode b_Tr_linksOf 9 = .ok (.if_icmp .ge 33, 3) := by decide +kernel
theorem d_Tr_linksOf_12 : decode b_Tr_linksOf 12 = .ok (.aload_n 0, 1) := by decide +kernel
theorem d_Tr_linksOf_13 : decode b_Tr_linksOf 13 = .ok (.getfield 11, 3) := by decide +kernel
theorem d_Tr_linksOf_16 : decode b_Tr_linksOf 16 = .ok (.iload_n 3, 1) := by decide +kernel
theorem d_Tr_linksOf_17 : decode b_Tr_linksOf 17 = .ok (.aaload, 1) := by decide +kernel
theorem d_Tr_linksOf_18 : decode b_Tr_linksOf 18 = .ok (.getfield 59, 3) := by decide +kernel
theorem d_Tr_linksOf_21 : decode b_Tr_linksOf 21 = .ok (.aload_n 0, 1) := by decide +kernel
theorem d_Tr_linksOf_22 : decode b_Tr_linksOf 22 = .ok (.getfield 11, 3) := by decide +kernel
theorem d_Tr_linksOf_25 : decode b_Tr_linksOf 25 = .ok (.iload_n 1, 1) := by decide +kernel
theorem d_Tr_linksOf_26 : decode b_Tr_linksOf 26 = .ok (.aaload, 1) := by decide +kernel
theorem d_Tr_linksOf_27 : decode b_Tr_linksOf 27 = .ok (.getfield 59, 3) := by decide +kernel
theorem d_Tr_linksOf_30 : decode b_Tr_linksOf 30 = .ok (.if_icmp .ne 6, 3) := by decide +kernel
theorem d_Tr_linksOf_33 : decode b_Tr_linksOf 33 = .ok (.iinc 2 1, 3) := by decide +kernel
theorem d_Tr_linksOf_36 : decode b_Tr_linksOf 36 = .ok (.iinc 3 1, 3) := by decide +kernel
theorem d_Tr_linksOf_39 : decode b_Tr_linksOf 39 = .ok (.goto (-35), 3) := by decide +kernel
theorem d_Tr_linksOf_42 : decode b_Tr_linksOf 42 = .ok (.iload_n 2, 1) := by decide +kernel
theorem d_Tr_linksOf_43 : decode b_Tr_linksOf 43 = .ok (.ireturn, 1) := by decide +kernel
theorem d_Tr_hasArchive_0 : decode b_Tr_hasArchive 0 = .ok (.iconst 0, 1) := by decide +kernel
theorem d_Tr_hasArchive_1 : decode b_Tr_hasArchive 1 = .ok (.istore_n 1, 1) := by decide +kernel
theorem d_Tr_hasArchive_2 : decode b_Tr_hasArchive 2 = .ok (.iload_n 1, 1) := by decide +kernel
theorem d_Tr_hasArchive_3 : decode b_Tr_hasArchive 3 = .ok (.aload_n 0, 1) := by decide +kernel
theorem d_Tr_hasArchive_4 : decode b_Tr_hasArchive 4 = .ok (.getfield 27, 3) := by decide +kernel
theorem d_Tr_hasArchive_7 : decode b_Tr_hasArchive 7 = .ok (.if_icmp .ge 36, 3) := by decide +kernel
theorem d_Tr_hasArchive_10 : decode b_Tr_hasArchive 10 = .ok (.aload_n 0, 1) := by decide +kernel
theorem d_Tr_hasArchive_11 : decode b_Tr_hasArchive 11 = .ok (.getfield 11, 3) := by decide +kernel
theorem d_Tr_hasArchive_14 : decode b_Tr_hasArchive 14 = .ok (.iload_n 1, 1) := by decide +kernel
theorem d_Tr_hasArchive_15 : decode b_Tr_hasArchive 15 = .ok (.aaload, 1) := by decide +kernel
theorem d_Tr_hasArchive_16 : decode b_Tr_hasArchive 16 = .ok (.astore_n 2, 1) := by decide +kernel
theorem d_Tr_hasArchive_17 : decode b_Tr_hasArchive 17 = .ok (.aload_n 2, 1) := by decide +kernel
theorem d_Tr_hasArchive_18 : decode b_Tr_hasArchive 18 = .ok (.getfield 110, 3) := by decide +kernel
theorem d_Tr_hasArchive_21 : decode b_Tr_hasArchive 21 = .ok (.ldc 113, 2) := by decide +kernel
theorem d_Tr_hasArchive_23 : decode b_Tr_hasArchive 23 = .ok (.if_icmp .gt 12, 3) := by decide +kernel
theorem d_Tr_hasArchive_26 : decode b_Tr_hasArchive 26 = .ok (.aload_n 2, 1) := by decide +kernel
theorem d_Tr_hasArchive_27 : decode b_Tr_hasArchive 27 = .ok (.getfield 114, 3) := by decide +kernel
theorem d_Tr_hasArchive_30 : decode b_Tr_hasArchive 30 = .ok (.ldc 113, 2) := by decide +kernel
theorem d_Tr_hasArchive_32 : decode b_Tr_hasArchive 32 = .ok (.if_icmp .le 5, 3) := by decide +kernel
theorem d_Tr_hasArchive_35 : decode b_Tr_hasArchive 35 = .ok (.iconst 0, 1) := by decide +kernel
theorem d_Tr_hasArchive_36 : decode b_Tr_hasArchive 36 = .ok (.ireturn, 1) := by decide +kernel
theorem d_Tr_hasArchive_37 : decode b_Tr_hasArchive 37 = .ok (.iinc 1 1, 3) := by decide +kernel
theorem d_Tr_hasArchive_40 : decode b_Tr_hasArchive 40 = .ok (.goto (-38), 3) := by decide +kernel
theorem d_Tr_hasArchive_43 : decode b_Tr_hasArchive 43 = .ok (.iconst 1, 1) := by decide +kernel
theorem d_Tr_hasArchive_44 : decode b_Tr_hasArchive 44 = .ok (.ireturn, 1) := by decide +kernel
theorem d_Tr_tell_0 : decode b_Tr_tell 0 = .ok (.aload_n 0, 1) := by decide +kernel
theorem d_Tr_tell_1 : decode b_Tr_tell 1 = .ok (.getfield 11, 3) := by decide +kernel
theorem d_Tr_tell_4 : decode b_Tr_tell 4 = .ok (.iload_n 2, 1) := by decide +kernel
theorem d_Tr_tell_5 : decode b_Tr_tell 5 = .ok (.aaload, 1) := by decide +kernel
theorem d_Tr_tell_6 : decode b_Tr_tell 6 = .ok (.astore_n 3, 1) := by decide +kernel
theorem d_Tr_tell_7 : decode b_Tr_tell 7 = .ok (.iload_n 1, 1) := by decide +kernel
theorem d_Tr_tell_8 : decode b_Tr_tell 8 = .ok (.tableswitch 92 1 8 #[48, 53, 58, 63, 68, 73, 81, 86], 48) := by decide +kernel
theorem d_Tr_tell_56 : decode b_Tr_tell 56 = .ok (.aload_n 3, 1) := by decide +kernel
theorem d_Tr_tell_57 : decode b_Tr_tell 57 = .ok (.getfield 45, 3) := by decide +kernel
theorem d_Tr_tell_60 : decode b_Tr_tell 60 = .ok (.ireturn, 1) := by decide +kernel
theorem d_Tr_tell_61 : decode b_Tr_tell 61 = .ok (.aload_n 3, 1) := by decide +kernel
theorem d_Tr_tell_62 : decode b_Tr_tell 62 = .ok (.getfield 117, 3) := by decide +kernel
theorem d_Tr_tell_65 : decode b_Tr_tell 65 = .ok (.ireturn, 1) := by decide +kernel
theorem d_Tr_tell_66 : decode b_Tr_tell 66 = .ok (.aload_n 3, 1) := by decide +kernel
theorem d_Tr_tell_67 : decode b_Tr_tell 67 = .ok (.getfield 110, 3) := by decide +kernel
theorem d_Tr_tell_70 : decode b_Tr_tell 70 = .ok (.ireturn, 1) := by decide +kernel
theorem d_Tr_tell_71 : decode b_Tr_tell 71 = .ok (.aload_n 3, 1) := by decide +kernel
theorem d_Tr_tell_72 : decode b_Tr_tell 72 = .ok (.getfield 114, 3) := by decide +kernel
theorem d_Tr_tell_75 : decode b_Tr_tell 75 = .ok (.ireturn, 1) := by decide +kernel
theorem d_Tr_tell_76 : decode b_Tr_tell 76 = .ok (.aload_n 3, 1) := by decide +kernel
theorem d_Tr_tell_77 : decode b_Tr_tell 77 = .ok (.getfield 120, 3) := by decide +kernel
theorem d_Tr_tell_80 : decode b_Tr_tell 80 = .ok (.ireturn, 1) := by decide +kernel
theorem d_Tr_tell_81 : decode b_Tr_tell 81 = .ok (.aload_n 3, 1) := by decide +kernel
theorem d_Tr_tell_82 : decode b_Tr_tell 82 = .ok (.getfield 93, 3) := by decide +kernel
theorem d_Tr_tell_85 : decode b_Tr_tell 85 = .ok (.getfield 52, 3) := by decide +kernel
theorem d_Tr_tell_88 : decode b_Tr_tell 88 = .ok (.ireturn, 1) := by decide +kernel
theorem d_Tr_tell_89 : decode b_Tr_tell 89 = .ok (.aload_n 3, 1) := by decide +kernel
theorem d_Tr_tell_90 : decode b_Tr_tell 90 = .ok (.getfield 58, 3) := by decide +kernel
theorem d_Tr_tell_93 : decode b_Tr_tell 93 = .ok (.ireturn, 1) := by decide +kernel
theorem d_Tr_tell_94 : decode b_Tr_tell 94 = .ok (.aload_n 0, 1) := by decide +kernel
theorem d_Tr_tell_95 : decode b_Tr_tell 95 = .ok (.iload_n 2, 1) := by decide +kernel
theorem d_Tr_tell_96 : decode b_Tr_tell 96 = .ok (.invokevirtual 123, 3) := by decide +kernel
theorem d_Tr_tell_99 : decode b_Tr_tell 99 = .ok (.ireturn, 1) := by decide +kernel
theorem d_Tr_tell_100 : decode b_Tr_tell 100 = .ok (.aload_n 0, 1) := by decide +kernel
theorem d_Tr_tell_101 : decode b_Tr_tell 101 = .ok (.iload_n 2, 1) := by decide +kernel
theorem d_Tr_tell_102 : decode b_Tr_tell 102 = .ok (.invokevirtual 126, 3) := by decide +kernel
theorem d_Tr_tell_105 : decode b_Tr_tell 105 = .ok (.ireturn, 1) := by decide +kernel
theorem d_Tr_hasByte_0 : decode b_Tr_hasByte 0 = .ok (.iload_n 2, 1) := by decide +kernel
theorem d_Tr_hasByte_1 : decode b_Tr_hasByte 1 = .ok (.ifCond .lt 33, 3) := by decide +kernel
theorem d_Tr_hasByte_4 : decode b_Tr_hasByte 4 = .ok (.iload_n 2, 1) := by decide +kernel
theorem d_Tr_hasByte_5 : decode b_Tr_hasByte 5 = .ok (.aload_n 0, 1) := by decide +kernel
theorem d_Tr_hasByte_6 : decode b_Tr_hasByte 6 = .ok (.getfield 11, 3) := by decide +kernel
theorem d_Tr_hasByte_9 : decode b_Tr_hasByte 9 = .ok (.iload_n 1, 1) := by decide +kernel
theorem d_Tr_hasByte_10 : decode b_Tr_hasByte 10 = .ok (.aaload, 1) := by decide +kernel
theorem d_Tr_hasByte_11 : decode b_Tr_hasByte 11 = .ok (.getfield 93, 3) := by decide +kernel
theorem d_Tr_hasByte_14 : decode b_Tr_hasByte 14 = .ok (.getfield 52, 3) := by decide +kernel
theorem d_Tr_hasByte_17 : decode b_Tr_hasByte 17 = .ok (.aload_n 0, 1) := by decide +kernel
theorem d_Tr_hasByte_18 : decode b_Tr_hasByte 18 = .ok (.getfield 11, 3) := by decide +kernel
theorem d_Tr_hasByte_21 : decode b_Tr_hasByte 21 = .ok (.iload_n 1, 1) := by decide +kernel
theorem d_Tr_hasByte_22 : decode b_Tr_hasByte 22 = .ok (.aaload, 1) := by decide +kernel
theorem d_Tr_hasByte_23 : decode b_Tr_hasByte 23 = .ok (.getfield 58, 3) := by decide +kernel
theorem d_Tr_hasByte_26 : decode b_Tr_hasByte 26 = .ok (.iadd, 1) := by decide +kernel
theorem d_Tr_hasByte_27 : decode b_Tr_hasByte 27 = .ok (.if_icmp .ge 7, 3) := by decide +kernel
theorem d_Tr_hasByte_30 : decode b_Tr_hasByte 30 = .ok (.iconst 1, 1) := by decide +kernel
theorem d_Tr_hasByte_31 : decode b_Tr_hasByte 31 = .ok (.goto 4, 3) := by decide +kernel
theorem d_Tr_hasByte_34 : decode b_Tr_hasByte 34 = .ok (.iconst 0, 1) := by decide +kernel
theorem d_Tr_hasByte_35 : decode b_Tr_hasByte 35 = .ok (.ireturn, 1) := by decide +kernel
theorem d_Tr_byteAt_0 : decode b_Tr_byteAt 0 = .ok (.aload_n 0, 1) := by decide +kernel
theorem d_Tr_byteAt_1 : decode b_Tr_byteAt 1 = .ok (.getfield 11, 3) := by decide +kernel
theorem d_Tr_byteAt_4 : decode b_Tr_byteAt 4 = .ok (.iload_n 1, 1) := by decide +kernel
theorem d_Tr_byteAt_5 : decode b_Tr_byteAt 5 = .ok (.aaload, 1) := by decide +kernel
theorem d_Tr_byteAt_6 : decode b_Tr_byteAt 6 = .ok (.astore_n 3, 1) := by decide +kernel
theorem d_Tr_byteAt_7 : decode b_Tr_byteAt 7 = .ok (.iload_n 2, 1) := by decide +kernel
theorem d_Tr_byteAt_8 : decode b_Tr_byteAt 8 = .ok (.aload_n 3, 1) := by decide +kernel
theorem d_Tr_byteAt_9 : decode b_Tr_byteAt 9 = .ok (.getfield 93, 3) := by decide +kernel
theorem d_Tr_byteAt_12 : decode b_Tr_byteAt 12 = .ok (.getfield 52, 3) := by decide +kernel
theorem d_Tr_byteAt_15 : decode b_Tr_byteAt 15 = .ok (.isub, 1) := by decide +kernel
theorem d_Tr_byteAt_16 : decode b_Tr_byteAt 16 = .ok (.istore 4, 2) := by decide +kernel
theorem d_Tr_byteAt_18 : decode b_Tr_byteAt 18 = .ok (.iload 4, 2) := by decide +kernel
theorem d_Tr_byteAt_20 : decode b_Tr_byteAt 20 = .ok (.ifCond .ge 14, 3) := by decide +kernel
theorem d_Tr_byteAt_23 : decode b_Tr_byteAt 23 = .ok (.aload_n 3, 1) := by decide +kernel
theorem d_Tr_byteAt_24 : decode b_Tr_byteAt 24 = .ok (.getfield 93, 3) := by decide +kernel
theorem d_Tr_byteAt_27 : decode b_Tr_byteAt 27 = .ok (.iload_n 2, 1) := by decide +kernel
theorem d_Tr_byteAt_28 : decode b_Tr_byteAt 28 = .ok (.invokevirtual 82, 3) := by decide +kernel
theorem d_Tr_byteAt_31 : decode b_Tr_byteAt 31 = .ok (.goto 17, 3) := by decide +kernel
theorem d_Tr_byteAt_34 : decode b_Tr_byteAt 34 = .ok (.aload_n 0, 1) := by decide +kernel
theorem d_Tr_byteAt_35 : decode b_Tr_byteAt 35 = .ok (.getfield 23, 3) := by decide +kernel
theorem d_Tr_byteAt_38 : decode b_Tr_byteAt 38 = .ok (.aload_n 3, 1) := by decide +kernel
theorem d_Tr_byteAt_39 : decode b_Tr_byteAt 39 = .ok (.getfield 55, 3) := by decide +kernel
theorem d_Tr_byteAt_42 : decode b_Tr_byteAt 42 = .ok (.iload 4, 2) := by decide +kernel
theorem d_Tr_byteAt_44 : decode b_Tr_byteAt 44 = .ok (.iadd, 1) := by decide +kernel
theorem d_Tr_byteAt_45 : decode b_Tr_byteAt 45 = .ok (.invokevirtual 82, 3) := by decide +kernel
theorem d_Tr_byteAt_48 : decode b_Tr_byteAt 48 = .ok (.ireturn, 1) := by decide +kernel
theorem d_Ma_pieceEnd_0 : decode b_Ma_pieceEnd 0 = .ok (.iload_n 1, 1) := by decide +kernel
theorem d_Ma_pieceEnd_1 : decode b_Ma_pieceEnd 1 = .ok (.aload_n 0, 1) := by decide +kernel
theorem d_Ma_pieceEnd_2 : decode b_Ma_pieceEnd 2 = .ok (.getfield 28, 3) := by decide +kernel
theorem d_Ma_pieceEnd_5 : decode b_Ma_pieceEnd 5 = .ok (.imul, 1) := by decide +kernel
theorem d_Ma_pieceEnd_6 : decode b_Ma_pieceEnd 6 = .ok (.aload_n 0, 1) := by decide +kernel
theorem d_Ma_pieceEnd_7 : decode b_Ma_pieceEnd 7 = .ok (.getfield 21, 3) := by decide +kernel
theorem d_Ma_pieceEnd_10 : decode b_Ma_pieceEnd 10 = .ok (.getfield 35, 3) := by decide +kernel
theorem d_Ma_pieceEnd_13 : decode b_Ma_pieceEnd 13 = .ok (.invokestatic 83, 3) := by decide +kernel
theorem d_Ma_pieceEnd_16 : decode b_Ma_pieceEnd 16 = .ok (.ireturn, 1) := by decide +kernel
theorem d_Ma_keep_0 : decode b_Ma_keep 0 = .ok (.aload_n 0, 1) := by decide +kernel
theorem d_Ma_keep_1 : decode b_Ma_keep 1 = .ok (.getfield 14, 3) := by decide +kernel
theorem d_Ma_keep_4 : decode b_Ma_keep 4 = .ok (.aload_n 1, 1) := by decide +kernel
theorem d_Ma_keep_5 : decode b_Ma_keep 5 = .ok (.iconst 0, 1) := by decide +kernel
theorem d_Ma_keep_6 : decode b_Ma_keep 6 = .ok (.aload_n 1, 1) := by decide +kernel
theorem d_Ma_keep_7 : decode b_Ma_keep 7 = .ok (.getfield 35, 3) := by decide +kernel
theorem d_Ma_keep_10 : decode b_Ma_keep 10 = .ok (.invokevirtual 38, 3) := by decide +kernel
theorem d_Ma_keep_13 : decode b_Ma_keep 13 = .ok (.aload_n 0, 1) := by decide +kernel
theorem d_Ma_keep_14 : decode b_Ma_keep 14 = .ok (.getfield 21, 3) := by decide +kernel
theorem d_Ma_keep_17 : decode b_Ma_keep 17 = .ok (.aload_n 2, 1) := by decide +kernel
theorem d_Ma_keep_18 : decode b_Ma_keep 18 = .ok (.iconst 0, 1) := by decide +kernel
theorem d_Ma_keep_19 : decode b_Ma_keep 19 = .ok (.aload_n 2, 1) := by decide +kernel
theorem d_Ma_keep_20 : decode b_Ma_keep 20 = .ok (.getfield 35, 3) := by decide +kernel
theorem d_Ma_keep_23 : decode b_Ma_keep 23 = .ok (.invokevirtual 38, 3) := by decide +kernel
theorem d_Ma_keep_26 : decode b_Ma_keep 26 = .ok (.aload_n 0, 1) := by decide +kernel
theorem d_Ma_keep_27 : decode b_Ma_keep 27 = .ok (.iload_n 3, 1) := by decide +kernel
theorem d_Ma_keep_28 : decode b_Ma_keep 28 = .ok (.putfield 28, 3) := by decide +kernel
theorem d_Ma_keep_31 : decode b_Ma_keep 31 = .ok (.aload_n 0, 1) := by decide +kernel
theorem d_Ma_keep_32 : decode b_Ma_keep 32 = .ok (.iconst 0, 1) := by decide +kernel
theorem d_Ma_keep_33 : decode b_Ma_keep 33 = .ok (.putfield 24, 3) := by decide +kernel
theorem d_Ma_keep_36 : decode b_Ma_keep 36 = .ok (.iconst 0, 1) := by decide +kernel
theorem d_Ma_keep_37 : decode b_Ma_keep 37 = .ok (.istore 4, 2) := by decide +kernel
theorem d_Ma_keep_39 : decode b_Ma_keep 39 = .ok (.iload 4, 2) := by decide +kernel
theorem d_Ma_keep_41 : decode b_Ma_keep 41 = .ok (.aload_n 0, 1) := by decide +kernel
theorem d_Ma_keep_42 : decode b_Ma_keep 42 = .ok (.getfield 21, 3) := by decide +kernel
theorem d_Ma_keep_45 : decode b_Ma_keep 45 = .ok (.getfield 35, 3) := by decide +kernel
theorem d_Ma_keep_48 : decode b_Ma_keep 48 = .ok (.if_icmp .ge 60, 3) := by decide +kernel
theorem d_Ma_keep_51 : decode b_Ma_keep 51 = .ok (.aload_n 0, 1) := by decide +kernel
theorem d_Ma_keep_52 : decode b_Ma_keep 52 = .ok (.getfield 24, 3) := by decide +kernel
theorem d_Ma_keep_55 : decode b_Ma_keep 55 = .ok (.sipush 999, 3) := by decide +kernel
theorem d_Ma_keep_58 : decode b_Ma_keep 58 = .ok (.if_icmp .ge 50, 3) := by decide +kernel
theorem d_Ma_keep_61 : decode b_Ma_keep 61 = .ok (.aload_n 0, 1) := by decide +kernel
theorem d_Ma_keep_62 : decode b_Ma_keep 62 = .ok (.dup, 1) := by decide +kernel
theorem d_Ma_keep_63 : decode b_Ma_keep 63 = .ok (.getfield 24, 3) := by decide +kernel
theorem d_Ma_keep_66 : decode b_Ma_keep 66 = .ok (.iconst 1, 1) := by decide +kernel
theorem d_Ma_keep_67 : decode b_Ma_keep 67 = .ok (.iadd, 1) := by decide +kernel
theorem d_Ma_keep_68 : decode b_Ma_keep 68 = .ok (.putfield 24, 3) := by decide +kernel
theorem d_Ma_keep_71 : decode b_Ma_keep 71 = .ok (.aload_n 0, 1) := by decide +kernel
theorem d_Ma_keep_72 : decode b_Ma_keep 72 = .ok (.getfield 31, 3) := by decide +kernel
theorem d_Ma_keep_75 : decode b_Ma_keep 75 = .ok (.aload_n 0, 1) := by decide +kernel
theorem d_Ma_keep_76 : decode b_Ma_keep 76 = .ok (.getfield 24, 3) := by decide +kernel
theorem d_Ma_keep_79 : decode b_Ma_keep 79 = .ok (.iconst 1, 1) := by decide +kernel
theorem d_Ma_keep_80 : decode b_Ma_keep 80 = .ok (.isub, 1) := by decide +kernel
theorem d_Ma_keep_81 : decode b_Ma_keep 81 = .ok (.aload_n 0, 1) := by decide +kernel
theorem d_Ma_keep_82 : decode b_Ma_keep 82 = .ok (.getfield 21, 3) := by decide +kernel
theorem d_Ma_keep_85 : decode b_Ma_keep 85 = .ok (.iload 4, 2) := by decide +kernel
theorem d_Ma_keep_87 : decode b_Ma_keep 87 = .ok (.aload_n 0, 1) := by decide +kernel
theorem d_Ma_keep_88 : decode b_Ma_keep 88 = .ok (.aload_n 0, 1) := by decide +kernel
theorem d_Ma_keep_89 : decode b_Ma_keep 89 = .ok (.getfield 24, 3) := by decide +kernel
theorem d_Ma_keep_92 : decode b_Ma_keep 92 = .ok (.invokevirtual 42, 3) := by decide +kernel
theorem d_Ma_keep_95 : decode b_Ma_keep 95 = .ok (.invokevirtual 46, 3) := by decide +kernel
theorem d_Ma_keep_98 : decode b_Ma_keep 98 = .ok (.iastore, 1) := by decide +kernel
theorem d_Ma_keep_99 : decode b_Ma_keep 99 = .ok (.iload 4, 2) := by decide +kernel
theorem d_Ma_keep_101 : decode b_Ma_keep 101 = .ok (.iload_n 3, 1) := by decide +kernel
theorem d_Ma_keep_102 : decode b_Ma_keep 102 = .ok (.iadd, 1) := by decide +kernel
theorem d_Ma_keep_103 : decode b_Ma_keep 103 = .ok (.istore 4, 2) := by decide +kernel
theorem d_Ma_keep_105 : decode b_Ma_keep 105 = .ok (.goto (-66), 3) := by decide +kernel
theorem d_Ma_keep_108 : decode b_Ma_keep 108 = .ok (.return_, 1) := by decide +kernel
theorem d_Ma_has_0 : decode b_Ma_has 0 = .ok (.iload_n 1, 1) := by decide +kernel
theorem d_Ma_has_1 : decode b_Ma_has 1 = .ok (.iconst 1, 1) := by decide +kernel
theorem d_Ma_has_2 : decode b_Ma_has 2 = .ok (.if_icmp .lt 15, 3) := by decide +kernel
theorem d_Ma_has_5 : decode b_Ma_has 5 = .ok (.iload_n 1, 1) := by decide +kernel
theorem d_Ma_has_6 : decode b_Ma_has 6 = .ok (.aload_n 0, 1) := by decide +kernel
theorem d_Ma_has_7 : decode b_Ma_has 7 = .ok (.getfield 24, 3) := by decide +kernel
theorem d_Ma_has_10 : decode b_Ma_has 10 = .ok (.if_icmp .gt 7, 3) := by decide +kernel
theorem d_Ma_has_13 : decode b_Ma_has 13 = .ok (.iconst 1, 1) := by decide +kernel
theorem d_Ma_has_14 : decode b_Ma_has 14 = .ok (.goto 4, 3) := by decide +kernel
theorem d_Ma_has_17 : decode b_Ma_has 17 = .ok (.iconst 0, 1) := by decide +kernel
theorem d_Ma_has_18 : decode b_Ma_has 18 = .ok (.ireturn, 1) := by decide +kernel
theorem d_Ma_write_0 : decode b_Ma_write 0 = .ok (.aload_n 2, 1) := by decide +kernel
theorem d_Ma_write_1 : decode b_Ma_write 1 = .ok (.invokevirtual 50, 3) := by decide +kernel
theorem d_Ma_write_4 : decode b_Ma_write 4 = .ok (.aload_n 0, 1) := by decide +kernel
theorem d_Ma_write_5 : decode b_Ma_write 5 = .ok (.iload_n 1, 1) := by decide +kernel
theorem d_Ma_write_6 : decode b_Ma_write 6 = .ok (.invokevirtual 53, 3) := by decide +kernel
theorem d_Ma_write_9 : decode b_Ma_write 9 = .ok (.ifCond .ne 4, 3) := by decide +kernel
theorem d_Ma_write_12 : decode b_Ma_write 12 = .ok (.return_, 1) := by decide +kernel
theorem d_Ma_write_13 : decode b_Ma_write 13 = .ok (.iload_n 1, 1) := by decide +kernel
theorem d_Ma_write_14 : decode b_Ma_write 14 = .ok (.iconst 1, 1) := by decide +kernel
theorem d_Ma_write_15 : decode b_Ma_write 15 = .ok (.isub, 1) := by decide +kernel
theorem d_Ma_write_16 : decode b_Ma_write 16 = .ok (.aload_n 0, 1) := by decide +kernel
theorem d_Ma_write_17 : decode b_Ma_write 17 = .ok (.getfield 28, 3) := by decide +kernel
theorem d_Ma_write_20 : decode b_Ma_write 20 = .ok (.imul, 1) := by decide +kernel
theorem d_Ma_write_21 : decode b_Ma_write 21 = .ok (.istore_n 3, 1) := by decide +kernel
theorem d_Ma_write_22 : decode b_Ma_write 22 = .ok (.aload_n 0, 1) := by decide +kernel
theorem d_Ma_write_23 : decode b_Ma_write 23 = .ok (.iload_n 1, 1) := by decide +kernel
theorem d_Ma_write_24 : decode b_Ma_write 24 = .ok (.invokevirtual 42, 3) := by decide +kernel
theorem d_Ma_write_27 : decode b_Ma_write 27 = .ok (.istore 4, 2) := by decide +kernel
theorem d_Ma_write_29 : decode b_Ma_write 29 = .ok (.aload_n 2, 1) := by decide +kernel
theorem d_Ma_write_30 : decode b_Ma_write 30 = .ok (.ldc 59, 2) := by decide +kernel
theorem d_Ma_write_32 : decode b_Ma_write 32 = .ok (.invokevirtual 61, 3) := by decide +kernel
theorem d_Ma_write_35 : decode b_Ma_write 35 = .ok (.aload_n 2, 1) := by decide +kernel
theorem d_Ma_write_36 : decode b_Ma_write 36 = .ok (.iload_n 1, 1) := by decide +kernel
theorem d_Ma_write_37 : decode b_Ma_write 37 = .ok (.i2l, 1) := by decide +kernel
theorem d_Ma_write_38 : decode b_Ma_write 38 = .ok (.invokevirtual 65, 3) := by decide +kernel
theorem d_Ma_write_41 : decode b_Ma_write 41 = .ok (.aload_n 2, 1) := by decide +kernel
theorem d_Ma_write_42 : decode b_Ma_write 42 = .ok (.ldc 69, 2) := by decide +kernel
theorem d_Ma_write_44 : decode b_Ma_write 44 = .ok (.invokevirtual 61, 3) := by decide +kernel
theorem d_Ma_write_47 : decode b_Ma_write 47 = .ok (.aload_n 2, 1) := by decide +kernel
theorem d_Ma_write_48 : decode b_Ma_write 48 = .ok (.aload_n 0, 1) := by decide +kernel
theorem d_Ma_write_49 : decode b_Ma_write 49 = .ok (.getfield 24, 3) := by decide +kernel
theorem d_Ma_write_52 : decode b_Ma_write 52 = .ok (.i2l, 1) := by decide +kernel
theorem d_Ma_write_53 : decode b_Ma_write 53 = .ok (.invokevirtual 65, 3) := by decide +kernel
theorem d_Ma_write_56 : decode b_Ma_write 56 = .ok (.aload_n 2, 1) := by decide +kernel
theorem d_Ma_write_57 : decode b_Ma_write 57 = .ok (.ldc 71, 2) := by decide +kernel
theorem d_Ma_write_59 : decode b_Ma_write 59 = .ok (.invokevirtual 61, 3) := by decide +kernel
theorem d_Ma_write_62 : decode b_Ma_write 62 = .ok (.aload_n 2, 1) := by decide +kernel
theorem d_Ma_write_63 : decode b_Ma_write 63 = .ok (.iload 4, 2) := by decide +kernel
theorem d_Ma_write_65 : decode b_Ma_write 65 = .ok (.iload_n 3, 1) := by decide +kernel
theorem d_Ma_write_66 : decode b_Ma_write 66 = .ok (.isub, 1) := by decide +kernel
theorem d_Ma_write_67 : decode b_Ma_write 67 = .ok (.i2l, 1) := by decide +kernel
theorem d_Ma_write_68 : decode b_Ma_write 68 = .ok (.invokevirtual 65, 3) := by decide +kernel
theorem d_Ma_write_71 : decode b_Ma_write 71 = .ok (.aload_n 2, 1) := by decide +kernel
theorem d_Ma_write_72 : decode b_Ma_write 72 = .ok (.ldc 73, 2) := by decide +kernel
theorem d_Ma_write_74 : decode b_Ma_write 74 = .ok (.invokevirtual 61, 3) := by decide +kernel
theorem d_Ma_write_77 : decode b_Ma_write 77 = .ok (.aload_n 2, 1) := by decide +kernel
theorem d_Ma_write_78 : decode b_Ma_write 78 = .ok (.aload_n 0, 1) := by decide +kernel
theorem d_Ma_write_79 : decode b_Ma_write 79 = .ok (.getfield 31, 3) := by decide +kernel
theorem d_Ma_write_82 : decode b_Ma_write 82 = .ok (.iload_n 1, 1) := by decide +kernel
theorem d_Ma_write_83 : decode b_Ma_write 83 = .ok (.iconst 1, 1) := by decide +kernel
theorem d_Ma_write_84 : decode b_Ma_write 84 = .ok (.isub, 1) := by decide +kernel
theorem d_Ma_write_85 : decode b_Ma_write 85 = .ok (.iaload, 1) := by decide +kernel
theorem d_Ma_write_86 : decode b_Ma_write 86 = .ok (.i2l, 1) := by decide +kernel
theorem d_Ma_write_87 : decode b_Ma_write 87 = .ok (.ldc2_w 75, 3) := by decide +kernel
theorem d_Ma_write_90 : decode b_Ma_write 90 = .ok (.land, 1) := by decide +kernel
theorem d_Ma_write_91 : decode b_Ma_write 91 = .ok (.invokevirtual 65, 3) := by decide +kernel
theorem d_Ma_write_94 : decode b_Ma_write 94 = .ok (.aload_n 2, 1) := by decide +kernel
theorem d_Ma_write_95 : decode b_Ma_write 95 = .ok (.bipush 10, 2) := by decide +kernel
theorem d_Ma_write_97 : decode b_Ma_write 97 = .ok (.invokevirtual 77, 3) := by decide +kernel
theorem d_Ma_write_100 : decode b_Ma_write 100 = .ok (.aload_n 2, 1) := by decide +kernel
theorem d_Ma_write_101 : decode b_Ma_write 101 = .ok (.aload_n 0, 1) := by decide +kernel
theorem d_Ma_write_102 : decode b_Ma_write 102 = .ok (.getfield 21, 3) := by decide +kernel
theorem d_Ma_write_105 : decode b_Ma_write 105 = .ok (.iload_n 3, 1) := by decide +kernel
theorem d_Ma_write_106 : decode b_Ma_write 106 = .ok (.iload 4, 2) := by decide +kernel
theorem d_Ma_write_108 : decode b_Ma_write 108 = .ok (.invokevirtual 80, 3) := by decide +kernel
theorem d_Ma_write_111 : decode b_Ma_write 111 = .ok (.return_, 1) := by decide +kernel
theorem d_Pl_isDigit_0 : decode b_Pl_isDigit 0 = .ok (.iload_n 0, 1) := by decide +kernel
theorem d_Pl_isDigit_1 : decode b_Pl_isDigit 1 = .ok (.bipush 48, 2) := by decide +kernel
theorem d_Pl_isDigit_3 : decode b_Pl_isDigit 3 = .ok (.if_icmp .lt 13, 3) := by decide +kernel
theorem d_Pl_isDigit_6 : decode b_Pl_isDigit 6 = .ok (.iload_n 0, 1) := by decide +kernel
theorem d_Pl_isDigit_7 : decode b_Pl_isDigit 7 = .ok (.bipush 57, 2) := by decide +kernel
theorem d_Pl_isDigit_9 : decode b_Pl_isDigit 9 = .ok (.if_icmp .gt 7, 3) := by decide +kernel
theorem d_Pl_isDigit_12 : decode b_Pl_isDigit 12 = .ok (.iconst 1, 1) := by decide +kernel
theorem d_Pl_isDigit_13 : decode b_Pl_isDigit 13 = .ok (.goto 4, 3) := by decide +kernel
theorem d_Pl_isDigit_16 : decode b_Pl_isDigit 16 = .ok (.iconst 0, 1) := by decide +kernel
theorem d_Pl_isDigit_17 : decode b_Pl_isDigit 17 = .ok (.ireturn, 1) := by decide +kernel
theorem d_Pl_number_0 : decode b_Pl_number 0 = .ok (.aload_n 1, 1) := by decide +kernel
theorem d_Pl_number_1 : decode b_Pl_number 1 = .ok (.aload_n 2, 1) := by decide +kernel
theorem d_Pl_number_2 : decode b_Pl_number 2 = .ok (.aload_n 0, 1) := by decide +kernel
theorem d_Pl_number_3 : decode b_Pl_number 3 = .ok (.getfield 9, 3) := by decide +kernel
theorem d_Pl_number_6 : decode b_Pl_number 6 = .ok (.invokevirtual 54, 3) := by decide +kernel
theorem d_Pl_number_9 : decode b_Pl_number 9 = .ok (.ifCond .ne 7, 3) := by decide +kernel
theorem d_Pl_number_12 : decode b_Pl_number 12 = .ok (.ldc2_w 52, 3) := by decide +kernel
theorem d_Pl_number_15 : decode b_Pl_number 15 = .ok (.lreturn, 1) := by decide +kernel
theorem d_Pl_number_16 : decode b_Pl_number 16 = .ok (.aload_n 0, 1) := by decide +kernel
theorem d_Pl_number_17 : decode b_Pl_number 17 = .ok (.dup, 1) := by decide +kernel
theorem d_Pl_number_18 : decode b_Pl_number 18 = .ok (.getfield 9, 3) := by decide +kernel
theorem d_Pl_number_21 : decode b_Pl_number 21 = .ok (.aload_n 2, 1) := by decide +kernel
theorem d_Pl_number_22 : decode b_Pl_number 22 = .ok (.invokevirtual 58, 3) := by decide +kernel
theorem d_Pl_number_25 : decode b_Pl_number 25 = .ok (.iadd, 1) := by decide +kernel
theorem d_Pl_number_26 : decode b_Pl_number 26 = .ok (.putfield 9, 3) := by decide +kernel
theorem d_Pl_number_29 : decode b_Pl_number 29 = .ok (.aload_n 0, 1) := by decide +kernel
theorem d_Pl_number_30 : decode b_Pl_number 30 = .ok (.getfield 9, 3) := by decide +kernel
theorem d_Pl_number_33 : decode b_Pl_number 33 = .ok (.istore 5, 2) := by decide +kernel
theorem d_Pl_number_35 : decode b_Pl_number 35 = .ok (.lconst 0, 1) := by decide +kernel
theorem d_Pl_number_36 : decode b_Pl_number 36 = .ok (.lstore 6, 2) := by decide +kernel
theorem d_Pl_number_38 : decode b_Pl_number 38 = .ok (.aload_n 0, 1) := by decide +kernel
theorem d_Pl_number_39 : decode b_Pl_number 39 = .ok (.getfield 9, 3) := by decide +kernel
theorem d_Pl_number_42 : decode b_Pl_number 42 = .ok (.iload 5, 2) := by decide +kernel
theorem d_Pl_number_44 : decode b_Pl_number 44 = .ok (.bipush 10, 2) := by decide +kernel
theorem d_Pl_number_46 : decode b_Pl_number 46 = .ok (.iadd, 1) := by decide +kernel
theorem d_Pl_number_47 : decode b_Pl_number 47 = .ok (.if_icmp .ge 52, 3) := by decide +kernel
theorem d_Pl_number_50 : decode b_Pl_number 50 = .ok (.aload_n 1, 1) := by decide +kernel
theorem d_Pl_number_51 : decode b_Pl_number 51 = .ok (.aload_n 0, 1) := by decide +kernel
theorem d_Pl_number_52 : decode b_Pl_number 52 = .ok (.getfield 9, 3) := by decide +kernel
theorem d_Pl_number_55 : decode b_Pl_number 55 = .ok (.invokevirtual 46, 3) := by decide +kernel
theorem d_Pl_number_58 : decode b_Pl_number 58 = .ok (.invokestatic 64, 3) := by decide +kernel
theorem d_Pl_number_61 : decode b_Pl_number 61 = .ok (.ifCond .eq 38, 3) := by decide +kernel
theorem d_Pl_number_64 : decode b_Pl_number 64 = .ok (.ldc2_w 68, 3) := by decide +kernel
theorem d_Pl_number_67 : decode b_Pl_number 67 = .ok (.lload 6, 2) := by decide +kernel
theorem d_Pl_number_69 : decode b_Pl_number 69 = .ok (.lmul, 1) := by decide +kernel
theorem d_Pl_number_70 : decode b_Pl_number 70 = .ok (.aload_n 1, 1) := by decide +kernel
theorem d_Pl_number_71 : decode b_Pl_number 71 = .ok (.aload_n 0, 1) := by decide +kernel
theorem d_Pl_number_72 : decode b_Pl_number 72 = .ok (.getfield 9, 3) := by decide +kernel
theorem d_Pl_number_75 : decode b_Pl_number 75 = .ok (.invokevirtual 46, 3) := by decide +kernel
theorem d_Pl_number_78 : decode b_Pl_number 78 = .ok (.i2l, 1) := by decide +kernel
theorem d_Pl_number_79 : decode b_Pl_number 79 = .ok (.ladd, 1) := by decide +kernel
theorem d_Pl_number_80 : decode b_Pl_number 80 = .ok (.ldc2_w 70, 3) := by decide +kernel
theorem d_Pl_number_83 : decode b_Pl_number 83 = .ok (.lsub, 1) := by decide +kernel
theorem d_Pl_number_84 : decode b_Pl_number 84 = .ok (.lstore 6, 2) := by decide +kernel
theorem d_Pl_number_86 : decode b_Pl_number 86 = .ok (.aload_n 0, 1) := by decide +kernel
theorem d_Pl_number_87 : decode b_Pl_number 87 = .ok (.dup, 1) := by decide +kernel
theorem d_Pl_number_88 : decode b_Pl_number 88 = .ok (.getfield 9, 3) := by decide +kernel
theorem d_Pl_number_91 : decode b_Pl_number 91 = .ok (.iconst 1, 1) := by decide +kernel
theorem d_Pl_number_92 : decode b_Pl_number 92 = .ok (.iadd, 1) := by decide +kernel
theorem d_Pl_number_93 : decode b_Pl_number 93 = .ok (.putfield 9, 3) := by decide +kernel
theorem d_Pl_number_96 : decode b_Pl_number 96 = .ok (.goto (-58), 3) := by decide +kernel
theorem d_Pl_number_99 : decode b_Pl_number 99 = .ok (.aload_n 0, 1) := by decide +kernel
theorem d_Pl_number_100 : decode b_Pl_number 100 = .ok (.getfield 9, 3) := by decide +kernel
theorem d_Pl_number_103 : decode b_Pl_number 103 = .ok (.iload 5, 2) := by decide +kernel
theorem d_Pl_number_105 : decode b_Pl_number 105 = .ok (.iconst 1, 1) := by decide +kernel
theorem d_Pl_number_106 : decode b_Pl_number 106 = .ok (.iadd, 1) := by decide +kernel
theorem d_Pl_number_107 : decode b_Pl_number 107 = .ok (.if_icmp .le 18, 3) := by decide +kernel
theorem d_Pl_number_110 : decode b_Pl_number 110 = .ok (.aload_n 1, 1) := by decide +kernel
theorem d_Pl_number_111 : decode b_Pl_number 111 = .ok (.iload 5, 2) := by decide +kernel
theorem d_Pl_number_113 : decode b_Pl_number 113 = .ok (.invokevirtual 46, 3) := by decide +kernel
theorem d_Pl_number_116 : decode b_Pl_number 116 = .ok (.bipush 48, 2) := by decide +kernel
theorem d_Pl_number_118 : decode b_Pl_number 118 = .ok (.if_icmp .ne 7, 3) := by decide +kernel
theorem d_Pl_number_121 : decode b_Pl_number 121 = .ok (.iconst 1, 1) := by decide +kernel
theorem d_Pl_number_122 : decode b_Pl_number 122 = .ok (.goto 4, 3) := by decide +kernel
theorem d_Pl_number_125 : decode b_Pl_number 125 = .ok (.iconst 0, 1) := by decide +kernel
theorem d_Pl_number_126 : decode b_Pl_number 126 = .ok (.istore 8, 2) := by decide +kernel
theorem d_Pl_number_128 : decode b_Pl_number 128 = .ok (.aload_n 0, 1) := by decide +kernel
theorem d_Pl_number_129 : decode b_Pl_number 129 = .ok (.getfield 9, 3) := by decide +kernel
theorem d_Pl_number_132 : decode b_Pl_number 132 = .ok (.iload 5, 2) := by decide +kernel
theorem d_Pl_number_134 : decode b_Pl_number 134 = .ok (.if_icmp .eq 15, 3) := by decide +kernel
theorem d_Pl_number_137 : decode b_Pl_number 137 = .ok (.iload 8, 2) := by decide +kernel
theorem d_Pl_number_139 : decode b_Pl_number 139 = .ok (.ifCond .ne 10, 3) := by decide +kernel
theorem d_Pl_number_142 : decode b_Pl_number 142 = .ok (.lload 6, 2) := by decide +kernel
theorem d_Pl_number_144 : decode b_Pl_number 144 = .ok (.lload_n 3, 1) := by decide +kernel
theorem d_Pl_number_145 : decode b_Pl_number 145 = .ok (.lcmp, 1) := by decide +kernel
theorem d_Pl_number_146 : decode b_Pl_number 146 = .ok (.ifCond .le 9, 3) := by decide +kernel
theorem d_Pl_number_149 : decode b_Pl_number 149 = .ok (.ldc2_w 52, 3) := by decide +kernel
theorem d_Pl_number_152 : decode b_Pl_number 152 = .ok (.goto 5, 3) := by decide +kernel
theorem d_Pl_number_155 : decode b_Pl_number 155 = .ok (.lload 6, 2) := by decide +kernel
theorem d_Pl_number_157 : decode b_Pl_number 157 = .ok (.lreturn, 1) := by decide +kernel
theorem d_Pl_read_0 : decode b_Pl_read 0 = .ok (.aload_n 0, 1) := by decide +kernel
theorem d_Pl_read_1 : decode b_Pl_read 1 = .ok (.iconst 0, 1) := by decide +kernel
theorem d_Pl_read_2 : decode b_Pl_read 2 = .ok (.putfield 9, 3) := by decide +kernel
theorem d_Pl_read_5 : decode b_Pl_read 5 = .ok (.aload_n 0, 1) := by decide +kernel
theorem d_Pl_read_6 : decode b_Pl_read 6 = .ok (.aload_n 0, 1) := by decide +kernel
theorem d_Pl_read_7 : decode b_Pl_read 7 = .ok (.aload_n 1, 1) := by decide +kernel
theorem d_Pl_read_8 : decode b_Pl_read 8 = .ok (.ldc 15, 2) := by decide +kernel
theorem d_Pl_read_10 : decode b_Pl_read 10 = .ok (.ldc2_w 17, 3) := by decide +kernel
theorem d_Pl_read_13 : decode b_Pl_read 13 = .ok (.invokevirtual 19, 3) := by decide +kernel
theorem d_Pl_read_16 : decode b_Pl_read 16 = .ok (.l2i, 1) := by decide +kernel
theorem d_Pl_read_17 : decode b_Pl_read 17 = .ok (.putfield 23, 3) := by decide +kernel
theorem d_Pl_read_20 : decode b_Pl_read 20 = .ok (.aload_n 0, 1) := by decide +kernel
theorem d_Pl_read_21 : decode b_Pl_read 21 = .ok (.aload_n 0, 1) := by decide +kernel
theorem d_Pl_read_22 : decode b_Pl_read 22 = .ok (.aload_n 1, 1) := by decide +kernel
theorem d_Pl_read_23 : decode b_Pl_read 23 = .ok (.ldc 26, 2) := by decide +kernel
theorem d_Pl_read_25 : decode b_Pl_read 25 = .ok (.ldc2_w 17, 3) := by decide +kernel
theorem d_Pl_read_28 : decode b_Pl_read 28 = .ok (.invokevirtual 19, 3) := by decide +kernel
theorem d_Pl_read_31 : decode b_Pl_read 31 = .ok (.l2i, 1) := by decide +kernel
theorem d_Pl_read_32 : decode b_Pl_read 32 = .ok (.putfield 28, 3) := by decide +kernel
theorem d_Pl_read_35 : decode b_Pl_read 35 = .ok (.aload_n 0, 1) := by decide +kernel
theorem d_Pl_read_36 : decode b_Pl_read 36 = .ok (.aload_n 0, 1) := by decide +kernel
theorem d_Pl_read_37 : decode b_Pl_read 37 = .ok (.aload_n 1, 1) := by decide +kernel
theorem d_Pl_read_38 : decode b_Pl_read 38 = .ok (.ldc 31, 2) := by decide +kernel
theorem d_Pl_read_40 : decode b_Pl_read 40 = .ok (.ldc2_w 33, 3) := by decide +kernel
theorem d_Pl_read_43 : decode b_Pl_read 43 = .ok (.invokevirtual 19, 3) := by decide +kernel
theorem d_Pl_read_46 : decode b_Pl_read 46 = .ok (.l2i, 1) := by decide +kernel
theorem d_Pl_read_47 : decode b_Pl_read 47 = .ok (.putfield 35, 3) := by decide +kernel
theorem d_Pl_read_50 : decode b_Pl_read 50 = .ok (.aload_n 0, 1) := by decide +kernel
theorem d_Pl_read_51 : decode b_Pl_read 51 = .ok (.aload_n 0, 1) := by decide +kernel
theorem d_Pl_read_52 : decode b_Pl_read 52 = .ok (.aload_n 1, 1) := by decide +kernel
theorem d_Pl_read_53 : decode b_Pl_read 53 = .ok (.ldc 38, 2) := by decide +kernel
theorem d_Pl_read_55 : decode b_Pl_read 55 = .ok (.ldc2_w 40, 3) := by decide +kernel
theorem d_Pl_read_58 : decode b_Pl_read 58 = .ok (.invokevirtual 19, 3) := by decide +kernel
theorem d_Pl_read_61 : decode b_Pl_read 61 = .ok (.putfield 42, 3) := by decide +kernel
theorem d_Pl_read_64 : decode b_Pl_read 64 = .ok (.aload_n 1, 1) := by decide +kernel
theorem d_Pl_read_65 : decode b_Pl_read 65 = .ok (.aload_n 0, 1) := by decide +kernel
theorem d_Pl_read_66 : decode b_Pl_read 66 = .ok (.getfield 9, 3) := by decide +kernel
theorem d_Pl_read_69 : decode b_Pl_read 69 = .ok (.invokevirtual 46, 3) := by decide +kernel
theorem d_Pl_read_72 : decode b_Pl_read 72 = .ok (.bipush 10, 2) := by decide +kernel
theorem d_Pl_read_74 : decode b_Pl_read 74 = .ok (.if_icmp .ne 7, 3) := by decide +kernel
theorem d_Pl_read_77 : decode b_Pl_read 77 = .ok (.iconst 1, 1) := by decide +kernel
theorem d_Pl_read_78 : decode b_Pl_read 78 = .ok (.goto 4, 3) := by decide +kernel
theorem d_Pl_read_81 : decode b_Pl_read 81 = .ok (.iconst 0, 1) := by decide +kernel
theorem d_Pl_read_82 : decode b_Pl_read 82 = .ok (.istore_n 2, 1) := by decide +kernel
theorem d_Pl_read_83 : decode b_Pl_read 83 = .ok (.aload_n 0, 1) := by decide +kernel
theorem d_Pl_read_84 : decode b_Pl_read 84 = .ok (.dup, 1) := by decide +kernel
theorem d_Pl_read_85 : decode b_Pl_read 85 = .ok (.getfield 9, 3) := by decide +kernel
theorem d_Pl_read_88 : decode b_Pl_read 88 = .ok (.iconst 1, 1) := by decide +kernel
theorem d_Pl_read_89 : decode b_Pl_read 89 = .ok (.iadd, 1) := by decide +kernel
theorem d_Pl_read_90 : decode b_Pl_read 90 = .ok (.putfield 9, 3) := by decide +kernel
theorem d_Pl_read_93 : decode b_Pl_read 93 = .ok (.iload_n 2, 1) := by decide +kernel
theorem d_Pl_read_94 : decode b_Pl_read 94 = .ok (.ifCond .eq 45, 3) := by decide +kernel
theorem d_Pl_read_97 : decode b_Pl_read 97 = .ok (.aload_n 0, 1) := by decide +kernel
theorem d_Pl_read_98 : decode b_Pl_read 98 = .ok (.getfield 23, 3) := by decide +kernel
theorem d_Pl_read_101 : decode b_Pl_read 101 = .ok (.iconst 1, 1) := by decide +kernel
theorem d_Pl_read_102 : decode b_Pl_read 102 = .ok (.if_icmp .lt 37, 3) := by decide +kernel
theorem d_Pl_read_105 : decode b_Pl_read 105 = .ok (.aload_n 0, 1) := by decide +kernel
theorem d_Pl_read_106 : decode b_Pl_read 106 = .ok (.getfield 23, 3) := by decide +kernel
theorem d_Pl_read_109 : decode b_Pl_read 109 = .ok (.aload_n 0, 1) := by decide +kernel
theorem d_Pl_read_110 : decode b_Pl_read 110 = .ok (.getfield 28, 3) := by decide +kernel
theorem d_Pl_read_113 : decode b_Pl_read 113 = .ok (.if_icmp .gt 26, 3) := by decide +kernel
theorem d_Pl_read_116 : decode b_Pl_read 116 = .ok (.aload_n 0, 1) := by decide +kernel
theorem d_Pl_read_117 : decode b_Pl_read 117 = .ok (.getfield 35, 3) := by decide +kernel
theorem d_Pl_read_120 : decode b_Pl_read 120 = .ok (.iconst (-1), 1) := by decide +kernel
theorem d_Pl_read_121 : decode b_Pl_read 121 = .ok (.if_icmp .eq 18, 3) := by decide +kernel
theorem d_Pl_read_124 : decode b_Pl_read 124 = .ok (.aload_n 0, 1) := by decide +kernel
theorem d_Pl_read_125 : decode b_Pl_read 125 = .ok (.getfield 42, 3) := by decide +kernel
theorem d_Pl_read_128 : decode b_Pl_read 128 = .ok (.ldc2_w 52, 3) := by decide +kernel
theorem d_Pl_read_131 : decode b_Pl_read 131 = .ok (.lcmp, 1) := by decide +kernel
theorem d_Pl_read_132 : decode b_Pl_read 132 = .ok (.ifCond .eq 7, 3) := by decide +kernel
theorem d_Pl_read_135 : decode b_Pl_read 135 = .ok (.iconst 1, 1) := by decide +kernel
theorem d_Pl_read_136 : decode b_Pl_read 136 = .ok (.goto 4, 3) := by decide +kernel
theorem d_Pl_read_139 : decode b_Pl_read 139 = .ok (.iconst 0, 1) := by decide +kernel
theorem d_Pl_read_140 : decode b_Pl_read 140 = .ok (.ireturn, 1) := by decide +kernel
theorem d_Bo_wipe_0 : decode b_Bo_wipe 0 = .ok (.aload_n 0, 1) := by decide +kernel
theorem d_Bo_wipe_1 : decode b_Bo_wipe 1 = .ok (.getfield 15, 3) := by decide +kernel
theorem d_Bo_wipe_4 : decode b_Bo_wipe 4 = .ok (.invokevirtual 51, 3) := by decide +kernel
theorem d_Bo_wipe_7 : decode b_Bo_wipe 7 = .ok (.aload_n 0, 1) := by decide +kernel
theorem d_Bo_wipe_8 : decode b_Bo_wipe 8 = .ok (.getfield 25, 3) := by decide +kernel
theorem d_Bo_wipe_11 : decode b_Bo_wipe 11 = .ok (.iconst (-1), 1) := by decide +kernel
theorem d_Bo_wipe_12 : decode b_Bo_wipe 12 = .ok (.invokestatic 28, 3) := by decide +kernel
theorem d_Bo_wipe_15 : decode b_Bo_wipe 15 = .ok (.aload_n 0, 1) := by decide +kernel
theorem d_Bo_wipe_16 : decode b_Bo_wipe 16 = .ok (.iconst 0, 1) := by decide +kernel
theorem d_Bo_wipe_17 : decode b_Bo_wipe 17 = .ok (.putfield 41, 3) := by decide +kernel
theorem d_Bo_wipe_20 : decode b_Bo_wipe 20 = .ok (.aload_n 0, 1) := by decide +kernel
theorem d_Bo_wipe_21 : decode b_Bo_wipe 21 = .ok (.iconst 0, 1) := by decide +kernel
theorem d_Bo_wipe_22 : decode b_Bo_wipe 22 = .ok (.putfield 45, 3) := by decide +kernel
theorem d_Bo_wipe_25 : decode b_Bo_wipe 25 = .ok (.aload_n 0, 1) := by decide +kernel
theorem d_Bo_wipe_26 : decode b_Bo_wipe 26 = .ok (.iconst 0, 1) := by decide +kernel
theorem d_Bo_wipe_27 : decode b_Bo_wipe 27 = .ok (.putfield 48, 3) := by decide +kernel
theorem d_Bo_wipe_30 : decode b_Bo_wipe 30 = .ok (.return_, 1) := by decide +kernel
theorem d_Bo_keep_0 : decode b_Bo_keep 0 = .ok (.aload_n 0, 1) := by decide +kernel
theorem d_Bo_keep_1 : decode b_Bo_keep 1 = .ok (.iload_n 2, 1) := by decide +kernel
theorem d_Bo_keep_2 : decode b_Bo_keep 2 = .ok (.putfield 41, 3) := by decide +kernel
theorem d_Bo_keep_5 : decode b_Bo_keep 5 = .ok (.aload_n 0, 1) := by decide +kernel
theorem d_Bo_keep_6 : decode b_Bo_keep 6 = .ok (.getfield 21, 3) := by decide +kernel
theorem d_Bo_keep_9 : decode b_Bo_keep 9 = .ok (.iload_n 1, 1) := by decide +kernel
theorem d_Bo_keep_10 : decode b_Bo_keep 10 = .ok (.aload_n 0, 1) := by decide +kernel
theorem d_Bo_keep_11 : decode b_Bo_keep 11 = .ok (.getfield 15, 3) := by decide +kernel
theorem d_Bo_keep_14 : decode b_Bo_keep 14 = .ok (.getfield 62, 3) := by decide +kernel
theorem d_Bo_keep_17 : decode b_Bo_keep 17 = .ok (.iastore, 1) := by decide +kernel
theorem d_Bo_keep_18 : decode b_Bo_keep 18 = .ok (.aload_n 0, 1) := by decide +kernel
theorem d_Bo_keep_19 : decode b_Bo_keep 19 = .ok (.getfield 25, 3) := by decide +kernel
theorem d_Bo_keep_22 : decode b_Bo_keep 22 = .ok (.iload_n 1, 1) := by decide +kernel
theorem d_Bo_keep_23 : decode b_Bo_keep 23 = .ok (.aload_n 3, 1) := by decide +kernel
theorem d_Bo_keep_24 : decode b_Bo_keep 24 = .ok (.getfield 62, 3) := by decide +kernel
theorem d_Bo_keep_27 : decode b_Bo_keep 27 = .ok (.iload 4, 2) := by decide +kernel
theorem d_Bo_keep_29 : decode b_Bo_keep 29 = .ok (.isub, 1) := by decide +kernel
theorem d_Bo_keep_30 : decode b_Bo_keep 30 = .ok (.iastore, 1) := by decide +kernel
theorem d_Bo_keep_31 : decode b_Bo_keep 31 = .ok (.aload_n 0, 1) := by decide +kernel
theorem d_Bo_keep_32 : decode b_Bo_keep 32 = .ok (.getfield 15, 3) := by decide +kernel
theorem d_Bo_keep_35 : decode b_Bo_keep 35 = .ok (.aload_n 3, 1) := by decide +kernel
theorem d_Bo_keep_36 : decode b_Bo_keep 36 = .ok (.iload 4, 2) := by decide +kernel
theorem d_Bo_keep_38 : decode b_Bo_keep 38 = .ok (.aload_n 3, 1) := by decide +kernel
theorem d_Bo_keep_39 : decode b_Bo_keep 39 = .ok (.getfield 62, 3) := by decide +kernel
theorem d_Bo_keep_42 : decode b_Bo_keep 42 = .ok (.invokevirtual 82, 3) := by decide +kernel
theorem d_Bo_keep_45 : decode b_Bo_keep 45 = .ok (.aload_n 0, 1) := by decide +kernel
theorem d_Bo_keep_46 : decode b_Bo_keep 46 = .ok (.dup, 1) := by decide +kernel
theorem d_Bo_keep_47 : decode b_Bo_keep 47 = .ok (.getfield 45, 3) := by decide +kernel
theorem d_Bo_keep_50 : decode b_Bo_keep 50 = .ok (.aload_n 0, 1) := by decide +kernel
theorem d_Bo_keep_51 : decode b_Bo_keep 51 = .ok (.getfield 25, 3) := by decide +kernel
theorem d_Bo_keep_54 : decode b_Bo_keep 54 = .ok (.iload_n 1, 1) := by decide +kernel
theorem d_Bo_keep_55 : decode b_Bo_keep 55 = .ok (.iaload, 1) := by decide +kernel
theorem d_Bo_keep_56 : decode b_Bo_keep 56 = .ok (.iadd, 1) := by decide +kernel
theorem d_Bo_keep_57 : decode b_Bo_keep 57 = .ok (.putfield 45, 3) := by decide +kernel
theorem d_Bo_keep_60 : decode b_Bo_keep 60 = .ok (.aload_n 0, 1) := by decide +kernel
theorem d_Bo_keep_61 : decode b_Bo_keep 61 = .ok (.dup, 1) := by decide +kernel
theorem d_Bo_keep_62 : decode b_Bo_keep 62 = .ok (.getfield 48, 3) := by decide +kernel
theorem d_Bo_keep_65 : decode b_Bo_keep 65 = .ok (.iconst 1, 1) := by decide +kernel
theorem d_Bo_keep_66 : decode b_Bo_keep 66 = .ok (.iadd, 1) := by decide +kernel
theorem d_Bo_keep_67 : decode b_Bo_keep 67 = .ok (.putfield 48, 3) := by decide +kernel
theorem d_Bo_keep_70 : decode b_Bo_keep 70 = .ok (.return_, 1) := by decide +kernel
set_option maxRecDepth 100000 in
set_option maxHeartbeats 4000000 in
theorem Met_Tr_insertDraft (l : Launch) (B : Nat) (D : va_G) (aC : Nat → ClassId) (aS : Nat → Nat) {a0 : Nat} {M : zM} {post : Int32 → zM → Prop} (hk0 : a0 < N0) (ht0 : tg a0 = 3) (h : Wp_Tr_insertDraft a0 M post) : Met l y_Tr_insertDraft (wo y_Tr_insertDraft b_Tr_insertDraft 5 (some FieldType.int)) { frames := 3, cells := 0, slots := 0, locals := 70 } (va_Pc [.ref (B + a0)] (zWl B D aC aS M)) (zQi B D aC post) 0 0 (zAb B) := by
  refine z_met (own := "MailChain$Tree") (lv0 := [(0, .ref (B + a0))]) (by decide) rfl (Nat.le_of_ble_eq_true rfl) rfl ?_
  intro p e s m below meth c fx hr hlo
  delta Wp_Tr_insertDraft at h
  have h := h (fun v1 v2 M => zAt p l e { frames := 3, cells := 0, slots := 0, locals := 70 } s m ([.ref (B + a0)] : List Value).toArray below meth c 0 0 (MQ below (zQi B D aC post) ([.ref (B + a0)] : List Value).toArray s 0 0 (zAb B)) B D aC 5 67 [(0, .ref (B + a0)), (1, .ref (B + v1)), (2, .int v2)] [] M)
  have h := h (fun v1 v2 w0 M => zAt p l e { frames := 3, cells := 0, slots := 0, locals := 70 } s m ([.ref (B + a0)] : List Value).toArray below meth c 0 0 (MQ below (zQi B D aC post) ([.ref (B + a0)] : List Value).toArray s 0 0 (zAb B)) B D aC 5 83 [(0, .ref (B + a0)), (1, .ref (B + v1)), (2, .int v2)] [.int w0] M)
  have h := h (fun v1 v2 v3 v4 M => zAt p l e { frames := 3, cells := 0, slots := 0, locals := 70 } s m ([.ref (B + a0)] : List Value).toArray below meth c 0 0 (MQ below (zQi B D aC post) ([.ref (B + a0)] : List Value).toArray s 0 0 (zAb B)) B D aC 5 113 [(0, .ref (B + a0)), (1, .ref (B + v1)), (2, .int v2), (3, .int v3), (4, .int v4)] [] M)
  have h := h (by
    intro v1 v2 M h
    obtain ⟨hk_v1, ht_v1, h⟩ := h
    refine a_aload_n fx 1 d_Tr_insertDraft_67 rfl rfl ?_
    refine a_getIN fx (T := F_En) (j := 1) (hk := hk_v1) (ht := ht_v1) (ht2 := by decide) (hc := rfl) (hin := u_in_En) (hj := by decide) (hj2 := by decide) (hf := rfl) (hT := rfl) (q9 := 14) (hw := rfl) (hd := d_Tr_insertDraft_68) (kk := ?_)
    refine a_iconst (v := 1) fx d_Tr_insertDraft_71 rfl ?_
    refine a_icmp_ne fx 82 d_Tr_insertDraft_72 rfl (fun hc => ?_) (fun hc => ?_)
    · have h := h.1 hc
      refine a_iconst (v := 0) fx d_Tr_insertDraft_82 rfl ?_
      refine a_sub [0, 1, 2] rfl ?_
      exact h
    · have h := h.2 hc
      refine a_aload_n fx 1 d_Tr_insertDraft_75 rfl rfl ?_
      refine a_getIN fx (T := F_En) (j := 7) (hk := hk_v1) (ht := ht_v1) (ht2 := by decide) (hc := rfl) (hin := u_in_En) (hj := by decide) (hj2 := by decide) (hf := rfl) (hT := rfl) (q9 := 30) (hw := rfl) (hd := d_Tr_insertDraft_76) (kk := ?_)
      refine a_goto fx 83 d_Tr_insertDraft_79 rfl ?_
      refine a_sub [0, 1, 2] rfl ?_
      exact h)
  have h := h (by
    intro v1 v2 w0 M h
    obtain ⟨hk_v1, ht_v1, h⟩ := h
    refine a_istore_n (lv2 := [(3, .int w0), (0, .ref (B + a0)), (1, .ref (B + v1)), (2, .int v2)]) fx d_Tr_insertDraft_83 rfl (by decide) rfl ?_
    refine a_aload_n fx 1 d_Tr_insertDraft_84 rfl rfl ?_
    refine a_getI fx (T := F_Tr) (j := 2) (hk := hk0) (ht := ht0) (ht2 := by decide) (hc := rfl) (hin := u_in_Tr) (hj := by decide) (hj2 := by decide) (hf := rfl) (hT := rfl) (hw := w_135) (hd := d_Tr_insertDraft_85) (kk := ?_)
    refine a_bipush (v := 40) fx d_Tr_insertDraft_88 rfl ?_
    refine a_icmp_ge fx 105 d_Tr_insertDraft_90 rfl (fun hc => ?_) (fun hc => ?_)
    · have h := h.1 hc
      refine a_iconst (v := 4) fx d_Tr_insertDraft_105 rfl ?_
      exact a_iret fx hlo hr h d_Tr_insertDraft_106
    · have h := h.2 hc
      refine a_aload_n fx 1 d_Tr_insertDraft_93 rfl rfl ?_
      refine a_getI fx (T := F_Tr) (j := 3) (hk := hk0) (ht := ht0) (ht2 := by decide) (hc := rfl) (hin := u_in_Tr) (hj := by decide) (hj2 := by decide) (hf := rfl) (hT := rfl) (hw := w_138) (hd := d_Tr_insertDraft_94) (kk := ?_)
      refine a_iload_n fx 0 d_Tr_insertDraft_97 rfl rfl ?_
      refine a_iadd fx d_Tr_insertDraft_98 ?_
      refine a_sipush (v := 6000) fx d_Tr_insertDraft_99 rfl ?_
      refine a_icmp_le fx 107 d_Tr_insertDraft_102 rfl (fun hc => ?_) (fun hc => ?_)
      · have h := h.1 hc
        refine a_aload_n fx 1 d_Tr_insertDraft_107 rfl rfl ?_
        refine a_getI fx (T := F_Tr) (j := 2) (hk := hk0) (ht := ht0) (ht2 := by decide) (hc := rfl) (hin := u_in_Tr) (hj := by decide) (hj2 := by decide) (hf := rfl) (hT := rfl) (hw := w_135) (hd := d_Tr_insertDraft_108) (kk := ?_)
        refine a_topi (fun x14 ex14 => ?_)
        have h := h x14 ex14
        refine a_istore (lv2 := [(4, .int x14), (3, .int w0), (0, .ref (B + a0)), (1, .ref (B + v1)), (2, .int v2)]) fx d_Tr_insertDraft_111 (by decide) rfl ?_
        refine a_sub [2, 3, 4, 1, 0] rfl ?_
        exact h
      · have h := h.2 hc
        refine a_iconst (v := 4) fx d_Tr_insertDraft_105 rfl ?_
        exact a_iret fx hlo hr h d_Tr_insertDraft_106)
  have h := h (by
    intro v1 v2 v3 v4 M h
    obtain ⟨hk_v1, ht_v1, h⟩ := h
    refine a_iload fx 4 d_Tr_insertDraft_113 rfl ?_
    refine a_iload_n fx 2 d_Tr_insertDraft_115 rfl rfl ?_
    refine a_icmp_le fx 141 d_Tr_insertDraft_116 rfl (fun hc => ?_) (fun hc => ?_)
    · have h := h.1 hc
      refine a_aload_n fx 0 d_Tr_insertDraft_141 rfl rfl ?_
      refine a_getS fx (T := F_Tr) (j := 0) (hk := hk0) (ht := ht0) (ht2 := by decide) (hc := rfl) (hin := u_in_Tr) (hj := by decide) (hj2 := by decide) (hf := rfl) (n9 := 1) (hfo := rfl) (hT := rfl) (hw := w_131) (hd := d_Tr_insertDraft_142) (kk := ?_)
      refine a_iload_n fx 2 d_Tr_insertDraft_145 rfl rfl ?_
      refine a_aload_n fx 1 d_Tr_insertDraft_146 rfl rfl ?_
      obtain ⟨hin, h⟩ := h
      refine a_aast fx (lo_3_0 hk0 ht0).1 (lo_3_0 hk0 ht0).2 hk_v1 ht_v1 hin d_Tr_insertDraft_147 (a_mem (fun M15 eM15 => ?_))
      have h := h M15 eM15
      refine a_aload_n fx 0 d_Tr_insertDraft_148 rfl rfl ?_
      refine a_dup fx d_Tr_insertDraft_149 rfl ?_
      refine a_getI fx (T := F_Tr) (j := 2) (hk := hk0) (ht := ht0) (ht2 := by decide) (hc := rfl) (hin := u_in_Tr) (hj := by decide) (hj2 := by decide) (hf := rfl) (hT := rfl) (hw := w_135) (hd := d_Tr_insertDraft_150) (kk := ?_)
      refine a_iconst (v := 1) fx d_Tr_insertDraft_153 rfl ?_
      refine a_iadd fx d_Tr_insertDraft_154 ?_
      refine a_putI fx (T := F_Tr) (ty0 := t_Tr) (j := 2) (hk := hk0) (ht := ht0) (ht2 := by decide) (hc := rfl) (hin := u_in_Tr) (hty := t_Tr_ok) (hnm := n_Tr) (hj := by decide) (hj2 := by decide) (hf := rfl) (hT := rfl) (hfin := rfl) (hn := rfl) (hfit := rfl) (hw := w_135) (hd := d_Tr_insertDraft_155) (kk := a_mem (fun M16 eM16 => ?_))
      have h := h M16 eM16
      refine a_aload_n fx 0 d_Tr_insertDraft_158 rfl rfl ?_
      refine a_dup fx d_Tr_insertDraft_159 rfl ?_
      refine a_getI fx (T := F_Tr) (j := 3) (hk := hk0) (ht := ht0) (ht2 := by decide) (hc := rfl) (hin := u_in_Tr) (hj := by decide) (hj2 := by decide) (hf := rfl) (hT := rfl) (hw := w_138) (hd := d_Tr_insertDraft_160) (kk := ?_)
      refine a_iload_n fx 3 d_Tr_insertDraft_163 rfl rfl ?_
      refine a_iadd fx d_Tr_insertDraft_164 ?_
      refine a_putI fx (T := F_Tr) (ty0 := t_Tr) (j := 3) (hk := hk0) (ht := ht0) (ht2 := by decide) (hc := rfl) (hin := u_in_Tr) (hty := t_Tr_ok) (hnm := n_Tr) (hj := by decide) (hj2 := by decide) (hf := rfl) (hT := rfl) (hfin := rfl) (hn := rfl) (hfit := rfl) (hw := w_138) (hd := d_Tr_insertDraft_165) (kk := a_mem (fun M17 eM17 => ?_))
      have h := h M17 eM17
      refine a_iconst (v := 0) fx d_Tr_insertDraft_168 rfl ?_
      exact a_iret fx hlo hr h d_Tr_insertDraft_169
    · have h := h.2 hc
      refine a_aload_n fx 0 d_Tr_insertDraft_119 rfl rfl ?_
      refine a_getS fx (T := F_Tr) (j := 0) (hk := hk0) (ht := ht0) (ht2 := by decide) (hc := rfl) (hin := u_in_Tr) (hj := by decide) (hj2 := by decide) (hf := rfl) (n9 := 1) (hfo := rfl) (hT := rfl) (hw := w_131) (hd := d_Tr_insertDraft_120) (kk := ?_)
      refine a_iload fx 4 d_Tr_insertDraft_123 rfl ?_
      refine a_aload_n fx 0 d_Tr_insertDraft_125 rfl rfl ?_
      refine a_getS fx (T := F_Tr) (j := 0) (hk := hk0) (ht := ht0) (ht2 := by decide) (hc := rfl) (hin := u_in_Tr) (hj := by decide) (hj2 := by decide) (hf := rfl) (n9 := 1) (hfo := rfl) (hT := rfl) (hw := w_131) (hd := d_Tr_insertDraft_126) (kk := ?_)
      refine a_iload fx 4 d_Tr_insertDraft_129 rfl ?_
      refine a_iconst (v := 1) fx d_Tr_insertDraft_131 rfl ?_
      refine a_isub fx d_Tr_insertDraft_132 ?_
      obtain ⟨hin, h⟩ := h
      refine a_aald fx (lo_3_0 hk0 ht0).1 (lo_3_0 hk0 ht0).2 hin d_Tr_insertDraft_133 ?_
      refine a_topr (fun r18 er18 => ?_)
      obtain ⟨hkr18, htr18, h⟩ := h r18 er18
      obtain ⟨hin, h⟩ := h
      refine a_aast fx (lo_3_0 hk0 ht0).1 (lo_3_0 hk0 ht0).2 hkr18 htr18 hin d_Tr_insertDraft_134 (a_mem (fun M19 eM19 => ?_))
      have h := h M19 eM19
      obtain ⟨x20, ex20⟩ : ∃ z : Int32, z = v4 + (-1) := ⟨_, rfl⟩
      have h := h x20 ex20
      refine a_iinc (lv2 := [(4, .int x20), (0, .ref (B + a0)), (1, .ref (B + v1)), (2, .int v2), (3, .int v3)]) fx 4 d_Tr_insertDraft_135 rfl ex20.symm (by decide) rfl ?_
      refine a_goto fx 113 d_Tr_insertDraft_138 rfl ?_
      refine a_sub [1, 2, 3, 4, 0] rfl ?_
      exact h)
  refine a_aload_n fx 0 d_Tr_insertDraft_0 rfl rfl ?_
  refine a_callr (rest := []) (a_runV (As := []) fx cv_Tr_draft w_957 (Met_Tr_draft l B D aC aS (hk0 := hk0) (ht0 := ht0) h) hk0 ht0 (by decide) rfl rfl rfl (Nat.le_of_ble_eq_true rfl) rfl rfl ⟨Nat.le_of_ble_eq_true rfl, Nat.le_of_ble_eq_true rfl⟩ d_Tr_insertDraft_1 ⟨Nat.le_of_ble_eq_true rfl, Nat.le_of_ble_eq_true rfl⟩) (fun r2 M1 h => ?_)
  obtain ⟨hkr2, htr2, h⟩ := h
  refine a_astore_n (lv2 := [(1, .ref (B + r2)), (0, .ref (B + a0))]) fx d_Tr_insertDraft_4 rfl (by decide) rfl ?_
  refine a_aload_n fx 0 d_Tr_insertDraft_5 rfl rfl ?_
  refine a_calli (rest := []) (a_runV (As := []) fx cv_En_hasSoundPath w_973 (Met_En_hasSoundPath l B D aC aS (hk0 := hkr2) (ht0 := htr2) h) hkr2 htr2 (by decide) rfl rfl rfl (Nat.le_of_ble_eq_true rfl) rfl rfl ⟨Nat.le_of_ble_eq_true rfl, Nat.le_of_ble_eq_true rfl⟩ d_Tr_insertDraft_6 ⟨Nat.le_of_ble_eq_true rfl, Nat.le_of_ble_eq_true rfl⟩) (fun x4 M3 h => ?_)
  refine a_if_eq fx 20 d_Tr_insertDraft_9 rfl (fun hc => ?_) (fun hc => ?_)
  · have h := h.1 hc
    refine a_iconst (v := 2) fx d_Tr_insertDraft_20 rfl ?_
    exact a_iret fx hlo hr h d_Tr_insertDraft_21
  · have h := h.2 hc
    refine a_aload_n fx 1 d_Tr_insertDraft_12 rfl rfl ?_
    refine a_aload_n fx 0 d_Tr_insertDraft_13 rfl rfl ?_
    refine a_calli (rest := []) (a_runV (As := [.ref (B + r2)]) fx cv_Tr_hasParentOf w_982 (Met_Tr_hasParentOf l B D aC aS (hk0 := hk0) (ht0 := ht0) (hk1 := hkr2) (ht1 := htr2) h) hk0 ht0 (by decide) rfl rfl rfl (Nat.le_of_ble_eq_true rfl) rfl rfl ⟨Nat.le_of_ble_eq_true rfl, Nat.le_of_ble_eq_true rfl⟩ d_Tr_insertDraft_14 ⟨Nat.le_of_ble_eq_true rfl, Nat.le_of_ble_eq_true rfl⟩) (fun x6 M5 h => ?_)
    refine a_if_ne fx 22 d_Tr_insertDraft_17 rfl (fun hc => ?_) (fun hc => ?_)
    · have h := h.1 hc
      refine a_aload_n fx 1 d_Tr_insertDraft_22 rfl rfl ?_
      refine a_aload_n fx 0 d_Tr_insertDraft_23 rfl rfl ?_
      refine a_getSN fx (T := F_En) (j := 0) (hk := hkr2) (ht := htr2) (ht2 := by decide) (hc := rfl) (hin := u_in_En) (hj := by decide) (hj2 := by decide) (hf := rfl) (n9 := 1) (hfo := rfl) (hT := rfl) (q9 := 11) (hw := rfl) (hd := d_Tr_insertDraft_24) (kk := ?_)
      refine a_aload_n fx 0 d_Tr_insertDraft_27 rfl rfl ?_
      refine a_getSN fx (T := F_En) (j := 0) (hk := hkr2) (ht := htr2) (ht2 := by decide) (hc := rfl) (hin := u_in_En) (hj := by decide) (hj2 := by decide) (hf := rfl) (n9 := 1) (hfo := rfl) (hT := rfl) (q9 := 11) (hw := rfl) (hd := d_Tr_insertDraft_28) (kk := ?_)
      refine a_getIN fx (T := F_Ro) (j := 1) (hk := (lo_2_0 hkr2 htr2).1) (ht := (lo_2_0 hkr2 htr2).2) (ht2 := by decide) (hc := rfl) (hin := u_in_Ro) (hj := by decide) (hj2 := by decide) (hf := rfl) (hT := rfl) (q9 := 7) (hw := rfl) (hd := d_Tr_insertDraft_31) (kk := ?_)
      refine a_calli (rest := []) (a_runV (As := [.ref (B + (r2 + 1)), .int (M5.1 (r2 + 1) 1)]) fx cv_Tr_placeOf w_990 (Met_Tr_placeOf l B D aC aS (hk0 := hk0) (ht0 := ht0) (hk1 := (lo_2_0 hkr2 htr2).1) (ht1 := (lo_2_0 hkr2 htr2).2) h) hk0 ht0 (by decide) rfl rfl rfl (Nat.le_of_ble_eq_true rfl) rfl rfl ⟨Nat.le_of_ble_eq_true rfl, Nat.le_of_ble_eq_true rfl⟩ d_Tr_insertDraft_34 ⟨Nat.le_of_ble_eq_true rfl, Nat.le_of_ble_eq_true rfl⟩) (fun x8 M7 h => ?_)
      refine a_istore_n (lv2 := [(2, .int x8), (1, .ref (B + r2)), (0, .ref (B + a0))]) fx d_Tr_insertDraft_37 rfl (by decide) rfl ?_
      refine a_aload_n fx 2 d_Tr_insertDraft_38 rfl rfl ?_
      refine a_iload_n fx 0 d_Tr_insertDraft_39 rfl rfl ?_
      refine a_calli (rest := []) (a_runV (As := [.int x8]) fx cv_Tr_has w_995 (Met_Tr_has l B D aC aS (hk0 := hk0) (ht0 := ht0) h) hk0 ht0 (by decide) rfl rfl rfl (Nat.le_of_ble_eq_true rfl) rfl rfl ⟨Nat.le_of_ble_eq_true rfl, Nat.le_of_ble_eq_true rfl⟩ d_Tr_insertDraft_40 ⟨Nat.le_of_ble_eq_true rfl, Nat.le_of_ble_eq_true rfl⟩) (fun x10 M9 h => ?_)
      refine a_if_eq fx 67 d_Tr_insertDraft_43 rfl (fun hc => ?_) (fun hc => ?_)
      · have h := h.1 hc
        refine a_sub [2, 1, 0] rfl ?_
        exact h
      · have h := h.2 hc
        refine a_aload_n fx 2 d_Tr_insertDraft_46 rfl rfl ?_
        refine a_getS fx (T := F_Tr) (j := 0) (hk := hk0) (ht := ht0) (ht2 := by decide) (hc := rfl) (hin := u_in_Tr) (hj := by decide) (hj2 := by decide) (hf := rfl) (n9 := 1) (hfo := rfl) (hT := rfl) (hw := w_131) (hd := d_Tr_insertDraft_47) (kk := ?_)
        refine a_iload_n fx 0 d_Tr_insertDraft_50 rfl rfl ?_
        obtain ⟨hin, h⟩ := h
        refine a_aald fx (lo_3_0 hk0 ht0).1 (lo_3_0 hk0 ht0).2 hin d_Tr_insertDraft_51 ?_
        refine a_topr (fun r11 er11 => ?_)
        obtain ⟨hkr11, htr11, h⟩ := h r11 er11
        refine a_getSN fx (T := F_En) (j := 0) (hk := hkr11) (ht := htr11) (ht2 := by decide) (hc := rfl) (hin := u_in_En) (hj := by decide) (hj2 := by decide) (hf := rfl) (n9 := 1) (hfo := rfl) (hT := rfl) (q9 := 11) (hw := rfl) (hd := d_Tr_insertDraft_52) (kk := ?_)
        refine a_aload_n fx 1 d_Tr_insertDraft_55 rfl rfl ?_
        refine a_getSN fx (T := F_En) (j := 0) (hk := hkr2) (ht := htr2) (ht2 := by decide) (hc := rfl) (hin := u_in_En) (hj := by decide) (hj2 := by decide) (hf := rfl) (n9 := 1) (hfo := rfl) (hT := rfl) (q9 := 11) (hw := rfl) (hd := d_Tr_insertDraft_56) (kk := ?_)
        refine a_calli (rest := []) (a_runV (As := [.ref (B + (r2 + 1))]) fx cv_Ro_same w_999 (Met_Ro_same l B D aC aS (hk0 := (lo_2_0 hkr11 htr11).1) (ht0 := (lo_2_0 hkr11 htr11).2) (hk1 := (lo_2_0 hkr2 htr2).1) (ht1 := (lo_2_0 hkr2 htr2).2) h) (lo_2_0 hkr11 htr11).1 (lo_2_0 hkr11 htr11).2 (by decide) rfl rfl rfl (Nat.le_of_ble_eq_true rfl) rfl rfl ⟨Nat.le_of_ble_eq_true rfl, Nat.le_of_ble_eq_true rfl⟩ d_Tr_insertDraft_59 ⟨Nat.le_of_ble_eq_true rfl, Nat.le_of_ble_eq_true rfl⟩) (fun x13 M12 h => ?_)
        refine a_if_eq fx 67 d_Tr_insertDraft_62 rfl (fun hc => ?_) (fun hc => ?_)
        · have h := h.1 hc
          refine a_sub [2, 1, 0] rfl ?_
          exact h
        · have h := h.2 hc
          refine a_iconst (v := 3) fx d_Tr_insertDraft_65 rfl ?_
          exact a_iret fx hlo hr h d_Tr_insertDraft_66
    · have h := h.2 hc
      refine a_iconst (v := 2) fx d_Tr_insertDraft_20 rfl ?_
      exact a_iret fx hlo hr h d_Tr_insertDraft_21
set_option maxRecDepth 100000 in
set_option maxHeartbeats 4000000 in
theorem Met_Tr_enter (l : Launch) (B : Nat) (D : va_G) (aC : Nat → ClassId) (aS : Nat → Nat) {a0 : Nat} {a1 : Nat} {i2 : Int32} {i3 : Int32} {M : zM} {post : Int32 → zM → Prop} (hk0 : a0 < N0) (ht0 : tg a0 = 3) (hk1 : a1 < N0) (ht1 : tg a1 = 1) (h : Wp_Tr_enter a0 a1 i2 i3 M post) : Met l y_Tr_enter (wo y_Tr_enter b_Tr_enter 6 (some FieldType.int)) { frames := 4, cells := 0, slots := 0, locals := 94 } (va_Pc [.ref (B + a0), .ref (B + a1), .int i2, .int i3] (zWl B D aC aS M)) (zQi B D aC post) 0 0 (zAb B) := by
  refine z_met (own := "MailChain$Tree") (lv0 := [(0, .ref (B + a0)), (1, .ref (B + a1)), (2, .int i2), (3, .int i3)]) (by decide) rfl (Nat.le_of_ble_eq_true rfl) rfl ?_
  intro p e s m below meth c fx hr hlo
  delta Wp_Tr_enter at h
  refine a_aload_n fx 0 d_Tr_enter_0 rfl rfl ?_
  refine a_callr (rest := []) (a_runV (As := []) fx cv_Tr_draft w_957 (Met_Tr_draft l B D aC aS (hk0 := hk0) (ht0 := ht0) h) hk0 ht0 (by decide) rfl rfl rfl (Nat.le_of_ble_eq_true rfl) rfl rfl ⟨Nat.le_of_ble_eq_true rfl, Nat.le_of_ble_eq_true rfl⟩ d_Tr_enter_1 ⟨Nat.le_of_ble_eq_true rfl, Nat.le_of_ble_eq_true rfl⟩) (fun r2 M1 h => ?_)
  obtain ⟨hkr2, htr2, h⟩ := h
  refine a_astore (lv2 := [(4, .ref (B + r2)), (0, .ref (B + a0)), (1, .ref (B + a1)), (2, .int i2), (3, .int i3)]) fx d_Tr_enter_4 (by decide) rfl ?_
  refine a_aload fx 0 d_Tr_enter_6 rfl ?_
  refine a_calli (rest := []) (a_runV (As := []) fx cv_En_hasSoundFields w_958 (Met_En_hasSoundFields l B D aC aS (hk0 := hkr2) (ht0 := htr2) h) hkr2 htr2 (by decide) rfl rfl rfl (Nat.le_of_ble_eq_true rfl) rfl rfl ⟨Nat.le_of_ble_eq_true rfl, Nat.le_of_ble_eq_true rfl⟩ d_Tr_enter_8 ⟨Nat.le_of_ble_eq_true rfl, Nat.le_of_ble_eq_true rfl⟩) (fun x4 M3 h => ?_)
  refine a_if_eq fx 28 d_Tr_enter_11 rfl (fun hc => ?_) (fun hc => ?_)
  · have h := h.1 hc
    refine a_iconst (v := 2) fx d_Tr_enter_28 rfl ?_
    exact a_iret fx hlo hr h d_Tr_enter_29
  · have h := h.2 hc
    refine a_aload fx 0 d_Tr_enter_14 rfl ?_
    refine a_getIN fx (T := F_En) (j := 1) (hk := hkr2) (ht := htr2) (ht2 := by decide) (hc := rfl) (hin := u_in_En) (hj := by decide) (hj2 := by decide) (hf := rfl) (hT := rfl) (q9 := 14) (hw := rfl) (hd := d_Tr_enter_16) (kk := ?_)
    refine a_aload_n fx 2 d_Tr_enter_19 rfl rfl ?_
    refine a_iload_n fx 3 d_Tr_enter_20 rfl rfl ?_
    refine a_iload_n fx 4 d_Tr_enter_21 rfl rfl ?_
    refine a_calli (rest := []) (a_runS (As := [.int (M3.1 r2 1), .ref (B + a1), .int i2, .int i3]) fx  cv_Tr_isBody w_962 (Met_Tr_isBody l B D aC aS (hk1 := hk1) (ht1 := ht1) h) rfl rfl (Nat.le_of_ble_eq_true rfl) rfl rfl ⟨Nat.le_of_ble_eq_true rfl, Nat.le_of_ble_eq_true rfl⟩ d_Tr_enter_22 ⟨Nat.le_of_ble_eq_true rfl, Nat.le_of_ble_eq_true rfl⟩) (fun x6 M5 h => ?_)
    refine a_if_ne fx 30 d_Tr_enter_25 rfl (fun hc => ?_) (fun hc => ?_)
    · have h := h.1 hc
      refine a_aload fx 0 d_Tr_enter_30 rfl ?_
      refine a_aload_n fx 1 d_Tr_enter_32 rfl rfl ?_
      refine a_getS fx (T := F_Tr) (j := 1) (hk := hk0) (ht := ht0) (ht2 := by decide) (hc := rfl) (hin := u_in_Tr) (hj := by decide) (hj2 := by decide) (hf := rfl) (n9 := 125) (hfo := rfl) (hT := rfl) (hw := w_133) (hd := d_Tr_enter_33) (kk := ?_)
      refine a_getIN fx (T := F_Ro) (j := 1) (hk := (lo_3_1 hk0 ht0).1) (ht := (lo_3_1 hk0 ht0).2) (ht2 := by decide) (hc := rfl) (hin := u_in_Ro) (hj := by decide) (hj2 := by decide) (hf := rfl) (hT := rfl) (q9 := 7) (hw := rfl) (hd := d_Tr_enter_36) (kk := ?_)
      refine a_putIN fx (T := F_En) (ty0 := t_En) (j := 6) (hk := hkr2) (ht := htr2) (ht2 := by decide) (hc := rfl) (hin := u_in_En) (hty := t_En_ok) (hnm := n_En) (hj := by decide) (hj2 := by decide) (hf := rfl) (hT := rfl) (hfin := rfl) (hn := rfl) (hfit := rfl) (q9 := 28) (hw := rfl) (hd := d_Tr_enter_39) (kk := a_mem (fun M7 eM7 => ?_))
      have h := h M7 eM7
      refine a_aload fx 0 d_Tr_enter_42 rfl ?_
      refine a_iload_n fx 4 d_Tr_enter_44 rfl rfl ?_
      refine a_iload_n fx 3 d_Tr_enter_45 rfl rfl ?_
      refine a_isub fx d_Tr_enter_46 ?_
      refine a_putIN fx (T := F_En) (ty0 := t_En) (j := 7) (hk := hkr2) (ht := htr2) (ht2 := by decide) (hc := rfl) (hin := u_in_En) (hty := t_En_ok) (hnm := n_En) (hj := by decide) (hj2 := by decide) (hf := rfl) (hT := rfl) (hfin := rfl) (hn := rfl) (hfit := rfl) (q9 := 30) (hw := rfl) (hd := d_Tr_enter_47) (kk := a_mem (fun M8 eM8 => ?_))
      have h := h M8 eM8
      refine a_aload fx 0 d_Tr_enter_50 rfl ?_
      refine a_aload_n fx 1 d_Tr_enter_52 rfl rfl ?_
      refine a_getI fx (T := F_Tr) (j := 2) (hk := hk0) (ht := ht0) (ht2 := by decide) (hc := rfl) (hin := u_in_Tr) (hj := by decide) (hj2 := by decide) (hf := rfl) (hT := rfl) (hw := w_135) (hd := d_Tr_enter_53) (kk := ?_)
      refine a_putIN fx (T := F_En) (ty0 := t_En) (j := 8) (hk := hkr2) (ht := htr2) (ht2 := by decide) (hc := rfl) (hin := u_in_En) (hty := t_En_ok) (hnm := n_En) (hj := by decide) (hj2 := by decide) (hf := rfl) (hT := rfl) (hfin := rfl) (hn := rfl) (hfit := rfl) (q9 := 31) (hw := rfl) (hd := d_Tr_enter_56) (kk := a_mem (fun M9 eM9 => ?_))
      have h := h M9 eM9
      refine a_aload_n fx 1 d_Tr_enter_59 rfl rfl ?_
      refine a_calli (rest := []) (a_runV (As := []) fx cv_Tr_insertDraft w_969 (Met_Tr_insertDraft l B D aC aS (hk0 := hk0) (ht0 := ht0) h) hk0 ht0 (by decide) rfl rfl rfl (Nat.le_of_ble_eq_true rfl) rfl rfl ⟨Nat.le_of_ble_eq_true rfl, Nat.le_of_ble_eq_true rfl⟩ d_Tr_enter_60 ⟨Nat.le_of_ble_eq_true rfl, Nat.le_of_ble_eq_true rfl⟩) (fun x11 M10 h => ?_)
      refine a_istore (lv2 := [(5, .int x11), (4, .ref (B + r2)), (0, .ref (B + a0)), (1, .ref (B + a1)), (2, .int i2), (3, .int i3)]) fx d_Tr_enter_63 (by decide) rfl ?_
      refine a_iload fx 0 d_Tr_enter_65 rfl ?_
      refine a_if_ne fx 80 d_Tr_enter_67 rfl (fun hc => ?_) (fun hc => ?_)
      · have h := h.1 hc
        refine a_iload fx 0 d_Tr_enter_80 rfl ?_
        exact a_iret fx hlo hr h d_Tr_enter_82
      · have h := h.2 hc
        refine a_aload_n fx 2 d_Tr_enter_70 rfl rfl ?_
        refine a_getS fx (T := F_Tr) (j := 1) (hk := hk0) (ht := ht0) (ht2 := by decide) (hc := rfl) (hin := u_in_Tr) (hj := by decide) (hj2 := by decide) (hf := rfl) (n9 := 125) (hfo := rfl) (hT := rfl) (hw := w_133) (hd := d_Tr_enter_71) (kk := ?_)
        refine a_aload_n fx 3 d_Tr_enter_74 rfl rfl ?_
        refine a_iload_n fx 4 d_Tr_enter_75 rfl rfl ?_
        refine a_iload_n fx 5 d_Tr_enter_76 rfl rfl ?_
        refine a_callv (rest := []) (a_runV (As := [.ref (B + a1), .int i2, .int i3]) fx cv_Ro_putRange w_1000 (Met_Ro_putRange l B D aC aS (hk0 := (lo_3_1 hk0 ht0).1) (ht0 := (lo_3_1 hk0 ht0).2) (hk1 := hk1) (ht1 := ht1) h) (lo_3_1 hk0 ht0).1 (lo_3_1 hk0 ht0).2 (by decide) rfl rfl rfl (Nat.le_of_ble_eq_true rfl) rfl rfl ⟨Nat.le_of_ble_eq_true rfl, Nat.le_of_ble_eq_true rfl⟩ d_Tr_enter_77 ⟨Nat.le_of_ble_eq_true rfl, Nat.le_of_ble_eq_true rfl⟩) (fun M12 h => ?_)
        refine a_iload fx 0 d_Tr_enter_80 rfl ?_
        exact a_iret fx hlo hr h d_Tr_enter_82
    · have h := h.2 hc
      refine a_iconst (v := 2) fx d_Tr_enter_28 rfl ?_
      exact a_iret fx hlo hr h d_Tr_enter_29
set_option maxRecDepth 100000 in
set_option maxHeartbeats 4000000 in
theorem Met_Tr_enterLink (l : Launch) (B : Nat) (D : va_G) (aC : Nat → ClassId) (aS : Nat → Nat) {a0 : Nat} {i1 : Int32} {M : zM} {post : Int32 → zM → Prop} (hk0 : a0 < N0) (ht0 : tg a0 = 3) (h : Wp_Tr_enterLink a0 i1 M post) : Met l y_Tr_enterLink (wo y_Tr_enterLink b_Tr_enterLink 2 (some FieldType.int)) { frames := 4, cells := 0, slots := 0, locals := 94 } (va_Pc [.ref (B + a0), .int i1] (zWl B D aC aS M)) (zQi B D aC post) 0 0 (zAb B) := by
  refine z_met (own := "MailChain$Tree") (lv0 := [(0, .ref (B + a0)), (1, .int i1)]) (by decide) rfl (Nat.le_of_ble_eq_true rfl) rfl ?_
  intro p e s m below meth c fx hr hlo
  delta Wp_Tr_enterLink at h
  refine a_aload_n fx 0 d_Tr_enterLink_0 rfl rfl ?_
  refine a_iload_n fx 1 d_Tr_enterLink_1 rfl rfl ?_
  refine a_calli (rest := []) (a_runV (As := [.int i1]) fx cv_Tr_has w_995 (Met_Tr_has l B D aC aS (hk0 := hk0) (ht0 := ht0) h) hk0 ht0 (by decide) rfl rfl rfl (Nat.le_of_ble_eq_true rfl) rfl rfl ⟨Nat.le_of_ble_eq_true rfl, Nat.le_of_ble_eq_true rfl⟩ d_Tr_enterLink_2 ⟨Nat.le_of_ble_eq_true rfl, Nat.le_of_ble_eq_true rfl⟩) (fun x2 M1 h => ?_)
  refine a_if_ne fx 10 d_Tr_enterLink_5 rfl (fun hc => ?_) (fun hc => ?_)
  · have h := h.1 hc
    refine a_aload_n fx 0 d_Tr_enterLink_10 rfl rfl ?_
    refine a_getS fx (T := F_Tr) (j := 0) (hk := hk0) (ht := ht0) (ht2 := by decide) (hc := rfl) (hin := u_in_Tr) (hj := by decide) (hj2 := by decide) (hf := rfl) (n9 := 1) (hfo := rfl) (hT := rfl) (hw := w_131) (hd := d_Tr_enterLink_11) (kk := ?_)
    refine a_iload_n fx 1 d_Tr_enterLink_14 rfl rfl ?_
    obtain ⟨hin, h⟩ := h
    refine a_aald fx (lo_3_0 hk0 ht0).1 (lo_3_0 hk0 ht0).2 hin d_Tr_enterLink_15 ?_
    refine a_topr (fun r3 er3 => ?_)
    obtain ⟨hkr3, htr3, h⟩ := h r3 er3
    refine a_getIN fx (T := F_En) (j := 1) (hk := hkr3) (ht := htr3) (ht2 := by decide) (hc := rfl) (hin := u_in_En) (hj := by decide) (hj2 := by decide) (hf := rfl) (hT := rfl) (q9 := 14) (hw := rfl) (hd := d_Tr_enterLink_16) (kk := ?_)
    refine a_iconst (v := 1) fx d_Tr_enterLink_19 rfl ?_
    refine a_icmp_eq fx 25 d_Tr_enterLink_20 rfl (fun hc => ?_) (fun hc => ?_)
    · have h := h.1 hc
      refine a_aload_n fx 0 d_Tr_enterLink_25 rfl rfl ?_
      refine a_callr (rest := []) (a_runV (As := []) fx cv_Tr_draft w_957 (Met_Tr_draft l B D aC aS (hk0 := hk0) (ht0 := ht0) h) hk0 ht0 (by decide) rfl rfl rfl (Nat.le_of_ble_eq_true rfl) rfl rfl ⟨Nat.le_of_ble_eq_true rfl, Nat.le_of_ble_eq_true rfl⟩ d_Tr_enterLink_26 ⟨Nat.le_of_ble_eq_true rfl, Nat.le_of_ble_eq_true rfl⟩) (fun r5 M4 h => ?_)
      obtain ⟨hkr5, htr5, h⟩ := h
      refine a_aload_n fx 0 d_Tr_enterLink_29 rfl rfl ?_
      refine a_getS fx (T := F_Tr) (j := 0) (hk := hk0) (ht := ht0) (ht2 := by decide) (hc := rfl) (hin := u_in_Tr) (hj := by decide) (hj2 := by decide) (hf := rfl) (n9 := 1) (hfo := rfl) (hT := rfl) (hw := w_131) (hd := d_Tr_enterLink_30) (kk := ?_)
      refine a_iload_n fx 1 d_Tr_enterLink_33 rfl rfl ?_
      obtain ⟨hin, h⟩ := h
      refine a_aald fx (lo_3_0 hk0 ht0).1 (lo_3_0 hk0 ht0).2 hin d_Tr_enterLink_34 ?_
      refine a_topr (fun r6 er6 => ?_)
      obtain ⟨hkr6, htr6, h⟩ := h r6 er6
      refine a_callv (rest := []) (a_runV (As := [.ref (B + r6)]) fx cv_En_becomeLinkOf w_1005 (Met_En_becomeLinkOf l B D aC aS (hk0 := hkr5) (ht0 := htr5) (hk1 := hkr6) (ht1 := htr6) h) hkr5 htr5 (by decide) rfl rfl rfl (Nat.le_of_ble_eq_true rfl) rfl rfl ⟨Nat.le_of_ble_eq_true rfl, Nat.le_of_ble_eq_true rfl⟩ d_Tr_enterLink_35 ⟨Nat.le_of_ble_eq_true rfl, Nat.le_of_ble_eq_true rfl⟩) (fun M7 h => ?_)
      refine a_aload_n fx 0 d_Tr_enterLink_38 rfl rfl ?_
      refine a_calli (rest := []) (a_runV (As := []) fx cv_Tr_insertDraft w_969 (Met_Tr_insertDraft l B D aC aS (hk0 := hk0) (ht0 := ht0) h) hk0 ht0 (by decide) rfl rfl rfl (Nat.le_of_ble_eq_true rfl) rfl rfl ⟨Nat.le_of_ble_eq_true rfl, Nat.le_of_ble_eq_true rfl⟩ d_Tr_enterLink_39 ⟨Nat.le_of_ble_eq_true rfl, Nat.le_of_ble_eq_true rfl⟩) (fun x9 M8 h => ?_)
      exact a_iret fx hlo hr h d_Tr_enterLink_42
    · have h := h.2 hc
      refine a_iconst (v := 2) fx d_Tr_enterLink_23 rfl ?_
      exact a_iret fx hlo hr h d_Tr_enterLink_24
  · have h := h.2 hc
    refine a_iconst (v := 1) fx d_Tr_enterLink_8 rfl ?_
    exact a_iret fx hlo hr h d_Tr_enterLink_9
set_option maxRecDepth 100000 in
set_option maxHeartbeats 4000000 in
theorem Met_Tr_firstLinkOf (l : Launch) (B : Nat) (D : va_G) (aC : Nat → ClassId) (aS : Nat → Nat) {a0 : Nat} {i1 : Int32} {M : zM} {post : Int32 → zM → Prop} (hk0 : a0 < N0) (ht0 : tg a0 = 3) (h : Wp_Tr_firstLinkOf a0 i1 M post) : Met l y_Tr_firstLinkOf (wo y_Tr_firstLinkOf b_Tr_firstLinkOf 3 (some FieldType.int)) { frames := 0, cells := 0, slots := 0, locals := 0 } (va_Pc [.ref (B + a0), .int i1] (zWl B D aC aS M)) (zQi B D aC post) 0 0 (zAb B) := by
  refine z_met (own := "MailChain$Tree") (lv0 := [(0, .ref (B + a0)), (1, .int i1)]) (by decide) rfl (Nat.le_of_ble_eq_true rfl) rfl ?_
  intro p e s m below meth c fx hr hlo
  delta Wp_Tr_firstLinkOf at h
  have h := h (fun v2 M => zAt p l e { frames := 0, cells := 0, slots := 0, locals := 0 } s m ([.ref (B + a0), .int i1] : List Value).toArray below meth c 0 0 (MQ below (zQi B D aC post) ([.ref (B + a0), .int i1] : List Value).toArray s 0 0 (zAb B)) B D aC 3 2 [(0, .ref (B + a0)), (1, .int i1), (2, .int v2)] [] M)
  have h := h (by
    intro v2 M h
    refine a_iload_n fx 2 d_Tr_firstLinkOf_2 rfl rfl ?_
    refine a_iload_n fx 1 d_Tr_firstLinkOf_3 rfl rfl ?_
    refine a_icmp_ge fx 34 d_Tr_firstLinkOf_4 rfl (fun hc => ?_) (fun hc => ?_)
    · have h := h.1 hc
      refine a_iload_n fx 2 d_Tr_firstLinkOf_34 rfl rfl ?_
      exact a_iret fx hlo hr h d_Tr_firstLinkOf_35
    · have h := h.2 hc
      refine a_aload_n fx 0 d_Tr_firstLinkOf_7 rfl rfl ?_
      refine a_getS fx (T := F_Tr) (j := 0) (hk := hk0) (ht := ht0) (ht2 := by decide) (hc := rfl) (hin := u_in_Tr) (hj := by decide) (hj2 := by decide) (hf := rfl) (n9 := 1) (hfo := rfl) (hT := rfl) (hw := w_131) (hd := d_Tr_firstLinkOf_8) (kk := ?_)
      refine a_iload_n fx 2 d_Tr_firstLinkOf_11 rfl rfl ?_
      obtain ⟨hin, h⟩ := h
      refine a_aald fx (lo_3_0 hk0 ht0).1 (lo_3_0 hk0 ht0).2 hin d_Tr_firstLinkOf_12 ?_
      refine a_topr (fun r1 er1 => ?_)
      obtain ⟨hkr1, htr1, h⟩ := h r1 er1
      refine a_getIN fx (T := F_En) (j := 8) (hk := hkr1) (ht := htr1) (ht2 := by decide) (hc := rfl) (hin := u_in_En) (hj := by decide) (hj2 := by decide) (hf := rfl) (hT := rfl) (q9 := 31) (hw := rfl) (hd := d_Tr_firstLinkOf_13) (kk := ?_)
      refine a_aload_n fx 0 d_Tr_firstLinkOf_16 rfl rfl ?_
      refine a_getS fx (T := F_Tr) (j := 0) (hk := hk0) (ht := ht0) (ht2 := by decide) (hc := rfl) (hin := u_in_Tr) (hj := by decide) (hj2 := by decide) (hf := rfl) (n9 := 1) (hfo := rfl) (hT := rfl) (hw := w_131) (hd := d_Tr_firstLinkOf_17) (kk := ?_)
      refine a_iload_n fx 1 d_Tr_firstLinkOf_20 rfl rfl ?_
      obtain ⟨hin, h⟩ := h
      refine a_aald fx (lo_3_0 hk0 ht0).1 (lo_3_0 hk0 ht0).2 hin d_Tr_firstLinkOf_21 ?_
      refine a_topr (fun r2 er2 => ?_)
      obtain ⟨hkr2, htr2, h⟩ := h r2 er2
      refine a_getIN fx (T := F_En) (j := 8) (hk := hkr2) (ht := htr2) (ht2 := by decide) (hc := rfl) (hin := u_in_En) (hj := by decide) (hj2 := by decide) (hf := rfl) (hT := rfl) (q9 := 31) (hw := rfl) (hd := d_Tr_firstLinkOf_22) (kk := ?_)
      refine a_icmp_eq fx 34 d_Tr_firstLinkOf_25 rfl (fun hc => ?_) (fun hc => ?_)
      · have h := h.1 hc
        refine a_iload_n fx 2 d_Tr_firstLinkOf_34 rfl rfl ?_
        exact a_iret fx hlo hr h d_Tr_firstLinkOf_35
      · have h := h.2 hc
        obtain ⟨x3, ex3⟩ : ∃ z : Int32, z = v2 + 1 := ⟨_, rfl⟩
        have h := h x3 ex3
        refine a_iinc (lv2 := [(2, .int x3), (0, .ref (B + a0)), (1, .int i1)]) fx 2 d_Tr_firstLinkOf_28 rfl ex3.symm (by decide) rfl ?_
        refine a_goto fx 2 d_Tr_firstLinkOf_31 rfl ?_
        refine a_sub [1, 2, 0] rfl ?_
        exact h)
  refine a_iconst (v := 0) fx d_Tr_firstLinkOf_0 rfl ?_
  refine a_istore_n (lv2 := [(2, .int 0), (0, .ref (B + a0)), (1, .int i1)]) fx d_Tr_firstLinkOf_1 rfl (by decide) rfl ?_
  refine a_sub [1, 2, 0] rfl ?_
  exact h
set_option maxRecDepth 100000 in
set_option maxHeartbeats 4000000 in
theorem Met_Tr_linksOf (l : Launch) (B : Nat) (D : va_G) (aC : Nat → ClassId) (aS : Nat → Nat) {a0 : Nat} {i1 : Int32} {M : zM} {post : Int32 → zM → Prop} (hk0 : a0 < N0) (ht0 : tg a0 = 3) (h : Wp_Tr_linksOf a0 i1 M post) : Met l y_Tr_linksOf (wo y_Tr_linksOf b_Tr_linksOf 4 (some FieldType.int)) { frames := 0, cells := 0, slots := 0, locals := 0 } (va_Pc [.ref (B + a0), .int i1] (zWl B D aC aS M)) (zQi B D aC post) 0 0 (zAb B) := by
  refine z_met (own := "MailChain$Tree") (lv0 := [(0, .ref (B + a0)), (1, .int i1)]) (by decide) rfl (Nat.le_of_ble_eq_true rfl) rfl ?_
  intro p e s m below meth c fx hr hlo
  delta Wp_Tr_linksOf at h
  have h := h (fun v2 v3 M => zAt p l e { frames := 0, cells := 0, slots := 0, locals := 0 } s m ([.ref (B + a0), .int i1] : List Value).toArray below meth c 0 0 (MQ below (zQi B D aC post) ([.ref (B + a0), .int i1] : List Value).toArray s 0 0 (zAb B)) B D aC 4 4 [(0, .ref (B + a0)), (1, .int i1), (2, .int v2), (3, .int v3)] [] M)
  have h := h (by
    intro v2 v3 M h
    refine a_iload_n fx 3 d_Tr_linksOf_4 rfl rfl ?_
    refine a_aload_n fx 0 d_Tr_linksOf_5 rfl rfl ?_
    refine a_getI fx (T := F_Tr) (j := 2) (hk := hk0) (ht := ht0) (ht2 := by decide) (hc := rfl) (hin := u_in_Tr) (hj := by decide) (hj2 := by decide) (hf := rfl) (hT := rfl) (hw := w_135) (hd := d_Tr_linksOf_6) (kk := ?_)
    refine a_icmp_ge fx 42 d_Tr_linksOf_9 rfl (fun hc => ?_) (fun hc => ?_)
    · have h := h.1 hc
      refine a_iload_n fx 2 d_Tr_linksOf_42 rfl rfl ?_
      exact a_iret fx hlo hr h d_Tr_linksOf_43
    · have h := h.2 hc
      refine a_aload_n fx 0 d_Tr_linksOf_12 rfl rfl ?_
      refine a_getS fx (T := F_Tr) (j := 0) (hk := hk0) (ht := ht0) (ht2 := by decide) (hc := rfl) (hin := u_in_Tr) (hj := by decide) (hj2 := by decide) (hf := rfl) (n9 := 1) (hfo := rfl) (hT := rfl) (hw := w_131) (hd := d_Tr_linksOf_13) (kk := ?_)
      refine a_iload_n fx 3 d_Tr_linksOf_16 rfl rfl ?_
      obtain ⟨hin, h⟩ := h
      refine a_aald fx (lo_3_0 hk0 ht0).1 (lo_3_0 hk0 ht0).2 hin d_Tr_linksOf_17 ?_
      refine a_topr (fun r1 er1 => ?_)
      obtain ⟨hkr1, htr1, h⟩ := h r1 er1
      refine a_getIN fx (T := F_En) (j := 8) (hk := hkr1) (ht := htr1) (ht2 := by decide) (hc := rfl) (hin := u_in_En) (hj := by decide) (hj2 := by decide) (hf := rfl) (hT := rfl) (q9 := 31) (hw := rfl) (hd := d_Tr_linksOf_18) (kk := ?_)
      refine a_aload_n fx 0 d_Tr_linksOf_21 rfl rfl ?_
      refine a_getS fx (T := F_Tr) (j := 0) (hk := hk0) (ht := ht0) (ht2 := by decide) (hc := rfl) (hin := u_in_Tr) (hj := by decide) (hj2 := by decide) (hf := rfl) (n9 := 1) (hfo := rfl) (hT := rfl) (hw := w_131) (hd := d_Tr_linksOf_22) (kk := ?_)
      refine a_iload_n fx 1 d_Tr_linksOf_25 rfl rfl ?_
      obtain ⟨hin, h⟩ := h
      refine a_aald fx (lo_3_0 hk0 ht0).1 (lo_3_0 hk0 ht0).2 hin d_Tr_linksOf_26 ?_
      refine a_topr (fun r2 er2 => ?_)
      obtain ⟨hkr2, htr2, h⟩ := h r2 er2
      refine a_getIN fx (T := F_En) (j := 8) (hk := hkr2) (ht := htr2) (ht2 := by decide) (hc := rfl) (hin := u_in_En) (hj := by decide) (hj2 := by decide) (hf := rfl) (hT := rfl) (q9 := 31) (hw := rfl) (hd := d_Tr_linksOf_27) (kk := ?_)
      refine a_icmp_ne fx 36 d_Tr_linksOf_30 rfl (fun hc => ?_) (fun hc => ?_)
      · have h := h.1 hc
        obtain ⟨x3, ex3⟩ : ∃ z : Int32, z = v3 + 1 := ⟨_, rfl⟩
        have h := h x3 ex3
        refine a_iinc (lv2 := [(3, .int x3), (0, .ref (B + a0)), (1, .int i1), (2, .int v2)]) fx 3 d_Tr_linksOf_36 rfl ex3.symm (by decide) rfl ?_
        refine a_goto fx 4 d_Tr_linksOf_39 rfl ?_
        refine a_sub [1, 2, 3, 0] rfl ?_
        exact h
      · have h := h.2 hc
        obtain ⟨x4, ex4⟩ : ∃ z : Int32, z = v2 + 1 := ⟨_, rfl⟩
        have h := h x4 ex4
        refine a_iinc (lv2 := [(2, .int x4), (0, .ref (B + a0)), (1, .int i1), (3, .int v3)]) fx 2 d_Tr_linksOf_33 rfl ex4.symm (by decide) rfl ?_
        obtain ⟨x5, ex5⟩ : ∃ z : Int32, z = v3 + 1 := ⟨_, rfl⟩
        have h := h x5 ex5
        refine a_iinc (lv2 := [(3, .int x5), (2, .int x4), (0, .ref (B + a0)), (1, .int i1)]) fx 3 d_Tr_linksOf_36 rfl ex5.symm (by decide) rfl ?_
        refine a_goto fx 4 d_Tr_linksOf_39 rfl ?_
        refine a_sub [2, 3, 1, 0] rfl ?_
        exact h)
  refine a_iconst (v := 0) fx d_Tr_linksOf_0 rfl ?_
  refine a_istore_n (lv2 := [(2, .int 0), (0, .ref (B + a0)), (1, .int i1)]) fx d_Tr_linksOf_1 rfl (by decide) rfl ?_
  refine a_iconst (v := 0) fx d_Tr_linksOf_2 rfl ?_
  refine a_istore_n (lv2 := [(3, .int 0), (2, .int 0), (0, .ref (B + a0)), (1, .int i1)]) fx d_Tr_linksOf_3 rfl (by decide) rfl ?_
  refine a_sub [2, 3, 1, 0] rfl ?_
  exact h
set_option maxRecDepth 100000 in
set_option maxHeartbeats 4000000 in
theorem Met_Tr_hasArchive (l : Launch) (B : Nat) (D : va_G) (aC : Nat → ClassId) (aS : Nat → Nat) {a0 : Nat} {M : zM} {post : Int32 → zM → Prop} (hk0 : a0 < N0) (ht0 : tg a0 = 3) (h : Wp_Tr_hasArchive a0 M post) : Met l y_Tr_hasArchive (wo y_Tr_hasArchive b_Tr_hasArchive 3 (some FieldType.boolean)) { frames := 0, cells := 0, slots := 0, locals := 0 } (va_Pc [.ref (B + a0)] (zWl B D aC aS M)) (zQi B D aC post) 0 0 (zAb B) := by
  refine z_met (own := "MailChain$Tree") (lv0 := [(0, .ref (B + a0))]) (by decide) rfl (Nat.le_of_ble_eq_true rfl) rfl ?_
  intro p e s m below meth c fx hr hlo
  delta Wp_Tr_hasArchive at h
  have h := h (fun v1 M => zAt p l e { frames := 0, cells := 0, slots := 0, locals := 0 } s m ([.ref (B + a0)] : List Value).toArray below meth c 0 0 (MQ below (zQi B D aC post) ([.ref (B + a0)] : List Value).toArray s 0 0 (zAb B)) B D aC 3 2 [(0, .ref (B + a0)), (1, .int v1)] [] M)
  have h := h (by
    intro v1 M h
    refine a_iload_n fx 1 d_Tr_hasArchive_2 rfl rfl ?_
    refine a_aload_n fx 0 d_Tr_hasArchive_3 rfl rfl ?_
    refine a_getI fx (T := F_Tr) (j := 2) (hk := hk0) (ht := ht0) (ht2 := by decide) (hc := rfl) (hin := u_in_Tr) (hj := by decide) (hj2 := by decide) (hf := rfl) (hT := rfl) (hw := w_135) (hd := d_Tr_hasArchive_4) (kk := ?_)
    refine a_icmp_ge fx 43 d_Tr_hasArchive_7 rfl (fun hc => ?_) (fun hc => ?_)
    · have h := h.1 hc
      refine a_iconst (v := 1) fx d_Tr_hasArchive_43 rfl ?_
      exact a_zret fx hlo hr rfl h d_Tr_hasArchive_44
    · have h := h.2 hc
      refine a_aload_n fx 0 d_Tr_hasArchive_10 rfl rfl ?_
      refine a_getS fx (T := F_Tr) (j := 0) (hk := hk0) (ht := ht0) (ht2 := by decide) (hc := rfl) (hin := u_in_Tr) (hj := by decide) (hj2 := by decide) (hf := rfl) (n9 := 1) (hfo := rfl) (hT := rfl) (hw := w_131) (hd := d_Tr_hasArchive_11) (kk := ?_)
      refine a_iload_n fx 1 d_Tr_hasArchive_14 rfl rfl ?_
      obtain ⟨hin, h⟩ := h
      refine a_aald fx (lo_3_0 hk0 ht0).1 (lo_3_0 hk0 ht0).2 hin d_Tr_hasArchive_15 ?_
      refine a_topr (fun r1 er1 => ?_)
      obtain ⟨hkr1, htr1, h⟩ := h r1 er1
      refine a_astore_n (lv2 := [(2, .ref (B + r1)), (0, .ref (B + a0)), (1, .int v1)]) fx d_Tr_hasArchive_16 rfl (by decide) rfl ?_
      refine a_aload_n fx 0 d_Tr_hasArchive_17 rfl rfl ?_
      refine a_getIN fx (T := F_En) (j := 3) (hk := hkr1) (ht := htr1) (ht2 := by decide) (hc := rfl) (hin := u_in_En) (hj := by decide) (hj2 := by decide) (hf := rfl) (hT := rfl) (q9 := 20) (hw := rfl) (hd := d_Tr_hasArchive_18) (kk := ?_)
      refine a_ldc fx w_1017 d_Tr_hasArchive_21 ?_
      refine a_icmp_gt fx 35 d_Tr_hasArchive_23 rfl (fun hc => ?_) (fun hc => ?_)
      · have h := h.1 hc
        refine a_iconst (v := 0) fx d_Tr_hasArchive_35 rfl ?_
        exact a_zret fx hlo hr rfl h d_Tr_hasArchive_36
      · have h := h.2 hc
        refine a_aload_n fx 0 d_Tr_hasArchive_26 rfl rfl ?_
        refine a_getIN fx (T := F_En) (j := 4) (hk := hkr1) (ht := htr1) (ht2 := by decide) (hc := rfl) (hin := u_in_En) (hj := by decide) (hj2 := by decide) (hf := rfl) (hT := rfl) (q9 := 23) (hw := rfl) (hd := d_Tr_hasArchive_27) (kk := ?_)
        refine a_ldc fx w_1017 d_Tr_hasArchive_30 ?_
        refine a_icmp_le fx 37 d_Tr_hasArchive_32 rfl (fun hc => ?_) (fun hc => ?_)
        · have h := h.1 hc
          obtain ⟨x2, ex2⟩ : ∃ z : Int32, z = v1 + 1 := ⟨_, rfl⟩
          have h := h x2 ex2
          refine a_iinc (lv2 := [(1, .int x2), (2, .ref (B + r1)), (0, .ref (B + a0))]) fx 2 d_Tr_hasArchive_37 rfl ex2.symm (by decide) rfl ?_
          refine a_goto fx 2 d_Tr_hasArchive_40 rfl ?_
          refine a_sub [2, 0] rfl ?_
          exact h
        · have h := h.2 hc
          refine a_iconst (v := 0) fx d_Tr_hasArchive_35 rfl ?_
          exact a_zret fx hlo hr rfl h d_Tr_hasArchive_36)
  refine a_iconst (v := 0) fx d_Tr_hasArchive_0 rfl ?_
  refine a_istore_n (lv2 := [(1, .int 0), (0, .ref (B + a0))]) fx d_Tr_hasArchive_1 rfl (by decide) rfl ?_
  refine a_sub [1, 0] rfl ?_
  exact h
set_option maxRecDepth 100000 in
set_option maxHeartbeats 4000000 in
theorem Met_Tr_tell (l : Launch) (B : Nat) (D : va_G) (aC : Nat → ClassId) (aS : Nat → Nat) {a0 : Nat} {i1 : Int32} {i2 : Int32} {M : zM} {post : Int32 → zM → Prop} (hk0 : a0 < N0) (ht0 : tg a0 = 3) (h : Wp_Tr_tell a0 i1 i2 M post) : Met l y_Tr_tell (wo y_Tr_tell b_Tr_tell 4 (some FieldType.int)) { frames := 1, cells := 0, slots := 0, locals := 23 } (va_Pc [.ref (B + a0), .int i1, .int i2] (zWl B D aC aS M)) (zQi B D aC post) 0 0 (zAb B) := by
  refine z_met (own := "MailChain$Tree") (lv0 := [(0, .ref (B + a0)), (1, .int i1), (2, .int i2)]) (by decide) rfl (Nat.le_of_ble_eq_true rfl) rfl ?_
  intro p e s m below meth c fx hr hlo
  delta Wp_Tr_tell at h
  refine a_aload_n fx 0 d_Tr_tell_0 rfl rfl ?_
  refine a_getS fx (T := F_Tr) (j := 0) (hk := hk0) (ht := ht0) (ht2 := by decide) (hc := rfl) (hin := u_in_Tr) (hj := by decide) (hj2 := by decide) (hf := rfl) (n9 := 1) (hfo := rfl) (hT := rfl) (hw := w_131) (hd := d_Tr_tell_1) (kk := ?_)
  refine a_iload_n fx 2 d_Tr_tell_4 rfl rfl ?_
  obtain ⟨hin, h⟩ := h
  refine a_aald fx (lo_3_0 hk0 ht0).1 (lo_3_0 hk0 ht0).2 hin d_Tr_tell_5 ?_
  refine a_topr (fun r1 er1 => ?_)
  obtain ⟨hkr1, htr1, h⟩ := h r1 er1
  refine a_astore_n (lv2 := [(3, .ref (B + r1)), (0, .ref (B + a0)), (1, .int i1), (2, .int i2)]) fx d_Tr_tell_6 rfl (by decide) rfl ?_
  refine a_iload_n fx 2 d_Tr_tell_7 rfl rfl ?_
  by_cases hc1 : i1 = 1
  · have h := h.1 hc1
    refine a_tabI fx 56 d_Tr_tell_8 (by rw [hc1]; decide) (by rw [hc1]; decide) (by rw [hc1]; rfl) rfl ?_
    refine a_aload_n fx 0 d_Tr_tell_56 rfl rfl ?_
    refine a_getIN fx (T := F_En) (j := 1) (hk := hkr1) (ht := htr1) (ht2 := by decide) (hc := rfl) (hin := u_in_En) (hj := by decide) (hj2 := by decide) (hf := rfl) (hT := rfl) (q9 := 14) (hw := rfl) (hd := d_Tr_tell_57) (kk := ?_)
    exact a_iret fx hlo hr h d_Tr_tell_60
  have h := h.2
  by_cases hc2 : i1 = 2
  · have h := h.1 hc2
    refine a_tabI fx 61 d_Tr_tell_8 (by rw [hc2]; decide) (by rw [hc2]; decide) (by rw [hc2]; rfl) rfl ?_
    refine a_aload_n fx 0 d_Tr_tell_61 rfl rfl ?_
    refine a_getIN fx (T := F_En) (j := 2) (hk := hkr1) (ht := htr1) (ht2 := by decide) (hc := rfl) (hin := u_in_En) (hj := by decide) (hj2 := by decide) (hf := rfl) (hT := rfl) (q9 := 17) (hw := rfl) (hd := d_Tr_tell_62) (kk := ?_)
    exact a_iret fx hlo hr h d_Tr_tell_65
  have h := h.2
  by_cases hc3 : i1 = 3
  · have h := h.1 hc3
    refine a_tabI fx 66 d_Tr_tell_8 (by rw [hc3]; decide) (by rw [hc3]; decide) (by rw [hc3]; rfl) rfl ?_
    refine a_aload_n fx 0 d_Tr_tell_66 rfl rfl ?_
    refine a_getIN fx (T := F_En) (j := 3) (hk := hkr1) (ht := htr1) (ht2 := by decide) (hc := rfl) (hin := u_in_En) (hj := by decide) (hj2 := by decide) (hf := rfl) (hT := rfl) (q9 := 20) (hw := rfl) (hd := d_Tr_tell_67) (kk := ?_)
    exact a_iret fx hlo hr h d_Tr_tell_70
  have h := h.2
  by_cases hc4 : i1 = 4
  · have h := h.1 hc4
    refine a_tabI fx 71 d_Tr_tell_8 (by rw [hc4]; decide) (by rw [hc4]; decide) (by rw [hc4]; rfl) rfl ?_
    refine a_aload_n fx 0 d_Tr_tell_71 rfl rfl ?_
    refine a_getIN fx (T := F_En) (j := 4) (hk := hkr1) (ht := htr1) (ht2 := by decide) (hc := rfl) (hin := u_in_En) (hj := by decide) (hj2 := by decide) (hf := rfl) (hT := rfl) (q9 := 23) (hw := rfl) (hd := d_Tr_tell_72) (kk := ?_)
    exact a_iret fx hlo hr h d_Tr_tell_75
  have h := h.2
  by_cases hc5 : i1 = 5
  · have h := h.1 hc5
    refine a_tabI fx 76 d_Tr_tell_8 (by rw [hc5]; decide) (by rw [hc5]; decide) (by rw [hc5]; rfl) rfl ?_
    refine a_aload_n fx 0 d_Tr_tell_76 rfl rfl ?_
    refine a_getIN fx (T := F_En) (j := 5) (hk := hkr1) (ht := htr1) (ht2 := by decide) (hc := rfl) (hin := u_in_En) (hj := by decide) (hj2 := by decide) (hf := rfl) (hT := rfl) (q9 := 26) (hw := rfl) (hd := d_Tr_tell_77) (kk := ?_)
    exact a_iret fx hlo hr h d_Tr_tell_80
  have h := h.2
  by_cases hc6 : i1 = 6
  · have h := h.1 hc6
    refine a_tabI fx 81 d_Tr_tell_8 (by rw [hc6]; decide) (by rw [hc6]; decide) (by rw [hc6]; rfl) rfl ?_
    refine a_aload_n fx 0 d_Tr_tell_81 rfl rfl ?_
    refine a_getSN fx (T := F_En) (j := 0) (hk := hkr1) (ht := htr1) (ht2 := by decide) (hc := rfl) (hin := u_in_En) (hj := by decide) (hj2 := by decide) (hf := rfl) (n9 := 1) (hfo := rfl) (hT := rfl) (q9 := 11) (hw := rfl) (hd := d_Tr_tell_82) (kk := ?_)
    refine a_getIN fx (T := F_Ro) (j := 1) (hk := (lo_2_0 hkr1 htr1).1) (ht := (lo_2_0 hkr1 htr1).2) (ht2 := by decide) (hc := rfl) (hin := u_in_Ro) (hj := by decide) (hj2 := by decide) (hf := rfl) (hT := rfl) (q9 := 7) (hw := rfl) (hd := d_Tr_tell_85) (kk := ?_)
    exact a_iret fx hlo hr h d_Tr_tell_88
  have h := h.2
  by_cases hc7 : i1 = 7
  · have h := h.1 hc7
    refine a_tabI fx 89 d_Tr_tell_8 (by rw [hc7]; decide) (by rw [hc7]; decide) (by rw [hc7]; rfl) rfl ?_
    refine a_aload_n fx 0 d_Tr_tell_89 rfl rfl ?_
    refine a_getIN fx (T := F_En) (j := 7) (hk := hkr1) (ht := htr1) (ht2 := by decide) (hc := rfl) (hin := u_in_En) (hj := by decide) (hj2 := by decide) (hf := rfl) (hT := rfl) (q9 := 30) (hw := rfl) (hd := d_Tr_tell_90) (kk := ?_)
    exact a_iret fx hlo hr h d_Tr_tell_93
  have h := h.2
  by_cases hc8 : i1 = 8
  · have h := h.1 hc8
    refine a_tabI fx 94 d_Tr_tell_8 (by rw [hc8]; decide) (by rw [hc8]; decide) (by rw [hc8]; rfl) rfl ?_
    refine a_aload_n fx 1 d_Tr_tell_94 rfl rfl ?_
    refine a_iload_n fx 3 d_Tr_tell_95 rfl rfl ?_
    refine a_calli (rest := []) (a_runV (As := [.int i2]) fx cv_Tr_firstLinkOf w_1241 (Met_Tr_firstLinkOf l B D aC aS (hk0 := hk0) (ht0 := ht0) h) hk0 ht0 (by decide) rfl rfl rfl (Nat.le_of_ble_eq_true rfl) rfl rfl ⟨Nat.le_of_ble_eq_true rfl, Nat.le_of_ble_eq_true rfl⟩ d_Tr_tell_96 ⟨Nat.le_of_ble_eq_true rfl, Nat.le_of_ble_eq_true rfl⟩) (fun x3 M2 h => ?_)
    exact a_iret fx hlo hr h d_Tr_tell_99
  have h := h.2
  refine a_tabO fx 100 d_Tr_tell_8 (by have e1 : ¬ (i1).toInt = 1 := fun e => hc1 (Int32.toInt_inj.mp (e.trans (by decide : (1 : Int) = (1 : Int32).toInt))); have e2 : ¬ (i1).toInt = 2 := fun e => hc2 (Int32.toInt_inj.mp (e.trans (by decide : (2 : Int) = (2 : Int32).toInt))); have e3 : ¬ (i1).toInt = 3 := fun e => hc3 (Int32.toInt_inj.mp (e.trans (by decide : (3 : Int) = (3 : Int32).toInt))); have e4 : ¬ (i1).toInt = 4 := fun e => hc4 (Int32.toInt_inj.mp (e.trans (by decide : (4 : Int) = (4 : Int32).toInt))); have e5 : ¬ (i1).toInt = 5 := fun e => hc5 (Int32.toInt_inj.mp (e.trans (by decide : (5 : Int) = (5 : Int32).toInt))); have e6 : ¬ (i1).toInt = 6 := fun e => hc6 (Int32.toInt_inj.mp (e.trans (by decide : (6 : Int) = (6 : Int32).toInt))); have e7 : ¬ (i1).toInt = 7 := fun e => hc7 (Int32.toInt_inj.mp (e.trans (by decide : (7 : Int) = (7 : Int32).toInt))); have e8 : ¬ (i1).toInt = 8 := fun e => hc8 (Int32.toInt_inj.mp (e.trans (by decide : (8 : Int) = (8 : Int32).toInt))); omega) rfl ?_
  have h := h hc1 hc2 hc3 hc4 hc5 hc6 hc7 hc8
  refine a_aload_n fx 1 d_Tr_tell_100 rfl rfl ?_
  refine a_iload_n fx 3 d_Tr_tell_101 rfl rfl ?_
  refine a_calli (rest := []) (a_runV (As := [.int i2]) fx cv_Tr_linksOf w_1242 (Met_Tr_linksOf l B D aC aS (hk0 := hk0) (ht0 := ht0) h) hk0 ht0 (by decide) rfl rfl rfl (Nat.le_of_ble_eq_true rfl) rfl rfl ⟨Nat.le_of_ble_eq_true rfl, Nat.le_of_ble_eq_true rfl⟩ d_Tr_tell_102 ⟨Nat.le_of_ble_eq_true rfl, Nat.le_of_ble_eq_true rfl⟩) (fun x5 M4 h => ?_)
  exact a_iret fx hlo hr h d_Tr_tell_105
set_option maxRecDepth 100000 in
set_option maxHeartbeats 4000000 in
theorem Met_Tr_hasByte (l : Launch) (B : Nat) (D : va_G) (aC : Nat → ClassId) (aS : Nat → Nat) {a0 : Nat} {i1 : Int32} {i2 : Int32} {M : zM} {post : Int32 → zM → Prop} (hk0 : a0 < N0) (ht0 : tg a0 = 3) (h : Wp_Tr_hasByte a0 i1 i2 M post) : Met l y_Tr_hasByte (wo y_Tr_hasByte b_Tr_hasByte 3 (some FieldType.boolean)) { frames := 0, cells := 0, slots := 0, locals := 0 } (va_Pc [.ref (B + a0), .int i1, .int i2] (zWl B D aC aS M)) (zQi B D aC post) 0 0 (zAb B) := by
  refine z_met (own := "MailChain$Tree") (lv0 := [(0, .ref (B + a0)), (1, .int i1), (2, .int i2)]) (by decide) rfl (Nat.le_of_ble_eq_true rfl) rfl ?_
  intro p e s m below meth c fx hr hlo
  delta Wp_Tr_hasByte at h
  refine a_iload_n fx 2 d_Tr_hasByte_0 rfl rfl ?_
  refine a_if_lt fx 34 d_Tr_hasByte_1 rfl (fun hc => ?_) (fun hc => ?_)
  · have h := h.1 hc
    refine a_iconst (v := 0) fx d_Tr_hasByte_34 rfl ?_
    exact a_zret fx hlo hr rfl h d_Tr_hasByte_35
  · have h := h.2 hc
    refine a_iload_n fx 2 d_Tr_hasByte_4 rfl rfl ?_
    refine a_aload_n fx 0 d_Tr_hasByte_5 rfl rfl ?_
    refine a_getS fx (T := F_Tr) (j := 0) (hk := hk0) (ht := ht0) (ht2 := by decide) (hc := rfl) (hin := u_in_Tr) (hj := by decide) (hj2 := by decide) (hf := rfl) (n9 := 1) (hfo := rfl) (hT := rfl) (hw := w_131) (hd := d_Tr_hasByte_6) (kk := ?_)
    refine a_iload_n fx 1 d_Tr_hasByte_9 rfl rfl ?_
    obtain ⟨hin, h⟩ := h
    refine a_aald fx (lo_3_0 hk0 ht0).1 (lo_3_0 hk0 ht0).2 hin d_Tr_hasByte_10 ?_
    refine a_topr (fun r1 er1 => ?_)
    obtain ⟨hkr1, htr1, h⟩ := h r1 er1
    refine a_getSN fx (T := F_En) (j := 0) (hk := hkr1) (ht := htr1) (ht2 := by decide) (hc := rfl) (hin := u_in_En) (hj := by decide) (hj2 := by decide) (hf := rfl) (n9 := 1) (hfo := rfl) (hT := rfl) (q9 := 11) (hw := rfl) (hd := d_Tr_hasByte_11) (kk := ?_)
    refine a_getIN fx (T := F_Ro) (j := 1) (hk := (lo_2_0 hkr1 htr1).1) (ht := (lo_2_0 hkr1 htr1).2) (ht2 := by decide) (hc := rfl) (hin := u_in_Ro) (hj := by decide) (hj2 := by decide) (hf := rfl) (hT := rfl) (q9 := 7) (hw := rfl) (hd := d_Tr_hasByte_14) (kk := ?_)
    refine a_aload_n fx 0 d_Tr_hasByte_17 rfl rfl ?_
    refine a_getS fx (T := F_Tr) (j := 0) (hk := hk0) (ht := ht0) (ht2 := by decide) (hc := rfl) (hin := u_in_Tr) (hj := by decide) (hj2 := by decide) (hf := rfl) (n9 := 1) (hfo := rfl) (hT := rfl) (hw := w_131) (hd := d_Tr_hasByte_18) (kk := ?_)
    refine a_iload_n fx 1 d_Tr_hasByte_21 rfl rfl ?_
    obtain ⟨hin, h⟩ := h
    refine a_aald fx (lo_3_0 hk0 ht0).1 (lo_3_0 hk0 ht0).2 hin d_Tr_hasByte_22 ?_
    refine a_topr (fun r2 er2 => ?_)
    obtain ⟨hkr2, htr2, h⟩ := h r2 er2
    refine a_getIN fx (T := F_En) (j := 7) (hk := hkr2) (ht := htr2) (ht2 := by decide) (hc := rfl) (hin := u_in_En) (hj := by decide) (hj2 := by decide) (hf := rfl) (hT := rfl) (q9 := 30) (hw := rfl) (hd := d_Tr_hasByte_23) (kk := ?_)
    refine a_iadd fx d_Tr_hasByte_26 ?_
    refine a_icmp_ge fx 34 d_Tr_hasByte_27 rfl (fun hc => ?_) (fun hc => ?_)
    · have h := h.1 hc
      refine a_iconst (v := 0) fx d_Tr_hasByte_34 rfl ?_
      exact a_zret fx hlo hr rfl h d_Tr_hasByte_35
    · have h := h.2 hc
      refine a_iconst (v := 1) fx d_Tr_hasByte_30 rfl ?_
      refine a_goto fx 35 d_Tr_hasByte_31 rfl ?_
      exact a_zret fx hlo hr rfl h d_Tr_hasByte_35
set_option maxRecDepth 100000 in
set_option maxHeartbeats 4000000 in
theorem Met_Tr_byteAt (l : Launch) (B : Nat) (D : va_G) (aC : Nat → ClassId) (aS : Nat → Nat) {a0 : Nat} {i1 : Int32} {i2 : Int32} {M : zM} {post : Int32 → zM → Prop} (hk0 : a0 < N0) (ht0 : tg a0 = 3) (h : Wp_Tr_byteAt a0 i1 i2 M post) : Met l y_Tr_byteAt (wo y_Tr_byteAt b_Tr_byteAt 5 (some FieldType.int)) { frames := 1, cells := 0, slots := 0, locals := 21 } (va_Pc [.ref (B + a0), .int i1, .int i2] (zWl B D aC aS M)) (zQi B D aC post) 0 0 (zAb B) := by
  refine z_met (own := "MailChain$Tree") (lv0 := [(0, .ref (B + a0)), (1, .int i1), (2, .int i2)]) (by decide) rfl (Nat.le_of_ble_eq_true rfl) rfl ?_
  intro p e s m below meth c fx hr hlo
  delta Wp_Tr_byteAt at h
  refine a_aload_n fx 0 d_Tr_byteAt_0 rfl rfl ?_
  refine a_getS fx (T := F_Tr) (j := 0) (hk := hk0) (ht := ht0) (ht2 := by decide) (hc := rfl) (hin := u_in_Tr) (hj := by decide) (hj2 := by decide) (hf := rfl) (n9 := 1) (hfo := rfl) (hT := rfl) (hw := w_131) (hd := d_Tr_byteAt_1) (kk := ?_)
  refine a_iload_n fx 1 d_Tr_byteAt_4 rfl rfl ?_
  obtain ⟨hin, h⟩ := h
  refine a_aald fx (lo_3_0 hk0 ht0).1 (lo_3_0 hk0 ht0).2 hin d_Tr_byteAt_5 ?_
  refine a_topr (fun r1 er1 => ?_)
  obtain ⟨hkr1, htr1, h⟩ := h r1 er1
  refine a_astore_n (lv2 := [(3, .ref (B + r1)), (0, .ref (B + a0)), (1, .int i1), (2, .int i2)]) fx d_Tr_byteAt_6 rfl (by decide) rfl ?_
  refine a_iload_n fx 3 d_Tr_byteAt_7 rfl rfl ?_
  refine a_aload_n fx 0 d_Tr_byteAt_8 rfl rfl ?_
  refine a_getSN fx (T := F_En) (j := 0) (hk := hkr1) (ht := htr1) (ht2 := by decide) (hc := rfl) (hin := u_in_En) (hj := by decide) (hj2 := by decide) (hf := rfl) (n9 := 1) (hfo := rfl) (hT := rfl) (q9 := 11) (hw := rfl) (hd := d_Tr_byteAt_9) (kk := ?_)
  refine a_getIN fx (T := F_Ro) (j := 1) (hk := (lo_2_0 hkr1 htr1).1) (ht := (lo_2_0 hkr1 htr1).2) (ht2 := by decide) (hc := rfl) (hin := u_in_Ro) (hj := by decide) (hj2 := by decide) (hf := rfl) (hT := rfl) (q9 := 7) (hw := rfl) (hd := d_Tr_byteAt_12) (kk := ?_)
  refine a_isub fx d_Tr_byteAt_15 ?_
  refine a_topi (fun x2 ex2 => ?_)
  have h := h x2 ex2
  refine a_istore (lv2 := [(4, .int x2), (3, .ref (B + r1)), (0, .ref (B + a0)), (1, .int i1), (2, .int i2)]) fx d_Tr_byteAt_16 (by decide) rfl ?_
  refine a_iload fx 0 d_Tr_byteAt_18 rfl ?_
  refine a_if_ge fx 34 d_Tr_byteAt_20 rfl (fun hc => ?_) (fun hc => ?_)
  · have h := h.1 hc
    refine a_aload_n fx 2 d_Tr_byteAt_34 rfl rfl ?_
    refine a_getS fx (T := F_Tr) (j := 1) (hk := hk0) (ht := ht0) (ht2 := by decide) (hc := rfl) (hin := u_in_Tr) (hj := by decide) (hj2 := by decide) (hf := rfl) (n9 := 125) (hfo := rfl) (hT := rfl) (hw := w_133) (hd := d_Tr_byteAt_35) (kk := ?_)
    refine a_aload_n fx 1 d_Tr_byteAt_38 rfl rfl ?_
    refine a_getIN fx (T := F_En) (j := 6) (hk := hkr1) (ht := htr1) (ht2 := by decide) (hc := rfl) (hin := u_in_En) (hj := by decide) (hj2 := by decide) (hf := rfl) (hT := rfl) (q9 := 28) (hw := rfl) (hd := d_Tr_byteAt_39) (kk := ?_)
    refine a_iload fx 0 d_Tr_byteAt_42 rfl ?_
    refine a_iadd fx d_Tr_byteAt_44 ?_
    refine a_calli (rest := []) (a_runV (As := [.int ((M.1 r1 6) + x2)]) fx cv_Ro_at w_968 (Met_Ro_at l B D aC aS (hk0 := (lo_3_1 hk0 ht0).1) (ht0 := (lo_3_1 hk0 ht0).2) h) (lo_3_1 hk0 ht0).1 (lo_3_1 hk0 ht0).2 (by decide) rfl rfl rfl (Nat.le_of_ble_eq_true rfl) rfl rfl ⟨Nat.le_of_ble_eq_true rfl, Nat.le_of_ble_eq_true rfl⟩ d_Tr_byteAt_45 ⟨Nat.le_of_ble_eq_true rfl, Nat.le_of_ble_eq_true rfl⟩) (fun x4 M3 h => ?_)
    exact a_iret fx hlo hr h d_Tr_byteAt_48
  · have h := h.2 hc
    refine a_aload_n fx 1 d_Tr_byteAt_23 rfl rfl ?_
    refine a_getSN fx (T := F_En) (j := 0) (hk := hkr1) (ht := htr1) (ht2 := by decide) (hc := rfl) (hin := u_in_En) (hj := by decide) (hj2 := by decide) (hf := rfl) (n9 := 1) (hfo := rfl) (hT := rfl) (q9 := 11) (hw := rfl) (hd := d_Tr_byteAt_24) (kk := ?_)
    refine a_iload_n fx 4 d_Tr_byteAt_27 rfl rfl ?_
    refine a_calli (rest := []) (a_runV (As := [.int i2]) fx cv_Ro_at w_968 (Met_Ro_at l B D aC aS (hk0 := (lo_2_0 hkr1 htr1).1) (ht0 := (lo_2_0 hkr1 htr1).2) h) (lo_2_0 hkr1 htr1).1 (lo_2_0 hkr1 htr1).2 (by decide) rfl rfl rfl (Nat.le_of_ble_eq_true rfl) rfl rfl ⟨Nat.le_of_ble_eq_true rfl, Nat.le_of_ble_eq_true rfl⟩ d_Tr_byteAt_28 ⟨Nat.le_of_ble_eq_true rfl, Nat.le_of_ble_eq_true rfl⟩) (fun x6 M5 h => ?_)
    refine a_goto fx 48 d_Tr_byteAt_31 rfl ?_
    exact a_iret fx hlo hr h d_Tr_byteAt_48
set_option maxRecDepth 100000 in
set_option maxHeartbeats 4000000 in
theorem Met_Ma_pieceEnd (l : Launch) (B : Nat) (D : va_G) (aC : Nat → ClassId) (aS : Nat → Nat) {a0 : Nat} {i1 : Int32} {M : zM} {post : Int32 → zM → Prop} (hk0 : a0 < N0) (ht0 : tg a0 = 4) (h : Wp_Ma_pieceEnd a0 i1 M post) : Met l y_Ma_pieceEnd (wo y_Ma_pieceEnd b_Ma_pieceEnd 2 (some FieldType.int)) { frames := 1, cells := 0, slots := 0, locals := 32 } (va_Pc [.ref (B + a0), .int i1] (zWl B D aC aS M)) (zQi B D aC post) 0 0 (zAb B) := by
  refine z_met (own := "MailChain$Mail") (lv0 := [(0, .ref (B + a0)), (1, .int i1)]) (by decide) rfl (Nat.le_of_ble_eq_true rfl) rfl ?_
  intro p e s m below meth c fx hr hlo
  delta Wp_Ma_pieceEnd at h
  refine a_iload_n fx 1 d_Ma_pieceEnd_0 rfl rfl ?_
  refine a_aload_n fx 0 d_Ma_pieceEnd_1 rfl rfl ?_
  refine a_getI fx (T := F_Ma) (j := 3) (hk := hk0) (ht := ht0) (ht2 := by decide) (hc := rfl) (hin := u_in_Ma) (hj := by decide) (hj2 := by decide) (hf := rfl) (hT := rfl) (hw := w_163) (hd := d_Ma_pieceEnd_2) (kk := ?_)
  refine a_imul fx d_Ma_pieceEnd_5 ?_
  refine a_aload_n fx 0 d_Ma_pieceEnd_6 rfl rfl ?_
  refine a_getS fx (T := F_Ma) (j := 1) (hk := hk0) (ht := ht0) (ht2 := by decide) (hc := rfl) (hin := u_in_Ma) (hj := by decide) (hj2 := by decide) (hf := rfl) (n9 := 3) (hfo := rfl) (hT := rfl) (hw := w_159) (hd := d_Ma_pieceEnd_7) (kk := ?_)
  refine a_getIN fx (T := F_Ro) (j := 1) (hk := (lo_4_1 hk0 ht0).1) (ht := (lo_4_1 hk0 ht0).2) (ht2 := by decide) (hc := rfl) (hin := u_in_Ro) (hj := by decide) (hj2 := by decide) (hf := rfl) (hT := rfl) (q9 := 0) (hw := rfl) (hd := d_Ma_pieceEnd_10) (kk := ?_)
  refine a_mmin fx w_1163 w_524 w_28 w_525 (Nat.le_of_ble_eq_true rfl) (Nat.le_of_ble_eq_true rfl) (Nat.le_of_ble_eq_true rfl) (Nat.le_of_ble_eq_true rfl) d_Ma_pieceEnd_13 ?_
  exact a_iret fx hlo hr h d_Ma_pieceEnd_16
set_option maxRecDepth 100000 in
set_option maxHeartbeats 4000000 in
theorem Met_Ma_keep (l : Launch) (B : Nat) (D : va_G) (aC : Nat → ClassId) (aS : Nat → Nat) {a0 : Nat} {a1 : Nat} {a2 : Nat} {i3 : Int32} {M : zM} {post : zM → Prop} (hk0 : a0 < N0) (ht0 : tg a0 = 4) (hk1 : a1 < N0) (ht1 : tg a1 = 1) (hk2 : a2 < N0) (ht2 : tg a2 = 1) (h : Wp_Ma_keep a0 a1 a2 i3 M post) : Met l y_Ma_keep (wo y_Ma_keep b_Ma_keep 5 none) { frames := 3, cells := 0, slots := 0, locals := 111 } (va_Pc [.ref (B + a0), .ref (B + a1), .ref (B + a2), .int i3] (zWl B D aC aS M)) (zQv B D aC post) 0 0 (zAb B) := by
  refine z_met (own := "MailChain$Mail") (lv0 := [(0, .ref (B + a0)), (1, .ref (B + a1)), (2, .ref (B + a2)), (3, .int i3)]) (by decide) rfl (Nat.le_of_ble_eq_true rfl) rfl ?_
  intro p e s m below meth c fx hr hlo
  delta Wp_Ma_keep at h
  have h := h (fun v4 M => zAt p l e { frames := 3, cells := 0, slots := 0, locals := 111 } s m ([.ref (B + a0), .ref (B + a1), .ref (B + a2), .int i3] : List Value).toArray below meth c 0 0 (MQ below (zQv B D aC post) ([.ref (B + a0), .ref (B + a1), .ref (B + a2), .int i3] : List Value).toArray s 0 0 (zAb B)) B D aC 5 39 [(0, .ref (B + a0)), (1, .ref (B + a1)), (2, .ref (B + a2)), (3, .int i3), (4, .int v4)] [] M)
  have h := h (by
    intro v4 M h
    refine a_iload fx 4 d_Ma_keep_39 rfl ?_
    refine a_aload_n fx 0 d_Ma_keep_41 rfl rfl ?_
    refine a_getS fx (T := F_Ma) (j := 1) (hk := hk0) (ht := ht0) (ht2 := by decide) (hc := rfl) (hin := u_in_Ma) (hj := by decide) (hj2 := by decide) (hf := rfl) (n9 := 3) (hfo := rfl) (hT := rfl) (hw := w_159) (hd := d_Ma_keep_42) (kk := ?_)
    refine a_getIN fx (T := F_Ro) (j := 1) (hk := (lo_4_1 hk0 ht0).1) (ht := (lo_4_1 hk0 ht0).2) (ht2 := by decide) (hc := rfl) (hin := u_in_Ro) (hj := by decide) (hj2 := by decide) (hf := rfl) (hT := rfl) (q9 := 0) (hw := rfl) (hd := d_Ma_keep_45) (kk := ?_)
    refine a_icmp_ge fx 108 d_Ma_keep_48 rfl (fun hc => ?_) (fun hc => ?_)
    · have h := h.1 hc
      exact a_vret fx hlo hr h d_Ma_keep_108
    · have h := h.2 hc
      refine a_aload_n fx 0 d_Ma_keep_51 rfl rfl ?_
      refine a_getI fx (T := F_Ma) (j := 2) (hk := hk0) (ht := ht0) (ht2 := by decide) (hc := rfl) (hin := u_in_Ma) (hj := by decide) (hj2 := by decide) (hf := rfl) (hT := rfl) (hw := w_161) (hd := d_Ma_keep_52) (kk := ?_)
      refine a_sipush (v := 999) fx d_Ma_keep_55 rfl ?_
      refine a_icmp_ge fx 108 d_Ma_keep_58 rfl (fun hc => ?_) (fun hc => ?_)
      · have h := h.1 hc
        exact a_vret fx hlo hr h d_Ma_keep_108
      · have h := h.2 hc
        refine a_aload_n fx 0 d_Ma_keep_61 rfl rfl ?_
        refine a_dup fx d_Ma_keep_62 rfl ?_
        refine a_getI fx (T := F_Ma) (j := 2) (hk := hk0) (ht := ht0) (ht2 := by decide) (hc := rfl) (hin := u_in_Ma) (hj := by decide) (hj2 := by decide) (hf := rfl) (hT := rfl) (hw := w_161) (hd := d_Ma_keep_63) (kk := ?_)
        refine a_iconst (v := 1) fx d_Ma_keep_66 rfl ?_
        refine a_iadd fx d_Ma_keep_67 ?_
        refine a_putI fx (T := F_Ma) (ty0 := t_Ma) (j := 2) (hk := hk0) (ht := ht0) (ht2 := by decide) (hc := rfl) (hin := u_in_Ma) (hty := t_Ma_ok) (hnm := n_Ma) (hj := by decide) (hj2 := by decide) (hf := rfl) (hT := rfl) (hfin := rfl) (hn := rfl) (hfit := rfl) (hw := w_161) (hd := d_Ma_keep_68) (kk := a_mem (fun M5 eM5 => ?_))
        have h := h M5 eM5
        refine a_aload_n fx 0 d_Ma_keep_71 rfl rfl ?_
        refine a_getS fx (T := F_Ma) (j := 4) (hk := hk0) (ht := ht0) (ht2 := by decide) (hc := rfl) (hin := u_in_Ma) (hj := by decide) (hj2 := by decide) (hf := rfl) (n9 := 5) (hfo := rfl) (hT := rfl) (hw := w_164) (hd := d_Ma_keep_72) (kk := ?_)
        refine a_aload_n fx 0 d_Ma_keep_75 rfl rfl ?_
        refine a_getI fx (T := F_Ma) (j := 2) (hk := hk0) (ht := ht0) (ht2 := by decide) (hc := rfl) (hin := u_in_Ma) (hj := by decide) (hj2 := by decide) (hf := rfl) (hT := rfl) (hw := w_161) (hd := d_Ma_keep_76) (kk := ?_)
        refine a_iconst (v := 1) fx d_Ma_keep_79 rfl ?_
        refine a_isub fx d_Ma_keep_80 ?_
        refine a_aload_n fx 0 d_Ma_keep_81 rfl rfl ?_
        refine a_getS fx (T := F_Ma) (j := 1) (hk := hk0) (ht := ht0) (ht2 := by decide) (hc := rfl) (hin := u_in_Ma) (hj := by decide) (hj2 := by decide) (hf := rfl) (n9 := 3) (hfo := rfl) (hT := rfl) (hw := w_159) (hd := d_Ma_keep_82) (kk := ?_)
        refine a_iload fx 4 d_Ma_keep_85 rfl ?_
        refine a_aload_n fx 0 d_Ma_keep_87 rfl rfl ?_
        refine a_aload_n fx 0 d_Ma_keep_88 rfl rfl ?_
        refine a_getI fx (T := F_Ma) (j := 2) (hk := hk0) (ht := ht0) (ht2 := by decide) (hc := rfl) (hin := u_in_Ma) (hj := by decide) (hj2 := by decide) (hf := rfl) (hT := rfl) (hw := w_161) (hd := d_Ma_keep_89) (kk := ?_)
        refine a_calli (rest := [.int v4, .ref (B + (a0 + 3)), .int ((M5.1 a0 2) - 1), .ref (B + (a0 + 5))]) (a_runV (As := [.int (M5.1 a0 2)]) fx cv_Ma_pieceEnd w_1159 (Met_Ma_pieceEnd l B D aC aS (hk0 := hk0) (ht0 := ht0) h) hk0 ht0 (by decide) rfl rfl rfl (Nat.le_of_ble_eq_true rfl) rfl rfl ⟨Nat.le_of_ble_eq_true rfl, Nat.le_of_ble_eq_true rfl⟩ d_Ma_keep_92 ⟨Nat.le_of_ble_eq_true rfl, Nat.le_of_ble_eq_true rfl⟩) (fun x7 M6 h => ?_)
        refine a_calli (rest := [.int ((M5.1 a0 2) - 1), .ref (B + (a0 + 5))]) (a_runV (As := [.int v4, .int x7]) fx cv_Ro_sum w_1164 (Met_Ro_sum l B D aC aS (hk0 := (lo_4_1 hk0 ht0).1) (ht0 := (lo_4_1 hk0 ht0).2) h) (lo_4_1 hk0 ht0).1 (lo_4_1 hk0 ht0).2 (by decide) rfl rfl rfl (Nat.le_of_ble_eq_true rfl) rfl rfl ⟨Nat.le_of_ble_eq_true rfl, Nat.le_of_ble_eq_true rfl⟩ d_Ma_keep_95 ⟨Nat.le_of_ble_eq_true rfl, Nat.le_of_ble_eq_true rfl⟩) (fun x9 M8 h => ?_)
        obtain ⟨hin, h⟩ := h
        refine a_iast fx (lo_4_4 hk0 ht0).1 (lo_4_4 hk0 ht0).2 hin d_Ma_keep_98 (a_mem (fun M10 eM10 => ?_))
        have h := h M10 eM10
        refine a_iload fx 4 d_Ma_keep_99 rfl ?_
        refine a_iload_n fx 3 d_Ma_keep_101 rfl rfl ?_
        refine a_iadd fx d_Ma_keep_102 ?_
        refine a_topi (fun x11 ex11 => ?_)
        have h := h x11 ex11
        refine a_istore (lv2 := [(4, .int x11), (0, .ref (B + a0)), (1, .ref (B + a1)), (2, .ref (B + a2)), (3, .int i3)]) fx d_Ma_keep_103 (by decide) rfl ?_
        refine a_goto fx 39 d_Ma_keep_105 rfl ?_
        refine a_sub [1, 2, 3, 4, 0] rfl ?_
        exact h)
  refine a_aload_n fx 0 d_Ma_keep_0 rfl rfl ?_
  refine a_getS fx (T := F_Ma) (j := 0) (hk := hk0) (ht := ht0) (ht2 := by decide) (hc := rfl) (hin := u_in_Ma) (hj := by decide) (hj2 := by decide) (hf := rfl) (n9 := 1) (hfo := rfl) (hT := rfl) (hw := w_157) (hd := d_Ma_keep_1) (kk := ?_)
  refine a_aload_n fx 1 d_Ma_keep_4 rfl rfl ?_
  refine a_iconst (v := 0) fx d_Ma_keep_5 rfl ?_
  refine a_aload_n fx 1 d_Ma_keep_6 rfl rfl ?_
  refine a_getIN fx (T := F_Ro) (j := 1) (hk := hk1) (ht := ht1) (ht2 := by decide) (hc := rfl) (hin := u_in_Ro) (hj := by decide) (hj2 := by decide) (hf := rfl) (hT := rfl) (q9 := 0) (hw := rfl) (hd := d_Ma_keep_7) (kk := ?_)
  refine a_callv (rest := []) (a_runV (As := [.ref (B + a1), .int 0, .int (M.1 a1 1)]) fx cv_Ro_copy w_1158 (Met_Ro_copy l B D aC aS (hk0 := (lo_4_0 hk0 ht0).1) (ht0 := (lo_4_0 hk0 ht0).2) (hk1 := hk1) (ht1 := ht1) h) (lo_4_0 hk0 ht0).1 (lo_4_0 hk0 ht0).2 (by decide) rfl rfl rfl (Nat.le_of_ble_eq_true rfl) rfl rfl ⟨Nat.le_of_ble_eq_true rfl, Nat.le_of_ble_eq_true rfl⟩ d_Ma_keep_10 ⟨Nat.le_of_ble_eq_true rfl, Nat.le_of_ble_eq_true rfl⟩) (fun M1 h => ?_)
  refine a_aload_n fx 0 d_Ma_keep_13 rfl rfl ?_
  refine a_getS fx (T := F_Ma) (j := 1) (hk := hk0) (ht := ht0) (ht2 := by decide) (hc := rfl) (hin := u_in_Ma) (hj := by decide) (hj2 := by decide) (hf := rfl) (n9 := 3) (hfo := rfl) (hT := rfl) (hw := w_159) (hd := d_Ma_keep_14) (kk := ?_)
  refine a_aload_n fx 2 d_Ma_keep_17 rfl rfl ?_
  refine a_iconst (v := 0) fx d_Ma_keep_18 rfl ?_
  refine a_aload_n fx 2 d_Ma_keep_19 rfl rfl ?_
  refine a_getIN fx (T := F_Ro) (j := 1) (hk := hk2) (ht := ht2) (ht2 := by decide) (hc := rfl) (hin := u_in_Ro) (hj := by decide) (hj2 := by decide) (hf := rfl) (hT := rfl) (q9 := 0) (hw := rfl) (hd := d_Ma_keep_20) (kk := ?_)
  refine a_callv (rest := []) (a_runV (As := [.ref (B + a2), .int 0, .int (M1.1 a2 1)]) fx cv_Ro_copy w_1158 (Met_Ro_copy l B D aC aS (hk0 := (lo_4_1 hk0 ht0).1) (ht0 := (lo_4_1 hk0 ht0).2) (hk1 := hk2) (ht1 := ht2) h) (lo_4_1 hk0 ht0).1 (lo_4_1 hk0 ht0).2 (by decide) rfl rfl rfl (Nat.le_of_ble_eq_true rfl) rfl rfl ⟨Nat.le_of_ble_eq_true rfl, Nat.le_of_ble_eq_true rfl⟩ d_Ma_keep_23 ⟨Nat.le_of_ble_eq_true rfl, Nat.le_of_ble_eq_true rfl⟩) (fun M2 h => ?_)
  refine a_aload_n fx 0 d_Ma_keep_26 rfl rfl ?_
  refine a_iload_n fx 3 d_Ma_keep_27 rfl rfl ?_
  refine a_putI fx (T := F_Ma) (ty0 := t_Ma) (j := 3) (hk := hk0) (ht := ht0) (ht2 := by decide) (hc := rfl) (hin := u_in_Ma) (hty := t_Ma_ok) (hnm := n_Ma) (hj := by decide) (hj2 := by decide) (hf := rfl) (hT := rfl) (hfin := rfl) (hn := rfl) (hfit := rfl) (hw := w_163) (hd := d_Ma_keep_28) (kk := a_mem (fun M3 eM3 => ?_))
  have h := h M3 eM3
  refine a_aload_n fx 0 d_Ma_keep_31 rfl rfl ?_
  refine a_iconst (v := 0) fx d_Ma_keep_32 rfl ?_
  refine a_putI fx (T := F_Ma) (ty0 := t_Ma) (j := 2) (hk := hk0) (ht := ht0) (ht2 := by decide) (hc := rfl) (hin := u_in_Ma) (hty := t_Ma_ok) (hnm := n_Ma) (hj := by decide) (hj2 := by decide) (hf := rfl) (hT := rfl) (hfin := rfl) (hn := rfl) (hfit := rfl) (hw := w_161) (hd := d_Ma_keep_33) (kk := a_mem (fun M4 eM4 => ?_))
  have h := h M4 eM4
  refine a_iconst (v := 0) fx d_Ma_keep_36 rfl ?_
  refine a_istore (lv2 := [(4, .int 0), (0, .ref (B + a0)), (1, .ref (B + a1)), (2, .ref (B + a2)), (3, .int i3)]) fx d_Ma_keep_37 (by decide) rfl ?_
  refine a_sub [1, 2, 3, 4, 0] rfl ?_
  exact h
set_option maxRecDepth 100000 in
set_option maxHeartbeats 4000000 in
theorem Met_Ma_has (l : Launch) (B : Nat) (D : va_G) (aC : Nat → ClassId) (aS : Nat → Nat) {a0 : Nat} {i1 : Int32} {M : zM} {post : Int32 → zM → Prop} (hk0 : a0 < N0) (ht0 : tg a0 = 4) (h : Wp_Ma_has a0 i1 M post) : Met l y_Ma_has (wo y_Ma_has b_Ma_has 2 (some FieldType.boolean)) { frames := 0, cells := 0, slots := 0, locals := 0 } (va_Pc [.ref (B + a0), .int i1] (zWl B D aC aS M)) (zQi B D aC post) 0 0 (zAb B) := by
  refine z_met (own := "MailChain$Mail") (lv0 := [(0, .ref (B + a0)), (1, .int i1)]) (by decide) rfl (Nat.le_of_ble_eq_true rfl) rfl ?_
  intro p e s m below meth c fx hr hlo
  delta Wp_Ma_has at h
  refine a_iload_n fx 1 d_Ma_has_0 rfl rfl ?_
  refine a_iconst (v := 1) fx d_Ma_has_1 rfl ?_
  refine a_icmp_lt fx 17 d_Ma_has_2 rfl (fun hc => ?_) (fun hc => ?_)
  · have h := h.1 hc
    refine a_iconst (v := 0) fx d_Ma_has_17 rfl ?_
    exact a_zret fx hlo hr rfl h d_Ma_has_18
  · have h := h.2 hc
    refine a_iload_n fx 1 d_Ma_has_5 rfl rfl ?_
    refine a_aload_n fx 0 d_Ma_has_6 rfl rfl ?_
    refine a_getI fx (T := F_Ma) (j := 2) (hk := hk0) (ht := ht0) (ht2 := by decide) (hc := rfl) (hin := u_in_Ma) (hj := by decide) (hj2 := by decide) (hf := rfl) (hT := rfl) (hw := w_161) (hd := d_Ma_has_7) (kk := ?_)
    refine a_icmp_gt fx 17 d_Ma_has_10 rfl (fun hc => ?_) (fun hc => ?_)
    · have h := h.1 hc
      refine a_iconst (v := 0) fx d_Ma_has_17 rfl ?_
      exact a_zret fx hlo hr rfl h d_Ma_has_18
    · have h := h.2 hc
      refine a_iconst (v := 1) fx d_Ma_has_13 rfl ?_
      refine a_goto fx 18 d_Ma_has_14 rfl ?_
      exact a_zret fx hlo hr rfl h d_Ma_has_18
set_option maxRecDepth 100000 in
set_option maxHeartbeats 4000000 in
theorem Met_Ma_write (l : Launch) (B : Nat) (D : va_G) (aC : Nat → ClassId) (aS : Nat → Nat) {a0 : Nat} {i1 : Int32} {a2 : Nat} {M : zM} {post : zM → Prop} (hk0 : a0 < N0) (ht0 : tg a0 = 4) (hk2 : a2 < N0) (ht2 : tg a2 = 1) (h : Wp_Ma_write a0 i1 a2 M post) : Met l y_Ma_write (wo y_Ma_write b_Ma_write 5 none) { frames := 5, cells := 0, slots := 0, locals := 107 } (va_Pc [.ref (B + a0), .int i1, .ref (B + a2)] (zWl B D aC aS M)) (zQv B D aC post) 0 0 (zAb B) := by
  refine z_met (own := "MailChain$Mail") (lv0 := [(0, .ref (B + a0)), (1, .int i1), (2, .ref (B + a2))]) (by decide) rfl (Nat.le_of_ble_eq_true rfl) rfl ?_
  intro p e s m below meth c fx hr hlo
  delta Wp_Ma_write at h
  refine a_aload_n fx 2 d_Ma_write_0 rfl rfl ?_
  refine a_callv (rest := []) (a_runV (As := []) fx cv_Ro_wipe w_1180 (Met_Ro_wipe l B D aC aS (hk0 := hk2) (ht0 := ht2) h) hk2 ht2 (by decide) rfl rfl rfl (Nat.le_of_ble_eq_true rfl) rfl rfl ⟨Nat.le_of_ble_eq_true rfl, Nat.le_of_ble_eq_true rfl⟩ d_Ma_write_1 ⟨Nat.le_of_ble_eq_true rfl, Nat.le_of_ble_eq_true rfl⟩) (fun M1 h => ?_)
  refine a_aload_n fx 0 d_Ma_write_4 rfl rfl ?_
  refine a_iload_n fx 1 d_Ma_write_5 rfl rfl ?_
  refine a_calli (rest := []) (a_runV (As := [.int i1]) fx cv_Ma_has w_1181 (Met_Ma_has l B D aC aS (hk0 := hk0) (ht0 := ht0) h) hk0 ht0 (by decide) rfl rfl rfl (Nat.le_of_ble_eq_true rfl) rfl rfl ⟨Nat.le_of_ble_eq_true rfl, Nat.le_of_ble_eq_true rfl⟩ d_Ma_write_6 ⟨Nat.le_of_ble_eq_true rfl, Nat.le_of_ble_eq_true rfl⟩) (fun x3 M2 h => ?_)
  refine a_if_ne fx 13 d_Ma_write_9 rfl (fun hc => ?_) (fun hc => ?_)
  · have h := h.1 hc
    refine a_iload_n fx 1 d_Ma_write_13 rfl rfl ?_
    refine a_iconst (v := 1) fx d_Ma_write_14 rfl ?_
    refine a_isub fx d_Ma_write_15 ?_
    refine a_aload_n fx 0 d_Ma_write_16 rfl rfl ?_
    refine a_getI fx (T := F_Ma) (j := 3) (hk := hk0) (ht := ht0) (ht2 := by decide) (hc := rfl) (hin := u_in_Ma) (hj := by decide) (hj2 := by decide) (hf := rfl) (hT := rfl) (hw := w_163) (hd := d_Ma_write_17) (kk := ?_)
    refine a_imul fx d_Ma_write_20 ?_
    refine a_topi (fun x4 ex4 => ?_)
    have h := h x4 ex4
    refine a_istore_n (lv2 := [(3, .int x4), (0, .ref (B + a0)), (1, .int i1), (2, .ref (B + a2))]) fx d_Ma_write_21 rfl (by decide) rfl ?_
    refine a_aload_n fx 1 d_Ma_write_22 rfl rfl ?_
    refine a_iload_n fx 2 d_Ma_write_23 rfl rfl ?_
    refine a_calli (rest := []) (a_runV (As := [.int i1]) fx cv_Ma_pieceEnd w_1159 (Met_Ma_pieceEnd l B D aC aS (hk0 := hk0) (ht0 := ht0) h) hk0 ht0 (by decide) rfl rfl rfl (Nat.le_of_ble_eq_true rfl) rfl rfl ⟨Nat.le_of_ble_eq_true rfl, Nat.le_of_ble_eq_true rfl⟩ d_Ma_write_24 ⟨Nat.le_of_ble_eq_true rfl, Nat.le_of_ble_eq_true rfl⟩) (fun x6 M5 h => ?_)
    refine a_istore (lv2 := [(4, .int x6), (3, .int x4), (0, .ref (B + a0)), (1, .int i1), (2, .ref (B + a2))]) fx d_Ma_write_27 (by decide) rfl ?_
    refine a_aload_n fx 4 d_Ma_write_29 rfl rfl ?_
    refine a_ldcS fx 9 (by decide) rfl rfl (q := 0) rfl d_Ma_write_30 ?_
    refine a_callv (rest := []) (a_runV (As := [.ref (aS 0)]) fx cv_Ro_putText w_1183 (Met_Ro_putText l B D aC aS (hk0 := hk2) (ht0 := ht2) (hs1 := (by decide)) h) hk2 ht2 (by decide) rfl rfl rfl (Nat.le_of_ble_eq_true rfl) rfl rfl ⟨Nat.le_of_ble_eq_true rfl, Nat.le_of_ble_eq_true rfl⟩ d_Ma_write_32 ⟨Nat.le_of_ble_eq_true rfl, Nat.le_of_ble_eq_true rfl⟩) (fun M7 h => ?_)
    refine a_aload_n fx 4 d_Ma_write_35 rfl rfl ?_
    refine a_iload_n fx 3 d_Ma_write_36 rfl rfl ?_
    refine a_i2l fx d_Ma_write_37 ?_
    refine a_callv (rest := []) (a_runV (As := [.long ((i1).toInt64)]) fx cv_Ro_putDecimal w_1184 (Met_Ro_putDecimal l B D aC aS (hk0 := hk2) (ht0 := ht2) h) hk2 ht2 (by decide) rfl rfl rfl (Nat.le_of_ble_eq_true rfl) rfl rfl ⟨Nat.le_of_ble_eq_true rfl, Nat.le_of_ble_eq_true rfl⟩ d_Ma_write_38 ⟨Nat.le_of_ble_eq_true rfl, Nat.le_of_ble_eq_true rfl⟩) (fun M8 h => ?_)
    refine a_aload_n fx 4 d_Ma_write_41 rfl rfl ?_
    refine a_ldcS fx 10 (by decide) rfl rfl (q := 1) rfl d_Ma_write_42 ?_
    refine a_callv (rest := []) (a_runV (As := [.ref (aS 1)]) fx cv_Ro_putText w_1183 (Met_Ro_putText l B D aC aS (hk0 := hk2) (ht0 := ht2) (hs1 := (by decide)) h) hk2 ht2 (by decide) rfl rfl rfl (Nat.le_of_ble_eq_true rfl) rfl rfl ⟨Nat.le_of_ble_eq_true rfl, Nat.le_of_ble_eq_true rfl⟩ d_Ma_write_44 ⟨Nat.le_of_ble_eq_true rfl, Nat.le_of_ble_eq_true rfl⟩) (fun M9 h => ?_)
    refine a_aload_n fx 4 d_Ma_write_47 rfl rfl ?_
    refine a_aload_n fx 2 d_Ma_write_48 rfl rfl ?_
    refine a_getI fx (T := F_Ma) (j := 2) (hk := hk0) (ht := ht0) (ht2 := by decide) (hc := rfl) (hin := u_in_Ma) (hj := by decide) (hj2 := by decide) (hf := rfl) (hT := rfl) (hw := w_161) (hd := d_Ma_write_49) (kk := ?_)
    refine a_i2l fx d_Ma_write_52 ?_
    refine a_callv (rest := []) (a_runV (As := [.long (((M9.1 a0 2)).toInt64)]) fx cv_Ro_putDecimal w_1184 (Met_Ro_putDecimal l B D aC aS (hk0 := hk2) (ht0 := ht2) h) hk2 ht2 (by decide) rfl rfl rfl (Nat.le_of_ble_eq_true rfl) rfl rfl ⟨Nat.le_of_ble_eq_true rfl, Nat.le_of_ble_eq_true rfl⟩ d_Ma_write_53 ⟨Nat.le_of_ble_eq_true rfl, Nat.le_of_ble_eq_true rfl⟩) (fun M10 h => ?_)
    refine a_aload_n fx 4 d_Ma_write_56 rfl rfl ?_
    refine a_ldcS fx 11 (by decide) rfl rfl (q := 2) rfl d_Ma_write_57 ?_
    refine a_callv (rest := []) (a_runV (As := [.ref (aS 2)]) fx cv_Ro_putText w_1183 (Met_Ro_putText l B D aC aS (hk0 := hk2) (ht0 := ht2) (hs1 := (by decide)) h) hk2 ht2 (by decide) rfl rfl rfl (Nat.le_of_ble_eq_true rfl) rfl rfl ⟨Nat.le_of_ble_eq_true rfl, Nat.le_of_ble_eq_true rfl⟩ d_Ma_write_59 ⟨Nat.le_of_ble_eq_true rfl, Nat.le_of_ble_eq_true rfl⟩) (fun M11 h => ?_)
    refine a_aload_n fx 4 d_Ma_write_62 rfl rfl ?_
    refine a_iload fx 0 d_Ma_write_63 rfl ?_
    refine a_iload_n fx 1 d_Ma_write_65 rfl rfl ?_
    refine a_isub fx d_Ma_write_66 ?_
    refine a_i2l fx d_Ma_write_67 ?_
    refine a_callv (rest := []) (a_runV (As := [.long (((x6 - x4)).toInt64)]) fx cv_Ro_putDecimal w_1184 (Met_Ro_putDecimal l B D aC aS (hk0 := hk2) (ht0 := ht2) h) hk2 ht2 (by decide) rfl rfl rfl (Nat.le_of_ble_eq_true rfl) rfl rfl ⟨Nat.le_of_ble_eq_true rfl, Nat.le_of_ble_eq_true rfl⟩ d_Ma_write_68 ⟨Nat.le_of_ble_eq_true rfl, Nat.le_of_ble_eq_true rfl⟩) (fun M12 h => ?_)
    refine a_aload_n fx 4 d_Ma_write_71 rfl rfl ?_
    refine a_ldcS fx 12 (by decide) rfl rfl (q := 3) rfl d_Ma_write_72 ?_
    refine a_callv (rest := []) (a_runV (As := [.ref (aS 3)]) fx cv_Ro_putText w_1183 (Met_Ro_putText l B D aC aS (hk0 := hk2) (ht0 := ht2) (hs1 := (by decide)) h) hk2 ht2 (by decide) rfl rfl rfl (Nat.le_of_ble_eq_true rfl) rfl rfl ⟨Nat.le_of_ble_eq_true rfl, Nat.le_of_ble_eq_true rfl⟩ d_Ma_write_74 ⟨Nat.le_of_ble_eq_true rfl, Nat.le_of_ble_eq_true rfl⟩) (fun M13 h => ?_)
    refine a_aload_n fx 4 d_Ma_write_77 rfl rfl ?_
    refine a_aload_n fx 2 d_Ma_write_78 rfl rfl ?_
    refine a_getS fx (T := F_Ma) (j := 4) (hk := hk0) (ht := ht0) (ht2 := by decide) (hc := rfl) (hin := u_in_Ma) (hj := by decide) (hj2 := by decide) (hf := rfl) (n9 := 5) (hfo := rfl) (hT := rfl) (hw := w_164) (hd := d_Ma_write_79) (kk := ?_)
    refine a_iload_n fx 3 d_Ma_write_82 rfl rfl ?_
    refine a_iconst (v := 1) fx d_Ma_write_83 rfl ?_
    refine a_isub fx d_Ma_write_84 ?_
    obtain ⟨hin, h⟩ := h
    refine a_iald fx (lo_4_4 hk0 ht0).1 (lo_4_4 hk0 ht0).2 hin d_Ma_write_85 ?_
    refine a_i2l fx d_Ma_write_86 ?_
    refine a_ldc2 fx w_1192 d_Ma_write_87 ?_
    refine a_land fx d_Ma_write_90 ?_
    refine a_callv (rest := []) (a_runV (As := [.long ((((M13.1 (a0 + 5) ((i1 - 1)).toNatClampNeg)).toInt64) &&& 4294967295)]) fx cv_Ro_putDecimal w_1184 (Met_Ro_putDecimal l B D aC aS (hk0 := hk2) (ht0 := ht2) h) hk2 ht2 (by decide) rfl rfl rfl (Nat.le_of_ble_eq_true rfl) rfl rfl ⟨Nat.le_of_ble_eq_true rfl, Nat.le_of_ble_eq_true rfl⟩ d_Ma_write_91 ⟨Nat.le_of_ble_eq_true rfl, Nat.le_of_ble_eq_true rfl⟩) (fun M14 h => ?_)
    refine a_aload_n fx 4 d_Ma_write_94 rfl rfl ?_
    refine a_bipush (v := 10) fx d_Ma_write_95 rfl ?_
    refine a_callv (rest := []) (a_runV (As := [.int 10]) fx cv_Ro_put w_1193 (Met_Ro_put l B D aC aS (hk0 := hk2) (ht0 := ht2) h) hk2 ht2 (by decide) rfl rfl rfl (Nat.le_of_ble_eq_true rfl) rfl rfl ⟨Nat.le_of_ble_eq_true rfl, Nat.le_of_ble_eq_true rfl⟩ d_Ma_write_97 ⟨Nat.le_of_ble_eq_true rfl, Nat.le_of_ble_eq_true rfl⟩) (fun M15 h => ?_)
    refine a_aload_n fx 4 d_Ma_write_100 rfl rfl ?_
    refine a_aload_n fx 2 d_Ma_write_101 rfl rfl ?_
    refine a_getS fx (T := F_Ma) (j := 1) (hk := hk0) (ht := ht0) (ht2 := by decide) (hc := rfl) (hin := u_in_Ma) (hj := by decide) (hj2 := by decide) (hf := rfl) (n9 := 3) (hfo := rfl) (hT := rfl) (hw := w_159) (hd := d_Ma_write_102) (kk := ?_)
    refine a_iload_n fx 1 d_Ma_write_105 rfl rfl ?_
    refine a_iload fx 0 d_Ma_write_106 rfl ?_
    refine a_callv (rest := []) (a_runV (As := [.ref (B + (a0 + 3)), .int x4, .int x6]) fx cv_Ro_putRange w_1194 (Met_Ro_putRange l B D aC aS (hk0 := hk2) (ht0 := ht2) (hk1 := (lo_4_1 hk0 ht0).1) (ht1 := (lo_4_1 hk0 ht0).2) h) hk2 ht2 (by decide) rfl rfl rfl (Nat.le_of_ble_eq_true rfl) rfl rfl ⟨Nat.le_of_ble_eq_true rfl, Nat.le_of_ble_eq_true rfl⟩ d_Ma_write_108 ⟨Nat.le_of_ble_eq_true rfl, Nat.le_of_ble_eq_true rfl⟩) (fun M16 h => ?_)
    exact a_vret fx hlo hr h d_Ma_write_111
  · have h := h.2 hc
    exact a_vret fx hlo hr h d_Ma_write_12
set_option maxRecDepth 100000 in
set_option maxHeartbeats 4000000 in
theorem Met_Pl_isDigit (l : Launch) (B : Nat) (D : va_G) (aC : Nat → ClassId) (aS : Nat → Nat) {i0 : Int32} {M : zM} {post : Int32 → zM → Prop}  (h : Wp_Pl_isDigit i0 M post) : Met l y_Pl_isDigit (wo y_Pl_isDigit b_Pl_isDigit 1 (some FieldType.boolean)) { frames := 0, cells := 0, slots := 0, locals := 0 } (va_Pc [.int i0] (zWl B D aC aS M)) (zQi B D aC post) 0 0 (zAb B) := by
  refine z_met (own := "MailChain$PartLine") (lv0 := [(0, .int i0)]) (by decide) rfl (Nat.le_of_ble_eq_true rfl) rfl ?_
  intro p e s m below meth c fx hr hlo
  delta Wp_Pl_isDigit at h
  refine a_iload_n fx 0 d_Pl_isDigit_0 rfl rfl ?_
  refine a_bipush (v := 48) fx d_Pl_isDigit_1 rfl ?_
  refine a_icmp_lt fx 16 d_Pl_isDigit_3 rfl (fun hc => ?_) (fun hc => ?_)
  · have h := h.1 hc
    refine a_iconst (v := 0) fx d_Pl_isDigit_16 rfl ?_
    exact a_zret fx hlo hr rfl h d_Pl_isDigit_17
  · have h := h.2 hc
    refine a_iload_n fx 0 d_Pl_isDigit_6 rfl rfl ?_
    refine a_bipush (v := 57) fx d_Pl_isDigit_7 rfl ?_
    refine a_icmp_gt fx 16 d_Pl_isDigit_9 rfl (fun hc => ?_) (fun hc => ?_)
    · have h := h.1 hc
      refine a_iconst (v := 0) fx d_Pl_isDigit_16 rfl ?_
      exact a_zret fx hlo hr rfl h d_Pl_isDigit_17
    · have h := h.2 hc
      refine a_iconst (v := 1) fx d_Pl_isDigit_12 rfl ?_
      refine a_goto fx 17 d_Pl_isDigit_13 rfl ?_
      exact a_zret fx hlo hr rfl h d_Pl_isDigit_17
set_option maxRecDepth 100000 in
set_option maxHeartbeats 4000000 in
theorem Met_Pl_number (l : Launch) (B : Nat) (D : va_G) (aC : Nat → ClassId) (aS : Nat → Nat) {a0 : Nat} {a1 : Nat} {s2 : Nat} {l3 : Int64} {M : zM} {post : Int64 → zM → Prop} (hk0 : a0 < N0) (ht0 : tg a0 = 5) (hk1 : a1 < N0) (ht1 : tg a1 = 1) (hs2 : s2 < 9) (h : Wp_Pl_number a0 a1 s2 l3 M post) : Met l y_Pl_number (wo y_Pl_number b_Pl_number 9 (some FieldType.long)) { frames := 5, cells := 0, slots := 0, locals := 108 } (va_Pc [.ref (B + a0), .ref (B + a1), .ref (aS s2), .long l3] (zWl B D aC aS M)) (zQl B D aC post) 0 0 (zAb B) := by
  refine z_met (own := "MailChain$PartLine") (lv0 := [(0, .ref (B + a0)), (1, .ref (B + a1)), (2, .ref (aS s2)), (3, .long l3)]) (by decide) rfl (Nat.le_of_ble_eq_true rfl) rfl ?_
  intro p e s m below meth c fx hr hlo
  delta Wp_Pl_number at h
  have h := h (fun v5 v6 M => zAt p l e { frames := 5, cells := 0, slots := 0, locals := 108 } s m ([.ref (B + a0), .ref (B + a1), .ref (aS s2), .long l3] : List Value).toArray below meth c 0 0 (MQ below (zQl B D aC post) ([.ref (B + a0), .ref (B + a1), .ref (aS s2), .long l3] : List Value).toArray s 0 0 (zAb B)) B D aC 9 38 [(0, .ref (B + a0)), (1, .ref (B + a1)), (2, .ref (aS s2)), (3, .long l3), (5, .int v5), (6, .long v6)] [] M)
  have h := h (fun v5 v6 M => zAt p l e { frames := 5, cells := 0, slots := 0, locals := 108 } s m ([.ref (B + a0), .ref (B + a1), .ref (aS s2), .long l3] : List Value).toArray below meth c 0 0 (MQ below (zQl B D aC post) ([.ref (B + a0), .ref (B + a1), .ref (aS s2), .long l3] : List Value).toArray s 0 0 (zAb B)) B D aC 9 99 [(0, .ref (B + a0)), (1, .ref (B + a1)), (2, .ref (aS s2)), (3, .long l3), (5, .int v5), (6, .long v6)] [] M)
  have h := h (fun v5 v6 w0 M => zAt p l e { frames := 5, cells := 0, slots := 0, locals := 108 } s m ([.ref (B + a0), .ref (B + a1), .ref (aS s2), .long l3] : List Value).toArray below meth c 0 0 (MQ below (zQl B D aC post) ([.ref (B + a0), .ref (B + a1), .ref (aS s2), .long l3] : List Value).toArray s 0 0 (zAb B)) B D aC 9 126 [(0, .ref (B + a0)), (1, .ref (B + a1)), (2, .ref (aS s2)), (3, .long l3), (5, .int v5), (6, .long v6)] [.int w0] M)
  have h := h (by
    intro v5 v6 M h
    refine a_aload_n fx 0 d_Pl_number_38 rfl rfl ?_
    refine a_getI fx (T := F_Pl) (j := 4) (hk := hk0) (ht := ht0) (ht2 := by decide) (hc := rfl) (hin := u_in_Pl) (hj := by decide) (hj2 := by decide) (hf := rfl) (hT := rfl) (hw := w_203) (hd := d_Pl_number_39) (kk := ?_)
    refine a_iload fx 4 d_Pl_number_42 rfl ?_
    refine a_bipush (v := 10) fx d_Pl_number_44 rfl ?_
    refine a_iadd fx d_Pl_number_46 ?_
    refine a_icmp_ge fx 99 d_Pl_number_47 rfl (fun hc => ?_) (fun hc => ?_)
    · have h := h.1 hc
      refine a_sub [0, 1, 2, 3, 4, 5] rfl ?_
      exact h
    · have h := h.2 hc
      refine a_aload_n fx 1 d_Pl_number_50 rfl rfl ?_
      refine a_aload_n fx 0 d_Pl_number_51 rfl rfl ?_
      refine a_getI fx (T := F_Pl) (j := 4) (hk := hk0) (ht := ht0) (ht2 := by decide) (hc := rfl) (hin := u_in_Pl) (hj := by decide) (hj2 := by decide) (hf := rfl) (hT := rfl) (hw := w_203) (hd := d_Pl_number_52) (kk := ?_)
      refine a_calli (rest := []) (a_runV (As := [.int (M.1 a0 4)]) fx cv_Ro_at w_449 (Met_Ro_at l B D aC aS (hk0 := hk1) (ht0 := ht1) h) hk1 ht1 (by decide) rfl rfl rfl (Nat.le_of_ble_eq_true rfl) rfl rfl ⟨Nat.le_of_ble_eq_true rfl, Nat.le_of_ble_eq_true rfl⟩ d_Pl_number_55 ⟨Nat.le_of_ble_eq_true rfl, Nat.le_of_ble_eq_true rfl⟩) (fun x8 M7 h => ?_)
      refine a_calli (rest := []) (a_runS (As := [.int x8]) fx  cv_Pl_isDigit w_450 (Met_Pl_isDigit l B D aC aS  h) rfl rfl (Nat.le_of_ble_eq_true rfl) rfl rfl ⟨Nat.le_of_ble_eq_true rfl, Nat.le_of_ble_eq_true rfl⟩ d_Pl_number_58 ⟨Nat.le_of_ble_eq_true rfl, Nat.le_of_ble_eq_true rfl⟩) (fun x10 M9 h => ?_)
      refine a_if_eq fx 99 d_Pl_number_61 rfl (fun hc => ?_) (fun hc => ?_)
      · have h := h.1 hc
        refine a_sub [0, 1, 2, 3, 4, 5] rfl ?_
        exact h
      · have h := h.2 hc
        refine a_ldc2 fx w_453 d_Pl_number_64 ?_
        refine a_lload fx 5 d_Pl_number_67 rfl ?_
        refine a_lmul fx d_Pl_number_69 ?_
        refine a_aload_n fx 1 d_Pl_number_70 rfl rfl ?_
        refine a_aload_n fx 0 d_Pl_number_71 rfl rfl ?_
        refine a_getI fx (T := F_Pl) (j := 4) (hk := hk0) (ht := ht0) (ht2 := by decide) (hc := rfl) (hin := u_in_Pl) (hj := by decide) (hj2 := by decide) (hf := rfl) (hT := rfl) (hw := w_203) (hd := d_Pl_number_72) (kk := ?_)
        refine a_calli (rest := [.long (10 * v6)]) (a_runV (As := [.int (M9.1 a0 4)]) fx cv_Ro_at w_449 (Met_Ro_at l B D aC aS (hk0 := hk1) (ht0 := ht1) h) hk1 ht1 (by decide) rfl rfl rfl (Nat.le_of_ble_eq_true rfl) rfl rfl ⟨Nat.le_of_ble_eq_true rfl, Nat.le_of_ble_eq_true rfl⟩ d_Pl_number_75 ⟨Nat.le_of_ble_eq_true rfl, Nat.le_of_ble_eq_true rfl⟩) (fun x12 M11 h => ?_)
        refine a_i2l fx d_Pl_number_78 ?_
        refine a_ladd fx d_Pl_number_79 ?_
        refine a_ldc2 fx w_454 d_Pl_number_80 ?_
        refine a_lsub fx d_Pl_number_83 ?_
        refine a_topl (fun y13 ey13 => ?_)
        have h := h y13 ey13
        refine a_lstore (lv2 := [(6, .long y13), (0, .ref (B + a0)), (1, .ref (B + a1)), (2, .ref (aS s2)), (3, .long l3), (5, .int v5)]) fx d_Pl_number_84 (by decide) rfl ?_
        refine a_aload_n fx 1 d_Pl_number_86 rfl rfl ?_
        refine a_dup fx d_Pl_number_87 rfl ?_
        refine a_getI fx (T := F_Pl) (j := 4) (hk := hk0) (ht := ht0) (ht2 := by decide) (hc := rfl) (hin := u_in_Pl) (hj := by decide) (hj2 := by decide) (hf := rfl) (hT := rfl) (hw := w_203) (hd := d_Pl_number_88) (kk := ?_)
        refine a_iconst (v := 1) fx d_Pl_number_91 rfl ?_
        refine a_iadd fx d_Pl_number_92 ?_
        refine a_putI fx (T := F_Pl) (ty0 := t_Pl) (j := 4) (hk := hk0) (ht := ht0) (ht2 := by decide) (hc := rfl) (hin := u_in_Pl) (hty := t_Pl_ok) (hnm := n_Pl) (hj := by decide) (hj2 := by decide) (hf := rfl) (hT := rfl) (hfin := rfl) (hn := rfl) (hfit := rfl) (hw := w_203) (hd := d_Pl_number_93) (kk := a_mem (fun M14 eM14 => ?_))
        have h := h M14 eM14
        refine a_goto fx 38 d_Pl_number_96 rfl ?_
        refine a_sub [1, 2, 3, 4, 5, 0] rfl ?_
        exact h)
  have h := h (by
    intro v5 v6 M h
    refine a_aload_n fx 0 d_Pl_number_99 rfl rfl ?_
    refine a_getI fx (T := F_Pl) (j := 4) (hk := hk0) (ht := ht0) (ht2 := by decide) (hc := rfl) (hin := u_in_Pl) (hj := by decide) (hj2 := by decide) (hf := rfl) (hT := rfl) (hw := w_203) (hd := d_Pl_number_100) (kk := ?_)
    refine a_iload fx 4 d_Pl_number_103 rfl ?_
    refine a_iconst (v := 1) fx d_Pl_number_105 rfl ?_
    refine a_iadd fx d_Pl_number_106 ?_
    refine a_icmp_le fx 125 d_Pl_number_107 rfl (fun hc => ?_) (fun hc => ?_)
    · have h := h.1 hc
      refine a_iconst (v := 0) fx d_Pl_number_125 rfl ?_
      refine a_sub [0, 1, 2, 3, 4, 5] rfl ?_
      exact h
    · have h := h.2 hc
      refine a_aload_n fx 1 d_Pl_number_110 rfl rfl ?_
      refine a_iload fx 4 d_Pl_number_111 rfl ?_
      refine a_calli (rest := []) (a_runV (As := [.int v5]) fx cv_Ro_at w_449 (Met_Ro_at l B D aC aS (hk0 := hk1) (ht0 := ht1) h) hk1 ht1 (by decide) rfl rfl rfl (Nat.le_of_ble_eq_true rfl) rfl rfl ⟨Nat.le_of_ble_eq_true rfl, Nat.le_of_ble_eq_true rfl⟩ d_Pl_number_113 ⟨Nat.le_of_ble_eq_true rfl, Nat.le_of_ble_eq_true rfl⟩) (fun x16 M15 h => ?_)
      refine a_bipush (v := 48) fx d_Pl_number_116 rfl ?_
      refine a_icmp_ne fx 125 d_Pl_number_118 rfl (fun hc => ?_) (fun hc => ?_)
      · have h := h.1 hc
        refine a_iconst (v := 0) fx d_Pl_number_125 rfl ?_
        refine a_sub [0, 1, 2, 3, 4, 5] rfl ?_
        exact h
      · have h := h.2 hc
        refine a_iconst (v := 1) fx d_Pl_number_121 rfl ?_
        refine a_goto fx 126 d_Pl_number_122 rfl ?_
        refine a_sub [0, 1, 2, 3, 4, 5] rfl ?_
        exact h)
  have h := h (by
    intro v5 v6 w0 M h
    refine a_istore (lv2 := [(8, .int w0), (0, .ref (B + a0)), (1, .ref (B + a1)), (2, .ref (aS s2)), (3, .long l3), (5, .int v5), (6, .long v6)]) fx d_Pl_number_126 (by decide) rfl ?_
    refine a_aload_n fx 1 d_Pl_number_128 rfl rfl ?_
    refine a_getI fx (T := F_Pl) (j := 4) (hk := hk0) (ht := ht0) (ht2 := by decide) (hc := rfl) (hin := u_in_Pl) (hj := by decide) (hj2 := by decide) (hf := rfl) (hT := rfl) (hw := w_203) (hd := d_Pl_number_129) (kk := ?_)
    refine a_iload fx 5 d_Pl_number_132 rfl ?_
    refine a_icmp_eq fx 149 d_Pl_number_134 rfl (fun hc => ?_) (fun hc => ?_)
    · have h := h.1 hc
      refine a_ldc2 fx w_447 d_Pl_number_149 ?_
      refine a_goto fx 157 d_Pl_number_152 rfl ?_
      exact a_lret fx hlo hr h d_Pl_number_157
    · have h := h.2 hc
      refine a_iload fx 0 d_Pl_number_137 rfl ?_
      refine a_if_ne fx 149 d_Pl_number_139 rfl (fun hc => ?_) (fun hc => ?_)
      · have h := h.1 hc
        refine a_ldc2 fx w_447 d_Pl_number_149 ?_
        refine a_goto fx 157 d_Pl_number_152 rfl ?_
        exact a_lret fx hlo hr h d_Pl_number_157
      · have h := h.2 hc
        refine a_lload fx 6 d_Pl_number_142 rfl ?_
        refine a_lload_n fx 4 d_Pl_number_144 rfl rfl ?_
        refine a_lcmp fx d_Pl_number_145 ?_
        refine a_if_le fx 155 d_Pl_number_146 rfl (fun hc => ?_) (fun hc => ?_)
        · have h := h.1 hc
          refine a_lload fx 6 d_Pl_number_155 rfl ?_
          exact a_lret fx hlo hr h d_Pl_number_157
        · have h := h.2 hc
          refine a_ldc2 fx w_447 d_Pl_number_149 ?_
          refine a_goto fx 157 d_Pl_number_152 rfl ?_
          exact a_lret fx hlo hr h d_Pl_number_157)
  refine a_aload_n fx 1 d_Pl_number_0 rfl rfl ?_
  refine a_aload_n fx 2 d_Pl_number_1 rfl rfl ?_
  refine a_aload_n fx 0 d_Pl_number_2 rfl rfl ?_
  refine a_getI fx (T := F_Pl) (j := 4) (hk := hk0) (ht := ht0) (ht2 := by decide) (hc := rfl) (hin := u_in_Pl) (hj := by decide) (hj2 := by decide) (hf := rfl) (hT := rfl) (hw := w_203) (hd := d_Pl_number_3) (kk := ?_)
  refine a_calli (rest := []) (a_runV (As := [.ref (aS s2), .int (M.1 a0 4)]) fx cv_Ro_hasText w_395 (Met_Ro_hasText l B D aC aS (hk0 := hk1) (ht0 := ht1) (hs1 := hs2) h) hk1 ht1 (by decide) rfl rfl rfl (Nat.le_of_ble_eq_true rfl) rfl rfl ⟨Nat.le_of_ble_eq_true rfl, Nat.le_of_ble_eq_true rfl⟩ d_Pl_number_6 ⟨Nat.le_of_ble_eq_true rfl, Nat.le_of_ble_eq_true rfl⟩) (fun x2 M1 h => ?_)
  refine a_if_ne fx 16 d_Pl_number_9 rfl (fun hc => ?_) (fun hc => ?_)
  · have h := h.1 hc
    refine a_aload_n fx 0 d_Pl_number_16 rfl rfl ?_
    refine a_dup fx d_Pl_number_17 rfl ?_
    refine a_getI fx (T := F_Pl) (j := 4) (hk := hk0) (ht := ht0) (ht2 := by decide) (hc := rfl) (hin := u_in_Pl) (hj := by decide) (hj2 := by decide) (hf := rfl) (hT := rfl) (hw := w_203) (hd := d_Pl_number_18) (kk := ?_)
    refine a_aload_n fx 2 d_Pl_number_21 rfl rfl ?_
    refine a_calli (rest := [.int (M1.1 a0 4), .ref (B + a0)]) (a_runVs (As := []) fx cv_JString_length w_448 (Met_JString_length l B D aC aS (hs0 := hs2) h) hs2 rfl rfl (Nat.le_of_ble_eq_true rfl) rfl rfl ⟨Nat.le_of_ble_eq_true rfl, Nat.le_of_ble_eq_true rfl⟩ d_Pl_number_22 ⟨Nat.le_of_ble_eq_true rfl, Nat.le_of_ble_eq_true rfl⟩) (fun x4 M3 h => ?_)
    refine a_iadd fx d_Pl_number_25 ?_
    refine a_putI fx (T := F_Pl) (ty0 := t_Pl) (j := 4) (hk := hk0) (ht := ht0) (ht2 := by decide) (hc := rfl) (hin := u_in_Pl) (hty := t_Pl_ok) (hnm := n_Pl) (hj := by decide) (hj2 := by decide) (hf := rfl) (hT := rfl) (hfin := rfl) (hn := rfl) (hfit := rfl) (hw := w_203) (hd := d_Pl_number_26) (kk := a_mem (fun M5 eM5 => ?_))
    have h := h M5 eM5
    refine a_aload_n fx 0 d_Pl_number_29 rfl rfl ?_
    refine a_getI fx (T := F_Pl) (j := 4) (hk := hk0) (ht := ht0) (ht2 := by decide) (hc := rfl) (hin := u_in_Pl) (hj := by decide) (hj2 := by decide) (hf := rfl) (hT := rfl) (hw := w_203) (hd := d_Pl_number_30) (kk := ?_)
    refine a_topi (fun x6 ex6 => ?_)
    have h := h x6 ex6
    refine a_istore (lv2 := [(5, .int x6), (0, .ref (B + a0)), (1, .ref (B + a1)), (2, .ref (aS s2)), (3, .long l3)]) fx d_Pl_number_33 (by decide) rfl ?_
    refine a_lconst (v := 0) fx d_Pl_number_35 rfl ?_
    refine a_lstore (lv2 := [(6, .long 0), (5, .int x6), (0, .ref (B + a0)), (1, .ref (B + a1)), (2, .ref (aS s2)), (3, .long l3)]) fx d_Pl_number_36 (by decide) rfl ?_
    refine a_sub [2, 3, 4, 5, 1, 0] rfl ?_
    exact h
  · have h := h.2 hc
    refine a_ldc2 fx w_447 d_Pl_number_12 ?_
    exact a_lret fx hlo hr h d_Pl_number_15
set_option maxRecDepth 100000 in
set_option maxHeartbeats 4000000 in
theorem Met_Pl_read (l : Launch) (B : Nat) (D : va_G) (aC : Nat → ClassId) (aS : Nat → Nat) {a0 : Nat} {a1 : Nat} {M : zM} {post : Int32 → zM → Prop} (hk0 : a0 < N0) (ht0 : tg a0 = 5) (hk1 : a1 < N0) (ht1 : tg a1 = 1) (h : Wp_Pl_read a0 a1 M post) : Met l y_Pl_read (wo y_Pl_read b_Pl_read 3 (some FieldType.boolean)) { frames := 6, cells := 0, slots := 0, locals := 136 } (va_Pc [.ref (B + a0), .ref (B + a1)] (zWl B D aC aS M)) (zQi B D aC post) 0 0 (zAb B) := by
  refine z_met (own := "MailChain$PartLine") (lv0 := [(0, .ref (B + a0)), (1, .ref (B + a1))]) (by decide) rfl (Nat.le_of_ble_eq_true rfl) rfl ?_
  intro p e s m below meth c fx hr hlo
  delta Wp_Pl_read at h
  have h := h (fun w0 M => zAt p l e { frames := 6, cells := 0, slots := 0, locals := 136 } s m ([.ref (B + a0), .ref (B + a1)] : List Value).toArray below meth c 0 0 (MQ below (zQi B D aC post) ([.ref (B + a0), .ref (B + a1)] : List Value).toArray s 0 0 (zAb B)) B D aC 3 82 [(0, .ref (B + a0)), (1, .ref (B + a1))] [.int w0] M)
  have h := h (by
    intro w0 M h
    refine a_istore_n (lv2 := [(2, .int w0), (0, .ref (B + a0)), (1, .ref (B + a1))]) fx d_Pl_read_82 rfl (by decide) rfl ?_
    refine a_aload_n fx 1 d_Pl_read_83 rfl rfl ?_
    refine a_dup fx d_Pl_read_84 rfl ?_
    refine a_getI fx (T := F_Pl) (j := 4) (hk := hk0) (ht := ht0) (ht2 := by decide) (hc := rfl) (hin := u_in_Pl) (hj := by decide) (hj2 := by decide) (hf := rfl) (hT := rfl) (hw := w_203) (hd := d_Pl_read_85) (kk := ?_)
    refine a_iconst (v := 1) fx d_Pl_read_88 rfl ?_
    refine a_iadd fx d_Pl_read_89 ?_
    refine a_putI fx (T := F_Pl) (ty0 := t_Pl) (j := 4) (hk := hk0) (ht := ht0) (ht2 := by decide) (hc := rfl) (hin := u_in_Pl) (hty := t_Pl_ok) (hnm := n_Pl) (hj := by decide) (hj2 := by decide) (hf := rfl) (hT := rfl) (hfin := rfl) (hn := rfl) (hfit := rfl) (hw := w_203) (hd := d_Pl_read_90) (kk := a_mem (fun M16 eM16 => ?_))
    have h := h M16 eM16
    refine a_iload_n fx 0 d_Pl_read_93 rfl rfl ?_
    refine a_if_eq fx 139 d_Pl_read_94 rfl (fun hc => ?_) (fun hc => ?_)
    · have h := h.1 hc
      refine a_iconst (v := 0) fx d_Pl_read_139 rfl ?_
      exact a_zret fx hlo hr rfl h d_Pl_read_140
    · have h := h.2 hc
      refine a_aload_n fx 1 d_Pl_read_97 rfl rfl ?_
      refine a_getI fx (T := F_Pl) (j := 0) (hk := hk0) (ht := ht0) (ht2 := by decide) (hc := rfl) (hin := u_in_Pl) (hj := by decide) (hj2 := by decide) (hf := rfl) (hT := rfl) (hw := w_195) (hd := d_Pl_read_98) (kk := ?_)
      refine a_iconst (v := 1) fx d_Pl_read_101 rfl ?_
      refine a_icmp_lt fx 139 d_Pl_read_102 rfl (fun hc => ?_) (fun hc => ?_)
      · have h := h.1 hc
        refine a_iconst (v := 0) fx d_Pl_read_139 rfl ?_
        exact a_zret fx hlo hr rfl h d_Pl_read_140
      · have h := h.2 hc
        refine a_aload_n fx 1 d_Pl_read_105 rfl rfl ?_
        refine a_getI fx (T := F_Pl) (j := 0) (hk := hk0) (ht := ht0) (ht2 := by decide) (hc := rfl) (hin := u_in_Pl) (hj := by decide) (hj2 := by decide) (hf := rfl) (hT := rfl) (hw := w_195) (hd := d_Pl_read_106) (kk := ?_)
        refine a_aload_n fx 1 d_Pl_read_109 rfl rfl ?_
        refine a_getI fx (T := F_Pl) (j := 1) (hk := hk0) (ht := ht0) (ht2 := by decide) (hc := rfl) (hin := u_in_Pl) (hj := by decide) (hj2 := by decide) (hf := rfl) (hT := rfl) (hw := w_197) (hd := d_Pl_read_110) (kk := ?_)
        refine a_icmp_gt fx 139 d_Pl_read_113 rfl (fun hc => ?_) (fun hc => ?_)
        · have h := h.1 hc
          refine a_iconst (v := 0) fx d_Pl_read_139 rfl ?_
          exact a_zret fx hlo hr rfl h d_Pl_read_140
        · have h := h.2 hc
          refine a_aload_n fx 1 d_Pl_read_116 rfl rfl ?_
          refine a_getI fx (T := F_Pl) (j := 2) (hk := hk0) (ht := ht0) (ht2 := by decide) (hc := rfl) (hin := u_in_Pl) (hj := by decide) (hj2 := by decide) (hf := rfl) (hT := rfl) (hw := w_199) (hd := d_Pl_read_117) (kk := ?_)
          refine a_iconst (v := (-1)) fx d_Pl_read_120 rfl ?_
          refine a_icmp_eq fx 139 d_Pl_read_121 rfl (fun hc => ?_) (fun hc => ?_)
          · have h := h.1 hc
            refine a_iconst (v := 0) fx d_Pl_read_139 rfl ?_
            exact a_zret fx hlo hr rfl h d_Pl_read_140
          · have h := h.2 hc
            refine a_aload_n fx 1 d_Pl_read_124 rfl rfl ?_
            refine a_getL fx (T := F_Pl) (j := 3) (hk := hk0) (ht := ht0) (ht2 := by decide) (hc := rfl) (hin := u_in_Pl) (hj := by decide) (hj2 := by decide) (hf := rfl) (hT := rfl) (hw := w_201) (hd := d_Pl_read_125) (kk := ?_)
            refine a_ldc2 fx w_447 d_Pl_read_128 ?_
            refine a_lcmp fx d_Pl_read_131 ?_
            refine a_if_eq fx 139 d_Pl_read_132 rfl (fun hc => ?_) (fun hc => ?_)
            · have h := h.1 hc
              refine a_iconst (v := 0) fx d_Pl_read_139 rfl ?_
              exact a_zret fx hlo hr rfl h d_Pl_read_140
            · have h := h.2 hc
              refine a_iconst (v := 1) fx d_Pl_read_135 rfl ?_
              refine a_goto fx 140 d_Pl_read_136 rfl ?_
              exact a_zret fx hlo hr rfl h d_Pl_read_140)
  refine a_aload_n fx 0 d_Pl_read_0 rfl rfl ?_
  refine a_iconst (v := 0) fx d_Pl_read_1 rfl ?_
  refine a_putI fx (T := F_Pl) (ty0 := t_Pl) (j := 4) (hk := hk0) (ht := ht0) (ht2 := by decide) (hc := rfl) (hin := u_in_Pl) (hty := t_Pl_ok) (hnm := n_Pl) (hj := by decide) (hj2 := by decide) (hf := rfl) (hT := rfl) (hfin := rfl) (hn := rfl) (hfit := rfl) (hw := w_203) (hd := d_Pl_read_2) (kk := a_mem (fun M1 eM1 => ?_))
  have h := h M1 eM1
  refine a_aload_n fx 0 d_Pl_read_5 rfl rfl ?_
  refine a_aload_n fx 0 d_Pl_read_6 rfl rfl ?_
  refine a_aload_n fx 1 d_Pl_read_7 rfl rfl ?_
  refine a_ldcS fx 0 (by decide) rfl rfl (q := 0) rfl d_Pl_read_8 ?_
  refine a_ldc2 fx w_390 d_Pl_read_10 ?_
  refine a_calll (rest := [.ref (B + a0)]) (a_runV (As := [.ref (B + a1), .ref (aS 0), .long 999]) fx cv_Pl_number w_391 (Met_Pl_number l B D aC aS (hk0 := hk0) (ht0 := ht0) (hk1 := hk1) (ht1 := ht1) (hs2 := (by decide)) h) hk0 ht0 (by decide) rfl rfl rfl (Nat.le_of_ble_eq_true rfl) rfl rfl ⟨Nat.le_of_ble_eq_true rfl, Nat.le_of_ble_eq_true rfl⟩ d_Pl_read_13 ⟨Nat.le_of_ble_eq_true rfl, Nat.le_of_ble_eq_true rfl⟩) (fun y3 M2 h => ?_)
  refine a_l2i fx d_Pl_read_16 ?_
  refine a_putI fx (T := F_Pl) (ty0 := t_Pl) (j := 0) (hk := hk0) (ht := ht0) (ht2 := by decide) (hc := rfl) (hin := u_in_Pl) (hty := t_Pl_ok) (hnm := n_Pl) (hj := by decide) (hj2 := by decide) (hf := rfl) (hT := rfl) (hfin := rfl) (hn := rfl) (hfit := rfl) (hw := w_195) (hd := d_Pl_read_17) (kk := a_mem (fun M4 eM4 => ?_))
  have h := h M4 eM4
  refine a_aload_n fx 0 d_Pl_read_20 rfl rfl ?_
  refine a_aload_n fx 0 d_Pl_read_21 rfl rfl ?_
  refine a_aload_n fx 1 d_Pl_read_22 rfl rfl ?_
  refine a_ldcS fx 1 (by decide) rfl rfl (q := 1) rfl d_Pl_read_23 ?_
  refine a_ldc2 fx w_390 d_Pl_read_25 ?_
  refine a_calll (rest := [.ref (B + a0)]) (a_runV (As := [.ref (B + a1), .ref (aS 1), .long 999]) fx cv_Pl_number w_391 (Met_Pl_number l B D aC aS (hk0 := hk0) (ht0 := ht0) (hk1 := hk1) (ht1 := ht1) (hs2 := (by decide)) h) hk0 ht0 (by decide) rfl rfl rfl (Nat.le_of_ble_eq_true rfl) rfl rfl ⟨Nat.le_of_ble_eq_true rfl, Nat.le_of_ble_eq_true rfl⟩ d_Pl_read_28 ⟨Nat.le_of_ble_eq_true rfl, Nat.le_of_ble_eq_true rfl⟩) (fun y6 M5 h => ?_)
  refine a_l2i fx d_Pl_read_31 ?_
  refine a_putI fx (T := F_Pl) (ty0 := t_Pl) (j := 1) (hk := hk0) (ht := ht0) (ht2 := by decide) (hc := rfl) (hin := u_in_Pl) (hty := t_Pl_ok) (hnm := n_Pl) (hj := by decide) (hj2 := by decide) (hf := rfl) (hT := rfl) (hfin := rfl) (hn := rfl) (hfit := rfl) (hw := w_197) (hd := d_Pl_read_32) (kk := a_mem (fun M7 eM7 => ?_))
  have h := h M7 eM7
  refine a_aload_n fx 0 d_Pl_read_35 rfl rfl ?_
  refine a_aload_n fx 0 d_Pl_read_36 rfl rfl ?_
  refine a_aload_n fx 1 d_Pl_read_37 rfl rfl ?_
  refine a_ldcS fx 2 (by decide) rfl rfl (q := 2) rfl d_Pl_read_38 ?_
  refine a_ldc2 fx w_457 d_Pl_read_40 ?_
  refine a_calll (rest := [.ref (B + a0)]) (a_runV (As := [.ref (B + a1), .ref (aS 2), .long 48000]) fx cv_Pl_number w_391 (Met_Pl_number l B D aC aS (hk0 := hk0) (ht0 := ht0) (hk1 := hk1) (ht1 := ht1) (hs2 := (by decide)) h) hk0 ht0 (by decide) rfl rfl rfl (Nat.le_of_ble_eq_true rfl) rfl rfl ⟨Nat.le_of_ble_eq_true rfl, Nat.le_of_ble_eq_true rfl⟩ d_Pl_read_43 ⟨Nat.le_of_ble_eq_true rfl, Nat.le_of_ble_eq_true rfl⟩) (fun y9 M8 h => ?_)
  refine a_l2i fx d_Pl_read_46 ?_
  refine a_putI fx (T := F_Pl) (ty0 := t_Pl) (j := 2) (hk := hk0) (ht := ht0) (ht2 := by decide) (hc := rfl) (hin := u_in_Pl) (hty := t_Pl_ok) (hnm := n_Pl) (hj := by decide) (hj2 := by decide) (hf := rfl) (hT := rfl) (hfin := rfl) (hn := rfl) (hfit := rfl) (hw := w_199) (hd := d_Pl_read_47) (kk := a_mem (fun M10 eM10 => ?_))
  have h := h M10 eM10
  refine a_aload_n fx 0 d_Pl_read_50 rfl rfl ?_
  refine a_aload_n fx 0 d_Pl_read_51 rfl rfl ?_
  refine a_aload_n fx 1 d_Pl_read_52 rfl rfl ?_
  refine a_ldcS fx 3 (by decide) rfl rfl (q := 3) rfl d_Pl_read_53 ?_
  refine a_ldc2 fx w_459 d_Pl_read_55 ?_
  refine a_calll (rest := [.ref (B + a0)]) (a_runV (As := [.ref (B + a1), .ref (aS 3), .long 4294967295]) fx cv_Pl_number w_391 (Met_Pl_number l B D aC aS (hk0 := hk0) (ht0 := ht0) (hk1 := hk1) (ht1 := ht1) (hs2 := (by decide)) h) hk0 ht0 (by decide) rfl rfl rfl (Nat.le_of_ble_eq_true rfl) rfl rfl ⟨Nat.le_of_ble_eq_true rfl, Nat.le_of_ble_eq_true rfl⟩ d_Pl_read_58 ⟨Nat.le_of_ble_eq_true rfl, Nat.le_of_ble_eq_true rfl⟩) (fun y12 M11 h => ?_)
  refine a_putL fx (T := F_Pl) (ty0 := t_Pl) (j := 3) (hk := hk0) (ht := ht0) (ht2 := by decide) (hc := rfl) (hin := u_in_Pl) (hty := t_Pl_ok) (hnm := n_Pl) (hj := by decide) (hj2 := by decide) (hf := rfl) (hT := rfl) (hfin := rfl) (hn := rfl) (hfit := rfl) (hw := w_201) (hd := d_Pl_read_61) (kk := a_mem (fun M13 eM13 => ?_))
  have h := h M13 eM13
  refine a_aload_n fx 1 d_Pl_read_64 rfl rfl ?_
  refine a_aload_n fx 0 d_Pl_read_65 rfl rfl ?_
  refine a_getI fx (T := F_Pl) (j := 4) (hk := hk0) (ht := ht0) (ht2 := by decide) (hc := rfl) (hin := u_in_Pl) (hj := by decide) (hj2 := by decide) (hf := rfl) (hT := rfl) (hw := w_203) (hd := d_Pl_read_66) (kk := ?_)
  refine a_calli (rest := []) (a_runV (As := [.int (M13.1 a0 4)]) fx cv_Ro_at w_449 (Met_Ro_at l B D aC aS (hk0 := hk1) (ht0 := ht1) h) hk1 ht1 (by decide) rfl rfl rfl (Nat.le_of_ble_eq_true rfl) rfl rfl ⟨Nat.le_of_ble_eq_true rfl, Nat.le_of_ble_eq_true rfl⟩ d_Pl_read_69 ⟨Nat.le_of_ble_eq_true rfl, Nat.le_of_ble_eq_true rfl⟩) (fun x15 M14 h => ?_)
  refine a_bipush (v := 10) fx d_Pl_read_72 rfl ?_
  refine a_icmp_ne fx 81 d_Pl_read_74 rfl (fun hc => ?_) (fun hc => ?_)
  · have h := h.1 hc
    refine a_iconst (v := 0) fx d_Pl_read_81 rfl ?_
    refine a_sub [0, 1] rfl ?_
    exact h
  · have h := h.2 hc
    refine a_iconst (v := 1) fx d_Pl_read_77 rfl ?_
    refine a_goto fx 82 d_Pl_read_78 rfl ?_
    refine a_sub [0, 1] rfl ?_
    exact h
set_option maxRecDepth 100000 in
set_option maxHeartbeats 4000000 in
theorem Met_Bo_wipe (l : Launch) (B : Nat) (D : va_G) (aC : Nat → ClassId) (aS : Nat → Nat) {a0 : Nat} {M : zM} {post : zM → Prop} (hk0 : a0 < N0) (ht0 : tg a0 = 6) (h : Wp_Bo_wipe a0 M post) : Met l y_Bo_wipe (wo y_Bo_wipe b_Bo_wipe 1 none) { frames := 1, cells := 0, slots := 0, locals := 23 } (va_Pc [.ref (B + a0)] (zWl B D aC aS M)) (zQv B D aC post) 0 0 (zAb B) := by
  refine z_met (own := "MailChain$Box") (lv0 := [(0, .ref (B + a0))]) (by decide) rfl (Nat.le_of_ble_eq_true rfl) rfl ?_
  intro p e s m below meth c fx hr hlo
  delta Wp_Bo_wipe at h
  refine a_aload_n fx 0 d_Bo_wipe_0 rfl rfl ?_
  refine a_getS fx (T := F_Bo) (j := 0) (hk := hk0) (ht := ht0) (ht2 := by decide) (hc := rfl) (hin := u_in_Bo) (hj := by decide) (hj2 := by decide) (hf := rfl) (n9 := 1) (hfo := rfl) (hT := rfl) (hw := w_216) (hd := d_Bo_wipe_1) (kk := ?_)
  refine a_callv (rest := []) (a_runV (As := []) fx cv_Ro_wipe w_485 (Met_Ro_wipe l B D aC aS (hk0 := (lo_6_0 hk0 ht0).1) (ht0 := (lo_6_0 hk0 ht0).2) h) (lo_6_0 hk0 ht0).1 (lo_6_0 hk0 ht0).2 (by decide) rfl rfl rfl (Nat.le_of_ble_eq_true rfl) rfl rfl ⟨Nat.le_of_ble_eq_true rfl, Nat.le_of_ble_eq_true rfl⟩ d_Bo_wipe_4 ⟨Nat.le_of_ble_eq_true rfl, Nat.le_of_ble_eq_true rfl⟩) (fun M1 h => ?_)
  refine a_aload_n fx 0 d_Bo_wipe_7 rfl rfl ?_
  refine a_getS fx (T := F_Bo) (j := 2) (hk := hk0) (ht := ht0) (ht2 := by decide) (hc := rfl) (hin := u_in_Bo) (hj := by decide) (hj2 := by decide) (hf := rfl) (n9 := 4) (hfo := rfl) (hT := rfl) (hw := w_218) (hd := d_Bo_wipe_8) (kk := ?_)
  refine a_iconst (v := (-1)) fx d_Bo_wipe_11 rfl ?_
  refine a_callv (rest := []) (a_runS (As := [.ref (B + (a0 + 4)), .int (-1)]) fx  cv_JArrays_fill w_186 (Met_JArrays_fill l B D aC aS (hk0 := (lo_6_2 hk0 ht0).1) (ht0 := (lo_6_2 hk0 ht0).2) h) rfl rfl (Nat.le_of_ble_eq_true rfl) rfl rfl ⟨Nat.le_of_ble_eq_true rfl, Nat.le_of_ble_eq_true rfl⟩ d_Bo_wipe_12 ⟨Nat.le_of_ble_eq_true rfl, Nat.le_of_ble_eq_true rfl⟩) (fun M2 h => ?_)
  refine a_aload_n fx 0 d_Bo_wipe_15 rfl rfl ?_
  refine a_iconst (v := 0) fx d_Bo_wipe_16 rfl ?_
  refine a_putI fx (T := F_Bo) (ty0 := t_Bo) (j := 4) (hk := hk0) (ht := ht0) (ht2 := by decide) (hc := rfl) (hin := u_in_Bo) (hty := t_Bo_ok) (hnm := n_Bo) (hj := by decide) (hj2 := by decide) (hf := rfl) (hT := rfl) (hfin := rfl) (hn := rfl) (hfit := rfl) (hw := w_220) (hd := d_Bo_wipe_17) (kk := a_mem (fun M3 eM3 => ?_))
  have h := h M3 eM3
  refine a_aload_n fx 0 d_Bo_wipe_20 rfl rfl ?_
  refine a_iconst (v := 0) fx d_Bo_wipe_21 rfl ?_
  refine a_putI fx (T := F_Bo) (ty0 := t_Bo) (j := 5) (hk := hk0) (ht := ht0) (ht2 := by decide) (hc := rfl) (hin := u_in_Bo) (hty := t_Bo_ok) (hnm := n_Bo) (hj := by decide) (hj2 := by decide) (hf := rfl) (hT := rfl) (hfin := rfl) (hn := rfl) (hfit := rfl) (hw := w_221) (hd := d_Bo_wipe_22) (kk := a_mem (fun M4 eM4 => ?_))
  have h := h M4 eM4
  refine a_aload_n fx 0 d_Bo_wipe_25 rfl rfl ?_
  refine a_iconst (v := 0) fx d_Bo_wipe_26 rfl ?_
  refine a_putI fx (T := F_Bo) (ty0 := t_Bo) (j := 6) (hk := hk0) (ht := ht0) (ht2 := by decide) (hc := rfl) (hin := u_in_Bo) (hty := t_Bo_ok) (hnm := n_Bo) (hj := by decide) (hj2 := by decide) (hf := rfl) (hT := rfl) (hfin := rfl) (hn := rfl) (hfit := rfl) (hw := w_222) (hd := d_Bo_wipe_27) (kk := a_mem (fun M5 eM5 => ?_))
  have h := h M5 eM5
  exact a_vret fx hlo hr h d_Bo_wipe_30
set_option maxRecDepth 100000 in
set_option maxHeartbeats 4000000 in
theorem Met_Bo_keep (l : Launch) (B : Nat) (D : va_G) (aC : Nat → ClassId) (aS : Nat → Nat) {a0 : Nat} {i1 : Int32} {i2 : Int32} {a3 : Nat} {i4 : Int32} {M : zM} {post : zM → Prop} (hk0 : a0 < N0) (ht0 : tg a0 = 6) (hk3 : a3 < N0) (ht3 : tg a3 = 1) (h : Wp_Bo_keep a0 i1 i2 a3 i4 M post) : Met l y_Bo_keep (wo y_Bo_keep b_Bo_keep 5 none) { frames := 2, cells := 0, slots := 0, locals := 88 } (va_Pc [.ref (B + a0), .int i1, .int i2, .ref (B + a3), .int i4] (zWl B D aC aS M)) (zQv B D aC post) 0 0 (zAb B) := by
  refine z_met (own := "MailChain$Box") (lv0 := [(0, .ref (B + a0)), (1, .int i1), (2, .int i2), (3, .ref (B + a3)), (4, .int i4)]) (by decide) rfl (Nat.le_of_ble_eq_true rfl) rfl ?_
  intro p e s m below meth c fx hr hlo
  delta Wp_Bo_keep at h
  refine a_aload_n fx 0 d_Bo_keep_0 rfl rfl ?_
  refine a_iload_n fx 2 d_Bo_keep_1 rfl rfl ?_
  refine a_putI fx (T := F_Bo) (ty0 := t_Bo) (j := 4) (hk := hk0) (ht := ht0) (ht2 := by decide) (hc := rfl) (hin := u_in_Bo) (hty := t_Bo_ok) (hnm := n_Bo) (hj := by decide) (hj2 := by decide) (hf := rfl) (hT := rfl) (hfin := rfl) (hn := rfl) (hfit := rfl) (hw := w_220) (hd := d_Bo_keep_2) (kk := a_mem (fun M1 eM1 => ?_))
  have h := h M1 eM1
  refine a_aload_n fx 0 d_Bo_keep_5 rfl rfl ?_
  refine a_getS fx (T := F_Bo) (j := 1) (hk := hk0) (ht := ht0) (ht2 := by decide) (hc := rfl) (hin := u_in_Bo) (hj := by decide) (hj2 := by decide) (hf := rfl) (n9 := 3) (hfo := rfl) (hT := rfl) (hw := w_217) (hd := d_Bo_keep_6) (kk := ?_)
  refine a_iload_n fx 1 d_Bo_keep_9 rfl rfl ?_
  refine a_aload_n fx 0 d_Bo_keep_10 rfl rfl ?_
  refine a_getS fx (T := F_Bo) (j := 0) (hk := hk0) (ht := ht0) (ht2 := by decide) (hc := rfl) (hin := u_in_Bo) (hj := by decide) (hj2 := by decide) (hf := rfl) (n9 := 1) (hfo := rfl) (hT := rfl) (hw := w_216) (hd := d_Bo_keep_11) (kk := ?_)
  refine a_getIN fx (T := F_Ro) (j := 1) (hk := (lo_6_0 hk0 ht0).1) (ht := (lo_6_0 hk0 ht0).2) (ht2 := by decide) (hc := rfl) (hin := u_in_Ro) (hj := by decide) (hj2 := by decide) (hf := rfl) (hT := rfl) (q9 := 5) (hw := rfl) (hd := d_Bo_keep_14) (kk := ?_)
  obtain ⟨hin, h⟩ := h
  refine a_iast fx (lo_6_1 hk0 ht0).1 (lo_6_1 hk0 ht0).2 hin d_Bo_keep_17 (a_mem (fun M2 eM2 => ?_))
  have h := h M2 eM2
  refine a_aload_n fx 0 d_Bo_keep_18 rfl rfl ?_
  refine a_getS fx (T := F_Bo) (j := 2) (hk := hk0) (ht := ht0) (ht2 := by decide) (hc := rfl) (hin := u_in_Bo) (hj := by decide) (hj2 := by decide) (hf := rfl) (n9 := 4) (hfo := rfl) (hT := rfl) (hw := w_218) (hd := d_Bo_keep_19) (kk := ?_)
  refine a_iload_n fx 1 d_Bo_keep_22 rfl rfl ?_
  refine a_aload_n fx 3 d_Bo_keep_23 rfl rfl ?_
  refine a_getIN fx (T := F_Ro) (j := 1) (hk := hk3) (ht := ht3) (ht2 := by decide) (hc := rfl) (hin := u_in_Ro) (hj := by decide) (hj2 := by decide) (hf := rfl) (hT := rfl) (q9 := 5) (hw := rfl) (hd := d_Bo_keep_24) (kk := ?_)
  refine a_iload fx 4 d_Bo_keep_27 rfl ?_
  refine a_isub fx d_Bo_keep_29 ?_
  obtain ⟨hin, h⟩ := h
  refine a_iast fx (lo_6_2 hk0 ht0).1 (lo_6_2 hk0 ht0).2 hin d_Bo_keep_30 (a_mem (fun M3 eM3 => ?_))
  have h := h M3 eM3
  refine a_aload_n fx 0 d_Bo_keep_31 rfl rfl ?_
  refine a_getS fx (T := F_Bo) (j := 0) (hk := hk0) (ht := ht0) (ht2 := by decide) (hc := rfl) (hin := u_in_Bo) (hj := by decide) (hj2 := by decide) (hf := rfl) (n9 := 1) (hfo := rfl) (hT := rfl) (hw := w_216) (hd := d_Bo_keep_32) (kk := ?_)
  refine a_aload_n fx 3 d_Bo_keep_35 rfl rfl ?_
  refine a_iload fx 4 d_Bo_keep_36 rfl ?_
  refine a_aload_n fx 3 d_Bo_keep_38 rfl rfl ?_
  refine a_getIN fx (T := F_Ro) (j := 1) (hk := hk3) (ht := ht3) (ht2 := by decide) (hc := rfl) (hin := u_in_Ro) (hj := by decide) (hj2 := by decide) (hf := rfl) (hT := rfl) (q9 := 5) (hw := rfl) (hd := d_Bo_keep_39) (kk := ?_)
  refine a_callv (rest := []) (a_runV (As := [.ref (B + a3), .int i4, .int (M3.1 a3 1)]) fx cv_Ro_putRange w_466 (Met_Ro_putRange l B D aC aS (hk0 := (lo_6_0 hk0 ht0).1) (ht0 := (lo_6_0 hk0 ht0).2) (hk1 := hk3) (ht1 := ht3) h) (lo_6_0 hk0 ht0).1 (lo_6_0 hk0 ht0).2 (by decide) rfl rfl rfl (Nat.le_of_ble_eq_true rfl) rfl rfl ⟨Nat.le_of_ble_eq_true rfl, Nat.le_of_ble_eq_true rfl⟩ d_Bo_keep_42 ⟨Nat.le_of_ble_eq_true rfl, Nat.le_of_ble_eq_true rfl⟩) (fun M4 h => ?_)
  refine a_aload_n fx 0 d_Bo_keep_45 rfl rfl ?_
  refine a_dup fx d_Bo_keep_46 rfl ?_
  refine a_getI fx (T := F_Bo) (j := 5) (hk := hk0) (ht := ht0) (ht2 := by decide) (hc := rfl) (hin := u_in_Bo) (hj := by decide) (hj2 := by decide) (hf := rfl) (hT := rfl) (hw := w_221) (hd := d_Bo_keep_47) (kk := ?_)
  refine a_aload_n fx 0 d_Bo_keep_50 rfl rfl ?_
  refine a_getS fx (T := F_Bo) (j := 2) (hk := hk0) (ht := ht0) (ht2 := by decide) (hc := rfl) (hin := u_in_Bo) (hj := by decide) (hj2 := by decide) (hf := rfl) (n9 := 4) (hfo := rfl) (hT := rfl) (hw := w_218) (hd := d_Bo_keep_51) (kk := ?_)
  refine a_iload_n fx 1 d_Bo_keep_54 rfl rfl ?_
  obtain ⟨hin, h⟩ := h
  refine a_iald fx (lo_6_2 hk0 ht0).1 (lo_6_2 hk0 ht0).2 hin d_Bo_keep_55 ?_
  refine a_iadd fx d_Bo_keep_56 ?_
  refine a_putI fx (T := F_Bo) (ty0 := t_Bo) (j := 5) (hk := hk0) (ht := ht0) (ht2 := by decide) (hc := rfl) (hin := u_in_Bo) (hty := t_Bo_ok) (hnm := n_Bo) (hj := by decide) (hj2 := by decide) (hf := rfl) (hT := rfl) (hfin := rfl) (hn := rfl) (hfit := rfl) (hw := w_221) (hd := d_Bo_keep_57) (kk := a_mem (fun M5 eM5 => ?_))
  have h := h M5 eM5
  refine a_aload_n fx 0 d_Bo_keep_60 rfl rfl ?_
  refine a_dup fx d_Bo_keep_61 rfl ?_
  refine a_getI fx (T := F_Bo) (j := 6) (hk := hk0) (ht := ht0) (ht2 := by decide) (hc := rfl) (hin := u_in_Bo) (hj := by decide) (hj2 := by decide) (hf := rfl) (hT := rfl) (hw := w_222) (hd := d_Bo_keep_62) (kk := ?_)
  refine a_iconst (v := 1) fx d_Bo_keep_65 rfl ?_
  refine a_iadd fx d_Bo_keep_66 ?_
  refine a_putI fx (T := F_Bo) (ty0 := t_Bo) (j := 6) (hk := hk0) (ht := ht0) (ht2 := by decide) (hc := rfl) (hin := u_in_Bo) (hty := t_Bo_ok) (hnm := n_Bo) (hj := by decide) (hj2 := by decide) (hf := rfl) (hT := rfl) (hfin := rfl) (hn := rfl) (hfit := rfl) (hw := w_222) (hd := d_Bo_keep_67) (kk := a_mem (fun M6 eM6 => ?_))
  have h := h M6 eM6
  exact a_vret fx hlo hr h d_Bo_keep_70
