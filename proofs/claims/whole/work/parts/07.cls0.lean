/-- MailChain.Row.wipe()V -/
def Wp_Ro_wipe (a0 : Nat) (M : zM) (post : zM → Prop) : Prop := (∀ M1 : zM, M1 = zI M a0 1 0 → (post M1))
/-- MailChain.Row.room()I -/
def Wp_Ro_room (a0 : Nat) (M : zM) (post : Int32 → zM → Prop) : Prop := (post ((Int32.ofNat (ln (a0 + 1))) - (M.1 a0 1)) M)
/-- MailChain.Row.has(I)Z -/
def Wp_Ro_has (a0 : Nat) (i1 : Int32) (M : zM) (post : Int32 → zM → Prop) : Prop := ((i1 < 0 → (post 0 M)) ∧ (¬ i1 < 0 → (((M.1 a0 1) ≤ i1 → (post 0 M)) ∧ (¬ (M.1 a0 1) ≤ i1 → (post 1 M)))))
/-- MailChain.Row.at(I)I -/
def Wp_Ro_at (a0 : Nat) (i1 : Int32) (M : zM) (post : Int32 → zM → Prop) : Prop := ((i1 < 0 → (post (-1) M)) ∧ (¬ i1 < 0 → (((M.1 a0 1) ≤ i1 → (post (-1) M)) ∧ (¬ (M.1 a0 1) ≤ i1 → (vp_in i1 (ln (a0 + 1)) ∧ (post ((M.1 (a0 + 1) (i1).toNatClampNeg) &&& 255) M))))))
/-- MailChain.Row.put(I)V -/
def Wp_Ro_put (a0 : Nat) (i1 : Int32) (M : zM) (post : zM → Prop) : Prop := (((Int32.ofNat (ln (a0 + 1))) ≤ (M.1 a0 1) → (post M)) ∧ (¬ (Int32.ofNat (ln (a0 + 1))) ≤ (M.1 a0 1) → (vp_in (M.1 a0 1) (ln (a0 + 1)) ∧ (∀ M1 : zM, M1 = zI M (a0 + 1) ((M.1 a0 1)).toNatClampNeg (vp_nar .byte ((i1).toInt8.toInt32)) → (∀ M2 : zM, M2 = zI M1 a0 1 ((M1.1 a0 1) + 1) → (post M2))))))
/-- MailChain.Row.turn(II)V -/
def Wp_Ro_turn (a0 : Nat) (i1 : Int32) (i2 : Int32) (M : zM) (post : zM → Prop) : Prop := (Wp_Ro_has a0 i1 M (fun x2 M1 => ((x2 = 0 → (post M1)) ∧ (¬ x2 = 0 → (vp_in i1 (ln (a0 + 1)) ∧ (vp_in i1 (ln (a0 + 1)) ∧ (∀ M3 : zM, M3 = zI M1 (a0 + 1) (i1).toNatClampNeg (vp_nar .byte ((((M1.1 (a0 + 1) (i1).toNatClampNeg) ^^^ ((i2).toInt8.toInt32))).toInt8.toInt32)) → (post M3))))))))
/-- MailChain.Row.putRange(LMailChain$Row;II)V -/
def Wp_Ro_putRange (a0 : Nat) (a1 : Nat) (i2 : Int32) (i3 : Int32) (M : zM) (post : zM → Prop) : Prop := (∀ x1 : Int32, x1 = (i3 - i2) → ((i2 < 0 → (post M)) ∧ (¬ i2 < 0 → ((x1 ≤ 0 → (post M)) ∧ (¬ x1 ≤ 0 → (((M.1 a1 1) < i3 → (post M)) ∧ (¬ (M.1 a1 1) < i3 → (Wp_Ro_room a0 M (fun x3 M2 => ((x3 < x1 → (post M2)) ∧ (¬ x3 < x1 → (¬ i2 < 0 ∧ ¬ (M2.1 a0 1) < 0 ∧ ¬ x1 < 0 ∧ (i2).toNatClampNeg + (x1).toNatClampNeg ≤ ln (a1 + 1) ∧ ((M2.1 a0 1)).toNatClampNeg + (x1).toNatClampNeg ≤ ln (a0 + 1) ∧ (∀ i, i < (x1).toNatClampNeg → fits .byte (.int (M2.1 (a1 + 1) ((i2).toNatClampNeg + i))) = true) ∧ ∀ M4 : zM, M4 = zA M2 (a0 + 1) (va_cpy (M2.1 (a1 + 1)) (M2.1 (a0 + 1)) (i2).toNatClampNeg ((M2.1 a0 1)).toNatClampNeg (x1).toNatClampNeg) → (∀ M5 : zM, M5 = zI M4 a0 1 ((M4.1 a0 1) + x1) → (post M5))))))))))))))
/-- MailChain.Row.copy(LMailChain$Row;II)V -/
def Wp_Ro_copy (a0 : Nat) (a1 : Nat) (i2 : Int32) (i3 : Int32) (M : zM) (post : zM → Prop) : Prop := (Wp_Ro_wipe a0 M (fun M1 => (Wp_Ro_putRange a0 a1 i2 i3 M1 (fun M2 => (post M2)))))
/-- MailChain.Row.putText(Ljava/lang/String;)V -/
def Wp_Ro_putText (a0 : Nat) (s1 : Nat) (M : zM) (post : zM → Prop) : Prop := ∀ K2 : Int32 → zM → Prop, (∀ (v2 : Int32) (M : zM), (Wp_JString_length s1 M (fun x2 M1 => ((x2 ≤ v2 → (post M1)) ∧ (¬ x2 ≤ v2 → (Wp_JString_charAt s1 v2 M1 (fun x4 M3 => (Wp_Ro_put a0 x4 M3 (fun M5 => (∀ x6 : Int32, x6 = v2 + 1 → (K2 x6 M5)))))))))) → K2 v2 M) → (K2 0 M)
/-- MailChain.Row.putOctal(II)V -/
def Wp_Ro_putOctal (a0 : Nat) (i1 : Int32) (i2 : Int32) (M : zM) (post : zM → Prop) : Prop := ∀ K6 : Int32 → zM → Prop, (∀ (v3 : Int32) (M : zM), ((v3 < 0 → (post M)) ∧ (¬ v3 < 0 → (Wp_Ro_put a0 (48 + ((((i1).toUInt32 >>> ((v3).toUInt32 &&& Int32.toUInt32 31)).toInt32) &&& 7)) M (fun M2 => (∀ x3 : Int32, x3 = v3 + (-3) → (K6 x3 M2)))))) → K6 v3 M) → (∀ x1 : Int32, x1 = (3 * (i2 - 1)) → (K6 x1 M))
/-- MailChain.Row.putDecimal(J)V -/
def Wp_Ro_putDecimal (a0 : Nat) (l1 : Int64) (M : zM) (post : zM → Prop) : Prop := ∀ K5 : Int64 → Int32 → zM → Prop, ∀ K34 : Int64 → zM → Prop, (∀ (v3 : Int64) (v5 : Int32) (M : zM), ((10 ≤ v5 → (K34 v3 M)) ∧ (¬ 10 ≤ v5 → (¬ v3 = 0 ∧ (((lg_cmp (l1 / v3) 10) < 0 → (K34 v3 M)) ∧ (¬ (lg_cmp (l1 / v3) 10) < 0 → (∀ y1 : Int64, y1 = (v3 * 10) → (∀ x2 : Int32, x2 = v5 + 1 → (K5 y1 x2 M)))))))) → K5 v3 v5 M) → (∀ (v3 : Int64) (M : zM), (((lg_cmp v3 0) ≤ 0 → (post M)) ∧ (¬ (lg_cmp v3 0) ≤ 0 → (¬ v3 = 0 ∧ (Wp_Ro_put a0 (48 + ((((l1 / v3) - (l1 / v3) / 10 * 10)).toInt32)) M (fun M3 => (∀ y4 : Int64, y4 = (v3 / 10) → (K34 y4 M3))))))) → K34 v3 M) → (K5 1 1 M)
/-- MailChain.Row.hasText(Ljava/lang/String;I)Z -/
def Wp_Ro_hasText (a0 : Nat) (s1 : Nat) (i2 : Int32) (M : zM) (post : Int32 → zM → Prop) : Prop := ∀ K2 : Int32 → zM → Prop, (∀ (v3 : Int32) (M : zM), (Wp_JString_length s1 M (fun x2 M1 => ((x2 ≤ v3 → (post 1 M1)) ∧ (¬ x2 ≤ v3 → (Wp_Ro_at a0 (i2 + v3) M1 (fun x4 M3 => (Wp_JString_charAt s1 v3 M3 (fun x6 M5 => ((x4 = x6 → (∀ x7 : Int32, x7 = v3 + 1 → (K2 x7 M5))) ∧ (¬ x4 = x6 → (post 0 M5))))))))))) → K2 v3 M) → (K2 0 M)
/-- MailChain.Row.order(LMailChain$Row;I)I -/
def Wp_Ro_order (a0 : Nat) (a1 : Nat) (i2 : Int32) (M : zM) (post : Int32 → zM → Prop) : Prop := ∀ K2 : Int32 → zM → Prop, (∀ (v3 : Int32) (M : zM), (((M.1 a0 1) ≤ v3 → (post ((M.1 a0 1) - i2) M)) ∧ (¬ (M.1 a0 1) ≤ v3 → ((i2 ≤ v3 → (post ((M.1 a0 1) - i2) M)) ∧ (¬ i2 ≤ v3 → (((M.1 a1 1) ≤ v3 → (post ((M.1 a0 1) - i2) M)) ∧ (¬ (M.1 a1 1) ≤ v3 → (vp_in v3 (ln (a0 + 1)) ∧ (vp_in v3 (ln (a1 + 1)) ∧ (∀ x1 : Int32, x1 = (((M.1 (a0 + 1) (v3).toNatClampNeg) &&& 255) - ((M.1 (a1 + 1) (v3).toNatClampNeg) &&& 255)) → ((x1 = 0 → (∀ x2 : Int32, x2 = v3 + 1 → (K2 x2 M))) ∧ (¬ x1 = 0 → (post x1 M)))))))))))) → K2 v3 M) → (K2 0 M)
/-- MailChain.Row.same(LMailChain$Row;)Z -/
def Wp_Ro_same (a0 : Nat) (a1 : Nat) (M : zM) (post : Int32 → zM → Prop) : Prop := ((¬ (M.1 a0 1) = (M.1 a1 1) → (post 0 M)) ∧ ((M.1 a0 1) = (M.1 a1 1) → (Wp_Ro_order a0 a1 (M.1 a1 1) M (fun x2 M1 => ((¬ x2 = 0 → (post 0 M1)) ∧ (x2 = 0 → (post 1 M1)))))))
/-- MailChain.Row.divide(II)I -/
def Wp_Ro_divide (i0 : Int32) (i1 : Int32) (M : zM) (post : Int32 → zM → Prop) : Prop := (∀ x1 : Int32, x1 = (i0 ^^^ (i1 <<< (24 &&& 31))) → (vp_in (((x1).toUInt32 >>> (((28 : Int32)).toUInt32 &&& Int32.toUInt32 31)).toInt32) 16 ∧ (∀ x2 : Int32, x2 = ((x1 <<< (4 &&& 31)) ^^^ (remL.getD (((x1).toUInt32 >>> (((28 : Int32)).toUInt32 &&& Int32.toUInt32 31)).toInt32).toNatClampNeg 0)) → (vp_in (((x2).toUInt32 >>> (((28 : Int32)).toUInt32 &&& Int32.toUInt32 31)).toInt32) 16 ∧ (post ((x2 <<< (4 &&& 31)) ^^^ (remL.getD (((x2).toUInt32 >>> (((28 : Int32)).toUInt32 &&& Int32.toUInt32 31)).toInt32).toNatClampNeg 0)) M)))))
/-- MailChain.Row.sum(II)I -/
def Wp_Ro_sum (a0 : Nat) (i1 : Int32) (i2 : Int32) (M : zM) (post : Int32 → zM → Prop) : Prop := ∀ K5 : Int32 → Int32 → zM → Prop, ∀ K33 : Int32 → Int32 → zM → Prop, (∀ (v3 : Int32) (v4 : Int32) (M : zM), ((i2 ≤ v4 → (∀ x1 : Int32, x1 = (i2 - i1) → (K33 v3 x1 M))) ∧ (¬ i2 ≤ v4 → (Wp_Ro_at a0 v4 M (fun x3 M2 => (Wp_Ro_divide v3 x3 M2 (fun x5 M4 => (∀ x6 : Int32, x6 = v4 + 1 → (K5 x5 x6 M4)))))))) → K5 v3 v4 M) → (∀ (v3 : Int32) (v4 : Int32) (M : zM), ((v4 ≤ 0 → (post (v3 ^^^ (-1)) M)) ∧ (¬ v4 ≤ 0 → (Wp_Ro_divide v3 v4 M (fun x8 M7 => (∀ x9 : Int32, x9 = ((v4).toUInt32 >>> (((8 : Int32)).toUInt32 &&& Int32.toUInt32 31)).toInt32 → (K33 x8 x9 M7)))))) → K33 v3 v4 M) → (K5 0 i1 M)
/-- MailChain.Entry.becomeLinkOf(LMailChain$Entry;)V -/
def Wp_En_becomeLinkOf (a0 : Nat) (a1 : Nat) (M : zM) (post : zM → Prop) : Prop := (∀ M1 : zM, M1 = zI M a0 1 (M.1 a1 1) → (∀ M2 : zM, M2 = zI M1 a0 2 (M1.1 a1 2) → (∀ M3 : zM, M3 = zI M2 a0 3 (M2.1 a1 3) → (∀ M4 : zM, M4 = zI M3 a0 4 (M3.1 a1 4) → (∀ M5 : zM, M5 = zI M4 a0 5 (M4.1 a1 5) → (∀ M6 : zM, M6 = zI M5 a0 6 (M5.1 a1 6) → (∀ M7 : zM, M7 = zI M6 a0 7 (M6.1 a1 7) → (∀ M8 : zM, M8 = zI M7 a0 8 (M7.1 a1 8) → (post M8)))))))))
/-- MailChain.Entry.hasSoundFields()Z -/
def Wp_En_hasSoundFields (a0 : Nat) (M : zM) (post : Int32 → zM → Prop) : Prop := (((M.1 a0 1) < 0 → (post 0 M)) ∧ (¬ (M.1 a0 1) < 0 → ((2 < (M.1 a0 1) → (post 0 M)) ∧ (¬ 2 < (M.1 a0 1) → (((M.1 a0 2) < 0 → (post 0 M)) ∧ (¬ (M.1 a0 2) < 0 → ((4095 < (M.1 a0 2) → (post 0 M)) ∧ (¬ 4095 < (M.1 a0 2) → (((M.1 a0 3) < 0 → (post 0 M)) ∧ (¬ (M.1 a0 3) < 0 → (((M.1 a0 4) < 0 → (post 0 M)) ∧ (¬ (M.1 a0 4) < 0 → (((M.1 a0 5) < 0 → (post 0 M)) ∧ (¬ (M.1 a0 5) < 0 → (post 1 M)))))))))))))))
/-- MailChain.Entry.isName(II)Z -/
def Wp_En_isName (a0 : Nat) (i1 : Int32) (i2 : Int32) (M : zM) (post : Int32 → zM → Prop) : Prop := (∀ x1 : Int32, x1 = (i2 - i1) → ((¬ x1 = 1 → ((¬ x1 = 2 → ((x1 ≤ 2 → (post 0 M)) ∧ (¬ x1 ≤ 2 → (post 1 M)))) ∧ (x1 = 2 → (Wp_Ro_at (a0 + 1) i1 M (fun x3 M2 => ((¬ x3 = 46 → (post 1 M2)) ∧ (x3 = 46 → (Wp_Ro_at (a0 + 1) (i1 + 1) M2 (fun x5 M4 => ((x5 = 46 → (post 0 M4)) ∧ (¬ x5 = 46 → (post 1 M4)))))))))))) ∧ (x1 = 1 → (Wp_Ro_at (a0 + 1) i1 M (fun x7 M6 => ((x7 = 46 → (post 0 M6)) ∧ (¬ x7 = 46 → (post 1 M6))))))))
/-- MailChain.Entry.hasSoundPath()Z -/
def Wp_En_hasSoundPath (a0 : Nat) (M : zM) (post : Int32 → zM → Prop) : Prop := ∀ K4 : Int32 → Int32 → zM → Prop, ∀ K45 : Int32 → Int32 → Int32 → zM → Prop, (∀ (v1 : Int32) (v2 : Int32) (M : zM), (((M.1 (a0 + 1) 1) ≤ v2 → (Wp_En_isName a0 v1 (M.1 (a0 + 1) 1) M (fun x2 M1 => (narrow .boolean (.int x2) = .int x2 ∧ post x2 M1)))) ∧ (¬ (M.1 (a0 + 1) 1) ≤ v2 → (Wp_Ro_at (a0 + 1) v2 M (fun x4 M3 => ((x4 = 0 → (post 0 M3)) ∧ (¬ x4 = 0 → ((¬ x4 = 47 → (K45 v1 v2 x4 M3)) ∧ (x4 = 47 → (Wp_En_isName a0 v1 v2 M3 (fun x6 M5 => ((¬ x6 = 0 → (K45 v1 v2 x4 M5)) ∧ (x6 = 0 → (post 0 M5))))))))))))) → K4 v1 v2 M) → (∀ (v1 : Int32) (v2 : Int32) (v3 : Int32) (M : zM), ((¬ v3 = 47 → (∀ x7 : Int32, x7 = v2 + 1 → (K4 v1 x7 M))) ∧ (v3 = 47 → (∀ x8 : Int32, x8 = (v2 + 1) → (∀ x9 : Int32, x9 = v2 + 1 → (K4 x8 x9 M))))) → K45 v1 v2 v3 M) → (K4 0 0 M)
/-- MailChain.Entry.parentSize()I -/
def Wp_En_parentSize (a0 : Nat) (M : zM) (post : Int32 → zM → Prop) : Prop := ∀ K4 : Int32 → Int32 → zM → Prop, (∀ (v1 : Int32) (v2 : Int32) (M : zM), (((M.1 (a0 + 1) 1) ≤ v2 → (post v1 M)) ∧ (¬ (M.1 (a0 + 1) 1) ≤ v2 → (Wp_Ro_at (a0 + 1) v2 M (fun x2 M1 => ((¬ x2 = 47 → (∀ x3 : Int32, x3 = v2 + 1 → (K4 v1 x3 M1))) ∧ (x2 = 47 → (∀ x4 : Int32, x4 = v2 + 1 → (K4 v2 x4 M1)))))))) → K4 v1 v2 M) → (K4 (-1) 0 M)
/-- MailChain.Tree.wipe()V -/
def Wp_Tr_wipe (a0 : Nat) (M : zM) (post : zM → Prop) : Prop := (Wp_Ro_wipe (a0 + 125) M (fun M1 => (∀ M2 : zM, M2 = zI M1 a0 2 0 → (∀ M3 : zM, M3 = zI M2 a0 3 0 → (post M3)))))
/-- MailChain.Tree.has(I)Z -/
def Wp_Tr_has (a0 : Nat) (i1 : Int32) (M : zM) (post : Int32 → zM → Prop) : Prop := ((i1 < 0 → (post 0 M)) ∧ (¬ i1 < 0 → (((M.1 a0 2) ≤ i1 → (post 0 M)) ∧ (¬ (M.1 a0 2) ≤ i1 → (post 1 M)))))
/-- MailChain.Tree.draft()LMailChain$Entry; -/
def Wp_Tr_draft (a0 : Nat) (M : zM) (post : Nat → zM → Prop) : Prop := (vp_in (M.1 a0 2) (ln (a0 + 1)) ∧ (∀ r1 : Nat, r1 = (M.2.2 (a0 + 1) ((M.1 a0 2)).toNatClampNeg) → r1 < N0 ∧ tg r1 = 2 ∧ (post r1 M)))
/-- MailChain.Tree.isTarget(LMailChain$Row;II)Z -/
def Wp_Tr_isTarget (a0 : Nat) (i1 : Int32) (i2 : Int32) (M : zM) (post : Int32 → zM → Prop) : Prop := ∀ K19 : Int32 → zM → Prop, (∀ (v3 : Int32) (M : zM), ((i2 ≤ v3 → (post 1 M)) ∧ (¬ i2 ≤ v3 → (Wp_Ro_at a0 v3 M (fun x2 M1 => ((¬ x2 = 0 → (∀ x3 : Int32, x3 = v3 + 1 → (K19 x3 M1))) ∧ (x2 = 0 → (post 0 M1))))))) → K19 v3 M) → (((i2 - i1) < 1 → (post 0 M)) ∧ (¬ (i2 - i1) < 1 → (((i2 - i1) ≤ 60 → (K19 i1 M)) ∧ (¬ (i2 - i1) ≤ 60 → (post 0 M)))))
/-- MailChain.Tree.isBody(ILMailChain$Row;II)Z -/
def Wp_Tr_isBody (i0 : Int32) (a1 : Nat) (i2 : Int32) (i3 : Int32) (M : zM) (post : Int32 → zM → Prop) : Prop := ((¬ i0 = 0 → ((i0 = 1 → (post 1 M)) ∧ (¬ i0 = 1 → (Wp_Tr_isTarget a1 i2 i3 M (fun x2 M1 => ((x2 = 0 → (post 0 M1)) ∧ (¬ x2 = 0 → (post 1 M1)))))))) ∧ (i0 = 0 → ((¬ i2 = i3 → (post 0 M)) ∧ (i2 = i3 → (post 1 M)))))
/-- MailChain.Tree.placeOf(LMailChain$Row;I)I -/
def Wp_Tr_placeOf (a0 : Nat) (a1 : Nat) (i2 : Int32) (M : zM) (post : Int32 → zM → Prop) : Prop := ∀ K2 : Int32 → zM → Prop, (∀ (v3 : Int32) (M : zM), (((M.1 a0 2) ≤ v3 → (post v3 M)) ∧ (¬ (M.1 a0 2) ≤ v3 → (vp_in v3 (ln (a0 + 1)) ∧ (∀ r1 : Nat, r1 = (M.2.2 (a0 + 1) (v3).toNatClampNeg) → r1 < N0 ∧ tg r1 = 2 ∧ (Wp_Ro_order (r1 + 1) a1 i2 M (fun x3 M2 => ((0 ≤ x3 → (post v3 M2)) ∧ (¬ 0 ≤ x3 → (∀ x4 : Int32, x4 = v3 + 1 → (K2 x4 M2)))))))))) → K2 v3 M) → (K2 0 M)
/-- MailChain.Tree.hasParentOf(LMailChain$Entry;)Z -/
def Wp_Tr_hasParentOf (a0 : Nat) (a1 : Nat) (M : zM) (post : Int32 → zM → Prop) : Prop := (Wp_En_parentSize a1 M (fun x2 M1 => ((¬ x2 = (-1) → (Wp_Tr_placeOf a0 (a1 + 1) x2 M1 (fun x4 M3 => (Wp_Tr_has a0 x4 M3 (fun x6 M5 => ((x6 = 0 → (post 0 M5)) ∧ (¬ x6 = 0 → (vp_in x4 (ln (a0 + 1)) ∧ (∀ r7 : Nat, r7 = (M5.2.2 (a0 + 1) (x4).toNatClampNeg) → r7 < N0 ∧ tg r7 = 2 ∧ ((¬ (M5.1 r7 1) = 0 → (post 0 M5)) ∧ ((M5.1 r7 1) = 0 → (vp_in x4 (ln (a0 + 1)) ∧ (∀ r8 : Nat, r8 = (M5.2.2 (a0 + 1) (x4).toNatClampNeg) → r8 < N0 ∧ tg r8 = 2 ∧ (Wp_Ro_order (r8 + 1) (a1 + 1) x2 M5 (fun x10 M9 => ((¬ x10 = 0 → (post 0 M9)) ∧ (x10 = 0 → (post 1 M9)))))))))))))))))) ∧ (x2 = (-1) → (post 1 M1)))))
theorem d_Ro_wipe_0 : decode b_Ro_wipe 0 = .ok (.aload_n 0, 1) := by decide +kernel
theorem d_Ro_wipe_1 : decode b_Ro_wipe 1 = .ok (.iconst 0, 1) := by decide +kernel
theorem d_Ro_wipe_2 : decode b_Ro_wipe 2 = .ok (.putfield 15, 3) := by decide +kernel
theorem d_Ro_wipe_5 : decode b_Ro_wipe 5 = .ok (.return_, 1) := by decide +kernel
theorem d_Ro_room_0 : decode b_Ro_room 0 = .ok (.aload_n 0, 1) := by decide +kernel
theorem d_Ro_room_1 : decode b_Ro_room 1 = .ok (.getfield 9, 3) := by decide +kernel
theorem d_Ro_room_4 : decode b_Ro_room 4 = .ok (.arraylength, 1) := by decide +kernel
theorem d_Ro_room_5 : decode b_Ro_room 5 = .ok (.aload_n 0, 1) := by decide +kernel
theorem d_Ro_room_6 : decode b_Ro_room 6 = .ok (.getfield 15, 3) := by decide +kernel
theorem d_Ro_room_9 : decode b_Ro_room 9 = .ok (.isub, 1) := by decide +kernel
theorem d_Ro_room_10 : decode b_Ro_room 10 = .ok (.ireturn, 1) := by decide +kernel
theorem d_Ro_has_0 : decode b_Ro_has 0 = .ok (.iload_n 1, 1) := by decide +kernel
theorem d_Ro_has_1 : decode b_Ro_has 1 = .ok (.ifCond .lt 15, 3) := by decide +kernel
theorem d_Ro_has_4 : decode b_Ro_has 4 = .ok (.iload_n 1, 1) := by decide +kernel
theorem d_Ro_has_5 : decode b_Ro_has 5 = .ok (.aload_n 0, 1) := by decide +kernel
theorem d_Ro_has_6 : decode b_Ro_has 6 = .ok (.getfield 15, 3) := by decide +kernel
theorem d_Ro_has_9 : decode b_Ro_has 9 = .ok (.if_icmp .ge 7, 3) := by decide +kernel
theorem d_Ro_has_12 : decode b_Ro_has 12 = .ok (.iconst 1, 1) := by decide +kernel
theorem d_Ro_has_13 : decode b_Ro_has 13 = .ok (.goto 4, 3) := by decide +kernel
theorem d_Ro_has_16 : decode b_Ro_has 16 = .ok (.iconst 0, 1) := by decide +kernel
theorem d_Ro_has_17 : decode b_Ro_has 17 = .ok (.ireturn, 1) := by decide +kernel
theorem d_Ro_at_0 : decode b_Ro_at 0 = .ok (.iload_n 1, 1) := by decide +kernel
theorem d_Ro_at_1 : decode b_Ro_at 1 = .ok (.ifCond .lt 24, 3) := by decide +kernel
theorem d_Ro_at_4 : decode b_Ro_at 4 = .ok (.iload_n 1, 1) := by decide +kernel
theorem d_Ro_at_5 : decode b_Ro_at 5 = .ok (.aload_n 0, 1) := by decide +kernel
theorem d_Ro_at_6 : decode b_Ro_at 6 = .ok (.getfield 15, 3) := by decide +kernel
theorem d_Ro_at_9 : decode b_Ro_at 9 = .ok (.if_icmp .ge 16, 3) := by decide +kernel
theorem d_Ro_at_12 : decode b_Ro_at 12 = .ok (.aload_n 0, 1) := by decide +kernel
theorem d_Ro_at_13 : decode b_Ro_at 13 = .ok (.getfield 9, 3) := by decide +kernel
theorem d_Ro_at_16 : decode b_Ro_at 16 = .ok (.iload_n 1, 1) := by decide +kernel
theorem d_Ro_at_17 : decode b_Ro_at 17 = .ok (.baload, 1) := by decide +kernel
theorem d_Ro_at_18 : decode b_Ro_at 18 = .ok (.sipush 255, 3) := by decide +kernel
theorem d_Ro_at_21 : decode b_Ro_at 21 = .ok (.iand, 1) := by decide +kernel
theorem d_Ro_at_22 : decode b_Ro_at 22 = .ok (.goto 4, 3) := by decide +kernel
theorem d_Ro_at_25 : decode b_Ro_at 25 = .ok (.iconst (-1), 1) := by decide +kernel
theorem d_Ro_at_26 : decode b_Ro_at 26 = .ok (.ireturn, 1) := by decide +kernel
theorem d_Ro_put_0 : decode b_Ro_put 0 = .ok (.aload_n 0, 1) := by decide +kernel
theorem d_Ro_put_1 : decode b_Ro_put 1 = .ok (.getfield 15, 3) := by decide +kernel
theorem d_Ro_put_4 : decode b_Ro_put 4 = .ok (.aload_n 0, 1) := by decide +kernel
theorem d_Ro_put_5 : decode b_Ro_put 5 = .ok (.getfield 9, 3) := by decide +kernel
theorem d_Ro_put_8 : decode b_Ro_put 8 = .ok (.arraylength, 1) := by decide +kernel
theorem d_Ro_put_9 : decode b_Ro_put 9 = .ok (.if_icmp .ge 24, 3) := by decide +kernel
theorem d_Ro_put_12 : decode b_Ro_put 12 = .ok (.aload_n 0, 1) := by decide +kernel
theorem d_Ro_put_13 : decode b_Ro_put 13 = .ok (.getfield 9, 3) := by decide +kernel
theorem d_Ro_put_16 : decode b_Ro_put 16 = .ok (.aload_n 0, 1) := by decide +kernel
theorem d_Ro_put_17 : decode b_Ro_put 17 = .ok (.getfield 15, 3) := by decide +kernel
theorem d_Ro_put_20 : decode b_Ro_put 20 = .ok (.iload_n 1, 1) := by decide +kernel
theorem d_Ro_put_21 : decode b_Ro_put 21 = .ok (.i2b, 1) := by decide +kernel
theorem d_Ro_put_22 : decode b_Ro_put 22 = .ok (.bastore, 1) := by decide +kernel
theorem d_Ro_put_23 : decode b_Ro_put 23 = .ok (.aload_n 0, 1) := by decide +kernel
theorem d_Ro_put_24 : decode b_Ro_put 24 = .ok (.dup, 1) := by decide +kernel
theorem d_Ro_put_25 : decode b_Ro_put 25 = .ok (.getfield 15, 3) := by decide +kernel
theorem d_Ro_put_28 : decode b_Ro_put 28 = .ok (.iconst 1, 1) := by decide +kernel
theorem d_Ro_put_29 : decode b_Ro_put 29 = .ok (.iadd, 1) := by decide +kernel
theorem d_Ro_put_30 : decode b_Ro_put 30 = .ok (.putfield 15, 3) := by decide +kernel
theorem d_Ro_put_33 : decode b_Ro_put 33 = .ok (.return_, 1) := by decide +kernel
theorem d_Ro_turn_0 : decode b_Ro_turn 0 = .ok (.aload_n 0, 1) := by decide +kernel
theorem d_Ro_turn_1 : decode b_Ro_turn 1 = .ok (.iload_n 1, 1) := by decide +kernel
theorem d_Ro_turn_2 : decode b_Ro_turn 2 = .ok (.invokevirtual 19, 3) := by decide +kernel
theorem d_Ro_turn_5 : decode b_Ro_turn 5 = .ok (.ifCond .eq 15, 3) := by decide +kernel
theorem d_Ro_turn_8 : decode b_Ro_turn 8 = .ok (.aload_n 0, 1) := by decide +kernel
theorem d_Ro_turn_9 : decode b_Ro_turn 9 = .ok (.getfield 9, 3) := by decide +kernel
theorem d_Ro_turn_12 : decode b_Ro_turn 12 = .ok (.iload_n 1, 1) := by decide +kernel
theorem d_Ro_turn_13 : decode b_Ro_turn 13 = .ok (.dup2, 1) := by decide +kernel
theorem d_Ro_turn_14 : decode b_Ro_turn 14 = .ok (.baload, 1) := by decide +kernel
theorem d_Ro_turn_15 : decode b_Ro_turn 15 = .ok (.iload_n 2, 1) := by decide +kernel
theorem d_Ro_turn_16 : decode b_Ro_turn 16 = .ok (.i2b, 1) := by decide +kernel
theorem d_Ro_turn_17 : decode b_Ro_turn 17 = .ok (.ixor, 1) := by decide +kernel
theorem d_Ro_turn_18 : decode b_Ro_turn 18 = .ok (.i2b, 1) := by decide +kernel
theorem d_Ro_turn_19 : decode b_Ro_turn 19 = .ok (.bastore, 1) := by decide +kernel
theorem d_Ro_turn_20 : decode b_Ro_turn 20 = .ok (.return_, 1) := by decide +kernel
theorem d_Ro_putRange_0 : decode b_Ro_putRange 0 = .ok (.iload_n 3, 1) := by decide +kernel
theorem d_Ro_putRange_1 : decode b_Ro_putRange 1 = .ok (.iload_n 2, 1) := by decide +kernel
theorem d_Ro_putRange_2 : decode b_Ro_putRange 2 = .ok (.isub, 1) := by decide +kernel
theorem d_Ro_putRange_3 : decode b_Ro_putRange 3 = .ok (.istore 4, 2) := by decide +kernel
theorem d_Ro_putRange_5 : decode b_Ro_putRange 5 = .ok (.iload_n 2, 1) := by decide +kernel
theorem d_Ro_putRange_6 : decode b_Ro_putRange 6 = .ok (.ifCond .lt 54, 3) := by decide +kernel
theorem d_Ro_putRange_9 : decode b_Ro_putRange 9 = .ok (.iload 4, 2) := by decide +kernel
theorem d_Ro_putRange_11 : decode b_Ro_putRange 11 = .ok (.ifCond .le 49, 3) := by decide +kernel
theorem d_Ro_putRange_14 : decode b_Ro_putRange 14 = .ok (.iload_n 3, 1) := by decide +kernel
theorem d_Ro_putRange_15 : decode b_Ro_putRange 15 = .ok (.aload_n 1, 1) := by decide +kernel
theorem d_Ro_putRange_16 : decode b_Ro_putRange 16 = .ok (.getfield 15, 3) := by decide +kernel
theorem d_Ro_putRange_19 : decode b_Ro_putRange 19 = .ok (.if_icmp .gt 41, 3) := by decide +kernel
theorem d_Ro_putRange_22 : decode b_Ro_putRange 22 = .ok (.iload 4, 2) := by decide +kernel
theorem d_Ro_putRange_24 : decode b_Ro_putRange 24 = .ok (.aload_n 0, 1) := by decide +kernel
theorem d_Ro_putRange_25 : decode b_Ro_putRange 25 = .ok (.invokevirtual 23, 3) := by decide +kernel
theorem d_Ro_putRange_28 : decode b_Ro_putRange 28 = .ok (.if_icmp .gt 32, 3) := by decide +kernel
theorem d_Ro_putRange_31 : decode b_Ro_putRange 31 = .ok (.aload_n 1, 1) := by decide +kernel
theorem d_Ro_putRange_32 : decode b_Ro_putRange 32 = .ok (.getfield 9, 3) := by decide +kernel
theorem d_Ro_putRange_35 : decode b_Ro_putRange 35 = .ok (.iload_n 2, 1) := by decide +kernel
theorem d_Ro_putRange_36 : decode b_Ro_putRange 36 = .ok (.aload_n 0, 1) := by decide +kernel
theorem d_Ro_putRange_37 : decode b_Ro_putRange 37 = .ok (.getfield 9, 3) := by decide +kernel
theorem d_Ro_putRange_40 : decode b_Ro_putRange 40 = .ok (.aload_n 0, 1) := by decide +kernel
theorem d_Ro_putRange_41 : decode b_Ro_putRange 41 = .ok (.getfield 15, 3) := by decide +kernel
theorem d_Ro_putRange_44 : decode b_Ro_putRange 44 = .ok (.iload 4, 2) := by decide +kernel
theorem d_Ro_putRange_46 : decode b_Ro_putRange 46 = .ok (.invokestatic 27, 3) := by decide +kernel
theorem d_Ro_putRange_49 : decode b_Ro_putRange 49 = .ok (.aload_n 0, 1) := by decide +kernel
theorem d_Ro_putRange_50 : decode b_Ro_putRange 50 = .ok (.dup, 1) := by decide +kernel
theorem d_Ro_putRange_51 : decode b_Ro_putRange 51 = .ok (.getfield 15, 3) := by decide +kernel
theorem d_Ro_putRange_54 : decode b_Ro_putRange 54 = .ok (.iload 4, 2) := by decide +kernel
theorem d_Ro_putRange_56 : decode b_Ro_putRange 56 = .ok (.iadd, 1) := by decide +kernel
theorem d_Ro_putRange_57 : decode b_Ro_putRange 57 = .ok (.putfield 15, 3) := by decide +kernel
theorem d_Ro_putRange_60 : decode b_Ro_putRange 60 = .ok (.return_, 1) := by decide +kernel
theorem d_Ro_copy_0 : decode b_Ro_copy 0 = .ok (.aload_n 0, 1) := by decide +kernel
theorem d_Ro_copy_1 : decode b_Ro_copy 1 = .ok (.invokevirtual 33, 3) := by decide +kernel
theorem d_Ro_copy_4 : decode b_Ro_copy 4 = .ok (.aload_n 0, 1) := by decide +kernel
theorem d_Ro_copy_5 : decode b_Ro_copy 5 = .ok (.aload_n 1, 1) := by decide +kernel
theorem d_Ro_copy_6 : decode b_Ro_copy 6 = .ok (.iload_n 2, 1) := by decide +kernel
theorem d_Ro_copy_7 : decode b_Ro_copy 7 = .ok (.iload_n 3, 1) := by decide +kernel
theorem d_Ro_copy_8 : decode b_Ro_copy 8 = .ok (.invokevirtual 36, 3) := by decide +kernel
theorem d_Ro_copy_11 : decode b_Ro_copy 11 = .ok (.return_, 1) := by decide +kernel
theorem d_Ro_putText_0 : decode b_Ro_putText 0 = .ok (.iconst 0, 1) := by decide +kernel
theorem d_Ro_putText_1 : decode b_Ro_putText 1 = .ok (.istore_n 2, 1) := by decide +kernel
theorem d_Ro_putText_2 : decode b_Ro_putText 2 = .ok (.iload_n 2, 1) := by decide +kernel
theorem d_Ro_putText_3 : decode b_Ro_putText 3 = .ok (.aload_n 1, 1) := by decide +kernel
theorem d_Ro_putText_4 : decode b_Ro_putText 4 = .ok (.invokevirtual 40, 3) := by decide +kernel
theorem d_Ro_putText_7 : decode b_Ro_putText 7 = .ok (.if_icmp .ge 18, 3) := by decide +kernel
theorem d_Ro_putText_10 : decode b_Ro_putText 10 = .ok (.aload_n 0, 1) := by decide +kernel
theorem d_Ro_putText_11 : decode b_Ro_putText 11 = .ok (.aload_n 1, 1) := by decide +kernel
theorem d_Ro_putText_12 : decode b_Ro_putText 12 = .ok (.iload_n 2, 1) := by decide +kernel
theorem d_Ro_putText_13 : decode b_Ro_putText 13 = .ok (.invokevirtual 45, 3) := by decide +kernel
theorem d_Ro_putText_16 : decode b_Ro_putText 16 = .ok (.invokevirtual 49, 3) := by decide +kernel
theorem d_Ro_putText_19 : decode b_Ro_putText 19 = .ok (.iinc 2 1, 3) := by decide +kernel
theorem d_Ro_putText_22 : decode b_Ro_putText 22 = .ok (.goto (-20), 3) := by decide +kernel
theorem d_Ro_putText_25 : decode b_Ro_putText 25 = .ok (.return_, 1) := by decide +kernel
theorem d_Ro_putOctal_0 : decode b_Ro_putOctal 0 = .ok (.iconst 3, 1) := by decide +kernel
theorem d_Ro_putOctal_1 : decode b_Ro_putOctal 1 = .ok (.iload_n 2, 1) := by decide +kernel
theorem d_Ro_putOctal_2 : decode b_Ro_putOctal 2 = .ok (.iconst 1, 1) := by decide +kernel
theorem d_Ro_putOctal_3 : decode b_Ro_putOctal 3 = .ok (.isub, 1) := by decide +kernel
theorem d_Ro_putOctal_4 : decode b_Ro_putOctal 4 = .ok (.imul, 1) := by decide +kernel
theorem d_Ro_putOctal_5 : decode b_Ro_putOctal 5 = .ok (.istore_n 3, 1) := by decide +kernel
theorem d_Ro_putOctal_6 : decode b_Ro_putOctal 6 = .ok (.iload_n 3, 1) := by decide +kernel
theorem d_Ro_putOctal_7 : decode b_Ro_putOctal 7 = .ok (.ifCond .lt 22, 3) := by decide +kernel
theorem d_Ro_putOctal_10 : decode b_Ro_putOctal 10 = .ok (.aload_n 0, 1) := by decide +kernel
theorem d_Ro_putOctal_11 : decode b_Ro_putOctal 11 = .ok (.bipush 48, 2) := by decide +kernel
theorem d_Ro_putOctal_13 : decode b_Ro_putOctal 13 = .ok (.iload_n 1, 1) := by decide +kernel
theorem d_Ro_putOctal_14 : decode b_Ro_putOctal 14 = .ok (.iload_n 3, 1) := by decide +kernel
theorem d_Ro_putOctal_15 : decode b_Ro_putOctal 15 = .ok (.iushr, 1) := by decide +kernel
theorem d_Ro_putOctal_16 : decode b_Ro_putOctal 16 = .ok (.bipush 7, 2) := by decide +kernel
theorem d_Ro_putOctal_18 : decode b_Ro_putOctal 18 = .ok (.iand, 1) := by decide +kernel
theorem d_Ro_putOctal_19 : decode b_Ro_putOctal 19 = .ok (.iadd, 1) := by decide +kernel
theorem d_Ro_putOctal_20 : decode b_Ro_putOctal 20 = .ok (.invokevirtual 49, 3) := by decide +kernel
theorem d_Ro_putOctal_23 : decode b_Ro_putOctal 23 = .ok (.iinc 3 (-3), 3) := by decide +kernel
theorem d_Ro_putOctal_26 : decode b_Ro_putOctal 26 = .ok (.goto (-20), 3) := by decide +kernel
theorem d_Ro_putOctal_29 : decode b_Ro_putOctal 29 = .ok (.return_, 1) := by decide +kernel
theorem d_Ro_putDecimal_0 : decode b_Ro_putDecimal 0 = .ok (.lconst 1, 1) := by decide +kernel
theorem d_Ro_putDecimal_1 : decode b_Ro_putDecimal 1 = .ok (.lstore_n 3, 1) := by decide +kernel
theorem d_Ro_putDecimal_2 : decode b_Ro_putDecimal 2 = .ok (.iconst 1, 1) := by decide +kernel
theorem d_Ro_putDecimal_3 : decode b_Ro_putDecimal 3 = .ok (.istore 5, 2) := by decide +kernel
theorem d_Ro_putDecimal_5 : decode b_Ro_putDecimal 5 = .ok (.iload 5, 2) := by decide +kernel
theorem d_Ro_putDecimal_7 : decode b_Ro_putDecimal 7 = .ok (.bipush 10, 2) := by decide +kernel
theorem d_Ro_putDecimal_9 : decode b_Ro_putDecimal 9 = .ok (.if_icmp .ge 25, 3) := by decide +kernel
theorem d_Ro_putDecimal_12 : decode b_Ro_putDecimal 12 = .ok (.lload_n 1, 1) := by decide +kernel
theorem d_Ro_putDecimal_13 : decode b_Ro_putDecimal 13 = .ok (.lload_n 3, 1) := by decide +kernel
theorem d_Ro_putDecimal_14 : decode b_Ro_putDecimal 14 = .ok (.ldiv, 1) := by decide +kernel
theorem d_Ro_putDecimal_15 : decode b_Ro_putDecimal 15 = .ok (.ldc2_w 53, 3) := by decide +kernel
theorem d_Ro_putDecimal_18 : decode b_Ro_putDecimal 18 = .ok (.lcmp, 1) := by decide +kernel
theorem d_Ro_putDecimal_19 : decode b_Ro_putDecimal 19 = .ok (.ifCond .lt 15, 3) := by decide +kernel
theorem d_Ro_putDecimal_22 : decode b_Ro_putDecimal 22 = .ok (.lload_n 3, 1) := by decide +kernel
theorem d_Ro_putDecimal_23 : decode b_Ro_putDecimal 23 = .ok (.ldc2_w 53, 3) := by decide +kernel
theorem d_Ro_putDecimal_26 : decode b_Ro_putDecimal 26 = .ok (.lmul, 1) := by decide +kernel
theorem d_Ro_putDecimal_27 : decode b_Ro_putDecimal 27 = .ok (.lstore_n 3, 1) := by decide +kernel
theorem d_Ro_putDecimal_28 : decode b_Ro_putDecimal 28 = .ok (.iinc 5 1, 3) := by decide +kernel
theorem d_Ro_putDecimal_31 : decode b_Ro_putDecimal 31 = .ok (.goto (-26), 3) := by decide +kernel
theorem d_Ro_putDecimal_34 : decode b_Ro_putDecimal 34 = .ok (.lload_n 3, 1) := by decide +kernel
theorem d_Ro_putDecimal_35 : decode b_Ro_putDecimal 35 = .ok (.lconst 0, 1) := by decide +kernel
theorem d_Ro_putDecimal_36 : decode b_Ro_putDecimal 36 = .ok (.lcmp, 1) := by decide +kernel
theorem d_Ro_putDecimal_37 : decode b_Ro_putDecimal 37 = .ok (.ifCond .le 27, 3) := by decide +kernel
theorem d_Ro_putDecimal_40 : decode b_Ro_putDecimal 40 = .ok (.aload_n 0, 1) := by decide +kernel
theorem d_Ro_putDecimal_41 : decode b_Ro_putDecimal 41 = .ok (.bipush 48, 2) := by decide +kernel
theorem d_Ro_putDecimal_43 : decode b_Ro_putDecimal 43 = .ok (.lload_n 1, 1) := by decide +kernel
theorem d_Ro_putDecimal_44 : decode b_Ro_putDecimal 44 = .ok (.lload_n 3, 1) := by decide +kernel
theorem d_Ro_putDecimal_45 : decode b_Ro_putDecimal 45 = .ok (.ldiv, 1) := by decide +kernel
theorem d_Ro_putDecimal_46 : decode b_Ro_putDecimal 46 = .ok (.ldc2_w 53, 3) := by decide +kernel
theorem d_Ro_putDecimal_49 : decode b_Ro_putDecimal 49 = .ok (.lrem, 1) := by decide +kernel
theorem d_Ro_putDecimal_50 : decode b_Ro_putDecimal 50 = .ok (.l2i, 1) := by decide +kernel
theorem d_Ro_putDecimal_51 : decode b_Ro_putDecimal 51 = .ok (.iadd, 1) := by decide +kernel
theorem d_Ro_putDecimal_52 : decode b_Ro_putDecimal 52 = .ok (.invokevirtual 49, 3) := by decide +kernel
theorem d_Ro_putDecimal_55 : decode b_Ro_putDecimal 55 = .ok (.lload_n 3, 1) := by decide +kernel
theorem d_Ro_putDecimal_56 : decode b_Ro_putDecimal 56 = .ok (.ldc2_w 53, 3) := by decide +kernel
theorem d_Ro_putDecimal_59 : decode b_Ro_putDecimal 59 = .ok (.ldiv, 1) := by decide +kernel
theorem d_Ro_putDecimal_60 : decode b_Ro_putDecimal 60 = .ok (.lstore_n 3, 1) := by decide +kernel
theorem d_Ro_putDecimal_61 : decode b_Ro_putDecimal 61 = .ok (.goto (-27), 3) := by decide +kernel
theorem d_Ro_putDecimal_64 : decode b_Ro_putDecimal 64 = .ok (.return_, 1) := by decide +kernel
theorem d_Ro_hasText_0 : decode b_Ro_hasText 0 = .ok (.iconst 0, 1) := by decide +kernel
theorem d_Ro_hasText_1 : decode b_Ro_hasText 1 = .ok (.istore_n 3, 1) := by decide +kernel
theorem d_Ro_hasText_2 : decode b_Ro_hasText 2 = .ok (.iload_n 3, 1) := by decide +kernel
theorem d_Ro_hasText_3 : decode b_Ro_hasText 3 = .ok (.aload_n 1, 1) := by decide +kernel
theorem d_Ro_hasText_4 : decode b_Ro_hasText 4 = .ok (.invokevirtual 40, 3) := by decide +kernel
theorem d_Ro_hasText_7 : decode b_Ro_hasText 7 = .ok (.if_icmp .ge 26, 3) := by decide +kernel
theorem d_Ro_hasText_10 : decode b_Ro_hasText 10 = .ok (.aload_n 0, 1) := by decide +kernel
theorem d_Ro_hasText_11 : decode b_Ro_hasText 11 = .ok (.iload_n 2, 1) := by decide +kernel
theorem d_Ro_hasText_12 : decode b_Ro_hasText 12 = .ok (.iload_n 3, 1) := by decide +kernel
theorem d_Ro_hasText_13 : decode b_Ro_hasText 13 = .ok (.iadd, 1) := by decide +kernel
theorem d_Ro_hasText_14 : decode b_Ro_hasText 14 = .ok (.invokevirtual 55, 3) := by decide +kernel
theorem d_Ro_hasText_17 : decode b_Ro_hasText 17 = .ok (.aload_n 1, 1) := by decide +kernel
theorem d_Ro_hasText_18 : decode b_Ro_hasText 18 = .ok (.iload_n 3, 1) := by decide +kernel
theorem d_Ro_hasText_19 : decode b_Ro_hasText 19 = .ok (.invokevirtual 45, 3) := by decide +kernel
theorem d_Ro_hasText_22 : decode b_Ro_hasText 22 = .ok (.if_icmp .eq 5, 3) := by decide +kernel
theorem d_Ro_hasText_25 : decode b_Ro_hasText 25 = .ok (.iconst 0, 1) := by decide +kernel
theorem d_Ro_hasText_26 : decode b_Ro_hasText 26 = .ok (.ireturn, 1) := by decide +kernel
theorem d_Ro_hasText_27 : decode b_Ro_hasText 27 = .ok (.iinc 3 1, 3) := by decide +kernel
theorem d_Ro_hasText_30 : decode b_Ro_hasText 30 = .ok (.goto (-28), 3) := by decide +kernel
theorem d_Ro_hasText_33 : decode b_Ro_hasText 33 = .ok (.iconst 1, 1) := by decide +kernel
theorem d_Ro_hasText_34 : decode b_Ro_hasText 34 = .ok (.ireturn, 1) := by decide +kernel
theorem d_Ro_order_0 : decode b_Ro_order 0 = .ok (.iconst 0, 1) := by decide +kernel
theorem d_Ro_order_1 : decode b_Ro_order 1 = .ok (.istore_n 3, 1) := by decide +kernel
theorem d_Ro_order_2 : decode b_Ro_order 2 = .ok (.iload_n 3, 1) := by decide +kernel
theorem d_Ro_order_3 : decode b_Ro_order 3 = .ok (.aload_n 0, 1) := by decide +kernel
theorem d_Ro_order_4 : decode b_Ro_order 4 = .ok (.getfield 15, 3) := by decide +kernel
theorem d_Ro_order_7 : decode b_Ro_order 7 = .ok (.if_icmp .ge 53, 3) := by decide +kernel
theorem d_Ro_order_10 : decode b_Ro_order 10 = .ok (.iload_n 3, 1) := by decide +kernel
theorem d_Ro_order_11 : decode b_Ro_order 11 = .ok (.iload_n 2, 1) := by decide +kernel
theorem d_Ro_order_12 : decode b_Ro_order 12 = .ok (.if_icmp .ge 48, 3) := by decide +kernel
theorem d_Ro_order_15 : decode b_Ro_order 15 = .ok (.iload_n 3, 1) := by decide +kernel
theorem d_Ro_order_16 : decode b_Ro_order 16 = .ok (.aload_n 1, 1) := by decide +kernel
theorem d_Ro_order_17 : decode b_Ro_order 17 = .ok (.getfield 15, 3) := by decide +kernel
theorem d_Ro_order_20 : decode b_Ro_order 20 = .ok (.if_icmp .ge 40, 3) := by decide +kernel
theorem d_Ro_order_23 : decode b_Ro_order 23 = .ok (.aload_n 0, 1) := by decide +kernel
theorem d_Ro_order_24 : decode b_Ro_order 24 = .ok (.getfield 9, 3) := by decide +kernel
theorem d_Ro_order_27 : decode b_Ro_order 27 = .ok (.iload_n 3, 1) := by decide +kernel
theorem d_Ro_order_28 : decode b_Ro_order 28 = .ok (.baload, 1) := by decide +kernel
theorem d_Ro_order_29 : decode b_Ro_order 29 = .ok (.sipush 255, 3) := by decide +kernel
theorem d_Ro_order_32 : decode b_Ro_order 32 = .ok (.iand, 1) := by decide +kernel
theorem d_Ro_order_33 : decode b_Ro_order 33 = .ok (.aload_n 1, 1) := by decide +kernel
theorem d_Ro_order_34 : decode b_Ro_order 34 = .ok (.getfield 9, 3) := by decide +kernel
theorem d_Ro_order_37 : decode b_Ro_order 37 = .ok (.iload_n 3, 1) := by decide +kernel
theorem d_Ro_order_38 : decode b_Ro_order 38 = .ok (.baload, 1) := by decide +kernel
theorem d_Ro_order_39 : decode b_Ro_order 39 = .ok (.sipush 255, 3) := by decide +kernel
theorem d_Ro_order_42 : decode b_Ro_order 42 = .ok (.iand, 1) := by decide +kernel
theorem d_Ro_order_43 : decode b_Ro_order 43 = .ok (.isub, 1) := by decide +kernel
theorem d_Ro_order_44 : decode b_Ro_order 44 = .ok (.istore 4, 2) := by decide +kernel
theorem d_Ro_order_46 : decode b_Ro_order 46 = .ok (.iload 4, 2) := by decide +kernel
theorem d_Ro_order_48 : decode b_Ro_order 48 = .ok (.ifCond .eq 6, 3) := by decide +kernel
theorem d_Ro_order_51 : decode b_Ro_order 51 = .ok (.iload 4, 2) := by decide +kernel
theorem d_Ro_order_53 : decode b_Ro_order 53 = .ok (.ireturn, 1) := by decide +kernel
theorem d_Ro_order_54 : decode b_Ro_order 54 = .ok (.iinc 3 1, 3) := by decide +kernel
theorem d_Ro_order_57 : decode b_Ro_order 57 = .ok (.goto (-55), 3) := by decide +kernel
theorem d_Ro_order_60 : decode b_Ro_order 60 = .ok (.aload_n 0, 1) := by decide +kernel
theorem d_Ro_order_61 : decode b_Ro_order 61 = .ok (.getfield 15, 3) := by decide +kernel
theorem d_Ro_order_64 : decode b_Ro_order 64 = .ok (.iload_n 2, 1) := by decide +kernel
theorem d_Ro_order_65 : decode b_Ro_order 65 = .ok (.isub, 1) := by decide +kernel
theorem d_Ro_order_66 : decode b_Ro_order 66 = .ok (.ireturn, 1) := by decide +kernel
theorem d_Ro_same_0 : decode b_Ro_same 0 = .ok (.aload_n 0, 1) := by decide +kernel
theorem d_Ro_same_1 : decode b_Ro_same 1 = .ok (.getfield 15, 3) := by decide +kernel
theorem d_Ro_same_4 : decode b_Ro_same 4 = .ok (.aload_n 1, 1) := by decide +kernel
theorem d_Ro_same_5 : decode b_Ro_same 5 = .ok (.getfield 15, 3) := by decide +kernel
theorem d_Ro_same_8 : decode b_Ro_same 8 = .ok (.if_icmp .ne 19, 3) := by decide +kernel
theorem d_Ro_same_11 : decode b_Ro_same 11 = .ok (.aload_n 0, 1) := by decide +kernel
theorem d_Ro_same_12 : decode b_Ro_same 12 = .ok (.aload_n 1, 1) := by decide +kernel
theorem d_Ro_same_13 : decode b_Ro_same 13 = .ok (.aload_n 1, 1) := by decide +kernel
theorem d_Ro_same_14 : decode b_Ro_same 14 = .ok (.getfield 15, 3) := by decide +kernel
theorem d_Ro_same_17 : decode b_Ro_same 17 = .ok (.invokevirtual 59, 3) := by decide +kernel
theorem d_Ro_same_20 : decode b_Ro_same 20 = .ok (.ifCond .ne 7, 3) := by decide +kernel
theorem d_Ro_same_23 : decode b_Ro_same 23 = .ok (.iconst 1, 1) := by decide +kernel
theorem d_Ro_same_24 : decode b_Ro_same 24 = .ok (.goto 4, 3) := by decide +kernel
theorem d_Ro_same_27 : decode b_Ro_same 27 = .ok (.iconst 0, 1) := by decide +kernel
theorem d_Ro_same_28 : decode b_Ro_same 28 = .ok (.ireturn, 1) := by decide +kernel
theorem d_Ro_divide_0 : decode b_Ro_divide 0 = .ok (.iload_n 0, 1) := by decide +kernel
theorem d_Ro_divide_1 : decode b_Ro_divide 1 = .ok (.iload_n 1, 1) := by decide +kernel
theorem d_Ro_divide_2 : decode b_Ro_divide 2 = .ok (.bipush 24, 2) := by decide +kernel
theorem d_Ro_divide_4 : decode b_Ro_divide 4 = .ok (.ishl, 1) := by decide +kernel
theorem d_Ro_divide_5 : decode b_Ro_divide 5 = .ok (.ixor, 1) := by decide +kernel
theorem d_Ro_divide_6 : decode b_Ro_divide 6 = .ok (.istore_n 2, 1) := by decide +kernel
theorem d_Ro_divide_7 : decode b_Ro_divide 7 = .ok (.iload_n 2, 1) := by decide +kernel
theorem d_Ro_divide_8 : decode b_Ro_divide 8 = .ok (.iconst 4, 1) := by decide +kernel
theorem d_Ro_divide_9 : decode b_Ro_divide 9 = .ok (.ishl, 1) := by decide +kernel
theorem d_Ro_divide_10 : decode b_Ro_divide 10 = .ok (.getstatic 67, 3) := by decide +kernel
theorem d_Ro_divide_13 : decode b_Ro_divide 13 = .ok (.iload_n 2, 1) := by decide +kernel
theorem d_Ro_divide_14 : decode b_Ro_divide 14 = .ok (.bipush 28, 2) := by decide +kernel
theorem d_Ro_divide_16 : decode b_Ro_divide 16 = .ok (.iushr, 1) := by decide +kernel
theorem d_Ro_divide_17 : decode b_Ro_divide 17 = .ok (.iaload, 1) := by decide +kernel
theorem d_Ro_divide_18 : decode b_Ro_divide 18 = .ok (.ixor, 1) := by decide +kernel
theorem d_Ro_divide_19 : decode b_Ro_divide 19 = .ok (.istore_n 2, 1) := by decide +kernel
theorem d_Ro_divide_20 : decode b_Ro_divide 20 = .ok (.iload_n 2, 1) := by decide +kernel
theorem d_Ro_divide_21 : decode b_Ro_divide 21 = .ok (.iconst 4, 1) := by decide +kernel
theorem d_Ro_divide_22 : decode b_Ro_divide 22 = .ok (.ishl, 1) := by decide +kernel
theorem d_Ro_divide_23 : decode b_Ro_divide 23 = .ok (.getstatic 67, 3) := by decide +kernel
theorem d_Ro_divide_26 : decode b_Ro_divide 26 = .ok (.iload_n 2, 1) := by decide +kernel
theorem d_Ro_divide_27 : decode b_Ro_divide 27 = .ok (.bipush 28, 2) := by decide +kernel
theorem d_Ro_divide_29 : decode b_Ro_divide 29 = .ok (.iushr, 1) := by decide +kernel
theorem d_Ro_divide_30 : decode b_Ro_divide 30 = .ok (.iaload, 1) := by decide +kernel
theorem d_Ro_divide_31 : decode b_Ro_divide 31 = .ok (.ixor, 1) := by decide +kernel
theorem d_Ro_divide_32 : decode b_Ro_divide 32 = .ok (.ireturn, 1) := by decide +kernel
theorem d_Ro_sum_0 : decode b_Ro_sum 0 = .ok (.iconst 0, 1) := by decide +kernel
theorem d_Ro_sum_1 : decode b_Ro_sum 1 = .ok (.istore_n 3, 1) := by decide +kernel
theorem d_Ro_sum_2 : decode b_Ro_sum 2 = .ok (.iload_n 1, 1) := by decide +kernel
theorem d_Ro_sum_3 : decode b_Ro_sum 3 = .ok (.istore 4, 2) := by decide +kernel
theorem d_Ro_sum_5 : decode b_Ro_sum 5 = .ok (.iload 4, 2) := by decide +kernel
theorem d_Ro_sum_7 : decode b_Ro_sum 7 = .ok (.iload_n 2, 1) := by decide +kernel
theorem d_Ro_sum_8 : decode b_Ro_sum 8 = .ok (.if_icmp .ge 20, 3) := by decide +kernel
theorem d_Ro_sum_11 : decode b_Ro_sum 11 = .ok (.iload_n 3, 1) := by decide +kernel
theorem d_Ro_sum_12 : decode b_Ro_sum 12 = .ok (.aload_n 0, 1) := by decide +kernel
theorem d_Ro_sum_13 : decode b_Ro_sum 13 = .ok (.iload 4, 2) := by decide +kernel
theorem d_Ro_sum_15 : decode b_Ro_sum 15 = .ok (.invokevirtual 55, 3) := by decide +kernel
theorem d_Ro_sum_18 : decode b_Ro_sum 18 = .ok (.invokestatic 63, 3) := by decide +kernel
theorem d_Ro_sum_21 : decode b_Ro_sum 21 = .ok (.istore_n 3, 1) := by decide +kernel
theorem d_Ro_sum_22 : decode b_Ro_sum 22 = .ok (.iinc 4 1, 3) := by decide +kernel
theorem d_Ro_sum_25 : decode b_Ro_sum 25 = .ok (.goto (-20), 3) := by decide +kernel
theorem d_Ro_sum_28 : decode b_Ro_sum 28 = .ok (.iload_n 2, 1) := by decide +kernel
theorem d_Ro_sum_29 : decode b_Ro_sum 29 = .ok (.iload_n 1, 1) := by decide +kernel
theorem d_Ro_sum_30 : decode b_Ro_sum 30 = .ok (.isub, 1) := by decide +kernel
theorem d_Ro_sum_31 : decode b_Ro_sum 31 = .ok (.istore 4, 2) := by decide +kernel
theorem d_Ro_sum_33 : decode b_Ro_sum 33 = .ok (.iload 4, 2) := by decide +kernel
theorem d_Ro_sum_35 : decode b_Ro_sum 35 = .ok (.ifCond .le 20, 3) := by decide +kernel
theorem d_Ro_sum_38 : decode b_Ro_sum 38 = .ok (.iload_n 3, 1) := by decide +kernel
theorem d_Ro_sum_39 : decode b_Ro_sum 39 = .ok (.iload 4, 2) := by decide +kernel
theorem d_Ro_sum_41 : decode b_Ro_sum 41 = .ok (.invokestatic 63, 3) := by decide +kernel
theorem d_Ro_sum_44 : decode b_Ro_sum 44 = .ok (.istore_n 3, 1) := by decide +kernel
theorem d_Ro_sum_45 : decode b_Ro_sum 45 = .ok (.iload 4, 2) := by decide +kernel
theorem d_Ro_sum_47 : decode b_Ro_sum 47 = .ok (.bipush 8, 2) := by decide +kernel
theorem d_Ro_sum_49 : decode b_Ro_sum 49 = .ok (.iushr, 1) := by decide +kernel
theorem d_Ro_sum_50 : decode b_Ro_sum 50 = .ok (.istore 4, 2) := by decide +kernel
theorem d_Ro_sum_52 : decode b_Ro_sum 52 = .ok (.goto (-19), 3) := by decide +kernel
theorem d_Ro_sum_55 : decode b_Ro_sum 55 = .ok (.iload_n 3, 1) := by decide +kernel
theorem d_Ro_sum_56 : decode b_Ro_sum 56 = .ok (.iconst (-1), 1) := by decide +kernel
theorem d_Ro_sum_57 : decode b_Ro_sum 57 = .ok (.ixor, 1) := by decide +kernel
theorem d_Ro_sum_58 : decode b_Ro_sum 58 = .ok (.ireturn, 1) := by decide +kernel
theorem d_En_becomeLinkOf_0 : decode b_En_becomeLinkOf 0 = .ok (.aload_n 0, 1) := by decide +kernel
theorem d_En_becomeLinkOf_1 : decode b_En_becomeLinkOf 1 = .ok (.aload_n 1, 1) := by decide +kernel
theorem d_En_becomeLinkOf_2 : decode b_En_becomeLinkOf 2 = .ok (.getfield 20, 3) := by decide +kernel
theorem d_En_becomeLinkOf_5 : decode b_En_becomeLinkOf 5 = .ok (.putfield 20, 3) := by decide +kernel
theorem d_En_becomeLinkOf_8 : decode b_En_becomeLinkOf 8 = .ok (.aload_n 0, 1) := by decide +kernel
theorem d_En_becomeLinkOf_9 : decode b_En_becomeLinkOf 9 = .ok (.aload_n 1, 1) := by decide +kernel
theorem d_En_becomeLinkOf_10 : decode b_En_becomeLinkOf 10 = .ok (.getfield 24, 3) := by decide +kernel
theorem d_En_becomeLinkOf_13 : decode b_En_becomeLinkOf 13 = .ok (.putfield 24, 3) := by decide +kernel
theorem d_En_becomeLinkOf_16 : decode b_En_becomeLinkOf 16 = .ok (.aload_n 0, 1) := by decide +kernel
theorem d_En_becomeLinkOf_17 : decode b_En_becomeLinkOf 17 = .ok (.aload_n 1, 1) := by decide +kernel
theorem d_En_becomeLinkOf_18 : decode b_En_becomeLinkOf 18 = .ok (.getfield 27, 3) := by decide +kernel
theorem d_En_becomeLinkOf_21 : decode b_En_becomeLinkOf 21 = .ok (.putfield 27, 3) := by decide +kernel
theorem d_En_becomeLinkOf_24 : decode b_En_becomeLinkOf 24 = .ok (.aload_n 0, 1) := by decide +kernel
theorem d_En_becomeLinkOf_25 : decode b_En_becomeLinkOf 25 = .ok (.aload_n 1, 1) := by decide +kernel
theorem d_En_becomeLinkOf_26 : decode b_En_becomeLinkOf 26 = .ok (.getfield 30, 3) := by decide +kernel
theorem d_En_becomeLinkOf_29 : decode b_En_becomeLinkOf 29 = .ok (.putfield 30, 3) := by decide +kernel
theorem d_En_becomeLinkOf_32 : decode b_En_becomeLinkOf 32 = .ok (.aload_n 0, 1) := by decide +kernel
theorem d_En_becomeLinkOf_33 : decode b_En_becomeLinkOf 33 = .ok (.aload_n 1, 1) := by decide +kernel
theorem d_En_becomeLinkOf_34 : decode b_En_becomeLinkOf 34 = .ok (.getfield 33, 3) := by decide +kernel
theorem d_En_becomeLinkOf_37 : decode b_En_becomeLinkOf 37 = .ok (.putfield 33, 3) := by decide +kernel
theorem d_En_becomeLinkOf_40 : decode b_En_becomeLinkOf 40 = .ok (.aload_n 0, 1) := by decide +kernel
theorem d_En_becomeLinkOf_41 : decode b_En_becomeLinkOf 41 = .ok (.aload_n 1, 1) := by decide +kernel
theorem d_En_becomeLinkOf_42 : decode b_En_becomeLinkOf 42 = .ok (.getfield 36, 3) := by decide +kernel
theorem d_En_becomeLinkOf_45 : decode b_En_becomeLinkOf 45 = .ok (.putfield 36, 3) := by decide +kernel
theorem d_En_becomeLinkOf_48 : decode b_En_becomeLinkOf 48 = .ok (.aload_n 0, 1) := by decide +kernel
theorem d_En_becomeLinkOf_49 : decode b_En_becomeLinkOf 49 = .ok (.aload_n 1, 1) := by decide +kernel
theorem d_En_becomeLinkOf_50 : decode b_En_becomeLinkOf 50 = .ok (.getfield 39, 3) := by decide +kernel
theorem d_En_becomeLinkOf_53 : decode b_En_becomeLinkOf 53 = .ok (.putfield 39, 3) := by decide +kernel
theorem d_En_becomeLinkOf_56 : decode b_En_becomeLinkOf 56 = .ok (.aload_n 0, 1) := by decide +kernel
theorem d_En_becomeLinkOf_57 : decode b_En_becomeLinkOf 57 = .ok (.aload_n 1, 1) := by decide +kernel
theorem d_En_becomeLinkOf_58 : decode b_En_becomeLinkOf 58 = .ok (.getfield 42, 3) := by decide +kernel
theorem d_En_becomeLinkOf_61 : decode b_En_becomeLinkOf 61 = .ok (.putfield 42, 3) := by decide +kernel
theorem d_En_becomeLinkOf_64 : decode b_En_becomeLinkOf 64 = .ok (.return_, 1) := by decide +kernel
theorem d_En_hasSoundFields_0 : decode b_En_hasSoundFields 0 = .ok (.aload_n 0, 1) := by decide +kernel
theorem d_En_hasSoundFields_1 : decode b_En_hasSoundFields 1 = .ok (.getfield 20, 3) := by decide +kernel
theorem d_En_hasSoundFields_4 : decode b_En_hasSoundFields 4 = .ok (.ifCond .lt 53, 3) := by decide +kernel
theorem d_En_hasSoundFields_7 : decode b_En_hasSoundFields 7 = .ok (.aload_n 0, 1) := by decide +kernel
theorem d_En_hasSoundFields_8 : decode b_En_hasSoundFields 8 = .ok (.getfield 20, 3) := by decide +kernel
theorem d_En_hasSoundFields_11 : decode b_En_hasSoundFields 11 = .ok (.iconst 2, 1) := by decide +kernel
theorem d_En_hasSoundFields_12 : decode b_En_hasSoundFields 12 = .ok (.if_icmp .gt 45, 3) := by decide +kernel
theorem d_En_hasSoundFields_15 : decode b_En_hasSoundFields 15 = .ok (.aload_n 0, 1) := by decide +kernel
theorem d_En_hasSoundFields_16 : decode b_En_hasSoundFields 16 = .ok (.getfield 24, 3) := by decide +kernel
theorem d_En_hasSoundFields_19 : decode b_En_hasSoundFields 19 = .ok (.ifCond .lt 38, 3) := by decide +kernel
theorem d_En_hasSoundFields_22 : decode b_En_hasSoundFields 22 = .ok (.aload_n 0, 1) := by decide +kernel
theorem d_En_hasSoundFields_23 : decode b_En_hasSoundFields 23 = .ok (.getfield 24, 3) := by decide +kernel
theorem d_En_hasSoundFields_26 : decode b_En_hasSoundFields 26 = .ok (.sipush 4095, 3) := by decide +kernel
theorem d_En_hasSoundFields_29 : decode b_En_hasSoundFields 29 = .ok (.if_icmp .gt 28, 3) := by decide +kernel
theorem d_En_hasSoundFields_32 : decode b_En_hasSoundFields 32 = .ok (.aload_n 0, 1) := by decide +kernel
theorem d_En_hasSoundFields_33 : decode b_En_hasSoundFields 33 = .ok (.getfield 27, 3) := by decide +kernel
theorem d_En_hasSoundFields_36 : decode b_En_hasSoundFields 36 = .ok (.ifCond .lt 21, 3) := by decide +kernel
theorem d_En_hasSoundFields_39 : decode b_En_hasSoundFields 39 = .ok (.aload_n 0, 1) := by decide +kernel
theorem d_En_hasSoundFields_40 : decode b_En_hasSoundFields 40 = .ok (.getfield 30, 3) := by decide +kernel
theorem d_En_hasSoundFields_43 : decode b_En_hasSoundFields 43 = .ok (.ifCond .lt 14, 3) := by decide +kernel
theorem d_En_hasSoundFields_46 : decode b_En_hasSoundFields 46 = .ok (.aload_n 0, 1) := by decide +kernel
theorem d_En_hasSoundFields_47 : decode b_En_hasSoundFields 47 = .ok (.getfield 33, 3) := by decide +kernel
theorem d_En_hasSoundFields_50 : decode b_En_hasSoundFields 50 = .ok (.ifCond .lt 7, 3) := by decide +kernel
theorem d_En_hasSoundFields_53 : decode b_En_hasSoundFields 53 = .ok (.iconst 1, 1) := by decide +kernel
theorem d_En_hasSoundFields_54 : decode b_En_hasSoundFields 54 = .ok (.goto 4, 3) := by decide +kernel
theorem d_En_hasSoundFields_57 : decode b_En_hasSoundFields 57 = .ok (.iconst 0, 1) := by decide +kernel
theorem d_En_hasSoundFields_58 : decode b_En_hasSoundFields 58 = .ok (.ireturn, 1) := by decide +kernel
theorem d_En_isName_0 : decode b_En_isName 0 = .ok (.iload_n 2, 1) := by decide +kernel
theorem d_En_isName_1 : decode b_En_isName 1 = .ok (.iload_n 1, 1) := by decide +kernel
theorem d_En_isName_2 : decode b_En_isName 2 = .ok (.isub, 1) := by decide +kernel
theorem d_En_isName_3 : decode b_En_isName 3 = .ok (.istore_n 3, 1) := by decide +kernel
theorem d_En_isName_4 : decode b_En_isName 4 = .ok (.iload_n 3, 1) := by decide +kernel
theorem d_En_isName_5 : decode b_En_isName 5 = .ok (.iconst 1, 1) := by decide +kernel
theorem d_En_isName_6 : decode b_En_isName 6 = .ok (.if_icmp .ne 22, 3) := by decide +kernel
theorem d_En_isName_9 : decode b_En_isName 9 = .ok (.aload_n 0, 1) := by decide +kernel
theorem d_En_isName_10 : decode b_En_isName 10 = .ok (.getfield 14, 3) := by decide +kernel
theorem d_En_isName_13 : decode b_En_isName 13 = .ok (.iload_n 1, 1) := by decide +kernel
theorem d_En_isName_14 : decode b_En_isName 14 = .ok (.invokevirtual 46, 3) := by decide +kernel
theorem d_En_isName_17 : decode b_En_isName 17 = .ok (.bipush 46, 2) := by decide +kernel
theorem d_En_isName_19 : decode b_En_isName 19 = .ok (.if_icmp .eq 7, 3) := by decide +kernel
theorem d_En_isName_22 : decode b_En_isName 22 = .ok (.iconst 1, 1) := by decide +kernel
theorem d_En_isName_23 : decode b_En_isName 23 = .ok (.goto 4, 3) := by decide +kernel
theorem d_En_isName_26 : decode b_En_isName 26 = .ok (.iconst 0, 1) := by decide +kernel
theorem d_En_isName_27 : decode b_En_isName 27 = .ok (.ireturn, 1) := by decide +kernel
theorem d_En_isName_28 : decode b_En_isName 28 = .ok (.iload_n 3, 1) := by decide +kernel
theorem d_En_isName_29 : decode b_En_isName 29 = .ok (.iconst 2, 1) := by decide +kernel
theorem d_En_isName_30 : decode b_En_isName 30 = .ok (.if_icmp .ne 37, 3) := by decide +kernel
theorem d_En_isName_33 : decode b_En_isName 33 = .ok (.aload_n 0, 1) := by decide +kernel
theorem d_En_isName_34 : decode b_En_isName 34 = .ok (.getfield 14, 3) := by decide +kernel
theorem d_En_isName_37 : decode b_En_isName 37 = .ok (.iload_n 1, 1) := by decide +kernel
theorem d_En_isName_38 : decode b_En_isName 38 = .ok (.invokevirtual 46, 3) := by decide +kernel
theorem d_En_isName_41 : decode b_En_isName 41 = .ok (.bipush 46, 2) := by decide +kernel
theorem d_En_isName_43 : decode b_En_isName 43 = .ok (.if_icmp .ne 18, 3) := by decide +kernel
theorem d_En_isName_46 : decode b_En_isName 46 = .ok (.aload_n 0, 1) := by decide +kernel
theorem d_En_isName_47 : decode b_En_isName 47 = .ok (.getfield 14, 3) := by decide +kernel
theorem d_En_isName_50 : decode b_En_isName 50 = .ok (.iload_n 1, 1) := by decide +kernel
theorem d_En_isName_51 : decode b_En_isName 51 = .ok (.iconst 1, 1) := by decide +kernel
theorem d_En_isName_52 : decode b_En_isName 52 = .ok (.iadd, 1) := by decide +kernel
theorem d_En_isName_53 : decode b_En_isName 53 = .ok (.invokevirtual 46, 3) := by decide +kernel
theorem d_En_isName_56 : decode b_En_isName 56 = .ok (.bipush 46, 2) := by decide +kernel
theorem d_En_isName_58 : decode b_En_isName 58 = .ok (.if_icmp .eq 7, 3) := by decide +kernel
theorem d_En_isName_61 : decode b_En_isName 61 = .ok (.iconst 1, 1) := by decide +kernel
theorem d_En_isName_62 : decode b_En_isName 62 = .ok (.goto 4, 3) := by decide +kernel
theorem d_En_isName_65 : decode b_En_isName 65 = .ok (.iconst 0, 1) := by decide +kernel
theorem d_En_isName_66 : decode b_En_isName 66 = .ok (.ireturn, 1) := by decide +kernel
theorem d_En_isName_67 : decode b_En_isName 67 = .ok (.iload_n 3, 1) := by decide +kernel
theorem d_En_isName_68 : decode b_En_isName 68 = .ok (.iconst 2, 1) := by decide +kernel
theorem d_En_isName_69 : decode b_En_isName 69 = .ok (.if_icmp .le 7, 3) := by decide +kernel
theorem d_En_isName_72 : decode b_En_isName 72 = .ok (.iconst 1, 1) := by decide +kernel
theorem d_En_isName_73 : decode b_En_isName 73 = .ok (.goto 4, 3) := by decide +kernel
theorem d_En_isName_76 : decode b_En_isName 76 = .ok (.iconst 0, 1) := by decide +kernel
theorem d_En_isName_77 : decode b_En_isName 77 = .ok (.ireturn, 1) := by decide +kernel
theorem d_En_hasSoundPath_0 : decode b_En_hasSoundPath 0 = .ok (.iconst 0, 1) := by decide +kernel
theorem d_En_hasSoundPath_1 : decode b_En_hasSoundPath 1 = .ok (.istore_n 1, 1) := by decide +kernel
theorem d_En_hasSoundPath_2 : decode b_En_hasSoundPath 2 = .ok (.iconst 0, 1) := by decide +kernel
theorem d_En_hasSoundPath_3 : decode b_En_hasSoundPath 3 = .ok (.istore_n 2, 1) := by decide +kernel
theorem d_En_hasSoundPath_4 : decode b_En_hasSoundPath 4 = .ok (.iload_n 2, 1) := by decide +kernel
theorem d_En_hasSoundPath_5 : decode b_En_hasSoundPath 5 = .ok (.aload_n 0, 1) := by decide +kernel
theorem d_En_hasSoundPath_6 : decode b_En_hasSoundPath 6 = .ok (.getfield 14, 3) := by decide +kernel
theorem d_En_hasSoundPath_9 : decode b_En_hasSoundPath 9 = .ok (.getfield 45, 3) := by decide +kernel
theorem d_En_hasSoundPath_12 : decode b_En_hasSoundPath 12 = .ok (.if_icmp .ge 49, 3) := by decide +kernel
theorem d_En_hasSoundPath_15 : decode b_En_hasSoundPath 15 = .ok (.aload_n 0, 1) := by decide +kernel
theorem d_En_hasSoundPath_16 : decode b_En_hasSoundPath 16 = .ok (.getfield 14, 3) := by decide +kernel
theorem d_En_hasSoundPath_19 : decode b_En_hasSoundPath 19 = .ok (.iload_n 2, 1) := by decide +kernel
theorem d_En_hasSoundPath_20 : decode b_En_hasSoundPath 20 = .ok (.invokevirtual 46, 3) := by decide +kernel
theorem d_En_hasSoundPath_23 : decode b_En_hasSoundPath 23 = .ok (.istore_n 3, 1) := by decide +kernel
theorem d_En_hasSoundPath_24 : decode b_En_hasSoundPath 24 = .ok (.iload_n 3, 1) := by decide +kernel
theorem d_En_hasSoundPath_25 : decode b_En_hasSoundPath 25 = .ok (.ifCond .eq 18, 3) := by decide +kernel
theorem d_En_hasSoundPath_28 : decode b_En_hasSoundPath 28 = .ok (.iload_n 3, 1) := by decide +kernel
theorem d_En_hasSoundPath_29 : decode b_En_hasSoundPath 29 = .ok (.bipush 47, 2) := by decide +kernel
theorem d_En_hasSoundPath_31 : decode b_En_hasSoundPath 31 = .ok (.if_icmp .ne 14, 3) := by decide +kernel
theorem d_En_hasSoundPath_34 : decode b_En_hasSoundPath 34 = .ok (.aload_n 0, 1) := by decide +kernel
theorem d_En_hasSoundPath_35 : decode b_En_hasSoundPath 35 = .ok (.iload_n 1, 1) := by decide +kernel
theorem d_En_hasSoundPath_36 : decode b_En_hasSoundPath 36 = .ok (.iload_n 2, 1) := by decide +kernel
theorem d_En_hasSoundPath_37 : decode b_En_hasSoundPath 37 = .ok (.invokevirtual 50, 3) := by decide +kernel
theorem d_En_hasSoundPath_40 : decode b_En_hasSoundPath 40 = .ok (.ifCond .ne 5, 3) := by decide +kernel
theorem d_En_hasSoundPath_43 : decode b_En_hasSoundPath 43 = .ok (.iconst 0, 1) := by decide +kernel
theorem d_En_hasSoundPath_44 : decode b_En_hasSoundPath 44 = .ok (.ireturn, 1) := by decide +kernel
theorem d_En_hasSoundPath_45 : decode b_En_hasSoundPath 45 = .ok (.iload_n 3, 1) := by decide +kernel
theorem d_En_hasSoundPath_46 : decode b_En_hasSoundPath 46 = .ok (.bipush 47, 2) := by decide +kernel
theorem d_En_hasSoundPath_48 : decode b_En_hasSoundPath 48 = .ok (.if_icmp .ne 7, 3) := by decide +kernel
theorem d_En_hasSoundPath_51 : decode b_En_hasSoundPath 51 = .ok (.iload_n 2, 1) := by decide +kernel
theorem d_En_hasSoundPath_52 : decode b_En_hasSoundPath 52 = .ok (.iconst 1, 1) := by decide +kernel
theorem d_En_hasSoundPath_53 : decode b_En_hasSoundPath 53 = .ok (.iadd, 1) := by decide +kernel
theorem d_En_hasSoundPath_54 : decode b_En_hasSoundPath 54 = .ok (.istore_n 1, 1) := by decide +kernel
theorem d_En_hasSoundPath_55 : decode b_En_hasSoundPath 55 = .ok (.iinc 2 1, 3) := by decide +kernel
theorem d_En_hasSoundPath_58 : decode b_En_hasSoundPath 58 = .ok (.goto (-54), 3) := by decide +kernel
theorem d_En_hasSoundPath_61 : decode b_En_hasSoundPath 61 = .ok (.aload_n 0, 1) := by decide +kernel
theorem d_En_hasSoundPath_62 : decode b_En_hasSoundPath 62 = .ok (.iload_n 1, 1) := by decide +kernel
theorem d_En_hasSoundPath_63 : decode b_En_hasSoundPath 63 = .ok (.aload_n 0, 1) := by decide +kernel
theorem d_En_hasSoundPath_64 : decode b_En_hasSoundPath 64 = .ok (.getfield 14, 3) := by decide +kernel
theorem d_En_hasSoundPath_67 : decode b_En_hasSoundPath 67 = .ok (.getfield 45, 3) := by decide +kernel
theorem d_En_hasSoundPath_70 : decode b_En_hasSoundPath 70 = .ok (.invokevirtual 50, 3) := by decide +kernel
theorem d_En_hasSoundPath_73 : decode b_En_hasSoundPath 73 = .ok (.ireturn, 1) := by decide +kernel
theorem d_En_parentSize_0 : decode b_En_parentSize 0 = .ok (.iconst (-1), 1) := by decide +kernel
theorem d_En_parentSize_1 : decode b_En_parentSize 1 = .ok (.istore_n 1, 1) := by decide +kernel
theorem d_En_parentSize_2 : decode b_En_parentSize 2 = .ok (.iconst 0, 1) := by decide +kernel
theorem d_En_parentSize_3 : decode b_En_parentSize 3 = .ok (.istore_n 2, 1) := by decide +kernel
theorem d_En_parentSize_4 : decode b_En_parentSize 4 = .ok (.iload_n 2, 1) := by decide +kernel
theorem d_En_parentSize_5 : decode b_En_parentSize 5 = .ok (.aload_n 0, 1) := by decide +kernel
theorem d_En_parentSize_6 : decode b_En_parentSize 6 = .ok (.getfield 14, 3) := by decide +kernel
theorem d_En_parentSize_9 : decode b_En_parentSize 9 = .ok (.getfield 45, 3) := by decide +kernel
theorem d_En_parentSize_12 : decode b_En_parentSize 12 = .ok (.if_icmp .ge 24, 3) := by decide +kernel
theorem d_En_parentSize_15 : decode b_En_parentSize 15 = .ok (.aload_n 0, 1) := by decide +kernel
theorem d_En_parentSize_16 : decode b_En_parentSize 16 = .ok (.getfield 14, 3) := by decide +kernel
theorem d_En_parentSize_19 : decode b_En_parentSize 19 = .ok (.iload_n 2, 1) := by decide +kernel
theorem d_En_parentSize_20 : decode b_En_parentSize 20 = .ok (.invokevirtual 46, 3) := by decide +kernel
theorem d_En_parentSize_23 : decode b_En_parentSize 23 = .ok (.bipush 47, 2) := by decide +kernel
theorem d_En_parentSize_25 : decode b_En_parentSize 25 = .ok (.if_icmp .ne 5, 3) := by decide +kernel
theorem d_En_parentSize_28 : decode b_En_parentSize 28 = .ok (.iload_n 2, 1) := by decide +kernel
theorem d_En_parentSize_29 : decode b_En_parentSize 29 = .ok (.istore_n 1, 1) := by decide +kernel
theorem d_En_parentSize_30 : decode b_En_parentSize 30 = .ok (.iinc 2 1, 3) := by decide +kernel
theorem d_En_parentSize_33 : decode b_En_parentSize 33 = .ok (.goto (-29), 3) := by decide +kernel
theorem d_En_parentSize_36 : decode b_En_parentSize 36 = .ok (.iload_n 1, 1) := by decide +kernel
theorem d_En_parentSize_37 : decode b_En_parentSize 37 = .ok (.ireturn, 1) := by decide +kernel
theorem d_Tr_wipe_0 : decode b_Tr_wipe 0 = .ok (.aload_n 0, 1) := by decide +kernel
theorem d_Tr_wipe_1 : decode b_Tr_wipe 1 = .ok (.getfield 23, 3) := by decide +kernel
theorem d_Tr_wipe_4 : decode b_Tr_wipe 4 = .ok (.invokevirtual 34, 3) := by decide +kernel
theorem d_Tr_wipe_7 : decode b_Tr_wipe 7 = .ok (.aload_n 0, 1) := by decide +kernel
theorem d_Tr_wipe_8 : decode b_Tr_wipe 8 = .ok (.iconst 0, 1) := by decide +kernel
theorem d_Tr_wipe_9 : decode b_Tr_wipe 9 = .ok (.putfield 27, 3) := by decide +kernel
theorem d_Tr_wipe_12 : decode b_Tr_wipe 12 = .ok (.aload_n 0, 1) := by decide +kernel
theorem d_Tr_wipe_13 : decode b_Tr_wipe 13 = .ok (.iconst 0, 1) := by decide +kernel
theorem d_Tr_wipe_14 : decode b_Tr_wipe 14 = .ok (.putfield 31, 3) := by decide +kernel
theorem d_Tr_wipe_17 : decode b_Tr_wipe 17 = .ok (.return_, 1) := by decide +kernel
theorem d_Tr_has_0 : decode b_Tr_has 0 = .ok (.iload_n 1, 1) := by decide +kernel
theorem d_Tr_has_1 : decode b_Tr_has 1 = .ok (.ifCond .lt 15, 3) := by decide +kernel
theorem d_Tr_has_4 : decode b_Tr_has 4 = .ok (.iload_n 1, 1) := by decide +kernel
theorem d_Tr_has_5 : decode b_Tr_has 5 = .ok (.aload_n 0, 1) := by decide +kernel
theorem d_Tr_has_6 : decode b_Tr_has 6 = .ok (.getfield 27, 3) := by decide +kernel
theorem d_Tr_has_9 : decode b_Tr_has 9 = .ok (.if_icmp .ge 7, 3) := by decide +kernel
theorem d_Tr_has_12 : decode b_Tr_has 12 = .ok (.iconst 1, 1) := by decide +kernel
theorem d_Tr_has_13 : decode b_Tr_has 13 = .ok (.goto 4, 3) := by decide +kernel
theorem d_Tr_has_16 : decode b_Tr_has 16 = .ok (.iconst 0, 1) := by decide +kernel
theorem d_Tr_has_17 : decode b_Tr_has 17 = .ok (.ireturn, 1) := by decide +kernel
theorem d_Tr_draft_0 : decode b_Tr_draft 0 = .ok (.aload_n 0, 1) := by decide +kernel
theorem d_Tr_draft_1 : decode b_Tr_draft 1 = .ok (.getfield 11, 3) := by decide +kernel
theorem d_Tr_draft_4 : decode b_Tr_draft 4 = .ok (.aload_n 0, 1) := by decide +kernel
theorem d_Tr_draft_5 : decode b_Tr_draft 5 = .ok (.getfield 27, 3) := by decide +kernel
theorem d_Tr_draft_8 : decode b_Tr_draft 8 = .ok (.aaload, 1) := by decide +kernel
theorem d_Tr_draft_9 : decode b_Tr_draft 9 = .ok (.areturn, 1) := by decide +kernel
theorem d_Tr_isTarget_0 : decode b_Tr_isTarget 0 = .ok (.iload_n 2, 1) := by decide +kernel
theorem d_Tr_isTarget_1 : decode b_Tr_isTarget 1 = .ok (.iload_n 1, 1) := by decide +kernel
theorem d_Tr_isTarget_2 : decode b_Tr_isTarget 2 = .ok (.isub, 1) := by decide +kernel
theorem d_Tr_isTarget_3 : decode b_Tr_isTarget 3 = .ok (.iconst 1, 1) := by decide +kernel
theorem d_Tr_isTarget_4 : decode b_Tr_isTarget 4 = .ok (.if_icmp .lt 11, 3) := by decide +kernel
theorem d_Tr_isTarget_7 : decode b_Tr_isTarget 7 = .ok (.iload_n 2, 1) := by decide +kernel
theorem d_Tr_isTarget_8 : decode b_Tr_isTarget 8 = .ok (.iload_n 1, 1) := by decide +kernel
theorem d_Tr_isTarget_9 : decode b_Tr_isTarget 9 = .ok (.isub, 1) := by decide +kernel
theorem d_Tr_isTarget_10 : decode b_Tr_isTarget 10 = .ok (.bipush 60, 2) := by decide +kernel
theorem d_Tr_isTarget_12 : decode b_Tr_isTarget 12 = .ok (.if_icmp .le 5, 3) := by decide +kernel
theorem d_Tr_isTarget_15 : decode b_Tr_isTarget 15 = .ok (.iconst 0, 1) := by decide +kernel
theorem d_Tr_isTarget_16 : decode b_Tr_isTarget 16 = .ok (.ireturn, 1) := by decide +kernel
theorem d_Tr_isTarget_17 : decode b_Tr_isTarget 17 = .ok (.iload_n 1, 1) := by decide +kernel
theorem d_Tr_isTarget_18 : decode b_Tr_isTarget 18 = .ok (.istore_n 3, 1) := by decide +kernel
theorem d_Tr_isTarget_19 : decode b_Tr_isTarget 19 = .ok (.iload_n 3, 1) := by decide +kernel
theorem d_Tr_isTarget_20 : decode b_Tr_isTarget 20 = .ok (.iload_n 2, 1) := by decide +kernel
theorem d_Tr_isTarget_21 : decode b_Tr_isTarget 21 = .ok (.if_icmp .ge 19, 3) := by decide +kernel
theorem d_Tr_isTarget_24 : decode b_Tr_isTarget 24 = .ok (.aload_n 0, 1) := by decide +kernel
theorem d_Tr_isTarget_25 : decode b_Tr_isTarget 25 = .ok (.iload_n 3, 1) := by decide +kernel
theorem d_Tr_isTarget_26 : decode b_Tr_isTarget 26 = .ok (.invokevirtual 82, 3) := by decide +kernel
theorem d_Tr_isTarget_29 : decode b_Tr_isTarget 29 = .ok (.ifCond .ne 5, 3) := by decide +kernel
theorem d_Tr_isTarget_32 : decode b_Tr_isTarget 32 = .ok (.iconst 0, 1) := by decide +kernel
theorem d_Tr_isTarget_33 : decode b_Tr_isTarget 33 = .ok (.ireturn, 1) := by decide +kernel
theorem d_Tr_isTarget_34 : decode b_Tr_isTarget 34 = .ok (.iinc 3 1, 3) := by decide +kernel
theorem d_Tr_isTarget_37 : decode b_Tr_isTarget 37 = .ok (.goto (-18), 3) := by decide +kernel
theorem d_Tr_isTarget_40 : decode b_Tr_isTarget 40 = .ok (.iconst 1, 1) := by decide +kernel
theorem d_Tr_isTarget_41 : decode b_Tr_isTarget 41 = .ok (.ireturn, 1) := by decide +kernel
theorem d_Tr_isBody_0 : decode b_Tr_isBody 0 = .ok (.iload_n 0, 1) := by decide +kernel
theorem d_Tr_isBody_1 : decode b_Tr_isBody 1 = .ok (.ifCond .ne 14, 3) := by decide +kernel
theorem d_Tr_isBody_4 : decode b_Tr_isBody 4 = .ok (.iload_n 2, 1) := by decide +kernel
theorem d_Tr_isBody_5 : decode b_Tr_isBody 5 = .ok (.iload_n 3, 1) := by decide +kernel
theorem d_Tr_isBody_6 : decode b_Tr_isBody 6 = .ok (.if_icmp .ne 7, 3) := by decide +kernel
theorem d_Tr_isBody_9 : decode b_Tr_isBody 9 = .ok (.iconst 1, 1) := by decide +kernel
theorem d_Tr_isBody_10 : decode b_Tr_isBody 10 = .ok (.goto 4, 3) := by decide +kernel
theorem d_Tr_isBody_13 : decode b_Tr_isBody 13 = .ok (.iconst 0, 1) := by decide +kernel
theorem d_Tr_isBody_14 : decode b_Tr_isBody 14 = .ok (.ireturn, 1) := by decide +kernel
theorem d_Tr_isBody_15 : decode b_Tr_isBody 15 = .ok (.iload_n 0, 1) := by decide +kernel
theorem d_Tr_isBody_16 : decode b_Tr_isBody 16 = .ok (.iconst 1, 1) := by decide +kernel
theorem d_Tr_isBody_17 : decode b_Tr_isBody 17 = .ok (.if_icmp .eq 12, 3) := by decide +kernel
theorem d_Tr_isBody_20 : decode b_Tr_isBody 20 = .ok (.aload_n 1, 1) := by decide +kernel
theorem d_Tr_isBody_21 : decode b_Tr_isBody 21 = .ok (.iload_n 2, 1) := by decide +kernel
theorem d_Tr_isBody_22 : decode b_Tr_isBody 22 = .ok (.iload_n 3, 1) := by decide +kernel
theorem d_Tr_isBody_23 : decode b_Tr_isBody 23 = .ok (.invokestatic 78, 3) := by decide +kernel
theorem d_Tr_isBody_26 : decode b_Tr_isBody 26 = .ok (.ifCond .eq 7, 3) := by decide +kernel
theorem d_Tr_isBody_29 : decode b_Tr_isBody 29 = .ok (.iconst 1, 1) := by decide +kernel
theorem d_Tr_isBody_30 : decode b_Tr_isBody 30 = .ok (.goto 4, 3) := by decide +kernel
theorem d_Tr_isBody_33 : decode b_Tr_isBody 33 = .ok (.iconst 0, 1) := by decide +kernel
theorem d_Tr_isBody_34 : decode b_Tr_isBody 34 = .ok (.ireturn, 1) := by decide +kernel
theorem d_Tr_placeOf_0 : decode b_Tr_placeOf 0 = .ok (.iconst 0, 1) := by decide +kernel
theorem d_Tr_placeOf_1 : decode b_Tr_placeOf 1 = .ok (.istore_n 3, 1) := by decide +kernel
theorem d_Tr_placeOf_2 : decode b_Tr_placeOf 2 = .ok (.iload_n 3, 1) := by decide +kernel
theorem d_Tr_placeOf_3 : decode b_Tr_placeOf 3 = .ok (.aload_n 0, 1) := by decide +kernel
theorem d_Tr_placeOf_4 : decode b_Tr_placeOf 4 = .ok (.getfield 27, 3) := by decide +kernel
theorem d_Tr_placeOf_7 : decode b_Tr_placeOf 7 = .ok (.if_icmp .ge 26, 3) := by decide +kernel
theorem d_Tr_placeOf_10 : decode b_Tr_placeOf 10 = .ok (.aload_n 0, 1) := by decide +kernel
theorem d_Tr_placeOf_11 : decode b_Tr_placeOf 11 = .ok (.getfield 11, 3) := by decide +kernel
theorem d_Tr_placeOf_14 : decode b_Tr_placeOf 14 = .ok (.iload_n 3, 1) := by decide +kernel
theorem d_Tr_placeOf_15 : decode b_Tr_placeOf 15 = .ok (.aaload, 1) := by decide +kernel
theorem d_Tr_placeOf_16 : decode b_Tr_placeOf 16 = .ok (.getfield 93, 3) := by decide +kernel
theorem d_Tr_placeOf_19 : decode b_Tr_placeOf 19 = .ok (.aload_n 1, 1) := by decide +kernel
theorem d_Tr_placeOf_20 : decode b_Tr_placeOf 20 = .ok (.iload_n 2, 1) := by decide +kernel
theorem d_Tr_placeOf_21 : decode b_Tr_placeOf 21 = .ok (.invokevirtual 107, 3) := by decide +kernel
theorem d_Tr_placeOf_24 : decode b_Tr_placeOf 24 = .ok (.ifCond .ge 9, 3) := by decide +kernel
theorem d_Tr_placeOf_27 : decode b_Tr_placeOf 27 = .ok (.iinc 3 1, 3) := by decide +kernel
theorem d_Tr_placeOf_30 : decode b_Tr_placeOf 30 = .ok (.goto (-28), 3) := by decide +kernel
theorem d_Tr_placeOf_33 : decode b_Tr_placeOf 33 = .ok (.iload_n 3, 1) := by decide +kernel
theorem d_Tr_placeOf_34 : decode b_Tr_placeOf 34 = .ok (.ireturn, 1) := by decide +kernel
theorem d_Tr_hasParentOf_0 : decode b_Tr_hasParentOf 0 = .ok (.aload_n 1, 1) := by decide +kernel
theorem d_Tr_hasParentOf_1 : decode b_Tr_hasParentOf 1 = .ok (.invokevirtual 104, 3) := by decide +kernel
theorem d_Tr_hasParentOf_4 : decode b_Tr_hasParentOf 4 = .ok (.istore_n 2, 1) := by decide +kernel
theorem d_Tr_hasParentOf_5 : decode b_Tr_hasParentOf 5 = .ok (.iload_n 2, 1) := by decide +kernel
theorem d_Tr_hasParentOf_6 : decode b_Tr_hasParentOf 6 = .ok (.iconst (-1), 1) := by decide +kernel
theorem d_Tr_hasParentOf_7 : decode b_Tr_hasParentOf 7 = .ok (.if_icmp .ne 5, 3) := by decide +kernel
theorem d_Tr_hasParentOf_10 : decode b_Tr_hasParentOf 10 = .ok (.iconst 1, 1) := by decide +kernel
theorem d_Tr_hasParentOf_11 : decode b_Tr_hasParentOf 11 = .ok (.ireturn, 1) := by decide +kernel
theorem d_Tr_hasParentOf_12 : decode b_Tr_hasParentOf 12 = .ok (.aload_n 0, 1) := by decide +kernel
theorem d_Tr_hasParentOf_13 : decode b_Tr_hasParentOf 13 = .ok (.aload_n 1, 1) := by decide +kernel
theorem d_Tr_hasParentOf_14 : decode b_Tr_hasParentOf 14 = .ok (.getfield 93, 3) := by decide +kernel
theorem d_Tr_hasParentOf_17 : decode b_Tr_hasParentOf 17 = .ok (.iload_n 2, 1) := by decide +kernel
theorem d_Tr_hasParentOf_18 : decode b_Tr_hasParentOf 18 = .ok (.invokevirtual 96, 3) := by decide +kernel
theorem d_Tr_hasParentOf_21 : decode b_Tr_hasParentOf 21 = .ok (.istore_n 3, 1) := by decide +kernel
theorem d_Tr_hasParentOf_22 : decode b_Tr_hasParentOf 22 = .ok (.aload_n 0, 1) := by decide +kernel
theorem d_Tr_hasParentOf_23 : decode b_Tr_hasParentOf 23 = .ok (.iload_n 3, 1) := by decide +kernel
theorem d_Tr_hasParentOf_24 : decode b_Tr_hasParentOf 24 = .ok (.invokevirtual 70, 3) := by decide +kernel
theorem d_Tr_hasParentOf_27 : decode b_Tr_hasParentOf 27 = .ok (.ifCond .eq 39, 3) := by decide +kernel
theorem d_Tr_hasParentOf_30 : decode b_Tr_hasParentOf 30 = .ok (.aload_n 0, 1) := by decide +kernel
theorem d_Tr_hasParentOf_31 : decode b_Tr_hasParentOf 31 = .ok (.getfield 11, 3) := by decide +kernel
theorem d_Tr_hasParentOf_34 : decode b_Tr_hasParentOf 34 = .ok (.iload_n 3, 1) := by decide +kernel
theorem d_Tr_hasParentOf_35 : decode b_Tr_hasParentOf 35 = .ok (.aaload, 1) := by decide +kernel
theorem d_Tr_hasParentOf_36 : decode b_Tr_hasParentOf 36 = .ok (.getfield 45, 3) := by decide +kernel
theorem d_Tr_hasParentOf_39 : decode b_Tr_hasParentOf 39 = .ok (.ifCond .ne 27, 3) := by decide +kernel
theorem d_Tr_hasParentOf_42 : decode b_Tr_hasParentOf 42 = .ok (.aload_n 0, 1) := by decide +kernel
theorem d_Tr_hasParentOf_43 : decode b_Tr_hasParentOf 43 = .ok (.getfield 11, 3) := by decide +kernel
theorem d_Tr_hasParentOf_46 : decode b_Tr_hasParentOf 46 = .ok (.iload_n 3, 1) := by decide +kernel
theorem d_Tr_hasParentOf_47 : decode b_Tr_hasParentOf 47 = .ok (.aaload, 1) := by decide +kernel
theorem d_Tr_hasParentOf_48 : decode b_Tr_hasParentOf 48 = .ok (.getfield 93, 3) := by decide +kernel
theorem d_Tr_hasParentOf_51 : decode b_Tr_hasParentOf 51 = .ok (.aload_n 1, 1) := by decide +kernel
theorem d_Tr_hasParentOf_52 : decode b_Tr_hasParentOf 52 = .ok (.getfield 93, 3) := by decide +kernel
theorem d_Tr_hasParentOf_55 : decode b_Tr_hasParentOf 55 = .ok (.iload_n 2, 1) := by decide +kernel
theorem d_Tr_hasParentOf_56 : decode b_Tr_hasParentOf 56 = .ok (.invokevirtual 107, 3) := by decide +kernel
theorem d_Tr_hasParentOf_59 : decode b_Tr_hasParentOf 59 = .ok (.ifCond .ne 7, 3) := by decide +kernel
theorem d_Tr_hasParentOf_62 : decode b_Tr_hasParentOf 62 = .ok (.iconst 1, 1) := by decide +kernel
theorem d_Tr_hasParentOf_63 : decode b_Tr_hasParentOf 63 = .ok (.goto 4, 3) := by decide +kernel
theorem d_Tr_hasParentOf_66 : decode b_Tr_hasParentOf 66 = .ok (.iconst 0, 1) := by decide +kernel
theorem d_Tr_hasParentOf_67 : decode b_Tr_hasParentOf 67 = .ok (.ireturn, 1) := by decide +kernel
set_option maxRecDepth 100000 in
set_option maxHeartbeats 4000000 in
theorem Met_Ro_wipe (l : Launch) (B : Nat) (D : va_G) (aC : Nat → ClassId) (aS : Nat → Nat) {a0 : Nat} {M : zM} {post : zM → Prop} (hk0 : a0 < N0) (ht0 : tg a0 = 1) (h : Wp_Ro_wipe a0 M post) : Met l y_Ro_wipe (wo y_Ro_wipe b_Ro_wipe 1 none) { frames := 0, cells := 0, slots := 0, locals := 0 } (va_Pc [.ref (B + a0)] (zWl B D aC aS M)) (zQv B D aC post) 0 0 (zAb B) := by
  refine z_met (own := "MailChain$Row") (lv0 := [(0, .ref (B + a0))]) (by decide) rfl (Nat.le_of_ble_eq_true rfl) rfl ?_
  intro p e s m below meth c fx hr hlo
  delta Wp_Ro_wipe at h
  refine a_aload_n fx 0 d_Ro_wipe_0 rfl rfl ?_
  refine a_iconst (v := 0) fx d_Ro_wipe_1 rfl ?_
  refine a_putI fx (T := F_Ro) (ty0 := t_Ro) (j := 1) (hk := hk0) (ht := ht0) (ht2 := by decide) (hc := rfl) (hin := u_in_Ro) (hty := t_Ro_ok) (hnm := n_Ro) (hj := by decide) (hj2 := by decide) (hf := rfl) (hT := rfl) (hfin := rfl) (hn := rfl) (hfit := rfl) (hw := w_47) (hd := d_Ro_wipe_2) (kk := a_mem (fun M1 eM1 => ?_))
  have h := h M1 eM1
  exact a_vret fx hlo hr h d_Ro_wipe_5
set_option maxRecDepth 100000 in
set_option maxHeartbeats 4000000 in
theorem Met_Ro_room (l : Launch) (B : Nat) (D : va_G) (aC : Nat → ClassId) (aS : Nat → Nat) {a0 : Nat} {M : zM} {post : Int32 → zM → Prop} (hk0 : a0 < N0) (ht0 : tg a0 = 1) (h : Wp_Ro_room a0 M post) : Met l y_Ro_room (wo y_Ro_room b_Ro_room 1 (some FieldType.int)) { frames := 0, cells := 0, slots := 0, locals := 0 } (va_Pc [.ref (B + a0)] (zWl B D aC aS M)) (zQi B D aC post) 0 0 (zAb B) := by
  refine z_met (own := "MailChain$Row") (lv0 := [(0, .ref (B + a0))]) (by decide) rfl (Nat.le_of_ble_eq_true rfl) rfl ?_
  intro p e s m below meth c fx hr hlo
  delta Wp_Ro_room at h
  refine a_aload_n fx 0 d_Ro_room_0 rfl rfl ?_
  refine a_getS fx (T := F_Ro) (j := 0) (hk := hk0) (ht := ht0) (ht2 := by decide) (hc := rfl) (hin := u_in_Ro) (hj := by decide) (hj2 := by decide) (hf := rfl) (n9 := 1) (hfo := rfl) (hT := rfl) (hw := w_46) (hd := d_Ro_room_1) (kk := ?_)
  refine a_alen fx 0 (lo_1_0 hk0 ht0).1 (lo_1_0 hk0 ht0).2 (by decide) (by decide) rfl d_Ro_room_4 ?_
  refine a_aload_n fx 0 d_Ro_room_5 rfl rfl ?_
  refine a_getI fx (T := F_Ro) (j := 1) (hk := hk0) (ht := ht0) (ht2 := by decide) (hc := rfl) (hin := u_in_Ro) (hj := by decide) (hj2 := by decide) (hf := rfl) (hT := rfl) (hw := w_47) (hd := d_Ro_room_6) (kk := ?_)
  refine a_isub fx d_Ro_room_9 ?_
  exact a_iret fx hlo hr h d_Ro_room_10
set_option maxRecDepth 100000 in
set_option maxHeartbeats 4000000 in
theorem Met_Ro_has (l : Launch) (B : Nat) (D : va_G) (aC : Nat → ClassId) (aS : Nat → Nat) {a0 : Nat} {i1 : Int32} {M : zM} {post : Int32 → zM → Prop} (hk0 : a0 < N0) (ht0 : tg a0 = 1) (h : Wp_Ro_has a0 i1 M post) : Met l y_Ro_has (wo y_Ro_has b_Ro_has 2 (some FieldType.boolean)) { frames := 0, cells := 0, slots := 0, locals := 0 } (va_Pc [.ref (B + a0), .int i1] (zWl B D aC aS M)) (zQi B D aC post) 0 0 (zAb B) := by
  refine z_met (own := "MailChain$Row") (lv0 := [(0, .ref (B + a0)), (1, .int i1)]) (by decide) rfl (Nat.le_of_ble_eq_true rfl) rfl ?_
  intro p e s m below meth c fx hr hlo
  delta Wp_Ro_has at h
  refine a_iload_n fx 1 d_Ro_has_0 rfl rfl ?_
  refine a_if_lt fx 16 d_Ro_has_1 rfl (fun hc => ?_) (fun hc => ?_)
  · have h := h.1 hc
    refine a_iconst (v := 0) fx d_Ro_has_16 rfl ?_
    exact a_zret fx hlo hr rfl h d_Ro_has_17
  · have h := h.2 hc
    refine a_iload_n fx 1 d_Ro_has_4 rfl rfl ?_
    refine a_aload_n fx 0 d_Ro_has_5 rfl rfl ?_
    refine a_getI fx (T := F_Ro) (j := 1) (hk := hk0) (ht := ht0) (ht2 := by decide) (hc := rfl) (hin := u_in_Ro) (hj := by decide) (hj2 := by decide) (hf := rfl) (hT := rfl) (hw := w_47) (hd := d_Ro_has_6) (kk := ?_)
    refine a_icmp_ge fx 16 d_Ro_has_9 rfl (fun hc => ?_) (fun hc => ?_)
    · have h := h.1 hc
      refine a_iconst (v := 0) fx d_Ro_has_16 rfl ?_
      exact a_zret fx hlo hr rfl h d_Ro_has_17
    · have h := h.2 hc
      refine a_iconst (v := 1) fx d_Ro_has_12 rfl ?_
      refine a_goto fx 17 d_Ro_has_13 rfl ?_
      exact a_zret fx hlo hr rfl h d_Ro_has_17
set_option maxRecDepth 100000 in
set_option maxHeartbeats 4000000 in
theorem Met_Ro_at (l : Launch) (B : Nat) (D : va_G) (aC : Nat → ClassId) (aS : Nat → Nat) {a0 : Nat} {i1 : Int32} {M : zM} {post : Int32 → zM → Prop} (hk0 : a0 < N0) (ht0 : tg a0 = 1) (h : Wp_Ro_at a0 i1 M post) : Met l y_Ro_at (wo y_Ro_at b_Ro_at 2 (some FieldType.int)) { frames := 0, cells := 0, slots := 0, locals := 0 } (va_Pc [.ref (B + a0), .int i1] (zWl B D aC aS M)) (zQi B D aC post) 0 0 (zAb B) := by
  refine z_met (own := "MailChain$Row") (lv0 := [(0, .ref (B + a0)), (1, .int i1)]) (by decide) rfl (Nat.le_of_ble_eq_true rfl) rfl ?_
  intro p e s m below meth c fx hr hlo
  delta Wp_Ro_at at h
  refine a_iload_n fx 1 d_Ro_at_0 rfl rfl ?_
  refine a_if_lt fx 25 d_Ro_at_1 rfl (fun hc => ?_) (fun hc => ?_)
  · have h := h.1 hc
    refine a_iconst (v := (-1)) fx d_Ro_at_25 rfl ?_
    exact a_iret fx hlo hr h d_Ro_at_26
  · have h := h.2 hc
    refine a_iload_n fx 1 d_Ro_at_4 rfl rfl ?_
    refine a_aload_n fx 0 d_Ro_at_5 rfl rfl ?_
    refine a_getI fx (T := F_Ro) (j := 1) (hk := hk0) (ht := ht0) (ht2 := by decide) (hc := rfl) (hin := u_in_Ro) (hj := by decide) (hj2 := by decide) (hf := rfl) (hT := rfl) (hw := w_47) (hd := d_Ro_at_6) (kk := ?_)
    refine a_icmp_ge fx 25 d_Ro_at_9 rfl (fun hc => ?_) (fun hc => ?_)
    · have h := h.1 hc
      refine a_iconst (v := (-1)) fx d_Ro_at_25 rfl ?_
      exact a_iret fx hlo hr h d_Ro_at_26
    · have h := h.2 hc
      refine a_aload_n fx 0 d_Ro_at_12 rfl rfl ?_
      refine a_getS fx (T := F_Ro) (j := 0) (hk := hk0) (ht := ht0) (ht2 := by decide) (hc := rfl) (hin := u_in_Ro) (hj := by decide) (hj2 := by decide) (hf := rfl) (n9 := 1) (hfo := rfl) (hT := rfl) (hw := w_46) (hd := d_Ro_at_13) (kk := ?_)
      refine a_iload_n fx 1 d_Ro_at_16 rfl rfl ?_
      obtain ⟨hin, h⟩ := h
      refine a_bald fx (lo_1_0 hk0 ht0).1 (lo_1_0 hk0 ht0).2 hin d_Ro_at_17 ?_
      refine a_sipush (v := 255) fx d_Ro_at_18 rfl ?_
      refine a_iand fx d_Ro_at_21 ?_
      refine a_goto fx 26 d_Ro_at_22 rfl ?_
      exact a_iret fx hlo hr h d_Ro_at_26
set_option maxRecDepth 100000 in
set_option maxHeartbeats 4000000 in
theorem Met_Ro_put (l : Launch) (B : Nat) (D : va_G) (aC : Nat → ClassId) (aS : Nat → Nat) {a0 : Nat} {i1 : Int32} {M : zM} {post : zM → Prop} (hk0 : a0 < N0) (ht0 : tg a0 = 1) (h : Wp_Ro_put a0 i1 M post) : Met l y_Ro_put (wo y_Ro_put b_Ro_put 2 none) { frames := 0, cells := 0, slots := 0, locals := 0 } (va_Pc [.ref (B + a0), .int i1] (zWl B D aC aS M)) (zQv B D aC post) 0 0 (zAb B) := by
  refine z_met (own := "MailChain$Row") (lv0 := [(0, .ref (B + a0)), (1, .int i1)]) (by decide) rfl (Nat.le_of_ble_eq_true rfl) rfl ?_
  intro p e s m below meth c fx hr hlo
  delta Wp_Ro_put at h
  refine a_aload_n fx 0 d_Ro_put_0 rfl rfl ?_
  refine a_getI fx (T := F_Ro) (j := 1) (hk := hk0) (ht := ht0) (ht2 := by decide) (hc := rfl) (hin := u_in_Ro) (hj := by decide) (hj2 := by decide) (hf := rfl) (hT := rfl) (hw := w_47) (hd := d_Ro_put_1) (kk := ?_)
  refine a_aload_n fx 0 d_Ro_put_4 rfl rfl ?_
  refine a_getS fx (T := F_Ro) (j := 0) (hk := hk0) (ht := ht0) (ht2 := by decide) (hc := rfl) (hin := u_in_Ro) (hj := by decide) (hj2 := by decide) (hf := rfl) (n9 := 1) (hfo := rfl) (hT := rfl) (hw := w_46) (hd := d_Ro_put_5) (kk := ?_)
  refine a_alen fx 0 (lo_1_0 hk0 ht0).1 (lo_1_0 hk0 ht0).2 (by decide) (by decide) rfl d_Ro_put_8 ?_
  refine a_icmp_ge fx 33 d_Ro_put_9 rfl (fun hc => ?_) (fun hc => ?_)
  · have h := h.1 hc
    exact a_vret fx hlo hr h d_Ro_put_33
  · have h := h.2 hc
    refine a_aload_n fx 0 d_Ro_put_12 rfl rfl ?_
    refine a_getS fx (T := F_Ro) (j := 0) (hk := hk0) (ht := ht0) (ht2 := by decide) (hc := rfl) (hin := u_in_Ro) (hj := by decide) (hj2 := by decide) (hf := rfl) (n9 := 1) (hfo := rfl) (hT := rfl) (hw := w_46) (hd := d_Ro_put_13) (kk := ?_)
    refine a_aload_n fx 0 d_Ro_put_16 rfl rfl ?_
    refine a_getI fx (T := F_Ro) (j := 1) (hk := hk0) (ht := ht0) (ht2 := by decide) (hc := rfl) (hin := u_in_Ro) (hj := by decide) (hj2 := by decide) (hf := rfl) (hT := rfl) (hw := w_47) (hd := d_Ro_put_17) (kk := ?_)
    refine a_iload_n fx 1 d_Ro_put_20 rfl rfl ?_
    refine a_i2b fx d_Ro_put_21 ?_
    obtain ⟨hin, h⟩ := h
    refine a_bast fx (lo_1_0 hk0 ht0).1 (lo_1_0 hk0 ht0).2 hin d_Ro_put_22 (a_mem (fun M1 eM1 => ?_))
    have h := h M1 eM1
    refine a_aload_n fx 0 d_Ro_put_23 rfl rfl ?_
    refine a_dup fx d_Ro_put_24 rfl ?_
    refine a_getI fx (T := F_Ro) (j := 1) (hk := hk0) (ht := ht0) (ht2 := by decide) (hc := rfl) (hin := u_in_Ro) (hj := by decide) (hj2 := by decide) (hf := rfl) (hT := rfl) (hw := w_47) (hd := d_Ro_put_25) (kk := ?_)
    refine a_iconst (v := 1) fx d_Ro_put_28 rfl ?_
    refine a_iadd fx d_Ro_put_29 ?_
    refine a_putI fx (T := F_Ro) (ty0 := t_Ro) (j := 1) (hk := hk0) (ht := ht0) (ht2 := by decide) (hc := rfl) (hin := u_in_Ro) (hty := t_Ro_ok) (hnm := n_Ro) (hj := by decide) (hj2 := by decide) (hf := rfl) (hT := rfl) (hfin := rfl) (hn := rfl) (hfit := rfl) (hw := w_47) (hd := d_Ro_put_30) (kk := a_mem (fun M2 eM2 => ?_))
    have h := h M2 eM2
    exact a_vret fx hlo hr h d_Ro_put_33
set_option maxRecDepth 100000 in
set_option maxHeartbeats 4000000 in
theorem Met_Ro_turn (l : Launch) (B : Nat) (D : va_G) (aC : Nat → ClassId) (aS : Nat → Nat) {a0 : Nat} {i1 : Int32} {i2 : Int32} {M : zM} {post : zM → Prop} (hk0 : a0 < N0) (ht0 : tg a0 = 1) (h : Wp_Ro_turn a0 i1 i2 M post) : Met l y_Ro_turn (wo y_Ro_turn b_Ro_turn 3 none) { frames := 1, cells := 0, slots := 0, locals := 21 } (va_Pc [.ref (B + a0), .int i1, .int i2] (zWl B D aC aS M)) (zQv B D aC post) 0 0 (zAb B) := by
  refine z_met (own := "MailChain$Row") (lv0 := [(0, .ref (B + a0)), (1, .int i1), (2, .int i2)]) (by decide) rfl (Nat.le_of_ble_eq_true rfl) rfl ?_
  intro p e s m below meth c fx hr hlo
  delta Wp_Ro_turn at h
  refine a_aload_n fx 0 d_Ro_turn_0 rfl rfl ?_
  refine a_iload_n fx 1 d_Ro_turn_1 rfl rfl ?_
  refine a_calli (rest := []) (a_runV (As := [.int i1]) fx cv_Ro_has w_1217 (Met_Ro_has l B D aC aS (hk0 := hk0) (ht0 := ht0) h) hk0 ht0 (by decide) rfl rfl rfl (Nat.le_of_ble_eq_true rfl) rfl rfl ⟨Nat.le_of_ble_eq_true rfl, Nat.le_of_ble_eq_true rfl⟩ d_Ro_turn_2 ⟨Nat.le_of_ble_eq_true rfl, Nat.le_of_ble_eq_true rfl⟩) (fun x2 M1 h => ?_)
  refine a_if_eq fx 20 d_Ro_turn_5 rfl (fun hc => ?_) (fun hc => ?_)
  · have h := h.1 hc
    exact a_vret fx hlo hr h d_Ro_turn_20
  · have h := h.2 hc
    refine a_aload_n fx 0 d_Ro_turn_8 rfl rfl ?_
    refine a_getS fx (T := F_Ro) (j := 0) (hk := hk0) (ht := ht0) (ht2 := by decide) (hc := rfl) (hin := u_in_Ro) (hj := by decide) (hj2 := by decide) (hf := rfl) (n9 := 1) (hfo := rfl) (hT := rfl) (hw := w_46) (hd := d_Ro_turn_9) (kk := ?_)
    refine a_iload_n fx 1 d_Ro_turn_12 rfl rfl ?_
    refine a_dup2 fx d_Ro_turn_13 rfl rfl ?_
    obtain ⟨hin, h⟩ := h
    refine a_bald fx (lo_1_0 hk0 ht0).1 (lo_1_0 hk0 ht0).2 hin d_Ro_turn_14 ?_
    refine a_iload_n fx 2 d_Ro_turn_15 rfl rfl ?_
    refine a_i2b fx d_Ro_turn_16 ?_
    refine a_ixor fx d_Ro_turn_17 ?_
    refine a_i2b fx d_Ro_turn_18 ?_
    obtain ⟨hin, h⟩ := h
    refine a_bast fx (lo_1_0 hk0 ht0).1 (lo_1_0 hk0 ht0).2 hin d_Ro_turn_19 (a_mem (fun M3 eM3 => ?_))
    have h := h M3 eM3
    exact a_vret fx hlo hr h d_Ro_turn_20
set_option maxRecDepth 100000 in
set_option maxHeartbeats 4000000 in
theorem Met_Ro_putRange (l : Launch) (B : Nat) (D : va_G) (aC : Nat → ClassId) (aS : Nat → Nat) {a0 : Nat} {a1 : Nat} {i2 : Int32} {i3 : Int32} {M : zM} {post : zM → Prop} (hk0 : a0 < N0) (ht0 : tg a0 = 1) (hk1 : a1 < N0) (ht1 : tg a1 = 1) (h : Wp_Ro_putRange a0 a1 i2 i3 M post) : Met l y_Ro_putRange (wo y_Ro_putRange b_Ro_putRange 5 none) { frames := 1, cells := 0, slots := 0, locals := 64 } (va_Pc [.ref (B + a0), .ref (B + a1), .int i2, .int i3] (zWl B D aC aS M)) (zQv B D aC post) 0 0 (zAb B) := by
  refine z_met (own := "MailChain$Row") (lv0 := [(0, .ref (B + a0)), (1, .ref (B + a1)), (2, .int i2), (3, .int i3)]) (by decide) rfl (Nat.le_of_ble_eq_true rfl) rfl ?_
  intro p e s m below meth c fx hr hlo
  delta Wp_Ro_putRange at h
  refine a_iload_n fx 3 d_Ro_putRange_0 rfl rfl ?_
  refine a_iload_n fx 2 d_Ro_putRange_1 rfl rfl ?_
  refine a_isub fx d_Ro_putRange_2 ?_
  refine a_topi (fun x1 ex1 => ?_)
  have h := h x1 ex1
  refine a_istore (lv2 := [(4, .int x1), (0, .ref (B + a0)), (1, .ref (B + a1)), (2, .int i2), (3, .int i3)]) fx d_Ro_putRange_3 (by decide) rfl ?_
  refine a_iload_n fx 3 d_Ro_putRange_5 rfl rfl ?_
  refine a_if_lt fx 60 d_Ro_putRange_6 rfl (fun hc => ?_) (fun hc => ?_)
  · have h := h.1 hc
    exact a_vret fx hlo hr h d_Ro_putRange_60
  · have h := h.2 hc
    refine a_iload fx 0 d_Ro_putRange_9 rfl ?_
    refine a_if_le fx 60 d_Ro_putRange_11 rfl (fun hc => ?_) (fun hc => ?_)
    · have h := h.1 hc
      exact a_vret fx hlo hr h d_Ro_putRange_60
    · have h := h.2 hc
      refine a_iload_n fx 4 d_Ro_putRange_14 rfl rfl ?_
      refine a_aload_n fx 2 d_Ro_putRange_15 rfl rfl ?_
      refine a_getI fx (T := F_Ro) (j := 1) (hk := hk1) (ht := ht1) (ht2 := by decide) (hc := rfl) (hin := u_in_Ro) (hj := by decide) (hj2 := by decide) (hf := rfl) (hT := rfl) (hw := w_47) (hd := d_Ro_putRange_16) (kk := ?_)
      refine a_icmp_gt fx 60 d_Ro_putRange_19 rfl (fun hc => ?_) (fun hc => ?_)
      · have h := h.1 hc
        exact a_vret fx hlo hr h d_Ro_putRange_60
      · have h := h.2 hc
        refine a_iload fx 0 d_Ro_putRange_22 rfl ?_
        refine a_aload_n fx 1 d_Ro_putRange_24 rfl rfl ?_
        refine a_calli (rest := [.int x1]) (a_runV (As := []) fx cv_Ro_room w_470 (Met_Ro_room l B D aC aS (hk0 := hk0) (ht0 := ht0) h) hk0 ht0 (by decide) rfl rfl rfl (Nat.le_of_ble_eq_true rfl) rfl rfl ⟨Nat.le_of_ble_eq_true rfl, Nat.le_of_ble_eq_true rfl⟩ d_Ro_putRange_25 ⟨Nat.le_of_ble_eq_true rfl, Nat.le_of_ble_eq_true rfl⟩) (fun x3 M2 h => ?_)
        refine a_icmp_gt fx 60 d_Ro_putRange_28 rfl (fun hc => ?_) (fun hc => ?_)
        · have h := h.1 hc
          exact a_vret fx hlo hr h d_Ro_putRange_60
        · have h := h.2 hc
          refine a_aload_n fx 2 d_Ro_putRange_31 rfl rfl ?_
          refine a_getS fx (T := F_Ro) (j := 0) (hk := hk1) (ht := ht1) (ht2 := by decide) (hc := rfl) (hin := u_in_Ro) (hj := by decide) (hj2 := by decide) (hf := rfl) (n9 := 1) (hfo := rfl) (hT := rfl) (hw := w_46) (hd := d_Ro_putRange_32) (kk := ?_)
          refine a_iload_n fx 3 d_Ro_putRange_35 rfl rfl ?_
          refine a_aload_n fx 1 d_Ro_putRange_36 rfl rfl ?_
          refine a_getS fx (T := F_Ro) (j := 0) (hk := hk0) (ht := ht0) (ht2 := by decide) (hc := rfl) (hin := u_in_Ro) (hj := by decide) (hj2 := by decide) (hf := rfl) (n9 := 1) (hfo := rfl) (hT := rfl) (hw := w_46) (hd := d_Ro_putRange_37) (kk := ?_)
          refine a_aload_n fx 1 d_Ro_putRange_40 rfl rfl ?_
          refine a_getI fx (T := F_Ro) (j := 1) (hk := hk0) (ht := ht0) (ht2 := by decide) (hc := rfl) (hin := u_in_Ro) (hj := by decide) (hj2 := by decide) (hf := rfl) (hT := rfl) (hw := w_47) (hd := d_Ro_putRange_41) (kk := ?_)
          refine a_iload fx 0 d_Ro_putRange_44 rfl ?_
          obtain ⟨hq1, hq2, hq3, hq4, hq5, hq6, h⟩ := h
          refine a_copy fx w_474 w_476 w_475 w_17 (lo_1_0 hk1 ht1).1 (lo_1_0 hk1 ht1).2 (lo_1_0 hk0 ht0).1 (lo_1_0 hk0 ht0).2 hq1 hq2 hq3 hq4 hq5 hq6 (Nat.le_of_ble_eq_true rfl) (Nat.le_of_ble_eq_true rfl) d_Ro_putRange_46 (a_mem (fun M4 eM4 => ?_))
          have h := h M4 eM4
          refine a_aload_n fx 1 d_Ro_putRange_49 rfl rfl ?_
          refine a_dup fx d_Ro_putRange_50 rfl ?_
          refine a_getI fx (T := F_Ro) (j := 1) (hk := hk0) (ht := ht0) (ht2 := by decide) (hc := rfl) (hin := u_in_Ro) (hj := by decide) (hj2 := by decide) (hf := rfl) (hT := rfl) (hw := w_47) (hd := d_Ro_putRange_51) (kk := ?_)
          refine a_iload fx 0 d_Ro_putRange_54 rfl ?_
          refine a_iadd fx d_Ro_putRange_56 ?_
          refine a_putI fx (T := F_Ro) (ty0 := t_Ro) (j := 1) (hk := hk0) (ht := ht0) (ht2 := by decide) (hc := rfl) (hin := u_in_Ro) (hty := t_Ro_ok) (hnm := n_Ro) (hj := by decide) (hj2 := by decide) (hf := rfl) (hT := rfl) (hfin := rfl) (hn := rfl) (hfit := rfl) (hw := w_47) (hd := d_Ro_putRange_57) (kk := a_mem (fun M5 eM5 => ?_))
          have h := h M5 eM5
          exact a_vret fx hlo hr h d_Ro_putRange_60
set_option maxRecDepth 100000 in
set_option maxHeartbeats 4000000 in
theorem Met_Ro_copy (l : Launch) (B : Nat) (D : va_G) (aC : Nat → ClassId) (aS : Nat → Nat) {a0 : Nat} {a1 : Nat} {i2 : Int32} {i3 : Int32} {M : zM} {post : zM → Prop} (hk0 : a0 < N0) (ht0 : tg a0 = 1) (hk1 : a1 < N0) (ht1 : tg a1 = 1) (h : Wp_Ro_copy a0 a1 i2 i3 M post) : Met l y_Ro_copy (wo y_Ro_copy b_Ro_copy 4 none) { frames := 2, cells := 0, slots := 0, locals := 88 } (va_Pc [.ref (B + a0), .ref (B + a1), .int i2, .int i3] (zWl B D aC aS M)) (zQv B D aC post) 0 0 (zAb B) := by
  refine z_met (own := "MailChain$Row") (lv0 := [(0, .ref (B + a0)), (1, .ref (B + a1)), (2, .int i2), (3, .int i3)]) (by decide) rfl (Nat.le_of_ble_eq_true rfl) rfl ?_
  intro p e s m below meth c fx hr hlo
  delta Wp_Ro_copy at h
  refine a_aload_n fx 0 d_Ro_copy_0 rfl rfl ?_
  refine a_callv (rest := []) (a_runV (As := []) fx cv_Ro_wipe w_942 (Met_Ro_wipe l B D aC aS (hk0 := hk0) (ht0 := ht0) h) hk0 ht0 (by decide) rfl rfl rfl (Nat.le_of_ble_eq_true rfl) rfl rfl ⟨Nat.le_of_ble_eq_true rfl, Nat.le_of_ble_eq_true rfl⟩ d_Ro_copy_1 ⟨Nat.le_of_ble_eq_true rfl, Nat.le_of_ble_eq_true rfl⟩) (fun M1 h => ?_)
  refine a_aload_n fx 0 d_Ro_copy_4 rfl rfl ?_
  refine a_aload_n fx 1 d_Ro_copy_5 rfl rfl ?_
  refine a_iload_n fx 2 d_Ro_copy_6 rfl rfl ?_
  refine a_iload_n fx 3 d_Ro_copy_7 rfl rfl ?_
  refine a_callv (rest := []) (a_runV (As := [.ref (B + a1), .int i2, .int i3]) fx cv_Ro_putRange w_943 (Met_Ro_putRange l B D aC aS (hk0 := hk0) (ht0 := ht0) (hk1 := hk1) (ht1 := ht1) h) hk0 ht0 (by decide) rfl rfl rfl (Nat.le_of_ble_eq_true rfl) rfl rfl ⟨Nat.le_of_ble_eq_true rfl, Nat.le_of_ble_eq_true rfl⟩ d_Ro_copy_8 ⟨Nat.le_of_ble_eq_true rfl, Nat.le_of_ble_eq_true rfl⟩) (fun M2 h => ?_)
  exact a_vret fx hlo hr h d_Ro_copy_11
set_option maxRecDepth 100000 in
set_option maxHeartbeats 4000000 in
theorem Met_Ro_putText (l : Launch) (B : Nat) (D : va_G) (aC : Nat → ClassId) (aS : Nat → Nat) {a0 : Nat} {s1 : Nat} {M : zM} {post : zM → Prop} (hk0 : a0 < N0) (ht0 : tg a0 = 1) (hs1 : s1 < 9) (h : Wp_Ro_putText a0 s1 M post) : Met l y_Ro_putText (wo y_Ro_putText b_Ro_putText 3 none) { frames := 4, cells := 0, slots := 0, locals := 85 } (va_Pc [.ref (B + a0), .ref (aS s1)] (zWl B D aC aS M)) (zQv B D aC post) 0 0 (zAb B) := by
  refine z_met (own := "MailChain$Row") (lv0 := [(0, .ref (B + a0)), (1, .ref (aS s1))]) (by decide) rfl (Nat.le_of_ble_eq_true rfl) rfl ?_
  intro p e s m below meth c fx hr hlo
  delta Wp_Ro_putText at h
  have h := h (fun v2 M => zAt p l e { frames := 4, cells := 0, slots := 0, locals := 85 } s m ([.ref (B + a0), .ref (aS s1)] : List Value).toArray below meth c 0 0 (MQ below (zQv B D aC post) ([.ref (B + a0), .ref (aS s1)] : List Value).toArray s 0 0 (zAb B)) B D aC 3 2 [(0, .ref (B + a0)), (1, .ref (aS s1)), (2, .int v2)] [] M)
  have h := h (by
    intro v2 M h
    refine a_iload_n fx 2 d_Ro_putText_2 rfl rfl ?_
    refine a_aload_n fx 1 d_Ro_putText_3 rfl rfl ?_
    refine a_calli (rest := [.int v2]) (a_runVs (As := []) fx cv_JString_length w_399 (Met_JString_length l B D aC aS (hs0 := hs1) h) hs1 rfl rfl (Nat.le_of_ble_eq_true rfl) rfl rfl ⟨Nat.le_of_ble_eq_true rfl, Nat.le_of_ble_eq_true rfl⟩ d_Ro_putText_4 ⟨Nat.le_of_ble_eq_true rfl, Nat.le_of_ble_eq_true rfl⟩) (fun x2 M1 h => ?_)
    refine a_icmp_ge fx 25 d_Ro_putText_7 rfl (fun hc => ?_) (fun hc => ?_)
    · have h := h.1 hc
      exact a_vret fx hlo hr h d_Ro_putText_25
    · have h := h.2 hc
      refine a_aload_n fx 0 d_Ro_putText_10 rfl rfl ?_
      refine a_aload_n fx 1 d_Ro_putText_11 rfl rfl ?_
      refine a_iload_n fx 2 d_Ro_putText_12 rfl rfl ?_
      refine a_calli (rest := [.ref (B + a0)]) (a_runVs (As := [.int v2]) fx cv_JString_charAt w_409 (Met_JString_charAt l B D aC aS (hs0 := hs1) h) hs1 rfl rfl (Nat.le_of_ble_eq_true rfl) rfl rfl ⟨Nat.le_of_ble_eq_true rfl, Nat.le_of_ble_eq_true rfl⟩ d_Ro_putText_13 ⟨Nat.le_of_ble_eq_true rfl, Nat.le_of_ble_eq_true rfl⟩) (fun x4 M3 h => ?_)
      refine a_callv (rest := []) (a_runV (As := [.int x4]) fx cv_Ro_put w_522 (Met_Ro_put l B D aC aS (hk0 := hk0) (ht0 := ht0) h) hk0 ht0 (by decide) rfl rfl rfl (Nat.le_of_ble_eq_true rfl) rfl rfl ⟨Nat.le_of_ble_eq_true rfl, Nat.le_of_ble_eq_true rfl⟩ d_Ro_putText_16 ⟨Nat.le_of_ble_eq_true rfl, Nat.le_of_ble_eq_true rfl⟩) (fun M5 h => ?_)
      obtain ⟨x6, ex6⟩ : ∃ z : Int32, z = v2 + 1 := ⟨_, rfl⟩
      have h := h x6 ex6
      refine a_iinc (lv2 := [(2, .int x6), (0, .ref (B + a0)), (1, .ref (aS s1))]) fx 2 d_Ro_putText_19 rfl ex6.symm (by decide) rfl ?_
      refine a_goto fx 2 d_Ro_putText_22 rfl ?_
      refine a_sub [1, 2, 0] rfl ?_
      exact h)
  refine a_iconst (v := 0) fx d_Ro_putText_0 rfl ?_
  refine a_istore_n (lv2 := [(2, .int 0), (0, .ref (B + a0)), (1, .ref (aS s1))]) fx d_Ro_putText_1 rfl (by decide) rfl ?_
  refine a_sub [1, 2, 0] rfl ?_
  exact h
set_option maxRecDepth 100000 in
set_option maxHeartbeats 4000000 in
theorem Met_Ro_putOctal (l : Launch) (B : Nat) (D : va_G) (aC : Nat → ClassId) (aS : Nat → Nat) {a0 : Nat} {i1 : Int32} {i2 : Int32} {M : zM} {post : zM → Prop} (hk0 : a0 < N0) (ht0 : tg a0 = 1) (h : Wp_Ro_putOctal a0 i1 i2 M post) : Met l y_Ro_putOctal (wo y_Ro_putOctal b_Ro_putOctal 4 none) { frames := 1, cells := 0, slots := 0, locals := 21 } (va_Pc [.ref (B + a0), .int i1, .int i2] (zWl B D aC aS M)) (zQv B D aC post) 0 0 (zAb B) := by
  refine z_met (own := "MailChain$Row") (lv0 := [(0, .ref (B + a0)), (1, .int i1), (2, .int i2)]) (by decide) rfl (Nat.le_of_ble_eq_true rfl) rfl ?_
  intro p e s m below meth c fx hr hlo
  delta Wp_Ro_putOctal at h
  have h := h (fun v3 M => zAt p l e { frames := 1, cells := 0, slots := 0, locals := 21 } s m ([.ref (B + a0), .int i1, .int i2] : List Value).toArray below meth c 0 0 (MQ below (zQv B D aC post) ([.ref (B + a0), .int i1, .int i2] : List Value).toArray s 0 0 (zAb B)) B D aC 4 6 [(0, .ref (B + a0)), (1, .int i1), (2, .int i2), (3, .int v3)] [] M)
  have h := h (by
    intro v3 M h
    refine a_iload_n fx 3 d_Ro_putOctal_6 rfl rfl ?_
    refine a_if_lt fx 29 d_Ro_putOctal_7 rfl (fun hc => ?_) (fun hc => ?_)
    · have h := h.1 hc
      exact a_vret fx hlo hr h d_Ro_putOctal_29
    · have h := h.2 hc
      refine a_aload_n fx 0 d_Ro_putOctal_10 rfl rfl ?_
      refine a_bipush (v := 48) fx d_Ro_putOctal_11 rfl ?_
      refine a_iload_n fx 1 d_Ro_putOctal_13 rfl rfl ?_
      refine a_iload_n fx 3 d_Ro_putOctal_14 rfl rfl ?_
      refine a_iushr fx d_Ro_putOctal_15 ?_
      refine a_bipush (v := 7) fx d_Ro_putOctal_16 rfl ?_
      refine a_iand fx d_Ro_putOctal_18 ?_
      refine a_iadd fx d_Ro_putOctal_19 ?_
      refine a_callv (rest := []) (a_runV (As := [.int (48 + ((((i1).toUInt32 >>> ((v3).toUInt32 &&& Int32.toUInt32 31)).toInt32) &&& 7))]) fx cv_Ro_put w_522 (Met_Ro_put l B D aC aS (hk0 := hk0) (ht0 := ht0) h) hk0 ht0 (by decide) rfl rfl rfl (Nat.le_of_ble_eq_true rfl) rfl rfl ⟨Nat.le_of_ble_eq_true rfl, Nat.le_of_ble_eq_true rfl⟩ d_Ro_putOctal_20 ⟨Nat.le_of_ble_eq_true rfl, Nat.le_of_ble_eq_true rfl⟩) (fun M2 h => ?_)
      obtain ⟨x3, ex3⟩ : ∃ z : Int32, z = v3 + (-3) := ⟨_, rfl⟩
      have h := h x3 ex3
      refine a_iinc (lv2 := [(3, .int x3), (0, .ref (B + a0)), (1, .int i1), (2, .int i2)]) fx 3 d_Ro_putOctal_23 rfl ex3.symm (by decide) rfl ?_
      refine a_goto fx 6 d_Ro_putOctal_26 rfl ?_
      refine a_sub [1, 2, 3, 0] rfl ?_
      exact h)
  refine a_iconst (v := 3) fx d_Ro_putOctal_0 rfl ?_
  refine a_iload_n fx 2 d_Ro_putOctal_1 rfl rfl ?_
  refine a_iconst (v := 1) fx d_Ro_putOctal_2 rfl ?_
  refine a_isub fx d_Ro_putOctal_3 ?_
  refine a_imul fx d_Ro_putOctal_4 ?_
  refine a_topi (fun x1 ex1 => ?_)
  have h := h x1 ex1
  refine a_istore_n (lv2 := [(3, .int x1), (0, .ref (B + a0)), (1, .int i1), (2, .int i2)]) fx d_Ro_putOctal_5 rfl (by decide) rfl ?_
  refine a_sub [1, 2, 3, 0] rfl ?_
  exact h
set_option maxRecDepth 100000 in
set_option maxHeartbeats 4000000 in
theorem Met_Ro_putDecimal (l : Launch) (B : Nat) (D : va_G) (aC : Nat → ClassId) (aS : Nat → Nat) {a0 : Nat} {l1 : Int64} {M : zM} {post : zM → Prop} (hk0 : a0 < N0) (ht0 : tg a0 = 1) (h : Wp_Ro_putDecimal a0 l1 M post) : Met l y_Ro_putDecimal (wo y_Ro_putDecimal b_Ro_putDecimal 6 none) { frames := 1, cells := 0, slots := 0, locals := 21 } (va_Pc [.ref (B + a0), .long l1] (zWl B D aC aS M)) (zQv B D aC post) 0 0 (zAb B) := by
  refine z_met (own := "MailChain$Row") (lv0 := [(0, .ref (B + a0)), (1, .long l1)]) (by decide) rfl (Nat.le_of_ble_eq_true rfl) rfl ?_
  intro p e s m below meth c fx hr hlo
  delta Wp_Ro_putDecimal at h
  have h := h (fun v3 v5 M => zAt p l e { frames := 1, cells := 0, slots := 0, locals := 21 } s m ([.ref (B + a0), .long l1] : List Value).toArray below meth c 0 0 (MQ below (zQv B D aC post) ([.ref (B + a0), .long l1] : List Value).toArray s 0 0 (zAb B)) B D aC 6 5 [(0, .ref (B + a0)), (1, .long l1), (3, .long v3), (5, .int v5)] [] M)
  have h := h (fun v3 M => zAt p l e { frames := 1, cells := 0, slots := 0, locals := 21 } s m ([.ref (B + a0), .long l1] : List Value).toArray below meth c 0 0 (MQ below (zQv B D aC post) ([.ref (B + a0), .long l1] : List Value).toArray s 0 0 (zAb B)) B D aC 6 34 [(0, .ref (B + a0)), (1, .long l1), (3, .long v3)] [] M)
  have h := h (by
    intro v3 v5 M h
    refine a_iload fx 3 d_Ro_putDecimal_5 rfl ?_
    refine a_bipush (v := 10) fx d_Ro_putDecimal_7 rfl ?_
    refine a_icmp_ge fx 34 d_Ro_putDecimal_9 rfl (fun hc => ?_) (fun hc => ?_)
    · have h := h.1 hc
      refine a_sub [0, 1, 2] rfl ?_
      exact h
    · have h := h.2 hc
      refine a_lload_n fx 1 d_Ro_putDecimal_12 rfl rfl ?_
      refine a_lload_n fx 2 d_Ro_putDecimal_13 rfl rfl ?_
      obtain ⟨hne, h⟩ := h
      refine a_ldiv fx d_Ro_putDecimal_14 hne ?_
      refine a_ldc2 fx w_1188 d_Ro_putDecimal_15 ?_
      refine a_lcmp fx d_Ro_putDecimal_18 ?_
      refine a_if_lt fx 34 d_Ro_putDecimal_19 rfl (fun hc => ?_) (fun hc => ?_)
      · have h := h.1 hc
        refine a_sub [0, 1, 2] rfl ?_
        exact h
      · have h := h.2 hc
        refine a_lload_n fx 2 d_Ro_putDecimal_22 rfl rfl ?_
        refine a_ldc2 fx w_1188 d_Ro_putDecimal_23 ?_
        refine a_lmul fx d_Ro_putDecimal_26 ?_
        refine a_topl (fun y1 ey1 => ?_)
        have h := h y1 ey1
        refine a_lstore_n (lv2 := [(3, .long y1), (0, .ref (B + a0)), (1, .long l1), (5, .int v5)]) fx d_Ro_putDecimal_27 rfl (by decide) rfl ?_
        obtain ⟨x2, ex2⟩ : ∃ z : Int32, z = v5 + 1 := ⟨_, rfl⟩
        have h := h x2 ex2
        refine a_iinc (lv2 := [(5, .int x2), (3, .long y1), (0, .ref (B + a0)), (1, .long l1)]) fx 3 d_Ro_putDecimal_28 rfl ex2.symm (by decide) rfl ?_
        refine a_goto fx 5 d_Ro_putDecimal_31 rfl ?_
        refine a_sub [2, 3, 1, 0] rfl ?_
        exact h)
  have h := h (by
    intro v3 M h
    refine a_lload_n fx 2 d_Ro_putDecimal_34 rfl rfl ?_
    refine a_lconst (v := 0) fx d_Ro_putDecimal_35 rfl ?_
    refine a_lcmp fx d_Ro_putDecimal_36 ?_
    refine a_if_le fx 64 d_Ro_putDecimal_37 rfl (fun hc => ?_) (fun hc => ?_)
    · have h := h.1 hc
      exact a_vret fx hlo hr h d_Ro_putDecimal_64
    · have h := h.2 hc
      refine a_aload_n fx 0 d_Ro_putDecimal_40 rfl rfl ?_
      refine a_bipush (v := 48) fx d_Ro_putDecimal_41 rfl ?_
      refine a_lload_n fx 1 d_Ro_putDecimal_43 rfl rfl ?_
      refine a_lload_n fx 2 d_Ro_putDecimal_44 rfl rfl ?_
      obtain ⟨hne, h⟩ := h
      refine a_ldiv fx d_Ro_putDecimal_45 hne ?_
      refine a_ldc2 fx w_1188 d_Ro_putDecimal_46 ?_
      refine a_lrem fx d_Ro_putDecimal_49 (by decide) ?_
      refine a_l2i fx d_Ro_putDecimal_50 ?_
      refine a_iadd fx d_Ro_putDecimal_51 ?_
      refine a_callv (rest := []) (a_runV (As := [.int (48 + ((((l1 / v3) - (l1 / v3) / 10 * 10)).toInt32))]) fx cv_Ro_put w_522 (Met_Ro_put l B D aC aS (hk0 := hk0) (ht0 := ht0) h) hk0 ht0 (by decide) rfl rfl rfl (Nat.le_of_ble_eq_true rfl) rfl rfl ⟨Nat.le_of_ble_eq_true rfl, Nat.le_of_ble_eq_true rfl⟩ d_Ro_putDecimal_52 ⟨Nat.le_of_ble_eq_true rfl, Nat.le_of_ble_eq_true rfl⟩) (fun M3 h => ?_)
      refine a_lload_n fx 2 d_Ro_putDecimal_55 rfl rfl ?_
      refine a_ldc2 fx w_1188 d_Ro_putDecimal_56 ?_
      refine a_ldiv fx d_Ro_putDecimal_59 (by decide) ?_
      refine a_topl (fun y4 ey4 => ?_)
      have h := h y4 ey4
      refine a_lstore_n (lv2 := [(3, .long y4), (0, .ref (B + a0)), (1, .long l1)]) fx d_Ro_putDecimal_60 rfl (by decide) rfl ?_
      refine a_goto fx 34 d_Ro_putDecimal_61 rfl ?_
      refine a_sub [1, 2, 0] rfl ?_
      exact h)
  refine a_lconst (v := 1) fx d_Ro_putDecimal_0 rfl ?_
  refine a_lstore_n (lv2 := [(3, .long 1), (0, .ref (B + a0)), (1, .long l1)]) fx d_Ro_putDecimal_1 rfl (by decide) rfl ?_
  refine a_iconst (v := 1) fx d_Ro_putDecimal_2 rfl ?_
  refine a_istore (lv2 := [(5, .int 1), (3, .long 1), (0, .ref (B + a0)), (1, .long l1)]) fx d_Ro_putDecimal_3 (by decide) rfl ?_
  refine a_sub [2, 3, 1, 0] rfl ?_
  exact h
set_option maxRecDepth 100000 in
set_option maxHeartbeats 4000000 in
theorem Met_Ro_hasText (l : Launch) (B : Nat) (D : va_G) (aC : Nat → ClassId) (aS : Nat → Nat) {a0 : Nat} {s1 : Nat} {i2 : Int32} {M : zM} {post : Int32 → zM → Prop} (hk0 : a0 < N0) (ht0 : tg a0 = 1) (hs1 : s1 < 9) (h : Wp_Ro_hasText a0 s1 i2 M post) : Met l y_Ro_hasText (wo y_Ro_hasText b_Ro_hasText 4 (some FieldType.boolean)) { frames := 4, cells := 0, slots := 0, locals := 85 } (va_Pc [.ref (B + a0), .ref (aS s1), .int i2] (zWl B D aC aS M)) (zQi B D aC post) 0 0 (zAb B) := by
  refine z_met (own := "MailChain$Row") (lv0 := [(0, .ref (B + a0)), (1, .ref (aS s1)), (2, .int i2)]) (by decide) rfl (Nat.le_of_ble_eq_true rfl) rfl ?_
  intro p e s m below meth c fx hr hlo
  delta Wp_Ro_hasText at h
  have h := h (fun v3 M => zAt p l e { frames := 4, cells := 0, slots := 0, locals := 85 } s m ([.ref (B + a0), .ref (aS s1), .int i2] : List Value).toArray below meth c 0 0 (MQ below (zQi B D aC post) ([.ref (B + a0), .ref (aS s1), .int i2] : List Value).toArray s 0 0 (zAb B)) B D aC 4 2 [(0, .ref (B + a0)), (1, .ref (aS s1)), (2, .int i2), (3, .int v3)] [] M)
  have h := h (by
    intro v3 M h
    refine a_iload_n fx 3 d_Ro_hasText_2 rfl rfl ?_
    refine a_aload_n fx 1 d_Ro_hasText_3 rfl rfl ?_
    refine a_calli (rest := [.int v3]) (a_runVs (As := []) fx cv_JString_length w_399 (Met_JString_length l B D aC aS (hs0 := hs1) h) hs1 rfl rfl (Nat.le_of_ble_eq_true rfl) rfl rfl ⟨Nat.le_of_ble_eq_true rfl, Nat.le_of_ble_eq_true rfl⟩ d_Ro_hasText_4 ⟨Nat.le_of_ble_eq_true rfl, Nat.le_of_ble_eq_true rfl⟩) (fun x2 M1 h => ?_)
    refine a_icmp_ge fx 33 d_Ro_hasText_7 rfl (fun hc => ?_) (fun hc => ?_)
    · have h := h.1 hc
      refine a_iconst (v := 1) fx d_Ro_hasText_33 rfl ?_
      exact a_zret fx hlo hr rfl h d_Ro_hasText_34
    · have h := h.2 hc
      refine a_aload_n fx 0 d_Ro_hasText_10 rfl rfl ?_
      refine a_iload_n fx 2 d_Ro_hasText_11 rfl rfl ?_
      refine a_iload_n fx 3 d_Ro_hasText_12 rfl rfl ?_
      refine a_iadd fx d_Ro_hasText_13 ?_
      refine a_calli (rest := []) (a_runV (As := [.int (i2 + v3)]) fx cv_Ro_at w_367 (Met_Ro_at l B D aC aS (hk0 := hk0) (ht0 := ht0) h) hk0 ht0 (by decide) rfl rfl rfl (Nat.le_of_ble_eq_true rfl) rfl rfl ⟨Nat.le_of_ble_eq_true rfl, Nat.le_of_ble_eq_true rfl⟩ d_Ro_hasText_14 ⟨Nat.le_of_ble_eq_true rfl, Nat.le_of_ble_eq_true rfl⟩) (fun x4 M3 h => ?_)
      refine a_aload_n fx 1 d_Ro_hasText_17 rfl rfl ?_
      refine a_iload_n fx 3 d_Ro_hasText_18 rfl rfl ?_
      refine a_calli (rest := [.int x4]) (a_runVs (As := [.int v3]) fx cv_JString_charAt w_409 (Met_JString_charAt l B D aC aS (hs0 := hs1) h) hs1 rfl rfl (Nat.le_of_ble_eq_true rfl) rfl rfl ⟨Nat.le_of_ble_eq_true rfl, Nat.le_of_ble_eq_true rfl⟩ d_Ro_hasText_19 ⟨Nat.le_of_ble_eq_true rfl, Nat.le_of_ble_eq_true rfl⟩) (fun x6 M5 h => ?_)
      refine a_icmp_eq fx 27 d_Ro_hasText_22 rfl (fun hc => ?_) (fun hc => ?_)
      · have h := h.1 hc
        obtain ⟨x7, ex7⟩ : ∃ z : Int32, z = v3 + 1 := ⟨_, rfl⟩
        have h := h x7 ex7
        refine a_iinc (lv2 := [(3, .int x7), (0, .ref (B + a0)), (1, .ref (aS s1)), (2, .int i2)]) fx 3 d_Ro_hasText_27 rfl ex7.symm (by decide) rfl ?_
        refine a_goto fx 2 d_Ro_hasText_30 rfl ?_
        refine a_sub [1, 2, 3, 0] rfl ?_
        exact h
      · have h := h.2 hc
        refine a_iconst (v := 0) fx d_Ro_hasText_25 rfl ?_
        exact a_zret fx hlo hr rfl h d_Ro_hasText_26)
  refine a_iconst (v := 0) fx d_Ro_hasText_0 rfl ?_
  refine a_istore_n (lv2 := [(3, .int 0), (0, .ref (B + a0)), (1, .ref (aS s1)), (2, .int i2)]) fx d_Ro_hasText_1 rfl (by decide) rfl ?_
  refine a_sub [1, 2, 3, 0] rfl ?_
  exact h
set_option maxRecDepth 100000 in
set_option maxHeartbeats 4000000 in
theorem Met_Ro_order (l : Launch) (B : Nat) (D : va_G) (aC : Nat → ClassId) (aS : Nat → Nat) {a0 : Nat} {a1 : Nat} {i2 : Int32} {M : zM} {post : Int32 → zM → Prop} (hk0 : a0 < N0) (ht0 : tg a0 = 1) (hk1 : a1 < N0) (ht1 : tg a1 = 1) (h : Wp_Ro_order a0 a1 i2 M post) : Met l y_Ro_order (wo y_Ro_order b_Ro_order 5 (some FieldType.int)) { frames := 0, cells := 0, slots := 0, locals := 0 } (va_Pc [.ref (B + a0), .ref (B + a1), .int i2] (zWl B D aC aS M)) (zQi B D aC post) 0 0 (zAb B) := by
  refine z_met (own := "MailChain$Row") (lv0 := [(0, .ref (B + a0)), (1, .ref (B + a1)), (2, .int i2)]) (by decide) rfl (Nat.le_of_ble_eq_true rfl) rfl ?_
  intro p e s m below meth c fx hr hlo
  delta Wp_Ro_order at h
  have h := h (fun v3 M => zAt p l e { frames := 0, cells := 0, slots := 0, locals := 0 } s m ([.ref (B + a0), .ref (B + a1), .int i2] : List Value).toArray below meth c 0 0 (MQ below (zQi B D aC post) ([.ref (B + a0), .ref (B + a1), .int i2] : List Value).toArray s 0 0 (zAb B)) B D aC 5 2 [(0, .ref (B + a0)), (1, .ref (B + a1)), (2, .int i2), (3, .int v3)] [] M)
  have h := h (by
    intro v3 M h
    refine a_iload_n fx 3 d_Ro_order_2 rfl rfl ?_
    refine a_aload_n fx 0 d_Ro_order_3 rfl rfl ?_
    refine a_getI fx (T := F_Ro) (j := 1) (hk := hk0) (ht := ht0) (ht2 := by decide) (hc := rfl) (hin := u_in_Ro) (hj := by decide) (hj2 := by decide) (hf := rfl) (hT := rfl) (hw := w_47) (hd := d_Ro_order_4) (kk := ?_)
    refine a_icmp_ge fx 60 d_Ro_order_7 rfl (fun hc => ?_) (fun hc => ?_)
    · have h := h.1 hc
      refine a_aload_n fx 0 d_Ro_order_60 rfl rfl ?_
      refine a_getI fx (T := F_Ro) (j := 1) (hk := hk0) (ht := ht0) (ht2 := by decide) (hc := rfl) (hin := u_in_Ro) (hj := by decide) (hj2 := by decide) (hf := rfl) (hT := rfl) (hw := w_47) (hd := d_Ro_order_61) (kk := ?_)
      refine a_iload_n fx 2 d_Ro_order_64 rfl rfl ?_
      refine a_isub fx d_Ro_order_65 ?_
      exact a_iret fx hlo hr h d_Ro_order_66
    · have h := h.2 hc
      refine a_iload_n fx 3 d_Ro_order_10 rfl rfl ?_
      refine a_iload_n fx 2 d_Ro_order_11 rfl rfl ?_
      refine a_icmp_ge fx 60 d_Ro_order_12 rfl (fun hc => ?_) (fun hc => ?_)
      · have h := h.1 hc
        refine a_aload_n fx 0 d_Ro_order_60 rfl rfl ?_
        refine a_getI fx (T := F_Ro) (j := 1) (hk := hk0) (ht := ht0) (ht2 := by decide) (hc := rfl) (hin := u_in_Ro) (hj := by decide) (hj2 := by decide) (hf := rfl) (hT := rfl) (hw := w_47) (hd := d_Ro_order_61) (kk := ?_)
        refine a_iload_n fx 2 d_Ro_order_64 rfl rfl ?_
        refine a_isub fx d_Ro_order_65 ?_
        exact a_iret fx hlo hr h d_Ro_order_66
      · have h := h.2 hc
        refine a_iload_n fx 3 d_Ro_order_15 rfl rfl ?_
        refine a_aload_n fx 1 d_Ro_order_16 rfl rfl ?_
        refine a_getI fx (T := F_Ro) (j := 1) (hk := hk1) (ht := ht1) (ht2 := by decide) (hc := rfl) (hin := u_in_Ro) (hj := by decide) (hj2 := by decide) (hf := rfl) (hT := rfl) (hw := w_47) (hd := d_Ro_order_17) (kk := ?_)
        refine a_icmp_ge fx 60 d_Ro_order_20 rfl (fun hc => ?_) (fun hc => ?_)
        · have h := h.1 hc
          refine a_aload_n fx 0 d_Ro_order_60 rfl rfl ?_
          refine a_getI fx (T := F_Ro) (j := 1) (hk := hk0) (ht := ht0) (ht2 := by decide) (hc := rfl) (hin := u_in_Ro) (hj := by decide) (hj2 := by decide) (hf := rfl) (hT := rfl) (hw := w_47) (hd := d_Ro_order_61) (kk := ?_)
          refine a_iload_n fx 2 d_Ro_order_64 rfl rfl ?_
          refine a_isub fx d_Ro_order_65 ?_
          exact a_iret fx hlo hr h d_Ro_order_66
        · have h := h.2 hc
          refine a_aload_n fx 0 d_Ro_order_23 rfl rfl ?_
          refine a_getS fx (T := F_Ro) (j := 0) (hk := hk0) (ht := ht0) (ht2 := by decide) (hc := rfl) (hin := u_in_Ro) (hj := by decide) (hj2 := by decide) (hf := rfl) (n9 := 1) (hfo := rfl) (hT := rfl) (hw := w_46) (hd := d_Ro_order_24) (kk := ?_)
          refine a_iload_n fx 3 d_Ro_order_27 rfl rfl ?_
          obtain ⟨hin, h⟩ := h
          refine a_bald fx (lo_1_0 hk0 ht0).1 (lo_1_0 hk0 ht0).2 hin d_Ro_order_28 ?_
          refine a_sipush (v := 255) fx d_Ro_order_29 rfl ?_
          refine a_iand fx d_Ro_order_32 ?_
          refine a_aload_n fx 1 d_Ro_order_33 rfl rfl ?_
          refine a_getS fx (T := F_Ro) (j := 0) (hk := hk1) (ht := ht1) (ht2 := by decide) (hc := rfl) (hin := u_in_Ro) (hj := by decide) (hj2 := by decide) (hf := rfl) (n9 := 1) (hfo := rfl) (hT := rfl) (hw := w_46) (hd := d_Ro_order_34) (kk := ?_)
          refine a_iload_n fx 3 d_Ro_order_37 rfl rfl ?_
          obtain ⟨hin, h⟩ := h
          refine a_bald fx (lo_1_0 hk1 ht1).1 (lo_1_0 hk1 ht1).2 hin d_Ro_order_38 ?_
          refine a_sipush (v := 255) fx d_Ro_order_39 rfl ?_
          refine a_iand fx d_Ro_order_42 ?_
          refine a_isub fx d_Ro_order_43 ?_
          refine a_topi (fun x1 ex1 => ?_)
          have h := h x1 ex1
          refine a_istore (lv2 := [(4, .int x1), (0, .ref (B + a0)), (1, .ref (B + a1)), (2, .int i2), (3, .int v3)]) fx d_Ro_order_44 (by decide) rfl ?_
          refine a_iload fx 0 d_Ro_order_46 rfl ?_
          refine a_if_eq fx 54 d_Ro_order_48 rfl (fun hc => ?_) (fun hc => ?_)
          · have h := h.1 hc
            obtain ⟨x2, ex2⟩ : ∃ z : Int32, z = v3 + 1 := ⟨_, rfl⟩
            have h := h x2 ex2
            refine a_iinc (lv2 := [(3, .int x2), (4, .int x1), (0, .ref (B + a0)), (1, .ref (B + a1)), (2, .int i2)]) fx 4 d_Ro_order_54 rfl ex2.symm (by decide) rfl ?_
            refine a_goto fx 2 d_Ro_order_57 rfl ?_
            refine a_sub [2, 3, 4, 0] rfl ?_
            exact h
          · have h := h.2 hc
            refine a_iload fx 0 d_Ro_order_51 rfl ?_
            exact a_iret fx hlo hr h d_Ro_order_53)
  refine a_iconst (v := 0) fx d_Ro_order_0 rfl ?_
  refine a_istore_n (lv2 := [(3, .int 0), (0, .ref (B + a0)), (1, .ref (B + a1)), (2, .int i2)]) fx d_Ro_order_1 rfl (by decide) rfl ?_
  refine a_sub [1, 2, 3, 0] rfl ?_
  exact h
set_option maxRecDepth 100000 in
set_option maxHeartbeats 4000000 in
theorem Met_Ro_same (l : Launch) (B : Nat) (D : va_G) (aC : Nat → ClassId) (aS : Nat → Nat) {a0 : Nat} {a1 : Nat} {M : zM} {post : Int32 → zM → Prop} (hk0 : a0 < N0) (ht0 : tg a0 = 1) (hk1 : a1 < N0) (ht1 : tg a1 = 1) (h : Wp_Ro_same a0 a1 M post) : Met l y_Ro_same (wo y_Ro_same b_Ro_same 2 (some FieldType.boolean)) { frames := 1, cells := 0, slots := 0, locals := 24 } (va_Pc [.ref (B + a0), .ref (B + a1)] (zWl B D aC aS M)) (zQi B D aC post) 0 0 (zAb B) := by
  refine z_met (own := "MailChain$Row") (lv0 := [(0, .ref (B + a0)), (1, .ref (B + a1))]) (by decide) rfl (Nat.le_of_ble_eq_true rfl) rfl ?_
  intro p e s m below meth c fx hr hlo
  delta Wp_Ro_same at h
  refine a_aload_n fx 0 d_Ro_same_0 rfl rfl ?_
  refine a_getI fx (T := F_Ro) (j := 1) (hk := hk0) (ht := ht0) (ht2 := by decide) (hc := rfl) (hin := u_in_Ro) (hj := by decide) (hj2 := by decide) (hf := rfl) (hT := rfl) (hw := w_47) (hd := d_Ro_same_1) (kk := ?_)
  refine a_aload_n fx 1 d_Ro_same_4 rfl rfl ?_
  refine a_getI fx (T := F_Ro) (j := 1) (hk := hk1) (ht := ht1) (ht2 := by decide) (hc := rfl) (hin := u_in_Ro) (hj := by decide) (hj2 := by decide) (hf := rfl) (hT := rfl) (hw := w_47) (hd := d_Ro_same_5) (kk := ?_)
  refine a_icmp_ne fx 27 d_Ro_same_8 rfl (fun hc => ?_) (fun hc => ?_)
  · have h := h.1 hc
    refine a_iconst (v := 0) fx d_Ro_same_27 rfl ?_
    exact a_zret fx hlo hr rfl h d_Ro_same_28
  · have h := h.2 hc
    refine a_aload_n fx 0 d_Ro_same_11 rfl rfl ?_
    refine a_aload_n fx 1 d_Ro_same_12 rfl rfl ?_
    refine a_aload_n fx 1 d_Ro_same_13 rfl rfl ?_
    refine a_getI fx (T := F_Ro) (j := 1) (hk := hk1) (ht := ht1) (ht2 := by decide) (hc := rfl) (hin := u_in_Ro) (hj := by decide) (hj2 := by decide) (hf := rfl) (hT := rfl) (hw := w_47) (hd := d_Ro_same_14) (kk := ?_)
    refine a_calli (rest := []) (a_runV (As := [.ref (B + a1), .int (M.1 a1 1)]) fx cv_Ro_order w_540 (Met_Ro_order l B D aC aS (hk0 := hk0) (ht0 := ht0) (hk1 := hk1) (ht1 := ht1) h) hk0 ht0 (by decide) rfl rfl rfl (Nat.le_of_ble_eq_true rfl) rfl rfl ⟨Nat.le_of_ble_eq_true rfl, Nat.le_of_ble_eq_true rfl⟩ d_Ro_same_17 ⟨Nat.le_of_ble_eq_true rfl, Nat.le_of_ble_eq_true rfl⟩) (fun x2 M1 h => ?_)
    refine a_if_ne fx 27 d_Ro_same_20 rfl (fun hc => ?_) (fun hc => ?_)
    · have h := h.1 hc
      refine a_iconst (v := 0) fx d_Ro_same_27 rfl ?_
      exact a_zret fx hlo hr rfl h d_Ro_same_28
    · have h := h.2 hc
      refine a_iconst (v := 1) fx d_Ro_same_23 rfl ?_
      refine a_goto fx 28 d_Ro_same_24 rfl ?_
      exact a_zret fx hlo hr rfl h d_Ro_same_28
set_option maxRecDepth 100000 in
set_option maxHeartbeats 4000000 in
theorem Met_Ro_divide (l : Launch) (B : Nat) (D : va_G) (aC : Nat → ClassId) (aS : Nat → Nat) {i0 : Int32} {i1 : Int32} {M : zM} {post : Int32 → zM → Prop}  (h : Wp_Ro_divide i0 i1 M post) : Met l y_Ro_divide (wo y_Ro_divide b_Ro_divide 3 (some FieldType.int)) { frames := 0, cells := 0, slots := 0, locals := 0 } (va_Pc [.int i0, .int i1] (zWl B D aC aS M)) (zQi B D aC post) 0 0 (zAb B) := by
  refine z_met (own := "MailChain$Row") (lv0 := [(0, .int i0), (1, .int i1)]) (by decide) rfl (Nat.le_of_ble_eq_true rfl) rfl ?_
  intro p e s m below meth c fx hr hlo
  obtain ⟨tRm, hZr, hTr⟩ := fx.2.2.2.2.2.1.2.1
  delta Wp_Ro_divide at h
  refine a_iload_n fx 0 d_Ro_divide_0 rfl rfl ?_
  refine a_iload_n fx 1 d_Ro_divide_1 rfl rfl ?_
  refine a_bipush (v := 24) fx d_Ro_divide_2 rfl ?_
  refine a_ishl fx d_Ro_divide_4 ?_
  refine a_ixor fx d_Ro_divide_5 ?_
  refine a_topi (fun x1 ex1 => ?_)
  have h := h x1 ex1
  refine a_istore_n (lv2 := [(2, .int x1), (0, .int i0), (1, .int i1)]) fx d_Ro_divide_6 rfl (by decide) rfl ?_
  refine a_iload_n fx 0 d_Ro_divide_7 rfl rfl ?_
  refine a_iconst (v := 4) fx d_Ro_divide_8 rfl ?_
  refine a_ishl fx d_Ro_divide_9 ?_
  refine a_gets fx hZr w_374 d_Ro_divide_10 ?_
  refine a_iload_n fx 0 d_Ro_divide_13 rfl rfl ?_
  refine a_bipush (v := 28) fx d_Ro_divide_14 rfl ?_
  refine a_iushr fx d_Ro_divide_16 ?_
  obtain ⟨hin, h⟩ := h
  refine a_rem fx hTr hin d_Ro_divide_17 ?_
  refine a_ixor fx d_Ro_divide_18 ?_
  refine a_topi (fun x2 ex2 => ?_)
  have h := h x2 ex2
  refine a_istore_n (lv2 := [(2, .int x2), (0, .int i0), (1, .int i1)]) fx d_Ro_divide_19 rfl (by decide) rfl ?_
  refine a_iload_n fx 0 d_Ro_divide_20 rfl rfl ?_
  refine a_iconst (v := 4) fx d_Ro_divide_21 rfl ?_
  refine a_ishl fx d_Ro_divide_22 ?_
  refine a_gets fx hZr w_374 d_Ro_divide_23 ?_
  refine a_iload_n fx 0 d_Ro_divide_26 rfl rfl ?_
  refine a_bipush (v := 28) fx d_Ro_divide_27 rfl ?_
  refine a_iushr fx d_Ro_divide_29 ?_
  obtain ⟨hin, h⟩ := h
  refine a_rem fx hTr hin d_Ro_divide_30 ?_
  refine a_ixor fx d_Ro_divide_31 ?_
  exact a_iret fx hlo hr h d_Ro_divide_32
set_option maxRecDepth 100000 in
set_option maxHeartbeats 4000000 in
theorem Met_Ro_sum (l : Launch) (B : Nat) (D : va_G) (aC : Nat → ClassId) (aS : Nat → Nat) {a0 : Nat} {i1 : Int32} {i2 : Int32} {M : zM} {post : Int32 → zM → Prop} (hk0 : a0 < N0) (ht0 : tg a0 = 1) (h : Wp_Ro_sum a0 i1 i2 M post) : Met l y_Ro_sum (wo y_Ro_sum b_Ro_sum 5 (some FieldType.int)) { frames := 1, cells := 0, slots := 0, locals := 22 } (va_Pc [.ref (B + a0), .int i1, .int i2] (zWl B D aC aS M)) (zQi B D aC post) 0 0 (zAb B) := by
  refine z_met (own := "MailChain$Row") (lv0 := [(0, .ref (B + a0)), (1, .int i1), (2, .int i2)]) (by decide) rfl (Nat.le_of_ble_eq_true rfl) rfl ?_
  intro p e s m below meth c fx hr hlo
  delta Wp_Ro_sum at h
  have h := h (fun v3 v4 M => zAt p l e { frames := 1, cells := 0, slots := 0, locals := 22 } s m ([.ref (B + a0), .int i1, .int i2] : List Value).toArray below meth c 0 0 (MQ below (zQi B D aC post) ([.ref (B + a0), .int i1, .int i2] : List Value).toArray s 0 0 (zAb B)) B D aC 5 5 [(0, .ref (B + a0)), (1, .int i1), (2, .int i2), (3, .int v3), (4, .int v4)] [] M)
  have h := h (fun v3 v4 M => zAt p l e { frames := 1, cells := 0, slots := 0, locals := 22 } s m ([.ref (B + a0), .int i1, .int i2] : List Value).toArray below meth c 0 0 (MQ below (zQi B D aC post) ([.ref (B + a0), .int i1, .int i2] : List Value).toArray s 0 0 (zAb B)) B D aC 5 33 [(0, .ref (B + a0)), (1, .int i1), (2, .int i2), (3, .int v3), (4, .int v4)] [] M)
  have h := h (by
    intro v3 v4 M h
    refine a_iload fx 4 d_Ro_sum_5 rfl ?_
    refine a_iload_n fx 2 d_Ro_sum_7 rfl rfl ?_
    refine a_icmp_ge fx 28 d_Ro_sum_8 rfl (fun hc => ?_) (fun hc => ?_)
    · have h := h.1 hc
      refine a_iload_n fx 2 d_Ro_sum_28 rfl rfl ?_
      refine a_iload_n fx 1 d_Ro_sum_29 rfl rfl ?_
      refine a_isub fx d_Ro_sum_30 ?_
      refine a_topi (fun x1 ex1 => ?_)
      have h := h x1 ex1
      refine a_istore (lv2 := [(4, .int x1), (0, .ref (B + a0)), (1, .int i1), (2, .int i2), (3, .int v3)]) fx d_Ro_sum_31 (by decide) rfl ?_
      refine a_sub [1, 2, 3, 4, 0] rfl ?_
      exact h
    · have h := h.2 hc
      refine a_iload_n fx 3 d_Ro_sum_11 rfl rfl ?_
      refine a_aload_n fx 0 d_Ro_sum_12 rfl rfl ?_
      refine a_iload fx 4 d_Ro_sum_13 rfl ?_
      refine a_calli (rest := [.int v3]) (a_runV (As := [.int v4]) fx cv_Ro_at w_367 (Met_Ro_at l B D aC aS (hk0 := hk0) (ht0 := ht0) h) hk0 ht0 (by decide) rfl rfl rfl (Nat.le_of_ble_eq_true rfl) rfl rfl ⟨Nat.le_of_ble_eq_true rfl, Nat.le_of_ble_eq_true rfl⟩ d_Ro_sum_15 ⟨Nat.le_of_ble_eq_true rfl, Nat.le_of_ble_eq_true rfl⟩) (fun x3 M2 h => ?_)
      refine a_calli (rest := []) (a_runS (As := [.int v3, .int x3]) fx  cv_Ro_divide w_371 (Met_Ro_divide l B D aC aS  h) rfl rfl (Nat.le_of_ble_eq_true rfl) rfl rfl ⟨Nat.le_of_ble_eq_true rfl, Nat.le_of_ble_eq_true rfl⟩ d_Ro_sum_18 ⟨Nat.le_of_ble_eq_true rfl, Nat.le_of_ble_eq_true rfl⟩) (fun x5 M4 h => ?_)
      refine a_istore_n (lv2 := [(3, .int x5), (0, .ref (B + a0)), (1, .int i1), (2, .int i2), (4, .int v4)]) fx d_Ro_sum_21 rfl (by decide) rfl ?_
      obtain ⟨x6, ex6⟩ : ∃ z : Int32, z = v4 + 1 := ⟨_, rfl⟩
      have h := h x6 ex6
      refine a_iinc (lv2 := [(4, .int x6), (3, .int x5), (0, .ref (B + a0)), (1, .int i1), (2, .int i2)]) fx 4 d_Ro_sum_22 rfl ex6.symm (by decide) rfl ?_
      refine a_goto fx 5 d_Ro_sum_25 rfl ?_
      refine a_sub [2, 3, 4, 1, 0] rfl ?_
      exact h)
  have h := h (by
    intro v3 v4 M h
    refine a_iload fx 4 d_Ro_sum_33 rfl ?_
    refine a_if_le fx 55 d_Ro_sum_35 rfl (fun hc => ?_) (fun hc => ?_)
    · have h := h.1 hc
      refine a_iload_n fx 3 d_Ro_sum_55 rfl rfl ?_
      refine a_iconst (v := (-1)) fx d_Ro_sum_56 rfl ?_
      refine a_ixor fx d_Ro_sum_57 ?_
      exact a_iret fx hlo hr h d_Ro_sum_58
    · have h := h.2 hc
      refine a_iload_n fx 3 d_Ro_sum_38 rfl rfl ?_
      refine a_iload fx 4 d_Ro_sum_39 rfl ?_
      refine a_calli (rest := []) (a_runS (As := [.int v3, .int v4]) fx  cv_Ro_divide w_371 (Met_Ro_divide l B D aC aS  h) rfl rfl (Nat.le_of_ble_eq_true rfl) rfl rfl ⟨Nat.le_of_ble_eq_true rfl, Nat.le_of_ble_eq_true rfl⟩ d_Ro_sum_41 ⟨Nat.le_of_ble_eq_true rfl, Nat.le_of_ble_eq_true rfl⟩) (fun x8 M7 h => ?_)
      refine a_istore_n (lv2 := [(3, .int x8), (0, .ref (B + a0)), (1, .int i1), (2, .int i2), (4, .int v4)]) fx d_Ro_sum_44 rfl (by decide) rfl ?_
      refine a_iload fx 4 d_Ro_sum_45 rfl ?_
      refine a_bipush (v := 8) fx d_Ro_sum_47 rfl ?_
      refine a_iushr fx d_Ro_sum_49 ?_
      refine a_topi (fun x9 ex9 => ?_)
      have h := h x9 ex9
      refine a_istore (lv2 := [(4, .int x9), (3, .int x8), (0, .ref (B + a0)), (1, .int i1), (2, .int i2)]) fx d_Ro_sum_50 (by decide) rfl ?_
      refine a_goto fx 33 d_Ro_sum_52 rfl ?_
      refine a_sub [2, 3, 4, 1, 0] rfl ?_
      exact h)
  refine a_iconst (v := 0) fx d_Ro_sum_0 rfl ?_
  refine a_istore_n (lv2 := [(3, .int 0), (0, .ref (B + a0)), (1, .int i1), (2, .int i2)]) fx d_Ro_sum_1 rfl (by decide) rfl ?_
  refine a_iload_n fx 2 d_Ro_sum_2 rfl rfl ?_
  refine a_istore (lv2 := [(4, .int i1), (3, .int 0), (0, .ref (B + a0)), (1, .int i1), (2, .int i2)]) fx d_Ro_sum_3 (by decide) rfl ?_
  refine a_sub [2, 3, 4, 1, 0] rfl ?_
  exact h
set_option maxRecDepth 100000 in
set_option maxHeartbeats 4000000 in
theorem Met_En_becomeLinkOf (l : Launch) (B : Nat) (D : va_G) (aC : Nat → ClassId) (aS : Nat → Nat) {a0 : Nat} {a1 : Nat} {M : zM} {post : zM → Prop} (hk0 : a0 < N0) (ht0 : tg a0 = 2) (hk1 : a1 < N0) (ht1 : tg a1 = 2) (h : Wp_En_becomeLinkOf a0 a1 M post) : Met l y_En_becomeLinkOf (wo y_En_becomeLinkOf b_En_becomeLinkOf 2 none) { frames := 0, cells := 0, slots := 0, locals := 0 } (va_Pc [.ref (B + a0), .ref (B + a1)] (zWl B D aC aS M)) (zQv B D aC post) 0 0 (zAb B) := by
  refine z_met (own := "MailChain$Entry") (lv0 := [(0, .ref (B + a0)), (1, .ref (B + a1))]) (by decide) rfl (Nat.le_of_ble_eq_true rfl) rfl ?_
  intro p e s m below meth c fx hr hlo
  delta Wp_En_becomeLinkOf at h
  refine a_aload_n fx 0 d_En_becomeLinkOf_0 rfl rfl ?_
  refine a_aload_n fx 1 d_En_becomeLinkOf_1 rfl rfl ?_
  refine a_getI fx (T := F_En) (j := 1) (hk := hk1) (ht := ht1) (ht2 := by decide) (hc := rfl) (hin := u_in_En) (hj := by decide) (hj2 := by decide) (hf := rfl) (hT := rfl) (hw := w_82) (hd := d_En_becomeLinkOf_2) (kk := ?_)
  refine a_putI fx (T := F_En) (ty0 := t_En) (j := 1) (hk := hk0) (ht := ht0) (ht2 := by decide) (hc := rfl) (hin := u_in_En) (hty := t_En_ok) (hnm := n_En) (hj := by decide) (hj2 := by decide) (hf := rfl) (hT := rfl) (hfin := rfl) (hn := rfl) (hfit := rfl) (hw := w_82) (hd := d_En_becomeLinkOf_5) (kk := a_mem (fun M1 eM1 => ?_))
  have h := h M1 eM1
  refine a_aload_n fx 0 d_En_becomeLinkOf_8 rfl rfl ?_
  refine a_aload_n fx 1 d_En_becomeLinkOf_9 rfl rfl ?_
  refine a_getI fx (T := F_En) (j := 2) (hk := hk1) (ht := ht1) (ht2 := by decide) (hc := rfl) (hin := u_in_En) (hj := by decide) (hj2 := by decide) (hf := rfl) (hT := rfl) (hw := w_86) (hd := d_En_becomeLinkOf_10) (kk := ?_)
  refine a_putI fx (T := F_En) (ty0 := t_En) (j := 2) (hk := hk0) (ht := ht0) (ht2 := by decide) (hc := rfl) (hin := u_in_En) (hty := t_En_ok) (hnm := n_En) (hj := by decide) (hj2 := by decide) (hf := rfl) (hT := rfl) (hfin := rfl) (hn := rfl) (hfit := rfl) (hw := w_86) (hd := d_En_becomeLinkOf_13) (kk := a_mem (fun M2 eM2 => ?_))
  have h := h M2 eM2
  refine a_aload_n fx 0 d_En_becomeLinkOf_16 rfl rfl ?_
  refine a_aload_n fx 1 d_En_becomeLinkOf_17 rfl rfl ?_
  refine a_getI fx (T := F_En) (j := 3) (hk := hk1) (ht := ht1) (ht2 := by decide) (hc := rfl) (hin := u_in_En) (hj := by decide) (hj2 := by decide) (hf := rfl) (hT := rfl) (hw := w_90) (hd := d_En_becomeLinkOf_18) (kk := ?_)
  refine a_putI fx (T := F_En) (ty0 := t_En) (j := 3) (hk := hk0) (ht := ht0) (ht2 := by decide) (hc := rfl) (hin := u_in_En) (hty := t_En_ok) (hnm := n_En) (hj := by decide) (hj2 := by decide) (hf := rfl) (hT := rfl) (hfin := rfl) (hn := rfl) (hfit := rfl) (hw := w_90) (hd := d_En_becomeLinkOf_21) (kk := a_mem (fun M3 eM3 => ?_))
  have h := h M3 eM3
  refine a_aload_n fx 0 d_En_becomeLinkOf_24 rfl rfl ?_
  refine a_aload_n fx 1 d_En_becomeLinkOf_25 rfl rfl ?_
  refine a_getI fx (T := F_En) (j := 4) (hk := hk1) (ht := ht1) (ht2 := by decide) (hc := rfl) (hin := u_in_En) (hj := by decide) (hj2 := by decide) (hf := rfl) (hT := rfl) (hw := w_94) (hd := d_En_becomeLinkOf_26) (kk := ?_)
  refine a_putI fx (T := F_En) (ty0 := t_En) (j := 4) (hk := hk0) (ht := ht0) (ht2 := by decide) (hc := rfl) (hin := u_in_En) (hty := t_En_ok) (hnm := n_En) (hj := by decide) (hj2 := by decide) (hf := rfl) (hT := rfl) (hfin := rfl) (hn := rfl) (hfit := rfl) (hw := w_94) (hd := d_En_becomeLinkOf_29) (kk := a_mem (fun M4 eM4 => ?_))
  have h := h M4 eM4
  refine a_aload_n fx 0 d_En_becomeLinkOf_32 rfl rfl ?_
  refine a_aload_n fx 1 d_En_becomeLinkOf_33 rfl rfl ?_
  refine a_getI fx (T := F_En) (j := 5) (hk := hk1) (ht := ht1) (ht2 := by decide) (hc := rfl) (hin := u_in_En) (hj := by decide) (hj2 := by decide) (hf := rfl) (hT := rfl) (hw := w_98) (hd := d_En_becomeLinkOf_34) (kk := ?_)
  refine a_putI fx (T := F_En) (ty0 := t_En) (j := 5) (hk := hk0) (ht := ht0) (ht2 := by decide) (hc := rfl) (hin := u_in_En) (hty := t_En_ok) (hnm := n_En) (hj := by decide) (hj2 := by decide) (hf := rfl) (hT := rfl) (hfin := rfl) (hn := rfl) (hfit := rfl) (hw := w_98) (hd := d_En_becomeLinkOf_37) (kk := a_mem (fun M5 eM5 => ?_))
  have h := h M5 eM5
  refine a_aload_n fx 0 d_En_becomeLinkOf_40 rfl rfl ?_
  refine a_aload_n fx 1 d_En_becomeLinkOf_41 rfl rfl ?_
  refine a_getI fx (T := F_En) (j := 6) (hk := hk1) (ht := ht1) (ht2 := by decide) (hc := rfl) (hin := u_in_En) (hj := by decide) (hj2 := by decide) (hf := rfl) (hT := rfl) (hw := w_102) (hd := d_En_becomeLinkOf_42) (kk := ?_)
  refine a_putI fx (T := F_En) (ty0 := t_En) (j := 6) (hk := hk0) (ht := ht0) (ht2 := by decide) (hc := rfl) (hin := u_in_En) (hty := t_En_ok) (hnm := n_En) (hj := by decide) (hj2 := by decide) (hf := rfl) (hT := rfl) (hfin := rfl) (hn := rfl) (hfit := rfl) (hw := w_102) (hd := d_En_becomeLinkOf_45) (kk := a_mem (fun M6 eM6 => ?_))
  have h := h M6 eM6
  refine a_aload_n fx 0 d_En_becomeLinkOf_48 rfl rfl ?_
  refine a_aload_n fx 1 d_En_becomeLinkOf_49 rfl rfl ?_
  refine a_getI fx (T := F_En) (j := 7) (hk := hk1) (ht := ht1) (ht2 := by decide) (hc := rfl) (hin := u_in_En) (hj := by decide) (hj2 := by decide) (hf := rfl) (hT := rfl) (hw := w_105) (hd := d_En_becomeLinkOf_50) (kk := ?_)
  refine a_putI fx (T := F_En) (ty0 := t_En) (j := 7) (hk := hk0) (ht := ht0) (ht2 := by decide) (hc := rfl) (hin := u_in_En) (hty := t_En_ok) (hnm := n_En) (hj := by decide) (hj2 := by decide) (hf := rfl) (hT := rfl) (hfin := rfl) (hn := rfl) (hfit := rfl) (hw := w_105) (hd := d_En_becomeLinkOf_53) (kk := a_mem (fun M7 eM7 => ?_))
  have h := h M7 eM7
  refine a_aload_n fx 0 d_En_becomeLinkOf_56 rfl rfl ?_
  refine a_aload_n fx 1 d_En_becomeLinkOf_57 rfl rfl ?_
  refine a_getI fx (T := F_En) (j := 8) (hk := hk1) (ht := ht1) (ht2 := by decide) (hc := rfl) (hin := u_in_En) (hj := by decide) (hj2 := by decide) (hf := rfl) (hT := rfl) (hw := w_108) (hd := d_En_becomeLinkOf_58) (kk := ?_)
  refine a_putI fx (T := F_En) (ty0 := t_En) (j := 8) (hk := hk0) (ht := ht0) (ht2 := by decide) (hc := rfl) (hin := u_in_En) (hty := t_En_ok) (hnm := n_En) (hj := by decide) (hj2 := by decide) (hf := rfl) (hT := rfl) (hfin := rfl) (hn := rfl) (hfit := rfl) (hw := w_108) (hd := d_En_becomeLinkOf_61) (kk := a_mem (fun M8 eM8 => ?_))
  have h := h M8 eM8
  exact a_vret fx hlo hr h d_En_becomeLinkOf_64
set_option maxRecDepth 100000 in
set_option maxHeartbeats 4000000 in
theorem Met_En_hasSoundFields (l : Launch) (B : Nat) (D : va_G) (aC : Nat → ClassId) (aS : Nat → Nat) {a0 : Nat} {M : zM} {post : Int32 → zM → Prop} (hk0 : a0 < N0) (ht0 : tg a0 = 2) (h : Wp_En_hasSoundFields a0 M post) : Met l y_En_hasSoundFields (wo y_En_hasSoundFields b_En_hasSoundFields 1 (some FieldType.boolean)) { frames := 0, cells := 0, slots := 0, locals := 0 } (va_Pc [.ref (B + a0)] (zWl B D aC aS M)) (zQi B D aC post) 0 0 (zAb B) := by
  refine z_met (own := "MailChain$Entry") (lv0 := [(0, .ref (B + a0))]) (by decide) rfl (Nat.le_of_ble_eq_true rfl) rfl ?_
  intro p e s m below meth c fx hr hlo
  delta Wp_En_hasSoundFields at h
  refine a_aload_n fx 0 d_En_hasSoundFields_0 rfl rfl ?_
  refine a_getI fx (T := F_En) (j := 1) (hk := hk0) (ht := ht0) (ht2 := by decide) (hc := rfl) (hin := u_in_En) (hj := by decide) (hj2 := by decide) (hf := rfl) (hT := rfl) (hw := w_82) (hd := d_En_hasSoundFields_1) (kk := ?_)
  refine a_if_lt fx 57 d_En_hasSoundFields_4 rfl (fun hc => ?_) (fun hc => ?_)
  · have h := h.1 hc
    refine a_iconst (v := 0) fx d_En_hasSoundFields_57 rfl ?_
    exact a_zret fx hlo hr rfl h d_En_hasSoundFields_58
  · have h := h.2 hc
    refine a_aload_n fx 0 d_En_hasSoundFields_7 rfl rfl ?_
    refine a_getI fx (T := F_En) (j := 1) (hk := hk0) (ht := ht0) (ht2 := by decide) (hc := rfl) (hin := u_in_En) (hj := by decide) (hj2 := by decide) (hf := rfl) (hT := rfl) (hw := w_82) (hd := d_En_hasSoundFields_8) (kk := ?_)
    refine a_iconst (v := 2) fx d_En_hasSoundFields_11 rfl ?_
    refine a_icmp_gt fx 57 d_En_hasSoundFields_12 rfl (fun hc => ?_) (fun hc => ?_)
    · have h := h.1 hc
      refine a_iconst (v := 0) fx d_En_hasSoundFields_57 rfl ?_
      exact a_zret fx hlo hr rfl h d_En_hasSoundFields_58
    · have h := h.2 hc
      refine a_aload_n fx 0 d_En_hasSoundFields_15 rfl rfl ?_
      refine a_getI fx (T := F_En) (j := 2) (hk := hk0) (ht := ht0) (ht2 := by decide) (hc := rfl) (hin := u_in_En) (hj := by decide) (hj2 := by decide) (hf := rfl) (hT := rfl) (hw := w_86) (hd := d_En_hasSoundFields_16) (kk := ?_)
      refine a_if_lt fx 57 d_En_hasSoundFields_19 rfl (fun hc => ?_) (fun hc => ?_)
      · have h := h.1 hc
        refine a_iconst (v := 0) fx d_En_hasSoundFields_57 rfl ?_
        exact a_zret fx hlo hr rfl h d_En_hasSoundFields_58
      · have h := h.2 hc
        refine a_aload_n fx 0 d_En_hasSoundFields_22 rfl rfl ?_
        refine a_getI fx (T := F_En) (j := 2) (hk := hk0) (ht := ht0) (ht2 := by decide) (hc := rfl) (hin := u_in_En) (hj := by decide) (hj2 := by decide) (hf := rfl) (hT := rfl) (hw := w_86) (hd := d_En_hasSoundFields_23) (kk := ?_)
        refine a_sipush (v := 4095) fx d_En_hasSoundFields_26 rfl ?_
        refine a_icmp_gt fx 57 d_En_hasSoundFields_29 rfl (fun hc => ?_) (fun hc => ?_)
        · have h := h.1 hc
          refine a_iconst (v := 0) fx d_En_hasSoundFields_57 rfl ?_
          exact a_zret fx hlo hr rfl h d_En_hasSoundFields_58
        · have h := h.2 hc
          refine a_aload_n fx 0 d_En_hasSoundFields_32 rfl rfl ?_
          refine a_getI fx (T := F_En) (j := 3) (hk := hk0) (ht := ht0) (ht2 := by decide) (hc := rfl) (hin := u_in_En) (hj := by decide) (hj2 := by decide) (hf := rfl) (hT := rfl) (hw := w_90) (hd := d_En_hasSoundFields_33) (kk := ?_)
          refine a_if_lt fx 57 d_En_hasSoundFields_36 rfl (fun hc => ?_) (fun hc => ?_)
          · have h := h.1 hc
            refine a_iconst (v := 0) fx d_En_hasSoundFields_57 rfl ?_
            exact a_zret fx hlo hr rfl h d_En_hasSoundFields_58
          · have h := h.2 hc
            refine a_aload_n fx 0 d_En_hasSoundFields_39 rfl rfl ?_
            refine a_getI fx (T := F_En) (j := 4) (hk := hk0) (ht := ht0) (ht2 := by decide) (hc := rfl) (hin := u_in_En) (hj := by decide) (hj2 := by decide) (hf := rfl) (hT := rfl) (hw := w_94) (hd := d_En_hasSoundFields_40) (kk := ?_)
            refine a_if_lt fx 57 d_En_hasSoundFields_43 rfl (fun hc => ?_) (fun hc => ?_)
            · have h := h.1 hc
              refine a_iconst (v := 0) fx d_En_hasSoundFields_57 rfl ?_
              exact a_zret fx hlo hr rfl h d_En_hasSoundFields_58
            · have h := h.2 hc
              refine a_aload_n fx 0 d_En_hasSoundFields_46 rfl rfl ?_
              refine a_getI fx (T := F_En) (j := 5) (hk := hk0) (ht := ht0) (ht2 := by decide) (hc := rfl) (hin := u_in_En) (hj := by decide) (hj2 := by decide) (hf := rfl) (hT := rfl) (hw := w_98) (hd := d_En_hasSoundFields_47) (kk := ?_)
              refine a_if_lt fx 57 d_En_hasSoundFields_50 rfl (fun hc => ?_) (fun hc => ?_)
              · have h := h.1 hc
                refine a_iconst (v := 0) fx d_En_hasSoundFields_57 rfl ?_
                exact a_zret fx hlo hr rfl h d_En_hasSoundFields_58
              · have h := h.2 hc
                refine a_iconst (v := 1) fx d_En_hasSoundFields_53 rfl ?_
                refine a_goto fx 58 d_En_hasSoundFields_54 rfl ?_
                exact a_zret fx hlo hr rfl h d_En_hasSoundFields_58
set_option maxRecDepth 100000 in
set_option maxHeartbeats 4000000 in
theorem Met_En_isName (l : Launch) (B : Nat) (D : va_G) (aC : Nat → ClassId) (aS : Nat → Nat) {a0 : Nat} {i1 : Int32} {i2 : Int32} {M : zM} {post : Int32 → zM → Prop} (hk0 : a0 < N0) (ht0 : tg a0 = 2) (h : Wp_En_isName a0 i1 i2 M post) : Met l y_En_isName (wo y_En_isName b_En_isName 4 (some FieldType.boolean)) { frames := 1, cells := 0, slots := 0, locals := 21 } (va_Pc [.ref (B + a0), .int i1, .int i2] (zWl B D aC aS M)) (zQi B D aC post) 0 0 (zAb B) := by
  refine z_met (own := "MailChain$Entry") (lv0 := [(0, .ref (B + a0)), (1, .int i1), (2, .int i2)]) (by decide) rfl (Nat.le_of_ble_eq_true rfl) rfl ?_
  intro p e s m below meth c fx hr hlo
  delta Wp_En_isName at h
  refine a_iload_n fx 2 d_En_isName_0 rfl rfl ?_
  refine a_iload_n fx 1 d_En_isName_1 rfl rfl ?_
  refine a_isub fx d_En_isName_2 ?_
  refine a_topi (fun x1 ex1 => ?_)
  have h := h x1 ex1
  refine a_istore_n (lv2 := [(3, .int x1), (0, .ref (B + a0)), (1, .int i1), (2, .int i2)]) fx d_En_isName_3 rfl (by decide) rfl ?_
  refine a_iload_n fx 0 d_En_isName_4 rfl rfl ?_
  refine a_iconst (v := 1) fx d_En_isName_5 rfl ?_
  refine a_icmp_ne fx 28 d_En_isName_6 rfl (fun hc => ?_) (fun hc => ?_)
  · have h := h.1 hc
    refine a_iload_n fx 0 d_En_isName_28 rfl rfl ?_
    refine a_iconst (v := 2) fx d_En_isName_29 rfl ?_
    refine a_icmp_ne fx 67 d_En_isName_30 rfl (fun hc => ?_) (fun hc => ?_)
    · have h := h.1 hc
      refine a_iload_n fx 0 d_En_isName_67 rfl rfl ?_
      refine a_iconst (v := 2) fx d_En_isName_68 rfl ?_
      refine a_icmp_le fx 76 d_En_isName_69 rfl (fun hc => ?_) (fun hc => ?_)
      · have h := h.1 hc
        refine a_iconst (v := 0) fx d_En_isName_76 rfl ?_
        exact a_zret fx hlo hr rfl h d_En_isName_77
      · have h := h.2 hc
        refine a_iconst (v := 1) fx d_En_isName_72 rfl ?_
        refine a_goto fx 77 d_En_isName_73 rfl ?_
        exact a_zret fx hlo hr rfl h d_En_isName_77
    · have h := h.2 hc
      refine a_aload_n fx 1 d_En_isName_33 rfl rfl ?_
      refine a_getS fx (T := F_En) (j := 0) (hk := hk0) (ht := ht0) (ht2 := by decide) (hc := rfl) (hin := u_in_En) (hj := by decide) (hj2 := by decide) (hf := rfl) (n9 := 1) (hfo := rfl) (hT := rfl) (hw := w_78) (hd := d_En_isName_34) (kk := ?_)
      refine a_iload_n fx 2 d_En_isName_37 rfl rfl ?_
      refine a_calli (rest := []) (a_runV (As := [.int i1]) fx cv_Ro_at w_977 (Met_Ro_at l B D aC aS (hk0 := (lo_2_0 hk0 ht0).1) (ht0 := (lo_2_0 hk0 ht0).2) h) (lo_2_0 hk0 ht0).1 (lo_2_0 hk0 ht0).2 (by decide) rfl rfl rfl (Nat.le_of_ble_eq_true rfl) rfl rfl ⟨Nat.le_of_ble_eq_true rfl, Nat.le_of_ble_eq_true rfl⟩ d_En_isName_38 ⟨Nat.le_of_ble_eq_true rfl, Nat.le_of_ble_eq_true rfl⟩) (fun x3 M2 h => ?_)
      refine a_bipush (v := 46) fx d_En_isName_41 rfl ?_
      refine a_icmp_ne fx 61 d_En_isName_43 rfl (fun hc => ?_) (fun hc => ?_)
      · have h := h.1 hc
        refine a_iconst (v := 1) fx d_En_isName_61 rfl ?_
        refine a_goto fx 66 d_En_isName_62 rfl ?_
        exact a_zret fx hlo hr rfl h d_En_isName_66
      · have h := h.2 hc
        refine a_aload_n fx 1 d_En_isName_46 rfl rfl ?_
        refine a_getS fx (T := F_En) (j := 0) (hk := hk0) (ht := ht0) (ht2 := by decide) (hc := rfl) (hin := u_in_En) (hj := by decide) (hj2 := by decide) (hf := rfl) (n9 := 1) (hfo := rfl) (hT := rfl) (hw := w_78) (hd := d_En_isName_47) (kk := ?_)
        refine a_iload_n fx 2 d_En_isName_50 rfl rfl ?_
        refine a_iconst (v := 1) fx d_En_isName_51 rfl ?_
        refine a_iadd fx d_En_isName_52 ?_
        refine a_calli (rest := []) (a_runV (As := [.int (i1 + 1)]) fx cv_Ro_at w_977 (Met_Ro_at l B D aC aS (hk0 := (lo_2_0 hk0 ht0).1) (ht0 := (lo_2_0 hk0 ht0).2) h) (lo_2_0 hk0 ht0).1 (lo_2_0 hk0 ht0).2 (by decide) rfl rfl rfl (Nat.le_of_ble_eq_true rfl) rfl rfl ⟨Nat.le_of_ble_eq_true rfl, Nat.le_of_ble_eq_true rfl⟩ d_En_isName_53 ⟨Nat.le_of_ble_eq_true rfl, Nat.le_of_ble_eq_true rfl⟩) (fun x5 M4 h => ?_)
        refine a_bipush (v := 46) fx d_En_isName_56 rfl ?_
        refine a_icmp_eq fx 65 d_En_isName_58 rfl (fun hc => ?_) (fun hc => ?_)
        · have h := h.1 hc
          refine a_iconst (v := 0) fx d_En_isName_65 rfl ?_
          exact a_zret fx hlo hr rfl h d_En_isName_66
        · have h := h.2 hc
          refine a_iconst (v := 1) fx d_En_isName_61 rfl ?_
          refine a_goto fx 66 d_En_isName_62 rfl ?_
          exact a_zret fx hlo hr rfl h d_En_isName_66
  · have h := h.2 hc
    refine a_aload_n fx 1 d_En_isName_9 rfl rfl ?_
    refine a_getS fx (T := F_En) (j := 0) (hk := hk0) (ht := ht0) (ht2 := by decide) (hc := rfl) (hin := u_in_En) (hj := by decide) (hj2 := by decide) (hf := rfl) (n9 := 1) (hfo := rfl) (hT := rfl) (hw := w_78) (hd := d_En_isName_10) (kk := ?_)
    refine a_iload_n fx 2 d_En_isName_13 rfl rfl ?_
    refine a_calli (rest := []) (a_runV (As := [.int i1]) fx cv_Ro_at w_977 (Met_Ro_at l B D aC aS (hk0 := (lo_2_0 hk0 ht0).1) (ht0 := (lo_2_0 hk0 ht0).2) h) (lo_2_0 hk0 ht0).1 (lo_2_0 hk0 ht0).2 (by decide) rfl rfl rfl (Nat.le_of_ble_eq_true rfl) rfl rfl ⟨Nat.le_of_ble_eq_true rfl, Nat.le_of_ble_eq_true rfl⟩ d_En_isName_14 ⟨Nat.le_of_ble_eq_true rfl, Nat.le_of_ble_eq_true rfl⟩) (fun x7 M6 h => ?_)
    refine a_bipush (v := 46) fx d_En_isName_17 rfl ?_
    refine a_icmp_eq fx 26 d_En_isName_19 rfl (fun hc => ?_) (fun hc => ?_)
    · have h := h.1 hc
      refine a_iconst (v := 0) fx d_En_isName_26 rfl ?_
      exact a_zret fx hlo hr rfl h d_En_isName_27
    · have h := h.2 hc
      refine a_iconst (v := 1) fx d_En_isName_22 rfl ?_
      refine a_goto fx 27 d_En_isName_23 rfl ?_
      exact a_zret fx hlo hr rfl h d_En_isName_27
set_option maxRecDepth 100000 in
set_option maxHeartbeats 4000000 in
theorem Met_En_hasSoundPath (l : Launch) (B : Nat) (D : va_G) (aC : Nat → ClassId) (aS : Nat → Nat) {a0 : Nat} {M : zM} {post : Int32 → zM → Prop} (hk0 : a0 < N0) (ht0 : tg a0 = 2) (h : Wp_En_hasSoundPath a0 M post) : Met l y_En_hasSoundPath (wo y_En_hasSoundPath b_En_hasSoundPath 4 (some FieldType.boolean)) { frames := 2, cells := 0, slots := 0, locals := 44 } (va_Pc [.ref (B + a0)] (zWl B D aC aS M)) (zQi B D aC post) 0 0 (zAb B) := by
  refine z_met (own := "MailChain$Entry") (lv0 := [(0, .ref (B + a0))]) (by decide) rfl (Nat.le_of_ble_eq_true rfl) rfl ?_
  intro p e s m below meth c fx hr hlo
  delta Wp_En_hasSoundPath at h
  have h := h (fun v1 v2 M => zAt p l e { frames := 2, cells := 0, slots := 0, locals := 44 } s m ([.ref (B + a0)] : List Value).toArray below meth c 0 0 (MQ below (zQi B D aC post) ([.ref (B + a0)] : List Value).toArray s 0 0 (zAb B)) B D aC 4 4 [(0, .ref (B + a0)), (1, .int v1), (2, .int v2)] [] M)
  have h := h (fun v1 v2 v3 M => zAt p l e { frames := 2, cells := 0, slots := 0, locals := 44 } s m ([.ref (B + a0)] : List Value).toArray below meth c 0 0 (MQ below (zQi B D aC post) ([.ref (B + a0)] : List Value).toArray s 0 0 (zAb B)) B D aC 4 45 [(0, .ref (B + a0)), (1, .int v1), (2, .int v2), (3, .int v3)] [] M)
  have h := h (by
    intro v1 v2 M h
    refine a_iload_n fx 2 d_En_hasSoundPath_4 rfl rfl ?_
    refine a_aload_n fx 0 d_En_hasSoundPath_5 rfl rfl ?_
    refine a_getS fx (T := F_En) (j := 0) (hk := hk0) (ht := ht0) (ht2 := by decide) (hc := rfl) (hin := u_in_En) (hj := by decide) (hj2 := by decide) (hf := rfl) (n9 := 1) (hfo := rfl) (hT := rfl) (hw := w_78) (hd := d_En_hasSoundPath_6) (kk := ?_)
    refine a_getIN fx (T := F_Ro) (j := 1) (hk := (lo_2_0 hk0 ht0).1) (ht := (lo_2_0 hk0 ht0).2) (ht2 := by decide) (hc := rfl) (hin := u_in_Ro) (hj := by decide) (hj2 := by decide) (hf := rfl) (hT := rfl) (q9 := 6) (hw := rfl) (hd := d_En_hasSoundPath_9) (kk := ?_)
    refine a_icmp_ge fx 61 d_En_hasSoundPath_12 rfl (fun hc => ?_) (fun hc => ?_)
    · have h := h.1 hc
      refine a_aload_n fx 0 d_En_hasSoundPath_61 rfl rfl ?_
      refine a_iload_n fx 1 d_En_hasSoundPath_62 rfl rfl ?_
      refine a_aload_n fx 0 d_En_hasSoundPath_63 rfl rfl ?_
      refine a_getS fx (T := F_En) (j := 0) (hk := hk0) (ht := ht0) (ht2 := by decide) (hc := rfl) (hin := u_in_En) (hj := by decide) (hj2 := by decide) (hf := rfl) (n9 := 1) (hfo := rfl) (hT := rfl) (hw := w_78) (hd := d_En_hasSoundPath_64) (kk := ?_)
      refine a_getIN fx (T := F_Ro) (j := 1) (hk := (lo_2_0 hk0 ht0).1) (ht := (lo_2_0 hk0 ht0).2) (ht2 := by decide) (hc := rfl) (hin := u_in_Ro) (hj := by decide) (hj2 := by decide) (hf := rfl) (hT := rfl) (q9 := 6) (hw := rfl) (hd := d_En_hasSoundPath_67) (kk := ?_)
      refine a_calli (rest := []) (a_runV (As := [.int v1, .int (M.1 (a0 + 1) 1)]) fx cv_En_isName w_978 (Met_En_isName l B D aC aS (hk0 := hk0) (ht0 := ht0) h) hk0 ht0 (by decide) rfl rfl rfl (Nat.le_of_ble_eq_true rfl) rfl rfl ⟨Nat.le_of_ble_eq_true rfl, Nat.le_of_ble_eq_true rfl⟩ d_En_hasSoundPath_70 ⟨Nat.le_of_ble_eq_true rfl, Nat.le_of_ble_eq_true rfl⟩) (fun x2 M1 h => ?_)
      exact a_zret fx hlo hr h.1 h.2 d_En_hasSoundPath_73
    · have h := h.2 hc
      refine a_aload_n fx 0 d_En_hasSoundPath_15 rfl rfl ?_
      refine a_getS fx (T := F_En) (j := 0) (hk := hk0) (ht := ht0) (ht2 := by decide) (hc := rfl) (hin := u_in_En) (hj := by decide) (hj2 := by decide) (hf := rfl) (n9 := 1) (hfo := rfl) (hT := rfl) (hw := w_78) (hd := d_En_hasSoundPath_16) (kk := ?_)
      refine a_iload_n fx 2 d_En_hasSoundPath_19 rfl rfl ?_
      refine a_calli (rest := []) (a_runV (As := [.int v2]) fx cv_Ro_at w_977 (Met_Ro_at l B D aC aS (hk0 := (lo_2_0 hk0 ht0).1) (ht0 := (lo_2_0 hk0 ht0).2) h) (lo_2_0 hk0 ht0).1 (lo_2_0 hk0 ht0).2 (by decide) rfl rfl rfl (Nat.le_of_ble_eq_true rfl) rfl rfl ⟨Nat.le_of_ble_eq_true rfl, Nat.le_of_ble_eq_true rfl⟩ d_En_hasSoundPath_20 ⟨Nat.le_of_ble_eq_true rfl, Nat.le_of_ble_eq_true rfl⟩) (fun x4 M3 h => ?_)
      refine a_istore_n (lv2 := [(3, .int x4), (0, .ref (B + a0)), (1, .int v1), (2, .int v2)]) fx d_En_hasSoundPath_23 rfl (by decide) rfl ?_
      refine a_iload_n fx 0 d_En_hasSoundPath_24 rfl rfl ?_
      refine a_if_eq fx 43 d_En_hasSoundPath_25 rfl (fun hc => ?_) (fun hc => ?_)
      · have h := h.1 hc
        refine a_iconst (v := 0) fx d_En_hasSoundPath_43 rfl ?_
        exact a_zret fx hlo hr rfl h d_En_hasSoundPath_44
      · have h := h.2 hc
        refine a_iload_n fx 0 d_En_hasSoundPath_28 rfl rfl ?_
        refine a_bipush (v := 47) fx d_En_hasSoundPath_29 rfl ?_
        refine a_icmp_ne fx 45 d_En_hasSoundPath_31 rfl (fun hc => ?_) (fun hc => ?_)
        · have h := h.1 hc
          refine a_sub [1, 2, 3, 0] rfl ?_
          exact h
        · have h := h.2 hc
          refine a_aload_n fx 1 d_En_hasSoundPath_34 rfl rfl ?_
          refine a_iload_n fx 2 d_En_hasSoundPath_35 rfl rfl ?_
          refine a_iload_n fx 3 d_En_hasSoundPath_36 rfl rfl ?_
          refine a_calli (rest := []) (a_runV (As := [.int v1, .int v2]) fx cv_En_isName w_978 (Met_En_isName l B D aC aS (hk0 := hk0) (ht0 := ht0) h) hk0 ht0 (by decide) rfl rfl rfl (Nat.le_of_ble_eq_true rfl) rfl rfl ⟨Nat.le_of_ble_eq_true rfl, Nat.le_of_ble_eq_true rfl⟩ d_En_hasSoundPath_37 ⟨Nat.le_of_ble_eq_true rfl, Nat.le_of_ble_eq_true rfl⟩) (fun x6 M5 h => ?_)
          refine a_if_ne fx 45 d_En_hasSoundPath_40 rfl (fun hc => ?_) (fun hc => ?_)
          · have h := h.1 hc
            refine a_sub [1, 2, 3, 0] rfl ?_
            exact h
          · have h := h.2 hc
            refine a_iconst (v := 0) fx d_En_hasSoundPath_43 rfl ?_
            exact a_zret fx hlo hr rfl h d_En_hasSoundPath_44)
  have h := h (by
    intro v1 v2 v3 M h
    refine a_iload_n fx 3 d_En_hasSoundPath_45 rfl rfl ?_
    refine a_bipush (v := 47) fx d_En_hasSoundPath_46 rfl ?_
    refine a_icmp_ne fx 55 d_En_hasSoundPath_48 rfl (fun hc => ?_) (fun hc => ?_)
    · have h := h.1 hc
      obtain ⟨x7, ex7⟩ : ∃ z : Int32, z = v2 + 1 := ⟨_, rfl⟩
      have h := h x7 ex7
      refine a_iinc (lv2 := [(2, .int x7), (0, .ref (B + a0)), (1, .int v1), (3, .int v3)]) fx 2 d_En_hasSoundPath_55 rfl ex7.symm (by decide) rfl ?_
      refine a_goto fx 4 d_En_hasSoundPath_58 rfl ?_
      refine a_sub [1, 2, 0] rfl ?_
      exact h
    · have h := h.2 hc
      refine a_iload_n fx 2 d_En_hasSoundPath_51 rfl rfl ?_
      refine a_iconst (v := 1) fx d_En_hasSoundPath_52 rfl ?_
      refine a_iadd fx d_En_hasSoundPath_53 ?_
      refine a_topi (fun x8 ex8 => ?_)
      have h := h x8 ex8
      refine a_istore_n (lv2 := [(1, .int x8), (0, .ref (B + a0)), (2, .int v2), (3, .int v3)]) fx d_En_hasSoundPath_54 rfl (by decide) rfl ?_
      obtain ⟨x9, ex9⟩ : ∃ z : Int32, z = v2 + 1 := ⟨_, rfl⟩
      have h := h x9 ex9
      refine a_iinc (lv2 := [(2, .int x9), (1, .int x8), (0, .ref (B + a0)), (3, .int v3)]) fx 2 d_En_hasSoundPath_55 rfl ex9.symm (by decide) rfl ?_
      refine a_goto fx 4 d_En_hasSoundPath_58 rfl ?_
      refine a_sub [2, 1, 0] rfl ?_
      exact h)
  refine a_iconst (v := 0) fx d_En_hasSoundPath_0 rfl ?_
  refine a_istore_n (lv2 := [(1, .int 0), (0, .ref (B + a0))]) fx d_En_hasSoundPath_1 rfl (by decide) rfl ?_
  refine a_iconst (v := 0) fx d_En_hasSoundPath_2 rfl ?_
  refine a_istore_n (lv2 := [(2, .int 0), (1, .int 0), (0, .ref (B + a0))]) fx d_En_hasSoundPath_3 rfl (by decide) rfl ?_
  refine a_sub [2, 1, 0] rfl ?_
  exact h
set_option maxRecDepth 100000 in
set_option maxHeartbeats 4000000 in
theorem Met_En_parentSize (l : Launch) (B : Nat) (D : va_G) (aC : Nat → ClassId) (aS : Nat → Nat) {a0 : Nat} {M : zM} {post : Int32 → zM → Prop} (hk0 : a0 < N0) (ht0 : tg a0 = 2) (h : Wp_En_parentSize a0 M post) : Met l y_En_parentSize (wo y_En_parentSize b_En_parentSize 3 (some FieldType.int)) { frames := 1, cells := 0, slots := 0, locals := 21 } (va_Pc [.ref (B + a0)] (zWl B D aC aS M)) (zQi B D aC post) 0 0 (zAb B) := by
  refine z_met (own := "MailChain$Entry") (lv0 := [(0, .ref (B + a0))]) (by decide) rfl (Nat.le_of_ble_eq_true rfl) rfl ?_
  intro p e s m below meth c fx hr hlo
  delta Wp_En_parentSize at h
  have h := h (fun v1 v2 M => zAt p l e { frames := 1, cells := 0, slots := 0, locals := 21 } s m ([.ref (B + a0)] : List Value).toArray below meth c 0 0 (MQ below (zQi B D aC post) ([.ref (B + a0)] : List Value).toArray s 0 0 (zAb B)) B D aC 3 4 [(0, .ref (B + a0)), (1, .int v1), (2, .int v2)] [] M)
  have h := h (by
    intro v1 v2 M h
    refine a_iload_n fx 2 d_En_parentSize_4 rfl rfl ?_
    refine a_aload_n fx 0 d_En_parentSize_5 rfl rfl ?_
    refine a_getS fx (T := F_En) (j := 0) (hk := hk0) (ht := ht0) (ht2 := by decide) (hc := rfl) (hin := u_in_En) (hj := by decide) (hj2 := by decide) (hf := rfl) (n9 := 1) (hfo := rfl) (hT := rfl) (hw := w_78) (hd := d_En_parentSize_6) (kk := ?_)
    refine a_getIN fx (T := F_Ro) (j := 1) (hk := (lo_2_0 hk0 ht0).1) (ht := (lo_2_0 hk0 ht0).2) (ht2 := by decide) (hc := rfl) (hin := u_in_Ro) (hj := by decide) (hj2 := by decide) (hf := rfl) (hT := rfl) (q9 := 6) (hw := rfl) (hd := d_En_parentSize_9) (kk := ?_)
    refine a_icmp_ge fx 36 d_En_parentSize_12 rfl (fun hc => ?_) (fun hc => ?_)
    · have h := h.1 hc
      refine a_iload_n fx 1 d_En_parentSize_36 rfl rfl ?_
      exact a_iret fx hlo hr h d_En_parentSize_37
    · have h := h.2 hc
      refine a_aload_n fx 0 d_En_parentSize_15 rfl rfl ?_
      refine a_getS fx (T := F_En) (j := 0) (hk := hk0) (ht := ht0) (ht2 := by decide) (hc := rfl) (hin := u_in_En) (hj := by decide) (hj2 := by decide) (hf := rfl) (n9 := 1) (hfo := rfl) (hT := rfl) (hw := w_78) (hd := d_En_parentSize_16) (kk := ?_)
      refine a_iload_n fx 2 d_En_parentSize_19 rfl rfl ?_
      refine a_calli (rest := []) (a_runV (As := [.int v2]) fx cv_Ro_at w_977 (Met_Ro_at l B D aC aS (hk0 := (lo_2_0 hk0 ht0).1) (ht0 := (lo_2_0 hk0 ht0).2) h) (lo_2_0 hk0 ht0).1 (lo_2_0 hk0 ht0).2 (by decide) rfl rfl rfl (Nat.le_of_ble_eq_true rfl) rfl rfl ⟨Nat.le_of_ble_eq_true rfl, Nat.le_of_ble_eq_true rfl⟩ d_En_parentSize_20 ⟨Nat.le_of_ble_eq_true rfl, Nat.le_of_ble_eq_true rfl⟩) (fun x2 M1 h => ?_)
      refine a_bipush (v := 47) fx d_En_parentSize_23 rfl ?_
      refine a_icmp_ne fx 30 d_En_parentSize_25 rfl (fun hc => ?_) (fun hc => ?_)
      · have h := h.1 hc
        obtain ⟨x3, ex3⟩ : ∃ z : Int32, z = v2 + 1 := ⟨_, rfl⟩
        have h := h x3 ex3
        refine a_iinc (lv2 := [(2, .int x3), (0, .ref (B + a0)), (1, .int v1)]) fx 2 d_En_parentSize_30 rfl ex3.symm (by decide) rfl ?_
        refine a_goto fx 4 d_En_parentSize_33 rfl ?_
        refine a_sub [1, 2, 0] rfl ?_
        exact h
      · have h := h.2 hc
        refine a_iload_n fx 2 d_En_parentSize_28 rfl rfl ?_
        refine a_istore_n (lv2 := [(1, .int v2), (0, .ref (B + a0)), (2, .int v2)]) fx d_En_parentSize_29 rfl (by decide) rfl ?_
        obtain ⟨x4, ex4⟩ : ∃ z : Int32, z = v2 + 1 := ⟨_, rfl⟩
        have h := h x4 ex4
        refine a_iinc (lv2 := [(2, .int x4), (1, .int v2), (0, .ref (B + a0))]) fx 2 d_En_parentSize_30 rfl ex4.symm (by decide) rfl ?_
        refine a_goto fx 4 d_En_parentSize_33 rfl ?_
        refine a_sub [2, 1, 0] rfl ?_
        exact h)
  refine a_iconst (v := (-1)) fx d_En_parentSize_0 rfl ?_
  refine a_istore_n (lv2 := [(1, .int (-1)), (0, .ref (B + a0))]) fx d_En_parentSize_1 rfl (by decide) rfl ?_
  refine a_iconst (v := 0) fx d_En_parentSize_2 rfl ?_
  refine a_istore_n (lv2 := [(2, .int 0), (1, .int (-1)), (0, .ref (B + a0))]) fx d_En_parentSize_3 rfl (by decide) rfl ?_
  refine a_sub [2, 1, 0] rfl ?_
  exact h
set_option maxRecDepth 100000 in
set_option maxHeartbeats 4000000 in
theorem Met_Tr_wipe (l : Launch) (B : Nat) (D : va_G) (aC : Nat → ClassId) (aS : Nat → Nat) {a0 : Nat} {M : zM} {post : zM → Prop} (hk0 : a0 < N0) (ht0 : tg a0 = 3) (h : Wp_Tr_wipe a0 M post) : Met l y_Tr_wipe (wo y_Tr_wipe b_Tr_wipe 1 none) { frames := 1, cells := 0, slots := 0, locals := 20 } (va_Pc [.ref (B + a0)] (zWl B D aC aS M)) (zQv B D aC post) 0 0 (zAb B) := by
  refine z_met (own := "MailChain$Tree") (lv0 := [(0, .ref (B + a0))]) (by decide) rfl (Nat.le_of_ble_eq_true rfl) rfl ?_
  intro p e s m below meth c fx hr hlo
  delta Wp_Tr_wipe at h
  refine a_aload_n fx 0 d_Tr_wipe_0 rfl rfl ?_
  refine a_getS fx (T := F_Tr) (j := 1) (hk := hk0) (ht := ht0) (ht2 := by decide) (hc := rfl) (hin := u_in_Tr) (hj := by decide) (hj2 := by decide) (hf := rfl) (n9 := 125) (hfo := rfl) (hT := rfl) (hw := w_133) (hd := d_Tr_wipe_1) (kk := ?_)
  refine a_callv (rest := []) (a_runV (As := []) fx cv_Ro_wipe w_355 (Met_Ro_wipe l B D aC aS (hk0 := (lo_3_1 hk0 ht0).1) (ht0 := (lo_3_1 hk0 ht0).2) h) (lo_3_1 hk0 ht0).1 (lo_3_1 hk0 ht0).2 (by decide) rfl rfl rfl (Nat.le_of_ble_eq_true rfl) rfl rfl ⟨Nat.le_of_ble_eq_true rfl, Nat.le_of_ble_eq_true rfl⟩ d_Tr_wipe_4 ⟨Nat.le_of_ble_eq_true rfl, Nat.le_of_ble_eq_true rfl⟩) (fun M1 h => ?_)
  refine a_aload_n fx 0 d_Tr_wipe_7 rfl rfl ?_
  refine a_iconst (v := 0) fx d_Tr_wipe_8 rfl ?_
  refine a_putI fx (T := F_Tr) (ty0 := t_Tr) (j := 2) (hk := hk0) (ht := ht0) (ht2 := by decide) (hc := rfl) (hin := u_in_Tr) (hty := t_Tr_ok) (hnm := n_Tr) (hj := by decide) (hj2 := by decide) (hf := rfl) (hT := rfl) (hfin := rfl) (hn := rfl) (hfit := rfl) (hw := w_135) (hd := d_Tr_wipe_9) (kk := a_mem (fun M2 eM2 => ?_))
  have h := h M2 eM2
  refine a_aload_n fx 0 d_Tr_wipe_12 rfl rfl ?_
  refine a_iconst (v := 0) fx d_Tr_wipe_13 rfl ?_
  refine a_putI fx (T := F_Tr) (ty0 := t_Tr) (j := 3) (hk := hk0) (ht := ht0) (ht2 := by decide) (hc := rfl) (hin := u_in_Tr) (hty := t_Tr_ok) (hnm := n_Tr) (hj := by decide) (hj2 := by decide) (hf := rfl) (hT := rfl) (hfin := rfl) (hn := rfl) (hfit := rfl) (hw := w_138) (hd := d_Tr_wipe_14) (kk := a_mem (fun M3 eM3 => ?_))
  have h := h M3 eM3
  exact a_vret fx hlo hr h d_Tr_wipe_17
set_option maxRecDepth 100000 in
set_option maxHeartbeats 4000000 in
theorem Met_Tr_has (l : Launch) (B : Nat) (D : va_G) (aC : Nat → ClassId) (aS : Nat → Nat) {a0 : Nat} {i1 : Int32} {M : zM} {post : Int32 → zM → Prop} (hk0 : a0 < N0) (ht0 : tg a0 = 3) (h : Wp_Tr_has a0 i1 M post) : Met l y_Tr_has (wo y_Tr_has b_Tr_has 2 (some FieldType.boolean)) { frames := 0, cells := 0, slots := 0, locals := 0 } (va_Pc [.ref (B + a0), .int i1] (zWl B D aC aS M)) (zQi B D aC post) 0 0 (zAb B) := by
  refine z_met (own := "MailChain$Tree") (lv0 := [(0, .ref (B + a0)), (1, .int i1)]) (by decide) rfl (Nat.le_of_ble_eq_true rfl) rfl ?_
  intro p e s m below meth c fx hr hlo
  delta Wp_Tr_has at h
  refine a_iload_n fx 1 d_Tr_has_0 rfl rfl ?_
  refine a_if_lt fx 16 d_Tr_has_1 rfl (fun hc => ?_) (fun hc => ?_)
  · have h := h.1 hc
    refine a_iconst (v := 0) fx d_Tr_has_16 rfl ?_
    exact a_zret fx hlo hr rfl h d_Tr_has_17
  · have h := h.2 hc
    refine a_iload_n fx 1 d_Tr_has_4 rfl rfl ?_
    refine a_aload_n fx 0 d_Tr_has_5 rfl rfl ?_
    refine a_getI fx (T := F_Tr) (j := 2) (hk := hk0) (ht := ht0) (ht2 := by decide) (hc := rfl) (hin := u_in_Tr) (hj := by decide) (hj2 := by decide) (hf := rfl) (hT := rfl) (hw := w_135) (hd := d_Tr_has_6) (kk := ?_)
    refine a_icmp_ge fx 16 d_Tr_has_9 rfl (fun hc => ?_) (fun hc => ?_)
    · have h := h.1 hc
      refine a_iconst (v := 0) fx d_Tr_has_16 rfl ?_
      exact a_zret fx hlo hr rfl h d_Tr_has_17
    · have h := h.2 hc
      refine a_iconst (v := 1) fx d_Tr_has_12 rfl ?_
      refine a_goto fx 17 d_Tr_has_13 rfl ?_
      exact a_zret fx hlo hr rfl h d_Tr_has_17
set_option maxRecDepth 100000 in
set_option maxHeartbeats 4000000 in
theorem Met_Tr_draft (l : Launch) (B : Nat) (D : va_G) (aC : Nat → ClassId) (aS : Nat → Nat) {a0 : Nat} {M : zM} {post : Nat → zM → Prop} (hk0 : a0 < N0) (ht0 : tg a0 = 3) (h : Wp_Tr_draft a0 M post) : Met l y_Tr_draft (wo y_Tr_draft b_Tr_draft 1 (some (FieldType.object "MailChain$Entry"))) { frames := 0, cells := 0, slots := 0, locals := 0 } (va_Pc [.ref (B + a0)] (zWl B D aC aS M)) (zQr B D aC post) 0 0 (zAb B) := by
  refine z_met (own := "MailChain$Tree") (lv0 := [(0, .ref (B + a0))]) (by decide) rfl (Nat.le_of_ble_eq_true rfl) rfl ?_
  intro p e s m below meth c fx hr hlo
  delta Wp_Tr_draft at h
  refine a_aload_n fx 0 d_Tr_draft_0 rfl rfl ?_
  refine a_getS fx (T := F_Tr) (j := 0) (hk := hk0) (ht := ht0) (ht2 := by decide) (hc := rfl) (hin := u_in_Tr) (hj := by decide) (hj2 := by decide) (hf := rfl) (n9 := 1) (hfo := rfl) (hT := rfl) (hw := w_131) (hd := d_Tr_draft_1) (kk := ?_)
  refine a_aload_n fx 0 d_Tr_draft_4 rfl rfl ?_
  refine a_getI fx (T := F_Tr) (j := 2) (hk := hk0) (ht := ht0) (ht2 := by decide) (hc := rfl) (hin := u_in_Tr) (hj := by decide) (hj2 := by decide) (hf := rfl) (hT := rfl) (hw := w_135) (hd := d_Tr_draft_5) (kk := ?_)
  obtain ⟨hin, h⟩ := h
  refine a_aald fx (lo_3_0 hk0 ht0).1 (lo_3_0 hk0 ht0).2 hin d_Tr_draft_8 ?_
  refine a_topr (fun r1 er1 => ?_)
  obtain ⟨hkr1, htr1, h⟩ := h r1 er1
  exact a_aret fx hlo hr h d_Tr_draft_9
set_option maxRecDepth 100000 in
set_option maxHeartbeats 4000000 in
theorem Met_Tr_isTarget (l : Launch) (B : Nat) (D : va_G) (aC : Nat → ClassId) (aS : Nat → Nat) {a0 : Nat} {i1 : Int32} {i2 : Int32} {M : zM} {post : Int32 → zM → Prop} (hk0 : a0 < N0) (ht0 : tg a0 = 1) (h : Wp_Tr_isTarget a0 i1 i2 M post) : Met l y_Tr_isTarget (wo y_Tr_isTarget b_Tr_isTarget 4 (some FieldType.boolean)) { frames := 1, cells := 0, slots := 0, locals := 21 } (va_Pc [.ref (B + a0), .int i1, .int i2] (zWl B D aC aS M)) (zQi B D aC post) 0 0 (zAb B) := by
  refine z_met (own := "MailChain$Tree") (lv0 := [(0, .ref (B + a0)), (1, .int i1), (2, .int i2)]) (by decide) rfl (Nat.le_of_ble_eq_true rfl) rfl ?_
  intro p e s m below meth c fx hr hlo
  delta Wp_Tr_isTarget at h
  have h := h (fun v3 M => zAt p l e { frames := 1, cells := 0, slots := 0, locals := 21 } s m ([.ref (B + a0), .int i1, .int i2] : List Value).toArray below meth c 0 0 (MQ below (zQi B D aC post) ([.ref (B + a0), .int i1, .int i2] : List Value).toArray s 0 0 (zAb B)) B D aC 4 19 [(0, .ref (B + a0)), (1, .int i1), (2, .int i2), (3, .int v3)] [] M)
  have h := h (by
    intro v3 M h
    refine a_iload_n fx 3 d_Tr_isTarget_19 rfl rfl ?_
    refine a_iload_n fx 2 d_Tr_isTarget_20 rfl rfl ?_
    refine a_icmp_ge fx 40 d_Tr_isTarget_21 rfl (fun hc => ?_) (fun hc => ?_)
    · have h := h.1 hc
      refine a_iconst (v := 1) fx d_Tr_isTarget_40 rfl ?_
      exact a_zret fx hlo hr rfl h d_Tr_isTarget_41
    · have h := h.2 hc
      refine a_aload_n fx 0 d_Tr_isTarget_24 rfl rfl ?_
      refine a_iload_n fx 3 d_Tr_isTarget_25 rfl rfl ?_
      refine a_calli (rest := []) (a_runV (As := [.int v3]) fx cv_Ro_at w_968 (Met_Ro_at l B D aC aS (hk0 := hk0) (ht0 := ht0) h) hk0 ht0 (by decide) rfl rfl rfl (Nat.le_of_ble_eq_true rfl) rfl rfl ⟨Nat.le_of_ble_eq_true rfl, Nat.le_of_ble_eq_true rfl⟩ d_Tr_isTarget_26 ⟨Nat.le_of_ble_eq_true rfl, Nat.le_of_ble_eq_true rfl⟩) (fun x2 M1 h => ?_)
      refine a_if_ne fx 34 d_Tr_isTarget_29 rfl (fun hc => ?_) (fun hc => ?_)
      · have h := h.1 hc
        obtain ⟨x3, ex3⟩ : ∃ z : Int32, z = v3 + 1 := ⟨_, rfl⟩
        have h := h x3 ex3
        refine a_iinc (lv2 := [(3, .int x3), (0, .ref (B + a0)), (1, .int i1), (2, .int i2)]) fx 3 d_Tr_isTarget_34 rfl ex3.symm (by decide) rfl ?_
        refine a_goto fx 19 d_Tr_isTarget_37 rfl ?_
        refine a_sub [1, 2, 3, 0] rfl ?_
        exact h
      · have h := h.2 hc
        refine a_iconst (v := 0) fx d_Tr_isTarget_32 rfl ?_
        exact a_zret fx hlo hr rfl h d_Tr_isTarget_33)
  refine a_iload_n fx 2 d_Tr_isTarget_0 rfl rfl ?_
  refine a_iload_n fx 1 d_Tr_isTarget_1 rfl rfl ?_
  refine a_isub fx d_Tr_isTarget_2 ?_
  refine a_iconst (v := 1) fx d_Tr_isTarget_3 rfl ?_
  refine a_icmp_lt fx 15 d_Tr_isTarget_4 rfl (fun hc => ?_) (fun hc => ?_)
  · have h := h.1 hc
    refine a_iconst (v := 0) fx d_Tr_isTarget_15 rfl ?_
    exact a_zret fx hlo hr rfl h d_Tr_isTarget_16
  · have h := h.2 hc
    refine a_iload_n fx 2 d_Tr_isTarget_7 rfl rfl ?_
    refine a_iload_n fx 1 d_Tr_isTarget_8 rfl rfl ?_
    refine a_isub fx d_Tr_isTarget_9 ?_
    refine a_bipush (v := 60) fx d_Tr_isTarget_10 rfl ?_
    refine a_icmp_le fx 17 d_Tr_isTarget_12 rfl (fun hc => ?_) (fun hc => ?_)
    · have h := h.1 hc
      refine a_iload_n fx 1 d_Tr_isTarget_17 rfl rfl ?_
      refine a_istore_n (lv2 := [(3, .int i1), (0, .ref (B + a0)), (1, .int i1), (2, .int i2)]) fx d_Tr_isTarget_18 rfl (by decide) rfl ?_
      refine a_sub [1, 2, 3, 0] rfl ?_
      exact h
    · have h := h.2 hc
      refine a_iconst (v := 0) fx d_Tr_isTarget_15 rfl ?_
      exact a_zret fx hlo hr rfl h d_Tr_isTarget_16
set_option maxRecDepth 100000 in
set_option maxHeartbeats 4000000 in
theorem Met_Tr_isBody (l : Launch) (B : Nat) (D : va_G) (aC : Nat → ClassId) (aS : Nat → Nat) {i0 : Int32} {a1 : Nat} {i2 : Int32} {i3 : Int32} {M : zM} {post : Int32 → zM → Prop} (hk1 : a1 < N0) (ht1 : tg a1 = 1) (h : Wp_Tr_isBody i0 a1 i2 i3 M post) : Met l y_Tr_isBody (wo y_Tr_isBody b_Tr_isBody 4 (some FieldType.boolean)) { frames := 2, cells := 0, slots := 0, locals := 44 } (va_Pc [.int i0, .ref (B + a1), .int i2, .int i3] (zWl B D aC aS M)) (zQi B D aC post) 0 0 (zAb B) := by
  refine z_met (own := "MailChain$Tree") (lv0 := [(0, .int i0), (1, .ref (B + a1)), (2, .int i2), (3, .int i3)]) (by decide) rfl (Nat.le_of_ble_eq_true rfl) rfl ?_
  intro p e s m below meth c fx hr hlo
  delta Wp_Tr_isBody at h
  refine a_iload_n fx 0 d_Tr_isBody_0 rfl rfl ?_
  refine a_if_ne fx 15 d_Tr_isBody_1 rfl (fun hc => ?_) (fun hc => ?_)
  · have h := h.1 hc
    refine a_iload_n fx 0 d_Tr_isBody_15 rfl rfl ?_
    refine a_iconst (v := 1) fx d_Tr_isBody_16 rfl ?_
    refine a_icmp_eq fx 29 d_Tr_isBody_17 rfl (fun hc => ?_) (fun hc => ?_)
    · have h := h.1 hc
      refine a_iconst (v := 1) fx d_Tr_isBody_29 rfl ?_
      refine a_goto fx 34 d_Tr_isBody_30 rfl ?_
      exact a_zret fx hlo hr rfl h d_Tr_isBody_34
    · have h := h.2 hc
      refine a_aload_n fx 1 d_Tr_isBody_20 rfl rfl ?_
      refine a_iload_n fx 2 d_Tr_isBody_21 rfl rfl ?_
      refine a_iload_n fx 3 d_Tr_isBody_22 rfl rfl ?_
      refine a_calli (rest := []) (a_runS (As := [.ref (B + a1), .int i2, .int i3]) fx  cv_Tr_isTarget w_965 (Met_Tr_isTarget l B D aC aS (hk0 := hk1) (ht0 := ht1) h) rfl rfl (Nat.le_of_ble_eq_true rfl) rfl rfl ⟨Nat.le_of_ble_eq_true rfl, Nat.le_of_ble_eq_true rfl⟩ d_Tr_isBody_23 ⟨Nat.le_of_ble_eq_true rfl, Nat.le_of_ble_eq_true rfl⟩) (fun x2 M1 h => ?_)
      refine a_if_eq fx 33 d_Tr_isBody_26 rfl (fun hc => ?_) (fun hc => ?_)
      · have h := h.1 hc
        refine a_iconst (v := 0) fx d_Tr_isBody_33 rfl ?_
        exact a_zret fx hlo hr rfl h d_Tr_isBody_34
      · have h := h.2 hc
        refine a_iconst (v := 1) fx d_Tr_isBody_29 rfl ?_
        refine a_goto fx 34 d_Tr_isBody_30 rfl ?_
        exact a_zret fx hlo hr rfl h d_Tr_isBody_34
  · have h := h.2 hc
    refine a_iload_n fx 2 d_Tr_isBody_4 rfl rfl ?_
    refine a_iload_n fx 3 d_Tr_isBody_5 rfl rfl ?_
    refine a_icmp_ne fx 13 d_Tr_isBody_6 rfl (fun hc => ?_) (fun hc => ?_)
    · have h := h.1 hc
      refine a_iconst (v := 0) fx d_Tr_isBody_13 rfl ?_
      exact a_zret fx hlo hr rfl h d_Tr_isBody_14
    · have h := h.2 hc
      refine a_iconst (v := 1) fx d_Tr_isBody_9 rfl ?_
      refine a_goto fx 14 d_Tr_isBody_10 rfl ?_
      exact a_zret fx hlo hr rfl h d_Tr_isBody_14
set_option maxRecDepth 100000 in
set_option maxHeartbeats 4000000 in
theorem Met_Tr_placeOf (l : Launch) (B : Nat) (D : va_G) (aC : Nat → ClassId) (aS : Nat → Nat) {a0 : Nat} {a1 : Nat} {i2 : Int32} {M : zM} {post : Int32 → zM → Prop} (hk0 : a0 < N0) (ht0 : tg a0 = 3) (hk1 : a1 < N0) (ht1 : tg a1 = 1) (h : Wp_Tr_placeOf a0 a1 i2 M post) : Met l y_Tr_placeOf (wo y_Tr_placeOf b_Tr_placeOf 4 (some FieldType.int)) { frames := 1, cells := 0, slots := 0, locals := 24 } (va_Pc [.ref (B + a0), .ref (B + a1), .int i2] (zWl B D aC aS M)) (zQi B D aC post) 0 0 (zAb B) := by
  refine z_met (own := "MailChain$Tree") (lv0 := [(0, .ref (B + a0)), (1, .ref (B + a1)), (2, .int i2)]) (by decide) rfl (Nat.le_of_ble_eq_true rfl) rfl ?_
  intro p e s m below meth c fx hr hlo
  delta Wp_Tr_placeOf at h
  have h := h (fun v3 M => zAt p l e { frames := 1, cells := 0, slots := 0, locals := 24 } s m ([.ref (B + a0), .ref (B + a1), .int i2] : List Value).toArray below meth c 0 0 (MQ below (zQi B D aC post) ([.ref (B + a0), .ref (B + a1), .int i2] : List Value).toArray s 0 0 (zAb B)) B D aC 4 2 [(0, .ref (B + a0)), (1, .ref (B + a1)), (2, .int i2), (3, .int v3)] [] M)
  have h := h (by
    intro v3 M h
    refine a_iload_n fx 3 d_Tr_placeOf_2 rfl rfl ?_
    refine a_aload_n fx 0 d_Tr_placeOf_3 rfl rfl ?_
    refine a_getI fx (T := F_Tr) (j := 2) (hk := hk0) (ht := ht0) (ht2 := by decide) (hc := rfl) (hin := u_in_Tr) (hj := by decide) (hj2 := by decide) (hf := rfl) (hT := rfl) (hw := w_135) (hd := d_Tr_placeOf_4) (kk := ?_)
    refine a_icmp_ge fx 33 d_Tr_placeOf_7 rfl (fun hc => ?_) (fun hc => ?_)
    · have h := h.1 hc
      refine a_iload_n fx 3 d_Tr_placeOf_33 rfl rfl ?_
      exact a_iret fx hlo hr h d_Tr_placeOf_34
    · have h := h.2 hc
      refine a_aload_n fx 0 d_Tr_placeOf_10 rfl rfl ?_
      refine a_getS fx (T := F_Tr) (j := 0) (hk := hk0) (ht := ht0) (ht2 := by decide) (hc := rfl) (hin := u_in_Tr) (hj := by decide) (hj2 := by decide) (hf := rfl) (n9 := 1) (hfo := rfl) (hT := rfl) (hw := w_131) (hd := d_Tr_placeOf_11) (kk := ?_)
      refine a_iload_n fx 3 d_Tr_placeOf_14 rfl rfl ?_
      obtain ⟨hin, h⟩ := h
      refine a_aald fx (lo_3_0 hk0 ht0).1 (lo_3_0 hk0 ht0).2 hin d_Tr_placeOf_15 ?_
      refine a_topr (fun r1 er1 => ?_)
      obtain ⟨hkr1, htr1, h⟩ := h r1 er1
      refine a_getSN fx (T := F_En) (j := 0) (hk := hkr1) (ht := htr1) (ht2 := by decide) (hc := rfl) (hin := u_in_En) (hj := by decide) (hj2 := by decide) (hf := rfl) (n9 := 1) (hfo := rfl) (hT := rfl) (q9 := 11) (hw := rfl) (hd := d_Tr_placeOf_16) (kk := ?_)
      refine a_aload_n fx 1 d_Tr_placeOf_19 rfl rfl ?_
      refine a_iload_n fx 2 d_Tr_placeOf_20 rfl rfl ?_
      refine a_calli (rest := []) (a_runV (As := [.ref (B + a1), .int i2]) fx cv_Ro_order w_994 (Met_Ro_order l B D aC aS (hk0 := (lo_2_0 hkr1 htr1).1) (ht0 := (lo_2_0 hkr1 htr1).2) (hk1 := hk1) (ht1 := ht1) h) (lo_2_0 hkr1 htr1).1 (lo_2_0 hkr1 htr1).2 (by decide) rfl rfl rfl (Nat.le_of_ble_eq_true rfl) rfl rfl ⟨Nat.le_of_ble_eq_true rfl, Nat.le_of_ble_eq_true rfl⟩ d_Tr_placeOf_21 ⟨Nat.le_of_ble_eq_true rfl, Nat.le_of_ble_eq_true rfl⟩) (fun x3 M2 h => ?_)
      refine a_if_ge fx 33 d_Tr_placeOf_24 rfl (fun hc => ?_) (fun hc => ?_)
      · have h := h.1 hc
        refine a_iload_n fx 3 d_Tr_placeOf_33 rfl rfl ?_
        exact a_iret fx hlo hr h d_Tr_placeOf_34
      · have h := h.2 hc
        obtain ⟨x4, ex4⟩ : ∃ z : Int32, z = v3 + 1 := ⟨_, rfl⟩
        have h := h x4 ex4
        refine a_iinc (lv2 := [(3, .int x4), (0, .ref (B + a0)), (1, .ref (B + a1)), (2, .int i2)]) fx 3 d_Tr_placeOf_27 rfl ex4.symm (by decide) rfl ?_
        refine a_goto fx 2 d_Tr_placeOf_30 rfl ?_
        refine a_sub [1, 2, 3, 0] rfl ?_
        exact h)
  refine a_iconst (v := 0) fx d_Tr_placeOf_0 rfl ?_
  refine a_istore_n (lv2 := [(3, .int 0), (0, .ref (B + a0)), (1, .ref (B + a1)), (2, .int i2)]) fx d_Tr_placeOf_1 rfl (by decide) rfl ?_
  refine a_sub [1, 2, 3, 0] rfl ?_
  exact h
set_option maxRecDepth 100000 in
set_option maxHeartbeats 4000000 in
theorem Met_Tr_hasParentOf (l : Launch) (B : Nat) (D : va_G) (aC : Nat → ClassId) (aS : Nat → Nat) {a0 : Nat} {a1 : Nat} {M : zM} {post : Int32 → zM → Prop} (hk0 : a0 < N0) (ht0 : tg a0 = 3) (hk1 : a1 < N0) (ht1 : tg a1 = 2) (h : Wp_Tr_hasParentOf a0 a1 M post) : Met l y_Tr_hasParentOf (wo y_Tr_hasParentOf b_Tr_hasParentOf 4 (some FieldType.boolean)) { frames := 2, cells := 0, slots := 0, locals := 47 } (va_Pc [.ref (B + a0), .ref (B + a1)] (zWl B D aC aS M)) (zQi B D aC post) 0 0 (zAb B) := by
  refine z_met (own := "MailChain$Tree") (lv0 := [(0, .ref (B + a0)), (1, .ref (B + a1))]) (by decide) rfl (Nat.le_of_ble_eq_true rfl) rfl ?_
  intro p e s m below meth c fx hr hlo
  delta Wp_Tr_hasParentOf at h
  refine a_aload_n fx 1 d_Tr_hasParentOf_0 rfl rfl ?_
  refine a_calli (rest := []) (a_runV (As := []) fx cv_En_parentSize w_986 (Met_En_parentSize l B D aC aS (hk0 := hk1) (ht0 := ht1) h) hk1 ht1 (by decide) rfl rfl rfl (Nat.le_of_ble_eq_true rfl) rfl rfl ⟨Nat.le_of_ble_eq_true rfl, Nat.le_of_ble_eq_true rfl⟩ d_Tr_hasParentOf_1 ⟨Nat.le_of_ble_eq_true rfl, Nat.le_of_ble_eq_true rfl⟩) (fun x2 M1 h => ?_)
  refine a_istore_n (lv2 := [(2, .int x2), (0, .ref (B + a0)), (1, .ref (B + a1))]) fx d_Tr_hasParentOf_4 rfl (by decide) rfl ?_
  refine a_iload_n fx 0 d_Tr_hasParentOf_5 rfl rfl ?_
  refine a_iconst (v := (-1)) fx d_Tr_hasParentOf_6 rfl ?_
  refine a_icmp_ne fx 12 d_Tr_hasParentOf_7 rfl (fun hc => ?_) (fun hc => ?_)
  · have h := h.1 hc
    refine a_aload_n fx 1 d_Tr_hasParentOf_12 rfl rfl ?_
    refine a_aload_n fx 2 d_Tr_hasParentOf_13 rfl rfl ?_
    refine a_getSN fx (T := F_En) (j := 0) (hk := hk1) (ht := ht1) (ht2 := by decide) (hc := rfl) (hin := u_in_En) (hj := by decide) (hj2 := by decide) (hf := rfl) (n9 := 1) (hfo := rfl) (hT := rfl) (q9 := 11) (hw := rfl) (hd := d_Tr_hasParentOf_14) (kk := ?_)
    refine a_iload_n fx 0 d_Tr_hasParentOf_17 rfl rfl ?_
    refine a_calli (rest := []) (a_runV (As := [.ref (B + (a1 + 1)), .int x2]) fx cv_Tr_placeOf w_990 (Met_Tr_placeOf l B D aC aS (hk0 := hk0) (ht0 := ht0) (hk1 := (lo_2_0 hk1 ht1).1) (ht1 := (lo_2_0 hk1 ht1).2) h) hk0 ht0 (by decide) rfl rfl rfl (Nat.le_of_ble_eq_true rfl) rfl rfl ⟨Nat.le_of_ble_eq_true rfl, Nat.le_of_ble_eq_true rfl⟩ d_Tr_hasParentOf_18 ⟨Nat.le_of_ble_eq_true rfl, Nat.le_of_ble_eq_true rfl⟩) (fun x4 M3 h => ?_)
    refine a_istore_n (lv2 := [(3, .int x4), (2, .int x2), (0, .ref (B + a0)), (1, .ref (B + a1))]) fx d_Tr_hasParentOf_21 rfl (by decide) rfl ?_
    refine a_aload_n fx 2 d_Tr_hasParentOf_22 rfl rfl ?_
    refine a_iload_n fx 0 d_Tr_hasParentOf_23 rfl rfl ?_
    refine a_calli (rest := []) (a_runV (As := [.int x4]) fx cv_Tr_has w_995 (Met_Tr_has l B D aC aS (hk0 := hk0) (ht0 := ht0) h) hk0 ht0 (by decide) rfl rfl rfl (Nat.le_of_ble_eq_true rfl) rfl rfl ⟨Nat.le_of_ble_eq_true rfl, Nat.le_of_ble_eq_true rfl⟩ d_Tr_hasParentOf_24 ⟨Nat.le_of_ble_eq_true rfl, Nat.le_of_ble_eq_true rfl⟩) (fun x6 M5 h => ?_)
    refine a_if_eq fx 66 d_Tr_hasParentOf_27 rfl (fun hc => ?_) (fun hc => ?_)
    · have h := h.1 hc
      refine a_iconst (v := 0) fx d_Tr_hasParentOf_66 rfl ?_
      exact a_zret fx hlo hr rfl h d_Tr_hasParentOf_67
    · have h := h.2 hc
      refine a_aload_n fx 2 d_Tr_hasParentOf_30 rfl rfl ?_
      refine a_getS fx (T := F_Tr) (j := 0) (hk := hk0) (ht := ht0) (ht2 := by decide) (hc := rfl) (hin := u_in_Tr) (hj := by decide) (hj2 := by decide) (hf := rfl) (n9 := 1) (hfo := rfl) (hT := rfl) (hw := w_131) (hd := d_Tr_hasParentOf_31) (kk := ?_)
      refine a_iload_n fx 0 d_Tr_hasParentOf_34 rfl rfl ?_
      obtain ⟨hin, h⟩ := h
      refine a_aald fx (lo_3_0 hk0 ht0).1 (lo_3_0 hk0 ht0).2 hin d_Tr_hasParentOf_35 ?_
      refine a_topr (fun r7 er7 => ?_)
      obtain ⟨hkr7, htr7, h⟩ := h r7 er7
      refine a_getIN fx (T := F_En) (j := 1) (hk := hkr7) (ht := htr7) (ht2 := by decide) (hc := rfl) (hin := u_in_En) (hj := by decide) (hj2 := by decide) (hf := rfl) (hT := rfl) (q9 := 14) (hw := rfl) (hd := d_Tr_hasParentOf_36) (kk := ?_)
      refine a_if_ne fx 66 d_Tr_hasParentOf_39 rfl (fun hc => ?_) (fun hc => ?_)
      · have h := h.1 hc
        refine a_iconst (v := 0) fx d_Tr_hasParentOf_66 rfl ?_
        exact a_zret fx hlo hr rfl h d_Tr_hasParentOf_67
      · have h := h.2 hc
        refine a_aload_n fx 2 d_Tr_hasParentOf_42 rfl rfl ?_
        refine a_getS fx (T := F_Tr) (j := 0) (hk := hk0) (ht := ht0) (ht2 := by decide) (hc := rfl) (hin := u_in_Tr) (hj := by decide) (hj2 := by decide) (hf := rfl) (n9 := 1) (hfo := rfl) (hT := rfl) (hw := w_131) (hd := d_Tr_hasParentOf_43) (kk := ?_)
        refine a_iload_n fx 0 d_Tr_hasParentOf_46 rfl rfl ?_
        obtain ⟨hin, h⟩ := h
        refine a_aald fx (lo_3_0 hk0 ht0).1 (lo_3_0 hk0 ht0).2 hin d_Tr_hasParentOf_47 ?_
        refine a_topr (fun r8 er8 => ?_)
        obtain ⟨hkr8, htr8, h⟩ := h r8 er8
        refine a_getSN fx (T := F_En) (j := 0) (hk := hkr8) (ht := htr8) (ht2 := by decide) (hc := rfl) (hin := u_in_En) (hj := by decide) (hj2 := by decide) (hf := rfl) (n9 := 1) (hfo := rfl) (hT := rfl) (q9 := 11) (hw := rfl) (hd := d_Tr_hasParentOf_48) (kk := ?_)
        refine a_aload_n fx 3 d_Tr_hasParentOf_51 rfl rfl ?_
        refine a_getSN fx (T := F_En) (j := 0) (hk := hk1) (ht := ht1) (ht2 := by decide) (hc := rfl) (hin := u_in_En) (hj := by decide) (hj2 := by decide) (hf := rfl) (n9 := 1) (hfo := rfl) (hT := rfl) (q9 := 11) (hw := rfl) (hd := d_Tr_hasParentOf_52) (kk := ?_)
        refine a_iload_n fx 1 d_Tr_hasParentOf_55 rfl rfl ?_
        refine a_calli (rest := []) (a_runV (As := [.ref (B + (a1 + 1)), .int x2]) fx cv_Ro_order w_994 (Met_Ro_order l B D aC aS (hk0 := (lo_2_0 hkr8 htr8).1) (ht0 := (lo_2_0 hkr8 htr8).2) (hk1 := (lo_2_0 hk1 ht1).1) (ht1 := (lo_2_0 hk1 ht1).2) h) (lo_2_0 hkr8 htr8).1 (lo_2_0 hkr8 htr8).2 (by decide) rfl rfl rfl (Nat.le_of_ble_eq_true rfl) rfl rfl ⟨Nat.le_of_ble_eq_true rfl, Nat.le_of_ble_eq_true rfl⟩ d_Tr_hasParentOf_56 ⟨Nat.le_of_ble_eq_true rfl, Nat.le_of_ble_eq_true rfl⟩) (fun x10 M9 h => ?_)
        refine a_if_ne fx 66 d_Tr_hasParentOf_59 rfl (fun hc => ?_) (fun hc => ?_)
        · have h := h.1 hc
          refine a_iconst (v := 0) fx d_Tr_hasParentOf_66 rfl ?_
          exact a_zret fx hlo hr rfl h d_Tr_hasParentOf_67
        · have h := h.2 hc
          refine a_iconst (v := 1) fx d_Tr_hasParentOf_62 rfl ?_
          refine a_goto fx 67 d_Tr_hasParentOf_63 rfl ?_
          exact a_zret fx hlo hr rfl h d_Tr_hasParentOf_67
  · have h := h.2 hc
    refine a_iconst (v := 1) fx d_Tr_hasParentOf_10 rfl ?_
    exact a_zret fx hlo hr rfl h d_Tr_hasParentOf_11
