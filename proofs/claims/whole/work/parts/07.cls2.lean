/-- MailChain.Box.take(LMailChain$Row;)I -/
def Wp_Bo_take (a0 : Nat) (a1 : Nat) (M : zM) (post : Int32 → zM → Prop) : Prop := ∀ K36 : zM → Prop, (∀ (M : zM), (vp_in (M.1 (a0 + 5) 0) (ln (a0 + 4)) ∧ (((M.1 (a0 + 4) ((M.1 (a0 + 5) 0)).toNatClampNeg) = (-1) → ((((M.1 a1 1) - (M.1 (a0 + 5) 4)) = (M.1 (a0 + 5) 2) → (Wp_Ro_sum a1 (M.1 (a0 + 5) 4) (M.1 a1 1) M (fun x4 M3 => (((lg_cmp (((x4).toInt64) &&& 4294967295) (M3.2.1 (a0 + 5) 3)) = 0 → (Wp_Bo_keep a0 (M3.1 (a0 + 5) 0) (M3.1 (a0 + 5) 1) a1 (M3.1 (a0 + 5) 4) M3 (fun M5 => (post 0 M5)))) ∧ (¬ (lg_cmp (((x4).toInt64) &&& 4294967295) (M3.2.1 (a0 + 5) 3)) = 0 → (post 5 M3)))))) ∧ (¬ ((M.1 a1 1) - (M.1 (a0 + 5) 4)) = (M.1 (a0 + 5) 2) → (post 4 M)))) ∧ (¬ (M.1 (a0 + 4) ((M.1 (a0 + 5) 0)).toNatClampNeg) = (-1) → (post 3 M)))) → K36 M) → (Wp_Pl_read (a0 + 5) a1 M (fun x2 M1 => ((¬ x2 = 0 → (((M1.1 a0 6) ≤ 0 → (K36 M1)) ∧ (¬ (M1.1 a0 6) ≤ 0 → (((M1.1 (a0 + 5) 1) = (M1.1 a0 4) → (K36 M1)) ∧ (¬ (M1.1 (a0 + 5) 1) = (M1.1 a0 4) → (post 2 M1)))))) ∧ (x2 = 0 → (post 1 M1)))))
/-- MailChain.Box.isWhole()Z -/
def Wp_Bo_isWhole (a0 : Nat) (M : zM) (post : Int32 → zM → Prop) : Prop := (((M.1 a0 6) ≤ 0 → (post 0 M)) ∧ (¬ (M.1 a0 6) ≤ 0 → ((¬ (M.1 a0 6) = (M.1 a0 4) → (post 0 M)) ∧ ((M.1 a0 6) = (M.1 a0 4) → (post 1 M)))))
/-- MailChain.Box.join(LMailChain$Row;)Z -/
def Wp_Bo_join (a0 : Nat) (a1 : Nat) (M : zM) (post : Int32 → zM → Prop) : Prop := ∀ K6 : Int32 → zM → Prop, (∀ (v2 : Int32) (M : zM), (((M.1 a0 4) < v2 → ((48000 < (M.1 a0 5) → (post 0 M)) ∧ (¬ 48000 < (M.1 a0 5) → (post 1 M)))) ∧ (¬ (M.1 a0 4) < v2 → (vp_in v2 (ln (a0 + 3)) ∧ (vp_in v2 (ln (a0 + 3)) ∧ (vp_in v2 (ln (a0 + 4)) ∧ (Wp_Ro_putRange a1 (a0 + 1) (M.1 (a0 + 3) (v2).toNatClampNeg) ((M.1 (a0 + 3) (v2).toNatClampNeg) + (M.1 (a0 + 4) (v2).toNatClampNeg)) M (fun M2 => (∀ x3 : Int32, x3 = v2 + 1 → (K6 x3 M2))))))))) → K6 v2 M) → (Wp_Ro_wipe a1 M (fun M1 => (K6 1 M1)))
/-- MailChain.Squeezer.forget()V -/
def Wp_Sq_forget (a0 : Nat) (M : zM) (post : zM → Prop) : Prop := (∀ M1 : zM, M1 = zI M a0 4 257 → (Wp_JArrays_fillx (a0 + 1) 0 257 (-1) M1 (fun M2 => (post M2))))
/-- MailChain.Squeezer.begin(I)V -/
def Wp_Sq_begin (a0 : Nat) (i1 : Int32) (M : zM) (post : zM → Prop) : Prop := (∀ M1 : zM, M1 = zI M a0 3 i1 → (∀ M2 : zM, M2 = zI M1 a0 5 9 → (∀ M3 : zM, M3 = zI M2 a0 6 0 → (∀ M4 : zM, M4 = zI M3 a0 7 0 → (∀ M5 : zM, M5 = zI M4 a0 8 0 → (Wp_Sq_forget a0 M5 (fun M6 => (post M6))))))))
/-- MailChain.Squeezer.childOf(II)I -/
def Wp_Sq_childOf (a0 : Nat) (i1 : Int32) (i2 : Int32) (M : zM) (post : Int32 → zM → Prop) : Prop := ∀ K10 : Int32 → Int32 → zM → Prop, (∀ (v3 : Int32) (v4 : Int32) (M : zM), ((256 ≤ v4 → (post v3 M)) ∧ (¬ 256 ≤ v4 → ((v3 = (-1) → (post v3 M)) ∧ (¬ v3 = (-1) → (vp_in v3 (ln (a0 + 3)) ∧ (((M.1 (a0 + 3) (v3).toNatClampNeg) = i2 → (post v3 M)) ∧ (¬ (M.1 (a0 + 3) (v3).toNatClampNeg) = i2 → (vp_in v3 (ln (a0 + 2)) ∧ (∀ x2 : Int32, x2 = (M.1 (a0 + 2) (v3).toNatClampNeg) → (∀ x3 : Int32, x3 = v4 + 1 → (K10 x2 x3 M))))))))))) → K10 v3 v4 M) → (vp_in i1 (ln (a0 + 1)) ∧ (∀ x1 : Int32, x1 = (M.1 (a0 + 1) (i1).toNatClampNeg) → (K10 x1 0 M)))
/-- MailChain.Squeezer.putBits(ILMailChain$Row;)V -/
def Wp_Sq_putBits (a0 : Nat) (i1 : Int32) (a2 : Nat) (M : zM) (post : zM → Prop) : Prop := ∀ K38 : zM → Prop, (∀ (M : zM), (((M.1 a0 8) < 8 → (post M)) ∧ (¬ (M.1 a0 8) < 8 → (Wp_Ro_put a2 (M.1 a0 7) M (fun M4 => (∀ M5 : zM, M5 = zI M4 a0 7 ((((M4.1 a0 7)).toUInt32 >>> (((8 : Int32)).toUInt32 &&& Int32.toUInt32 31)).toInt32) → (∀ M6 : zM, M6 = zI M5 a0 8 ((M5.1 a0 8) - 8) → (K38 M6))))))) → K38 M) → (∀ M1 : zM, M1 = zI M a0 6 ((M.1 a0 6) + 1) → (∀ M2 : zM, M2 = zI M1 a0 7 ((M1.1 a0 7) ||| (i1 <<< ((M1.1 a0 8) &&& 31))) → (∀ M3 : zM, M3 = zI M2 a0 8 ((M2.1 a0 8) + (M2.1 a0 5)) → (K38 M3))))
/-- MailChain.Squeezer.changeWidth(ILMailChain$Row;)V -/
def Wp_Sq_changeWidth (a0 : Nat) (i1 : Int32) (a2 : Nat) (M : zM) (post : zM → Prop) : Prop := ∀ K12 : Int32 → Int32 → zM → Prop, (∀ (v3 : Int32) (v4 : Int32) (M : zM), ((v3 ≤ v4 → (∀ M2 : zM, M2 = zI M a0 6 0 → (∀ M3 : zM, M3 = zI M2 a0 5 i1 → (post M3)))) ∧ (¬ v3 ≤ v4 → (Wp_Sq_putBits a0 0 a2 M (fun M4 => (∀ x5 : Int32, x5 = v4 + 1 → (K12 v3 x5 M4)))))) → K12 v3 v4 M) → (∀ x1 : Int32, x1 = ((-(M.1 a0 6)) &&& 7) → (K12 x1 0 M))
/-- MailChain.Squeezer.putCode(ILMailChain$Row;)V -/
def Wp_Sq_putCode (a0 : Nat) (i1 : Int32) (a2 : Nat) (M : zM) (post : zM → Prop) : Prop := (((M.1 a0 4) ≤ (1 <<< ((M.1 a0 5) &&& 31)) → (Wp_Sq_putBits a0 i1 a2 M (fun M1 => (post M1)))) ∧ (¬ (M.1 a0 4) ≤ (1 <<< ((M.1 a0 5) &&& 31)) → (((M.1 a0 3) ≤ (M.1 a0 5) → (Wp_Sq_putBits a0 i1 a2 M (fun M2 => (post M2)))) ∧ (¬ (M.1 a0 3) ≤ (M.1 a0 5) → (Wp_Sq_changeWidth a0 ((M.1 a0 5) + 1) a2 M (fun M3 => (Wp_Sq_putBits a0 i1 a2 M3 (fun M4 => (post M4)))))))))
/-- MailChain.Squeezer.learn(IILMailChain$Row;)V -/
def Wp_Sq_learn (a0 : Nat) (i1 : Int32) (i2 : Int32) (a3 : Nat) (M : zM) (post : zM → Prop) : Prop := (((M.1 a0 4) < (1 <<< ((M.1 a0 3) &&& 31)) → ((16384 ≤ (M.1 a0 4) → (post M)) ∧ (¬ 16384 ≤ (M.1 a0 4) → (vp_in (M.1 a0 4) (ln (a0 + 1)) ∧ (∀ M1 : zM, M1 = zI M (a0 + 1) ((M.1 a0 4)).toNatClampNeg (-1) → (vp_in (M1.1 a0 4) (ln (a0 + 3)) ∧ (∀ M2 : zM, M2 = zI M1 (a0 + 3) ((M1.1 a0 4)).toNatClampNeg i2 → (vp_in i1 (ln (a0 + 1)) ∧ (vp_in (M2.1 a0 4) (ln (a0 + 2)) ∧ (∀ M3 : zM, M3 = zI M2 (a0 + 2) ((M2.1 a0 4)).toNatClampNeg (M2.1 (a0 + 1) (i1).toNatClampNeg) → (vp_in i1 (ln (a0 + 1)) ∧ (∀ M4 : zM, M4 = zI M3 (a0 + 1) (i1).toNatClampNeg (M3.1 a0 4) → (∀ M5 : zM, M5 = zI M4 a0 4 ((M4.1 a0 4) + 1) → (post M5)))))))))))))) ∧ (¬ (M.1 a0 4) < (1 <<< ((M.1 a0 3) &&& 31)) → (Wp_Sq_putCode a0 256 a3 M (fun M6 => (Wp_Sq_changeWidth a0 9 a3 M6 (fun M7 => (Wp_Sq_forget a0 M7 (fun M8 => (post M8)))))))))
/-- MailChain.Squeezer.squeeze(LMailChain$Row;ILMailChain$Row;)V -/
def Wp_Sq_squeeze (a0 : Nat) (a1 : Nat) (i2 : Int32) (a3 : Nat) (M : zM) (post : zM → Prop) : Prop := ∀ K41 : Int32 → Int32 → zM → Prop, ∀ K117 : zM → Prop, (∀ (v4 : Int32) (v5 : Int32) (M : zM), (((M.1 a1 1) ≤ v5 → ((v4 = (-1) → (K117 M)) ∧ (¬ v4 = (-1) → (Wp_Sq_putCode a0 v4 a3 M (fun M8 => (K117 M8)))))) ∧ (¬ (M.1 a1 1) ≤ v5 → (Wp_Ro_at a1 v5 M (fun x10 M9 => (Wp_Sq_childOf a0 v4 x10 M9 (fun x12 M11 => ((¬ x12 = (-1) → (∀ x13 : Int32, x13 = v5 + 1 → (K41 x12 x13 M11))) ∧ (x12 = (-1) → (Wp_Sq_putCode a0 v4 a3 M11 (fun M14 => (Wp_Sq_learn a0 v4 x10 a3 M14 (fun M15 => (∀ x16 : Int32, x16 = v5 + 1 → (K41 x10 x16 M15)))))))))))))) → K41 v4 v5 M) → (∀ (M : zM), (((M.1 a0 8) ≤ 0 → (post M)) ∧ (¬ (M.1 a0 8) ≤ 0 → (Wp_Ro_put a3 (M.1 a0 7) M (fun M17 => (post M17))))) → K117 M) → (Wp_Ro_wipe a3 M (fun M1 => (Wp_Ro_put a3 31 M1 (fun M2 => (Wp_Ro_put a3 157 M2 (fun M3 => (Wp_Ro_put a3 (128 + i2) M3 (fun M4 => (Wp_Sq_begin a0 i2 M4 (fun M5 => (Wp_Ro_at a1 0 M5 (fun x7 M6 => (K41 x7 1 M6)))))))))))))
/-- MailChain.isWidth(I)Z -/
def Wp_Mc_isWidth (i0 : Int32) (M : zM) (post : Int32 → zM → Prop) : Prop := ((i0 < 9 → (post 0 M)) ∧ (¬ i0 < 9 → ((16 < i0 → (post 0 M)) ∧ (¬ 16 < i0 → (post 1 M)))))
/-- MailChain.Expander.begin()V -/
def Wp_Ex_begin (a0 : Nat) (M : zM) (post : zM → Prop) : Prop := (∀ M1 : zM, M1 = zI M a0 3 257 → (∀ M2 : zM, M2 = zI M1 a0 4 9 → (∀ M3 : zM, M3 = zI M2 a0 5 0 → (∀ M4 : zM, M4 = zI M3 a0 6 3 → (post M4)))))
/-- MailChain.Expander.changeWidth(I)V -/
def Wp_Ex_changeWidth (a0 : Nat) (i1 : Int32) (M : zM) (post : zM → Prop) : Prop := (∀ M1 : zM, M1 = zI M a0 6 ((M.1 a0 6) + ((((M.1 a0 5) + 7) / 8) * (M.1 a0 4))) → (∀ M2 : zM, M2 = zI M1 a0 5 0 → (∀ M3 : zM, M3 = zI M2 a0 4 i1 → (post M3))))
/-- MailChain.Expander.readCode(LMailChain$Row;)I -/
def Wp_Ex_readCode (a0 : Nat) (a1 : Nat) (M : zM) (post : Int32 → zM → Prop) : Prop := ∀ K34 : zM → Prop, (∀ (M : zM), (∀ x2 : Int32, x2 = ((8 * (M.1 a0 6)) + ((M.1 a0 5) * (M.1 a0 4))) → (((x2 + (M.1 a0 4)) ≤ (8 * (M.1 a1 1)) → (∀ M3 : zM, M3 = zI M a0 5 ((M.1 a0 5) + 1) → (∀ x4 : Int32, x4 = (x2 >>> (3 &&& 31)) → (Wp_Ro_at a1 x4 M3 (fun x6 M5 => (Wp_Ro_at a1 (x4 + 1) M5 (fun x8 M7 => (Wp_Ro_at a1 (x4 + 2) M7 (fun x10 M9 => (∀ x11 : Int32, x11 = ((x6 ||| (x8 <<< (8 &&& 31))) ||| ((if x10 < 0 then 0 else x10) <<< (16 &&& 31))) → (post ((((x11).toUInt32 >>> (((x2 &&& 7)).toUInt32 &&& Int32.toUInt32 31)).toInt32) &&& ((1 <<< ((M9.1 a0 4) &&& 31)) - 1)) M9))))))))))) ∧ (¬ (x2 + (M.1 a0 4)) ≤ (8 * (M.1 a1 1)) → (post (-1) M)))) → K34 M) → (((M.1 a0 3) ≤ (1 <<< ((M.1 a0 4) &&& 31)) → (K34 M)) ∧ (¬ (M.1 a0 3) ≤ (1 <<< ((M.1 a0 4) &&& 31)) → (((M.1 a0 2) ≤ (M.1 a0 4) → (K34 M)) ∧ (¬ (M.1 a0 2) ≤ (M.1 a0 4) → (Wp_Ex_changeWidth a0 ((M.1 a0 4) + 1) M (fun M1 => (K34 M1)))))))
/-- MailChain.Expander.tell(ILMailChain$Row;)Z -/
def Wp_Ex_tell (a0 : Nat) (i1 : Int32) (a2 : Nat) (M : zM) (post : Int32 → zM → Prop) : Prop := ∀ K24 : zM → Prop, ∀ K46 : Int32 → Int32 → zM → Prop, ∀ K72 : Int32 → Int32 → Int32 → zM → Prop, (∀ (M : zM), (∀ x1 : Int32, x1 = (M.1 a2 1) → ((256 ≤ i1 → (vp_in i1 (ln (a0 + 2)) ∧ (K46 x1 (M.1 (a0 + 2) (i1).toNatClampNeg) M))) ∧ (¬ 256 ≤ i1 → (K46 x1 1 M)))) → K24 M) → (∀ (v3 : Int32) (w0 : Int32) (M : zM), (Wp_Ro_room a2 M (fun x3 M2 => ((x3 < w0 → (post 0 M2)) ∧ (¬ x3 < w0 → (((M2.1 a0 3) < 16384 → (K72 v3 w0 0 M2)) ∧ (¬ (M2.1 a0 3) < 16384 → (post 0 M2))))))) → K46 v3 w0 M) → (∀ (v3 : Int32) (v4 : Int32) (v5 : Int32) (M : zM), ((v4 ≤ v5 → (vp_in (M.1 a0 3) (ln (a0 + 1)) ∧ (∀ M4 : zM, M4 = zI M (a0 + 1) ((M.1 a0 3)).toNatClampNeg v3 → (vp_in (M4.1 a0 3) (ln (a0 + 2)) ∧ (∀ M5 : zM, M5 = zI M4 (a0 + 2) ((M4.1 a0 3)).toNatClampNeg (v4 + 1) → (post 1 M5)))))) ∧ (¬ v4 ≤ v5 → ((256 ≤ i1 → (vp_in i1 (ln (a0 + 1)) ∧ (Wp_Ro_at a2 ((M.1 (a0 + 1) (i1).toNatClampNeg) + v5) M (fun x7 M6 => (Wp_Ro_put a2 x7 M6 (fun M8 => (∀ x9 : Int32, x9 = v5 + 1 → (K72 v3 v4 x9 M8)))))))) ∧ (¬ 256 ≤ i1 → (Wp_Ro_put a2 i1 M (fun M10 => (∀ x11 : Int32, x11 = v5 + 1 → (K72 v3 v4 x11 M10)))))))) → K72 v3 v4 v5 M) → ((i1 = 256 → (post 0 M)) ∧ (¬ i1 = 256 → ((i1 < 257 → (K24 M)) ∧ (¬ i1 < 257 → ((i1 < (M.1 a0 3) → (K24 M)) ∧ (¬ i1 < (M.1 a0 3) → (post 0 M)))))))
/-- MailChain.Expander.restart()V -/
def Wp_Ex_restart (a0 : Nat) (M : zM) (post : zM → Prop) : Prop := (Wp_Ex_changeWidth a0 9 M (fun M1 => (∀ M2 : zM, M2 = zI M1 a0 3 257 → (post M2))))
/-- MailChain.Expander.expand(LMailChain$Row;LMailChain$Row;)Z -/
def Wp_Ex_expand (a0 : Nat) (a1 : Nat) (a2 : Nat) (M : zM) (post : Int32 → zM → Prop) : Prop := ∀ K59 : Int32 → Int32 → zM → Prop, ∀ K89 : Int32 → Int32 → Int32 → zM → Prop, ∀ K110 : Int32 → Int32 → zM → Prop, ∀ K153 : Int32 → Int32 → zM → Prop, (∀ (v3 : Int32) (v4 : Int32) (M : zM), ((30000 ≤ v4 → (post 0 M)) ∧ (¬ 30000 ≤ v4 → ((¬ v3 = 0 → (K89 v3 v4 0 M)) ∧ (v3 = 0 → (((M.1 a0 3) < (1 <<< ((M.1 a0 2) &&& 31)) → (K89 v3 v4 0 M)) ∧ (¬ (M.1 a0 3) < (1 <<< ((M.1 a0 2) &&& 31)) → (K89 v3 v4 1 M))))))) → K59 v3 v4 M) → (∀ (v3 : Int32) (v4 : Int32) (w0 : Int32) (M : zM), ((¬ v3 = 0 → (K110 v4 w0 M)) ∧ (v3 = 0 → ((¬ w0 = 0 → (K110 v4 w0 M)) ∧ (w0 = 0 → (∀ M12 : zM, M12 = zI M a0 3 ((M.1 a0 3) + 1) → (K110 v4 w0 M12)))))) → K89 v3 v4 w0 M) → (∀ (v4 : Int32) (v5 : Int32) (M : zM), (Wp_Ex_readCode a0 a1 M (fun x14 M13 => ((¬ x14 = (-1) → ((v5 = 0 → (Wp_Ex_tell a0 x14 a2 M13 (fun x16 M15 => ((¬ x16 = 0 → (K153 v4 v5 M15)) ∧ (x16 = 0 → (post 0 M15)))))) ∧ (¬ v5 = 0 → ((x14 = 256 → (K153 v4 v5 M13)) ∧ (¬ x14 = 256 → (post 0 M13)))))) ∧ (x14 = (-1) → (post 1 M13))))) → K110 v4 v5 M) → (∀ (v4 : Int32) (v5 : Int32) (M : zM), ((v5 = 0 → (∀ x17 : Int32, x17 = v4 + 1 → (K59 v5 x17 M))) ∧ (¬ v5 = 0 → (Wp_Ex_restart a0 M (fun M18 => (∀ x19 : Int32, x19 = v4 + 1 → (K59 v5 x19 M18)))))) → K153 v4 v5 M) → (Wp_Ro_wipe a2 M (fun M1 => (Wp_Ro_at a1 2 M1 (fun x3 M2 => (∀ M4 : zM, M4 = zI M2 a0 2 (x3 - 128) → (Wp_Ro_at a1 0 M4 (fun x6 M5 => ((¬ x6 = 31 → (post 0 M5)) ∧ (x6 = 31 → (Wp_Ro_at a1 1 M5 (fun x8 M7 => ((¬ x8 = 157 → (post 0 M7)) ∧ (x8 = 157 → (Wp_Mc_isWidth (M7.1 a0 2) M7 (fun x10 M9 => ((¬ x10 = 0 → (Wp_Ex_begin a0 M9 (fun M11 => (K59 1 0 M11)))) ∧ (x10 = 0 → (post 0 M9))))))))))))))))))
/-- MailChain.Spelling.letter(I)I -/
def Wp_Sp_letter (i0 : Int32) (M : zM) (post : Int32 → zM → Prop) : Prop := ((¬ i0 = 0 → (post (32 + i0) M)) ∧ (i0 = 0 → (post 96 M)))
theorem d_Bo_take_0 : decode b_Bo_take 0 = .ok (.aload_n 0, 1) := by decide +kernel
theorem d_Bo_take_1 : decode b_Bo_take 1 = .ok (.getfield 37, 3) := by decide +kernel
theorem d_Bo_take_4 : decode b_Bo_take 4 = .ok (.aload_n 1, 1) := by decide +kernel
theorem d_Bo_take_5 : decode b_Bo_take 5 = .ok (.invokevirtual 54, 3) := by decide +kernel
theorem d_Bo_take_8 : decode b_Bo_take 8 = .ok (.ifCond .ne 5, 3) := by decide +kernel
theorem d_Bo_take_11 : decode b_Bo_take 11 = .ok (.iconst 1, 1) := by decide +kernel
theorem d_Bo_take_12 : decode b_Bo_take 12 = .ok (.ireturn, 1) := by decide +kernel
theorem d_Bo_take_13 : decode b_Bo_take 13 = .ok (.aload_n 0, 1) := by decide +kernel
theorem d_Bo_take_14 : decode b_Bo_take 14 = .ok (.getfield 48, 3) := by decide +kernel
theorem d_Bo_take_17 : decode b_Bo_take 17 = .ok (.ifCond .le 19, 3) := by decide +kernel
theorem d_Bo_take_20 : decode b_Bo_take 20 = .ok (.aload_n 0, 1) := by decide +kernel
theorem d_Bo_take_21 : decode b_Bo_take 21 = .ok (.getfield 37, 3) := by decide +kernel
theorem d_Bo_take_24 : decode b_Bo_take 24 = .ok (.getfield 58, 3) := by decide +kernel
theorem d_Bo_take_27 : decode b_Bo_take 27 = .ok (.aload_n 0, 1) := by decide +kernel
theorem d_Bo_take_28 : decode b_Bo_take 28 = .ok (.getfield 41, 3) := by decide +kernel
theorem d_Bo_take_31 : decode b_Bo_take 31 = .ok (.if_icmp .eq 5, 3) := by decide +kernel
theorem d_Bo_take_34 : decode b_Bo_take 34 = .ok (.iconst 2, 1) := by decide +kernel
theorem d_Bo_take_35 : decode b_Bo_take 35 = .ok (.ireturn, 1) := by decide +kernel
theorem d_Bo_take_36 : decode b_Bo_take 36 = .ok (.aload_n 0, 1) := by decide +kernel
theorem d_Bo_take_37 : decode b_Bo_take 37 = .ok (.getfield 25, 3) := by decide +kernel
theorem d_Bo_take_40 : decode b_Bo_take 40 = .ok (.aload_n 0, 1) := by decide +kernel
theorem d_Bo_take_41 : decode b_Bo_take 41 = .ok (.getfield 37, 3) := by decide +kernel
theorem d_Bo_take_44 : decode b_Bo_take 44 = .ok (.getfield 59, 3) := by decide +kernel
theorem d_Bo_take_47 : decode b_Bo_take 47 = .ok (.iaload, 1) := by decide +kernel
theorem d_Bo_take_48 : decode b_Bo_take 48 = .ok (.iconst (-1), 1) := by decide +kernel
theorem d_Bo_take_49 : decode b_Bo_take 49 = .ok (.if_icmp .eq 5, 3) := by decide +kernel
theorem d_Bo_take_52 : decode b_Bo_take 52 = .ok (.iconst 3, 1) := by decide +kernel
theorem d_Bo_take_53 : decode b_Bo_take 53 = .ok (.ireturn, 1) := by decide +kernel
theorem d_Bo_take_54 : decode b_Bo_take 54 = .ok (.aload_n 1, 1) := by decide +kernel
theorem d_Bo_take_55 : decode b_Bo_take 55 = .ok (.getfield 62, 3) := by decide +kernel
theorem d_Bo_take_58 : decode b_Bo_take 58 = .ok (.aload_n 0, 1) := by decide +kernel
theorem d_Bo_take_59 : decode b_Bo_take 59 = .ok (.getfield 37, 3) := by decide +kernel
theorem d_Bo_take_62 : decode b_Bo_take 62 = .ok (.getfield 65, 3) := by decide +kernel
theorem d_Bo_take_65 : decode b_Bo_take 65 = .ok (.isub, 1) := by decide +kernel
theorem d_Bo_take_66 : decode b_Bo_take 66 = .ok (.aload_n 0, 1) := by decide +kernel
theorem d_Bo_take_67 : decode b_Bo_take 67 = .ok (.getfield 37, 3) := by decide +kernel
theorem d_Bo_take_70 : decode b_Bo_take 70 = .ok (.getfield 68, 3) := by decide +kernel
theorem d_Bo_take_73 : decode b_Bo_take 73 = .ok (.if_icmp .eq 5, 3) := by decide +kernel
theorem d_Bo_take_76 : decode b_Bo_take 76 = .ok (.iconst 4, 1) := by decide +kernel
theorem d_Bo_take_77 : decode b_Bo_take 77 = .ok (.ireturn, 1) := by decide +kernel
theorem d_Bo_take_78 : decode b_Bo_take 78 = .ok (.aload_n 1, 1) := by decide +kernel
theorem d_Bo_take_79 : decode b_Bo_take 79 = .ok (.aload_n 0, 1) := by decide +kernel
theorem d_Bo_take_80 : decode b_Bo_take 80 = .ok (.getfield 37, 3) := by decide +kernel
theorem d_Bo_take_83 : decode b_Bo_take 83 = .ok (.getfield 65, 3) := by decide +kernel
theorem d_Bo_take_86 : decode b_Bo_take 86 = .ok (.aload_n 1, 1) := by decide +kernel
theorem d_Bo_take_87 : decode b_Bo_take 87 = .ok (.getfield 62, 3) := by decide +kernel
theorem d_Bo_take_90 : decode b_Bo_take 90 = .ok (.invokevirtual 69, 3) := by decide +kernel
theorem d_Bo_take_93 : decode b_Bo_take 93 = .ok (.i2l, 1) := by decide +kernel
theorem d_Bo_take_94 : decode b_Bo_take 94 = .ok (.ldc2_w 73, 3) := by decide +kernel
theorem d_Bo_take_97 : decode b_Bo_take 97 = .ok (.land, 1) := by decide +kernel
theorem d_Bo_take_98 : decode b_Bo_take 98 = .ok (.aload_n 0, 1) := by decide +kernel
theorem d_Bo_take_99 : decode b_Bo_take 99 = .ok (.getfield 37, 3) := by decide +kernel
theorem d_Bo_take_102 : decode b_Bo_take 102 = .ok (.getfield 75, 3) := by decide +kernel
theorem d_Bo_take_105 : decode b_Bo_take 105 = .ok (.lcmp, 1) := by decide +kernel
theorem d_Bo_take_106 : decode b_Bo_take 106 = .ok (.ifCond .eq 5, 3) := by decide +kernel
theorem d_Bo_take_109 : decode b_Bo_take 109 = .ok (.iconst 5, 1) := by decide +kernel
theorem d_Bo_take_110 : decode b_Bo_take 110 = .ok (.ireturn, 1) := by decide +kernel
theorem d_Bo_take_111 : decode b_Bo_take 111 = .ok (.aload_n 0, 1) := by decide +kernel
theorem d_Bo_take_112 : decode b_Bo_take 112 = .ok (.aload_n 0, 1) := by decide +kernel
theorem d_Bo_take_113 : decode b_Bo_take 113 = .ok (.getfield 37, 3) := by decide +kernel
theorem d_Bo_take_116 : decode b_Bo_take 116 = .ok (.getfield 59, 3) := by decide +kernel
theorem d_Bo_take_119 : decode b_Bo_take 119 = .ok (.aload_n 0, 1) := by decide +kernel
theorem d_Bo_take_120 : decode b_Bo_take 120 = .ok (.getfield 37, 3) := by decide +kernel
theorem d_Bo_take_123 : decode b_Bo_take 123 = .ok (.getfield 58, 3) := by decide +kernel
theorem d_Bo_take_126 : decode b_Bo_take 126 = .ok (.aload_n 1, 1) := by decide +kernel
theorem d_Bo_take_127 : decode b_Bo_take 127 = .ok (.aload_n 0, 1) := by decide +kernel
theorem d_Bo_take_128 : decode b_Bo_take 128 = .ok (.getfield 37, 3) := by decide +kernel
theorem d_Bo_take_131 : decode b_Bo_take 131 = .ok (.getfield 65, 3) := by decide +kernel
theorem d_Bo_take_134 : decode b_Bo_take 134 = .ok (.invokevirtual 78, 3) := by decide +kernel
theorem d_Bo_take_137 : decode b_Bo_take 137 = .ok (.iconst 0, 1) := by decide +kernel
theorem d_Bo_take_138 : decode b_Bo_take 138 = .ok (.ireturn, 1) := by decide +kernel
theorem d_Bo_isWhole_0 : decode b_Bo_isWhole 0 = .ok (.aload_n 0, 1) := by decide +kernel
theorem d_Bo_isWhole_1 : decode b_Bo_isWhole 1 = .ok (.getfield 48, 3) := by decide +kernel
theorem d_Bo_isWhole_4 : decode b_Bo_isWhole 4 = .ok (.ifCond .le 18, 3) := by decide +kernel
theorem d_Bo_isWhole_7 : decode b_Bo_isWhole 7 = .ok (.aload_n 0, 1) := by decide +kernel
theorem d_Bo_isWhole_8 : decode b_Bo_isWhole 8 = .ok (.getfield 48, 3) := by decide +kernel
theorem d_Bo_isWhole_11 : decode b_Bo_isWhole 11 = .ok (.aload_n 0, 1) := by decide +kernel
theorem d_Bo_isWhole_12 : decode b_Bo_isWhole 12 = .ok (.getfield 41, 3) := by decide +kernel
theorem d_Bo_isWhole_15 : decode b_Bo_isWhole 15 = .ok (.if_icmp .ne 7, 3) := by decide +kernel
theorem d_Bo_isWhole_18 : decode b_Bo_isWhole 18 = .ok (.iconst 1, 1) := by decide +kernel
theorem d_Bo_isWhole_19 : decode b_Bo_isWhole 19 = .ok (.goto 4, 3) := by decide +kernel
theorem d_Bo_isWhole_22 : decode b_Bo_isWhole 22 = .ok (.iconst 0, 1) := by decide +kernel
theorem d_Bo_isWhole_23 : decode b_Bo_isWhole 23 = .ok (.ireturn, 1) := by decide +kernel
theorem d_Bo_join_0 : decode b_Bo_join 0 = .ok (.aload_n 1, 1) := by decide +kernel
theorem d_Bo_join_1 : decode b_Bo_join 1 = .ok (.invokevirtual 51, 3) := by decide +kernel
theorem d_Bo_join_4 : decode b_Bo_join 4 = .ok (.iconst 1, 1) := by decide +kernel
theorem d_Bo_join_5 : decode b_Bo_join 5 = .ok (.istore_n 2, 1) := by decide +kernel
theorem d_Bo_join_6 : decode b_Bo_join 6 = .ok (.iload_n 2, 1) := by decide +kernel
theorem d_Bo_join_7 : decode b_Bo_join 7 = .ok (.aload_n 0, 1) := by decide +kernel
theorem d_Bo_join_8 : decode b_Bo_join 8 = .ok (.getfield 41, 3) := by decide +kernel
theorem d_Bo_join_11 : decode b_Bo_join 11 = .ok (.if_icmp .gt 36, 3) := by decide +kernel
theorem d_Bo_join_14 : decode b_Bo_join 14 = .ok (.aload_n 1, 1) := by decide +kernel
theorem d_Bo_join_15 : decode b_Bo_join 15 = .ok (.aload_n 0, 1) := by decide +kernel
theorem d_Bo_join_16 : decode b_Bo_join 16 = .ok (.getfield 15, 3) := by decide +kernel
theorem d_Bo_join_19 : decode b_Bo_join 19 = .ok (.aload_n 0, 1) := by decide +kernel
theorem d_Bo_join_20 : decode b_Bo_join 20 = .ok (.getfield 21, 3) := by decide +kernel
theorem d_Bo_join_23 : decode b_Bo_join 23 = .ok (.iload_n 2, 1) := by decide +kernel
theorem d_Bo_join_24 : decode b_Bo_join 24 = .ok (.iaload, 1) := by decide +kernel
theorem d_Bo_join_25 : decode b_Bo_join 25 = .ok (.aload_n 0, 1) := by decide +kernel
theorem d_Bo_join_26 : decode b_Bo_join 26 = .ok (.getfield 21, 3) := by decide +kernel
theorem d_Bo_join_29 : decode b_Bo_join 29 = .ok (.iload_n 2, 1) := by decide +kernel
theorem d_Bo_join_30 : decode b_Bo_join 30 = .ok (.iaload, 1) := by decide +kernel
theorem d_Bo_join_31 : decode b_Bo_join 31 = .ok (.aload_n 0, 1) := by decide +kernel
theorem d_Bo_join_32 : decode b_Bo_join 32 = .ok (.getfield 25, 3) := by decide +kernel
theorem d_Bo_join_35 : decode b_Bo_join 35 = .ok (.iload_n 2, 1) := by decide +kernel
theorem d_Bo_join_36 : decode b_Bo_join 36 = .ok (.iaload, 1) := by decide +kernel
theorem d_Bo_join_37 : decode b_Bo_join 37 = .ok (.iadd, 1) := by decide +kernel
theorem d_Bo_join_38 : decode b_Bo_join 38 = .ok (.invokevirtual 82, 3) := by decide +kernel
theorem d_Bo_join_41 : decode b_Bo_join 41 = .ok (.iinc 2 1, 3) := by decide +kernel
theorem d_Bo_join_44 : decode b_Bo_join 44 = .ok (.goto (-38), 3) := by decide +kernel
theorem d_Bo_join_47 : decode b_Bo_join 47 = .ok (.aload_n 0, 1) := by decide +kernel
theorem d_Bo_join_48 : decode b_Bo_join 48 = .ok (.getfield 45, 3) := by decide +kernel
theorem d_Bo_join_51 : decode b_Bo_join 51 = .ok (.ldc 11, 2) := by decide +kernel
theorem d_Bo_join_53 : decode b_Bo_join 53 = .ok (.if_icmp .gt 7, 3) := by decide +kernel
theorem d_Bo_join_56 : decode b_Bo_join 56 = .ok (.iconst 1, 1) := by decide +kernel
theorem d_Bo_join_57 : decode b_Bo_join 57 = .ok (.goto 4, 3) := by decide +kernel
theorem d_Bo_join_60 : decode b_Bo_join 60 = .ok (.iconst 0, 1) := by decide +kernel
theorem d_Bo_join_61 : decode b_Bo_join 61 = .ok (.ireturn, 1) := by decide +kernel
theorem d_Sq_forget_0 : decode b_Sq_forget 0 = .ok (.aload_n 0, 1) := by decide +kernel
theorem d_Sq_forget_1 : decode b_Sq_forget 1 = .ok (.sipush 257, 3) := by decide +kernel
theorem d_Sq_forget_4 : decode b_Sq_forget 4 = .ok (.putfield 71, 3) := by decide +kernel
theorem d_Sq_forget_7 : decode b_Sq_forget 7 = .ok (.aload_n 0, 1) := by decide +kernel
theorem d_Sq_forget_8 : decode b_Sq_forget 8 = .ok (.getfield 9, 3) := by decide +kernel
theorem d_Sq_forget_11 : decode b_Sq_forget 11 = .ok (.iconst 0, 1) := by decide +kernel
theorem d_Sq_forget_12 : decode b_Sq_forget 12 = .ok (.sipush 257, 3) := by decide +kernel
theorem d_Sq_forget_15 : decode b_Sq_forget 15 = .ok (.iconst (-1), 1) := by decide +kernel
theorem d_Sq_forget_16 : decode b_Sq_forget 16 = .ok (.invokestatic 74, 3) := by decide +kernel
theorem d_Sq_forget_19 : decode b_Sq_forget 19 = .ok (.return_, 1) := by decide +kernel
theorem d_Sq_begin_0 : decode b_Sq_begin 0 = .ok (.aload_n 0, 1) := by decide +kernel
theorem d_Sq_begin_1 : decode b_Sq_begin 1 = .ok (.iload_n 1, 1) := by decide +kernel
theorem d_Sq_begin_2 : decode b_Sq_begin 2 = .ok (.putfield 59, 3) := by decide +kernel
theorem d_Sq_begin_5 : decode b_Sq_begin 5 = .ok (.aload_n 0, 1) := by decide +kernel
theorem d_Sq_begin_6 : decode b_Sq_begin 6 = .ok (.bipush 9, 2) := by decide +kernel
theorem d_Sq_begin_8 : decode b_Sq_begin 8 = .ok (.putfield 62, 3) := by decide +kernel
theorem d_Sq_begin_11 : decode b_Sq_begin 11 = .ok (.aload_n 0, 1) := by decide +kernel
theorem d_Sq_begin_12 : decode b_Sq_begin 12 = .ok (.iconst 0, 1) := by decide +kernel
theorem d_Sq_begin_13 : decode b_Sq_begin 13 = .ok (.putfield 65, 3) := by decide +kernel
theorem d_Sq_begin_16 : decode b_Sq_begin 16 = .ok (.aload_n 0, 1) := by decide +kernel
theorem d_Sq_begin_17 : decode b_Sq_begin 17 = .ok (.iconst 0, 1) := by decide +kernel
theorem d_Sq_begin_18 : decode b_Sq_begin 18 = .ok (.putfield 56, 3) := by decide +kernel
theorem d_Sq_begin_21 : decode b_Sq_begin 21 = .ok (.aload_n 0, 1) := by decide +kernel
theorem d_Sq_begin_22 : decode b_Sq_begin 22 = .ok (.iconst 0, 1) := by decide +kernel
theorem d_Sq_begin_23 : decode b_Sq_begin 23 = .ok (.putfield 53, 3) := by decide +kernel
theorem d_Sq_begin_26 : decode b_Sq_begin 26 = .ok (.aload_n 0, 1) := by decide +kernel
theorem d_Sq_begin_27 : decode b_Sq_begin 27 = .ok (.invokevirtual 68, 3) := by decide +kernel
theorem d_Sq_begin_30 : decode b_Sq_begin 30 = .ok (.return_, 1) := by decide +kernel
theorem d_Sq_childOf_0 : decode b_Sq_childOf 0 = .ok (.aload_n 0, 1) := by decide +kernel
theorem d_Sq_childOf_1 : decode b_Sq_childOf 1 = .ok (.getfield 9, 3) := by decide +kernel
theorem d_Sq_childOf_4 : decode b_Sq_childOf 4 = .ok (.iload_n 1, 1) := by decide +kernel
theorem d_Sq_childOf_5 : decode b_Sq_childOf 5 = .ok (.iaload, 1) := by decide +kernel
theorem d_Sq_childOf_6 : decode b_Sq_childOf 6 = .ok (.istore_n 3, 1) := by decide +kernel
theorem d_Sq_childOf_7 : decode b_Sq_childOf 7 = .ok (.iconst 0, 1) := by decide +kernel
theorem d_Sq_childOf_8 : decode b_Sq_childOf 8 = .ok (.istore 4, 2) := by decide +kernel
theorem d_Sq_childOf_10 : decode b_Sq_childOf 10 = .ok (.iload 4, 2) := by decide +kernel
theorem d_Sq_childOf_12 : decode b_Sq_childOf 12 = .ok (.sipush 256, 3) := by decide +kernel
theorem d_Sq_childOf_15 : decode b_Sq_childOf 15 = .ok (.if_icmp .ge 31, 3) := by decide +kernel
theorem d_Sq_childOf_18 : decode b_Sq_childOf 18 = .ok (.iload_n 3, 1) := by decide +kernel
theorem d_Sq_childOf_19 : decode b_Sq_childOf 19 = .ok (.iconst (-1), 1) := by decide +kernel
theorem d_Sq_childOf_20 : decode b_Sq_childOf 20 = .ok (.if_icmp .eq 26, 3) := by decide +kernel
theorem d_Sq_childOf_23 : decode b_Sq_childOf 23 = .ok (.aload_n 0, 1) := by decide +kernel
theorem d_Sq_childOf_24 : decode b_Sq_childOf 24 = .ok (.getfield 18, 3) := by decide +kernel
theorem d_Sq_childOf_27 : decode b_Sq_childOf 27 = .ok (.iload_n 3, 1) := by decide +kernel
theorem d_Sq_childOf_28 : decode b_Sq_childOf 28 = .ok (.iaload, 1) := by decide +kernel
theorem d_Sq_childOf_29 : decode b_Sq_childOf 29 = .ok (.iload_n 2, 1) := by decide +kernel
theorem d_Sq_childOf_30 : decode b_Sq_childOf 30 = .ok (.if_icmp .eq 16, 3) := by decide +kernel
theorem d_Sq_childOf_33 : decode b_Sq_childOf 33 = .ok (.aload_n 0, 1) := by decide +kernel
theorem d_Sq_childOf_34 : decode b_Sq_childOf 34 = .ok (.getfield 15, 3) := by decide +kernel
theorem d_Sq_childOf_37 : decode b_Sq_childOf 37 = .ok (.iload_n 3, 1) := by decide +kernel
theorem d_Sq_childOf_38 : decode b_Sq_childOf 38 = .ok (.iaload, 1) := by decide +kernel
theorem d_Sq_childOf_39 : decode b_Sq_childOf 39 = .ok (.istore_n 3, 1) := by decide +kernel
theorem d_Sq_childOf_40 : decode b_Sq_childOf 40 = .ok (.iinc 4 1, 3) := by decide +kernel
theorem d_Sq_childOf_43 : decode b_Sq_childOf 43 = .ok (.goto (-33), 3) := by decide +kernel
theorem d_Sq_childOf_46 : decode b_Sq_childOf 46 = .ok (.iload_n 3, 1) := by decide +kernel
theorem d_Sq_childOf_47 : decode b_Sq_childOf 47 = .ok (.ireturn, 1) := by decide +kernel
theorem d_Sq_putBits_0 : decode b_Sq_putBits 0 = .ok (.aload_n 0, 1) := by decide +kernel
theorem d_Sq_putBits_1 : decode b_Sq_putBits 1 = .ok (.dup, 1) := by decide +kernel
theorem d_Sq_putBits_2 : decode b_Sq_putBits 2 = .ok (.getfield 65, 3) := by decide +kernel
theorem d_Sq_putBits_5 : decode b_Sq_putBits 5 = .ok (.iconst 1, 1) := by decide +kernel
theorem d_Sq_putBits_6 : decode b_Sq_putBits 6 = .ok (.iadd, 1) := by decide +kernel
theorem d_Sq_putBits_7 : decode b_Sq_putBits 7 = .ok (.putfield 65, 3) := by decide +kernel
theorem d_Sq_putBits_10 : decode b_Sq_putBits 10 = .ok (.aload_n 0, 1) := by decide +kernel
theorem d_Sq_putBits_11 : decode b_Sq_putBits 11 = .ok (.dup, 1) := by decide +kernel
theorem d_Sq_putBits_12 : decode b_Sq_putBits 12 = .ok (.getfield 56, 3) := by decide +kernel
theorem d_Sq_putBits_15 : decode b_Sq_putBits 15 = .ok (.iload_n 1, 1) := by decide +kernel
theorem d_Sq_putBits_16 : decode b_Sq_putBits 16 = .ok (.aload_n 0, 1) := by decide +kernel
theorem d_Sq_putBits_17 : decode b_Sq_putBits 17 = .ok (.getfield 53, 3) := by decide +kernel
theorem d_Sq_putBits_20 : decode b_Sq_putBits 20 = .ok (.ishl, 1) := by decide +kernel
theorem d_Sq_putBits_21 : decode b_Sq_putBits 21 = .ok (.ior, 1) := by decide +kernel
theorem d_Sq_putBits_22 : decode b_Sq_putBits 22 = .ok (.putfield 56, 3) := by decide +kernel
theorem d_Sq_putBits_25 : decode b_Sq_putBits 25 = .ok (.aload_n 0, 1) := by decide +kernel
theorem d_Sq_putBits_26 : decode b_Sq_putBits 26 = .ok (.dup, 1) := by decide +kernel
theorem d_Sq_putBits_27 : decode b_Sq_putBits 27 = .ok (.getfield 53, 3) := by decide +kernel
theorem d_Sq_putBits_30 : decode b_Sq_putBits 30 = .ok (.aload_n 0, 1) := by decide +kernel
theorem d_Sq_putBits_31 : decode b_Sq_putBits 31 = .ok (.getfield 62, 3) := by decide +kernel
theorem d_Sq_putBits_34 : decode b_Sq_putBits 34 = .ok (.iadd, 1) := by decide +kernel
theorem d_Sq_putBits_35 : decode b_Sq_putBits 35 = .ok (.putfield 53, 3) := by decide +kernel
theorem d_Sq_putBits_38 : decode b_Sq_putBits 38 = .ok (.aload_n 0, 1) := by decide +kernel
theorem d_Sq_putBits_39 : decode b_Sq_putBits 39 = .ok (.getfield 53, 3) := by decide +kernel
theorem d_Sq_putBits_42 : decode b_Sq_putBits 42 = .ok (.bipush 8, 2) := by decide +kernel
theorem d_Sq_putBits_44 : decode b_Sq_putBits 44 = .ok (.if_icmp .lt 36, 3) := by decide +kernel
theorem d_Sq_putBits_47 : decode b_Sq_putBits 47 = .ok (.aload_n 2, 1) := by decide +kernel
theorem d_Sq_putBits_48 : decode b_Sq_putBits 48 = .ok (.aload_n 0, 1) := by decide +kernel
theorem d_Sq_putBits_49 : decode b_Sq_putBits 49 = .ok (.getfield 56, 3) := by decide +kernel
theorem d_Sq_putBits_52 : decode b_Sq_putBits 52 = .ok (.invokevirtual 26, 3) := by decide +kernel
theorem d_Sq_putBits_55 : decode b_Sq_putBits 55 = .ok (.aload_n 0, 1) := by decide +kernel
theorem d_Sq_putBits_56 : decode b_Sq_putBits 56 = .ok (.dup, 1) := by decide +kernel
theorem d_Sq_putBits_57 : decode b_Sq_putBits 57 = .ok (.getfield 56, 3) := by decide +kernel
theorem d_Sq_putBits_60 : decode b_Sq_putBits 60 = .ok (.bipush 8, 2) := by decide +kernel
theorem d_Sq_putBits_62 : decode b_Sq_putBits 62 = .ok (.iushr, 1) := by decide +kernel
theorem d_Sq_putBits_63 : decode b_Sq_putBits 63 = .ok (.putfield 56, 3) := by decide +kernel
theorem d_Sq_putBits_66 : decode b_Sq_putBits 66 = .ok (.aload_n 0, 1) := by decide +kernel
theorem d_Sq_putBits_67 : decode b_Sq_putBits 67 = .ok (.dup, 1) := by decide +kernel
theorem d_Sq_putBits_68 : decode b_Sq_putBits 68 = .ok (.getfield 53, 3) := by decide +kernel
theorem d_Sq_putBits_71 : decode b_Sq_putBits 71 = .ok (.bipush 8, 2) := by decide +kernel
theorem d_Sq_putBits_73 : decode b_Sq_putBits 73 = .ok (.isub, 1) := by decide +kernel
theorem d_Sq_putBits_74 : decode b_Sq_putBits 74 = .ok (.putfield 53, 3) := by decide +kernel
theorem d_Sq_putBits_77 : decode b_Sq_putBits 77 = .ok (.goto (-39), 3) := by decide +kernel
theorem d_Sq_putBits_80 : decode b_Sq_putBits 80 = .ok (.return_, 1) := by decide +kernel
theorem d_Sq_changeWidth_0 : decode b_Sq_changeWidth 0 = .ok (.aload_n 0, 1) := by decide +kernel
theorem d_Sq_changeWidth_1 : decode b_Sq_changeWidth 1 = .ok (.getfield 65, 3) := by decide +kernel
theorem d_Sq_changeWidth_4 : decode b_Sq_changeWidth 4 = .ok (.ineg, 1) := by decide +kernel
theorem d_Sq_changeWidth_5 : decode b_Sq_changeWidth 5 = .ok (.bipush 7, 2) := by decide +kernel
theorem d_Sq_changeWidth_7 : decode b_Sq_changeWidth 7 = .ok (.iand, 1) := by decide +kernel
theorem d_Sq_changeWidth_8 : decode b_Sq_changeWidth 8 = .ok (.istore_n 3, 1) := by decide +kernel
theorem d_Sq_changeWidth_9 : decode b_Sq_changeWidth 9 = .ok (.iconst 0, 1) := by decide +kernel
theorem d_Sq_changeWidth_10 : decode b_Sq_changeWidth 10 = .ok (.istore 4, 2) := by decide +kernel
theorem d_Sq_changeWidth_12 : decode b_Sq_changeWidth 12 = .ok (.iload 4, 2) := by decide +kernel
theorem d_Sq_changeWidth_14 : decode b_Sq_changeWidth 14 = .ok (.iload_n 3, 1) := by decide +kernel
theorem d_Sq_changeWidth_15 : decode b_Sq_changeWidth 15 = .ok (.if_icmp .ge 15, 3) := by decide +kernel
theorem d_Sq_changeWidth_18 : decode b_Sq_changeWidth 18 = .ok (.aload_n 0, 1) := by decide +kernel
theorem d_Sq_changeWidth_19 : decode b_Sq_changeWidth 19 = .ok (.iconst 0, 1) := by decide +kernel
theorem d_Sq_changeWidth_20 : decode b_Sq_changeWidth 20 = .ok (.aload_n 2, 1) := by decide +kernel
theorem d_Sq_changeWidth_21 : decode b_Sq_changeWidth 21 = .ok (.invokevirtual 83, 3) := by decide +kernel
theorem d_Sq_changeWidth_24 : decode b_Sq_changeWidth 24 = .ok (.iinc 4 1, 3) := by decide +kernel
theorem d_Sq_changeWidth_27 : decode b_Sq_changeWidth 27 = .ok (.goto (-15), 3) := by decide +kernel
theorem d_Sq_changeWidth_30 : decode b_Sq_changeWidth 30 = .ok (.aload_n 0, 1) := by decide +kernel
theorem d_Sq_changeWidth_31 : decode b_Sq_changeWidth 31 = .ok (.iconst 0, 1) := by decide +kernel
theorem d_Sq_changeWidth_32 : decode b_Sq_changeWidth 32 = .ok (.putfield 65, 3) := by decide +kernel
theorem d_Sq_changeWidth_35 : decode b_Sq_changeWidth 35 = .ok (.aload_n 0, 1) := by decide +kernel
theorem d_Sq_changeWidth_36 : decode b_Sq_changeWidth 36 = .ok (.iload_n 1, 1) := by decide +kernel
theorem d_Sq_changeWidth_37 : decode b_Sq_changeWidth 37 = .ok (.putfield 62, 3) := by decide +kernel
theorem d_Sq_changeWidth_40 : decode b_Sq_changeWidth 40 = .ok (.return_, 1) := by decide +kernel
theorem d_Sq_putCode_0 : decode b_Sq_putCode 0 = .ok (.aload_n 0, 1) := by decide +kernel
theorem d_Sq_putCode_1 : decode b_Sq_putCode 1 = .ok (.getfield 71, 3) := by decide +kernel
theorem d_Sq_putCode_4 : decode b_Sq_putCode 4 = .ok (.iconst 1, 1) := by decide +kernel
theorem d_Sq_putCode_5 : decode b_Sq_putCode 5 = .ok (.aload_n 0, 1) := by decide +kernel
theorem d_Sq_putCode_6 : decode b_Sq_putCode 6 = .ok (.getfield 62, 3) := by decide +kernel
theorem d_Sq_putCode_9 : decode b_Sq_putCode 9 = .ok (.ishl, 1) := by decide +kernel
theorem d_Sq_putCode_10 : decode b_Sq_putCode 10 = .ok (.if_icmp .le 25, 3) := by decide +kernel
theorem d_Sq_putCode_13 : decode b_Sq_putCode 13 = .ok (.aload_n 0, 1) := by decide +kernel
theorem d_Sq_putCode_14 : decode b_Sq_putCode 14 = .ok (.getfield 62, 3) := by decide +kernel
theorem d_Sq_putCode_17 : decode b_Sq_putCode 17 = .ok (.aload_n 0, 1) := by decide +kernel
theorem d_Sq_putCode_18 : decode b_Sq_putCode 18 = .ok (.getfield 59, 3) := by decide +kernel
theorem d_Sq_putCode_21 : decode b_Sq_putCode 21 = .ok (.if_icmp .ge 14, 3) := by decide +kernel
theorem d_Sq_putCode_24 : decode b_Sq_putCode 24 = .ok (.aload_n 0, 1) := by decide +kernel
theorem d_Sq_putCode_25 : decode b_Sq_putCode 25 = .ok (.aload_n 0, 1) := by decide +kernel
theorem d_Sq_putCode_26 : decode b_Sq_putCode 26 = .ok (.getfield 62, 3) := by decide +kernel
theorem d_Sq_putCode_29 : decode b_Sq_putCode 29 = .ok (.iconst 1, 1) := by decide +kernel
theorem d_Sq_putCode_30 : decode b_Sq_putCode 30 = .ok (.iadd, 1) := by decide +kernel
theorem d_Sq_putCode_31 : decode b_Sq_putCode 31 = .ok (.aload_n 2, 1) := by decide +kernel
theorem d_Sq_putCode_32 : decode b_Sq_putCode 32 = .ok (.invokevirtual 80, 3) := by decide +kernel
theorem d_Sq_putCode_35 : decode b_Sq_putCode 35 = .ok (.aload_n 0, 1) := by decide +kernel
theorem d_Sq_putCode_36 : decode b_Sq_putCode 36 = .ok (.iload_n 1, 1) := by decide +kernel
theorem d_Sq_putCode_37 : decode b_Sq_putCode 37 = .ok (.aload_n 2, 1) := by decide +kernel
theorem d_Sq_putCode_38 : decode b_Sq_putCode 38 = .ok (.invokevirtual 83, 3) := by decide +kernel
theorem d_Sq_putCode_41 : decode b_Sq_putCode 41 = .ok (.return_, 1) := by decide +kernel
theorem d_Sq_learn_0 : decode b_Sq_learn 0 = .ok (.aload_n 0, 1) := by decide +kernel
theorem d_Sq_learn_1 : decode b_Sq_learn 1 = .ok (.getfield 71, 3) := by decide +kernel
theorem d_Sq_learn_4 : decode b_Sq_learn 4 = .ok (.iconst 1, 1) := by decide +kernel
theorem d_Sq_learn_5 : decode b_Sq_learn 5 = .ok (.aload_n 0, 1) := by decide +kernel
theorem d_Sq_learn_6 : decode b_Sq_learn 6 = .ok (.getfield 59, 3) := by decide +kernel
theorem d_Sq_learn_9 : decode b_Sq_learn 9 = .ok (.ishl, 1) := by decide +kernel
theorem d_Sq_learn_10 : decode b_Sq_learn 10 = .ok (.if_icmp .lt 25, 3) := by decide +kernel
theorem d_Sq_learn_13 : decode b_Sq_learn 13 = .ok (.aload_n 0, 1) := by decide +kernel
theorem d_Sq_learn_14 : decode b_Sq_learn 14 = .ok (.sipush 256, 3) := by decide +kernel
theorem d_Sq_learn_17 : decode b_Sq_learn 17 = .ok (.aload_n 3, 1) := by decide +kernel
theorem d_Sq_learn_18 : decode b_Sq_learn 18 = .ok (.invokevirtual 45, 3) := by decide +kernel
theorem d_Sq_learn_21 : decode b_Sq_learn 21 = .ok (.aload_n 0, 1) := by decide +kernel
theorem d_Sq_learn_22 : decode b_Sq_learn 22 = .ok (.bipush 9, 2) := by decide +kernel
theorem d_Sq_learn_24 : decode b_Sq_learn 24 = .ok (.aload_n 3, 1) := by decide +kernel
theorem d_Sq_learn_25 : decode b_Sq_learn 25 = .ok (.invokevirtual 80, 3) := by decide +kernel
theorem d_Sq_learn_28 : decode b_Sq_learn 28 = .ok (.aload_n 0, 1) := by decide +kernel
theorem d_Sq_learn_29 : decode b_Sq_learn 29 = .ok (.invokevirtual 68, 3) := by decide +kernel
theorem d_Sq_learn_32 : decode b_Sq_learn 32 = .ok (.goto 68, 3) := by decide +kernel
theorem d_Sq_learn_35 : decode b_Sq_learn 35 = .ok (.aload_n 0, 1) := by decide +kernel
theorem d_Sq_learn_36 : decode b_Sq_learn 36 = .ok (.getfield 71, 3) := by decide +kernel
theorem d_Sq_learn_39 : decode b_Sq_learn 39 = .ok (.sipush 16384, 3) := by decide +kernel
theorem d_Sq_learn_42 : decode b_Sq_learn 42 = .ok (.if_icmp .ge 58, 3) := by decide +kernel
theorem d_Sq_learn_45 : decode b_Sq_learn 45 = .ok (.aload_n 0, 1) := by decide +kernel
theorem d_Sq_learn_46 : decode b_Sq_learn 46 = .ok (.getfield 9, 3) := by decide +kernel
theorem d_Sq_learn_49 : decode b_Sq_learn 49 = .ok (.aload_n 0, 1) := by decide +kernel
theorem d_Sq_learn_50 : decode b_Sq_learn 50 = .ok (.getfield 71, 3) := by decide +kernel
theorem d_Sq_learn_53 : decode b_Sq_learn 53 = .ok (.iconst (-1), 1) := by decide +kernel
theorem d_Sq_learn_54 : decode b_Sq_learn 54 = .ok (.iastore, 1) := by decide +kernel
theorem d_Sq_learn_55 : decode b_Sq_learn 55 = .ok (.aload_n 0, 1) := by decide +kernel
theorem d_Sq_learn_56 : decode b_Sq_learn 56 = .ok (.getfield 18, 3) := by decide +kernel
theorem d_Sq_learn_59 : decode b_Sq_learn 59 = .ok (.aload_n 0, 1) := by decide +kernel
theorem d_Sq_learn_60 : decode b_Sq_learn 60 = .ok (.getfield 71, 3) := by decide +kernel
theorem d_Sq_learn_63 : decode b_Sq_learn 63 = .ok (.iload_n 2, 1) := by decide +kernel
theorem d_Sq_learn_64 : decode b_Sq_learn 64 = .ok (.iastore, 1) := by decide +kernel
theorem d_Sq_learn_65 : decode b_Sq_learn 65 = .ok (.aload_n 0, 1) := by decide +kernel
theorem d_Sq_learn_66 : decode b_Sq_learn 66 = .ok (.getfield 15, 3) := by decide +kernel
theorem d_Sq_learn_69 : decode b_Sq_learn 69 = .ok (.aload_n 0, 1) := by decide +kernel
theorem d_Sq_learn_70 : decode b_Sq_learn 70 = .ok (.getfield 71, 3) := by decide +kernel
theorem d_Sq_learn_73 : decode b_Sq_learn 73 = .ok (.aload_n 0, 1) := by decide +kernel
theorem d_Sq_learn_74 : decode b_Sq_learn 74 = .ok (.getfield 9, 3) := by decide +kernel
theorem d_Sq_learn_77 : decode b_Sq_learn 77 = .ok (.iload_n 1, 1) := by decide +kernel
theorem d_Sq_learn_78 : decode b_Sq_learn 78 = .ok (.iaload, 1) := by decide +kernel
theorem d_Sq_learn_79 : decode b_Sq_learn 79 = .ok (.iastore, 1) := by decide +kernel
theorem d_Sq_learn_80 : decode b_Sq_learn 80 = .ok (.aload_n 0, 1) := by decide +kernel
theorem d_Sq_learn_81 : decode b_Sq_learn 81 = .ok (.getfield 9, 3) := by decide +kernel
theorem d_Sq_learn_84 : decode b_Sq_learn 84 = .ok (.iload_n 1, 1) := by decide +kernel
theorem d_Sq_learn_85 : decode b_Sq_learn 85 = .ok (.aload_n 0, 1) := by decide +kernel
theorem d_Sq_learn_86 : decode b_Sq_learn 86 = .ok (.getfield 71, 3) := by decide +kernel
theorem d_Sq_learn_89 : decode b_Sq_learn 89 = .ok (.iastore, 1) := by decide +kernel
theorem d_Sq_learn_90 : decode b_Sq_learn 90 = .ok (.aload_n 0, 1) := by decide +kernel
theorem d_Sq_learn_91 : decode b_Sq_learn 91 = .ok (.dup, 1) := by decide +kernel
theorem d_Sq_learn_92 : decode b_Sq_learn 92 = .ok (.getfield 71, 3) := by decide +kernel
theorem d_Sq_learn_95 : decode b_Sq_learn 95 = .ok (.iconst 1, 1) := by decide +kernel
theorem d_Sq_learn_96 : decode b_Sq_learn 96 = .ok (.iadd, 1) := by decide +kernel
theorem d_Sq_learn_97 : decode b_Sq_learn 97 = .ok (.putfield 71, 3) := by decide +kernel
theorem d_Sq_learn_100 : decode b_Sq_learn 100 = .ok (.return_, 1) := by decide +kernel
theorem d_Sq_squeeze_0 : decode b_Sq_squeeze 0 = .ok (.aload_n 3, 1) := by decide +kernel
theorem d_Sq_squeeze_1 : decode b_Sq_squeeze 1 = .ok (.invokevirtual 21, 3) := by decide +kernel
theorem d_Sq_squeeze_4 : decode b_Sq_squeeze 4 = .ok (.aload_n 3, 1) := by decide +kernel
theorem d_Sq_squeeze_5 : decode b_Sq_squeeze 5 = .ok (.bipush 31, 2) := by decide +kernel
theorem d_Sq_squeeze_7 : decode b_Sq_squeeze 7 = .ok (.invokevirtual 26, 3) := by decide +kernel
theorem d_Sq_squeeze_10 : decode b_Sq_squeeze 10 = .ok (.aload_n 3, 1) := by decide +kernel
theorem d_Sq_squeeze_11 : decode b_Sq_squeeze 11 = .ok (.sipush 157, 3) := by decide +kernel
theorem d_Sq_squeeze_14 : decode b_Sq_squeeze 14 = .ok (.invokevirtual 26, 3) := by decide +kernel
theorem d_Sq_squeeze_17 : decode b_Sq_squeeze 17 = .ok (.aload_n 3, 1) := by decide +kernel
theorem d_Sq_squeeze_18 : decode b_Sq_squeeze 18 = .ok (.sipush 128, 3) := by decide +kernel
theorem d_Sq_squeeze_21 : decode b_Sq_squeeze 21 = .ok (.iload_n 2, 1) := by decide +kernel
theorem d_Sq_squeeze_22 : decode b_Sq_squeeze 22 = .ok (.iadd, 1) := by decide +kernel
theorem d_Sq_squeeze_23 : decode b_Sq_squeeze 23 = .ok (.invokevirtual 26, 3) := by decide +kernel
theorem d_Sq_squeeze_26 : decode b_Sq_squeeze 26 = .ok (.aload_n 0, 1) := by decide +kernel
theorem d_Sq_squeeze_27 : decode b_Sq_squeeze 27 = .ok (.iload_n 2, 1) := by decide +kernel
theorem d_Sq_squeeze_28 : decode b_Sq_squeeze 28 = .ok (.invokevirtual 30, 3) := by decide +kernel
theorem d_Sq_squeeze_31 : decode b_Sq_squeeze 31 = .ok (.aload_n 1, 1) := by decide +kernel
theorem d_Sq_squeeze_32 : decode b_Sq_squeeze 32 = .ok (.iconst 0, 1) := by decide +kernel
theorem d_Sq_squeeze_33 : decode b_Sq_squeeze 33 = .ok (.invokevirtual 33, 3) := by decide +kernel
theorem d_Sq_squeeze_36 : decode b_Sq_squeeze 36 = .ok (.istore 4, 2) := by decide +kernel
theorem d_Sq_squeeze_38 : decode b_Sq_squeeze 38 = .ok (.iconst 1, 1) := by decide +kernel
theorem d_Sq_squeeze_39 : decode b_Sq_squeeze 39 = .ok (.istore 5, 2) := by decide +kernel
theorem d_Sq_squeeze_41 : decode b_Sq_squeeze 41 = .ok (.iload 5, 2) := by decide +kernel
theorem d_Sq_squeeze_43 : decode b_Sq_squeeze 43 = .ok (.aload_n 1, 1) := by decide +kernel
theorem d_Sq_squeeze_44 : decode b_Sq_squeeze 44 = .ok (.getfield 37, 3) := by decide +kernel
theorem d_Sq_squeeze_47 : decode b_Sq_squeeze 47 = .ok (.if_icmp .ge 57, 3) := by decide +kernel
theorem d_Sq_squeeze_50 : decode b_Sq_squeeze 50 = .ok (.aload_n 1, 1) := by decide +kernel
theorem d_Sq_squeeze_51 : decode b_Sq_squeeze 51 = .ok (.iload 5, 2) := by decide +kernel
theorem d_Sq_squeeze_53 : decode b_Sq_squeeze 53 = .ok (.invokevirtual 33, 3) := by decide +kernel
theorem d_Sq_squeeze_56 : decode b_Sq_squeeze 56 = .ok (.istore 6, 2) := by decide +kernel
theorem d_Sq_squeeze_58 : decode b_Sq_squeeze 58 = .ok (.aload_n 0, 1) := by decide +kernel
theorem d_Sq_squeeze_59 : decode b_Sq_squeeze 59 = .ok (.iload 4, 2) := by decide +kernel
theorem d_Sq_squeeze_61 : decode b_Sq_squeeze 61 = .ok (.iload 6, 2) := by decide +kernel
theorem d_Sq_squeeze_63 : decode b_Sq_squeeze 63 = .ok (.invokevirtual 41, 3) := by decide +kernel
theorem d_Sq_squeeze_66 : decode b_Sq_squeeze 66 = .ok (.istore 7, 2) := by decide +kernel
theorem d_Sq_squeeze_68 : decode b_Sq_squeeze 68 = .ok (.iload 7, 2) := by decide +kernel
theorem d_Sq_squeeze_70 : decode b_Sq_squeeze 70 = .ok (.iconst (-1), 1) := by decide +kernel
theorem d_Sq_squeeze_71 : decode b_Sq_squeeze 71 = .ok (.if_icmp .ne 23, 3) := by decide +kernel
theorem d_Sq_squeeze_74 : decode b_Sq_squeeze 74 = .ok (.aload_n 0, 1) := by decide +kernel
theorem d_Sq_squeeze_75 : decode b_Sq_squeeze 75 = .ok (.iload 4, 2) := by decide +kernel
theorem d_Sq_squeeze_77 : decode b_Sq_squeeze 77 = .ok (.aload_n 3, 1) := by decide +kernel
theorem d_Sq_squeeze_78 : decode b_Sq_squeeze 78 = .ok (.invokevirtual 45, 3) := by decide +kernel
theorem d_Sq_squeeze_81 : decode b_Sq_squeeze 81 = .ok (.aload_n 0, 1) := by decide +kernel
theorem d_Sq_squeeze_82 : decode b_Sq_squeeze 82 = .ok (.iload 4, 2) := by decide +kernel
theorem d_Sq_squeeze_84 : decode b_Sq_squeeze 84 = .ok (.iload 6, 2) := by decide +kernel
theorem d_Sq_squeeze_86 : decode b_Sq_squeeze 86 = .ok (.aload_n 3, 1) := by decide +kernel
theorem d_Sq_squeeze_87 : decode b_Sq_squeeze 87 = .ok (.invokevirtual 49, 3) := by decide +kernel
theorem d_Sq_squeeze_90 : decode b_Sq_squeeze 90 = .ok (.iload 6, 2) := by decide +kernel
theorem d_Sq_squeeze_92 : decode b_Sq_squeeze 92 = .ok (.istore 7, 2) := by decide +kernel
theorem d_Sq_squeeze_94 : decode b_Sq_squeeze 94 = .ok (.iload 7, 2) := by decide +kernel
theorem d_Sq_squeeze_96 : decode b_Sq_squeeze 96 = .ok (.istore 4, 2) := by decide +kernel
theorem d_Sq_squeeze_98 : decode b_Sq_squeeze 98 = .ok (.iinc 5 1, 3) := by decide +kernel
theorem d_Sq_squeeze_101 : decode b_Sq_squeeze 101 = .ok (.goto (-60), 3) := by decide +kernel
theorem d_Sq_squeeze_104 : decode b_Sq_squeeze 104 = .ok (.iload 4, 2) := by decide +kernel
theorem d_Sq_squeeze_106 : decode b_Sq_squeeze 106 = .ok (.iconst (-1), 1) := by decide +kernel
theorem d_Sq_squeeze_107 : decode b_Sq_squeeze 107 = .ok (.if_icmp .eq 10, 3) := by decide +kernel
theorem d_Sq_squeeze_110 : decode b_Sq_squeeze 110 = .ok (.aload_n 0, 1) := by decide +kernel
theorem d_Sq_squeeze_111 : decode b_Sq_squeeze 111 = .ok (.iload 4, 2) := by decide +kernel
theorem d_Sq_squeeze_113 : decode b_Sq_squeeze 113 = .ok (.aload_n 3, 1) := by decide +kernel
theorem d_Sq_squeeze_114 : decode b_Sq_squeeze 114 = .ok (.invokevirtual 45, 3) := by decide +kernel
theorem d_Sq_squeeze_117 : decode b_Sq_squeeze 117 = .ok (.aload_n 0, 1) := by decide +kernel
theorem d_Sq_squeeze_118 : decode b_Sq_squeeze 118 = .ok (.getfield 53, 3) := by decide +kernel
theorem d_Sq_squeeze_121 : decode b_Sq_squeeze 121 = .ok (.ifCond .le 11, 3) := by decide +kernel
theorem d_Sq_squeeze_124 : decode b_Sq_squeeze 124 = .ok (.aload_n 3, 1) := by decide +kernel
theorem d_Sq_squeeze_125 : decode b_Sq_squeeze 125 = .ok (.aload_n 0, 1) := by decide +kernel
theorem d_Sq_squeeze_126 : decode b_Sq_squeeze 126 = .ok (.getfield 56, 3) := by decide +kernel
theorem d_Sq_squeeze_129 : decode b_Sq_squeeze 129 = .ok (.invokevirtual 26, 3) := by decide +kernel
theorem d_Sq_squeeze_132 : decode b_Sq_squeeze 132 = .ok (.return_, 1) := by decide +kernel
theorem d_Mc_isWidth_0 : decode b_Mc_isWidth 0 = .ok (.iload_n 0, 1) := by decide +kernel
theorem d_Mc_isWidth_1 : decode b_Mc_isWidth 1 = .ok (.bipush 9, 2) := by decide +kernel
theorem d_Mc_isWidth_3 : decode b_Mc_isWidth 3 = .ok (.if_icmp .lt 13, 3) := by decide +kernel
theorem d_Mc_isWidth_6 : decode b_Mc_isWidth 6 = .ok (.iload_n 0, 1) := by decide +kernel
theorem d_Mc_isWidth_7 : decode b_Mc_isWidth 7 = .ok (.bipush 16, 2) := by decide +kernel
theorem d_Mc_isWidth_9 : decode b_Mc_isWidth 9 = .ok (.if_icmp .gt 7, 3) := by decide +kernel
theorem d_Mc_isWidth_12 : decode b_Mc_isWidth 12 = .ok (.iconst 1, 1) := by decide +kernel
theorem d_Mc_isWidth_13 : decode b_Mc_isWidth 13 = .ok (.goto 4, 3) := by decide +kernel
theorem d_Mc_isWidth_16 : decode b_Mc_isWidth 16 = .ok (.iconst 0, 1) := by decide +kernel
theorem d_Mc_isWidth_17 : decode b_Mc_isWidth 17 = .ok (.ireturn, 1) := by decide +kernel
theorem d_Ex_begin_0 : decode b_Ex_begin 0 = .ok (.aload_n 0, 1) := by decide +kernel
theorem d_Ex_begin_1 : decode b_Ex_begin 1 = .ok (.sipush 257, 3) := by decide +kernel
theorem d_Ex_begin_4 : decode b_Ex_begin 4 = .ok (.putfield 38, 3) := by decide +kernel
theorem d_Ex_begin_7 : decode b_Ex_begin 7 = .ok (.aload_n 0, 1) := by decide +kernel
theorem d_Ex_begin_8 : decode b_Ex_begin 8 = .ok (.bipush 9, 2) := by decide +kernel
theorem d_Ex_begin_10 : decode b_Ex_begin 10 = .ok (.putfield 52, 3) := by decide +kernel
theorem d_Ex_begin_13 : decode b_Ex_begin 13 = .ok (.aload_n 0, 1) := by decide +kernel
theorem d_Ex_begin_14 : decode b_Ex_begin 14 = .ok (.iconst 0, 1) := by decide +kernel
theorem d_Ex_begin_15 : decode b_Ex_begin 15 = .ok (.putfield 55, 3) := by decide +kernel
theorem d_Ex_begin_18 : decode b_Ex_begin 18 = .ok (.aload_n 0, 1) := by decide +kernel
theorem d_Ex_begin_19 : decode b_Ex_begin 19 = .ok (.iconst 3, 1) := by decide +kernel
theorem d_Ex_begin_20 : decode b_Ex_begin 20 = .ok (.putfield 58, 3) := by decide +kernel
theorem d_Ex_begin_23 : decode b_Ex_begin 23 = .ok (.return_, 1) := by decide +kernel
theorem d_Ex_changeWidth_0 : decode b_Ex_changeWidth 0 = .ok (.aload_n 0, 1) := by decide +kernel
theorem d_Ex_changeWidth_1 : decode b_Ex_changeWidth 1 = .ok (.dup, 1) := by decide +kernel
theorem d_Ex_changeWidth_2 : decode b_Ex_changeWidth 2 = .ok (.getfield 58, 3) := by decide +kernel
theorem d_Ex_changeWidth_5 : decode b_Ex_changeWidth 5 = .ok (.aload_n 0, 1) := by decide +kernel
theorem d_Ex_changeWidth_6 : decode b_Ex_changeWidth 6 = .ok (.getfield 55, 3) := by decide +kernel
theorem d_Ex_changeWidth_9 : decode b_Ex_changeWidth 9 = .ok (.bipush 7, 2) := by decide +kernel
theorem d_Ex_changeWidth_11 : decode b_Ex_changeWidth 11 = .ok (.iadd, 1) := by decide +kernel
theorem d_Ex_changeWidth_12 : decode b_Ex_changeWidth 12 = .ok (.bipush 8, 2) := by decide +kernel
theorem d_Ex_changeWidth_14 : decode b_Ex_changeWidth 14 = .ok (.idiv, 1) := by decide +kernel
theorem d_Ex_changeWidth_15 : decode b_Ex_changeWidth 15 = .ok (.aload_n 0, 1) := by decide +kernel
theorem d_Ex_changeWidth_16 : decode b_Ex_changeWidth 16 = .ok (.getfield 52, 3) := by decide +kernel
theorem d_Ex_changeWidth_19 : decode b_Ex_changeWidth 19 = .ok (.imul, 1) := by decide +kernel
theorem d_Ex_changeWidth_20 : decode b_Ex_changeWidth 20 = .ok (.iadd, 1) := by decide +kernel
theorem d_Ex_changeWidth_21 : decode b_Ex_changeWidth 21 = .ok (.putfield 58, 3) := by decide +kernel
theorem d_Ex_changeWidth_24 : decode b_Ex_changeWidth 24 = .ok (.aload_n 0, 1) := by decide +kernel
theorem d_Ex_changeWidth_25 : decode b_Ex_changeWidth 25 = .ok (.iconst 0, 1) := by decide +kernel
theorem d_Ex_changeWidth_26 : decode b_Ex_changeWidth 26 = .ok (.putfield 55, 3) := by decide +kernel
theorem d_Ex_changeWidth_29 : decode b_Ex_changeWidth 29 = .ok (.aload_n 0, 1) := by decide +kernel
theorem d_Ex_changeWidth_30 : decode b_Ex_changeWidth 30 = .ok (.iload_n 1, 1) := by decide +kernel
theorem d_Ex_changeWidth_31 : decode b_Ex_changeWidth 31 = .ok (.putfield 52, 3) := by decide +kernel
theorem d_Ex_changeWidth_34 : decode b_Ex_changeWidth 34 = .ok (.return_, 1) := by decide +kernel
theorem d_Ex_readCode_0 : decode b_Ex_readCode 0 = .ok (.aload_n 0, 1) := by decide +kernel
theorem d_Ex_readCode_1 : decode b_Ex_readCode 1 = .ok (.getfield 38, 3) := by decide +kernel
theorem d_Ex_readCode_4 : decode b_Ex_readCode 4 = .ok (.iconst 1, 1) := by decide +kernel
theorem d_Ex_readCode_5 : decode b_Ex_readCode 5 = .ok (.aload_n 0, 1) := by decide +kernel
theorem d_Ex_readCode_6 : decode b_Ex_readCode 6 = .ok (.getfield 52, 3) := by decide +kernel
theorem d_Ex_readCode_9 : decode b_Ex_readCode 9 = .ok (.ishl, 1) := by decide +kernel
theorem d_Ex_readCode_10 : decode b_Ex_readCode 10 = .ok (.if_icmp .le 24, 3) := by decide +kernel
theorem d_Ex_readCode_13 : decode b_Ex_readCode 13 = .ok (.aload_n 0, 1) := by decide +kernel
theorem d_Ex_readCode_14 : decode b_Ex_readCode 14 = .ok (.getfield 52, 3) := by decide +kernel
theorem d_Ex_readCode_17 : decode b_Ex_readCode 17 = .ok (.aload_n 0, 1) := by decide +kernel
theorem d_Ex_readCode_18 : decode b_Ex_readCode 18 = .ok (.getfield 27, 3) := by decide +kernel
theorem d_Ex_readCode_21 : decode b_Ex_readCode 21 = .ok (.if_icmp .ge 13, 3) := by decide +kernel
theorem d_Ex_readCode_24 : decode b_Ex_readCode 24 = .ok (.aload_n 0, 1) := by decide +kernel
theorem d_Ex_readCode_25 : decode b_Ex_readCode 25 = .ok (.aload_n 0, 1) := by decide +kernel
theorem d_Ex_readCode_26 : decode b_Ex_readCode 26 = .ok (.getfield 52, 3) := by decide +kernel
theorem d_Ex_readCode_29 : decode b_Ex_readCode 29 = .ok (.iconst 1, 1) := by decide +kernel
theorem d_Ex_readCode_30 : decode b_Ex_readCode 30 = .ok (.iadd, 1) := by decide +kernel
theorem d_Ex_readCode_31 : decode b_Ex_readCode 31 = .ok (.invokevirtual 61, 3) := by decide +kernel
theorem d_Ex_readCode_34 : decode b_Ex_readCode 34 = .ok (.bipush 8, 2) := by decide +kernel
theorem d_Ex_readCode_36 : decode b_Ex_readCode 36 = .ok (.aload_n 0, 1) := by decide +kernel
theorem d_Ex_readCode_37 : decode b_Ex_readCode 37 = .ok (.getfield 58, 3) := by decide +kernel
theorem d_Ex_readCode_40 : decode b_Ex_readCode 40 = .ok (.imul, 1) := by decide +kernel
theorem d_Ex_readCode_41 : decode b_Ex_readCode 41 = .ok (.aload_n 0, 1) := by decide +kernel
theorem d_Ex_readCode_42 : decode b_Ex_readCode 42 = .ok (.getfield 55, 3) := by decide +kernel
theorem d_Ex_readCode_45 : decode b_Ex_readCode 45 = .ok (.aload_n 0, 1) := by decide +kernel
theorem d_Ex_readCode_46 : decode b_Ex_readCode 46 = .ok (.getfield 52, 3) := by decide +kernel
theorem d_Ex_readCode_49 : decode b_Ex_readCode 49 = .ok (.imul, 1) := by decide +kernel
theorem d_Ex_readCode_50 : decode b_Ex_readCode 50 = .ok (.iadd, 1) := by decide +kernel
theorem d_Ex_readCode_51 : decode b_Ex_readCode 51 = .ok (.istore_n 2, 1) := by decide +kernel
theorem d_Ex_readCode_52 : decode b_Ex_readCode 52 = .ok (.iload_n 2, 1) := by decide +kernel
theorem d_Ex_readCode_53 : decode b_Ex_readCode 53 = .ok (.aload_n 0, 1) := by decide +kernel
theorem d_Ex_readCode_54 : decode b_Ex_readCode 54 = .ok (.getfield 52, 3) := by decide +kernel
theorem d_Ex_readCode_57 : decode b_Ex_readCode 57 = .ok (.iadd, 1) := by decide +kernel
theorem d_Ex_readCode_58 : decode b_Ex_readCode 58 = .ok (.bipush 8, 2) := by decide +kernel
theorem d_Ex_readCode_60 : decode b_Ex_readCode 60 = .ok (.aload_n 1, 1) := by decide +kernel
theorem d_Ex_readCode_61 : decode b_Ex_readCode 61 = .ok (.getfield 65, 3) := by decide +kernel
theorem d_Ex_readCode_64 : decode b_Ex_readCode 64 = .ok (.imul, 1) := by decide +kernel
theorem d_Ex_readCode_65 : decode b_Ex_readCode 65 = .ok (.if_icmp .le 5, 3) := by decide +kernel
theorem d_Ex_readCode_68 : decode b_Ex_readCode 68 = .ok (.iconst (-1), 1) := by decide +kernel
theorem d_Ex_readCode_69 : decode b_Ex_readCode 69 = .ok (.ireturn, 1) := by decide +kernel
theorem d_Ex_readCode_70 : decode b_Ex_readCode 70 = .ok (.aload_n 0, 1) := by decide +kernel
theorem d_Ex_readCode_71 : decode b_Ex_readCode 71 = .ok (.dup, 1) := by decide +kernel
theorem d_Ex_readCode_72 : decode b_Ex_readCode 72 = .ok (.getfield 55, 3) := by decide +kernel
theorem d_Ex_readCode_75 : decode b_Ex_readCode 75 = .ok (.iconst 1, 1) := by decide +kernel
theorem d_Ex_readCode_76 : decode b_Ex_readCode 76 = .ok (.iadd, 1) := by decide +kernel
theorem d_Ex_readCode_77 : decode b_Ex_readCode 77 = .ok (.putfield 55, 3) := by decide +kernel
theorem d_Ex_readCode_80 : decode b_Ex_readCode 80 = .ok (.iload_n 2, 1) := by decide +kernel
theorem d_Ex_readCode_81 : decode b_Ex_readCode 81 = .ok (.iconst 3, 1) := by decide +kernel
theorem d_Ex_readCode_82 : decode b_Ex_readCode 82 = .ok (.ishr, 1) := by decide +kernel
theorem d_Ex_readCode_83 : decode b_Ex_readCode 83 = .ok (.istore_n 3, 1) := by decide +kernel
theorem d_Ex_readCode_84 : decode b_Ex_readCode 84 = .ok (.aload_n 1, 1) := by decide +kernel
theorem d_Ex_readCode_85 : decode b_Ex_readCode 85 = .ok (.iload_n 3, 1) := by decide +kernel
theorem d_Ex_readCode_86 : decode b_Ex_readCode 86 = .ok (.invokevirtual 23, 3) := by decide +kernel
theorem d_Ex_readCode_89 : decode b_Ex_readCode 89 = .ok (.aload_n 1, 1) := by decide +kernel
theorem d_Ex_readCode_90 : decode b_Ex_readCode 90 = .ok (.iload_n 3, 1) := by decide +kernel
theorem d_Ex_readCode_91 : decode b_Ex_readCode 91 = .ok (.iconst 1, 1) := by decide +kernel
theorem d_Ex_readCode_92 : decode b_Ex_readCode 92 = .ok (.iadd, 1) := by decide +kernel
theorem d_Ex_readCode_93 : decode b_Ex_readCode 93 = .ok (.invokevirtual 23, 3) := by decide +kernel
theorem d_Ex_readCode_96 : decode b_Ex_readCode 96 = .ok (.bipush 8, 2) := by decide +kernel
theorem d_Ex_readCode_98 : decode b_Ex_readCode 98 = .ok (.ishl, 1) := by decide +kernel
theorem d_Ex_readCode_99 : decode b_Ex_readCode 99 = .ok (.ior, 1) := by decide +kernel
theorem d_Ex_readCode_100 : decode b_Ex_readCode 100 = .ok (.aload_n 1, 1) := by decide +kernel
theorem d_Ex_readCode_101 : decode b_Ex_readCode 101 = .ok (.iload_n 3, 1) := by decide +kernel
theorem d_Ex_readCode_102 : decode b_Ex_readCode 102 = .ok (.iconst 2, 1) := by decide +kernel
theorem d_Ex_readCode_103 : decode b_Ex_readCode 103 = .ok (.iadd, 1) := by decide +kernel
theorem d_Ex_readCode_104 : decode b_Ex_readCode 104 = .ok (.invokevirtual 23, 3) := by decide +kernel
theorem d_Ex_readCode_107 : decode b_Ex_readCode 107 = .ok (.iconst 0, 1) := by decide +kernel
theorem d_Ex_readCode_108 : decode b_Ex_readCode 108 = .ok (.invokestatic 68, 3) := by decide +kernel
theorem d_Ex_readCode_111 : decode b_Ex_readCode 111 = .ok (.bipush 16, 2) := by decide +kernel
theorem d_Ex_readCode_113 : decode b_Ex_readCode 113 = .ok (.ishl, 1) := by decide +kernel
theorem d_Ex_readCode_114 : decode b_Ex_readCode 114 = .ok (.ior, 1) := by decide +kernel
theorem d_Ex_readCode_115 : decode b_Ex_readCode 115 = .ok (.istore 4, 2) := by decide +kernel
theorem d_Ex_readCode_117 : decode b_Ex_readCode 117 = .ok (.iload 4, 2) := by decide +kernel
theorem d_Ex_readCode_119 : decode b_Ex_readCode 119 = .ok (.iload_n 2, 1) := by decide +kernel
theorem d_Ex_readCode_120 : decode b_Ex_readCode 120 = .ok (.bipush 7, 2) := by decide +kernel
theorem d_Ex_readCode_122 : decode b_Ex_readCode 122 = .ok (.iand, 1) := by decide +kernel
theorem d_Ex_readCode_123 : decode b_Ex_readCode 123 = .ok (.iushr, 1) := by decide +kernel
theorem d_Ex_readCode_124 : decode b_Ex_readCode 124 = .ok (.iconst 1, 1) := by decide +kernel
theorem d_Ex_readCode_125 : decode b_Ex_readCode 125 = .ok (.aload_n 0, 1) := by decide +kernel
theorem d_Ex_readCode_126 : decode b_Ex_readCode 126 = .ok (.getfield 52, 3) := by decide +kernel
theorem d_Ex_readCode_129 : decode b_Ex_readCode 129 = .ok (.ishl, 1) := by decide +kernel
theorem d_Ex_readCode_130 : decode b_Ex_readCode 130 = .ok (.iconst 1, 1) := by decide +kernel
theorem d_Ex_readCode_131 : decode b_Ex_readCode 131 = .ok (.isub, 1) := by decide +kernel
theorem d_Ex_readCode_132 : decode b_Ex_readCode 132 = .ok (.iand, 1) := by decide +kernel
theorem d_Ex_readCode_133 : decode b_Ex_readCode 133 = .ok (.ireturn, 1) := by decide +kernel
theorem d_Ex_tell_0 : decode b_Ex_tell 0 = .ok (.iload_n 1, 1) := by decide +kernel
theorem d_Ex_tell_1 : decode b_Ex_tell 1 = .ok (.sipush 256, 3) := by decide +kernel
theorem d_Ex_tell_4 : decode b_Ex_tell 4 = .ok (.if_icmp .eq 18, 3) := by decide +kernel
theorem d_Ex_tell_7 : decode b_Ex_tell 7 = .ok (.iload_n 1, 1) := by decide +kernel
theorem d_Ex_tell_8 : decode b_Ex_tell 8 = .ok (.sipush 257, 3) := by decide +kernel
theorem d_Ex_tell_11 : decode b_Ex_tell 11 = .ok (.if_icmp .lt 13, 3) := by decide +kernel
theorem d_Ex_tell_14 : decode b_Ex_tell 14 = .ok (.iload_n 1, 1) := by decide +kernel
theorem d_Ex_tell_15 : decode b_Ex_tell 15 = .ok (.aload_n 0, 1) := by decide +kernel
theorem d_Ex_tell_16 : decode b_Ex_tell 16 = .ok (.getfield 38, 3) := by decide +kernel
theorem d_Ex_tell_19 : decode b_Ex_tell 19 = .ok (.if_icmp .lt 5, 3) := by decide +kernel
theorem d_Ex_tell_22 : decode b_Ex_tell 22 = .ok (.iconst 0, 1) := by decide +kernel
theorem d_Ex_tell_23 : decode b_Ex_tell 23 = .ok (.ireturn, 1) := by decide +kernel
theorem d_Ex_tell_24 : decode b_Ex_tell 24 = .ok (.aload_n 2, 1) := by decide +kernel
theorem d_Ex_tell_25 : decode b_Ex_tell 25 = .ok (.getfield 65, 3) := by decide +kernel
theorem d_Ex_tell_28 : decode b_Ex_tell 28 = .ok (.istore_n 3, 1) := by decide +kernel
theorem d_Ex_tell_29 : decode b_Ex_tell 29 = .ok (.iload_n 1, 1) := by decide +kernel
theorem d_Ex_tell_30 : decode b_Ex_tell 30 = .ok (.sipush 256, 3) := by decide +kernel
theorem d_Ex_tell_33 : decode b_Ex_tell 33 = .ok (.if_icmp .ge 7, 3) := by decide +kernel
theorem d_Ex_tell_36 : decode b_Ex_tell 36 = .ok (.iconst 1, 1) := by decide +kernel
theorem d_Ex_tell_37 : decode b_Ex_tell 37 = .ok (.goto 9, 3) := by decide +kernel
theorem d_Ex_tell_40 : decode b_Ex_tell 40 = .ok (.aload_n 0, 1) := by decide +kernel
theorem d_Ex_tell_41 : decode b_Ex_tell 41 = .ok (.getfield 15, 3) := by decide +kernel
theorem d_Ex_tell_44 : decode b_Ex_tell 44 = .ok (.iload_n 1, 1) := by decide +kernel
theorem d_Ex_tell_45 : decode b_Ex_tell 45 = .ok (.iaload, 1) := by decide +kernel
theorem d_Ex_tell_46 : decode b_Ex_tell 46 = .ok (.istore 4, 2) := by decide +kernel
theorem d_Ex_tell_48 : decode b_Ex_tell 48 = .ok (.iload 4, 2) := by decide +kernel
theorem d_Ex_tell_50 : decode b_Ex_tell 50 = .ok (.aload_n 2, 1) := by decide +kernel
theorem d_Ex_tell_51 : decode b_Ex_tell 51 = .ok (.invokevirtual 74, 3) := by decide +kernel
theorem d_Ex_tell_54 : decode b_Ex_tell 54 = .ok (.if_icmp .gt 13, 3) := by decide +kernel
theorem d_Ex_tell_57 : decode b_Ex_tell 57 = .ok (.aload_n 0, 1) := by decide +kernel
theorem d_Ex_tell_58 : decode b_Ex_tell 58 = .ok (.getfield 38, 3) := by decide +kernel
theorem d_Ex_tell_61 : decode b_Ex_tell 61 = .ok (.sipush 16384, 3) := by decide +kernel
theorem d_Ex_tell_64 : decode b_Ex_tell 64 = .ok (.if_icmp .lt 5, 3) := by decide +kernel
theorem d_Ex_tell_67 : decode b_Ex_tell 67 = .ok (.iconst 0, 1) := by decide +kernel
theorem d_Ex_tell_68 : decode b_Ex_tell 68 = .ok (.ireturn, 1) := by decide +kernel
theorem d_Ex_tell_69 : decode b_Ex_tell 69 = .ok (.iconst 0, 1) := by decide +kernel
theorem d_Ex_tell_70 : decode b_Ex_tell 70 = .ok (.istore 5, 2) := by decide +kernel
theorem d_Ex_tell_72 : decode b_Ex_tell 72 = .ok (.iload 5, 2) := by decide +kernel
theorem d_Ex_tell_74 : decode b_Ex_tell 74 = .ok (.iload 4, 2) := by decide +kernel
theorem d_Ex_tell_76 : decode b_Ex_tell 76 = .ok (.if_icmp .ge 37, 3) := by decide +kernel
theorem d_Ex_tell_79 : decode b_Ex_tell 79 = .ok (.aload_n 2, 1) := by decide +kernel
theorem d_Ex_tell_80 : decode b_Ex_tell 80 = .ok (.iload_n 1, 1) := by decide +kernel
theorem d_Ex_tell_81 : decode b_Ex_tell 81 = .ok (.sipush 256, 3) := by decide +kernel
theorem d_Ex_tell_84 : decode b_Ex_tell 84 = .ok (.if_icmp .ge 7, 3) := by decide +kernel
theorem d_Ex_tell_87 : decode b_Ex_tell 87 = .ok (.iload_n 1, 1) := by decide +kernel
theorem d_Ex_tell_88 : decode b_Ex_tell 88 = .ok (.goto 16, 3) := by decide +kernel
theorem d_Ex_tell_91 : decode b_Ex_tell 91 = .ok (.aload_n 2, 1) := by decide +kernel
theorem d_Ex_tell_92 : decode b_Ex_tell 92 = .ok (.aload_n 0, 1) := by decide +kernel
theorem d_Ex_tell_93 : decode b_Ex_tell 93 = .ok (.getfield 9, 3) := by decide +kernel
theorem d_Ex_tell_96 : decode b_Ex_tell 96 = .ok (.iload_n 1, 1) := by decide +kernel
theorem d_Ex_tell_97 : decode b_Ex_tell 97 = .ok (.iaload, 1) := by decide +kernel
theorem d_Ex_tell_98 : decode b_Ex_tell 98 = .ok (.iload 5, 2) := by decide +kernel
theorem d_Ex_tell_100 : decode b_Ex_tell 100 = .ok (.iadd, 1) := by decide +kernel
theorem d_Ex_tell_101 : decode b_Ex_tell 101 = .ok (.invokevirtual 23, 3) := by decide +kernel
theorem d_Ex_tell_104 : decode b_Ex_tell 104 = .ok (.invokevirtual 78, 3) := by decide +kernel
theorem d_Ex_tell_107 : decode b_Ex_tell 107 = .ok (.iinc 5 1, 3) := by decide +kernel
theorem d_Ex_tell_110 : decode b_Ex_tell 110 = .ok (.goto (-38), 3) := by decide +kernel
theorem d_Ex_tell_113 : decode b_Ex_tell 113 = .ok (.aload_n 0, 1) := by decide +kernel
theorem d_Ex_tell_114 : decode b_Ex_tell 114 = .ok (.getfield 9, 3) := by decide +kernel
theorem d_Ex_tell_117 : decode b_Ex_tell 117 = .ok (.aload_n 0, 1) := by decide +kernel
theorem d_Ex_tell_118 : decode b_Ex_tell 118 = .ok (.getfield 38, 3) := by decide +kernel
theorem d_Ex_tell_121 : decode b_Ex_tell 121 = .ok (.iload_n 3, 1) := by decide +kernel
theorem d_Ex_tell_122 : decode b_Ex_tell 122 = .ok (.iastore, 1) := by decide +kernel
theorem d_Ex_tell_123 : decode b_Ex_tell 123 = .ok (.aload_n 0, 1) := by decide +kernel
theorem d_Ex_tell_124 : decode b_Ex_tell 124 = .ok (.getfield 15, 3) := by decide +kernel
theorem d_Ex_tell_127 : decode b_Ex_tell 127 = .ok (.aload_n 0, 1) := by decide +kernel
theorem d_Ex_tell_128 : decode b_Ex_tell 128 = .ok (.getfield 38, 3) := by decide +kernel
theorem d_Ex_tell_131 : decode b_Ex_tell 131 = .ok (.iload 4, 2) := by decide +kernel
theorem d_Ex_tell_133 : decode b_Ex_tell 133 = .ok (.iconst 1, 1) := by decide +kernel
theorem d_Ex_tell_134 : decode b_Ex_tell 134 = .ok (.iadd, 1) := by decide +kernel
theorem d_Ex_tell_135 : decode b_Ex_tell 135 = .ok (.iastore, 1) := by decide +kernel
theorem d_Ex_tell_136 : decode b_Ex_tell 136 = .ok (.iconst 1, 1) := by decide +kernel
theorem d_Ex_tell_137 : decode b_Ex_tell 137 = .ok (.ireturn, 1) := by decide +kernel
theorem d_Ex_restart_0 : decode b_Ex_restart 0 = .ok (.aload_n 0, 1) := by decide +kernel
theorem d_Ex_restart_1 : decode b_Ex_restart 1 = .ok (.bipush 9, 2) := by decide +kernel
theorem d_Ex_restart_3 : decode b_Ex_restart 3 = .ok (.invokevirtual 61, 3) := by decide +kernel
theorem d_Ex_restart_6 : decode b_Ex_restart 6 = .ok (.aload_n 0, 1) := by decide +kernel
theorem d_Ex_restart_7 : decode b_Ex_restart 7 = .ok (.sipush 257, 3) := by decide +kernel
theorem d_Ex_restart_10 : decode b_Ex_restart 10 = .ok (.putfield 38, 3) := by decide +kernel
theorem d_Ex_restart_13 : decode b_Ex_restart 13 = .ok (.return_, 1) := by decide +kernel
theorem d_Ex_expand_0 : decode b_Ex_expand 0 = .ok (.aload_n 2, 1) := by decide +kernel
theorem d_Ex_expand_1 : decode b_Ex_expand 1 = .ok (.invokevirtual 18, 3) := by decide +kernel
theorem d_Ex_expand_4 : decode b_Ex_expand 4 = .ok (.aload_n 0, 1) := by decide +kernel
theorem d_Ex_expand_5 : decode b_Ex_expand 5 = .ok (.aload_n 1, 1) := by decide +kernel
theorem d_Ex_expand_6 : decode b_Ex_expand 6 = .ok (.iconst 2, 1) := by decide +kernel
theorem d_Ex_expand_7 : decode b_Ex_expand 7 = .ok (.invokevirtual 23, 3) := by decide +kernel
theorem d_Ex_expand_10 : decode b_Ex_expand 10 = .ok (.sipush 128, 3) := by decide +kernel
theorem d_Ex_expand_13 : decode b_Ex_expand 13 = .ok (.isub, 1) := by decide +kernel
theorem d_Ex_expand_14 : decode b_Ex_expand 14 = .ok (.putfield 27, 3) := by decide +kernel
theorem d_Ex_expand_17 : decode b_Ex_expand 17 = .ok (.aload_n 1, 1) := by decide +kernel
theorem d_Ex_expand_18 : decode b_Ex_expand 18 = .ok (.iconst 0, 1) := by decide +kernel
theorem d_Ex_expand_19 : decode b_Ex_expand 19 = .ok (.invokevirtual 23, 3) := by decide +kernel
theorem d_Ex_expand_22 : decode b_Ex_expand 22 = .ok (.bipush 31, 2) := by decide +kernel
theorem d_Ex_expand_24 : decode b_Ex_expand 24 = .ok (.if_icmp .ne 24, 3) := by decide +kernel
theorem d_Ex_expand_27 : decode b_Ex_expand 27 = .ok (.aload_n 1, 1) := by decide +kernel
theorem d_Ex_expand_28 : decode b_Ex_expand 28 = .ok (.iconst 1, 1) := by decide +kernel
theorem d_Ex_expand_29 : decode b_Ex_expand 29 = .ok (.invokevirtual 23, 3) := by decide +kernel
theorem d_Ex_expand_32 : decode b_Ex_expand 32 = .ok (.sipush 157, 3) := by decide +kernel
theorem d_Ex_expand_35 : decode b_Ex_expand 35 = .ok (.if_icmp .ne 13, 3) := by decide +kernel
theorem d_Ex_expand_38 : decode b_Ex_expand 38 = .ok (.aload_n 0, 1) := by decide +kernel
theorem d_Ex_expand_39 : decode b_Ex_expand 39 = .ok (.getfield 27, 3) := by decide +kernel
theorem d_Ex_expand_42 : decode b_Ex_expand 42 = .ok (.invokestatic 31, 3) := by decide +kernel
theorem d_Ex_expand_45 : decode b_Ex_expand 45 = .ok (.ifCond .ne 5, 3) := by decide +kernel
theorem d_Ex_expand_48 : decode b_Ex_expand 48 = .ok (.iconst 0, 1) := by decide +kernel
theorem d_Ex_expand_49 : decode b_Ex_expand 49 = .ok (.ireturn, 1) := by decide +kernel
theorem d_Ex_expand_50 : decode b_Ex_expand 50 = .ok (.aload_n 0, 1) := by decide +kernel
theorem d_Ex_expand_51 : decode b_Ex_expand 51 = .ok (.invokevirtual 35, 3) := by decide +kernel
theorem d_Ex_expand_54 : decode b_Ex_expand 54 = .ok (.iconst 1, 1) := by decide +kernel
theorem d_Ex_expand_55 : decode b_Ex_expand 55 = .ok (.istore_n 3, 1) := by decide +kernel
theorem d_Ex_expand_56 : decode b_Ex_expand 56 = .ok (.iconst 0, 1) := by decide +kernel
theorem d_Ex_expand_57 : decode b_Ex_expand 57 = .ok (.istore 4, 2) := by decide +kernel
theorem d_Ex_expand_59 : decode b_Ex_expand 59 = .ok (.iload 4, 2) := by decide +kernel
theorem d_Ex_expand_61 : decode b_Ex_expand 61 = .ok (.sipush 30000, 3) := by decide +kernel
theorem d_Ex_expand_64 : decode b_Ex_expand 64 = .ok (.if_icmp .ge 107, 3) := by decide +kernel
theorem d_Ex_expand_67 : decode b_Ex_expand 67 = .ok (.iload_n 3, 1) := by decide +kernel
theorem d_Ex_expand_68 : decode b_Ex_expand 68 = .ok (.ifCond .ne 20, 3) := by decide +kernel
theorem d_Ex_expand_71 : decode b_Ex_expand 71 = .ok (.aload_n 0, 1) := by decide +kernel
theorem d_Ex_expand_72 : decode b_Ex_expand 72 = .ok (.getfield 38, 3) := by decide +kernel
theorem d_Ex_expand_75 : decode b_Ex_expand 75 = .ok (.iconst 1, 1) := by decide +kernel
theorem d_Ex_expand_76 : decode b_Ex_expand 76 = .ok (.aload_n 0, 1) := by decide +kernel
theorem d_Ex_expand_77 : decode b_Ex_expand 77 = .ok (.getfield 27, 3) := by decide +kernel
theorem d_Ex_expand_80 : decode b_Ex_expand 80 = .ok (.ishl, 1) := by decide +kernel
theorem d_Ex_expand_81 : decode b_Ex_expand 81 = .ok (.if_icmp .lt 7, 3) := by decide +kernel
theorem d_Ex_expand_84 : decode b_Ex_expand 84 = .ok (.iconst 1, 1) := by decide +kernel
theorem d_Ex_expand_85 : decode b_Ex_expand 85 = .ok (.goto 4, 3) := by decide +kernel
theorem d_Ex_expand_88 : decode b_Ex_expand 88 = .ok (.iconst 0, 1) := by decide +kernel
theorem d_Ex_expand_89 : decode b_Ex_expand 89 = .ok (.istore 5, 2) := by decide +kernel
theorem d_Ex_expand_91 : decode b_Ex_expand 91 = .ok (.iload_n 3, 1) := by decide +kernel
theorem d_Ex_expand_92 : decode b_Ex_expand 92 = .ok (.ifCond .ne 18, 3) := by decide +kernel
theorem d_Ex_expand_95 : decode b_Ex_expand 95 = .ok (.iload 5, 2) := by decide +kernel
theorem d_Ex_expand_97 : decode b_Ex_expand 97 = .ok (.ifCond .ne 13, 3) := by decide +kernel
theorem d_Ex_expand_100 : decode b_Ex_expand 100 = .ok (.aload_n 0, 1) := by decide +kernel
theorem d_Ex_expand_101 : decode b_Ex_expand 101 = .ok (.dup, 1) := by decide +kernel
theorem d_Ex_expand_102 : decode b_Ex_expand 102 = .ok (.getfield 38, 3) := by decide +kernel
theorem d_Ex_expand_105 : decode b_Ex_expand 105 = .ok (.iconst 1, 1) := by decide +kernel
theorem d_Ex_expand_106 : decode b_Ex_expand 106 = .ok (.iadd, 1) := by decide +kernel
theorem d_Ex_expand_107 : decode b_Ex_expand 107 = .ok (.putfield 38, 3) := by decide +kernel
theorem d_Ex_expand_110 : decode b_Ex_expand 110 = .ok (.aload_n 0, 1) := by decide +kernel
theorem d_Ex_expand_111 : decode b_Ex_expand 111 = .ok (.aload_n 1, 1) := by decide +kernel
theorem d_Ex_expand_112 : decode b_Ex_expand 112 = .ok (.invokevirtual 41, 3) := by decide +kernel
theorem d_Ex_expand_115 : decode b_Ex_expand 115 = .ok (.istore 6, 2) := by decide +kernel
theorem d_Ex_expand_117 : decode b_Ex_expand 117 = .ok (.iload 6, 2) := by decide +kernel
theorem d_Ex_expand_119 : decode b_Ex_expand 119 = .ok (.iconst (-1), 1) := by decide +kernel
theorem d_Ex_expand_120 : decode b_Ex_expand 120 = .ok (.if_icmp .ne 5, 3) := by decide +kernel
theorem d_Ex_expand_123 : decode b_Ex_expand 123 = .ok (.iconst 1, 1) := by decide +kernel
theorem d_Ex_expand_124 : decode b_Ex_expand 124 = .ok (.ireturn, 1) := by decide +kernel
theorem d_Ex_expand_125 : decode b_Ex_expand 125 = .ok (.iload 5, 2) := by decide +kernel
theorem d_Ex_expand_127 : decode b_Ex_expand 127 = .ok (.ifCond .eq 14, 3) := by decide +kernel
theorem d_Ex_expand_130 : decode b_Ex_expand 130 = .ok (.iload 6, 2) := by decide +kernel
theorem d_Ex_expand_132 : decode b_Ex_expand 132 = .ok (.sipush 256, 3) := by decide +kernel
theorem d_Ex_expand_135 : decode b_Ex_expand 135 = .ok (.if_icmp .eq 18, 3) := by decide +kernel
theorem d_Ex_expand_138 : decode b_Ex_expand 138 = .ok (.goto 13, 3) := by decide +kernel
theorem d_Ex_expand_141 : decode b_Ex_expand 141 = .ok (.aload_n 0, 1) := by decide +kernel
theorem d_Ex_expand_142 : decode b_Ex_expand 142 = .ok (.iload 6, 2) := by decide +kernel
theorem d_Ex_expand_144 : decode b_Ex_expand 144 = .ok (.aload_n 2, 1) := by decide +kernel
theorem d_Ex_expand_145 : decode b_Ex_expand 145 = .ok (.invokevirtual 45, 3) := by decide +kernel
theorem d_Ex_expand_148 : decode b_Ex_expand 148 = .ok (.ifCond .ne 5, 3) := by decide +kernel
theorem d_Ex_expand_151 : decode b_Ex_expand 151 = .ok (.iconst 0, 1) := by decide +kernel
theorem d_Ex_expand_152 : decode b_Ex_expand 152 = .ok (.ireturn, 1) := by decide +kernel
theorem d_Ex_expand_153 : decode b_Ex_expand 153 = .ok (.iload 5, 2) := by decide +kernel
theorem d_Ex_expand_155 : decode b_Ex_expand 155 = .ok (.ifCond .eq 7, 3) := by decide +kernel
theorem d_Ex_expand_158 : decode b_Ex_expand 158 = .ok (.aload_n 0, 1) := by decide +kernel
theorem d_Ex_expand_159 : decode b_Ex_expand 159 = .ok (.invokevirtual 49, 3) := by decide +kernel
theorem d_Ex_expand_162 : decode b_Ex_expand 162 = .ok (.iload 5, 2) := by decide +kernel
theorem d_Ex_expand_164 : decode b_Ex_expand 164 = .ok (.istore_n 3, 1) := by decide +kernel
theorem d_Ex_expand_165 : decode b_Ex_expand 165 = .ok (.iinc 4 1, 3) := by decide +kernel
theorem d_Ex_expand_168 : decode b_Ex_expand 168 = .ok (.goto (-109), 3) := by decide +kernel
theorem d_Ex_expand_171 : decode b_Ex_expand 171 = .ok (.iconst 0, 1) := by decide +kernel
theorem d_Ex_expand_172 : decode b_Ex_expand 172 = .ok (.ireturn, 1) := by decide +kernel
theorem d_Sp_letter_0 : decode b_Sp_letter 0 = .ok (.iload_n 0, 1) := by decide +kernel
theorem d_Sp_letter_1 : decode b_Sp_letter 1 = .ok (.ifCond .ne 8, 3) := by decide +kernel
theorem d_Sp_letter_4 : decode b_Sp_letter 4 = .ok (.bipush 96, 2) := by decide +kernel
theorem d_Sp_letter_6 : decode b_Sp_letter 6 = .ok (.goto 7, 3) := by decide +kernel
theorem d_Sp_letter_9 : decode b_Sp_letter 9 = .ok (.bipush 32, 2) := by decide +kernel
theorem d_Sp_letter_11 : decode b_Sp_letter 11 = .ok (.iload_n 0, 1) := by decide +kernel
theorem d_Sp_letter_12 : decode b_Sp_letter 12 = .ok (.iadd, 1) := by decide +kernel
theorem d_Sp_letter_13 : decode b_Sp_letter 13 = .ok (.ireturn, 1) := by decide +kernel
set_option maxRecDepth 100000 in
set_option maxHeartbeats 4000000 in
theorem Met_Bo_take (l : Launch) (B : Nat) (D : va_G) (aC : Nat → ClassId) (aS : Nat → Nat) {a0 : Nat} {a1 : Nat} {M : zM} {post : Int32 → zM → Prop} (hk0 : a0 < N0) (ht0 : tg a0 = 6) (hk1 : a1 < N0) (ht1 : tg a1 = 1) (h : Wp_Bo_take a0 a1 M post) : Met l y_Bo_take (wo y_Bo_take b_Bo_take 2 (some FieldType.int)) { frames := 7, cells := 0, slots := 0, locals := 158 } (va_Pc [.ref (B + a0), .ref (B + a1)] (zWl B D aC aS M)) (zQi B D aC post) 0 0 (zAb B) := by
  refine z_met (own := "MailChain$Box") (lv0 := [(0, .ref (B + a0)), (1, .ref (B + a1))]) (by decide) rfl (Nat.le_of_ble_eq_true rfl) rfl ?_
  intro p e s m below meth c fx hr hlo
  delta Wp_Bo_take at h
  have h := h (fun M => zAt p l e { frames := 7, cells := 0, slots := 0, locals := 158 } s m ([.ref (B + a0), .ref (B + a1)] : List Value).toArray below meth c 0 0 (MQ below (zQi B D aC post) ([.ref (B + a0), .ref (B + a1)] : List Value).toArray s 0 0 (zAb B)) B D aC 2 36 [(0, .ref (B + a0)), (1, .ref (B + a1))] [] M)
  have h := h (by
    intro M h
    refine a_aload_n fx 0 d_Bo_take_36 rfl rfl ?_
    refine a_getS fx (T := F_Bo) (j := 2) (hk := hk0) (ht := ht0) (ht2 := by decide) (hc := rfl) (hin := u_in_Bo) (hj := by decide) (hj2 := by decide) (hf := rfl) (n9 := 4) (hfo := rfl) (hT := rfl) (hw := w_218) (hd := d_Bo_take_37) (kk := ?_)
    refine a_aload_n fx 0 d_Bo_take_40 rfl rfl ?_
    refine a_getS fx (T := F_Bo) (j := 3) (hk := hk0) (ht := ht0) (ht2 := by decide) (hc := rfl) (hin := u_in_Bo) (hj := by decide) (hj2 := by decide) (hf := rfl) (n9 := 5) (hfo := rfl) (hT := rfl) (hw := w_219) (hd := d_Bo_take_41) (kk := ?_)
    refine a_getI fx (T := F_Pl) (j := 0) (hk := (lo_6_3 hk0 ht0).1) (ht := (lo_6_3 hk0 ht0).2) (ht2 := by decide) (hc := rfl) (hin := u_in_Pl) (hj := by decide) (hj2 := by decide) (hf := rfl) (hT := rfl) (hw := w_196) (hd := d_Bo_take_44) (kk := ?_)
    obtain ⟨hin, h⟩ := h
    refine a_iald fx (lo_6_2 hk0 ht0).1 (lo_6_2 hk0 ht0).2 hin d_Bo_take_47 ?_
    refine a_iconst (v := (-1)) fx d_Bo_take_48 rfl ?_
    refine a_icmp_eq fx 54 d_Bo_take_49 rfl (fun hc => ?_) (fun hc => ?_)
    · have h := h.1 hc
      refine a_aload_n fx 1 d_Bo_take_54 rfl rfl ?_
      refine a_getIN fx (T := F_Ro) (j := 1) (hk := hk1) (ht := ht1) (ht2 := by decide) (hc := rfl) (hin := u_in_Ro) (hj := by decide) (hj2 := by decide) (hf := rfl) (hT := rfl) (q9 := 5) (hw := rfl) (hd := d_Bo_take_55) (kk := ?_)
      refine a_aload_n fx 0 d_Bo_take_58 rfl rfl ?_
      refine a_getS fx (T := F_Bo) (j := 3) (hk := hk0) (ht := ht0) (ht2 := by decide) (hc := rfl) (hin := u_in_Bo) (hj := by decide) (hj2 := by decide) (hf := rfl) (n9 := 5) (hfo := rfl) (hT := rfl) (hw := w_219) (hd := d_Bo_take_59) (kk := ?_)
      refine a_getI fx (T := F_Pl) (j := 4) (hk := (lo_6_3 hk0 ht0).1) (ht := (lo_6_3 hk0 ht0).2) (ht2 := by decide) (hc := rfl) (hin := u_in_Pl) (hj := by decide) (hj2 := by decide) (hf := rfl) (hT := rfl) (hw := w_204) (hd := d_Bo_take_62) (kk := ?_)
      refine a_isub fx d_Bo_take_65 ?_
      refine a_aload_n fx 0 d_Bo_take_66 rfl rfl ?_
      refine a_getS fx (T := F_Bo) (j := 3) (hk := hk0) (ht := ht0) (ht2 := by decide) (hc := rfl) (hin := u_in_Bo) (hj := by decide) (hj2 := by decide) (hf := rfl) (n9 := 5) (hfo := rfl) (hT := rfl) (hw := w_219) (hd := d_Bo_take_67) (kk := ?_)
      refine a_getI fx (T := F_Pl) (j := 2) (hk := (lo_6_3 hk0 ht0).1) (ht := (lo_6_3 hk0 ht0).2) (ht2 := by decide) (hc := rfl) (hin := u_in_Pl) (hj := by decide) (hj2 := by decide) (hf := rfl) (hT := rfl) (hw := w_200) (hd := d_Bo_take_70) (kk := ?_)
      refine a_icmp_eq fx 78 d_Bo_take_73 rfl (fun hc => ?_) (fun hc => ?_)
      · have h := h.1 hc
        refine a_aload_n fx 1 d_Bo_take_78 rfl rfl ?_
        refine a_aload_n fx 0 d_Bo_take_79 rfl rfl ?_
        refine a_getS fx (T := F_Bo) (j := 3) (hk := hk0) (ht := ht0) (ht2 := by decide) (hc := rfl) (hin := u_in_Bo) (hj := by decide) (hj2 := by decide) (hf := rfl) (n9 := 5) (hfo := rfl) (hT := rfl) (hw := w_219) (hd := d_Bo_take_80) (kk := ?_)
        refine a_getI fx (T := F_Pl) (j := 4) (hk := (lo_6_3 hk0 ht0).1) (ht := (lo_6_3 hk0 ht0).2) (ht2 := by decide) (hc := rfl) (hin := u_in_Pl) (hj := by decide) (hj2 := by decide) (hf := rfl) (hT := rfl) (hw := w_204) (hd := d_Bo_take_83) (kk := ?_)
        refine a_aload_n fx 1 d_Bo_take_86 rfl rfl ?_
        refine a_getIN fx (T := F_Ro) (j := 1) (hk := hk1) (ht := ht1) (ht2 := by decide) (hc := rfl) (hin := u_in_Ro) (hj := by decide) (hj2 := by decide) (hf := rfl) (hT := rfl) (q9 := 5) (hw := rfl) (hd := d_Bo_take_87) (kk := ?_)
        refine a_calli (rest := []) (a_runV (As := [.int (M.1 (a0 + 5) 4), .int (M.1 a1 1)]) fx cv_Ro_sum w_460 (Met_Ro_sum l B D aC aS (hk0 := hk1) (ht0 := ht1) h) hk1 ht1 (by decide) rfl rfl rfl (Nat.le_of_ble_eq_true rfl) rfl rfl ⟨Nat.le_of_ble_eq_true rfl, Nat.le_of_ble_eq_true rfl⟩ d_Bo_take_90 ⟨Nat.le_of_ble_eq_true rfl, Nat.le_of_ble_eq_true rfl⟩) (fun x4 M3 h => ?_)
        refine a_i2l fx d_Bo_take_93 ?_
        refine a_ldc2 fx w_461 d_Bo_take_94 ?_
        refine a_land fx d_Bo_take_97 ?_
        refine a_aload_n fx 0 d_Bo_take_98 rfl rfl ?_
        refine a_getS fx (T := F_Bo) (j := 3) (hk := hk0) (ht := ht0) (ht2 := by decide) (hc := rfl) (hin := u_in_Bo) (hj := by decide) (hj2 := by decide) (hf := rfl) (n9 := 5) (hfo := rfl) (hT := rfl) (hw := w_219) (hd := d_Bo_take_99) (kk := ?_)
        refine a_getL fx (T := F_Pl) (j := 3) (hk := (lo_6_3 hk0 ht0).1) (ht := (lo_6_3 hk0 ht0).2) (ht2 := by decide) (hc := rfl) (hin := u_in_Pl) (hj := by decide) (hj2 := by decide) (hf := rfl) (hT := rfl) (hw := w_202) (hd := d_Bo_take_102) (kk := ?_)
        refine a_lcmp fx d_Bo_take_105 ?_
        refine a_if_eq fx 111 d_Bo_take_106 rfl (fun hc => ?_) (fun hc => ?_)
        · have h := h.1 hc
          refine a_aload_n fx 0 d_Bo_take_111 rfl rfl ?_
          refine a_aload_n fx 0 d_Bo_take_112 rfl rfl ?_
          refine a_getS fx (T := F_Bo) (j := 3) (hk := hk0) (ht := ht0) (ht2 := by decide) (hc := rfl) (hin := u_in_Bo) (hj := by decide) (hj2 := by decide) (hf := rfl) (n9 := 5) (hfo := rfl) (hT := rfl) (hw := w_219) (hd := d_Bo_take_113) (kk := ?_)
          refine a_getI fx (T := F_Pl) (j := 0) (hk := (lo_6_3 hk0 ht0).1) (ht := (lo_6_3 hk0 ht0).2) (ht2 := by decide) (hc := rfl) (hin := u_in_Pl) (hj := by decide) (hj2 := by decide) (hf := rfl) (hT := rfl) (hw := w_196) (hd := d_Bo_take_116) (kk := ?_)
          refine a_aload_n fx 0 d_Bo_take_119 rfl rfl ?_
          refine a_getS fx (T := F_Bo) (j := 3) (hk := hk0) (ht := ht0) (ht2 := by decide) (hc := rfl) (hin := u_in_Bo) (hj := by decide) (hj2 := by decide) (hf := rfl) (n9 := 5) (hfo := rfl) (hT := rfl) (hw := w_219) (hd := d_Bo_take_120) (kk := ?_)
          refine a_getI fx (T := F_Pl) (j := 1) (hk := (lo_6_3 hk0 ht0).1) (ht := (lo_6_3 hk0 ht0).2) (ht2 := by decide) (hc := rfl) (hin := u_in_Pl) (hj := by decide) (hj2 := by decide) (hf := rfl) (hT := rfl) (hw := w_198) (hd := d_Bo_take_123) (kk := ?_)
          refine a_aload_n fx 1 d_Bo_take_126 rfl rfl ?_
          refine a_aload_n fx 0 d_Bo_take_127 rfl rfl ?_
          refine a_getS fx (T := F_Bo) (j := 3) (hk := hk0) (ht := ht0) (ht2 := by decide) (hc := rfl) (hin := u_in_Bo) (hj := by decide) (hj2 := by decide) (hf := rfl) (n9 := 5) (hfo := rfl) (hT := rfl) (hw := w_219) (hd := d_Bo_take_128) (kk := ?_)
          refine a_getI fx (T := F_Pl) (j := 4) (hk := (lo_6_3 hk0 ht0).1) (ht := (lo_6_3 hk0 ht0).2) (ht2 := by decide) (hc := rfl) (hin := u_in_Pl) (hj := by decide) (hj2 := by decide) (hf := rfl) (hT := rfl) (hw := w_204) (hd := d_Bo_take_131) (kk := ?_)
          refine a_callv (rest := []) (a_runV (As := [.int (M3.1 (a0 + 5) 0), .int (M3.1 (a0 + 5) 1), .ref (B + a1), .int (M3.1 (a0 + 5) 4)]) fx cv_Bo_keep w_462 (Met_Bo_keep l B D aC aS (hk0 := hk0) (ht0 := ht0) (hk3 := hk1) (ht3 := ht1) h) hk0 ht0 (by decide) rfl rfl rfl (Nat.le_of_ble_eq_true rfl) rfl rfl ⟨Nat.le_of_ble_eq_true rfl, Nat.le_of_ble_eq_true rfl⟩ d_Bo_take_134 ⟨Nat.le_of_ble_eq_true rfl, Nat.le_of_ble_eq_true rfl⟩) (fun M5 h => ?_)
          refine a_iconst (v := 0) fx d_Bo_take_137 rfl ?_
          exact a_iret fx hlo hr h d_Bo_take_138
        · have h := h.2 hc
          refine a_iconst (v := 5) fx d_Bo_take_109 rfl ?_
          exact a_iret fx hlo hr h d_Bo_take_110
      · have h := h.2 hc
        refine a_iconst (v := 4) fx d_Bo_take_76 rfl ?_
        exact a_iret fx hlo hr h d_Bo_take_77
    · have h := h.2 hc
      refine a_iconst (v := 3) fx d_Bo_take_52 rfl ?_
      exact a_iret fx hlo hr h d_Bo_take_53)
  refine a_aload_n fx 0 d_Bo_take_0 rfl rfl ?_
  refine a_getS fx (T := F_Bo) (j := 3) (hk := hk0) (ht := ht0) (ht2 := by decide) (hc := rfl) (hin := u_in_Bo) (hj := by decide) (hj2 := by decide) (hf := rfl) (n9 := 5) (hfo := rfl) (hT := rfl) (hw := w_219) (hd := d_Bo_take_1) (kk := ?_)
  refine a_aload_n fx 1 d_Bo_take_4 rfl rfl ?_
  refine a_calli (rest := []) (a_runV (As := [.ref (B + a1)]) fx cv_Pl_read w_385 (Met_Pl_read l B D aC aS (hk0 := (lo_6_3 hk0 ht0).1) (ht0 := (lo_6_3 hk0 ht0).2) (hk1 := hk1) (ht1 := ht1) h) (lo_6_3 hk0 ht0).1 (lo_6_3 hk0 ht0).2 (by decide) rfl rfl rfl (Nat.le_of_ble_eq_true rfl) rfl rfl ⟨Nat.le_of_ble_eq_true rfl, Nat.le_of_ble_eq_true rfl⟩ d_Bo_take_5 ⟨Nat.le_of_ble_eq_true rfl, Nat.le_of_ble_eq_true rfl⟩) (fun x2 M1 h => ?_)
  refine a_if_ne fx 13 d_Bo_take_8 rfl (fun hc => ?_) (fun hc => ?_)
  · have h := h.1 hc
    refine a_aload_n fx 0 d_Bo_take_13 rfl rfl ?_
    refine a_getI fx (T := F_Bo) (j := 6) (hk := hk0) (ht := ht0) (ht2 := by decide) (hc := rfl) (hin := u_in_Bo) (hj := by decide) (hj2 := by decide) (hf := rfl) (hT := rfl) (hw := w_222) (hd := d_Bo_take_14) (kk := ?_)
    refine a_if_le fx 36 d_Bo_take_17 rfl (fun hc => ?_) (fun hc => ?_)
    · have h := h.1 hc
      refine a_sub [0, 1] rfl ?_
      exact h
    · have h := h.2 hc
      refine a_aload_n fx 0 d_Bo_take_20 rfl rfl ?_
      refine a_getS fx (T := F_Bo) (j := 3) (hk := hk0) (ht := ht0) (ht2 := by decide) (hc := rfl) (hin := u_in_Bo) (hj := by decide) (hj2 := by decide) (hf := rfl) (n9 := 5) (hfo := rfl) (hT := rfl) (hw := w_219) (hd := d_Bo_take_21) (kk := ?_)
      refine a_getI fx (T := F_Pl) (j := 1) (hk := (lo_6_3 hk0 ht0).1) (ht := (lo_6_3 hk0 ht0).2) (ht2 := by decide) (hc := rfl) (hin := u_in_Pl) (hj := by decide) (hj2 := by decide) (hf := rfl) (hT := rfl) (hw := w_198) (hd := d_Bo_take_24) (kk := ?_)
      refine a_aload_n fx 0 d_Bo_take_27 rfl rfl ?_
      refine a_getI fx (T := F_Bo) (j := 4) (hk := hk0) (ht := ht0) (ht2 := by decide) (hc := rfl) (hin := u_in_Bo) (hj := by decide) (hj2 := by decide) (hf := rfl) (hT := rfl) (hw := w_220) (hd := d_Bo_take_28) (kk := ?_)
      refine a_icmp_eq fx 36 d_Bo_take_31 rfl (fun hc => ?_) (fun hc => ?_)
      · have h := h.1 hc
        refine a_sub [0, 1] rfl ?_
        exact h
      · have h := h.2 hc
        refine a_iconst (v := 2) fx d_Bo_take_34 rfl ?_
        exact a_iret fx hlo hr h d_Bo_take_35
  · have h := h.2 hc
    refine a_iconst (v := 1) fx d_Bo_take_11 rfl ?_
    exact a_iret fx hlo hr h d_Bo_take_12
set_option maxRecDepth 100000 in
set_option maxHeartbeats 4000000 in
theorem Met_Bo_isWhole (l : Launch) (B : Nat) (D : va_G) (aC : Nat → ClassId) (aS : Nat → Nat) {a0 : Nat} {M : zM} {post : Int32 → zM → Prop} (hk0 : a0 < N0) (ht0 : tg a0 = 6) (h : Wp_Bo_isWhole a0 M post) : Met l y_Bo_isWhole (wo y_Bo_isWhole b_Bo_isWhole 1 (some FieldType.boolean)) { frames := 0, cells := 0, slots := 0, locals := 0 } (va_Pc [.ref (B + a0)] (zWl B D aC aS M)) (zQi B D aC post) 0 0 (zAb B) := by
  refine z_met (own := "MailChain$Box") (lv0 := [(0, .ref (B + a0))]) (by decide) rfl (Nat.le_of_ble_eq_true rfl) rfl ?_
  intro p e s m below meth c fx hr hlo
  delta Wp_Bo_isWhole at h
  refine a_aload_n fx 0 d_Bo_isWhole_0 rfl rfl ?_
  refine a_getI fx (T := F_Bo) (j := 6) (hk := hk0) (ht := ht0) (ht2 := by decide) (hc := rfl) (hin := u_in_Bo) (hj := by decide) (hj2 := by decide) (hf := rfl) (hT := rfl) (hw := w_222) (hd := d_Bo_isWhole_1) (kk := ?_)
  refine a_if_le fx 22 d_Bo_isWhole_4 rfl (fun hc => ?_) (fun hc => ?_)
  · have h := h.1 hc
    refine a_iconst (v := 0) fx d_Bo_isWhole_22 rfl ?_
    exact a_zret fx hlo hr rfl h d_Bo_isWhole_23
  · have h := h.2 hc
    refine a_aload_n fx 0 d_Bo_isWhole_7 rfl rfl ?_
    refine a_getI fx (T := F_Bo) (j := 6) (hk := hk0) (ht := ht0) (ht2 := by decide) (hc := rfl) (hin := u_in_Bo) (hj := by decide) (hj2 := by decide) (hf := rfl) (hT := rfl) (hw := w_222) (hd := d_Bo_isWhole_8) (kk := ?_)
    refine a_aload_n fx 0 d_Bo_isWhole_11 rfl rfl ?_
    refine a_getI fx (T := F_Bo) (j := 4) (hk := hk0) (ht := ht0) (ht2 := by decide) (hc := rfl) (hin := u_in_Bo) (hj := by decide) (hj2 := by decide) (hf := rfl) (hT := rfl) (hw := w_220) (hd := d_Bo_isWhole_12) (kk := ?_)
    refine a_icmp_ne fx 22 d_Bo_isWhole_15 rfl (fun hc => ?_) (fun hc => ?_)
    · have h := h.1 hc
      refine a_iconst (v := 0) fx d_Bo_isWhole_22 rfl ?_
      exact a_zret fx hlo hr rfl h d_Bo_isWhole_23
    · have h := h.2 hc
      refine a_iconst (v := 1) fx d_Bo_isWhole_18 rfl ?_
      refine a_goto fx 23 d_Bo_isWhole_19 rfl ?_
      exact a_zret fx hlo hr rfl h d_Bo_isWhole_23
set_option maxRecDepth 100000 in
set_option maxHeartbeats 4000000 in
theorem Met_Bo_join (l : Launch) (B : Nat) (D : va_G) (aC : Nat → ClassId) (aS : Nat → Nat) {a0 : Nat} {a1 : Nat} {M : zM} {post : Int32 → zM → Prop} (hk0 : a0 < N0) (ht0 : tg a0 = 6) (hk1 : a1 < N0) (ht1 : tg a1 = 1) (h : Wp_Bo_join a0 a1 M post) : Met l y_Bo_join (wo y_Bo_join b_Bo_join 3 (some FieldType.boolean)) { frames := 2, cells := 0, slots := 0, locals := 88 } (va_Pc [.ref (B + a0), .ref (B + a1)] (zWl B D aC aS M)) (zQi B D aC post) 0 0 (zAb B) := by
  refine z_met (own := "MailChain$Box") (lv0 := [(0, .ref (B + a0)), (1, .ref (B + a1))]) (by decide) rfl (Nat.le_of_ble_eq_true rfl) rfl ?_
  intro p e s m below meth c fx hr hlo
  delta Wp_Bo_join at h
  have h := h (fun v2 M => zAt p l e { frames := 2, cells := 0, slots := 0, locals := 88 } s m ([.ref (B + a0), .ref (B + a1)] : List Value).toArray below meth c 0 0 (MQ below (zQi B D aC post) ([.ref (B + a0), .ref (B + a1)] : List Value).toArray s 0 0 (zAb B)) B D aC 3 6 [(0, .ref (B + a0)), (1, .ref (B + a1)), (2, .int v2)] [] M)
  have h := h (by
    intro v2 M h
    refine a_iload_n fx 2 d_Bo_join_6 rfl rfl ?_
    refine a_aload_n fx 0 d_Bo_join_7 rfl rfl ?_
    refine a_getI fx (T := F_Bo) (j := 4) (hk := hk0) (ht := ht0) (ht2 := by decide) (hc := rfl) (hin := u_in_Bo) (hj := by decide) (hj2 := by decide) (hf := rfl) (hT := rfl) (hw := w_220) (hd := d_Bo_join_8) (kk := ?_)
    refine a_icmp_gt fx 47 d_Bo_join_11 rfl (fun hc => ?_) (fun hc => ?_)
    · have h := h.1 hc
      refine a_aload_n fx 0 d_Bo_join_47 rfl rfl ?_
      refine a_getI fx (T := F_Bo) (j := 5) (hk := hk0) (ht := ht0) (ht2 := by decide) (hc := rfl) (hin := u_in_Bo) (hj := by decide) (hj2 := by decide) (hf := rfl) (hT := rfl) (hw := w_221) (hd := d_Bo_join_48) (kk := ?_)
      refine a_ldc fx w_184 d_Bo_join_51 ?_
      refine a_icmp_gt fx 60 d_Bo_join_53 rfl (fun hc => ?_) (fun hc => ?_)
      · have h := h.1 hc
        refine a_iconst (v := 0) fx d_Bo_join_60 rfl ?_
        exact a_zret fx hlo hr rfl h d_Bo_join_61
      · have h := h.2 hc
        refine a_iconst (v := 1) fx d_Bo_join_56 rfl ?_
        refine a_goto fx 61 d_Bo_join_57 rfl ?_
        exact a_zret fx hlo hr rfl h d_Bo_join_61
    · have h := h.2 hc
      refine a_aload_n fx 1 d_Bo_join_14 rfl rfl ?_
      refine a_aload_n fx 0 d_Bo_join_15 rfl rfl ?_
      refine a_getS fx (T := F_Bo) (j := 0) (hk := hk0) (ht := ht0) (ht2 := by decide) (hc := rfl) (hin := u_in_Bo) (hj := by decide) (hj2 := by decide) (hf := rfl) (n9 := 1) (hfo := rfl) (hT := rfl) (hw := w_216) (hd := d_Bo_join_16) (kk := ?_)
      refine a_aload_n fx 0 d_Bo_join_19 rfl rfl ?_
      refine a_getS fx (T := F_Bo) (j := 1) (hk := hk0) (ht := ht0) (ht2 := by decide) (hc := rfl) (hin := u_in_Bo) (hj := by decide) (hj2 := by decide) (hf := rfl) (n9 := 3) (hfo := rfl) (hT := rfl) (hw := w_217) (hd := d_Bo_join_20) (kk := ?_)
      refine a_iload_n fx 2 d_Bo_join_23 rfl rfl ?_
      obtain ⟨hin, h⟩ := h
      refine a_iald fx (lo_6_1 hk0 ht0).1 (lo_6_1 hk0 ht0).2 hin d_Bo_join_24 ?_
      refine a_aload_n fx 0 d_Bo_join_25 rfl rfl ?_
      refine a_getS fx (T := F_Bo) (j := 1) (hk := hk0) (ht := ht0) (ht2 := by decide) (hc := rfl) (hin := u_in_Bo) (hj := by decide) (hj2 := by decide) (hf := rfl) (n9 := 3) (hfo := rfl) (hT := rfl) (hw := w_217) (hd := d_Bo_join_26) (kk := ?_)
      refine a_iload_n fx 2 d_Bo_join_29 rfl rfl ?_
      obtain ⟨hin, h⟩ := h
      refine a_iald fx (lo_6_1 hk0 ht0).1 (lo_6_1 hk0 ht0).2 hin d_Bo_join_30 ?_
      refine a_aload_n fx 0 d_Bo_join_31 rfl rfl ?_
      refine a_getS fx (T := F_Bo) (j := 2) (hk := hk0) (ht := ht0) (ht2 := by decide) (hc := rfl) (hin := u_in_Bo) (hj := by decide) (hj2 := by decide) (hf := rfl) (n9 := 4) (hfo := rfl) (hT := rfl) (hw := w_218) (hd := d_Bo_join_32) (kk := ?_)
      refine a_iload_n fx 2 d_Bo_join_35 rfl rfl ?_
      obtain ⟨hin, h⟩ := h
      refine a_iald fx (lo_6_2 hk0 ht0).1 (lo_6_2 hk0 ht0).2 hin d_Bo_join_36 ?_
      refine a_iadd fx d_Bo_join_37 ?_
      refine a_callv (rest := []) (a_runV (As := [.ref (B + (a0 + 1)), .int (M.1 (a0 + 3) (v2).toNatClampNeg), .int ((M.1 (a0 + 3) (v2).toNatClampNeg) + (M.1 (a0 + 4) (v2).toNatClampNeg))]) fx cv_Ro_putRange w_466 (Met_Ro_putRange l B D aC aS (hk0 := hk1) (ht0 := ht1) (hk1 := (lo_6_0 hk0 ht0).1) (ht1 := (lo_6_0 hk0 ht0).2) h) hk1 ht1 (by decide) rfl rfl rfl (Nat.le_of_ble_eq_true rfl) rfl rfl ⟨Nat.le_of_ble_eq_true rfl, Nat.le_of_ble_eq_true rfl⟩ d_Bo_join_38 ⟨Nat.le_of_ble_eq_true rfl, Nat.le_of_ble_eq_true rfl⟩) (fun M2 h => ?_)
      obtain ⟨x3, ex3⟩ : ∃ z : Int32, z = v2 + 1 := ⟨_, rfl⟩
      have h := h x3 ex3
      refine a_iinc (lv2 := [(2, .int x3), (0, .ref (B + a0)), (1, .ref (B + a1))]) fx 2 d_Bo_join_41 rfl ex3.symm (by decide) rfl ?_
      refine a_goto fx 6 d_Bo_join_44 rfl ?_
      refine a_sub [1, 2, 0] rfl ?_
      exact h)
  refine a_aload_n fx 1 d_Bo_join_0 rfl rfl ?_
  refine a_callv (rest := []) (a_runV (As := []) fx cv_Ro_wipe w_485 (Met_Ro_wipe l B D aC aS (hk0 := hk1) (ht0 := ht1) h) hk1 ht1 (by decide) rfl rfl rfl (Nat.le_of_ble_eq_true rfl) rfl rfl ⟨Nat.le_of_ble_eq_true rfl, Nat.le_of_ble_eq_true rfl⟩ d_Bo_join_1 ⟨Nat.le_of_ble_eq_true rfl, Nat.le_of_ble_eq_true rfl⟩) (fun M1 h => ?_)
  refine a_iconst (v := 1) fx d_Bo_join_4 rfl ?_
  refine a_istore_n (lv2 := [(2, .int 1), (0, .ref (B + a0)), (1, .ref (B + a1))]) fx d_Bo_join_5 rfl (by decide) rfl ?_
  refine a_sub [1, 2, 0] rfl ?_
  exact h
set_option maxRecDepth 100000 in
set_option maxHeartbeats 4000000 in
theorem Met_Sq_forget (l : Launch) (B : Nat) (D : va_G) (aC : Nat → ClassId) (aS : Nat → Nat) {a0 : Nat} {M : zM} {post : zM → Prop} (hk0 : a0 < N0) (ht0 : tg a0 = 7) (h : Wp_Sq_forget a0 M post) : Met l y_Sq_forget (wo y_Sq_forget b_Sq_forget 1 none) { frames := 2, cells := 0, slots := 0, locals := 46 } (va_Pc [.ref (B + a0)] (zWl B D aC aS M)) (zQv B D aC post) 0 0 (zAb B) := by
  refine z_met (own := "MailChain$Squeezer") (lv0 := [(0, .ref (B + a0))]) (by decide) rfl (Nat.le_of_ble_eq_true rfl) rfl ?_
  intro p e s m below meth c fx hr hlo
  delta Wp_Sq_forget at h
  refine a_aload_n fx 0 d_Sq_forget_0 rfl rfl ?_
  refine a_sipush (v := 257) fx d_Sq_forget_1 rfl ?_
  refine a_putI fx (T := F_Sq) (ty0 := t_Sq) (j := 4) (hk := hk0) (ht := ht0) (ht2 := by decide) (hc := rfl) (hin := u_in_Sq) (hty := t_Sq_ok) (hnm := n_Sq) (hj := by decide) (hj2 := by decide) (hf := rfl) (hT := rfl) (hfin := rfl) (hn := rfl) (hfit := rfl) (hw := w_249) (hd := d_Sq_forget_4) (kk := a_mem (fun M1 eM1 => ?_))
  have h := h M1 eM1
  refine a_aload_n fx 0 d_Sq_forget_7 rfl rfl ?_
  refine a_getS fx (T := F_Sq) (j := 0) (hk := hk0) (ht := ht0) (ht2 := by decide) (hc := rfl) (hin := u_in_Sq) (hj := by decide) (hj2 := by decide) (hf := rfl) (n9 := 1) (hfo := rfl) (hT := rfl) (hw := w_245) (hd := d_Sq_forget_8) (kk := ?_)
  refine a_iconst (v := 0) fx d_Sq_forget_11 rfl ?_
  refine a_sipush (v := 257) fx d_Sq_forget_12 rfl ?_
  refine a_iconst (v := (-1)) fx d_Sq_forget_15 rfl ?_
  refine a_callv (rest := []) (a_runS (As := [.ref (B + (a0 + 1)), .int 0, .int 257, .int (-1)]) fx  cv_JArrays_fillx w_591 (Met_JArrays_fillx l B D aC aS (hk0 := (lo_7_0 hk0 ht0).1) (ht0 := (lo_7_0 hk0 ht0).2) h) rfl rfl (Nat.le_of_ble_eq_true rfl) rfl rfl ⟨Nat.le_of_ble_eq_true rfl, Nat.le_of_ble_eq_true rfl⟩ d_Sq_forget_16 ⟨Nat.le_of_ble_eq_true rfl, Nat.le_of_ble_eq_true rfl⟩) (fun M2 h => ?_)
  exact a_vret fx hlo hr h d_Sq_forget_19
set_option maxRecDepth 100000 in
set_option maxHeartbeats 4000000 in
theorem Met_Sq_begin (l : Launch) (B : Nat) (D : va_G) (aC : Nat → ClassId) (aS : Nat → Nat) {a0 : Nat} {i1 : Int32} {M : zM} {post : zM → Prop} (hk0 : a0 < N0) (ht0 : tg a0 = 7) (h : Wp_Sq_begin a0 i1 M post) : Met l y_Sq_begin (wo y_Sq_begin b_Sq_begin 2 none) { frames := 3, cells := 0, slots := 0, locals := 66 } (va_Pc [.ref (B + a0), .int i1] (zWl B D aC aS M)) (zQv B D aC post) 0 0 (zAb B) := by
  refine z_met (own := "MailChain$Squeezer") (lv0 := [(0, .ref (B + a0)), (1, .int i1)]) (by decide) rfl (Nat.le_of_ble_eq_true rfl) rfl ?_
  intro p e s m below meth c fx hr hlo
  delta Wp_Sq_begin at h
  refine a_aload_n fx 0 d_Sq_begin_0 rfl rfl ?_
  refine a_iload_n fx 1 d_Sq_begin_1 rfl rfl ?_
  refine a_putI fx (T := F_Sq) (ty0 := t_Sq) (j := 3) (hk := hk0) (ht := ht0) (ht2 := by decide) (hc := rfl) (hin := u_in_Sq) (hty := t_Sq_ok) (hnm := n_Sq) (hj := by decide) (hj2 := by decide) (hf := rfl) (hT := rfl) (hfin := rfl) (hn := rfl) (hfit := rfl) (hw := w_248) (hd := d_Sq_begin_2) (kk := a_mem (fun M1 eM1 => ?_))
  have h := h M1 eM1
  refine a_aload_n fx 0 d_Sq_begin_5 rfl rfl ?_
  refine a_bipush (v := 9) fx d_Sq_begin_6 rfl ?_
  refine a_putI fx (T := F_Sq) (ty0 := t_Sq) (j := 5) (hk := hk0) (ht := ht0) (ht2 := by decide) (hc := rfl) (hin := u_in_Sq) (hty := t_Sq_ok) (hnm := n_Sq) (hj := by decide) (hj2 := by decide) (hf := rfl) (hT := rfl) (hfin := rfl) (hn := rfl) (hfit := rfl) (hw := w_250) (hd := d_Sq_begin_8) (kk := a_mem (fun M2 eM2 => ?_))
  have h := h M2 eM2
  refine a_aload_n fx 0 d_Sq_begin_11 rfl rfl ?_
  refine a_iconst (v := 0) fx d_Sq_begin_12 rfl ?_
  refine a_putI fx (T := F_Sq) (ty0 := t_Sq) (j := 6) (hk := hk0) (ht := ht0) (ht2 := by decide) (hc := rfl) (hin := u_in_Sq) (hty := t_Sq_ok) (hnm := n_Sq) (hj := by decide) (hj2 := by decide) (hf := rfl) (hT := rfl) (hfin := rfl) (hn := rfl) (hfit := rfl) (hw := w_251) (hd := d_Sq_begin_13) (kk := a_mem (fun M3 eM3 => ?_))
  have h := h M3 eM3
  refine a_aload_n fx 0 d_Sq_begin_16 rfl rfl ?_
  refine a_iconst (v := 0) fx d_Sq_begin_17 rfl ?_
  refine a_putI fx (T := F_Sq) (ty0 := t_Sq) (j := 7) (hk := hk0) (ht := ht0) (ht2 := by decide) (hc := rfl) (hin := u_in_Sq) (hty := t_Sq_ok) (hnm := n_Sq) (hj := by decide) (hj2 := by decide) (hf := rfl) (hT := rfl) (hfin := rfl) (hn := rfl) (hfit := rfl) (hw := w_252) (hd := d_Sq_begin_18) (kk := a_mem (fun M4 eM4 => ?_))
  have h := h M4 eM4
  refine a_aload_n fx 0 d_Sq_begin_21 rfl rfl ?_
  refine a_iconst (v := 0) fx d_Sq_begin_22 rfl ?_
  refine a_putI fx (T := F_Sq) (ty0 := t_Sq) (j := 8) (hk := hk0) (ht := ht0) (ht2 := by decide) (hc := rfl) (hin := u_in_Sq) (hty := t_Sq_ok) (hnm := n_Sq) (hj := by decide) (hj2 := by decide) (hf := rfl) (hT := rfl) (hfin := rfl) (hn := rfl) (hfit := rfl) (hw := w_253) (hd := d_Sq_begin_23) (kk := a_mem (fun M5 eM5 => ?_))
  have h := h M5 eM5
  refine a_aload_n fx 0 d_Sq_begin_26 rfl rfl ?_
  refine a_callv (rest := []) (a_runV (As := []) fx cv_Sq_forget w_587 (Met_Sq_forget l B D aC aS (hk0 := hk0) (ht0 := ht0) h) hk0 ht0 (by decide) rfl rfl rfl (Nat.le_of_ble_eq_true rfl) rfl rfl ⟨Nat.le_of_ble_eq_true rfl, Nat.le_of_ble_eq_true rfl⟩ d_Sq_begin_27 ⟨Nat.le_of_ble_eq_true rfl, Nat.le_of_ble_eq_true rfl⟩) (fun M6 h => ?_)
  exact a_vret fx hlo hr h d_Sq_begin_30
set_option maxRecDepth 100000 in
set_option maxHeartbeats 4000000 in
theorem Met_Sq_childOf (l : Launch) (B : Nat) (D : va_G) (aC : Nat → ClassId) (aS : Nat → Nat) {a0 : Nat} {i1 : Int32} {i2 : Int32} {M : zM} {post : Int32 → zM → Prop} (hk0 : a0 < N0) (ht0 : tg a0 = 7) (h : Wp_Sq_childOf a0 i1 i2 M post) : Met l y_Sq_childOf (wo y_Sq_childOf b_Sq_childOf 5 (some FieldType.int)) { frames := 0, cells := 0, slots := 0, locals := 0 } (va_Pc [.ref (B + a0), .int i1, .int i2] (zWl B D aC aS M)) (zQi B D aC post) 0 0 (zAb B) := by
  refine z_met (own := "MailChain$Squeezer") (lv0 := [(0, .ref (B + a0)), (1, .int i1), (2, .int i2)]) (by decide) rfl (Nat.le_of_ble_eq_true rfl) rfl ?_
  intro p e s m below meth c fx hr hlo
  delta Wp_Sq_childOf at h
  have h := h (fun v3 v4 M => zAt p l e { frames := 0, cells := 0, slots := 0, locals := 0 } s m ([.ref (B + a0), .int i1, .int i2] : List Value).toArray below meth c 0 0 (MQ below (zQi B D aC post) ([.ref (B + a0), .int i1, .int i2] : List Value).toArray s 0 0 (zAb B)) B D aC 5 10 [(0, .ref (B + a0)), (1, .int i1), (2, .int i2), (3, .int v3), (4, .int v4)] [] M)
  have h := h (by
    intro v3 v4 M h
    refine a_iload fx 4 d_Sq_childOf_10 rfl ?_
    refine a_sipush (v := 256) fx d_Sq_childOf_12 rfl ?_
    refine a_icmp_ge fx 46 d_Sq_childOf_15 rfl (fun hc => ?_) (fun hc => ?_)
    · have h := h.1 hc
      refine a_iload_n fx 3 d_Sq_childOf_46 rfl rfl ?_
      exact a_iret fx hlo hr h d_Sq_childOf_47
    · have h := h.2 hc
      refine a_iload_n fx 3 d_Sq_childOf_18 rfl rfl ?_
      refine a_iconst (v := (-1)) fx d_Sq_childOf_19 rfl ?_
      refine a_icmp_eq fx 46 d_Sq_childOf_20 rfl (fun hc => ?_) (fun hc => ?_)
      · have h := h.1 hc
        refine a_iload_n fx 3 d_Sq_childOf_46 rfl rfl ?_
        exact a_iret fx hlo hr h d_Sq_childOf_47
      · have h := h.2 hc
        refine a_aload_n fx 0 d_Sq_childOf_23 rfl rfl ?_
        refine a_getS fx (T := F_Sq) (j := 2) (hk := hk0) (ht := ht0) (ht2 := by decide) (hc := rfl) (hin := u_in_Sq) (hj := by decide) (hj2 := by decide) (hf := rfl) (n9 := 3) (hfo := rfl) (hT := rfl) (hw := w_247) (hd := d_Sq_childOf_24) (kk := ?_)
        refine a_iload_n fx 3 d_Sq_childOf_27 rfl rfl ?_
        obtain ⟨hin, h⟩ := h
        refine a_iald fx (lo_7_2 hk0 ht0).1 (lo_7_2 hk0 ht0).2 hin d_Sq_childOf_28 ?_
        refine a_iload_n fx 2 d_Sq_childOf_29 rfl rfl ?_
        refine a_icmp_eq fx 46 d_Sq_childOf_30 rfl (fun hc => ?_) (fun hc => ?_)
        · have h := h.1 hc
          refine a_iload_n fx 3 d_Sq_childOf_46 rfl rfl ?_
          exact a_iret fx hlo hr h d_Sq_childOf_47
        · have h := h.2 hc
          refine a_aload_n fx 0 d_Sq_childOf_33 rfl rfl ?_
          refine a_getS fx (T := F_Sq) (j := 1) (hk := hk0) (ht := ht0) (ht2 := by decide) (hc := rfl) (hin := u_in_Sq) (hj := by decide) (hj2 := by decide) (hf := rfl) (n9 := 2) (hfo := rfl) (hT := rfl) (hw := w_246) (hd := d_Sq_childOf_34) (kk := ?_)
          refine a_iload_n fx 3 d_Sq_childOf_37 rfl rfl ?_
          obtain ⟨hin, h⟩ := h
          refine a_iald fx (lo_7_1 hk0 ht0).1 (lo_7_1 hk0 ht0).2 hin d_Sq_childOf_38 ?_
          refine a_topi (fun x2 ex2 => ?_)
          have h := h x2 ex2
          refine a_istore_n (lv2 := [(3, .int x2), (0, .ref (B + a0)), (1, .int i1), (2, .int i2), (4, .int v4)]) fx d_Sq_childOf_39 rfl (by decide) rfl ?_
          obtain ⟨x3, ex3⟩ : ∃ z : Int32, z = v4 + 1 := ⟨_, rfl⟩
          have h := h x3 ex3
          refine a_iinc (lv2 := [(4, .int x3), (3, .int x2), (0, .ref (B + a0)), (1, .int i1), (2, .int i2)]) fx 4 d_Sq_childOf_40 rfl ex3.symm (by decide) rfl ?_
          refine a_goto fx 10 d_Sq_childOf_43 rfl ?_
          refine a_sub [2, 3, 4, 1, 0] rfl ?_
          exact h)
  refine a_aload_n fx 0 d_Sq_childOf_0 rfl rfl ?_
  refine a_getS fx (T := F_Sq) (j := 0) (hk := hk0) (ht := ht0) (ht2 := by decide) (hc := rfl) (hin := u_in_Sq) (hj := by decide) (hj2 := by decide) (hf := rfl) (n9 := 1) (hfo := rfl) (hT := rfl) (hw := w_245) (hd := d_Sq_childOf_1) (kk := ?_)
  refine a_iload_n fx 1 d_Sq_childOf_4 rfl rfl ?_
  obtain ⟨hin, h⟩ := h
  refine a_iald fx (lo_7_0 hk0 ht0).1 (lo_7_0 hk0 ht0).2 hin d_Sq_childOf_5 ?_
  refine a_topi (fun x1 ex1 => ?_)
  have h := h x1 ex1
  refine a_istore_n (lv2 := [(3, .int x1), (0, .ref (B + a0)), (1, .int i1), (2, .int i2)]) fx d_Sq_childOf_6 rfl (by decide) rfl ?_
  refine a_iconst (v := 0) fx d_Sq_childOf_7 rfl ?_
  refine a_istore (lv2 := [(4, .int 0), (3, .int x1), (0, .ref (B + a0)), (1, .int i1), (2, .int i2)]) fx d_Sq_childOf_8 (by decide) rfl ?_
  refine a_sub [2, 3, 4, 1, 0] rfl ?_
  exact h
set_option maxRecDepth 100000 in
set_option maxHeartbeats 4000000 in
theorem Met_Sq_putBits (l : Launch) (B : Nat) (D : va_G) (aC : Nat → ClassId) (aS : Nat → Nat) {a0 : Nat} {i1 : Int32} {a2 : Nat} {M : zM} {post : zM → Prop} (hk0 : a0 < N0) (ht0 : tg a0 = 7) (hk2 : a2 < N0) (ht2 : tg a2 = 1) (h : Wp_Sq_putBits a0 i1 a2 M post) : Met l y_Sq_putBits (wo y_Sq_putBits b_Sq_putBits 3 none) { frames := 1, cells := 0, slots := 0, locals := 21 } (va_Pc [.ref (B + a0), .int i1, .ref (B + a2)] (zWl B D aC aS M)) (zQv B D aC post) 0 0 (zAb B) := by
  refine z_met (own := "MailChain$Squeezer") (lv0 := [(0, .ref (B + a0)), (1, .int i1), (2, .ref (B + a2))]) (by decide) rfl (Nat.le_of_ble_eq_true rfl) rfl ?_
  intro p e s m below meth c fx hr hlo
  delta Wp_Sq_putBits at h
  have h := h (fun M => zAt p l e { frames := 1, cells := 0, slots := 0, locals := 21 } s m ([.ref (B + a0), .int i1, .ref (B + a2)] : List Value).toArray below meth c 0 0 (MQ below (zQv B D aC post) ([.ref (B + a0), .int i1, .ref (B + a2)] : List Value).toArray s 0 0 (zAb B)) B D aC 3 38 [(0, .ref (B + a0)), (1, .int i1), (2, .ref (B + a2))] [] M)
  have h := h (by
    intro M h
    refine a_aload_n fx 0 d_Sq_putBits_38 rfl rfl ?_
    refine a_getI fx (T := F_Sq) (j := 8) (hk := hk0) (ht := ht0) (ht2 := by decide) (hc := rfl) (hin := u_in_Sq) (hj := by decide) (hj2 := by decide) (hf := rfl) (hT := rfl) (hw := w_253) (hd := d_Sq_putBits_39) (kk := ?_)
    refine a_bipush (v := 8) fx d_Sq_putBits_42 rfl ?_
    refine a_icmp_lt fx 80 d_Sq_putBits_44 rfl (fun hc => ?_) (fun hc => ?_)
    · have h := h.1 hc
      exact a_vret fx hlo hr h d_Sq_putBits_80
    · have h := h.2 hc
      refine a_aload_n fx 2 d_Sq_putBits_47 rfl rfl ?_
      refine a_aload_n fx 0 d_Sq_putBits_48 rfl rfl ?_
      refine a_getI fx (T := F_Sq) (j := 7) (hk := hk0) (ht := ht0) (ht2 := by decide) (hc := rfl) (hin := u_in_Sq) (hj := by decide) (hj2 := by decide) (hf := rfl) (hT := rfl) (hw := w_252) (hd := d_Sq_putBits_49) (kk := ?_)
      refine a_callv (rest := []) (a_runV (As := [.int (M.1 a0 7)]) fx cv_Ro_put w_582 (Met_Ro_put l B D aC aS (hk0 := hk2) (ht0 := ht2) h) hk2 ht2 (by decide) rfl rfl rfl (Nat.le_of_ble_eq_true rfl) rfl rfl ⟨Nat.le_of_ble_eq_true rfl, Nat.le_of_ble_eq_true rfl⟩ d_Sq_putBits_52 ⟨Nat.le_of_ble_eq_true rfl, Nat.le_of_ble_eq_true rfl⟩) (fun M4 h => ?_)
      refine a_aload_n fx 0 d_Sq_putBits_55 rfl rfl ?_
      refine a_dup fx d_Sq_putBits_56 rfl ?_
      refine a_getI fx (T := F_Sq) (j := 7) (hk := hk0) (ht := ht0) (ht2 := by decide) (hc := rfl) (hin := u_in_Sq) (hj := by decide) (hj2 := by decide) (hf := rfl) (hT := rfl) (hw := w_252) (hd := d_Sq_putBits_57) (kk := ?_)
      refine a_bipush (v := 8) fx d_Sq_putBits_60 rfl ?_
      refine a_iushr fx d_Sq_putBits_62 ?_
      refine a_putI fx (T := F_Sq) (ty0 := t_Sq) (j := 7) (hk := hk0) (ht := ht0) (ht2 := by decide) (hc := rfl) (hin := u_in_Sq) (hty := t_Sq_ok) (hnm := n_Sq) (hj := by decide) (hj2 := by decide) (hf := rfl) (hT := rfl) (hfin := rfl) (hn := rfl) (hfit := rfl) (hw := w_252) (hd := d_Sq_putBits_63) (kk := a_mem (fun M5 eM5 => ?_))
      have h := h M5 eM5
      refine a_aload_n fx 0 d_Sq_putBits_66 rfl rfl ?_
      refine a_dup fx d_Sq_putBits_67 rfl ?_
      refine a_getI fx (T := F_Sq) (j := 8) (hk := hk0) (ht := ht0) (ht2 := by decide) (hc := rfl) (hin := u_in_Sq) (hj := by decide) (hj2 := by decide) (hf := rfl) (hT := rfl) (hw := w_253) (hd := d_Sq_putBits_68) (kk := ?_)
      refine a_bipush (v := 8) fx d_Sq_putBits_71 rfl ?_
      refine a_isub fx d_Sq_putBits_73 ?_
      refine a_putI fx (T := F_Sq) (ty0 := t_Sq) (j := 8) (hk := hk0) (ht := ht0) (ht2 := by decide) (hc := rfl) (hin := u_in_Sq) (hty := t_Sq_ok) (hnm := n_Sq) (hj := by decide) (hj2 := by decide) (hf := rfl) (hT := rfl) (hfin := rfl) (hn := rfl) (hfit := rfl) (hw := w_253) (hd := d_Sq_putBits_74) (kk := a_mem (fun M6 eM6 => ?_))
      have h := h M6 eM6
      refine a_goto fx 38 d_Sq_putBits_77 rfl ?_
      refine a_sub [0, 1, 2] rfl ?_
      exact h)
  refine a_aload_n fx 0 d_Sq_putBits_0 rfl rfl ?_
  refine a_dup fx d_Sq_putBits_1 rfl ?_
  refine a_getI fx (T := F_Sq) (j := 6) (hk := hk0) (ht := ht0) (ht2 := by decide) (hc := rfl) (hin := u_in_Sq) (hj := by decide) (hj2 := by decide) (hf := rfl) (hT := rfl) (hw := w_251) (hd := d_Sq_putBits_2) (kk := ?_)
  refine a_iconst (v := 1) fx d_Sq_putBits_5 rfl ?_
  refine a_iadd fx d_Sq_putBits_6 ?_
  refine a_putI fx (T := F_Sq) (ty0 := t_Sq) (j := 6) (hk := hk0) (ht := ht0) (ht2 := by decide) (hc := rfl) (hin := u_in_Sq) (hty := t_Sq_ok) (hnm := n_Sq) (hj := by decide) (hj2 := by decide) (hf := rfl) (hT := rfl) (hfin := rfl) (hn := rfl) (hfit := rfl) (hw := w_251) (hd := d_Sq_putBits_7) (kk := a_mem (fun M1 eM1 => ?_))
  have h := h M1 eM1
  refine a_aload_n fx 0 d_Sq_putBits_10 rfl rfl ?_
  refine a_dup fx d_Sq_putBits_11 rfl ?_
  refine a_getI fx (T := F_Sq) (j := 7) (hk := hk0) (ht := ht0) (ht2 := by decide) (hc := rfl) (hin := u_in_Sq) (hj := by decide) (hj2 := by decide) (hf := rfl) (hT := rfl) (hw := w_252) (hd := d_Sq_putBits_12) (kk := ?_)
  refine a_iload_n fx 1 d_Sq_putBits_15 rfl rfl ?_
  refine a_aload_n fx 0 d_Sq_putBits_16 rfl rfl ?_
  refine a_getI fx (T := F_Sq) (j := 8) (hk := hk0) (ht := ht0) (ht2 := by decide) (hc := rfl) (hin := u_in_Sq) (hj := by decide) (hj2 := by decide) (hf := rfl) (hT := rfl) (hw := w_253) (hd := d_Sq_putBits_17) (kk := ?_)
  refine a_ishl fx d_Sq_putBits_20 ?_
  refine a_ior fx d_Sq_putBits_21 ?_
  refine a_putI fx (T := F_Sq) (ty0 := t_Sq) (j := 7) (hk := hk0) (ht := ht0) (ht2 := by decide) (hc := rfl) (hin := u_in_Sq) (hty := t_Sq_ok) (hnm := n_Sq) (hj := by decide) (hj2 := by decide) (hf := rfl) (hT := rfl) (hfin := rfl) (hn := rfl) (hfit := rfl) (hw := w_252) (hd := d_Sq_putBits_22) (kk := a_mem (fun M2 eM2 => ?_))
  have h := h M2 eM2
  refine a_aload_n fx 0 d_Sq_putBits_25 rfl rfl ?_
  refine a_dup fx d_Sq_putBits_26 rfl ?_
  refine a_getI fx (T := F_Sq) (j := 8) (hk := hk0) (ht := ht0) (ht2 := by decide) (hc := rfl) (hin := u_in_Sq) (hj := by decide) (hj2 := by decide) (hf := rfl) (hT := rfl) (hw := w_253) (hd := d_Sq_putBits_27) (kk := ?_)
  refine a_aload_n fx 0 d_Sq_putBits_30 rfl rfl ?_
  refine a_getI fx (T := F_Sq) (j := 5) (hk := hk0) (ht := ht0) (ht2 := by decide) (hc := rfl) (hin := u_in_Sq) (hj := by decide) (hj2 := by decide) (hf := rfl) (hT := rfl) (hw := w_250) (hd := d_Sq_putBits_31) (kk := ?_)
  refine a_iadd fx d_Sq_putBits_34 ?_
  refine a_putI fx (T := F_Sq) (ty0 := t_Sq) (j := 8) (hk := hk0) (ht := ht0) (ht2 := by decide) (hc := rfl) (hin := u_in_Sq) (hty := t_Sq_ok) (hnm := n_Sq) (hj := by decide) (hj2 := by decide) (hf := rfl) (hT := rfl) (hfin := rfl) (hn := rfl) (hfit := rfl) (hw := w_253) (hd := d_Sq_putBits_35) (kk := a_mem (fun M3 eM3 => ?_))
  have h := h M3 eM3
  refine a_sub [0, 1, 2] rfl ?_
  exact h
set_option maxRecDepth 100000 in
set_option maxHeartbeats 4000000 in
theorem Met_Sq_changeWidth (l : Launch) (B : Nat) (D : va_G) (aC : Nat → ClassId) (aS : Nat → Nat) {a0 : Nat} {i1 : Int32} {a2 : Nat} {M : zM} {post : zM → Prop} (hk0 : a0 < N0) (ht0 : tg a0 = 7) (hk2 : a2 < N0) (ht2 : tg a2 = 1) (h : Wp_Sq_changeWidth a0 i1 a2 M post) : Met l y_Sq_changeWidth (wo y_Sq_changeWidth b_Sq_changeWidth 5 none) { frames := 2, cells := 0, slots := 0, locals := 43 } (va_Pc [.ref (B + a0), .int i1, .ref (B + a2)] (zWl B D aC aS M)) (zQv B D aC post) 0 0 (zAb B) := by
  refine z_met (own := "MailChain$Squeezer") (lv0 := [(0, .ref (B + a0)), (1, .int i1), (2, .ref (B + a2))]) (by decide) rfl (Nat.le_of_ble_eq_true rfl) rfl ?_
  intro p e s m below meth c fx hr hlo
  delta Wp_Sq_changeWidth at h
  have h := h (fun v3 v4 M => zAt p l e { frames := 2, cells := 0, slots := 0, locals := 43 } s m ([.ref (B + a0), .int i1, .ref (B + a2)] : List Value).toArray below meth c 0 0 (MQ below (zQv B D aC post) ([.ref (B + a0), .int i1, .ref (B + a2)] : List Value).toArray s 0 0 (zAb B)) B D aC 5 12 [(0, .ref (B + a0)), (1, .int i1), (2, .ref (B + a2)), (3, .int v3), (4, .int v4)] [] M)
  have h := h (by
    intro v3 v4 M h
    refine a_iload fx 4 d_Sq_changeWidth_12 rfl ?_
    refine a_iload_n fx 3 d_Sq_changeWidth_14 rfl rfl ?_
    refine a_icmp_ge fx 30 d_Sq_changeWidth_15 rfl (fun hc => ?_) (fun hc => ?_)
    · have h := h.1 hc
      refine a_aload_n fx 0 d_Sq_changeWidth_30 rfl rfl ?_
      refine a_iconst (v := 0) fx d_Sq_changeWidth_31 rfl ?_
      refine a_putI fx (T := F_Sq) (ty0 := t_Sq) (j := 6) (hk := hk0) (ht := ht0) (ht2 := by decide) (hc := rfl) (hin := u_in_Sq) (hty := t_Sq_ok) (hnm := n_Sq) (hj := by decide) (hj2 := by decide) (hf := rfl) (hT := rfl) (hfin := rfl) (hn := rfl) (hfit := rfl) (hw := w_251) (hd := d_Sq_changeWidth_32) (kk := a_mem (fun M2 eM2 => ?_))
      have h := h M2 eM2
      refine a_aload_n fx 0 d_Sq_changeWidth_35 rfl rfl ?_
      refine a_iload_n fx 1 d_Sq_changeWidth_36 rfl rfl ?_
      refine a_putI fx (T := F_Sq) (ty0 := t_Sq) (j := 5) (hk := hk0) (ht := ht0) (ht2 := by decide) (hc := rfl) (hin := u_in_Sq) (hty := t_Sq_ok) (hnm := n_Sq) (hj := by decide) (hj2 := by decide) (hf := rfl) (hT := rfl) (hfin := rfl) (hn := rfl) (hfit := rfl) (hw := w_250) (hd := d_Sq_changeWidth_37) (kk := a_mem (fun M3 eM3 => ?_))
      have h := h M3 eM3
      exact a_vret fx hlo hr h d_Sq_changeWidth_40
    · have h := h.2 hc
      refine a_aload_n fx 0 d_Sq_changeWidth_18 rfl rfl ?_
      refine a_iconst (v := 0) fx d_Sq_changeWidth_19 rfl ?_
      refine a_aload_n fx 2 d_Sq_changeWidth_20 rfl rfl ?_
      refine a_callv (rest := []) (a_runV (As := [.int 0, .ref (B + a2)]) fx cv_Sq_putBits w_911 (Met_Sq_putBits l B D aC aS (hk0 := hk0) (ht0 := ht0) (hk2 := hk2) (ht2 := ht2) h) hk0 ht0 (by decide) rfl rfl rfl (Nat.le_of_ble_eq_true rfl) rfl rfl ⟨Nat.le_of_ble_eq_true rfl, Nat.le_of_ble_eq_true rfl⟩ d_Sq_changeWidth_21 ⟨Nat.le_of_ble_eq_true rfl, Nat.le_of_ble_eq_true rfl⟩) (fun M4 h => ?_)
      obtain ⟨x5, ex5⟩ : ∃ z : Int32, z = v4 + 1 := ⟨_, rfl⟩
      have h := h x5 ex5
      refine a_iinc (lv2 := [(4, .int x5), (0, .ref (B + a0)), (1, .int i1), (2, .ref (B + a2)), (3, .int v3)]) fx 4 d_Sq_changeWidth_24 rfl ex5.symm (by decide) rfl ?_
      refine a_goto fx 12 d_Sq_changeWidth_27 rfl ?_
      refine a_sub [1, 2, 3, 4, 0] rfl ?_
      exact h)
  refine a_aload_n fx 0 d_Sq_changeWidth_0 rfl rfl ?_
  refine a_getI fx (T := F_Sq) (j := 6) (hk := hk0) (ht := ht0) (ht2 := by decide) (hc := rfl) (hin := u_in_Sq) (hj := by decide) (hj2 := by decide) (hf := rfl) (hT := rfl) (hw := w_251) (hd := d_Sq_changeWidth_1) (kk := ?_)
  refine a_ineg fx d_Sq_changeWidth_4 ?_
  refine a_bipush (v := 7) fx d_Sq_changeWidth_5 rfl ?_
  refine a_iand fx d_Sq_changeWidth_7 ?_
  refine a_topi (fun x1 ex1 => ?_)
  have h := h x1 ex1
  refine a_istore_n (lv2 := [(3, .int x1), (0, .ref (B + a0)), (1, .int i1), (2, .ref (B + a2))]) fx d_Sq_changeWidth_8 rfl (by decide) rfl ?_
  refine a_iconst (v := 0) fx d_Sq_changeWidth_9 rfl ?_
  refine a_istore (lv2 := [(4, .int 0), (3, .int x1), (0, .ref (B + a0)), (1, .int i1), (2, .ref (B + a2))]) fx d_Sq_changeWidth_10 (by decide) rfl ?_
  refine a_sub [2, 3, 4, 1, 0] rfl ?_
  exact h
set_option maxRecDepth 100000 in
set_option maxHeartbeats 4000000 in
theorem Met_Sq_putCode (l : Launch) (B : Nat) (D : va_G) (aC : Nat → ClassId) (aS : Nat → Nat) {a0 : Nat} {i1 : Int32} {a2 : Nat} {M : zM} {post : zM → Prop} (hk0 : a0 < N0) (ht0 : tg a0 = 7) (hk2 : a2 < N0) (ht2 : tg a2 = 1) (h : Wp_Sq_putCode a0 i1 a2 M post) : Met l y_Sq_putCode (wo y_Sq_putCode b_Sq_putCode 3 none) { frames := 3, cells := 0, slots := 0, locals := 67 } (va_Pc [.ref (B + a0), .int i1, .ref (B + a2)] (zWl B D aC aS M)) (zQv B D aC post) 0 0 (zAb B) := by
  refine z_met (own := "MailChain$Squeezer") (lv0 := [(0, .ref (B + a0)), (1, .int i1), (2, .ref (B + a2))]) (by decide) rfl (Nat.le_of_ble_eq_true rfl) rfl ?_
  intro p e s m below meth c fx hr hlo
  delta Wp_Sq_putCode at h
  refine a_aload_n fx 0 d_Sq_putCode_0 rfl rfl ?_
  refine a_getI fx (T := F_Sq) (j := 4) (hk := hk0) (ht := ht0) (ht2 := by decide) (hc := rfl) (hin := u_in_Sq) (hj := by decide) (hj2 := by decide) (hf := rfl) (hT := rfl) (hw := w_249) (hd := d_Sq_putCode_1) (kk := ?_)
  refine a_iconst (v := 1) fx d_Sq_putCode_4 rfl ?_
  refine a_aload_n fx 0 d_Sq_putCode_5 rfl rfl ?_
  refine a_getI fx (T := F_Sq) (j := 5) (hk := hk0) (ht := ht0) (ht2 := by decide) (hc := rfl) (hin := u_in_Sq) (hj := by decide) (hj2 := by decide) (hf := rfl) (hT := rfl) (hw := w_250) (hd := d_Sq_putCode_6) (kk := ?_)
  refine a_ishl fx d_Sq_putCode_9 ?_
  refine a_icmp_le fx 35 d_Sq_putCode_10 rfl (fun hc => ?_) (fun hc => ?_)
  · have h := h.1 hc
    refine a_aload_n fx 0 d_Sq_putCode_35 rfl rfl ?_
    refine a_iload_n fx 1 d_Sq_putCode_36 rfl rfl ?_
    refine a_aload_n fx 2 d_Sq_putCode_37 rfl rfl ?_
    refine a_callv (rest := []) (a_runV (As := [.int i1, .ref (B + a2)]) fx cv_Sq_putBits w_911 (Met_Sq_putBits l B D aC aS (hk0 := hk0) (ht0 := ht0) (hk2 := hk2) (ht2 := ht2) h) hk0 ht0 (by decide) rfl rfl rfl (Nat.le_of_ble_eq_true rfl) rfl rfl ⟨Nat.le_of_ble_eq_true rfl, Nat.le_of_ble_eq_true rfl⟩ d_Sq_putCode_38 ⟨Nat.le_of_ble_eq_true rfl, Nat.le_of_ble_eq_true rfl⟩) (fun M1 h => ?_)
    exact a_vret fx hlo hr h d_Sq_putCode_41
  · have h := h.2 hc
    refine a_aload_n fx 0 d_Sq_putCode_13 rfl rfl ?_
    refine a_getI fx (T := F_Sq) (j := 5) (hk := hk0) (ht := ht0) (ht2 := by decide) (hc := rfl) (hin := u_in_Sq) (hj := by decide) (hj2 := by decide) (hf := rfl) (hT := rfl) (hw := w_250) (hd := d_Sq_putCode_14) (kk := ?_)
    refine a_aload_n fx 0 d_Sq_putCode_17 rfl rfl ?_
    refine a_getI fx (T := F_Sq) (j := 3) (hk := hk0) (ht := ht0) (ht2 := by decide) (hc := rfl) (hin := u_in_Sq) (hj := by decide) (hj2 := by decide) (hf := rfl) (hT := rfl) (hw := w_248) (hd := d_Sq_putCode_18) (kk := ?_)
    refine a_icmp_ge fx 35 d_Sq_putCode_21 rfl (fun hc => ?_) (fun hc => ?_)
    · have h := h.1 hc
      refine a_aload_n fx 0 d_Sq_putCode_35 rfl rfl ?_
      refine a_iload_n fx 1 d_Sq_putCode_36 rfl rfl ?_
      refine a_aload_n fx 2 d_Sq_putCode_37 rfl rfl ?_
      refine a_callv (rest := []) (a_runV (As := [.int i1, .ref (B + a2)]) fx cv_Sq_putBits w_911 (Met_Sq_putBits l B D aC aS (hk0 := hk0) (ht0 := ht0) (hk2 := hk2) (ht2 := ht2) h) hk0 ht0 (by decide) rfl rfl rfl (Nat.le_of_ble_eq_true rfl) rfl rfl ⟨Nat.le_of_ble_eq_true rfl, Nat.le_of_ble_eq_true rfl⟩ d_Sq_putCode_38 ⟨Nat.le_of_ble_eq_true rfl, Nat.le_of_ble_eq_true rfl⟩) (fun M2 h => ?_)
      exact a_vret fx hlo hr h d_Sq_putCode_41
    · have h := h.2 hc
      refine a_aload_n fx 0 d_Sq_putCode_24 rfl rfl ?_
      refine a_aload_n fx 0 d_Sq_putCode_25 rfl rfl ?_
      refine a_getI fx (T := F_Sq) (j := 5) (hk := hk0) (ht := ht0) (ht2 := by decide) (hc := rfl) (hin := u_in_Sq) (hj := by decide) (hj2 := by decide) (hf := rfl) (hT := rfl) (hw := w_250) (hd := d_Sq_putCode_26) (kk := ?_)
      refine a_iconst (v := 1) fx d_Sq_putCode_29 rfl ?_
      refine a_iadd fx d_Sq_putCode_30 ?_
      refine a_aload_n fx 2 d_Sq_putCode_31 rfl rfl ?_
      refine a_callv (rest := []) (a_runV (As := [.int ((M.1 a0 5) + 1), .ref (B + a2)]) fx cv_Sq_changeWidth w_907 (Met_Sq_changeWidth l B D aC aS (hk0 := hk0) (ht0 := ht0) (hk2 := hk2) (ht2 := ht2) h) hk0 ht0 (by decide) rfl rfl rfl (Nat.le_of_ble_eq_true rfl) rfl rfl ⟨Nat.le_of_ble_eq_true rfl, Nat.le_of_ble_eq_true rfl⟩ d_Sq_putCode_32 ⟨Nat.le_of_ble_eq_true rfl, Nat.le_of_ble_eq_true rfl⟩) (fun M3 h => ?_)
      refine a_aload_n fx 0 d_Sq_putCode_35 rfl rfl ?_
      refine a_iload_n fx 1 d_Sq_putCode_36 rfl rfl ?_
      refine a_aload_n fx 2 d_Sq_putCode_37 rfl rfl ?_
      refine a_callv (rest := []) (a_runV (As := [.int i1, .ref (B + a2)]) fx cv_Sq_putBits w_911 (Met_Sq_putBits l B D aC aS (hk0 := hk0) (ht0 := ht0) (hk2 := hk2) (ht2 := ht2) h) hk0 ht0 (by decide) rfl rfl rfl (Nat.le_of_ble_eq_true rfl) rfl rfl ⟨Nat.le_of_ble_eq_true rfl, Nat.le_of_ble_eq_true rfl⟩ d_Sq_putCode_38 ⟨Nat.le_of_ble_eq_true rfl, Nat.le_of_ble_eq_true rfl⟩) (fun M4 h => ?_)
      exact a_vret fx hlo hr h d_Sq_putCode_41
set_option maxRecDepth 100000 in
set_option maxHeartbeats 4000000 in
theorem Met_Sq_learn (l : Launch) (B : Nat) (D : va_G) (aC : Nat → ClassId) (aS : Nat → Nat) {a0 : Nat} {i1 : Int32} {i2 : Int32} {a3 : Nat} {M : zM} {post : zM → Prop} (hk0 : a0 < N0) (ht0 : tg a0 = 7) (hk3 : a3 < N0) (ht3 : tg a3 = 1) (h : Wp_Sq_learn a0 i1 i2 a3 M post) : Met l y_Sq_learn (wo y_Sq_learn b_Sq_learn 4 none) { frames := 4, cells := 0, slots := 0, locals := 89 } (va_Pc [.ref (B + a0), .int i1, .int i2, .ref (B + a3)] (zWl B D aC aS M)) (zQv B D aC post) 0 0 (zAb B) := by
  refine z_met (own := "MailChain$Squeezer") (lv0 := [(0, .ref (B + a0)), (1, .int i1), (2, .int i2), (3, .ref (B + a3))]) (by decide) rfl (Nat.le_of_ble_eq_true rfl) rfl ?_
  intro p e s m below meth c fx hr hlo
  delta Wp_Sq_learn at h
  refine a_aload_n fx 0 d_Sq_learn_0 rfl rfl ?_
  refine a_getI fx (T := F_Sq) (j := 4) (hk := hk0) (ht := ht0) (ht2 := by decide) (hc := rfl) (hin := u_in_Sq) (hj := by decide) (hj2 := by decide) (hf := rfl) (hT := rfl) (hw := w_249) (hd := d_Sq_learn_1) (kk := ?_)
  refine a_iconst (v := 1) fx d_Sq_learn_4 rfl ?_
  refine a_aload_n fx 0 d_Sq_learn_5 rfl rfl ?_
  refine a_getI fx (T := F_Sq) (j := 3) (hk := hk0) (ht := ht0) (ht2 := by decide) (hc := rfl) (hin := u_in_Sq) (hj := by decide) (hj2 := by decide) (hf := rfl) (hT := rfl) (hw := w_248) (hd := d_Sq_learn_6) (kk := ?_)
  refine a_ishl fx d_Sq_learn_9 ?_
  refine a_icmp_lt fx 35 d_Sq_learn_10 rfl (fun hc => ?_) (fun hc => ?_)
  · have h := h.1 hc
    refine a_aload_n fx 0 d_Sq_learn_35 rfl rfl ?_
    refine a_getI fx (T := F_Sq) (j := 4) (hk := hk0) (ht := ht0) (ht2 := by decide) (hc := rfl) (hin := u_in_Sq) (hj := by decide) (hj2 := by decide) (hf := rfl) (hT := rfl) (hw := w_249) (hd := d_Sq_learn_36) (kk := ?_)
    refine a_sipush (v := 16384) fx d_Sq_learn_39 rfl ?_
    refine a_icmp_ge fx 100 d_Sq_learn_42 rfl (fun hc => ?_) (fun hc => ?_)
    · have h := h.1 hc
      exact a_vret fx hlo hr h d_Sq_learn_100
    · have h := h.2 hc
      refine a_aload_n fx 0 d_Sq_learn_45 rfl rfl ?_
      refine a_getS fx (T := F_Sq) (j := 0) (hk := hk0) (ht := ht0) (ht2 := by decide) (hc := rfl) (hin := u_in_Sq) (hj := by decide) (hj2 := by decide) (hf := rfl) (n9 := 1) (hfo := rfl) (hT := rfl) (hw := w_245) (hd := d_Sq_learn_46) (kk := ?_)
      refine a_aload_n fx 0 d_Sq_learn_49 rfl rfl ?_
      refine a_getI fx (T := F_Sq) (j := 4) (hk := hk0) (ht := ht0) (ht2 := by decide) (hc := rfl) (hin := u_in_Sq) (hj := by decide) (hj2 := by decide) (hf := rfl) (hT := rfl) (hw := w_249) (hd := d_Sq_learn_50) (kk := ?_)
      refine a_iconst (v := (-1)) fx d_Sq_learn_53 rfl ?_
      obtain ⟨hin, h⟩ := h
      refine a_iast fx (lo_7_0 hk0 ht0).1 (lo_7_0 hk0 ht0).2 hin d_Sq_learn_54 (a_mem (fun M1 eM1 => ?_))
      have h := h M1 eM1
      refine a_aload_n fx 0 d_Sq_learn_55 rfl rfl ?_
      refine a_getS fx (T := F_Sq) (j := 2) (hk := hk0) (ht := ht0) (ht2 := by decide) (hc := rfl) (hin := u_in_Sq) (hj := by decide) (hj2 := by decide) (hf := rfl) (n9 := 3) (hfo := rfl) (hT := rfl) (hw := w_247) (hd := d_Sq_learn_56) (kk := ?_)
      refine a_aload_n fx 0 d_Sq_learn_59 rfl rfl ?_
      refine a_getI fx (T := F_Sq) (j := 4) (hk := hk0) (ht := ht0) (ht2 := by decide) (hc := rfl) (hin := u_in_Sq) (hj := by decide) (hj2 := by decide) (hf := rfl) (hT := rfl) (hw := w_249) (hd := d_Sq_learn_60) (kk := ?_)
      refine a_iload_n fx 2 d_Sq_learn_63 rfl rfl ?_
      obtain ⟨hin, h⟩ := h
      refine a_iast fx (lo_7_2 hk0 ht0).1 (lo_7_2 hk0 ht0).2 hin d_Sq_learn_64 (a_mem (fun M2 eM2 => ?_))
      have h := h M2 eM2
      refine a_aload_n fx 0 d_Sq_learn_65 rfl rfl ?_
      refine a_getS fx (T := F_Sq) (j := 1) (hk := hk0) (ht := ht0) (ht2 := by decide) (hc := rfl) (hin := u_in_Sq) (hj := by decide) (hj2 := by decide) (hf := rfl) (n9 := 2) (hfo := rfl) (hT := rfl) (hw := w_246) (hd := d_Sq_learn_66) (kk := ?_)
      refine a_aload_n fx 0 d_Sq_learn_69 rfl rfl ?_
      refine a_getI fx (T := F_Sq) (j := 4) (hk := hk0) (ht := ht0) (ht2 := by decide) (hc := rfl) (hin := u_in_Sq) (hj := by decide) (hj2 := by decide) (hf := rfl) (hT := rfl) (hw := w_249) (hd := d_Sq_learn_70) (kk := ?_)
      refine a_aload_n fx 0 d_Sq_learn_73 rfl rfl ?_
      refine a_getS fx (T := F_Sq) (j := 0) (hk := hk0) (ht := ht0) (ht2 := by decide) (hc := rfl) (hin := u_in_Sq) (hj := by decide) (hj2 := by decide) (hf := rfl) (n9 := 1) (hfo := rfl) (hT := rfl) (hw := w_245) (hd := d_Sq_learn_74) (kk := ?_)
      refine a_iload_n fx 1 d_Sq_learn_77 rfl rfl ?_
      obtain ⟨hin, h⟩ := h
      refine a_iald fx (lo_7_0 hk0 ht0).1 (lo_7_0 hk0 ht0).2 hin d_Sq_learn_78 ?_
      obtain ⟨hin, h⟩ := h
      refine a_iast fx (lo_7_1 hk0 ht0).1 (lo_7_1 hk0 ht0).2 hin d_Sq_learn_79 (a_mem (fun M3 eM3 => ?_))
      have h := h M3 eM3
      refine a_aload_n fx 0 d_Sq_learn_80 rfl rfl ?_
      refine a_getS fx (T := F_Sq) (j := 0) (hk := hk0) (ht := ht0) (ht2 := by decide) (hc := rfl) (hin := u_in_Sq) (hj := by decide) (hj2 := by decide) (hf := rfl) (n9 := 1) (hfo := rfl) (hT := rfl) (hw := w_245) (hd := d_Sq_learn_81) (kk := ?_)
      refine a_iload_n fx 1 d_Sq_learn_84 rfl rfl ?_
      refine a_aload_n fx 0 d_Sq_learn_85 rfl rfl ?_
      refine a_getI fx (T := F_Sq) (j := 4) (hk := hk0) (ht := ht0) (ht2 := by decide) (hc := rfl) (hin := u_in_Sq) (hj := by decide) (hj2 := by decide) (hf := rfl) (hT := rfl) (hw := w_249) (hd := d_Sq_learn_86) (kk := ?_)
      obtain ⟨hin, h⟩ := h
      refine a_iast fx (lo_7_0 hk0 ht0).1 (lo_7_0 hk0 ht0).2 hin d_Sq_learn_89 (a_mem (fun M4 eM4 => ?_))
      have h := h M4 eM4
      refine a_aload_n fx 0 d_Sq_learn_90 rfl rfl ?_
      refine a_dup fx d_Sq_learn_91 rfl ?_
      refine a_getI fx (T := F_Sq) (j := 4) (hk := hk0) (ht := ht0) (ht2 := by decide) (hc := rfl) (hin := u_in_Sq) (hj := by decide) (hj2 := by decide) (hf := rfl) (hT := rfl) (hw := w_249) (hd := d_Sq_learn_92) (kk := ?_)
      refine a_iconst (v := 1) fx d_Sq_learn_95 rfl ?_
      refine a_iadd fx d_Sq_learn_96 ?_
      refine a_putI fx (T := F_Sq) (ty0 := t_Sq) (j := 4) (hk := hk0) (ht := ht0) (ht2 := by decide) (hc := rfl) (hin := u_in_Sq) (hty := t_Sq_ok) (hnm := n_Sq) (hj := by decide) (hj2 := by decide) (hf := rfl) (hT := rfl) (hfin := rfl) (hn := rfl) (hfit := rfl) (hw := w_249) (hd := d_Sq_learn_97) (kk := a_mem (fun M5 eM5 => ?_))
      have h := h M5 eM5
      exact a_vret fx hlo hr h d_Sq_learn_100
  · have h := h.2 hc
    refine a_aload_n fx 0 d_Sq_learn_13 rfl rfl ?_
    refine a_sipush (v := 256) fx d_Sq_learn_14 rfl ?_
    refine a_aload_n fx 3 d_Sq_learn_17 rfl rfl ?_
    refine a_callv (rest := []) (a_runV (As := [.int 256, .ref (B + a3)]) fx cv_Sq_putCode w_903 (Met_Sq_putCode l B D aC aS (hk0 := hk0) (ht0 := ht0) (hk2 := hk3) (ht2 := ht3) h) hk0 ht0 (by decide) rfl rfl rfl (Nat.le_of_ble_eq_true rfl) rfl rfl ⟨Nat.le_of_ble_eq_true rfl, Nat.le_of_ble_eq_true rfl⟩ d_Sq_learn_18 ⟨Nat.le_of_ble_eq_true rfl, Nat.le_of_ble_eq_true rfl⟩) (fun M6 h => ?_)
    refine a_aload_n fx 0 d_Sq_learn_21 rfl rfl ?_
    refine a_bipush (v := 9) fx d_Sq_learn_22 rfl ?_
    refine a_aload_n fx 3 d_Sq_learn_24 rfl rfl ?_
    refine a_callv (rest := []) (a_runV (As := [.int 9, .ref (B + a3)]) fx cv_Sq_changeWidth w_907 (Met_Sq_changeWidth l B D aC aS (hk0 := hk0) (ht0 := ht0) (hk2 := hk3) (ht2 := ht3) h) hk0 ht0 (by decide) rfl rfl rfl (Nat.le_of_ble_eq_true rfl) rfl rfl ⟨Nat.le_of_ble_eq_true rfl, Nat.le_of_ble_eq_true rfl⟩ d_Sq_learn_25 ⟨Nat.le_of_ble_eq_true rfl, Nat.le_of_ble_eq_true rfl⟩) (fun M7 h => ?_)
    refine a_aload_n fx 0 d_Sq_learn_28 rfl rfl ?_
    refine a_callv (rest := []) (a_runV (As := []) fx cv_Sq_forget w_587 (Met_Sq_forget l B D aC aS (hk0 := hk0) (ht0 := ht0) h) hk0 ht0 (by decide) rfl rfl rfl (Nat.le_of_ble_eq_true rfl) rfl rfl ⟨Nat.le_of_ble_eq_true rfl, Nat.le_of_ble_eq_true rfl⟩ d_Sq_learn_29 ⟨Nat.le_of_ble_eq_true rfl, Nat.le_of_ble_eq_true rfl⟩) (fun M8 h => ?_)
    refine a_goto fx 100 d_Sq_learn_32 rfl ?_
    exact a_vret fx hlo hr h d_Sq_learn_100
set_option maxRecDepth 100000 in
set_option maxHeartbeats 4000000 in
theorem Met_Sq_squeeze (l : Launch) (B : Nat) (D : va_G) (aC : Nat → ClassId) (aS : Nat → Nat) {a0 : Nat} {a1 : Nat} {i2 : Int32} {a3 : Nat} {M : zM} {post : zM → Prop} (hk0 : a0 < N0) (ht0 : tg a0 = 7) (hk1 : a1 < N0) (ht1 : tg a1 = 1) (hk3 : a3 < N0) (ht3 : tg a3 = 1) (h : Wp_Sq_squeeze a0 a1 i2 a3 M post) : Met l y_Sq_squeeze (wo y_Sq_squeeze b_Sq_squeeze 8 none) { frames := 5, cells := 0, slots := 0, locals := 112 } (va_Pc [.ref (B + a0), .ref (B + a1), .int i2, .ref (B + a3)] (zWl B D aC aS M)) (zQv B D aC post) 0 0 (zAb B) := by
  refine z_met (own := "MailChain$Squeezer") (lv0 := [(0, .ref (B + a0)), (1, .ref (B + a1)), (2, .int i2), (3, .ref (B + a3))]) (by decide) rfl (Nat.le_of_ble_eq_true rfl) rfl ?_
  intro p e s m below meth c fx hr hlo
  delta Wp_Sq_squeeze at h
  have h := h (fun v4 v5 M => zAt p l e { frames := 5, cells := 0, slots := 0, locals := 112 } s m ([.ref (B + a0), .ref (B + a1), .int i2, .ref (B + a3)] : List Value).toArray below meth c 0 0 (MQ below (zQv B D aC post) ([.ref (B + a0), .ref (B + a1), .int i2, .ref (B + a3)] : List Value).toArray s 0 0 (zAb B)) B D aC 8 41 [(0, .ref (B + a0)), (1, .ref (B + a1)), (2, .int i2), (3, .ref (B + a3)), (4, .int v4), (5, .int v5)] [] M)
  have h := h (fun M => zAt p l e { frames := 5, cells := 0, slots := 0, locals := 112 } s m ([.ref (B + a0), .ref (B + a1), .int i2, .ref (B + a3)] : List Value).toArray below meth c 0 0 (MQ below (zQv B D aC post) ([.ref (B + a0), .ref (B + a1), .int i2, .ref (B + a3)] : List Value).toArray s 0 0 (zAb B)) B D aC 8 117 [(0, .ref (B + a0)), (1, .ref (B + a1)), (2, .int i2), (3, .ref (B + a3))] [] M)
  have h := h (by
    intro v4 v5 M h
    refine a_iload fx 5 d_Sq_squeeze_41 rfl ?_
    refine a_aload_n fx 1 d_Sq_squeeze_43 rfl rfl ?_
    refine a_getIN fx (T := F_Ro) (j := 1) (hk := hk1) (ht := ht1) (ht2 := by decide) (hc := rfl) (hin := u_in_Ro) (hj := by decide) (hj2 := by decide) (hf := rfl) (hT := rfl) (q9 := 2) (hw := rfl) (hd := d_Sq_squeeze_44) (kk := ?_)
    refine a_icmp_ge fx 104 d_Sq_squeeze_47 rfl (fun hc => ?_) (fun hc => ?_)
    · have h := h.1 hc
      refine a_iload fx 4 d_Sq_squeeze_104 rfl ?_
      refine a_iconst (v := (-1)) fx d_Sq_squeeze_106 rfl ?_
      refine a_icmp_eq fx 117 d_Sq_squeeze_107 rfl (fun hc => ?_) (fun hc => ?_)
      · have h := h.1 hc
        refine a_sub [0, 1, 2, 3] rfl ?_
        exact h
      · have h := h.2 hc
        refine a_aload_n fx 0 d_Sq_squeeze_110 rfl rfl ?_
        refine a_iload fx 4 d_Sq_squeeze_111 rfl ?_
        refine a_aload_n fx 3 d_Sq_squeeze_113 rfl rfl ?_
        refine a_callv (rest := []) (a_runV (As := [.int v4, .ref (B + a3)]) fx cv_Sq_putCode w_903 (Met_Sq_putCode l B D aC aS (hk0 := hk0) (ht0 := ht0) (hk2 := hk3) (ht2 := ht3) h) hk0 ht0 (by decide) rfl rfl rfl (Nat.le_of_ble_eq_true rfl) rfl rfl ⟨Nat.le_of_ble_eq_true rfl, Nat.le_of_ble_eq_true rfl⟩ d_Sq_squeeze_114 ⟨Nat.le_of_ble_eq_true rfl, Nat.le_of_ble_eq_true rfl⟩) (fun M8 h => ?_)
        refine a_sub [0, 1, 2, 3] rfl ?_
        exact h
    · have h := h.2 hc
      refine a_aload_n fx 1 d_Sq_squeeze_50 rfl rfl ?_
      refine a_iload fx 5 d_Sq_squeeze_51 rfl ?_
      refine a_calli (rest := []) (a_runV (As := [.int v5]) fx cv_Ro_at w_898 (Met_Ro_at l B D aC aS (hk0 := hk1) (ht0 := ht1) h) hk1 ht1 (by decide) rfl rfl rfl (Nat.le_of_ble_eq_true rfl) rfl rfl ⟨Nat.le_of_ble_eq_true rfl, Nat.le_of_ble_eq_true rfl⟩ d_Sq_squeeze_53 ⟨Nat.le_of_ble_eq_true rfl, Nat.le_of_ble_eq_true rfl⟩) (fun x10 M9 h => ?_)
      refine a_istore (lv2 := [(6, .int x10), (0, .ref (B + a0)), (1, .ref (B + a1)), (2, .int i2), (3, .ref (B + a3)), (4, .int v4), (5, .int v5)]) fx d_Sq_squeeze_56 (by decide) rfl ?_
      refine a_aload_n fx 1 d_Sq_squeeze_58 rfl rfl ?_
      refine a_iload fx 5 d_Sq_squeeze_59 rfl ?_
      refine a_iload fx 0 d_Sq_squeeze_61 rfl ?_
      refine a_calli (rest := []) (a_runV (As := [.int v4, .int x10]) fx cv_Sq_childOf w_899 (Met_Sq_childOf l B D aC aS (hk0 := hk0) (ht0 := ht0) h) hk0 ht0 (by decide) rfl rfl rfl (Nat.le_of_ble_eq_true rfl) rfl rfl ⟨Nat.le_of_ble_eq_true rfl, Nat.le_of_ble_eq_true rfl⟩ d_Sq_squeeze_63 ⟨Nat.le_of_ble_eq_true rfl, Nat.le_of_ble_eq_true rfl⟩) (fun x12 M11 h => ?_)
      refine a_istore (lv2 := [(7, .int x12), (6, .int x10), (0, .ref (B + a0)), (1, .ref (B + a1)), (2, .int i2), (3, .ref (B + a3)), (4, .int v4), (5, .int v5)]) fx d_Sq_squeeze_66 (by decide) rfl ?_
      refine a_iload fx 0 d_Sq_squeeze_68 rfl ?_
      refine a_iconst (v := (-1)) fx d_Sq_squeeze_70 rfl ?_
      refine a_icmp_ne fx 94 d_Sq_squeeze_71 rfl (fun hc => ?_) (fun hc => ?_)
      · have h := h.1 hc
        refine a_iload fx 0 d_Sq_squeeze_94 rfl ?_
        refine a_istore (lv2 := [(4, .int x12), (7, .int x12), (6, .int x10), (0, .ref (B + a0)), (1, .ref (B + a1)), (2, .int i2), (3, .ref (B + a3)), (5, .int v5)]) fx d_Sq_squeeze_96 (by decide) rfl ?_
        obtain ⟨x13, ex13⟩ : ∃ z : Int32, z = v5 + 1 := ⟨_, rfl⟩
        have h := h x13 ex13
        refine a_iinc (lv2 := [(5, .int x13), (4, .int x12), (7, .int x12), (6, .int x10), (0, .ref (B + a0)), (1, .ref (B + a1)), (2, .int i2), (3, .ref (B + a3))]) fx 7 d_Sq_squeeze_98 rfl ex13.symm (by decide) rfl ?_
        refine a_goto fx 41 d_Sq_squeeze_101 rfl ?_
        refine a_sub [4, 5, 6, 7, 1, 0] rfl ?_
        exact h
      · have h := h.2 hc
        refine a_aload_n fx 2 d_Sq_squeeze_74 rfl rfl ?_
        refine a_iload fx 6 d_Sq_squeeze_75 rfl ?_
        refine a_aload_n fx 5 d_Sq_squeeze_77 rfl rfl ?_
        refine a_callv (rest := []) (a_runV (As := [.int v4, .ref (B + a3)]) fx cv_Sq_putCode w_903 (Met_Sq_putCode l B D aC aS (hk0 := hk0) (ht0 := ht0) (hk2 := hk3) (ht2 := ht3) h) hk0 ht0 (by decide) rfl rfl rfl (Nat.le_of_ble_eq_true rfl) rfl rfl ⟨Nat.le_of_ble_eq_true rfl, Nat.le_of_ble_eq_true rfl⟩ d_Sq_squeeze_78 ⟨Nat.le_of_ble_eq_true rfl, Nat.le_of_ble_eq_true rfl⟩) (fun M14 h => ?_)
        refine a_aload_n fx 2 d_Sq_squeeze_81 rfl rfl ?_
        refine a_iload fx 6 d_Sq_squeeze_82 rfl ?_
        refine a_iload fx 1 d_Sq_squeeze_84 rfl ?_
        refine a_aload_n fx 5 d_Sq_squeeze_86 rfl rfl ?_
        refine a_callv (rest := []) (a_runV (As := [.int v4, .int x10, .ref (B + a3)]) fx cv_Sq_learn w_915 (Met_Sq_learn l B D aC aS (hk0 := hk0) (ht0 := ht0) (hk3 := hk3) (ht3 := ht3) h) hk0 ht0 (by decide) rfl rfl rfl (Nat.le_of_ble_eq_true rfl) rfl rfl ⟨Nat.le_of_ble_eq_true rfl, Nat.le_of_ble_eq_true rfl⟩ d_Sq_squeeze_87 ⟨Nat.le_of_ble_eq_true rfl, Nat.le_of_ble_eq_true rfl⟩) (fun M15 h => ?_)
        refine a_iload fx 1 d_Sq_squeeze_90 rfl ?_
        refine a_istore (lv2 := [(7, .int x10), (6, .int x10), (0, .ref (B + a0)), (1, .ref (B + a1)), (2, .int i2), (3, .ref (B + a3)), (4, .int v4), (5, .int v5)]) fx d_Sq_squeeze_92 (by decide) rfl ?_
        refine a_iload fx 0 d_Sq_squeeze_94 rfl ?_
        refine a_istore (lv2 := [(4, .int x10), (7, .int x10), (6, .int x10), (0, .ref (B + a0)), (1, .ref (B + a1)), (2, .int i2), (3, .ref (B + a3)), (5, .int v5)]) fx d_Sq_squeeze_96 (by decide) rfl ?_
        obtain ⟨x16, ex16⟩ : ∃ z : Int32, z = v5 + 1 := ⟨_, rfl⟩
        have h := h x16 ex16
        refine a_iinc (lv2 := [(5, .int x16), (4, .int x10), (7, .int x10), (6, .int x10), (0, .ref (B + a0)), (1, .ref (B + a1)), (2, .int i2), (3, .ref (B + a3))]) fx 7 d_Sq_squeeze_98 rfl ex16.symm (by decide) rfl ?_
        refine a_goto fx 41 d_Sq_squeeze_101 rfl ?_
        refine a_sub [4, 5, 6, 7, 1, 0] rfl ?_
        exact h)
  have h := h (by
    intro M h
    refine a_aload_n fx 0 d_Sq_squeeze_117 rfl rfl ?_
    refine a_getI fx (T := F_Sq) (j := 8) (hk := hk0) (ht := ht0) (ht2 := by decide) (hc := rfl) (hin := u_in_Sq) (hj := by decide) (hj2 := by decide) (hf := rfl) (hT := rfl) (hw := w_253) (hd := d_Sq_squeeze_118) (kk := ?_)
    refine a_if_le fx 132 d_Sq_squeeze_121 rfl (fun hc => ?_) (fun hc => ?_)
    · have h := h.1 hc
      exact a_vret fx hlo hr h d_Sq_squeeze_132
    · have h := h.2 hc
      refine a_aload_n fx 3 d_Sq_squeeze_124 rfl rfl ?_
      refine a_aload_n fx 0 d_Sq_squeeze_125 rfl rfl ?_
      refine a_getI fx (T := F_Sq) (j := 7) (hk := hk0) (ht := ht0) (ht2 := by decide) (hc := rfl) (hin := u_in_Sq) (hj := by decide) (hj2 := by decide) (hf := rfl) (hT := rfl) (hw := w_252) (hd := d_Sq_squeeze_126) (kk := ?_)
      refine a_callv (rest := []) (a_runV (As := [.int (M.1 a0 7)]) fx cv_Ro_put w_582 (Met_Ro_put l B D aC aS (hk0 := hk3) (ht0 := ht3) h) hk3 ht3 (by decide) rfl rfl rfl (Nat.le_of_ble_eq_true rfl) rfl rfl ⟨Nat.le_of_ble_eq_true rfl, Nat.le_of_ble_eq_true rfl⟩ d_Sq_squeeze_129 ⟨Nat.le_of_ble_eq_true rfl, Nat.le_of_ble_eq_true rfl⟩) (fun M17 h => ?_)
      exact a_vret fx hlo hr h d_Sq_squeeze_132)
  refine a_aload_n fx 3 d_Sq_squeeze_0 rfl rfl ?_
  refine a_callv (rest := []) (a_runV (As := []) fx cv_Ro_wipe w_581 (Met_Ro_wipe l B D aC aS (hk0 := hk3) (ht0 := ht3) h) hk3 ht3 (by decide) rfl rfl rfl (Nat.le_of_ble_eq_true rfl) rfl rfl ⟨Nat.le_of_ble_eq_true rfl, Nat.le_of_ble_eq_true rfl⟩ d_Sq_squeeze_1 ⟨Nat.le_of_ble_eq_true rfl, Nat.le_of_ble_eq_true rfl⟩) (fun M1 h => ?_)
  refine a_aload_n fx 3 d_Sq_squeeze_4 rfl rfl ?_
  refine a_bipush (v := 31) fx d_Sq_squeeze_5 rfl ?_
  refine a_callv (rest := []) (a_runV (As := [.int 31]) fx cv_Ro_put w_582 (Met_Ro_put l B D aC aS (hk0 := hk3) (ht0 := ht3) h) hk3 ht3 (by decide) rfl rfl rfl (Nat.le_of_ble_eq_true rfl) rfl rfl ⟨Nat.le_of_ble_eq_true rfl, Nat.le_of_ble_eq_true rfl⟩ d_Sq_squeeze_7 ⟨Nat.le_of_ble_eq_true rfl, Nat.le_of_ble_eq_true rfl⟩) (fun M2 h => ?_)
  refine a_aload_n fx 3 d_Sq_squeeze_10 rfl rfl ?_
  refine a_sipush (v := 157) fx d_Sq_squeeze_11 rfl ?_
  refine a_callv (rest := []) (a_runV (As := [.int 157]) fx cv_Ro_put w_582 (Met_Ro_put l B D aC aS (hk0 := hk3) (ht0 := ht3) h) hk3 ht3 (by decide) rfl rfl rfl (Nat.le_of_ble_eq_true rfl) rfl rfl ⟨Nat.le_of_ble_eq_true rfl, Nat.le_of_ble_eq_true rfl⟩ d_Sq_squeeze_14 ⟨Nat.le_of_ble_eq_true rfl, Nat.le_of_ble_eq_true rfl⟩) (fun M3 h => ?_)
  refine a_aload_n fx 3 d_Sq_squeeze_17 rfl rfl ?_
  refine a_sipush (v := 128) fx d_Sq_squeeze_18 rfl ?_
  refine a_iload_n fx 2 d_Sq_squeeze_21 rfl rfl ?_
  refine a_iadd fx d_Sq_squeeze_22 ?_
  refine a_callv (rest := []) (a_runV (As := [.int (128 + i2)]) fx cv_Ro_put w_582 (Met_Ro_put l B D aC aS (hk0 := hk3) (ht0 := ht3) h) hk3 ht3 (by decide) rfl rfl rfl (Nat.le_of_ble_eq_true rfl) rfl rfl ⟨Nat.le_of_ble_eq_true rfl, Nat.le_of_ble_eq_true rfl⟩ d_Sq_squeeze_23 ⟨Nat.le_of_ble_eq_true rfl, Nat.le_of_ble_eq_true rfl⟩) (fun M4 h => ?_)
  refine a_aload_n fx 0 d_Sq_squeeze_26 rfl rfl ?_
  refine a_iload_n fx 2 d_Sq_squeeze_27 rfl rfl ?_
  refine a_callv (rest := []) (a_runV (As := [.int i2]) fx cv_Sq_begin w_583 (Met_Sq_begin l B D aC aS (hk0 := hk0) (ht0 := ht0) h) hk0 ht0 (by decide) rfl rfl rfl (Nat.le_of_ble_eq_true rfl) rfl rfl ⟨Nat.le_of_ble_eq_true rfl, Nat.le_of_ble_eq_true rfl⟩ d_Sq_squeeze_28 ⟨Nat.le_of_ble_eq_true rfl, Nat.le_of_ble_eq_true rfl⟩) (fun M5 h => ?_)
  refine a_aload_n fx 1 d_Sq_squeeze_31 rfl rfl ?_
  refine a_iconst (v := 0) fx d_Sq_squeeze_32 rfl ?_
  refine a_calli (rest := []) (a_runV (As := [.int 0]) fx cv_Ro_at w_898 (Met_Ro_at l B D aC aS (hk0 := hk1) (ht0 := ht1) h) hk1 ht1 (by decide) rfl rfl rfl (Nat.le_of_ble_eq_true rfl) rfl rfl ⟨Nat.le_of_ble_eq_true rfl, Nat.le_of_ble_eq_true rfl⟩ d_Sq_squeeze_33 ⟨Nat.le_of_ble_eq_true rfl, Nat.le_of_ble_eq_true rfl⟩) (fun x7 M6 h => ?_)
  refine a_istore (lv2 := [(4, .int x7), (0, .ref (B + a0)), (1, .ref (B + a1)), (2, .int i2), (3, .ref (B + a3))]) fx d_Sq_squeeze_36 (by decide) rfl ?_
  refine a_iconst (v := 1) fx d_Sq_squeeze_38 rfl ?_
  refine a_istore (lv2 := [(5, .int 1), (4, .int x7), (0, .ref (B + a0)), (1, .ref (B + a1)), (2, .int i2), (3, .ref (B + a3))]) fx d_Sq_squeeze_39 (by decide) rfl ?_
  refine a_sub [2, 3, 4, 5, 1, 0] rfl ?_
  exact h
set_option maxRecDepth 100000 in
set_option maxHeartbeats 4000000 in
theorem Met_Mc_isWidth (l : Launch) (B : Nat) (D : va_G) (aC : Nat → ClassId) (aS : Nat → Nat) {i0 : Int32} {M : zM} {post : Int32 → zM → Prop}  (h : Wp_Mc_isWidth i0 M post) : Met l y_Mc_isWidth (wo y_Mc_isWidth b_Mc_isWidth 1 (some FieldType.boolean)) { frames := 0, cells := 0, slots := 0, locals := 0 } (va_Pc [.int i0] (zWl B D aC aS M)) (zQi B D aC post) 0 0 (zAb B) := by
  refine z_met (own := "MailChain") (lv0 := [(0, .int i0)]) (by decide) rfl (Nat.le_of_ble_eq_true rfl) rfl ?_
  intro p e s m below meth c fx hr hlo
  delta Wp_Mc_isWidth at h
  refine a_iload_n fx 0 d_Mc_isWidth_0 rfl rfl ?_
  refine a_bipush (v := 9) fx d_Mc_isWidth_1 rfl ?_
  refine a_icmp_lt fx 16 d_Mc_isWidth_3 rfl (fun hc => ?_) (fun hc => ?_)
  · have h := h.1 hc
    refine a_iconst (v := 0) fx d_Mc_isWidth_16 rfl ?_
    exact a_zret fx hlo hr rfl h d_Mc_isWidth_17
  · have h := h.2 hc
    refine a_iload_n fx 0 d_Mc_isWidth_6 rfl rfl ?_
    refine a_bipush (v := 16) fx d_Mc_isWidth_7 rfl ?_
    refine a_icmp_gt fx 16 d_Mc_isWidth_9 rfl (fun hc => ?_) (fun hc => ?_)
    · have h := h.1 hc
      refine a_iconst (v := 0) fx d_Mc_isWidth_16 rfl ?_
      exact a_zret fx hlo hr rfl h d_Mc_isWidth_17
    · have h := h.2 hc
      refine a_iconst (v := 1) fx d_Mc_isWidth_12 rfl ?_
      refine a_goto fx 17 d_Mc_isWidth_13 rfl ?_
      exact a_zret fx hlo hr rfl h d_Mc_isWidth_17
set_option maxRecDepth 100000 in
set_option maxHeartbeats 4000000 in
theorem Met_Ex_begin (l : Launch) (B : Nat) (D : va_G) (aC : Nat → ClassId) (aS : Nat → Nat) {a0 : Nat} {M : zM} {post : zM → Prop} (hk0 : a0 < N0) (ht0 : tg a0 = 8) (h : Wp_Ex_begin a0 M post) : Met l y_Ex_begin (wo y_Ex_begin b_Ex_begin 1 none) { frames := 0, cells := 0, slots := 0, locals := 0 } (va_Pc [.ref (B + a0)] (zWl B D aC aS M)) (zQv B D aC post) 0 0 (zAb B) := by
  refine z_met (own := "MailChain$Expander") (lv0 := [(0, .ref (B + a0))]) (by decide) rfl (Nat.le_of_ble_eq_true rfl) rfl ?_
  intro p e s m below meth c fx hr hlo
  delta Wp_Ex_begin at h
  refine a_aload_n fx 0 d_Ex_begin_0 rfl rfl ?_
  refine a_sipush (v := 257) fx d_Ex_begin_1 rfl ?_
  refine a_putI fx (T := F_Ex) (ty0 := t_Ex) (j := 3) (hk := hk0) (ht := ht0) (ht2 := by decide) (hc := rfl) (hin := u_in_Ex) (hty := t_Ex_ok) (hnm := n_Ex) (hj := by decide) (hj2 := by decide) (hf := rfl) (hT := rfl) (hfin := rfl) (hn := rfl) (hfit := rfl) (hw := w_282) (hd := d_Ex_begin_4) (kk := a_mem (fun M1 eM1 => ?_))
  have h := h M1 eM1
  refine a_aload_n fx 0 d_Ex_begin_7 rfl rfl ?_
  refine a_bipush (v := 9) fx d_Ex_begin_8 rfl ?_
  refine a_putI fx (T := F_Ex) (ty0 := t_Ex) (j := 4) (hk := hk0) (ht := ht0) (ht2 := by decide) (hc := rfl) (hin := u_in_Ex) (hty := t_Ex_ok) (hnm := n_Ex) (hj := by decide) (hj2 := by decide) (hf := rfl) (hT := rfl) (hfin := rfl) (hn := rfl) (hfit := rfl) (hw := w_283) (hd := d_Ex_begin_10) (kk := a_mem (fun M2 eM2 => ?_))
  have h := h M2 eM2
  refine a_aload_n fx 0 d_Ex_begin_13 rfl rfl ?_
  refine a_iconst (v := 0) fx d_Ex_begin_14 rfl ?_
  refine a_putI fx (T := F_Ex) (ty0 := t_Ex) (j := 5) (hk := hk0) (ht := ht0) (ht2 := by decide) (hc := rfl) (hin := u_in_Ex) (hty := t_Ex_ok) (hnm := n_Ex) (hj := by decide) (hj2 := by decide) (hf := rfl) (hT := rfl) (hfin := rfl) (hn := rfl) (hfit := rfl) (hw := w_284) (hd := d_Ex_begin_15) (kk := a_mem (fun M3 eM3 => ?_))
  have h := h M3 eM3
  refine a_aload_n fx 0 d_Ex_begin_18 rfl rfl ?_
  refine a_iconst (v := 3) fx d_Ex_begin_19 rfl ?_
  refine a_putI fx (T := F_Ex) (ty0 := t_Ex) (j := 6) (hk := hk0) (ht := ht0) (ht2 := by decide) (hc := rfl) (hin := u_in_Ex) (hty := t_Ex_ok) (hnm := n_Ex) (hj := by decide) (hj2 := by decide) (hf := rfl) (hT := rfl) (hfin := rfl) (hn := rfl) (hfit := rfl) (hw := w_285) (hd := d_Ex_begin_20) (kk := a_mem (fun M4 eM4 => ?_))
  have h := h M4 eM4
  exact a_vret fx hlo hr h d_Ex_begin_23
set_option maxRecDepth 100000 in
set_option maxHeartbeats 4000000 in
theorem Met_Ex_changeWidth (l : Launch) (B : Nat) (D : va_G) (aC : Nat → ClassId) (aS : Nat → Nat) {a0 : Nat} {i1 : Int32} {M : zM} {post : zM → Prop} (hk0 : a0 < N0) (ht0 : tg a0 = 8) (h : Wp_Ex_changeWidth a0 i1 M post) : Met l y_Ex_changeWidth (wo y_Ex_changeWidth b_Ex_changeWidth 2 none) { frames := 0, cells := 0, slots := 0, locals := 0 } (va_Pc [.ref (B + a0), .int i1] (zWl B D aC aS M)) (zQv B D aC post) 0 0 (zAb B) := by
  refine z_met (own := "MailChain$Expander") (lv0 := [(0, .ref (B + a0)), (1, .int i1)]) (by decide) rfl (Nat.le_of_ble_eq_true rfl) rfl ?_
  intro p e s m below meth c fx hr hlo
  delta Wp_Ex_changeWidth at h
  refine a_aload_n fx 0 d_Ex_changeWidth_0 rfl rfl ?_
  refine a_dup fx d_Ex_changeWidth_1 rfl ?_
  refine a_getI fx (T := F_Ex) (j := 6) (hk := hk0) (ht := ht0) (ht2 := by decide) (hc := rfl) (hin := u_in_Ex) (hj := by decide) (hj2 := by decide) (hf := rfl) (hT := rfl) (hw := w_285) (hd := d_Ex_changeWidth_2) (kk := ?_)
  refine a_aload_n fx 0 d_Ex_changeWidth_5 rfl rfl ?_
  refine a_getI fx (T := F_Ex) (j := 5) (hk := hk0) (ht := ht0) (ht2 := by decide) (hc := rfl) (hin := u_in_Ex) (hj := by decide) (hj2 := by decide) (hf := rfl) (hT := rfl) (hw := w_284) (hd := d_Ex_changeWidth_6) (kk := ?_)
  refine a_bipush (v := 7) fx d_Ex_changeWidth_9 rfl ?_
  refine a_iadd fx d_Ex_changeWidth_11 ?_
  refine a_bipush (v := 8) fx d_Ex_changeWidth_12 rfl ?_
  refine a_idiv fx d_Ex_changeWidth_14 (by decide) ?_
  refine a_aload_n fx 0 d_Ex_changeWidth_15 rfl rfl ?_
  refine a_getI fx (T := F_Ex) (j := 4) (hk := hk0) (ht := ht0) (ht2 := by decide) (hc := rfl) (hin := u_in_Ex) (hj := by decide) (hj2 := by decide) (hf := rfl) (hT := rfl) (hw := w_283) (hd := d_Ex_changeWidth_16) (kk := ?_)
  refine a_imul fx d_Ex_changeWidth_19 ?_
  refine a_iadd fx d_Ex_changeWidth_20 ?_
  refine a_putI fx (T := F_Ex) (ty0 := t_Ex) (j := 6) (hk := hk0) (ht := ht0) (ht2 := by decide) (hc := rfl) (hin := u_in_Ex) (hty := t_Ex_ok) (hnm := n_Ex) (hj := by decide) (hj2 := by decide) (hf := rfl) (hT := rfl) (hfin := rfl) (hn := rfl) (hfit := rfl) (hw := w_285) (hd := d_Ex_changeWidth_21) (kk := a_mem (fun M1 eM1 => ?_))
  have h := h M1 eM1
  refine a_aload_n fx 0 d_Ex_changeWidth_24 rfl rfl ?_
  refine a_iconst (v := 0) fx d_Ex_changeWidth_25 rfl ?_
  refine a_putI fx (T := F_Ex) (ty0 := t_Ex) (j := 5) (hk := hk0) (ht := ht0) (ht2 := by decide) (hc := rfl) (hin := u_in_Ex) (hty := t_Ex_ok) (hnm := n_Ex) (hj := by decide) (hj2 := by decide) (hf := rfl) (hT := rfl) (hfin := rfl) (hn := rfl) (hfit := rfl) (hw := w_284) (hd := d_Ex_changeWidth_26) (kk := a_mem (fun M2 eM2 => ?_))
  have h := h M2 eM2
  refine a_aload_n fx 0 d_Ex_changeWidth_29 rfl rfl ?_
  refine a_iload_n fx 1 d_Ex_changeWidth_30 rfl rfl ?_
  refine a_putI fx (T := F_Ex) (ty0 := t_Ex) (j := 4) (hk := hk0) (ht := ht0) (ht2 := by decide) (hc := rfl) (hin := u_in_Ex) (hty := t_Ex_ok) (hnm := n_Ex) (hj := by decide) (hj2 := by decide) (hf := rfl) (hT := rfl) (hfin := rfl) (hn := rfl) (hfit := rfl) (hw := w_283) (hd := d_Ex_changeWidth_31) (kk := a_mem (fun M3 eM3 => ?_))
  have h := h M3 eM3
  exact a_vret fx hlo hr h d_Ex_changeWidth_34
set_option maxRecDepth 100000 in
set_option maxHeartbeats 4000000 in
theorem Met_Ex_readCode (l : Launch) (B : Nat) (D : va_G) (aC : Nat → ClassId) (aS : Nat → Nat) {a0 : Nat} {a1 : Nat} {M : zM} {post : Int32 → zM → Prop} (hk0 : a0 < N0) (ht0 : tg a0 = 8) (hk1 : a1 < N0) (ht1 : tg a1 = 1) (h : Wp_Ex_readCode a0 a1 M post) : Met l y_Ex_readCode (wo y_Ex_readCode b_Ex_readCode 5 (some FieldType.int)) { frames := 1, cells := 0, slots := 0, locals := 32 } (va_Pc [.ref (B + a0), .ref (B + a1)] (zWl B D aC aS M)) (zQi B D aC post) 0 0 (zAb B) := by
  refine z_met (own := "MailChain$Expander") (lv0 := [(0, .ref (B + a0)), (1, .ref (B + a1))]) (by decide) rfl (Nat.le_of_ble_eq_true rfl) rfl ?_
  intro p e s m below meth c fx hr hlo
  delta Wp_Ex_readCode at h
  have h := h (fun M => zAt p l e { frames := 1, cells := 0, slots := 0, locals := 32 } s m ([.ref (B + a0), .ref (B + a1)] : List Value).toArray below meth c 0 0 (MQ below (zQi B D aC post) ([.ref (B + a0), .ref (B + a1)] : List Value).toArray s 0 0 (zAb B)) B D aC 5 34 [(0, .ref (B + a0)), (1, .ref (B + a1))] [] M)
  have h := h (by
    intro M h
    refine a_bipush (v := 8) fx d_Ex_readCode_34 rfl ?_
    refine a_aload_n fx 0 d_Ex_readCode_36 rfl rfl ?_
    refine a_getI fx (T := F_Ex) (j := 6) (hk := hk0) (ht := ht0) (ht2 := by decide) (hc := rfl) (hin := u_in_Ex) (hj := by decide) (hj2 := by decide) (hf := rfl) (hT := rfl) (hw := w_285) (hd := d_Ex_readCode_37) (kk := ?_)
    refine a_imul fx d_Ex_readCode_40 ?_
    refine a_aload_n fx 0 d_Ex_readCode_41 rfl rfl ?_
    refine a_getI fx (T := F_Ex) (j := 5) (hk := hk0) (ht := ht0) (ht2 := by decide) (hc := rfl) (hin := u_in_Ex) (hj := by decide) (hj2 := by decide) (hf := rfl) (hT := rfl) (hw := w_284) (hd := d_Ex_readCode_42) (kk := ?_)
    refine a_aload_n fx 0 d_Ex_readCode_45 rfl rfl ?_
    refine a_getI fx (T := F_Ex) (j := 4) (hk := hk0) (ht := ht0) (ht2 := by decide) (hc := rfl) (hin := u_in_Ex) (hj := by decide) (hj2 := by decide) (hf := rfl) (hT := rfl) (hw := w_283) (hd := d_Ex_readCode_46) (kk := ?_)
    refine a_imul fx d_Ex_readCode_49 ?_
    refine a_iadd fx d_Ex_readCode_50 ?_
    refine a_topi (fun x2 ex2 => ?_)
    have h := h x2 ex2
    refine a_istore_n (lv2 := [(2, .int x2), (0, .ref (B + a0)), (1, .ref (B + a1))]) fx d_Ex_readCode_51 rfl (by decide) rfl ?_
    refine a_iload_n fx 0 d_Ex_readCode_52 rfl rfl ?_
    refine a_aload_n fx 1 d_Ex_readCode_53 rfl rfl ?_
    refine a_getI fx (T := F_Ex) (j := 4) (hk := hk0) (ht := ht0) (ht2 := by decide) (hc := rfl) (hin := u_in_Ex) (hj := by decide) (hj2 := by decide) (hf := rfl) (hT := rfl) (hw := w_283) (hd := d_Ex_readCode_54) (kk := ?_)
    refine a_iadd fx d_Ex_readCode_57 ?_
    refine a_bipush (v := 8) fx d_Ex_readCode_58 rfl ?_
    refine a_aload_n fx 2 d_Ex_readCode_60 rfl rfl ?_
    refine a_getIN fx (T := F_Ro) (j := 1) (hk := hk1) (ht := ht1) (ht2 := by decide) (hc := rfl) (hin := u_in_Ro) (hj := by decide) (hj2 := by decide) (hf := rfl) (hT := rfl) (q9 := 8) (hw := rfl) (hd := d_Ex_readCode_61) (kk := ?_)
    refine a_imul fx d_Ex_readCode_64 ?_
    refine a_icmp_le fx 70 d_Ex_readCode_65 rfl (fun hc => ?_) (fun hc => ?_)
    · have h := h.1 hc
      refine a_aload_n fx 1 d_Ex_readCode_70 rfl rfl ?_
      refine a_dup fx d_Ex_readCode_71 rfl ?_
      refine a_getI fx (T := F_Ex) (j := 5) (hk := hk0) (ht := ht0) (ht2 := by decide) (hc := rfl) (hin := u_in_Ex) (hj := by decide) (hj2 := by decide) (hf := rfl) (hT := rfl) (hw := w_284) (hd := d_Ex_readCode_72) (kk := ?_)
      refine a_iconst (v := 1) fx d_Ex_readCode_75 rfl ?_
      refine a_iadd fx d_Ex_readCode_76 ?_
      refine a_putI fx (T := F_Ex) (ty0 := t_Ex) (j := 5) (hk := hk0) (ht := ht0) (ht2 := by decide) (hc := rfl) (hin := u_in_Ex) (hty := t_Ex_ok) (hnm := n_Ex) (hj := by decide) (hj2 := by decide) (hf := rfl) (hT := rfl) (hfin := rfl) (hn := rfl) (hfit := rfl) (hw := w_284) (hd := d_Ex_readCode_77) (kk := a_mem (fun M3 eM3 => ?_))
      have h := h M3 eM3
      refine a_iload_n fx 0 d_Ex_readCode_80 rfl rfl ?_
      refine a_iconst (v := 3) fx d_Ex_readCode_81 rfl ?_
      refine a_ishr fx d_Ex_readCode_82 ?_
      refine a_topi (fun x4 ex4 => ?_)
      have h := h x4 ex4
      refine a_istore_n (lv2 := [(3, .int x4), (2, .int x2), (0, .ref (B + a0)), (1, .ref (B + a1))]) fx d_Ex_readCode_83 rfl (by decide) rfl ?_
      refine a_aload_n fx 3 d_Ex_readCode_84 rfl rfl ?_
      refine a_iload_n fx 0 d_Ex_readCode_85 rfl rfl ?_
      refine a_calli (rest := []) (a_runV (As := [.int x4]) fx cv_Ro_at w_549 (Met_Ro_at l B D aC aS (hk0 := hk1) (ht0 := ht1) h) hk1 ht1 (by decide) rfl rfl rfl (Nat.le_of_ble_eq_true rfl) rfl rfl ⟨Nat.le_of_ble_eq_true rfl, Nat.le_of_ble_eq_true rfl⟩ d_Ex_readCode_86 ⟨Nat.le_of_ble_eq_true rfl, Nat.le_of_ble_eq_true rfl⟩) (fun x6 M5 h => ?_)
      refine a_aload_n fx 3 d_Ex_readCode_89 rfl rfl ?_
      refine a_iload_n fx 0 d_Ex_readCode_90 rfl rfl ?_
      refine a_iconst (v := 1) fx d_Ex_readCode_91 rfl ?_
      refine a_iadd fx d_Ex_readCode_92 ?_
      refine a_calli (rest := [.int x6]) (a_runV (As := [.int (x4 + 1)]) fx cv_Ro_at w_549 (Met_Ro_at l B D aC aS (hk0 := hk1) (ht0 := ht1) h) hk1 ht1 (by decide) rfl rfl rfl (Nat.le_of_ble_eq_true rfl) rfl rfl ⟨Nat.le_of_ble_eq_true rfl, Nat.le_of_ble_eq_true rfl⟩ d_Ex_readCode_93 ⟨Nat.le_of_ble_eq_true rfl, Nat.le_of_ble_eq_true rfl⟩) (fun x8 M7 h => ?_)
      refine a_bipush (v := 8) fx d_Ex_readCode_96 rfl ?_
      refine a_ishl fx d_Ex_readCode_98 ?_
      refine a_ior fx d_Ex_readCode_99 ?_
      refine a_aload_n fx 3 d_Ex_readCode_100 rfl rfl ?_
      refine a_iload_n fx 0 d_Ex_readCode_101 rfl rfl ?_
      refine a_iconst (v := 2) fx d_Ex_readCode_102 rfl ?_
      refine a_iadd fx d_Ex_readCode_103 ?_
      refine a_calli (rest := [.int (x6 ||| (x8 <<< (8 &&& 31)))]) (a_runV (As := [.int (x4 + 2)]) fx cv_Ro_at w_549 (Met_Ro_at l B D aC aS (hk0 := hk1) (ht0 := ht1) h) hk1 ht1 (by decide) rfl rfl rfl (Nat.le_of_ble_eq_true rfl) rfl rfl ⟨Nat.le_of_ble_eq_true rfl, Nat.le_of_ble_eq_true rfl⟩ d_Ex_readCode_104 ⟨Nat.le_of_ble_eq_true rfl, Nat.le_of_ble_eq_true rfl⟩) (fun x10 M9 h => ?_)
      refine a_iconst (v := 0) fx d_Ex_readCode_107 rfl ?_
      refine a_mmax fx w_565 w_533 w_28 w_534 (Nat.le_of_ble_eq_true rfl) (Nat.le_of_ble_eq_true rfl) (Nat.le_of_ble_eq_true rfl) (Nat.le_of_ble_eq_true rfl) d_Ex_readCode_108 ?_
      refine a_bipush (v := 16) fx d_Ex_readCode_111 rfl ?_
      refine a_ishl fx d_Ex_readCode_113 ?_
      refine a_ior fx d_Ex_readCode_114 ?_
      refine a_topi (fun x11 ex11 => ?_)
      have h := h x11 ex11
      refine a_istore (lv2 := [(4, .int x11), (3, .int x4), (2, .int x2), (0, .ref (B + a0)), (1, .ref (B + a1))]) fx d_Ex_readCode_115 (by decide) rfl ?_
      refine a_iload fx 0 d_Ex_readCode_117 rfl ?_
      refine a_iload_n fx 2 d_Ex_readCode_119 rfl rfl ?_
      refine a_bipush (v := 7) fx d_Ex_readCode_120 rfl ?_
      refine a_iand fx d_Ex_readCode_122 ?_
      refine a_iushr fx d_Ex_readCode_123 ?_
      refine a_iconst (v := 1) fx d_Ex_readCode_124 rfl ?_
      refine a_aload_n fx 3 d_Ex_readCode_125 rfl rfl ?_
      refine a_getI fx (T := F_Ex) (j := 4) (hk := hk0) (ht := ht0) (ht2 := by decide) (hc := rfl) (hin := u_in_Ex) (hj := by decide) (hj2 := by decide) (hf := rfl) (hT := rfl) (hw := w_283) (hd := d_Ex_readCode_126) (kk := ?_)
      refine a_ishl fx d_Ex_readCode_129 ?_
      refine a_iconst (v := 1) fx d_Ex_readCode_130 rfl ?_
      refine a_isub fx d_Ex_readCode_131 ?_
      refine a_iand fx d_Ex_readCode_132 ?_
      exact a_iret fx hlo hr h d_Ex_readCode_133
    · have h := h.2 hc
      refine a_iconst (v := (-1)) fx d_Ex_readCode_68 rfl ?_
      exact a_iret fx hlo hr h d_Ex_readCode_69)
  refine a_aload_n fx 0 d_Ex_readCode_0 rfl rfl ?_
  refine a_getI fx (T := F_Ex) (j := 3) (hk := hk0) (ht := ht0) (ht2 := by decide) (hc := rfl) (hin := u_in_Ex) (hj := by decide) (hj2 := by decide) (hf := rfl) (hT := rfl) (hw := w_282) (hd := d_Ex_readCode_1) (kk := ?_)
  refine a_iconst (v := 1) fx d_Ex_readCode_4 rfl ?_
  refine a_aload_n fx 0 d_Ex_readCode_5 rfl rfl ?_
  refine a_getI fx (T := F_Ex) (j := 4) (hk := hk0) (ht := ht0) (ht2 := by decide) (hc := rfl) (hin := u_in_Ex) (hj := by decide) (hj2 := by decide) (hf := rfl) (hT := rfl) (hw := w_283) (hd := d_Ex_readCode_6) (kk := ?_)
  refine a_ishl fx d_Ex_readCode_9 ?_
  refine a_icmp_le fx 34 d_Ex_readCode_10 rfl (fun hc => ?_) (fun hc => ?_)
  · have h := h.1 hc
    refine a_sub [0, 1] rfl ?_
    exact h
  · have h := h.2 hc
    refine a_aload_n fx 0 d_Ex_readCode_13 rfl rfl ?_
    refine a_getI fx (T := F_Ex) (j := 4) (hk := hk0) (ht := ht0) (ht2 := by decide) (hc := rfl) (hin := u_in_Ex) (hj := by decide) (hj2 := by decide) (hf := rfl) (hT := rfl) (hw := w_283) (hd := d_Ex_readCode_14) (kk := ?_)
    refine a_aload_n fx 0 d_Ex_readCode_17 rfl rfl ?_
    refine a_getI fx (T := F_Ex) (j := 2) (hk := hk0) (ht := ht0) (ht2 := by decide) (hc := rfl) (hin := u_in_Ex) (hj := by decide) (hj2 := by decide) (hf := rfl) (hT := rfl) (hw := w_281) (hd := d_Ex_readCode_18) (kk := ?_)
    refine a_icmp_ge fx 34 d_Ex_readCode_21 rfl (fun hc => ?_) (fun hc => ?_)
    · have h := h.1 hc
      refine a_sub [0, 1] rfl ?_
      exact h
    · have h := h.2 hc
      refine a_aload_n fx 0 d_Ex_readCode_24 rfl rfl ?_
      refine a_aload_n fx 0 d_Ex_readCode_25 rfl rfl ?_
      refine a_getI fx (T := F_Ex) (j := 4) (hk := hk0) (ht := ht0) (ht2 := by decide) (hc := rfl) (hin := u_in_Ex) (hj := by decide) (hj2 := by decide) (hf := rfl) (hT := rfl) (hw := w_283) (hd := d_Ex_readCode_26) (kk := ?_)
      refine a_iconst (v := 1) fx d_Ex_readCode_29 rfl ?_
      refine a_iadd fx d_Ex_readCode_30 ?_
      refine a_callv (rest := []) (a_runV (As := [.int ((M.1 a0 4) + 1)]) fx cv_Ex_changeWidth w_561 (Met_Ex_changeWidth l B D aC aS (hk0 := hk0) (ht0 := ht0) h) hk0 ht0 (by decide) rfl rfl rfl (Nat.le_of_ble_eq_true rfl) rfl rfl ⟨Nat.le_of_ble_eq_true rfl, Nat.le_of_ble_eq_true rfl⟩ d_Ex_readCode_31 ⟨Nat.le_of_ble_eq_true rfl, Nat.le_of_ble_eq_true rfl⟩) (fun M1 h => ?_)
      refine a_sub [0, 1] rfl ?_
      exact h
set_option maxRecDepth 100000 in
set_option maxHeartbeats 4000000 in
theorem Met_Ex_tell (l : Launch) (B : Nat) (D : va_G) (aC : Nat → ClassId) (aS : Nat → Nat) {a0 : Nat} {i1 : Int32} {a2 : Nat} {M : zM} {post : Int32 → zM → Prop} (hk0 : a0 < N0) (ht0 : tg a0 = 8) (hk2 : a2 < N0) (ht2 : tg a2 = 1) (h : Wp_Ex_tell a0 i1 a2 M post) : Met l y_Ex_tell (wo y_Ex_tell b_Ex_tell 6 (some FieldType.boolean)) { frames := 1, cells := 0, slots := 0, locals := 21 } (va_Pc [.ref (B + a0), .int i1, .ref (B + a2)] (zWl B D aC aS M)) (zQi B D aC post) 0 0 (zAb B) := by
  refine z_met (own := "MailChain$Expander") (lv0 := [(0, .ref (B + a0)), (1, .int i1), (2, .ref (B + a2))]) (by decide) rfl (Nat.le_of_ble_eq_true rfl) rfl ?_
  intro p e s m below meth c fx hr hlo
  delta Wp_Ex_tell at h
  have h := h (fun M => zAt p l e { frames := 1, cells := 0, slots := 0, locals := 21 } s m ([.ref (B + a0), .int i1, .ref (B + a2)] : List Value).toArray below meth c 0 0 (MQ below (zQi B D aC post) ([.ref (B + a0), .int i1, .ref (B + a2)] : List Value).toArray s 0 0 (zAb B)) B D aC 6 24 [(0, .ref (B + a0)), (1, .int i1), (2, .ref (B + a2))] [] M)
  have h := h (fun v3 w0 M => zAt p l e { frames := 1, cells := 0, slots := 0, locals := 21 } s m ([.ref (B + a0), .int i1, .ref (B + a2)] : List Value).toArray below meth c 0 0 (MQ below (zQi B D aC post) ([.ref (B + a0), .int i1, .ref (B + a2)] : List Value).toArray s 0 0 (zAb B)) B D aC 6 46 [(0, .ref (B + a0)), (1, .int i1), (2, .ref (B + a2)), (3, .int v3)] [.int w0] M)
  have h := h (fun v3 v4 v5 M => zAt p l e { frames := 1, cells := 0, slots := 0, locals := 21 } s m ([.ref (B + a0), .int i1, .ref (B + a2)] : List Value).toArray below meth c 0 0 (MQ below (zQi B D aC post) ([.ref (B + a0), .int i1, .ref (B + a2)] : List Value).toArray s 0 0 (zAb B)) B D aC 6 72 [(0, .ref (B + a0)), (1, .int i1), (2, .ref (B + a2)), (3, .int v3), (4, .int v4), (5, .int v5)] [] M)
  have h := h (by
    intro M h
    refine a_aload_n fx 2 d_Ex_tell_24 rfl rfl ?_
    refine a_getIN fx (T := F_Ro) (j := 1) (hk := hk2) (ht := ht2) (ht2 := by decide) (hc := rfl) (hin := u_in_Ro) (hj := by decide) (hj2 := by decide) (hf := rfl) (hT := rfl) (q9 := 8) (hw := rfl) (hd := d_Ex_tell_25) (kk := ?_)
    refine a_topi (fun x1 ex1 => ?_)
    have h := h x1 ex1
    refine a_istore_n (lv2 := [(3, .int x1), (0, .ref (B + a0)), (1, .int i1), (2, .ref (B + a2))]) fx d_Ex_tell_28 rfl (by decide) rfl ?_
    refine a_iload_n fx 2 d_Ex_tell_29 rfl rfl ?_
    refine a_sipush (v := 256) fx d_Ex_tell_30 rfl ?_
    refine a_icmp_ge fx 40 d_Ex_tell_33 rfl (fun hc => ?_) (fun hc => ?_)
    · have h := h.1 hc
      refine a_aload_n fx 1 d_Ex_tell_40 rfl rfl ?_
      refine a_getS fx (T := F_Ex) (j := 1) (hk := hk0) (ht := ht0) (ht2 := by decide) (hc := rfl) (hin := u_in_Ex) (hj := by decide) (hj2 := by decide) (hf := rfl) (n9 := 2) (hfo := rfl) (hT := rfl) (hw := w_280) (hd := d_Ex_tell_41) (kk := ?_)
      refine a_iload_n fx 2 d_Ex_tell_44 rfl rfl ?_
      obtain ⟨hin, h⟩ := h
      refine a_iald fx (lo_8_1 hk0 ht0).1 (lo_8_1 hk0 ht0).2 hin d_Ex_tell_45 ?_
      refine a_sub [1, 2, 3, 0] rfl ?_
      exact h
    · have h := h.2 hc
      refine a_iconst (v := 1) fx d_Ex_tell_36 rfl ?_
      refine a_goto fx 46 d_Ex_tell_37 rfl ?_
      refine a_sub [1, 2, 3, 0] rfl ?_
      exact h)
  have h := h (by
    intro v3 w0 M h
    refine a_istore (lv2 := [(4, .int w0), (0, .ref (B + a0)), (1, .int i1), (2, .ref (B + a2)), (3, .int v3)]) fx d_Ex_tell_46 (by decide) rfl ?_
    refine a_iload fx 0 d_Ex_tell_48 rfl ?_
    refine a_aload_n fx 3 d_Ex_tell_50 rfl rfl ?_
    refine a_calli (rest := [.int w0]) (a_runV (As := []) fx cv_Ro_room w_570 (Met_Ro_room l B D aC aS (hk0 := hk2) (ht0 := ht2) h) hk2 ht2 (by decide) rfl rfl rfl (Nat.le_of_ble_eq_true rfl) rfl rfl ⟨Nat.le_of_ble_eq_true rfl, Nat.le_of_ble_eq_true rfl⟩ d_Ex_tell_51 ⟨Nat.le_of_ble_eq_true rfl, Nat.le_of_ble_eq_true rfl⟩) (fun x3 M2 h => ?_)
    refine a_icmp_gt fx 67 d_Ex_tell_54 rfl (fun hc => ?_) (fun hc => ?_)
    · have h := h.1 hc
      refine a_iconst (v := 0) fx d_Ex_tell_67 rfl ?_
      exact a_zret fx hlo hr rfl h d_Ex_tell_68
    · have h := h.2 hc
      refine a_aload_n fx 1 d_Ex_tell_57 rfl rfl ?_
      refine a_getI fx (T := F_Ex) (j := 3) (hk := hk0) (ht := ht0) (ht2 := by decide) (hc := rfl) (hin := u_in_Ex) (hj := by decide) (hj2 := by decide) (hf := rfl) (hT := rfl) (hw := w_282) (hd := d_Ex_tell_58) (kk := ?_)
      refine a_sipush (v := 16384) fx d_Ex_tell_61 rfl ?_
      refine a_icmp_lt fx 69 d_Ex_tell_64 rfl (fun hc => ?_) (fun hc => ?_)
      · have h := h.1 hc
        refine a_iconst (v := 0) fx d_Ex_tell_69 rfl ?_
        refine a_istore (lv2 := [(5, .int 0), (4, .int w0), (0, .ref (B + a0)), (1, .int i1), (2, .ref (B + a2)), (3, .int v3)]) fx d_Ex_tell_70 (by decide) rfl ?_
        refine a_sub [2, 3, 4, 5, 1, 0] rfl ?_
        exact h
      · have h := h.2 hc
        refine a_iconst (v := 0) fx d_Ex_tell_67 rfl ?_
        exact a_zret fx hlo hr rfl h d_Ex_tell_68)
  have h := h (by
    intro v3 v4 v5 M h
    refine a_iload fx 5 d_Ex_tell_72 rfl ?_
    refine a_iload fx 4 d_Ex_tell_74 rfl ?_
    refine a_icmp_ge fx 113 d_Ex_tell_76 rfl (fun hc => ?_) (fun hc => ?_)
    · have h := h.1 hc
      refine a_aload_n fx 0 d_Ex_tell_113 rfl rfl ?_
      refine a_getS fx (T := F_Ex) (j := 0) (hk := hk0) (ht := ht0) (ht2 := by decide) (hc := rfl) (hin := u_in_Ex) (hj := by decide) (hj2 := by decide) (hf := rfl) (n9 := 1) (hfo := rfl) (hT := rfl) (hw := w_279) (hd := d_Ex_tell_114) (kk := ?_)
      refine a_aload_n fx 0 d_Ex_tell_117 rfl rfl ?_
      refine a_getI fx (T := F_Ex) (j := 3) (hk := hk0) (ht := ht0) (ht2 := by decide) (hc := rfl) (hin := u_in_Ex) (hj := by decide) (hj2 := by decide) (hf := rfl) (hT := rfl) (hw := w_282) (hd := d_Ex_tell_118) (kk := ?_)
      refine a_iload_n fx 3 d_Ex_tell_121 rfl rfl ?_
      obtain ⟨hin, h⟩ := h
      refine a_iast fx (lo_8_0 hk0 ht0).1 (lo_8_0 hk0 ht0).2 hin d_Ex_tell_122 (a_mem (fun M4 eM4 => ?_))
      have h := h M4 eM4
      refine a_aload_n fx 0 d_Ex_tell_123 rfl rfl ?_
      refine a_getS fx (T := F_Ex) (j := 1) (hk := hk0) (ht := ht0) (ht2 := by decide) (hc := rfl) (hin := u_in_Ex) (hj := by decide) (hj2 := by decide) (hf := rfl) (n9 := 2) (hfo := rfl) (hT := rfl) (hw := w_280) (hd := d_Ex_tell_124) (kk := ?_)
      refine a_aload_n fx 0 d_Ex_tell_127 rfl rfl ?_
      refine a_getI fx (T := F_Ex) (j := 3) (hk := hk0) (ht := ht0) (ht2 := by decide) (hc := rfl) (hin := u_in_Ex) (hj := by decide) (hj2 := by decide) (hf := rfl) (hT := rfl) (hw := w_282) (hd := d_Ex_tell_128) (kk := ?_)
      refine a_iload fx 4 d_Ex_tell_131 rfl ?_
      refine a_iconst (v := 1) fx d_Ex_tell_133 rfl ?_
      refine a_iadd fx d_Ex_tell_134 ?_
      obtain ⟨hin, h⟩ := h
      refine a_iast fx (lo_8_1 hk0 ht0).1 (lo_8_1 hk0 ht0).2 hin d_Ex_tell_135 (a_mem (fun M5 eM5 => ?_))
      have h := h M5 eM5
      refine a_iconst (v := 1) fx d_Ex_tell_136 rfl ?_
      exact a_zret fx hlo hr rfl h d_Ex_tell_137
    · have h := h.2 hc
      refine a_aload_n fx 2 d_Ex_tell_79 rfl rfl ?_
      refine a_iload_n fx 1 d_Ex_tell_80 rfl rfl ?_
      refine a_sipush (v := 256) fx d_Ex_tell_81 rfl ?_
      refine a_icmp_ge fx 91 d_Ex_tell_84 rfl (fun hc => ?_) (fun hc => ?_)
      · have h := h.1 hc
        refine a_aload_n fx 2 d_Ex_tell_91 rfl rfl ?_
        refine a_aload_n fx 0 d_Ex_tell_92 rfl rfl ?_
        refine a_getS fx (T := F_Ex) (j := 0) (hk := hk0) (ht := ht0) (ht2 := by decide) (hc := rfl) (hin := u_in_Ex) (hj := by decide) (hj2 := by decide) (hf := rfl) (n9 := 1) (hfo := rfl) (hT := rfl) (hw := w_279) (hd := d_Ex_tell_93) (kk := ?_)
        refine a_iload_n fx 1 d_Ex_tell_96 rfl rfl ?_
        obtain ⟨hin, h⟩ := h
        refine a_iald fx (lo_8_0 hk0 ht0).1 (lo_8_0 hk0 ht0).2 hin d_Ex_tell_97 ?_
        refine a_iload fx 5 d_Ex_tell_98 rfl ?_
        refine a_iadd fx d_Ex_tell_100 ?_
        refine a_calli (rest := [.ref (B + a2)]) (a_runV (As := [.int ((M.1 (a0 + 1) (i1).toNatClampNeg) + v5)]) fx cv_Ro_at w_549 (Met_Ro_at l B D aC aS (hk0 := hk2) (ht0 := ht2) h) hk2 ht2 (by decide) rfl rfl rfl (Nat.le_of_ble_eq_true rfl) rfl rfl ⟨Nat.le_of_ble_eq_true rfl, Nat.le_of_ble_eq_true rfl⟩ d_Ex_tell_101 ⟨Nat.le_of_ble_eq_true rfl, Nat.le_of_ble_eq_true rfl⟩) (fun x7 M6 h => ?_)
        refine a_callv (rest := []) (a_runV (As := [.int x7]) fx cv_Ro_put w_571 (Met_Ro_put l B D aC aS (hk0 := hk2) (ht0 := ht2) h) hk2 ht2 (by decide) rfl rfl rfl (Nat.le_of_ble_eq_true rfl) rfl rfl ⟨Nat.le_of_ble_eq_true rfl, Nat.le_of_ble_eq_true rfl⟩ d_Ex_tell_104 ⟨Nat.le_of_ble_eq_true rfl, Nat.le_of_ble_eq_true rfl⟩) (fun M8 h => ?_)
        obtain ⟨x9, ex9⟩ : ∃ z : Int32, z = v5 + 1 := ⟨_, rfl⟩
        have h := h x9 ex9
        refine a_iinc (lv2 := [(5, .int x9), (0, .ref (B + a0)), (1, .int i1), (2, .ref (B + a2)), (3, .int v3), (4, .int v4)]) fx 5 d_Ex_tell_107 rfl ex9.symm (by decide) rfl ?_
        refine a_goto fx 72 d_Ex_tell_110 rfl ?_
        refine a_sub [1, 2, 3, 4, 5, 0] rfl ?_
        exact h
      · have h := h.2 hc
        refine a_iload_n fx 1 d_Ex_tell_87 rfl rfl ?_
        refine a_goto fx 104 d_Ex_tell_88 rfl ?_
        refine a_callv (rest := []) (a_runV (As := [.int i1]) fx cv_Ro_put w_571 (Met_Ro_put l B D aC aS (hk0 := hk2) (ht0 := ht2) h) hk2 ht2 (by decide) rfl rfl rfl (Nat.le_of_ble_eq_true rfl) rfl rfl ⟨Nat.le_of_ble_eq_true rfl, Nat.le_of_ble_eq_true rfl⟩ d_Ex_tell_104 ⟨Nat.le_of_ble_eq_true rfl, Nat.le_of_ble_eq_true rfl⟩) (fun M10 h => ?_)
        obtain ⟨x11, ex11⟩ : ∃ z : Int32, z = v5 + 1 := ⟨_, rfl⟩
        have h := h x11 ex11
        refine a_iinc (lv2 := [(5, .int x11), (0, .ref (B + a0)), (1, .int i1), (2, .ref (B + a2)), (3, .int v3), (4, .int v4)]) fx 5 d_Ex_tell_107 rfl ex11.symm (by decide) rfl ?_
        refine a_goto fx 72 d_Ex_tell_110 rfl ?_
        refine a_sub [1, 2, 3, 4, 5, 0] rfl ?_
        exact h)
  refine a_iload_n fx 1 d_Ex_tell_0 rfl rfl ?_
  refine a_sipush (v := 256) fx d_Ex_tell_1 rfl ?_
  refine a_icmp_eq fx 22 d_Ex_tell_4 rfl (fun hc => ?_) (fun hc => ?_)
  · have h := h.1 hc
    refine a_iconst (v := 0) fx d_Ex_tell_22 rfl ?_
    exact a_zret fx hlo hr rfl h d_Ex_tell_23
  · have h := h.2 hc
    refine a_iload_n fx 1 d_Ex_tell_7 rfl rfl ?_
    refine a_sipush (v := 257) fx d_Ex_tell_8 rfl ?_
    refine a_icmp_lt fx 24 d_Ex_tell_11 rfl (fun hc => ?_) (fun hc => ?_)
    · have h := h.1 hc
      refine a_sub [0, 1, 2] rfl ?_
      exact h
    · have h := h.2 hc
      refine a_iload_n fx 1 d_Ex_tell_14 rfl rfl ?_
      refine a_aload_n fx 0 d_Ex_tell_15 rfl rfl ?_
      refine a_getI fx (T := F_Ex) (j := 3) (hk := hk0) (ht := ht0) (ht2 := by decide) (hc := rfl) (hin := u_in_Ex) (hj := by decide) (hj2 := by decide) (hf := rfl) (hT := rfl) (hw := w_282) (hd := d_Ex_tell_16) (kk := ?_)
      refine a_icmp_lt fx 24 d_Ex_tell_19 rfl (fun hc => ?_) (fun hc => ?_)
      · have h := h.1 hc
        refine a_sub [0, 1, 2] rfl ?_
        exact h
      · have h := h.2 hc
        refine a_iconst (v := 0) fx d_Ex_tell_22 rfl ?_
        exact a_zret fx hlo hr rfl h d_Ex_tell_23
set_option maxRecDepth 100000 in
set_option maxHeartbeats 4000000 in
theorem Met_Ex_restart (l : Launch) (B : Nat) (D : va_G) (aC : Nat → ClassId) (aS : Nat → Nat) {a0 : Nat} {M : zM} {post : zM → Prop} (hk0 : a0 < N0) (ht0 : tg a0 = 8) (h : Wp_Ex_restart a0 M post) : Met l y_Ex_restart (wo y_Ex_restart b_Ex_restart 1 none) { frames := 1, cells := 0, slots := 0, locals := 21 } (va_Pc [.ref (B + a0)] (zWl B D aC aS M)) (zQv B D aC post) 0 0 (zAb B) := by
  refine z_met (own := "MailChain$Expander") (lv0 := [(0, .ref (B + a0))]) (by decide) rfl (Nat.le_of_ble_eq_true rfl) rfl ?_
  intro p e s m below meth c fx hr hlo
  delta Wp_Ex_restart at h
  refine a_aload_n fx 0 d_Ex_restart_0 rfl rfl ?_
  refine a_bipush (v := 9) fx d_Ex_restart_1 rfl ?_
  refine a_callv (rest := []) (a_runV (As := [.int 9]) fx cv_Ex_changeWidth w_561 (Met_Ex_changeWidth l B D aC aS (hk0 := hk0) (ht0 := ht0) h) hk0 ht0 (by decide) rfl rfl rfl (Nat.le_of_ble_eq_true rfl) rfl rfl ⟨Nat.le_of_ble_eq_true rfl, Nat.le_of_ble_eq_true rfl⟩ d_Ex_restart_3 ⟨Nat.le_of_ble_eq_true rfl, Nat.le_of_ble_eq_true rfl⟩) (fun M1 h => ?_)
  refine a_aload_n fx 0 d_Ex_restart_6 rfl rfl ?_
  refine a_sipush (v := 257) fx d_Ex_restart_7 rfl ?_
  refine a_putI fx (T := F_Ex) (ty0 := t_Ex) (j := 3) (hk := hk0) (ht := ht0) (ht2 := by decide) (hc := rfl) (hin := u_in_Ex) (hty := t_Ex_ok) (hnm := n_Ex) (hj := by decide) (hj2 := by decide) (hf := rfl) (hT := rfl) (hfin := rfl) (hn := rfl) (hfit := rfl) (hw := w_282) (hd := d_Ex_restart_10) (kk := a_mem (fun M2 eM2 => ?_))
  have h := h M2 eM2
  exact a_vret fx hlo hr h d_Ex_restart_13
set_option maxRecDepth 100000 in
set_option maxHeartbeats 4000000 in
theorem Met_Ex_expand (l : Launch) (B : Nat) (D : va_G) (aC : Nat → ClassId) (aS : Nat → Nat) {a0 : Nat} {a1 : Nat} {a2 : Nat} {M : zM} {post : Int32 → zM → Prop} (hk0 : a0 < N0) (ht0 : tg a0 = 8) (hk1 : a1 < N0) (ht1 : tg a1 = 1) (hk2 : a2 < N0) (ht2 : tg a2 = 1) (h : Wp_Ex_expand a0 a1 a2 M post) : Met l y_Ex_expand (wo y_Ex_expand b_Ex_expand 7 (some FieldType.boolean)) { frames := 2, cells := 0, slots := 0, locals := 56 } (va_Pc [.ref (B + a0), .ref (B + a1), .ref (B + a2)] (zWl B D aC aS M)) (zQi B D aC post) 0 0 (zAb B) := by
  refine z_met (own := "MailChain$Expander") (lv0 := [(0, .ref (B + a0)), (1, .ref (B + a1)), (2, .ref (B + a2))]) (by decide) rfl (Nat.le_of_ble_eq_true rfl) rfl ?_
  intro p e s m below meth c fx hr hlo
  delta Wp_Ex_expand at h
  have h := h (fun v3 v4 M => zAt p l e { frames := 2, cells := 0, slots := 0, locals := 56 } s m ([.ref (B + a0), .ref (B + a1), .ref (B + a2)] : List Value).toArray below meth c 0 0 (MQ below (zQi B D aC post) ([.ref (B + a0), .ref (B + a1), .ref (B + a2)] : List Value).toArray s 0 0 (zAb B)) B D aC 7 59 [(0, .ref (B + a0)), (1, .ref (B + a1)), (2, .ref (B + a2)), (3, .int v3), (4, .int v4)] [] M)
  have h := h (fun v3 v4 w0 M => zAt p l e { frames := 2, cells := 0, slots := 0, locals := 56 } s m ([.ref (B + a0), .ref (B + a1), .ref (B + a2)] : List Value).toArray below meth c 0 0 (MQ below (zQi B D aC post) ([.ref (B + a0), .ref (B + a1), .ref (B + a2)] : List Value).toArray s 0 0 (zAb B)) B D aC 7 89 [(0, .ref (B + a0)), (1, .ref (B + a1)), (2, .ref (B + a2)), (3, .int v3), (4, .int v4)] [.int w0] M)
  have h := h (fun v4 v5 M => zAt p l e { frames := 2, cells := 0, slots := 0, locals := 56 } s m ([.ref (B + a0), .ref (B + a1), .ref (B + a2)] : List Value).toArray below meth c 0 0 (MQ below (zQi B D aC post) ([.ref (B + a0), .ref (B + a1), .ref (B + a2)] : List Value).toArray s 0 0 (zAb B)) B D aC 7 110 [(0, .ref (B + a0)), (1, .ref (B + a1)), (2, .ref (B + a2)), (4, .int v4), (5, .int v5)] [] M)
  have h := h (fun v4 v5 M => zAt p l e { frames := 2, cells := 0, slots := 0, locals := 56 } s m ([.ref (B + a0), .ref (B + a1), .ref (B + a2)] : List Value).toArray below meth c 0 0 (MQ below (zQi B D aC post) ([.ref (B + a0), .ref (B + a1), .ref (B + a2)] : List Value).toArray s 0 0 (zAb B)) B D aC 7 153 [(0, .ref (B + a0)), (1, .ref (B + a1)), (2, .ref (B + a2)), (4, .int v4), (5, .int v5)] [] M)
  have h := h (by
    intro v3 v4 M h
    refine a_iload fx 4 d_Ex_expand_59 rfl ?_
    refine a_sipush (v := 30000) fx d_Ex_expand_61 rfl ?_
    refine a_icmp_ge fx 171 d_Ex_expand_64 rfl (fun hc => ?_) (fun hc => ?_)
    · have h := h.1 hc
      refine a_iconst (v := 0) fx d_Ex_expand_171 rfl ?_
      exact a_zret fx hlo hr rfl h d_Ex_expand_172
    · have h := h.2 hc
      refine a_iload_n fx 3 d_Ex_expand_67 rfl rfl ?_
      refine a_if_ne fx 88 d_Ex_expand_68 rfl (fun hc => ?_) (fun hc => ?_)
      · have h := h.1 hc
        refine a_iconst (v := 0) fx d_Ex_expand_88 rfl ?_
        refine a_sub [0, 1, 2, 3, 4] rfl ?_
        exact h
      · have h := h.2 hc
        refine a_aload_n fx 0 d_Ex_expand_71 rfl rfl ?_
        refine a_getI fx (T := F_Ex) (j := 3) (hk := hk0) (ht := ht0) (ht2 := by decide) (hc := rfl) (hin := u_in_Ex) (hj := by decide) (hj2 := by decide) (hf := rfl) (hT := rfl) (hw := w_282) (hd := d_Ex_expand_72) (kk := ?_)
        refine a_iconst (v := 1) fx d_Ex_expand_75 rfl ?_
        refine a_aload_n fx 0 d_Ex_expand_76 rfl rfl ?_
        refine a_getI fx (T := F_Ex) (j := 2) (hk := hk0) (ht := ht0) (ht2 := by decide) (hc := rfl) (hin := u_in_Ex) (hj := by decide) (hj2 := by decide) (hf := rfl) (hT := rfl) (hw := w_281) (hd := d_Ex_expand_77) (kk := ?_)
        refine a_ishl fx d_Ex_expand_80 ?_
        refine a_icmp_lt fx 88 d_Ex_expand_81 rfl (fun hc => ?_) (fun hc => ?_)
        · have h := h.1 hc
          refine a_iconst (v := 0) fx d_Ex_expand_88 rfl ?_
          refine a_sub [0, 1, 2, 3, 4] rfl ?_
          exact h
        · have h := h.2 hc
          refine a_iconst (v := 1) fx d_Ex_expand_84 rfl ?_
          refine a_goto fx 89 d_Ex_expand_85 rfl ?_
          refine a_sub [0, 1, 2, 3, 4] rfl ?_
          exact h)
  have h := h (by
    intro v3 v4 w0 M h
    refine a_istore (lv2 := [(5, .int w0), (0, .ref (B + a0)), (1, .ref (B + a1)), (2, .ref (B + a2)), (3, .int v3), (4, .int v4)]) fx d_Ex_expand_89 (by decide) rfl ?_
    refine a_iload_n fx 4 d_Ex_expand_91 rfl rfl ?_
    refine a_if_ne fx 110 d_Ex_expand_92 rfl (fun hc => ?_) (fun hc => ?_)
    · have h := h.1 hc
      refine a_sub [1, 2, 3, 5, 0] rfl ?_
      exact h
    · have h := h.2 hc
      refine a_iload fx 0 d_Ex_expand_95 rfl ?_
      refine a_if_ne fx 110 d_Ex_expand_97 rfl (fun hc => ?_) (fun hc => ?_)
      · have h := h.1 hc
        refine a_sub [1, 2, 3, 5, 0] rfl ?_
        exact h
      · have h := h.2 hc
        refine a_aload_n fx 1 d_Ex_expand_100 rfl rfl ?_
        refine a_dup fx d_Ex_expand_101 rfl ?_
        refine a_getI fx (T := F_Ex) (j := 3) (hk := hk0) (ht := ht0) (ht2 := by decide) (hc := rfl) (hin := u_in_Ex) (hj := by decide) (hj2 := by decide) (hf := rfl) (hT := rfl) (hw := w_282) (hd := d_Ex_expand_102) (kk := ?_)
        refine a_iconst (v := 1) fx d_Ex_expand_105 rfl ?_
        refine a_iadd fx d_Ex_expand_106 ?_
        refine a_putI fx (T := F_Ex) (ty0 := t_Ex) (j := 3) (hk := hk0) (ht := ht0) (ht2 := by decide) (hc := rfl) (hin := u_in_Ex) (hty := t_Ex_ok) (hnm := n_Ex) (hj := by decide) (hj2 := by decide) (hf := rfl) (hT := rfl) (hfin := rfl) (hn := rfl) (hfit := rfl) (hw := w_282) (hd := d_Ex_expand_107) (kk := a_mem (fun M12 eM12 => ?_))
        have h := h M12 eM12
        refine a_sub [1, 2, 3, 5, 0] rfl ?_
        exact h)
  have h := h (by
    intro v4 v5 M h
    refine a_aload_n fx 0 d_Ex_expand_110 rfl rfl ?_
    refine a_aload_n fx 1 d_Ex_expand_111 rfl rfl ?_
    refine a_calli (rest := []) (a_runV (As := [.ref (B + a1)]) fx cv_Ex_readCode w_557 (Met_Ex_readCode l B D aC aS (hk0 := hk0) (ht0 := ht0) (hk1 := hk1) (ht1 := ht1) h) hk0 ht0 (by decide) rfl rfl rfl (Nat.le_of_ble_eq_true rfl) rfl rfl ⟨Nat.le_of_ble_eq_true rfl, Nat.le_of_ble_eq_true rfl⟩ d_Ex_expand_112 ⟨Nat.le_of_ble_eq_true rfl, Nat.le_of_ble_eq_true rfl⟩) (fun x14 M13 h => ?_)
    refine a_istore (lv2 := [(6, .int x14), (0, .ref (B + a0)), (1, .ref (B + a1)), (2, .ref (B + a2)), (4, .int v4), (5, .int v5)]) fx d_Ex_expand_115 (by decide) rfl ?_
    refine a_iload fx 0 d_Ex_expand_117 rfl ?_
    refine a_iconst (v := (-1)) fx d_Ex_expand_119 rfl ?_
    refine a_icmp_ne fx 125 d_Ex_expand_120 rfl (fun hc => ?_) (fun hc => ?_)
    · have h := h.1 hc
      refine a_iload fx 5 d_Ex_expand_125 rfl ?_
      refine a_if_eq fx 141 d_Ex_expand_127 rfl (fun hc => ?_) (fun hc => ?_)
      · have h := h.1 hc
        refine a_aload_n fx 1 d_Ex_expand_141 rfl rfl ?_
        refine a_iload fx 0 d_Ex_expand_142 rfl ?_
        refine a_aload_n fx 3 d_Ex_expand_144 rfl rfl ?_
        refine a_calli (rest := []) (a_runV (As := [.int x14, .ref (B + a2)]) fx cv_Ex_tell w_566 (Met_Ex_tell l B D aC aS (hk0 := hk0) (ht0 := ht0) (hk2 := hk2) (ht2 := ht2) h) hk0 ht0 (by decide) rfl rfl rfl (Nat.le_of_ble_eq_true rfl) rfl rfl ⟨Nat.le_of_ble_eq_true rfl, Nat.le_of_ble_eq_true rfl⟩ d_Ex_expand_145 ⟨Nat.le_of_ble_eq_true rfl, Nat.le_of_ble_eq_true rfl⟩) (fun x16 M15 h => ?_)
        refine a_if_ne fx 153 d_Ex_expand_148 rfl (fun hc => ?_) (fun hc => ?_)
        · have h := h.1 hc
          refine a_sub [1, 2, 3, 4, 5] rfl ?_
          exact h
        · have h := h.2 hc
          refine a_iconst (v := 0) fx d_Ex_expand_151 rfl ?_
          exact a_zret fx hlo hr rfl h d_Ex_expand_152
      · have h := h.2 hc
        refine a_iload fx 0 d_Ex_expand_130 rfl ?_
        refine a_sipush (v := 256) fx d_Ex_expand_132 rfl ?_
        refine a_icmp_eq fx 153 d_Ex_expand_135 rfl (fun hc => ?_) (fun hc => ?_)
        · have h := h.1 hc
          refine a_sub [1, 2, 3, 4, 5] rfl ?_
          exact h
        · have h := h.2 hc
          refine a_goto fx 151 d_Ex_expand_138 rfl ?_
          refine a_iconst (v := 0) fx d_Ex_expand_151 rfl ?_
          exact a_zret fx hlo hr rfl h d_Ex_expand_152
    · have h := h.2 hc
      refine a_iconst (v := 1) fx d_Ex_expand_123 rfl ?_
      exact a_zret fx hlo hr rfl h d_Ex_expand_124)
  have h := h (by
    intro v4 v5 M h
    refine a_iload fx 4 d_Ex_expand_153 rfl ?_
    refine a_if_eq fx 162 d_Ex_expand_155 rfl (fun hc => ?_) (fun hc => ?_)
    · have h := h.1 hc
      refine a_iload fx 4 d_Ex_expand_162 rfl ?_
      refine a_istore_n (lv2 := [(3, .int v5), (0, .ref (B + a0)), (1, .ref (B + a1)), (2, .ref (B + a2)), (4, .int v4), (5, .int v5)]) fx d_Ex_expand_164 rfl (by decide) rfl ?_
      obtain ⟨x17, ex17⟩ : ∃ z : Int32, z = v4 + 1 := ⟨_, rfl⟩
      have h := h x17 ex17
      refine a_iinc (lv2 := [(4, .int x17), (3, .int v5), (0, .ref (B + a0)), (1, .ref (B + a1)), (2, .ref (B + a2)), (5, .int v5)]) fx 4 d_Ex_expand_165 rfl ex17.symm (by decide) rfl ?_
      refine a_goto fx 59 d_Ex_expand_168 rfl ?_
      refine a_sub [2, 3, 4, 1, 0] rfl ?_
      exact h
    · have h := h.2 hc
      refine a_aload_n fx 0 d_Ex_expand_158 rfl rfl ?_
      refine a_callv (rest := []) (a_runV (As := []) fx cv_Ex_restart w_572 (Met_Ex_restart l B D aC aS (hk0 := hk0) (ht0 := ht0) h) hk0 ht0 (by decide) rfl rfl rfl (Nat.le_of_ble_eq_true rfl) rfl rfl ⟨Nat.le_of_ble_eq_true rfl, Nat.le_of_ble_eq_true rfl⟩ d_Ex_expand_159 ⟨Nat.le_of_ble_eq_true rfl, Nat.le_of_ble_eq_true rfl⟩) (fun M18 h => ?_)
      refine a_iload fx 4 d_Ex_expand_162 rfl ?_
      refine a_istore_n (lv2 := [(3, .int v5), (0, .ref (B + a0)), (1, .ref (B + a1)), (2, .ref (B + a2)), (4, .int v4), (5, .int v5)]) fx d_Ex_expand_164 rfl (by decide) rfl ?_
      obtain ⟨x19, ex19⟩ : ∃ z : Int32, z = v4 + 1 := ⟨_, rfl⟩
      have h := h x19 ex19
      refine a_iinc (lv2 := [(4, .int x19), (3, .int v5), (0, .ref (B + a0)), (1, .ref (B + a1)), (2, .ref (B + a2)), (5, .int v5)]) fx 4 d_Ex_expand_165 rfl ex19.symm (by decide) rfl ?_
      refine a_goto fx 59 d_Ex_expand_168 rfl ?_
      refine a_sub [2, 3, 4, 1, 0] rfl ?_
      exact h)
  refine a_aload_n fx 2 d_Ex_expand_0 rfl rfl ?_
  refine a_callv (rest := []) (a_runV (As := []) fx cv_Ro_wipe w_548 (Met_Ro_wipe l B D aC aS (hk0 := hk2) (ht0 := ht2) h) hk2 ht2 (by decide) rfl rfl rfl (Nat.le_of_ble_eq_true rfl) rfl rfl ⟨Nat.le_of_ble_eq_true rfl, Nat.le_of_ble_eq_true rfl⟩ d_Ex_expand_1 ⟨Nat.le_of_ble_eq_true rfl, Nat.le_of_ble_eq_true rfl⟩) (fun M1 h => ?_)
  refine a_aload_n fx 0 d_Ex_expand_4 rfl rfl ?_
  refine a_aload_n fx 1 d_Ex_expand_5 rfl rfl ?_
  refine a_iconst (v := 2) fx d_Ex_expand_6 rfl ?_
  refine a_calli (rest := [.ref (B + a0)]) (a_runV (As := [.int 2]) fx cv_Ro_at w_549 (Met_Ro_at l B D aC aS (hk0 := hk1) (ht0 := ht1) h) hk1 ht1 (by decide) rfl rfl rfl (Nat.le_of_ble_eq_true rfl) rfl rfl ⟨Nat.le_of_ble_eq_true rfl, Nat.le_of_ble_eq_true rfl⟩ d_Ex_expand_7 ⟨Nat.le_of_ble_eq_true rfl, Nat.le_of_ble_eq_true rfl⟩) (fun x3 M2 h => ?_)
  refine a_sipush (v := 128) fx d_Ex_expand_10 rfl ?_
  refine a_isub fx d_Ex_expand_13 ?_
  refine a_putI fx (T := F_Ex) (ty0 := t_Ex) (j := 2) (hk := hk0) (ht := ht0) (ht2 := by decide) (hc := rfl) (hin := u_in_Ex) (hty := t_Ex_ok) (hnm := n_Ex) (hj := by decide) (hj2 := by decide) (hf := rfl) (hT := rfl) (hfin := rfl) (hn := rfl) (hfit := rfl) (hw := w_281) (hd := d_Ex_expand_14) (kk := a_mem (fun M4 eM4 => ?_))
  have h := h M4 eM4
  refine a_aload_n fx 1 d_Ex_expand_17 rfl rfl ?_
  refine a_iconst (v := 0) fx d_Ex_expand_18 rfl ?_
  refine a_calli (rest := []) (a_runV (As := [.int 0]) fx cv_Ro_at w_549 (Met_Ro_at l B D aC aS (hk0 := hk1) (ht0 := ht1) h) hk1 ht1 (by decide) rfl rfl rfl (Nat.le_of_ble_eq_true rfl) rfl rfl ⟨Nat.le_of_ble_eq_true rfl, Nat.le_of_ble_eq_true rfl⟩ d_Ex_expand_19 ⟨Nat.le_of_ble_eq_true rfl, Nat.le_of_ble_eq_true rfl⟩) (fun x6 M5 h => ?_)
  refine a_bipush (v := 31) fx d_Ex_expand_22 rfl ?_
  refine a_icmp_ne fx 48 d_Ex_expand_24 rfl (fun hc => ?_) (fun hc => ?_)
  · have h := h.1 hc
    refine a_iconst (v := 0) fx d_Ex_expand_48 rfl ?_
    exact a_zret fx hlo hr rfl h d_Ex_expand_49
  · have h := h.2 hc
    refine a_aload_n fx 1 d_Ex_expand_27 rfl rfl ?_
    refine a_iconst (v := 1) fx d_Ex_expand_28 rfl ?_
    refine a_calli (rest := []) (a_runV (As := [.int 1]) fx cv_Ro_at w_549 (Met_Ro_at l B D aC aS (hk0 := hk1) (ht0 := ht1) h) hk1 ht1 (by decide) rfl rfl rfl (Nat.le_of_ble_eq_true rfl) rfl rfl ⟨Nat.le_of_ble_eq_true rfl, Nat.le_of_ble_eq_true rfl⟩ d_Ex_expand_29 ⟨Nat.le_of_ble_eq_true rfl, Nat.le_of_ble_eq_true rfl⟩) (fun x8 M7 h => ?_)
    refine a_sipush (v := 157) fx d_Ex_expand_32 rfl ?_
    refine a_icmp_ne fx 48 d_Ex_expand_35 rfl (fun hc => ?_) (fun hc => ?_)
    · have h := h.1 hc
      refine a_iconst (v := 0) fx d_Ex_expand_48 rfl ?_
      exact a_zret fx hlo hr rfl h d_Ex_expand_49
    · have h := h.2 hc
      refine a_aload_n fx 0 d_Ex_expand_38 rfl rfl ?_
      refine a_getI fx (T := F_Ex) (j := 2) (hk := hk0) (ht := ht0) (ht2 := by decide) (hc := rfl) (hin := u_in_Ex) (hj := by decide) (hj2 := by decide) (hf := rfl) (hT := rfl) (hw := w_281) (hd := d_Ex_expand_39) (kk := ?_)
      refine a_calli (rest := []) (a_runSN (As := [.int (M7.1 a0 2)]) fx 1 cv_Mc_isWidth rfl (Met_Mc_isWidth l B D aC aS  h) rfl rfl (Nat.le_of_ble_eq_true rfl) rfl rfl ⟨Nat.le_of_ble_eq_true rfl, Nat.le_of_ble_eq_true rfl⟩ d_Ex_expand_42 ⟨Nat.le_of_ble_eq_true rfl, Nat.le_of_ble_eq_true rfl⟩) (fun x10 M9 h => ?_)
      refine a_if_ne fx 50 d_Ex_expand_45 rfl (fun hc => ?_) (fun hc => ?_)
      · have h := h.1 hc
        refine a_aload_n fx 0 d_Ex_expand_50 rfl rfl ?_
        refine a_callv (rest := []) (a_runV (As := []) fx cv_Ex_begin w_553 (Met_Ex_begin l B D aC aS (hk0 := hk0) (ht0 := ht0) h) hk0 ht0 (by decide) rfl rfl rfl (Nat.le_of_ble_eq_true rfl) rfl rfl ⟨Nat.le_of_ble_eq_true rfl, Nat.le_of_ble_eq_true rfl⟩ d_Ex_expand_51 ⟨Nat.le_of_ble_eq_true rfl, Nat.le_of_ble_eq_true rfl⟩) (fun M11 h => ?_)
        refine a_iconst (v := 1) fx d_Ex_expand_54 rfl ?_
        refine a_istore_n (lv2 := [(3, .int 1), (0, .ref (B + a0)), (1, .ref (B + a1)), (2, .ref (B + a2))]) fx d_Ex_expand_55 rfl (by decide) rfl ?_
        refine a_iconst (v := 0) fx d_Ex_expand_56 rfl ?_
        refine a_istore (lv2 := [(4, .int 0), (3, .int 1), (0, .ref (B + a0)), (1, .ref (B + a1)), (2, .ref (B + a2))]) fx d_Ex_expand_57 (by decide) rfl ?_
        refine a_sub [2, 3, 4, 1, 0] rfl ?_
        exact h
      · have h := h.2 hc
        refine a_iconst (v := 0) fx d_Ex_expand_48 rfl ?_
        exact a_zret fx hlo hr rfl h d_Ex_expand_49
set_option maxRecDepth 100000 in
set_option maxHeartbeats 4000000 in
theorem Met_Sp_letter (l : Launch) (B : Nat) (D : va_G) (aC : Nat → ClassId) (aS : Nat → Nat) {i0 : Int32} {M : zM} {post : Int32 → zM → Prop}  (h : Wp_Sp_letter i0 M post) : Met l y_Sp_letter (wo y_Sp_letter b_Sp_letter 1 (some FieldType.int)) { frames := 0, cells := 0, slots := 0, locals := 0 } (va_Pc [.int i0] (zWl B D aC aS M)) (zQi B D aC post) 0 0 (zAb B) := by
  refine z_met (own := "MailChain$Spelling") (lv0 := [(0, .int i0)]) (by decide) rfl (Nat.le_of_ble_eq_true rfl) rfl ?_
  intro p e s m below meth c fx hr hlo
  delta Wp_Sp_letter at h
  refine a_iload_n fx 0 d_Sp_letter_0 rfl rfl ?_
  refine a_if_ne fx 9 d_Sp_letter_1 rfl (fun hc => ?_) (fun hc => ?_)
  · have h := h.1 hc
    refine a_bipush (v := 32) fx d_Sp_letter_9 rfl ?_
    refine a_iload_n fx 0 d_Sp_letter_11 rfl rfl ?_
    refine a_iadd fx d_Sp_letter_12 ?_
    exact a_iret fx hlo hr h d_Sp_letter_13
  · have h := h.2 hc
    refine a_bipush (v := 96) fx d_Sp_letter_4 rfl ?_
    refine a_goto fx 13 d_Sp_letter_6 rfl ?_
    exact a_iret fx hlo hr h d_Sp_letter_13
