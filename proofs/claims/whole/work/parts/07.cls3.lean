/-- MailChain.Spelling.writeLine(LMailChain$Row;IILMailChain$Row;)V -/
def Wp_Sp_writeLine (a0 : Nat) (i1 : Int32) (i2 : Int32) (a3 : Nat) (M : zM) (post : zM → Prop) : Prop := ∀ K11 : Int32 → zM → Prop, ∀ K67 : Int32 → Int32 → Int32 → zM → Prop, (∀ (v4 : Int32) (M : zM), (((i1 + i2) ≤ v4 → (Wp_Ro_put a3 10 M (fun M4 => (post M4)))) ∧ (¬ (i1 + i2) ≤ v4 → (Wp_Ro_at a0 v4 M (fun x6 M5 => (Wp_Ro_at a0 (v4 + 1) M5 (fun x8 M7 => (Wp_Ro_at a0 (v4 + 2) M7 (fun x10 M9 => (∀ x11 : Int32, x11 = ((((if x6 < 0 then 0 else x6) <<< (16 &&& 31)) ||| ((if x8 < 0 then 0 else x8) <<< (8 &&& 31))) ||| (if x10 < 0 then 0 else x10)) → (K67 v4 x11 18 M9)))))))))) → K11 v4 M) → (∀ (v4 : Int32) (v5 : Int32) (v6 : Int32) (M : zM), ((v6 < 0 → (∀ x12 : Int32, x12 = v4 + 3 → (K11 x12 M))) ∧ (¬ v6 < 0 → (Wp_Sp_letter ((v5 >>> (v6 &&& 31)) &&& 63) M (fun x14 M13 => (Wp_Ro_put a3 x14 M13 (fun M15 => (∀ x16 : Int32, x16 = v6 + (-6) → (K67 v4 v5 x16 M15)))))))) → K67 v4 v5 v6 M) → (Wp_Sp_letter i2 M (fun x2 M1 => (Wp_Ro_put a3 x2 M1 (fun M3 => (K11 i1 M3)))))
/-- MailChain.Spelling.write(LMailChain$Row;LMailChain$Row;)V -/
def Wp_Sp_write (a0 : Nat) (a1 : Nat) (M : zM) (post : zM → Prop) : Prop := ∀ K12 : Int32 → zM → Prop, (∀ (v2 : Int32) (M : zM), (((M.1 a0 1) ≤ v2 → (Wp_Sp_writeLine a0 (M.1 a0 1) 0 a1 M (fun M3 => (Wp_Ro_putText a1 5 M3 (fun M4 => (post M4)))))) ∧ (¬ (M.1 a0 1) ≤ v2 → (Wp_Sp_writeLine a0 v2 (if ((M.1 a0 1) - v2) < 45 then ((M.1 a0 1) - v2) else 45) a1 M (fun M5 => (∀ x6 : Int32, x6 = v2 + 45 → (K12 x6 M5)))))) → K12 v2 M) → (Wp_Ro_wipe a1 M (fun M1 => (Wp_Ro_putText a1 4 M1 (fun M2 => (K12 0 M2)))))
/-- MailChain.Spelling.sixOf(I)I -/
def Wp_Sp_sixOf (i0 : Int32) (M : zM) (post : Int32 → zM → Prop) : Prop := (post ((i0 - 32) &&& 63) M)
/-- MailChain.Spelling.readLine(LMailChain$Row;IILMailChain$Row;)V -/
def Wp_Sp_readLine (a0 : Nat) (i1 : Int32) (i2 : Int32) (a3 : Nat) (M : zM) (post : zM → Prop) : Prop := ∀ K3 : Int32 → zM → Prop, (∀ (v4 : Int32) (M : zM), ((i2 ≤ v4 → (post M)) ∧ (¬ i2 ≤ v4 → (∀ x1 : Int32, x1 = ((i1 + ((v4 / 3) * 4)) + (v4 - v4 / 3 * 3)) → (Wp_Ro_at a0 x1 M (fun x3 M2 => (Wp_Sp_sixOf x3 M2 (fun x5 M4 => (Wp_Ro_at a0 (x1 + 1) M4 (fun x7 M6 => (Wp_Sp_sixOf x7 M6 (fun x9 M8 => (∀ x10 : Int32, x10 = ((x5 <<< (6 &&& 31)) ||| x9) → (Wp_Ro_put a3 (x10 >>> ((4 - (2 * (v4 - v4 / 3 * 3))) &&& 31)) M8 (fun M11 => (∀ x12 : Int32, x12 = v4 + 1 → (K3 x12 M11)))))))))))))))) → K3 v4 M) → (K3 0 M)
/-- MailChain.Spelling.read(LMailChain$Row;LMailChain$Row;)V -/
def Wp_Sp_read (a0 : Nat) (a1 : Nat) (M : zM) (post : zM → Prop) : Prop := ∀ K10 : Int32 → zM → Prop, (∀ (v2 : Int32) (M : zM), (((M.1 a0 1) ≤ v2 → (post M)) ∧ (¬ (M.1 a0 1) ≤ v2 → (Wp_Ro_at a0 v2 M (fun x5 M4 => (Wp_Sp_sixOf x5 M4 (fun x7 M6 => ((¬ x7 = 0 → (Wp_Sp_readLine a0 (v2 + 1) x7 a1 M6 (fun M8 => (∀ x9 : Int32, x9 = (v2 + (((x7 + 2) / 3) * 4)) → (∀ x10 : Int32, x10 = x9 + 2 → (K10 x10 M8)))))) ∧ (x7 = 0 → (post M6))))))))) → K10 v2 M) → (Wp_Ro_wipe a1 M (fun M1 => (Wp_JString_length 4 M1 (fun x3 M2 => (K10 x3 M2)))))
/-- MailChain.Archive.kindDigits(I)I -/
def Wp_Ar_kindDigits (i0 : Int32) (M : zM) (post : Int32 → zM → Prop) : Prop := ((¬ i0 = 0 → ((¬ i0 = 1 → (post 10 M)) ∧ (i0 = 1 → (post 8 M)))) ∧ (i0 = 0 → (post 4 M)))
/-- MailChain.Archive.writeHeader(LMailChain$Entry;IILMailChain$Row;)V -/
def Wp_Ar_writeHeader (a0 : Nat) (i1 : Int32) (i2 : Int32) (a3 : Nat) (M : zM) (post : zM → Prop) : Prop := (Wp_Ro_putText a3 7 M (fun M1 => (Wp_Ro_putOctal a3 i1 6 M1 (fun M2 => (Wp_Ar_kindDigits (M2.1 a0 1) M2 (fun x4 M3 => (Wp_Ro_putOctal a3 ((x4 <<< (12 &&& 31)) ||| (M3.1 a0 2)) 6 M3 (fun M5 => (Wp_Ro_putOctal a3 (M5.1 a0 3) 6 M5 (fun M6 => (Wp_Ro_putOctal a3 (M6.1 a0 4) 6 M6 (fun M7 => (Wp_Ro_putOctal a3 i2 6 M7 (fun M8 => (Wp_Ro_putText a3 8 M8 (fun M9 => (Wp_Ro_putOctal a3 (M9.1 a0 5) 11 M9 (fun M10 => (Wp_Ro_putOctal a3 ((M10.1 (a0 + 1) 1) + 1) 6 M10 (fun M11 => (Wp_Ro_putOctal a3 (M11.1 a0 7) 11 M11 (fun M12 => (post M12)))))))))))))))))))))))
/-- MailChain.Archive.write(LMailChain$Tree;LMailChain$Row;)V -/
def Wp_Ar_write (a0 : Nat) (a1 : Nat) (M : zM) (post : zM → Prop) : Prop := ∀ K14 : Int32 → zM → Prop, (∀ (v2 : Int32) (M : zM), (((M.1 a0 2) ≤ v2 → (Wp_Ro_putText a1 6 M (fun M4 => (Wp_Ro_put a1 0 M4 (fun M5 => (post M5)))))) ∧ (¬ (M.1 a0 2) ≤ v2 → (vp_in v2 (ln (a0 + 1)) ∧ (∀ r6 : Nat, r6 = (M.2.2 (a0 + 1) (v2).toNatClampNeg) → r6 < N0 ∧ tg r6 = 2 ∧ (Wp_Tr_firstLinkOf a0 v2 M (fun x8 M7 => (Wp_Tr_linksOf a0 v2 M7 (fun x10 M9 => (Wp_Ar_writeHeader r6 (x8 + 1) x10 a1 M9 (fun M11 => (Wp_Ro_putRange a1 (r6 + 1) 0 (M11.1 (r6 + 1) 1) M11 (fun M12 => (Wp_Ro_put a1 0 M12 (fun M13 => (Wp_Ro_putRange a1 (a0 + 125) (M13.1 r6 6) ((M13.1 r6 6) + (M13.1 r6 7)) M13 (fun M14 => (∀ x15 : Int32, x15 = v2 + 1 → (K14 x15 M14)))))))))))))))))) → K14 v2 M) → (Wp_Ro_wipe a1 M (fun M1 => (Wp_Tr_hasArchive a0 M1 (fun x3 M2 => ((¬ x3 = 0 → (K14 0 M2)) ∧ (x3 = 0 → (post M2)))))))
/-- MailChain.Archive.kindOf(I)I -/
def Wp_Ar_kindOf (i0 : Int32) (M : zM) (post : Int32 → zM → Prop) : Prop := ∀ K2 : Int32 → zM → Prop, (∀ (v1 : Int32) (M : zM), ((2 < v1 → (post (-1) M)) ∧ (¬ 2 < v1 → (Wp_Ar_kindDigits v1 M (fun x2 M1 => ((¬ x2 = i0 → (∀ x3 : Int32, x3 = v1 + 1 → (K2 x3 M1))) ∧ (x2 = i0 → (post v1 M1))))))) → K2 v1 M) → (K2 0 M)
/-- MailChain.Archive.octal(LMailChain$Row;II)I -/
def Wp_Ar_octal (a0 : Nat) (i1 : Int32) (i2 : Int32) (M : zM) (post : Int32 → zM → Prop) : Prop := ∀ K5 : Int64 → Int32 → zM → Prop, (∀ (v3 : Int64) (v5 : Int32) (M : zM), ((i2 ≤ v5 → ((0 < (lg_cmp v3 2147483647) → (post (-1) M)) ∧ (¬ 0 < (lg_cmp v3 2147483647) → (post ((v3).toInt32) M)))) ∧ (¬ i2 ≤ v5 → (Wp_Ro_at a0 (i1 + v5) M (fun x2 M1 => (∀ x3 : Int32, x3 = (x2 - 48) → ((x3 < 0 → (post (-1) M1)) ∧ (¬ x3 < 0 → ((x3 ≤ 7 → (∀ y4 : Int64, y4 = ((8 * v3) + ((x3).toInt64)) → (∀ x5 : Int32, x5 = v5 + 1 → (K5 y4 x5 M1)))) ∧ (¬ x3 ≤ 7 → (post (-1) M1)))))))))) → K5 v3 v5 M) → (K5 0 0 M)
/-- MailChain.Archive.readFields(LMailChain$Row;ILMailChain$Entry;)V -/
def Wp_Ar_readFields (a0 : Nat) (i1 : Int32) (a2 : Nat) (M : zM) (post : zM → Prop) : Prop := (Wp_Ar_octal a0 (i1 + 18) 6 M (fun x2 M1 => (Wp_Ar_kindOf (x2 >>> (12 &&& 31)) M1 (fun x4 M3 => (∀ M5 : zM, M5 = zI M3 a2 1 x4 → (∀ M6 : zM, M6 = zI M5 a2 2 (x2 &&& 4095) → (Wp_Ar_octal a0 (i1 + 24) 6 M6 (fun x8 M7 => (∀ M9 : zM, M9 = zI M7 a2 3 x8 → (Wp_Ar_octal a0 (i1 + 30) 6 M9 (fun x11 M10 => (∀ M12 : zM, M12 = zI M10 a2 4 x11 → (Wp_Ar_octal a0 (i1 + 48) 11 M12 (fun x14 M13 => (∀ M15 : zM, M15 = zI M13 a2 5 x14 → (post M15))))))))))))))))
/-- MailChain.Archive.readEntry(LMailChain$Row;ILMailChain$Tree;)I -/
def Wp_Ar_readEntry (a0 : Nat) (i1 : Int32) (a2 : Nat) (M : zM) (post : Int32 → zM → Prop) : Prop := (∀ x1 : Int32, x1 = (i1 + 76) → (Wp_Ar_octal a0 (i1 + 59) 6 M (fun x3 M2 => (∀ x4 : Int32, x4 = (x3 - 1) → (∀ x5 : Int32, x5 = ((x1 + x4) + 1) → (Wp_Ar_octal a0 (i1 + 65) 11 M2 (fun x7 M6 => ((x4 < 1 → (post (-1) M6)) ∧ (¬ x4 < 1 → ((60 < x4 → (post (-1) M6)) ∧ (¬ 60 < x4 → ((x7 < 0 → (post (-1) M6)) ∧ (¬ x7 < 0 → ((x7 ≤ ((M6.1 a0 1) - x5) → (∀ x8 : Int32, x8 = (x5 + x7) → (Wp_Tr_draft a2 M6 (fun r10 M9 => r10 < N0 ∧ tg r10 = 2 ∧ (Wp_Ro_copy (r10 + 1) a0 x1 (x1 + x4) M9 (fun M11 => (Wp_Ar_readFields a0 i1 r10 M11 (fun M12 => (Wp_Ar_octal a0 (i1 + 12) 6 M12 (fun x14 M13 => ((¬ x14 = ((M13.1 a2 2) + 1) → (Wp_Tr_enterLink a2 (x14 - 1) M13 (fun x16 M15 => ((¬ x16 = 0 → (post (-1) M15)) ∧ (x16 = 0 → (post x8 M15)))))) ∧ (x14 = ((M13.1 a2 2) + 1) → (Wp_Tr_enter a2 a0 x5 x8 M13 (fun x18 M17 => ((¬ x18 = 0 → (post (-1) M17)) ∧ (x18 = 0 → (post x8 M17))))))))))))))))) ∧ (¬ x7 ≤ ((M6.1 a0 1) - x5) → (post (-1) M6))))))))))))))))
/-- MailChain.Archive.read(LMailChain$Row;LMailChain$Tree;)Z -/
def Wp_Ar_read (a0 : Nat) (a1 : Nat) (M : zM) (post : Int32 → zM → Prop) : Prop := ∀ K8 : Int32 → Int32 → zM → Prop, (∀ (v2 : Int32) (v3 : Int32) (M : zM), ((40 < v3 → (post 0 M)) ∧ (¬ 40 < v3 → ((v2 = (-1) → (post 0 M)) ∧ (¬ v2 = (-1) → (Wp_Ro_hasText a0 6 v2 M (fun x3 M2 => ((x3 = 0 → (Wp_Ar_readEntry a0 v2 a1 M2 (fun x5 M4 => (∀ x6 : Int32, x6 = v3 + 1 → (K8 x5 x6 M4))))) ∧ (¬ x3 = 0 → (post 1 M2))))))))) → K8 v2 v3 M) → (Wp_Tr_wipe a1 M (fun M1 => (K8 0 0 M1)))
/-- MailChain.clear()I -/
def Wp_Mc_clear (a0 : Nat) (M : zM) (post : Int32 → zM → Prop) : Prop := (∀ x1 : Int32, x1 = (M.1 (a0 + 3) 2) → (Wp_Tr_wipe (a0 + 3) M (fun M2 => (∀ M3 : zM, M3 = zI M2 a0 5 0 → (post x1 M3)))))
/-- MailChain.refreshArchive()V -/
def Wp_Mc_refreshArchive (a0 : Nat) (M : zM) (post : zM → Prop) : Prop := ((¬ (M.1 a0 5) = 0 → (post M)) ∧ ((M.1 a0 5) = 0 → (Wp_Ar_write (a0 + 3) (a0 + 384) M (fun M1 => (∀ M2 : zM, M2 = zI M1 a0 5 1 → (post M2))))))
/-- MailChain.checksum()I -/
def Wp_Mc_checksum (a0 : Nat) (M : zM) (post : Int32 → zM → Prop) : Prop := (Wp_Ro_sum (a0 + 1) 0 (M.1 (a0 + 1) 1) M (fun x2 M1 => (Wp_Ro_wipe (a0 + 1) M1 (fun M3 => (post x2 M3)))))
/-- MailChain.receive()I -/
def Wp_Mc_receive (a0 : Nat) (M : zM) (post : Int32 → zM → Prop) : Prop := (Wp_Bo_take (a0 + 392) (a0 + 1) M (fun x2 M1 => (Wp_Ro_wipe (a0 + 1) M1 (fun M3 => (post x2 M3)))))
/-- MailChain.textOfTape(II)LMailChain$Row; -/
def Wp_Mc_textOfTape (a0 : Nat) (i1 : Int32) (i2 : Int32) (M : zM) (post : Nat → zM → Prop) : Prop := ((¬ i1 = 2 → ((¬ i1 = 1 → (Wp_Sq_squeeze (a0 + 398) (a0 + 1) i2 (a0 + 407) M (fun M1 => (Wp_Sp_write (a0 + 407) (a0 + 409) M1 (fun M2 => (post (a0 + 409) M2)))))) ∧ (i1 = 1 → (Wp_Sp_write (a0 + 1) (a0 + 409) M (fun M3 => (post (a0 + 409) M3)))))) ∧ (i1 = 2 → (post (a0 + 1) M)))
/-- MailChain.empty()I -/
def Wp_Mc_empty (a0 : Nat) (M : zM) (post : Int32 → zM → Prop) : Prop := (∀ x1 : Int32, x1 = (M.1 (a0 + 392) 6) → (Wp_Bo_wipe (a0 + 392) M (fun M2 => (post x1 M2))))
/-- MailChain.swapYours()V -/
def Wp_Mc_swapYours (a0 : Nat) (M : zM) (post : zM → Prop) : Prop := (∀ r1 : Nat, r1 = (M.2.2 a0 2) → r1 < N0 ∧ tg r1 = 3 ∧ (∀ r2 : Nat, r2 = (M.2.2 a0 3) → r2 < N0 ∧ tg r2 = 3 ∧ (∀ M3 : zM, M3 = zR M a0 2 r2 → (∀ M4 : zM, M4 = zR M3 a0 3 r1 → (post M4)))))
theorem d_Sp_writeLine_0 : decode b_Sp_writeLine 0 = .ok (.aload_n 3, 1) := by decide +kernel
theorem d_Sp_writeLine_1 : decode b_Sp_writeLine 1 = .ok (.iload_n 2, 1) := by decide +kernel
theorem d_Sp_writeLine_2 : decode b_Sp_writeLine 2 = .ok (.invokestatic 38, 3) := by decide +kernel
theorem d_Sp_writeLine_5 : decode b_Sp_writeLine 5 = .ok (.invokevirtual 42, 3) := by decide +kernel
theorem d_Sp_writeLine_8 : decode b_Sp_writeLine 8 = .ok (.iload_n 1, 1) := by decide +kernel
theorem d_Sp_writeLine_9 : decode b_Sp_writeLine 9 = .ok (.istore 4, 2) := by decide +kernel
theorem d_Sp_writeLine_11 : decode b_Sp_writeLine 11 = .ok (.iload 4, 2) := by decide +kernel
theorem d_Sp_writeLine_13 : decode b_Sp_writeLine 13 = .ok (.iload_n 1, 1) := by decide +kernel
theorem d_Sp_writeLine_14 : decode b_Sp_writeLine 14 = .ok (.iload_n 2, 1) := by decide +kernel
theorem d_Sp_writeLine_15 : decode b_Sp_writeLine 15 = .ok (.iadd, 1) := by decide +kernel
theorem d_Sp_writeLine_16 : decode b_Sp_writeLine 16 = .ok (.if_icmp .ge 83, 3) := by decide +kernel
theorem d_Sp_writeLine_19 : decode b_Sp_writeLine 19 = .ok (.aload_n 0, 1) := by decide +kernel
theorem d_Sp_writeLine_20 : decode b_Sp_writeLine 20 = .ok (.iload 4, 2) := by decide +kernel
theorem d_Sp_writeLine_22 : decode b_Sp_writeLine 22 = .ok (.invokevirtual 46, 3) := by decide +kernel
theorem d_Sp_writeLine_25 : decode b_Sp_writeLine 25 = .ok (.iconst 0, 1) := by decide +kernel
theorem d_Sp_writeLine_26 : decode b_Sp_writeLine 26 = .ok (.invokestatic 49, 3) := by decide +kernel
theorem d_Sp_writeLine_29 : decode b_Sp_writeLine 29 = .ok (.bipush 16, 2) := by decide +kernel
theorem d_Sp_writeLine_31 : decode b_Sp_writeLine 31 = .ok (.ishl, 1) := by decide +kernel
theorem d_Sp_writeLine_32 : decode b_Sp_writeLine 32 = .ok (.aload_n 0, 1) := by decide +kernel
theorem d_Sp_writeLine_33 : decode b_Sp_writeLine 33 = .ok (.iload 4, 2) := by decide +kernel
theorem d_Sp_writeLine_35 : decode b_Sp_writeLine 35 = .ok (.iconst 1, 1) := by decide +kernel
theorem d_Sp_writeLine_36 : decode b_Sp_writeLine 36 = .ok (.iadd, 1) := by decide +kernel
theorem d_Sp_writeLine_37 : decode b_Sp_writeLine 37 = .ok (.invokevirtual 46, 3) := by decide +kernel
theorem d_Sp_writeLine_40 : decode b_Sp_writeLine 40 = .ok (.iconst 0, 1) := by decide +kernel
theorem d_Sp_writeLine_41 : decode b_Sp_writeLine 41 = .ok (.invokestatic 49, 3) := by decide +kernel
theorem d_Sp_writeLine_44 : decode b_Sp_writeLine 44 = .ok (.bipush 8, 2) := by decide +kernel
theorem d_Sp_writeLine_46 : decode b_Sp_writeLine 46 = .ok (.ishl, 1) := by decide +kernel
theorem d_Sp_writeLine_47 : decode b_Sp_writeLine 47 = .ok (.ior, 1) := by decide +kernel
theorem d_Sp_writeLine_48 : decode b_Sp_writeLine 48 = .ok (.aload_n 0, 1) := by decide +kernel
theorem d_Sp_writeLine_49 : decode b_Sp_writeLine 49 = .ok (.iload 4, 2) := by decide +kernel
theorem d_Sp_writeLine_51 : decode b_Sp_writeLine 51 = .ok (.iconst 2, 1) := by decide +kernel
theorem d_Sp_writeLine_52 : decode b_Sp_writeLine 52 = .ok (.iadd, 1) := by decide +kernel
theorem d_Sp_writeLine_53 : decode b_Sp_writeLine 53 = .ok (.invokevirtual 46, 3) := by decide +kernel
theorem d_Sp_writeLine_56 : decode b_Sp_writeLine 56 = .ok (.iconst 0, 1) := by decide +kernel
theorem d_Sp_writeLine_57 : decode b_Sp_writeLine 57 = .ok (.invokestatic 49, 3) := by decide +kernel
theorem d_Sp_writeLine_60 : decode b_Sp_writeLine 60 = .ok (.ior, 1) := by decide +kernel
theorem d_Sp_writeLine_61 : decode b_Sp_writeLine 61 = .ok (.istore 5, 2) := by decide +kernel
theorem d_Sp_writeLine_63 : decode b_Sp_writeLine 63 = .ok (.bipush 18, 2) := by decide +kernel
theorem d_Sp_writeLine_65 : decode b_Sp_writeLine 65 = .ok (.istore 6, 2) := by decide +kernel
theorem d_Sp_writeLine_67 : decode b_Sp_writeLine 67 = .ok (.iload 6, 2) := by decide +kernel
theorem d_Sp_writeLine_69 : decode b_Sp_writeLine 69 = .ok (.ifCond .lt 24, 3) := by decide +kernel
theorem d_Sp_writeLine_72 : decode b_Sp_writeLine 72 = .ok (.aload_n 3, 1) := by decide +kernel
theorem d_Sp_writeLine_73 : decode b_Sp_writeLine 73 = .ok (.iload 5, 2) := by decide +kernel
theorem d_Sp_writeLine_75 : decode b_Sp_writeLine 75 = .ok (.iload 6, 2) := by decide +kernel
theorem d_Sp_writeLine_77 : decode b_Sp_writeLine 77 = .ok (.ishr, 1) := by decide +kernel
theorem d_Sp_writeLine_78 : decode b_Sp_writeLine 78 = .ok (.bipush 63, 2) := by decide +kernel
theorem d_Sp_writeLine_80 : decode b_Sp_writeLine 80 = .ok (.iand, 1) := by decide +kernel
theorem d_Sp_writeLine_81 : decode b_Sp_writeLine 81 = .ok (.invokestatic 38, 3) := by decide +kernel
theorem d_Sp_writeLine_84 : decode b_Sp_writeLine 84 = .ok (.invokevirtual 42, 3) := by decide +kernel
theorem d_Sp_writeLine_87 : decode b_Sp_writeLine 87 = .ok (.iinc 6 (-6), 3) := by decide +kernel
theorem d_Sp_writeLine_90 : decode b_Sp_writeLine 90 = .ok (.goto (-23), 3) := by decide +kernel
theorem d_Sp_writeLine_93 : decode b_Sp_writeLine 93 = .ok (.iinc 4 3, 3) := by decide +kernel
theorem d_Sp_writeLine_96 : decode b_Sp_writeLine 96 = .ok (.goto (-85), 3) := by decide +kernel
theorem d_Sp_writeLine_99 : decode b_Sp_writeLine 99 = .ok (.aload_n 3, 1) := by decide +kernel
theorem d_Sp_writeLine_100 : decode b_Sp_writeLine 100 = .ok (.bipush 10, 2) := by decide +kernel
theorem d_Sp_writeLine_102 : decode b_Sp_writeLine 102 = .ok (.invokevirtual 42, 3) := by decide +kernel
theorem d_Sp_writeLine_105 : decode b_Sp_writeLine 105 = .ok (.return_, 1) := by decide +kernel
theorem d_Sp_write_0 : decode b_Sp_write 0 = .ok (.aload_n 1, 1) := by decide +kernel
theorem d_Sp_write_1 : decode b_Sp_write 1 = .ok (.invokevirtual 9, 3) := by decide +kernel
theorem d_Sp_write_4 : decode b_Sp_write 4 = .ok (.aload_n 1, 1) := by decide +kernel
theorem d_Sp_write_5 : decode b_Sp_write 5 = .ok (.ldc 16, 2) := by decide +kernel
theorem d_Sp_write_7 : decode b_Sp_write 7 = .ok (.invokevirtual 18, 3) := by decide +kernel
theorem d_Sp_write_10 : decode b_Sp_write 10 = .ok (.iconst 0, 1) := by decide +kernel
theorem d_Sp_write_11 : decode b_Sp_write 11 = .ok (.istore_n 2, 1) := by decide +kernel
theorem d_Sp_write_12 : decode b_Sp_write 12 = .ok (.iload_n 2, 1) := by decide +kernel
theorem d_Sp_write_13 : decode b_Sp_write 13 = .ok (.aload_n 0, 1) := by decide +kernel
theorem d_Sp_write_14 : decode b_Sp_write 14 = .ok (.getfield 22, 3) := by decide +kernel
theorem d_Sp_write_17 : decode b_Sp_write 17 = .ok (.if_icmp .ge 26, 3) := by decide +kernel
theorem d_Sp_write_20 : decode b_Sp_write 20 = .ok (.aload_n 0, 1) := by decide +kernel
theorem d_Sp_write_21 : decode b_Sp_write 21 = .ok (.iload_n 2, 1) := by decide +kernel
theorem d_Sp_write_22 : decode b_Sp_write 22 = .ok (.bipush 45, 2) := by decide +kernel
theorem d_Sp_write_24 : decode b_Sp_write 24 = .ok (.aload_n 0, 1) := by decide +kernel
theorem d_Sp_write_25 : decode b_Sp_write 25 = .ok (.getfield 22, 3) := by decide +kernel
theorem d_Sp_write_28 : decode b_Sp_write 28 = .ok (.iload_n 2, 1) := by decide +kernel
theorem d_Sp_write_29 : decode b_Sp_write 29 = .ok (.isub, 1) := by decide +kernel
theorem d_Sp_write_30 : decode b_Sp_write 30 = .ok (.invokestatic 26, 3) := by decide +kernel
theorem d_Sp_write_33 : decode b_Sp_write 33 = .ok (.aload_n 1, 1) := by decide +kernel
theorem d_Sp_write_34 : decode b_Sp_write 34 = .ok (.invokestatic 32, 3) := by decide +kernel
theorem d_Sp_write_37 : decode b_Sp_write 37 = .ok (.iinc 2 45, 3) := by decide +kernel
theorem d_Sp_write_40 : decode b_Sp_write 40 = .ok (.goto (-28), 3) := by decide +kernel
theorem d_Sp_write_43 : decode b_Sp_write 43 = .ok (.aload_n 0, 1) := by decide +kernel
theorem d_Sp_write_44 : decode b_Sp_write 44 = .ok (.aload_n 0, 1) := by decide +kernel
theorem d_Sp_write_45 : decode b_Sp_write 45 = .ok (.getfield 22, 3) := by decide +kernel
theorem d_Sp_write_48 : decode b_Sp_write 48 = .ok (.iconst 0, 1) := by decide +kernel
theorem d_Sp_write_49 : decode b_Sp_write 49 = .ok (.aload_n 1, 1) := by decide +kernel
theorem d_Sp_write_50 : decode b_Sp_write 50 = .ok (.invokestatic 32, 3) := by decide +kernel
theorem d_Sp_write_53 : decode b_Sp_write 53 = .ok (.aload_n 1, 1) := by decide +kernel
theorem d_Sp_write_54 : decode b_Sp_write 54 = .ok (.ldc 36, 2) := by decide +kernel
theorem d_Sp_write_56 : decode b_Sp_write 56 = .ok (.invokevirtual 18, 3) := by decide +kernel
theorem d_Sp_write_59 : decode b_Sp_write 59 = .ok (.return_, 1) := by decide +kernel
theorem d_Sp_sixOf_0 : decode b_Sp_sixOf 0 = .ok (.iload_n 0, 1) := by decide +kernel
theorem d_Sp_sixOf_1 : decode b_Sp_sixOf 1 = .ok (.bipush 32, 2) := by decide +kernel
theorem d_Sp_sixOf_3 : decode b_Sp_sixOf 3 = .ok (.isub, 1) := by decide +kernel
theorem d_Sp_sixOf_4 : decode b_Sp_sixOf 4 = .ok (.bipush 63, 2) := by decide +kernel
theorem d_Sp_sixOf_6 : decode b_Sp_sixOf 6 = .ok (.iand, 1) := by decide +kernel
theorem d_Sp_sixOf_7 : decode b_Sp_sixOf 7 = .ok (.ireturn, 1) := by decide +kernel
theorem d_Sp_readLine_0 : decode b_Sp_readLine 0 = .ok (.iconst 0, 1) := by decide +kernel
theorem d_Sp_readLine_1 : decode b_Sp_readLine 1 = .ok (.istore 4, 2) := by decide +kernel
theorem d_Sp_readLine_3 : decode b_Sp_readLine 3 = .ok (.iload 4, 2) := by decide +kernel
theorem d_Sp_readLine_5 : decode b_Sp_readLine 5 = .ok (.iload_n 2, 1) := by decide +kernel
theorem d_Sp_readLine_6 : decode b_Sp_readLine 6 = .ok (.if_icmp .ge 65, 3) := by decide +kernel
theorem d_Sp_readLine_9 : decode b_Sp_readLine 9 = .ok (.iload_n 1, 1) := by decide +kernel
theorem d_Sp_readLine_10 : decode b_Sp_readLine 10 = .ok (.iload 4, 2) := by decide +kernel
theorem d_Sp_readLine_12 : decode b_Sp_readLine 12 = .ok (.iconst 3, 1) := by decide +kernel
theorem d_Sp_readLine_13 : decode b_Sp_readLine 13 = .ok (.idiv, 1) := by decide +kernel
theorem d_Sp_readLine_14 : decode b_Sp_readLine 14 = .ok (.iconst 4, 1) := by decide +kernel
theorem d_Sp_readLine_15 : decode b_Sp_readLine 15 = .ok (.imul, 1) := by decide +kernel
theorem d_Sp_readLine_16 : decode b_Sp_readLine 16 = .ok (.iadd, 1) := by decide +kernel
theorem d_Sp_readLine_17 : decode b_Sp_readLine 17 = .ok (.iload 4, 2) := by decide +kernel
theorem d_Sp_readLine_19 : decode b_Sp_readLine 19 = .ok (.iconst 3, 1) := by decide +kernel
theorem d_Sp_readLine_20 : decode b_Sp_readLine 20 = .ok (.irem, 1) := by decide +kernel
theorem d_Sp_readLine_21 : decode b_Sp_readLine 21 = .ok (.iadd, 1) := by decide +kernel
theorem d_Sp_readLine_22 : decode b_Sp_readLine 22 = .ok (.istore 5, 2) := by decide +kernel
theorem d_Sp_readLine_24 : decode b_Sp_readLine 24 = .ok (.aload_n 0, 1) := by decide +kernel
theorem d_Sp_readLine_25 : decode b_Sp_readLine 25 = .ok (.iload 5, 2) := by decide +kernel
theorem d_Sp_readLine_27 : decode b_Sp_readLine 27 = .ok (.invokevirtual 46, 3) := by decide +kernel
theorem d_Sp_readLine_30 : decode b_Sp_readLine 30 = .ok (.invokestatic 58, 3) := by decide +kernel
theorem d_Sp_readLine_33 : decode b_Sp_readLine 33 = .ok (.bipush 6, 2) := by decide +kernel
theorem d_Sp_readLine_35 : decode b_Sp_readLine 35 = .ok (.ishl, 1) := by decide +kernel
theorem d_Sp_readLine_36 : decode b_Sp_readLine 36 = .ok (.aload_n 0, 1) := by decide +kernel
theorem d_Sp_readLine_37 : decode b_Sp_readLine 37 = .ok (.iload 5, 2) := by decide +kernel
theorem d_Sp_readLine_39 : decode b_Sp_readLine 39 = .ok (.iconst 1, 1) := by decide +kernel
theorem d_Sp_readLine_40 : decode b_Sp_readLine 40 = .ok (.iadd, 1) := by decide +kernel
theorem d_Sp_readLine_41 : decode b_Sp_readLine 41 = .ok (.invokevirtual 46, 3) := by decide +kernel
theorem d_Sp_readLine_44 : decode b_Sp_readLine 44 = .ok (.invokestatic 58, 3) := by decide +kernel
theorem d_Sp_readLine_47 : decode b_Sp_readLine 47 = .ok (.ior, 1) := by decide +kernel
theorem d_Sp_readLine_48 : decode b_Sp_readLine 48 = .ok (.istore 6, 2) := by decide +kernel
theorem d_Sp_readLine_50 : decode b_Sp_readLine 50 = .ok (.aload_n 3, 1) := by decide +kernel
theorem d_Sp_readLine_51 : decode b_Sp_readLine 51 = .ok (.iload 6, 2) := by decide +kernel
theorem d_Sp_readLine_53 : decode b_Sp_readLine 53 = .ok (.iconst 4, 1) := by decide +kernel
theorem d_Sp_readLine_54 : decode b_Sp_readLine 54 = .ok (.iconst 2, 1) := by decide +kernel
theorem d_Sp_readLine_55 : decode b_Sp_readLine 55 = .ok (.iload 4, 2) := by decide +kernel
theorem d_Sp_readLine_57 : decode b_Sp_readLine 57 = .ok (.iconst 3, 1) := by decide +kernel
theorem d_Sp_readLine_58 : decode b_Sp_readLine 58 = .ok (.irem, 1) := by decide +kernel
theorem d_Sp_readLine_59 : decode b_Sp_readLine 59 = .ok (.imul, 1) := by decide +kernel
theorem d_Sp_readLine_60 : decode b_Sp_readLine 60 = .ok (.isub, 1) := by decide +kernel
theorem d_Sp_readLine_61 : decode b_Sp_readLine 61 = .ok (.ishr, 1) := by decide +kernel
theorem d_Sp_readLine_62 : decode b_Sp_readLine 62 = .ok (.invokevirtual 42, 3) := by decide +kernel
theorem d_Sp_readLine_65 : decode b_Sp_readLine 65 = .ok (.iinc 4 1, 3) := by decide +kernel
theorem d_Sp_readLine_68 : decode b_Sp_readLine 68 = .ok (.goto (-65), 3) := by decide +kernel
theorem d_Sp_readLine_71 : decode b_Sp_readLine 71 = .ok (.return_, 1) := by decide +kernel
theorem d_Sp_read_0 : decode b_Sp_read 0 = .ok (.aload_n 1, 1) := by decide +kernel
theorem d_Sp_read_1 : decode b_Sp_read 1 = .ok (.invokevirtual 9, 3) := by decide +kernel
theorem d_Sp_read_4 : decode b_Sp_read 4 = .ok (.ldc 16, 2) := by decide +kernel
theorem d_Sp_read_6 : decode b_Sp_read 6 = .ok (.invokevirtual 52, 3) := by decide +kernel
theorem d_Sp_read_9 : decode b_Sp_read 9 = .ok (.istore_n 2, 1) := by decide +kernel
theorem d_Sp_read_10 : decode b_Sp_read 10 = .ok (.iload_n 2, 1) := by decide +kernel
theorem d_Sp_read_11 : decode b_Sp_read 11 = .ok (.aload_n 0, 1) := by decide +kernel
theorem d_Sp_read_12 : decode b_Sp_read 12 = .ok (.getfield 22, 3) := by decide +kernel
theorem d_Sp_read_15 : decode b_Sp_read 15 = .ok (.if_icmp .ge 42, 3) := by decide +kernel
theorem d_Sp_read_18 : decode b_Sp_read 18 = .ok (.aload_n 0, 1) := by decide +kernel
theorem d_Sp_read_19 : decode b_Sp_read 19 = .ok (.iload_n 2, 1) := by decide +kernel
theorem d_Sp_read_20 : decode b_Sp_read 20 = .ok (.invokevirtual 46, 3) := by decide +kernel
theorem d_Sp_read_23 : decode b_Sp_read 23 = .ok (.invokestatic 58, 3) := by decide +kernel
theorem d_Sp_read_26 : decode b_Sp_read 26 = .ok (.istore_n 3, 1) := by decide +kernel
theorem d_Sp_read_27 : decode b_Sp_read 27 = .ok (.iload_n 3, 1) := by decide +kernel
theorem d_Sp_read_28 : decode b_Sp_read 28 = .ok (.ifCond .ne 4, 3) := by decide +kernel
theorem d_Sp_read_31 : decode b_Sp_read 31 = .ok (.return_, 1) := by decide +kernel
theorem d_Sp_read_32 : decode b_Sp_read 32 = .ok (.aload_n 0, 1) := by decide +kernel
theorem d_Sp_read_33 : decode b_Sp_read 33 = .ok (.iload_n 2, 1) := by decide +kernel
theorem d_Sp_read_34 : decode b_Sp_read 34 = .ok (.iconst 1, 1) := by decide +kernel
theorem d_Sp_read_35 : decode b_Sp_read 35 = .ok (.iadd, 1) := by decide +kernel
theorem d_Sp_read_36 : decode b_Sp_read 36 = .ok (.iload_n 3, 1) := by decide +kernel
theorem d_Sp_read_37 : decode b_Sp_read 37 = .ok (.aload_n 1, 1) := by decide +kernel
theorem d_Sp_read_38 : decode b_Sp_read 38 = .ok (.invokestatic 61, 3) := by decide +kernel
theorem d_Sp_read_41 : decode b_Sp_read 41 = .ok (.iload_n 2, 1) := by decide +kernel
theorem d_Sp_read_42 : decode b_Sp_read 42 = .ok (.iload_n 3, 1) := by decide +kernel
theorem d_Sp_read_43 : decode b_Sp_read 43 = .ok (.iconst 2, 1) := by decide +kernel
theorem d_Sp_read_44 : decode b_Sp_read 44 = .ok (.iadd, 1) := by decide +kernel
theorem d_Sp_read_45 : decode b_Sp_read 45 = .ok (.iconst 3, 1) := by decide +kernel
theorem d_Sp_read_46 : decode b_Sp_read 46 = .ok (.idiv, 1) := by decide +kernel
theorem d_Sp_read_47 : decode b_Sp_read 47 = .ok (.iconst 4, 1) := by decide +kernel
theorem d_Sp_read_48 : decode b_Sp_read 48 = .ok (.imul, 1) := by decide +kernel
theorem d_Sp_read_49 : decode b_Sp_read 49 = .ok (.iadd, 1) := by decide +kernel
theorem d_Sp_read_50 : decode b_Sp_read 50 = .ok (.istore_n 2, 1) := by decide +kernel
theorem d_Sp_read_51 : decode b_Sp_read 51 = .ok (.iinc 2 2, 3) := by decide +kernel
theorem d_Sp_read_54 : decode b_Sp_read 54 = .ok (.goto (-44), 3) := by decide +kernel
theorem d_Sp_read_57 : decode b_Sp_read 57 = .ok (.return_, 1) := by decide +kernel
theorem d_Ar_kindDigits_0 : decode b_Ar_kindDigits 0 = .ok (.iload_n 0, 1) := by decide +kernel
theorem d_Ar_kindDigits_1 : decode b_Ar_kindDigits 1 = .ok (.ifCond .ne 5, 3) := by decide +kernel
theorem d_Ar_kindDigits_4 : decode b_Ar_kindDigits 4 = .ok (.iconst 4, 1) := by decide +kernel
theorem d_Ar_kindDigits_5 : decode b_Ar_kindDigits 5 = .ok (.ireturn, 1) := by decide +kernel
theorem d_Ar_kindDigits_6 : decode b_Ar_kindDigits 6 = .ok (.iload_n 0, 1) := by decide +kernel
theorem d_Ar_kindDigits_7 : decode b_Ar_kindDigits 7 = .ok (.iconst 1, 1) := by decide +kernel
theorem d_Ar_kindDigits_8 : decode b_Ar_kindDigits 8 = .ok (.if_icmp .ne 8, 3) := by decide +kernel
theorem d_Ar_kindDigits_11 : decode b_Ar_kindDigits 11 = .ok (.bipush 8, 2) := by decide +kernel
theorem d_Ar_kindDigits_13 : decode b_Ar_kindDigits 13 = .ok (.goto 5, 3) := by decide +kernel
theorem d_Ar_kindDigits_16 : decode b_Ar_kindDigits 16 = .ok (.bipush 10, 2) := by decide +kernel
theorem d_Ar_kindDigits_18 : decode b_Ar_kindDigits 18 = .ok (.ireturn, 1) := by decide +kernel
theorem d_Ar_writeHeader_0 : decode b_Ar_writeHeader 0 = .ok (.aload_n 3, 1) := by decide +kernel
theorem d_Ar_writeHeader_1 : decode b_Ar_writeHeader 1 = .ok (.ldc 71, 2) := by decide +kernel
theorem d_Ar_writeHeader_3 : decode b_Ar_writeHeader 3 = .ok (.invokevirtual 67, 3) := by decide +kernel
theorem d_Ar_writeHeader_6 : decode b_Ar_writeHeader 6 = .ok (.aload_n 3, 1) := by decide +kernel
theorem d_Ar_writeHeader_7 : decode b_Ar_writeHeader 7 = .ok (.iload_n 1, 1) := by decide +kernel
theorem d_Ar_writeHeader_8 : decode b_Ar_writeHeader 8 = .ok (.bipush 6, 2) := by decide +kernel
theorem d_Ar_writeHeader_10 : decode b_Ar_writeHeader 10 = .ok (.invokevirtual 73, 3) := by decide +kernel
theorem d_Ar_writeHeader_13 : decode b_Ar_writeHeader 13 = .ok (.aload_n 3, 1) := by decide +kernel
theorem d_Ar_writeHeader_14 : decode b_Ar_writeHeader 14 = .ok (.aload_n 0, 1) := by decide +kernel
theorem d_Ar_writeHeader_15 : decode b_Ar_writeHeader 15 = .ok (.getfield 77, 3) := by decide +kernel
theorem d_Ar_writeHeader_18 : decode b_Ar_writeHeader 18 = .ok (.invokestatic 80, 3) := by decide +kernel
theorem d_Ar_writeHeader_21 : decode b_Ar_writeHeader 21 = .ok (.bipush 12, 2) := by decide +kernel
theorem d_Ar_writeHeader_23 : decode b_Ar_writeHeader 23 = .ok (.ishl, 1) := by decide +kernel
theorem d_Ar_writeHeader_24 : decode b_Ar_writeHeader 24 = .ok (.aload_n 0, 1) := by decide +kernel
theorem d_Ar_writeHeader_25 : decode b_Ar_writeHeader 25 = .ok (.getfield 83, 3) := by decide +kernel
theorem d_Ar_writeHeader_28 : decode b_Ar_writeHeader 28 = .ok (.ior, 1) := by decide +kernel
theorem d_Ar_writeHeader_29 : decode b_Ar_writeHeader 29 = .ok (.bipush 6, 2) := by decide +kernel
theorem d_Ar_writeHeader_31 : decode b_Ar_writeHeader 31 = .ok (.invokevirtual 73, 3) := by decide +kernel
theorem d_Ar_writeHeader_34 : decode b_Ar_writeHeader 34 = .ok (.aload_n 3, 1) := by decide +kernel
theorem d_Ar_writeHeader_35 : decode b_Ar_writeHeader 35 = .ok (.aload_n 0, 1) := by decide +kernel
theorem d_Ar_writeHeader_36 : decode b_Ar_writeHeader 36 = .ok (.getfield 86, 3) := by decide +kernel
theorem d_Ar_writeHeader_39 : decode b_Ar_writeHeader 39 = .ok (.bipush 6, 2) := by decide +kernel
theorem d_Ar_writeHeader_41 : decode b_Ar_writeHeader 41 = .ok (.invokevirtual 73, 3) := by decide +kernel
theorem d_Ar_writeHeader_44 : decode b_Ar_writeHeader 44 = .ok (.aload_n 3, 1) := by decide +kernel
theorem d_Ar_writeHeader_45 : decode b_Ar_writeHeader 45 = .ok (.aload_n 0, 1) := by decide +kernel
theorem d_Ar_writeHeader_46 : decode b_Ar_writeHeader 46 = .ok (.getfield 89, 3) := by decide +kernel
theorem d_Ar_writeHeader_49 : decode b_Ar_writeHeader 49 = .ok (.bipush 6, 2) := by decide +kernel
theorem d_Ar_writeHeader_51 : decode b_Ar_writeHeader 51 = .ok (.invokevirtual 73, 3) := by decide +kernel
theorem d_Ar_writeHeader_54 : decode b_Ar_writeHeader 54 = .ok (.aload_n 3, 1) := by decide +kernel
theorem d_Ar_writeHeader_55 : decode b_Ar_writeHeader 55 = .ok (.iload_n 2, 1) := by decide +kernel
theorem d_Ar_writeHeader_56 : decode b_Ar_writeHeader 56 = .ok (.bipush 6, 2) := by decide +kernel
theorem d_Ar_writeHeader_58 : decode b_Ar_writeHeader 58 = .ok (.invokevirtual 73, 3) := by decide +kernel
theorem d_Ar_writeHeader_61 : decode b_Ar_writeHeader 61 = .ok (.aload_n 3, 1) := by decide +kernel
theorem d_Ar_writeHeader_62 : decode b_Ar_writeHeader 62 = .ok (.ldc 92, 2) := by decide +kernel
theorem d_Ar_writeHeader_64 : decode b_Ar_writeHeader 64 = .ok (.invokevirtual 67, 3) := by decide +kernel
theorem d_Ar_writeHeader_67 : decode b_Ar_writeHeader 67 = .ok (.aload_n 3, 1) := by decide +kernel
theorem d_Ar_writeHeader_68 : decode b_Ar_writeHeader 68 = .ok (.aload_n 0, 1) := by decide +kernel
theorem d_Ar_writeHeader_69 : decode b_Ar_writeHeader 69 = .ok (.getfield 94, 3) := by decide +kernel
theorem d_Ar_writeHeader_72 : decode b_Ar_writeHeader 72 = .ok (.bipush 11, 2) := by decide +kernel
theorem d_Ar_writeHeader_74 : decode b_Ar_writeHeader 74 = .ok (.invokevirtual 73, 3) := by decide +kernel
theorem d_Ar_writeHeader_77 : decode b_Ar_writeHeader 77 = .ok (.aload_n 3, 1) := by decide +kernel
theorem d_Ar_writeHeader_78 : decode b_Ar_writeHeader 78 = .ok (.aload_n 0, 1) := by decide +kernel
theorem d_Ar_writeHeader_79 : decode b_Ar_writeHeader 79 = .ok (.getfield 41, 3) := by decide +kernel
theorem d_Ar_writeHeader_82 : decode b_Ar_writeHeader 82 = .ok (.getfield 47, 3) := by decide +kernel
theorem d_Ar_writeHeader_85 : decode b_Ar_writeHeader 85 = .ok (.iconst 1, 1) := by decide +kernel
theorem d_Ar_writeHeader_86 : decode b_Ar_writeHeader 86 = .ok (.iadd, 1) := by decide +kernel
theorem d_Ar_writeHeader_87 : decode b_Ar_writeHeader 87 = .ok (.bipush 6, 2) := by decide +kernel
theorem d_Ar_writeHeader_89 : decode b_Ar_writeHeader 89 = .ok (.invokevirtual 73, 3) := by decide +kernel
theorem d_Ar_writeHeader_92 : decode b_Ar_writeHeader 92 = .ok (.aload_n 3, 1) := by decide +kernel
theorem d_Ar_writeHeader_93 : decode b_Ar_writeHeader 93 = .ok (.aload_n 0, 1) := by decide +kernel
theorem d_Ar_writeHeader_94 : decode b_Ar_writeHeader 94 = .ok (.getfield 64, 3) := by decide +kernel
theorem d_Ar_writeHeader_97 : decode b_Ar_writeHeader 97 = .ok (.bipush 11, 2) := by decide +kernel
theorem d_Ar_writeHeader_99 : decode b_Ar_writeHeader 99 = .ok (.invokevirtual 73, 3) := by decide +kernel
theorem d_Ar_writeHeader_102 : decode b_Ar_writeHeader 102 = .ok (.return_, 1) := by decide +kernel
theorem d_Ar_write_0 : decode b_Ar_write 0 = .ok (.aload_n 1, 1) := by decide +kernel
theorem d_Ar_write_1 : decode b_Ar_write 1 = .ok (.invokevirtual 9, 3) := by decide +kernel
theorem d_Ar_write_4 : decode b_Ar_write 4 = .ok (.aload_n 0, 1) := by decide +kernel
theorem d_Ar_write_5 : decode b_Ar_write 5 = .ok (.invokevirtual 14, 3) := by decide +kernel
theorem d_Ar_write_8 : decode b_Ar_write 8 = .ok (.ifCond .ne 4, 3) := by decide +kernel
theorem d_Ar_write_11 : decode b_Ar_write 11 = .ok (.return_, 1) := by decide +kernel
theorem d_Ar_write_12 : decode b_Ar_write 12 = .ok (.iconst 0, 1) := by decide +kernel
theorem d_Ar_write_13 : decode b_Ar_write 13 = .ok (.istore_n 2, 1) := by decide +kernel
theorem d_Ar_write_14 : decode b_Ar_write 14 = .ok (.iload_n 2, 1) := by decide +kernel
theorem d_Ar_write_15 : decode b_Ar_write 15 = .ok (.aload_n 0, 1) := by decide +kernel
theorem d_Ar_write_16 : decode b_Ar_write 16 = .ok (.getfield 20, 3) := by decide +kernel
theorem d_Ar_write_19 : decode b_Ar_write 19 = .ok (.if_icmp .ge 75, 3) := by decide +kernel
theorem d_Ar_write_22 : decode b_Ar_write 22 = .ok (.aload_n 0, 1) := by decide +kernel
theorem d_Ar_write_23 : decode b_Ar_write 23 = .ok (.getfield 24, 3) := by decide +kernel
theorem d_Ar_write_26 : decode b_Ar_write 26 = .ok (.iload_n 2, 1) := by decide +kernel
theorem d_Ar_write_27 : decode b_Ar_write 27 = .ok (.aaload, 1) := by decide +kernel
theorem d_Ar_write_28 : decode b_Ar_write 28 = .ok (.astore_n 3, 1) := by decide +kernel
theorem d_Ar_write_29 : decode b_Ar_write 29 = .ok (.aload_n 3, 1) := by decide +kernel
theorem d_Ar_write_30 : decode b_Ar_write 30 = .ok (.aload_n 0, 1) := by decide +kernel
theorem d_Ar_write_31 : decode b_Ar_write 31 = .ok (.iload_n 2, 1) := by decide +kernel
theorem d_Ar_write_32 : decode b_Ar_write 32 = .ok (.invokevirtual 28, 3) := by decide +kernel
theorem d_Ar_write_35 : decode b_Ar_write 35 = .ok (.iconst 1, 1) := by decide +kernel
theorem d_Ar_write_36 : decode b_Ar_write 36 = .ok (.iadd, 1) := by decide +kernel
theorem d_Ar_write_37 : decode b_Ar_write 37 = .ok (.aload_n 0, 1) := by decide +kernel
theorem d_Ar_write_38 : decode b_Ar_write 38 = .ok (.iload_n 2, 1) := by decide +kernel
theorem d_Ar_write_39 : decode b_Ar_write 39 = .ok (.invokevirtual 32, 3) := by decide +kernel
theorem d_Ar_write_42 : decode b_Ar_write 42 = .ok (.aload_n 1, 1) := by decide +kernel
theorem d_Ar_write_43 : decode b_Ar_write 43 = .ok (.invokestatic 35, 3) := by decide +kernel
theorem d_Ar_write_46 : decode b_Ar_write 46 = .ok (.aload_n 1, 1) := by decide +kernel
theorem d_Ar_write_47 : decode b_Ar_write 47 = .ok (.aload_n 3, 1) := by decide +kernel
theorem d_Ar_write_48 : decode b_Ar_write 48 = .ok (.getfield 41, 3) := by decide +kernel
theorem d_Ar_write_51 : decode b_Ar_write 51 = .ok (.iconst 0, 1) := by decide +kernel
theorem d_Ar_write_52 : decode b_Ar_write 52 = .ok (.aload_n 3, 1) := by decide +kernel
theorem d_Ar_write_53 : decode b_Ar_write 53 = .ok (.getfield 41, 3) := by decide +kernel
theorem d_Ar_write_56 : decode b_Ar_write 56 = .ok (.getfield 47, 3) := by decide +kernel
theorem d_Ar_write_59 : decode b_Ar_write 59 = .ok (.invokevirtual 50, 3) := by decide +kernel
theorem d_Ar_write_62 : decode b_Ar_write 62 = .ok (.aload_n 1, 1) := by decide +kernel
theorem d_Ar_write_63 : decode b_Ar_write 63 = .ok (.iconst 0, 1) := by decide +kernel
theorem d_Ar_write_64 : decode b_Ar_write 64 = .ok (.invokevirtual 54, 3) := by decide +kernel
theorem d_Ar_write_67 : decode b_Ar_write 67 = .ok (.aload_n 1, 1) := by decide +kernel
theorem d_Ar_write_68 : decode b_Ar_write 68 = .ok (.aload_n 0, 1) := by decide +kernel
theorem d_Ar_write_69 : decode b_Ar_write 69 = .ok (.getfield 58, 3) := by decide +kernel
theorem d_Ar_write_72 : decode b_Ar_write 72 = .ok (.aload_n 3, 1) := by decide +kernel
theorem d_Ar_write_73 : decode b_Ar_write 73 = .ok (.getfield 61, 3) := by decide +kernel
theorem d_Ar_write_76 : decode b_Ar_write 76 = .ok (.aload_n 3, 1) := by decide +kernel
theorem d_Ar_write_77 : decode b_Ar_write 77 = .ok (.getfield 61, 3) := by decide +kernel
theorem d_Ar_write_80 : decode b_Ar_write 80 = .ok (.aload_n 3, 1) := by decide +kernel
theorem d_Ar_write_81 : decode b_Ar_write 81 = .ok (.getfield 64, 3) := by decide +kernel
theorem d_Ar_write_84 : decode b_Ar_write 84 = .ok (.iadd, 1) := by decide +kernel
theorem d_Ar_write_85 : decode b_Ar_write 85 = .ok (.invokevirtual 50, 3) := by decide +kernel
theorem d_Ar_write_88 : decode b_Ar_write 88 = .ok (.iinc 2 1, 3) := by decide +kernel
theorem d_Ar_write_91 : decode b_Ar_write 91 = .ok (.goto (-77), 3) := by decide +kernel
theorem d_Ar_write_94 : decode b_Ar_write 94 = .ok (.aload_n 1, 1) := by decide +kernel
theorem d_Ar_write_95 : decode b_Ar_write 95 = .ok (.ldc 65, 2) := by decide +kernel
theorem d_Ar_write_97 : decode b_Ar_write 97 = .ok (.invokevirtual 67, 3) := by decide +kernel
theorem d_Ar_write_100 : decode b_Ar_write 100 = .ok (.aload_n 1, 1) := by decide +kernel
theorem d_Ar_write_101 : decode b_Ar_write 101 = .ok (.iconst 0, 1) := by decide +kernel
theorem d_Ar_write_102 : decode b_Ar_write 102 = .ok (.invokevirtual 54, 3) := by decide +kernel
theorem d_Ar_write_105 : decode b_Ar_write 105 = .ok (.return_, 1) := by decide +kernel
theorem d_Ar_kindOf_0 : decode b_Ar_kindOf 0 = .ok (.iconst 0, 1) := by decide +kernel
theorem d_Ar_kindOf_1 : decode b_Ar_kindOf 1 = .ok (.istore_n 1, 1) := by decide +kernel
theorem d_Ar_kindOf_2 : decode b_Ar_kindOf 2 = .ok (.iload_n 1, 1) := by decide +kernel
theorem d_Ar_kindOf_3 : decode b_Ar_kindOf 3 = .ok (.iconst 2, 1) := by decide +kernel
theorem d_Ar_kindOf_4 : decode b_Ar_kindOf 4 = .ok (.if_icmp .gt 19, 3) := by decide +kernel
theorem d_Ar_kindOf_7 : decode b_Ar_kindOf 7 = .ok (.iload_n 1, 1) := by decide +kernel
theorem d_Ar_kindOf_8 : decode b_Ar_kindOf 8 = .ok (.invokestatic 80, 3) := by decide +kernel
theorem d_Ar_kindOf_11 : decode b_Ar_kindOf 11 = .ok (.iload_n 0, 1) := by decide +kernel
theorem d_Ar_kindOf_12 : decode b_Ar_kindOf 12 = .ok (.if_icmp .ne 5, 3) := by decide +kernel
theorem d_Ar_kindOf_15 : decode b_Ar_kindOf 15 = .ok (.iload_n 1, 1) := by decide +kernel
theorem d_Ar_kindOf_16 : decode b_Ar_kindOf 16 = .ok (.ireturn, 1) := by decide +kernel
theorem d_Ar_kindOf_17 : decode b_Ar_kindOf 17 = .ok (.iinc 1 1, 3) := by decide +kernel
theorem d_Ar_kindOf_20 : decode b_Ar_kindOf 20 = .ok (.goto (-18), 3) := by decide +kernel
theorem d_Ar_kindOf_23 : decode b_Ar_kindOf 23 = .ok (.iconst (-1), 1) := by decide +kernel
theorem d_Ar_kindOf_24 : decode b_Ar_kindOf 24 = .ok (.ireturn, 1) := by decide +kernel
theorem d_Ar_octal_0 : decode b_Ar_octal 0 = .ok (.lconst 0, 1) := by decide +kernel
theorem d_Ar_octal_1 : decode b_Ar_octal 1 = .ok (.lstore_n 3, 1) := by decide +kernel
theorem d_Ar_octal_2 : decode b_Ar_octal 2 = .ok (.iconst 0, 1) := by decide +kernel
theorem d_Ar_octal_3 : decode b_Ar_octal 3 = .ok (.istore 5, 2) := by decide +kernel
theorem d_Ar_octal_5 : decode b_Ar_octal 5 = .ok (.iload 5, 2) := by decide +kernel
theorem d_Ar_octal_7 : decode b_Ar_octal 7 = .ok (.iload_n 2, 1) := by decide +kernel
theorem d_Ar_octal_8 : decode b_Ar_octal 8 = .ok (.if_icmp .ge 46, 3) := by decide +kernel
theorem d_Ar_octal_11 : decode b_Ar_octal 11 = .ok (.aload_n 0, 1) := by decide +kernel
theorem d_Ar_octal_12 : decode b_Ar_octal 12 = .ok (.iload_n 1, 1) := by decide +kernel
theorem d_Ar_octal_13 : decode b_Ar_octal 13 = .ok (.iload 5, 2) := by decide +kernel
theorem d_Ar_octal_15 : decode b_Ar_octal 15 = .ok (.iadd, 1) := by decide +kernel
theorem d_Ar_octal_16 : decode b_Ar_octal 16 = .ok (.invokevirtual 130, 3) := by decide +kernel
theorem d_Ar_octal_19 : decode b_Ar_octal 19 = .ok (.bipush 48, 2) := by decide +kernel
theorem d_Ar_octal_21 : decode b_Ar_octal 21 = .ok (.isub, 1) := by decide +kernel
theorem d_Ar_octal_22 : decode b_Ar_octal 22 = .ok (.istore 6, 2) := by decide +kernel
theorem d_Ar_octal_24 : decode b_Ar_octal 24 = .ok (.iload 6, 2) := by decide +kernel
theorem d_Ar_octal_26 : decode b_Ar_octal 26 = .ok (.ifCond .lt 10, 3) := by decide +kernel
theorem d_Ar_octal_29 : decode b_Ar_octal 29 = .ok (.iload 6, 2) := by decide +kernel
theorem d_Ar_octal_31 : decode b_Ar_octal 31 = .ok (.bipush 7, 2) := by decide +kernel
theorem d_Ar_octal_33 : decode b_Ar_octal 33 = .ok (.if_icmp .le 5, 3) := by decide +kernel
theorem d_Ar_octal_36 : decode b_Ar_octal 36 = .ok (.iconst (-1), 1) := by decide +kernel
theorem d_Ar_octal_37 : decode b_Ar_octal 37 = .ok (.ireturn, 1) := by decide +kernel
theorem d_Ar_octal_38 : decode b_Ar_octal 38 = .ok (.ldc2_w 133, 3) := by decide +kernel
theorem d_Ar_octal_41 : decode b_Ar_octal 41 = .ok (.lload_n 3, 1) := by decide +kernel
theorem d_Ar_octal_42 : decode b_Ar_octal 42 = .ok (.lmul, 1) := by decide +kernel
theorem d_Ar_octal_43 : decode b_Ar_octal 43 = .ok (.iload 6, 2) := by decide +kernel
theorem d_Ar_octal_45 : decode b_Ar_octal 45 = .ok (.i2l, 1) := by decide +kernel
theorem d_Ar_octal_46 : decode b_Ar_octal 46 = .ok (.ladd, 1) := by decide +kernel
theorem d_Ar_octal_47 : decode b_Ar_octal 47 = .ok (.lstore_n 3, 1) := by decide +kernel
theorem d_Ar_octal_48 : decode b_Ar_octal 48 = .ok (.iinc 5 1, 3) := by decide +kernel
theorem d_Ar_octal_51 : decode b_Ar_octal 51 = .ok (.goto (-46), 3) := by decide +kernel
theorem d_Ar_octal_54 : decode b_Ar_octal 54 = .ok (.lload_n 3, 1) := by decide +kernel
theorem d_Ar_octal_55 : decode b_Ar_octal 55 = .ok (.ldc2_w 135, 3) := by decide +kernel
theorem d_Ar_octal_58 : decode b_Ar_octal 58 = .ok (.lcmp, 1) := by decide +kernel
theorem d_Ar_octal_59 : decode b_Ar_octal 59 = .ok (.ifCond .gt 8, 3) := by decide +kernel
theorem d_Ar_octal_62 : decode b_Ar_octal 62 = .ok (.lload_n 3, 1) := by decide +kernel
theorem d_Ar_octal_63 : decode b_Ar_octal 63 = .ok (.l2i, 1) := by decide +kernel
theorem d_Ar_octal_64 : decode b_Ar_octal 64 = .ok (.goto 4, 3) := by decide +kernel
theorem d_Ar_octal_67 : decode b_Ar_octal 67 = .ok (.iconst (-1), 1) := by decide +kernel
theorem d_Ar_octal_68 : decode b_Ar_octal 68 = .ok (.ireturn, 1) := by decide +kernel
theorem d_Ar_readFields_0 : decode b_Ar_readFields 0 = .ok (.aload_n 0, 1) := by decide +kernel
theorem d_Ar_readFields_1 : decode b_Ar_readFields 1 = .ok (.iload_n 1, 1) := by decide +kernel
theorem d_Ar_readFields_2 : decode b_Ar_readFields 2 = .ok (.bipush 18, 2) := by decide +kernel
theorem d_Ar_readFields_4 : decode b_Ar_readFields 4 = .ok (.iadd, 1) := by decide +kernel
theorem d_Ar_readFields_5 : decode b_Ar_readFields 5 = .ok (.bipush 6, 2) := by decide +kernel
theorem d_Ar_readFields_7 : decode b_Ar_readFields 7 = .ok (.invokestatic 106, 3) := by decide +kernel
theorem d_Ar_readFields_10 : decode b_Ar_readFields 10 = .ok (.istore_n 3, 1) := by decide +kernel
theorem d_Ar_readFields_11 : decode b_Ar_readFields 11 = .ok (.aload_n 2, 1) := by decide +kernel
theorem d_Ar_readFields_12 : decode b_Ar_readFields 12 = .ok (.iload_n 3, 1) := by decide +kernel
theorem d_Ar_readFields_13 : decode b_Ar_readFields 13 = .ok (.bipush 12, 2) := by decide +kernel
theorem d_Ar_readFields_15 : decode b_Ar_readFields 15 = .ok (.ishr, 1) := by decide +kernel
theorem d_Ar_readFields_16 : decode b_Ar_readFields 16 = .ok (.invokestatic 127, 3) := by decide +kernel
theorem d_Ar_readFields_19 : decode b_Ar_readFields 19 = .ok (.putfield 77, 3) := by decide +kernel
theorem d_Ar_readFields_22 : decode b_Ar_readFields 22 = .ok (.aload_n 2, 1) := by decide +kernel
theorem d_Ar_readFields_23 : decode b_Ar_readFields 23 = .ok (.iload_n 3, 1) := by decide +kernel
theorem d_Ar_readFields_24 : decode b_Ar_readFields 24 = .ok (.sipush 4095, 3) := by decide +kernel
theorem d_Ar_readFields_27 : decode b_Ar_readFields 27 = .ok (.iand, 1) := by decide +kernel
theorem d_Ar_readFields_28 : decode b_Ar_readFields 28 = .ok (.putfield 83, 3) := by decide +kernel
theorem d_Ar_readFields_31 : decode b_Ar_readFields 31 = .ok (.aload_n 2, 1) := by decide +kernel
theorem d_Ar_readFields_32 : decode b_Ar_readFields 32 = .ok (.aload_n 0, 1) := by decide +kernel
theorem d_Ar_readFields_33 : decode b_Ar_readFields 33 = .ok (.iload_n 1, 1) := by decide +kernel
theorem d_Ar_readFields_34 : decode b_Ar_readFields 34 = .ok (.bipush 24, 2) := by decide +kernel
theorem d_Ar_readFields_36 : decode b_Ar_readFields 36 = .ok (.iadd, 1) := by decide +kernel
theorem d_Ar_readFields_37 : decode b_Ar_readFields 37 = .ok (.bipush 6, 2) := by decide +kernel
theorem d_Ar_readFields_39 : decode b_Ar_readFields 39 = .ok (.invokestatic 106, 3) := by decide +kernel
theorem d_Ar_readFields_42 : decode b_Ar_readFields 42 = .ok (.putfield 86, 3) := by decide +kernel
theorem d_Ar_readFields_45 : decode b_Ar_readFields 45 = .ok (.aload_n 2, 1) := by decide +kernel
theorem d_Ar_readFields_46 : decode b_Ar_readFields 46 = .ok (.aload_n 0, 1) := by decide +kernel
theorem d_Ar_readFields_47 : decode b_Ar_readFields 47 = .ok (.iload_n 1, 1) := by decide +kernel
theorem d_Ar_readFields_48 : decode b_Ar_readFields 48 = .ok (.bipush 30, 2) := by decide +kernel
theorem d_Ar_readFields_50 : decode b_Ar_readFields 50 = .ok (.iadd, 1) := by decide +kernel
theorem d_Ar_readFields_51 : decode b_Ar_readFields 51 = .ok (.bipush 6, 2) := by decide +kernel
theorem d_Ar_readFields_53 : decode b_Ar_readFields 53 = .ok (.invokestatic 106, 3) := by decide +kernel
theorem d_Ar_readFields_56 : decode b_Ar_readFields 56 = .ok (.putfield 89, 3) := by decide +kernel
theorem d_Ar_readFields_59 : decode b_Ar_readFields 59 = .ok (.aload_n 2, 1) := by decide +kernel
theorem d_Ar_readFields_60 : decode b_Ar_readFields 60 = .ok (.aload_n 0, 1) := by decide +kernel
theorem d_Ar_readFields_61 : decode b_Ar_readFields 61 = .ok (.iload_n 1, 1) := by decide +kernel
theorem d_Ar_readFields_62 : decode b_Ar_readFields 62 = .ok (.bipush 48, 2) := by decide +kernel
theorem d_Ar_readFields_64 : decode b_Ar_readFields 64 = .ok (.iadd, 1) := by decide +kernel
theorem d_Ar_readFields_65 : decode b_Ar_readFields 65 = .ok (.bipush 11, 2) := by decide +kernel
theorem d_Ar_readFields_67 : decode b_Ar_readFields 67 = .ok (.invokestatic 106, 3) := by decide +kernel
theorem d_Ar_readFields_70 : decode b_Ar_readFields 70 = .ok (.putfield 94, 3) := by decide +kernel
theorem d_Ar_readFields_73 : decode b_Ar_readFields 73 = .ok (.return_, 1) := by decide +kernel
theorem d_Ar_readEntry_0 : decode b_Ar_readEntry 0 = .ok (.iload_n 1, 1) := by decide +kernel
theorem d_Ar_readEntry_1 : decode b_Ar_readEntry 1 = .ok (.bipush 76, 2) := by decide +kernel
theorem d_Ar_readEntry_3 : decode b_Ar_readEntry 3 = .ok (.iadd, 1) := by decide +kernel
theorem d_Ar_readEntry_4 : decode b_Ar_readEntry 4 = .ok (.istore_n 3, 1) := by decide +kernel
theorem d_Ar_readEntry_5 : decode b_Ar_readEntry 5 = .ok (.aload_n 0, 1) := by decide +kernel
theorem d_Ar_readEntry_6 : decode b_Ar_readEntry 6 = .ok (.iload_n 1, 1) := by decide +kernel
theorem d_Ar_readEntry_7 : decode b_Ar_readEntry 7 = .ok (.bipush 59, 2) := by decide +kernel
theorem d_Ar_readEntry_9 : decode b_Ar_readEntry 9 = .ok (.iadd, 1) := by decide +kernel
theorem d_Ar_readEntry_10 : decode b_Ar_readEntry 10 = .ok (.bipush 6, 2) := by decide +kernel
theorem d_Ar_readEntry_12 : decode b_Ar_readEntry 12 = .ok (.invokestatic 106, 3) := by decide +kernel
theorem d_Ar_readEntry_15 : decode b_Ar_readEntry 15 = .ok (.iconst 1, 1) := by decide +kernel
theorem d_Ar_readEntry_16 : decode b_Ar_readEntry 16 = .ok (.isub, 1) := by decide +kernel
theorem d_Ar_readEntry_17 : decode b_Ar_readEntry 17 = .ok (.istore 4, 2) := by decide +kernel
theorem d_Ar_readEntry_19 : decode b_Ar_readEntry 19 = .ok (.iload_n 3, 1) := by decide +kernel
theorem d_Ar_readEntry_20 : decode b_Ar_readEntry 20 = .ok (.iload 4, 2) := by decide +kernel
theorem d_Ar_readEntry_22 : decode b_Ar_readEntry 22 = .ok (.iadd, 1) := by decide +kernel
theorem d_Ar_readEntry_23 : decode b_Ar_readEntry 23 = .ok (.iconst 1, 1) := by decide +kernel
theorem d_Ar_readEntry_24 : decode b_Ar_readEntry 24 = .ok (.iadd, 1) := by decide +kernel
theorem d_Ar_readEntry_25 : decode b_Ar_readEntry 25 = .ok (.istore 5, 2) := by decide +kernel
theorem d_Ar_readEntry_27 : decode b_Ar_readEntry 27 = .ok (.aload_n 0, 1) := by decide +kernel
theorem d_Ar_readEntry_28 : decode b_Ar_readEntry 28 = .ok (.iload_n 1, 1) := by decide +kernel
theorem d_Ar_readEntry_29 : decode b_Ar_readEntry 29 = .ok (.bipush 65, 2) := by decide +kernel
theorem d_Ar_readEntry_31 : decode b_Ar_readEntry 31 = .ok (.iadd, 1) := by decide +kernel
theorem d_Ar_readEntry_32 : decode b_Ar_readEntry 32 = .ok (.bipush 11, 2) := by decide +kernel
theorem d_Ar_readEntry_34 : decode b_Ar_readEntry 34 = .ok (.invokestatic 106, 3) := by decide +kernel
theorem d_Ar_readEntry_37 : decode b_Ar_readEntry 37 = .ok (.istore 6, 2) := by decide +kernel
theorem d_Ar_readEntry_39 : decode b_Ar_readEntry 39 = .ok (.iload 4, 2) := by decide +kernel
theorem d_Ar_readEntry_41 : decode b_Ar_readEntry 41 = .ok (.iconst 1, 1) := by decide +kernel
theorem d_Ar_readEntry_42 : decode b_Ar_readEntry 42 = .ok (.if_icmp .lt 27, 3) := by decide +kernel
theorem d_Ar_readEntry_45 : decode b_Ar_readEntry 45 = .ok (.iload 4, 2) := by decide +kernel
theorem d_Ar_readEntry_47 : decode b_Ar_readEntry 47 = .ok (.bipush 60, 2) := by decide +kernel
theorem d_Ar_readEntry_49 : decode b_Ar_readEntry 49 = .ok (.if_icmp .gt 20, 3) := by decide +kernel
theorem d_Ar_readEntry_52 : decode b_Ar_readEntry 52 = .ok (.iload 6, 2) := by decide +kernel
theorem d_Ar_readEntry_54 : decode b_Ar_readEntry 54 = .ok (.ifCond .lt 15, 3) := by decide +kernel
theorem d_Ar_readEntry_57 : decode b_Ar_readEntry 57 = .ok (.iload 6, 2) := by decide +kernel
theorem d_Ar_readEntry_59 : decode b_Ar_readEntry 59 = .ok (.aload_n 0, 1) := by decide +kernel
theorem d_Ar_readEntry_60 : decode b_Ar_readEntry 60 = .ok (.getfield 47, 3) := by decide +kernel
theorem d_Ar_readEntry_63 : decode b_Ar_readEntry 63 = .ok (.iload 5, 2) := by decide +kernel
theorem d_Ar_readEntry_65 : decode b_Ar_readEntry 65 = .ok (.isub, 1) := by decide +kernel
theorem d_Ar_readEntry_66 : decode b_Ar_readEntry 66 = .ok (.if_icmp .le 5, 3) := by decide +kernel
theorem d_Ar_readEntry_69 : decode b_Ar_readEntry 69 = .ok (.iconst (-1), 1) := by decide +kernel
theorem d_Ar_readEntry_70 : decode b_Ar_readEntry 70 = .ok (.ireturn, 1) := by decide +kernel
theorem d_Ar_readEntry_71 : decode b_Ar_readEntry 71 = .ok (.iload 5, 2) := by decide +kernel
theorem d_Ar_readEntry_73 : decode b_Ar_readEntry 73 = .ok (.iload 6, 2) := by decide +kernel
theorem d_Ar_readEntry_75 : decode b_Ar_readEntry 75 = .ok (.iadd, 1) := by decide +kernel
theorem d_Ar_readEntry_76 : decode b_Ar_readEntry 76 = .ok (.istore 7, 2) := by decide +kernel
theorem d_Ar_readEntry_78 : decode b_Ar_readEntry 78 = .ok (.aload_n 2, 1) := by decide +kernel
theorem d_Ar_readEntry_79 : decode b_Ar_readEntry 79 = .ok (.invokevirtual 110, 3) := by decide +kernel
theorem d_Ar_readEntry_82 : decode b_Ar_readEntry 82 = .ok (.astore 8, 2) := by decide +kernel
theorem d_Ar_readEntry_84 : decode b_Ar_readEntry 84 = .ok (.aload 8, 2) := by decide +kernel
theorem d_Ar_readEntry_86 : decode b_Ar_readEntry 86 = .ok (.getfield 41, 3) := by decide +kernel
theorem d_Ar_readEntry_89 : decode b_Ar_readEntry 89 = .ok (.aload_n 0, 1) := by decide +kernel
theorem d_Ar_readEntry_90 : decode b_Ar_readEntry 90 = .ok (.iload_n 3, 1) := by decide +kernel
theorem d_Ar_readEntry_91 : decode b_Ar_readEntry 91 = .ok (.iload_n 3, 1) := by decide +kernel
theorem d_Ar_readEntry_92 : decode b_Ar_readEntry 92 = .ok (.iload 4, 2) := by decide +kernel
theorem d_Ar_readEntry_94 : decode b_Ar_readEntry 94 = .ok (.iadd, 1) := by decide +kernel
theorem d_Ar_readEntry_95 : decode b_Ar_readEntry 95 = .ok (.invokevirtual 114, 3) := by decide +kernel
theorem d_Ar_readEntry_98 : decode b_Ar_readEntry 98 = .ok (.aload_n 0, 1) := by decide +kernel
theorem d_Ar_readEntry_99 : decode b_Ar_readEntry 99 = .ok (.iload_n 1, 1) := by decide +kernel
theorem d_Ar_readEntry_100 : decode b_Ar_readEntry 100 = .ok (.aload 8, 2) := by decide +kernel
theorem d_Ar_readEntry_102 : decode b_Ar_readEntry 102 = .ok (.invokestatic 117, 3) := by decide +kernel
theorem d_Ar_readEntry_105 : decode b_Ar_readEntry 105 = .ok (.aload_n 0, 1) := by decide +kernel
theorem d_Ar_readEntry_106 : decode b_Ar_readEntry 106 = .ok (.iload_n 1, 1) := by decide +kernel
theorem d_Ar_readEntry_107 : decode b_Ar_readEntry 107 = .ok (.bipush 12, 2) := by decide +kernel
theorem d_Ar_readEntry_109 : decode b_Ar_readEntry 109 = .ok (.iadd, 1) := by decide +kernel
theorem d_Ar_readEntry_110 : decode b_Ar_readEntry 110 = .ok (.bipush 6, 2) := by decide +kernel
theorem d_Ar_readEntry_112 : decode b_Ar_readEntry 112 = .ok (.invokestatic 106, 3) := by decide +kernel
theorem d_Ar_readEntry_115 : decode b_Ar_readEntry 115 = .ok (.istore 9, 2) := by decide +kernel
theorem d_Ar_readEntry_117 : decode b_Ar_readEntry 117 = .ok (.iload 9, 2) := by decide +kernel
theorem d_Ar_readEntry_119 : decode b_Ar_readEntry 119 = .ok (.aload_n 2, 1) := by decide +kernel
theorem d_Ar_readEntry_120 : decode b_Ar_readEntry 120 = .ok (.getfield 20, 3) := by decide +kernel
theorem d_Ar_readEntry_123 : decode b_Ar_readEntry 123 = .ok (.iconst 1, 1) := by decide +kernel
theorem d_Ar_readEntry_124 : decode b_Ar_readEntry 124 = .ok (.iadd, 1) := by decide +kernel
theorem d_Ar_readEntry_125 : decode b_Ar_readEntry 125 = .ok (.if_icmp .ne 15, 3) := by decide +kernel
theorem d_Ar_readEntry_128 : decode b_Ar_readEntry 128 = .ok (.aload_n 2, 1) := by decide +kernel
theorem d_Ar_readEntry_129 : decode b_Ar_readEntry 129 = .ok (.aload_n 0, 1) := by decide +kernel
theorem d_Ar_readEntry_130 : decode b_Ar_readEntry 130 = .ok (.iload 5, 2) := by decide +kernel
theorem d_Ar_readEntry_132 : decode b_Ar_readEntry 132 = .ok (.iload 7, 2) := by decide +kernel
theorem d_Ar_readEntry_134 : decode b_Ar_readEntry 134 = .ok (.invokevirtual 121, 3) := by decide +kernel
theorem d_Ar_readEntry_137 : decode b_Ar_readEntry 137 = .ok (.goto 11, 3) := by decide +kernel
theorem d_Ar_readEntry_140 : decode b_Ar_readEntry 140 = .ok (.aload_n 2, 1) := by decide +kernel
theorem d_Ar_readEntry_141 : decode b_Ar_readEntry 141 = .ok (.iload 9, 2) := by decide +kernel
theorem d_Ar_readEntry_143 : decode b_Ar_readEntry 143 = .ok (.iconst 1, 1) := by decide +kernel
theorem d_Ar_readEntry_144 : decode b_Ar_readEntry 144 = .ok (.isub, 1) := by decide +kernel
theorem d_Ar_readEntry_145 : decode b_Ar_readEntry 145 = .ok (.invokevirtual 124, 3) := by decide +kernel
theorem d_Ar_readEntry_148 : decode b_Ar_readEntry 148 = .ok (.istore 10, 2) := by decide +kernel
theorem d_Ar_readEntry_150 : decode b_Ar_readEntry 150 = .ok (.iload 10, 2) := by decide +kernel
theorem d_Ar_readEntry_152 : decode b_Ar_readEntry 152 = .ok (.ifCond .ne 8, 3) := by decide +kernel
theorem d_Ar_readEntry_155 : decode b_Ar_readEntry 155 = .ok (.iload 7, 2) := by decide +kernel
theorem d_Ar_readEntry_157 : decode b_Ar_readEntry 157 = .ok (.goto 4, 3) := by decide +kernel
theorem d_Ar_readEntry_160 : decode b_Ar_readEntry 160 = .ok (.iconst (-1), 1) := by decide +kernel
theorem d_Ar_readEntry_161 : decode b_Ar_readEntry 161 = .ok (.ireturn, 1) := by decide +kernel
theorem d_Ar_read_0 : decode b_Ar_read 0 = .ok (.aload_n 1, 1) := by decide +kernel
theorem d_Ar_read_1 : decode b_Ar_read 1 = .ok (.invokevirtual 97, 3) := by decide +kernel
theorem d_Ar_read_4 : decode b_Ar_read 4 = .ok (.iconst 0, 1) := by decide +kernel
theorem d_Ar_read_5 : decode b_Ar_read 5 = .ok (.istore_n 2, 1) := by decide +kernel
theorem d_Ar_read_6 : decode b_Ar_read 6 = .ok (.iconst 0, 1) := by decide +kernel
theorem d_Ar_read_7 : decode b_Ar_read 7 = .ok (.istore_n 3, 1) := by decide +kernel
theorem d_Ar_read_8 : decode b_Ar_read 8 = .ok (.iload_n 3, 1) := by decide +kernel
theorem d_Ar_read_9 : decode b_Ar_read 9 = .ok (.bipush 40, 2) := by decide +kernel
theorem d_Ar_read_11 : decode b_Ar_read 11 = .ok (.if_icmp .gt 33, 3) := by decide +kernel
theorem d_Ar_read_14 : decode b_Ar_read 14 = .ok (.iload_n 2, 1) := by decide +kernel
theorem d_Ar_read_15 : decode b_Ar_read 15 = .ok (.iconst (-1), 1) := by decide +kernel
theorem d_Ar_read_16 : decode b_Ar_read 16 = .ok (.if_icmp .eq 28, 3) := by decide +kernel
theorem d_Ar_read_19 : decode b_Ar_read 19 = .ok (.aload_n 0, 1) := by decide +kernel
theorem d_Ar_read_20 : decode b_Ar_read 20 = .ok (.ldc 65, 2) := by decide +kernel
theorem d_Ar_read_22 : decode b_Ar_read 22 = .ok (.iload_n 2, 1) := by decide +kernel
theorem d_Ar_read_23 : decode b_Ar_read 23 = .ok (.invokevirtual 98, 3) := by decide +kernel
theorem d_Ar_read_26 : decode b_Ar_read 26 = .ok (.ifCond .eq 5, 3) := by decide +kernel
theorem d_Ar_read_29 : decode b_Ar_read 29 = .ok (.iconst 1, 1) := by decide +kernel
theorem d_Ar_read_30 : decode b_Ar_read 30 = .ok (.ireturn, 1) := by decide +kernel
theorem d_Ar_read_31 : decode b_Ar_read 31 = .ok (.aload_n 0, 1) := by decide +kernel
theorem d_Ar_read_32 : decode b_Ar_read 32 = .ok (.iload_n 2, 1) := by decide +kernel
theorem d_Ar_read_33 : decode b_Ar_read 33 = .ok (.aload_n 1, 1) := by decide +kernel
theorem d_Ar_read_34 : decode b_Ar_read 34 = .ok (.invokestatic 102, 3) := by decide +kernel
theorem d_Ar_read_37 : decode b_Ar_read 37 = .ok (.istore_n 2, 1) := by decide +kernel
theorem d_Ar_read_38 : decode b_Ar_read 38 = .ok (.iinc 3 1, 3) := by decide +kernel
theorem d_Ar_read_41 : decode b_Ar_read 41 = .ok (.goto (-33), 3) := by decide +kernel
theorem d_Ar_read_44 : decode b_Ar_read 44 = .ok (.iconst 0, 1) := by decide +kernel
theorem d_Ar_read_45 : decode b_Ar_read 45 = .ok (.ireturn, 1) := by decide +kernel
theorem d_Mc_clear_0 : decode b_Mc_clear 0 = .ok (.aload_n 0, 1) := by decide +kernel
theorem d_Mc_clear_1 : decode b_Mc_clear 1 = .ok (.getfield 21, 3) := by decide +kernel
theorem d_Mc_clear_4 : decode b_Mc_clear 4 = .ok (.getfield 153, 3) := by decide +kernel
theorem d_Mc_clear_7 : decode b_Mc_clear 7 = .ok (.istore_n 1, 1) := by decide +kernel
theorem d_Mc_clear_8 : decode b_Mc_clear 8 = .ok (.aload_n 0, 1) := by decide +kernel
theorem d_Mc_clear_9 : decode b_Mc_clear 9 = .ok (.getfield 21, 3) := by decide +kernel
theorem d_Mc_clear_12 : decode b_Mc_clear 12 = .ok (.invokevirtual 156, 3) := by decide +kernel
theorem d_Mc_clear_15 : decode b_Mc_clear 15 = .ok (.aload_n 0, 1) := by decide +kernel
theorem d_Mc_clear_16 : decode b_Mc_clear 16 = .ok (.iconst 0, 1) := by decide +kernel
theorem d_Mc_clear_17 : decode b_Mc_clear 17 = .ok (.putfield 34, 3) := by decide +kernel
theorem d_Mc_clear_20 : decode b_Mc_clear 20 = .ok (.iload_n 1, 1) := by decide +kernel
theorem d_Mc_clear_21 : decode b_Mc_clear 21 = .ok (.ireturn, 1) := by decide +kernel
theorem d_Mc_refreshArchive_0 : decode b_Mc_refreshArchive 0 = .ok (.aload_n 0, 1) := by decide +kernel
theorem d_Mc_refreshArchive_1 : decode b_Mc_refreshArchive 1 = .ok (.getfield 34, 3) := by decide +kernel
theorem d_Mc_refreshArchive_4 : decode b_Mc_refreshArchive 4 = .ok (.ifCond .ne 19, 3) := by decide +kernel
theorem d_Mc_refreshArchive_7 : decode b_Mc_refreshArchive 7 = .ok (.aload_n 0, 1) := by decide +kernel
theorem d_Mc_refreshArchive_8 : decode b_Mc_refreshArchive 8 = .ok (.getfield 21, 3) := by decide +kernel
theorem d_Mc_refreshArchive_11 : decode b_Mc_refreshArchive 11 = .ok (.aload_n 0, 1) := by decide +kernel
theorem d_Mc_refreshArchive_12 : decode b_Mc_refreshArchive 12 = .ok (.getfield 31, 3) := by decide +kernel
theorem d_Mc_refreshArchive_15 : decode b_Mc_refreshArchive 15 = .ok (.invokestatic 178, 3) := by decide +kernel
theorem d_Mc_refreshArchive_18 : decode b_Mc_refreshArchive 18 = .ok (.aload_n 0, 1) := by decide +kernel
theorem d_Mc_refreshArchive_19 : decode b_Mc_refreshArchive 19 = .ok (.iconst 1, 1) := by decide +kernel
theorem d_Mc_refreshArchive_20 : decode b_Mc_refreshArchive 20 = .ok (.putfield 34, 3) := by decide +kernel
theorem d_Mc_refreshArchive_23 : decode b_Mc_refreshArchive 23 = .ok (.return_, 1) := by decide +kernel
theorem d_Mc_checksum_0 : decode b_Mc_checksum 0 = .ok (.aload_n 0, 1) := by decide +kernel
theorem d_Mc_checksum_1 : decode b_Mc_checksum 1 = .ok (.getfield 14, 3) := by decide +kernel
theorem d_Mc_checksum_4 : decode b_Mc_checksum 4 = .ok (.iconst 0, 1) := by decide +kernel
theorem d_Mc_checksum_5 : decode b_Mc_checksum 5 = .ok (.aload_n 0, 1) := by decide +kernel
theorem d_Mc_checksum_6 : decode b_Mc_checksum 6 = .ok (.getfield 14, 3) := by decide +kernel
theorem d_Mc_checksum_9 : decode b_Mc_checksum 9 = .ok (.getfield 94, 3) := by decide +kernel
theorem d_Mc_checksum_12 : decode b_Mc_checksum 12 = .ok (.invokevirtual 193, 3) := by decide +kernel
theorem d_Mc_checksum_15 : decode b_Mc_checksum 15 = .ok (.istore_n 1, 1) := by decide +kernel
theorem d_Mc_checksum_16 : decode b_Mc_checksum 16 = .ok (.aload_n 0, 1) := by decide +kernel
theorem d_Mc_checksum_17 : decode b_Mc_checksum 17 = .ok (.getfield 14, 3) := by decide +kernel
theorem d_Mc_checksum_20 : decode b_Mc_checksum 20 = .ok (.invokevirtual 144, 3) := by decide +kernel
theorem d_Mc_checksum_23 : decode b_Mc_checksum 23 = .ok (.iload_n 1, 1) := by decide +kernel
theorem d_Mc_checksum_24 : decode b_Mc_checksum 24 = .ok (.ireturn, 1) := by decide +kernel
theorem d_Mc_receive_0 : decode b_Mc_receive 0 = .ok (.aload_n 0, 1) := by decide +kernel
theorem d_Mc_receive_1 : decode b_Mc_receive 1 = .ok (.getfield 48, 3) := by decide +kernel
theorem d_Mc_receive_4 : decode b_Mc_receive 4 = .ok (.aload_n 0, 1) := by decide +kernel
theorem d_Mc_receive_5 : decode b_Mc_receive 5 = .ok (.getfield 14, 3) := by decide +kernel
theorem d_Mc_receive_8 : decode b_Mc_receive 8 = .ok (.invokevirtual 197, 3) := by decide +kernel
theorem d_Mc_receive_11 : decode b_Mc_receive 11 = .ok (.istore_n 1, 1) := by decide +kernel
theorem d_Mc_receive_12 : decode b_Mc_receive 12 = .ok (.aload_n 0, 1) := by decide +kernel
theorem d_Mc_receive_13 : decode b_Mc_receive 13 = .ok (.getfield 14, 3) := by decide +kernel
theorem d_Mc_receive_16 : decode b_Mc_receive 16 = .ok (.invokevirtual 144, 3) := by decide +kernel
theorem d_Mc_receive_19 : decode b_Mc_receive 19 = .ok (.iload_n 1, 1) := by decide +kernel
theorem d_Mc_receive_20 : decode b_Mc_receive 20 = .ok (.ireturn, 1) := by decide +kernel
theorem d_Mc_textOfTape_0 : decode b_Mc_textOfTape 0 = .ok (.iload_n 1, 1) := by decide +kernel
theorem d_Mc_textOfTape_1 : decode b_Mc_textOfTape 1 = .ok (.iconst 2, 1) := by decide +kernel
theorem d_Mc_textOfTape_2 : decode b_Mc_textOfTape 2 = .ok (.if_icmp .ne 8, 3) := by decide +kernel
theorem d_Mc_textOfTape_5 : decode b_Mc_textOfTape 5 = .ok (.aload_n 0, 1) := by decide +kernel
theorem d_Mc_textOfTape_6 : decode b_Mc_textOfTape 6 = .ok (.getfield 14, 3) := by decide +kernel
theorem d_Mc_textOfTape_9 : decode b_Mc_textOfTape 9 = .ok (.areturn, 1) := by decide +kernel
theorem d_Mc_textOfTape_10 : decode b_Mc_textOfTape 10 = .ok (.iload_n 1, 1) := by decide +kernel
theorem d_Mc_textOfTape_11 : decode b_Mc_textOfTape 11 = .ok (.iconst 1, 1) := by decide +kernel
theorem d_Mc_textOfTape_12 : decode b_Mc_textOfTape 12 = .ok (.if_icmp .ne 19, 3) := by decide +kernel
theorem d_Mc_textOfTape_15 : decode b_Mc_textOfTape 15 = .ok (.aload_n 0, 1) := by decide +kernel
theorem d_Mc_textOfTape_16 : decode b_Mc_textOfTape 16 = .ok (.getfield 14, 3) := by decide +kernel
theorem d_Mc_textOfTape_19 : decode b_Mc_textOfTape 19 = .ok (.aload_n 0, 1) := by decide +kernel
theorem d_Mc_textOfTape_20 : decode b_Mc_textOfTape 20 = .ok (.getfield 74, 3) := by decide +kernel
theorem d_Mc_textOfTape_23 : decode b_Mc_textOfTape 23 = .ok (.invokestatic 167, 3) := by decide +kernel
theorem d_Mc_textOfTape_26 : decode b_Mc_textOfTape 26 = .ok (.aload_n 0, 1) := by decide +kernel
theorem d_Mc_textOfTape_27 : decode b_Mc_textOfTape 27 = .ok (.getfield 74, 3) := by decide +kernel
theorem d_Mc_textOfTape_30 : decode b_Mc_textOfTape 30 = .ok (.areturn, 1) := by decide +kernel
theorem d_Mc_textOfTape_31 : decode b_Mc_textOfTape 31 = .ok (.aload_n 0, 1) := by decide +kernel
theorem d_Mc_textOfTape_32 : decode b_Mc_textOfTape 32 = .ok (.getfield 55, 3) := by decide +kernel
theorem d_Mc_textOfTape_35 : decode b_Mc_textOfTape 35 = .ok (.aload_n 0, 1) := by decide +kernel
theorem d_Mc_textOfTape_36 : decode b_Mc_textOfTape 36 = .ok (.getfield 14, 3) := by decide +kernel
theorem d_Mc_textOfTape_39 : decode b_Mc_textOfTape 39 = .ok (.iload_n 2, 1) := by decide +kernel
theorem d_Mc_textOfTape_40 : decode b_Mc_textOfTape 40 = .ok (.aload_n 0, 1) := by decide +kernel
theorem d_Mc_textOfTape_41 : decode b_Mc_textOfTape 41 = .ok (.getfield 70, 3) := by decide +kernel
theorem d_Mc_textOfTape_44 : decode b_Mc_textOfTape 44 = .ok (.invokevirtual 163, 3) := by decide +kernel
theorem d_Mc_textOfTape_47 : decode b_Mc_textOfTape 47 = .ok (.aload_n 0, 1) := by decide +kernel
theorem d_Mc_textOfTape_48 : decode b_Mc_textOfTape 48 = .ok (.getfield 70, 3) := by decide +kernel
theorem d_Mc_textOfTape_51 : decode b_Mc_textOfTape 51 = .ok (.aload_n 0, 1) := by decide +kernel
theorem d_Mc_textOfTape_52 : decode b_Mc_textOfTape 52 = .ok (.getfield 74, 3) := by decide +kernel
theorem d_Mc_textOfTape_55 : decode b_Mc_textOfTape 55 = .ok (.invokestatic 167, 3) := by decide +kernel
theorem d_Mc_textOfTape_58 : decode b_Mc_textOfTape 58 = .ok (.aload_n 0, 1) := by decide +kernel
theorem d_Mc_textOfTape_59 : decode b_Mc_textOfTape 59 = .ok (.getfield 74, 3) := by decide +kernel
theorem d_Mc_textOfTape_62 : decode b_Mc_textOfTape 62 = .ok (.areturn, 1) := by decide +kernel
theorem d_Mc_empty_0 : decode b_Mc_empty 0 = .ok (.aload_n 0, 1) := by decide +kernel
theorem d_Mc_empty_1 : decode b_Mc_empty 1 = .ok (.getfield 48, 3) := by decide +kernel
theorem d_Mc_empty_4 : decode b_Mc_empty 4 = .ok (.getfield 213, 3) := by decide +kernel
theorem d_Mc_empty_7 : decode b_Mc_empty 7 = .ok (.istore_n 1, 1) := by decide +kernel
theorem d_Mc_empty_8 : decode b_Mc_empty 8 = .ok (.aload_n 0, 1) := by decide +kernel
theorem d_Mc_empty_9 : decode b_Mc_empty 9 = .ok (.getfield 48, 3) := by decide +kernel
theorem d_Mc_empty_12 : decode b_Mc_empty 12 = .ok (.invokevirtual 205, 3) := by decide +kernel
theorem d_Mc_empty_15 : decode b_Mc_empty 15 = .ok (.iload_n 1, 1) := by decide +kernel
theorem d_Mc_empty_16 : decode b_Mc_empty 16 = .ok (.ireturn, 1) := by decide +kernel
theorem d_Mc_swapYours_0 : decode b_Mc_swapYours 0 = .ok (.aload_n 0, 1) := by decide +kernel
theorem d_Mc_swapYours_1 : decode b_Mc_swapYours 1 = .ok (.getfield 25, 3) := by decide +kernel
theorem d_Mc_swapYours_4 : decode b_Mc_swapYours 4 = .ok (.astore_n 1, 1) := by decide +kernel
theorem d_Mc_swapYours_5 : decode b_Mc_swapYours 5 = .ok (.aload_n 0, 1) := by decide +kernel
theorem d_Mc_swapYours_6 : decode b_Mc_swapYours 6 = .ok (.aload_n 0, 1) := by decide +kernel
theorem d_Mc_swapYours_7 : decode b_Mc_swapYours 7 = .ok (.getfield 28, 3) := by decide +kernel
theorem d_Mc_swapYours_10 : decode b_Mc_swapYours 10 = .ok (.putfield 25, 3) := by decide +kernel
theorem d_Mc_swapYours_13 : decode b_Mc_swapYours 13 = .ok (.aload_n 0, 1) := by decide +kernel
theorem d_Mc_swapYours_14 : decode b_Mc_swapYours 14 = .ok (.aload_n 1, 1) := by decide +kernel
theorem d_Mc_swapYours_15 : decode b_Mc_swapYours 15 = .ok (.putfield 28, 3) := by decide +kernel
theorem d_Mc_swapYours_18 : decode b_Mc_swapYours 18 = .ok (.return_, 1) := by decide +kernel
set_option maxRecDepth 100000 in
set_option maxHeartbeats 4000000 in
theorem Met_Sp_writeLine (l : Launch) (B : Nat) (D : va_G) (aC : Nat → ClassId) (aS : Nat → Nat) {a0 : Nat} {i1 : Int32} {i2 : Int32} {a3 : Nat} {M : zM} {post : zM → Prop} (hk0 : a0 < N0) (ht0 : tg a0 = 1) (hk3 : a3 < N0) (ht3 : tg a3 = 1) (h : Wp_Sp_writeLine a0 i1 i2 a3 M post) : Met l y_Sp_writeLine (wo y_Sp_writeLine b_Sp_writeLine 7 none) { frames := 1, cells := 0, slots := 0, locals := 32 } (va_Pc [.ref (B + a0), .int i1, .int i2, .ref (B + a3)] (zWl B D aC aS M)) (zQv B D aC post) 0 0 (zAb B) := by
  refine z_met (own := "MailChain$Spelling") (lv0 := [(0, .ref (B + a0)), (1, .int i1), (2, .int i2), (3, .ref (B + a3))]) (by decide) rfl (Nat.le_of_ble_eq_true rfl) rfl ?_
  intro p e s m below meth c fx hr hlo
  delta Wp_Sp_writeLine at h
  have h := h (fun v4 M => zAt p l e { frames := 1, cells := 0, slots := 0, locals := 32 } s m ([.ref (B + a0), .int i1, .int i2, .ref (B + a3)] : List Value).toArray below meth c 0 0 (MQ below (zQv B D aC post) ([.ref (B + a0), .int i1, .int i2, .ref (B + a3)] : List Value).toArray s 0 0 (zAb B)) B D aC 7 11 [(0, .ref (B + a0)), (1, .int i1), (2, .int i2), (3, .ref (B + a3)), (4, .int v4)] [] M)
  have h := h (fun v4 v5 v6 M => zAt p l e { frames := 1, cells := 0, slots := 0, locals := 32 } s m ([.ref (B + a0), .int i1, .int i2, .ref (B + a3)] : List Value).toArray below meth c 0 0 (MQ below (zQv B D aC post) ([.ref (B + a0), .int i1, .int i2, .ref (B + a3)] : List Value).toArray s 0 0 (zAb B)) B D aC 7 67 [(0, .ref (B + a0)), (1, .int i1), (2, .int i2), (3, .ref (B + a3)), (4, .int v4), (5, .int v5), (6, .int v6)] [] M)
  have h := h (by
    intro v4 M h
    refine a_iload fx 4 d_Sp_writeLine_11 rfl ?_
    refine a_iload_n fx 1 d_Sp_writeLine_13 rfl rfl ?_
    refine a_iload_n fx 2 d_Sp_writeLine_14 rfl rfl ?_
    refine a_iadd fx d_Sp_writeLine_15 ?_
    refine a_icmp_ge fx 99 d_Sp_writeLine_16 rfl (fun hc => ?_) (fun hc => ?_)
    · have h := h.1 hc
      refine a_aload_n fx 3 d_Sp_writeLine_99 rfl rfl ?_
      refine a_bipush (v := 10) fx d_Sp_writeLine_100 rfl ?_
      refine a_callv (rest := []) (a_runV (As := [.int 10]) fx cv_Ro_put w_511 (Met_Ro_put l B D aC aS (hk0 := hk3) (ht0 := ht3) h) hk3 ht3 (by decide) rfl rfl rfl (Nat.le_of_ble_eq_true rfl) rfl rfl ⟨Nat.le_of_ble_eq_true rfl, Nat.le_of_ble_eq_true rfl⟩ d_Sp_writeLine_102 ⟨Nat.le_of_ble_eq_true rfl, Nat.le_of_ble_eq_true rfl⟩) (fun M4 h => ?_)
      exact a_vret fx hlo hr h d_Sp_writeLine_105
    · have h := h.2 hc
      refine a_aload_n fx 0 d_Sp_writeLine_19 rfl rfl ?_
      refine a_iload fx 4 d_Sp_writeLine_20 rfl ?_
      refine a_calli (rest := []) (a_runV (As := [.int v4]) fx cv_Ro_at w_504 (Met_Ro_at l B D aC aS (hk0 := hk0) (ht0 := ht0) h) hk0 ht0 (by decide) rfl rfl rfl (Nat.le_of_ble_eq_true rfl) rfl rfl ⟨Nat.le_of_ble_eq_true rfl, Nat.le_of_ble_eq_true rfl⟩ d_Sp_writeLine_22 ⟨Nat.le_of_ble_eq_true rfl, Nat.le_of_ble_eq_true rfl⟩) (fun x6 M5 h => ?_)
      refine a_iconst (v := 0) fx d_Sp_writeLine_25 rfl ?_
      refine a_mmax fx w_532 w_533 w_28 w_534 (Nat.le_of_ble_eq_true rfl) (Nat.le_of_ble_eq_true rfl) (Nat.le_of_ble_eq_true rfl) (Nat.le_of_ble_eq_true rfl) d_Sp_writeLine_26 ?_
      refine a_bipush (v := 16) fx d_Sp_writeLine_29 rfl ?_
      refine a_ishl fx d_Sp_writeLine_31 ?_
      refine a_aload_n fx 0 d_Sp_writeLine_32 rfl rfl ?_
      refine a_iload fx 4 d_Sp_writeLine_33 rfl ?_
      refine a_iconst (v := 1) fx d_Sp_writeLine_35 rfl ?_
      refine a_iadd fx d_Sp_writeLine_36 ?_
      refine a_calli (rest := [.int ((if x6 < 0 then 0 else x6) <<< (16 &&& 31))]) (a_runV (As := [.int (v4 + 1)]) fx cv_Ro_at w_504 (Met_Ro_at l B D aC aS (hk0 := hk0) (ht0 := ht0) h) hk0 ht0 (by decide) rfl rfl rfl (Nat.le_of_ble_eq_true rfl) rfl rfl ⟨Nat.le_of_ble_eq_true rfl, Nat.le_of_ble_eq_true rfl⟩ d_Sp_writeLine_37 ⟨Nat.le_of_ble_eq_true rfl, Nat.le_of_ble_eq_true rfl⟩) (fun x8 M7 h => ?_)
      refine a_iconst (v := 0) fx d_Sp_writeLine_40 rfl ?_
      refine a_mmax fx w_532 w_533 w_28 w_534 (Nat.le_of_ble_eq_true rfl) (Nat.le_of_ble_eq_true rfl) (Nat.le_of_ble_eq_true rfl) (Nat.le_of_ble_eq_true rfl) d_Sp_writeLine_41 ?_
      refine a_bipush (v := 8) fx d_Sp_writeLine_44 rfl ?_
      refine a_ishl fx d_Sp_writeLine_46 ?_
      refine a_ior fx d_Sp_writeLine_47 ?_
      refine a_aload_n fx 0 d_Sp_writeLine_48 rfl rfl ?_
      refine a_iload fx 4 d_Sp_writeLine_49 rfl ?_
      refine a_iconst (v := 2) fx d_Sp_writeLine_51 rfl ?_
      refine a_iadd fx d_Sp_writeLine_52 ?_
      refine a_calli (rest := [.int (((if x6 < 0 then 0 else x6) <<< (16 &&& 31)) ||| ((if x8 < 0 then 0 else x8) <<< (8 &&& 31)))]) (a_runV (As := [.int (v4 + 2)]) fx cv_Ro_at w_504 (Met_Ro_at l B D aC aS (hk0 := hk0) (ht0 := ht0) h) hk0 ht0 (by decide) rfl rfl rfl (Nat.le_of_ble_eq_true rfl) rfl rfl ⟨Nat.le_of_ble_eq_true rfl, Nat.le_of_ble_eq_true rfl⟩ d_Sp_writeLine_53 ⟨Nat.le_of_ble_eq_true rfl, Nat.le_of_ble_eq_true rfl⟩) (fun x10 M9 h => ?_)
      refine a_iconst (v := 0) fx d_Sp_writeLine_56 rfl ?_
      refine a_mmax fx w_532 w_533 w_28 w_534 (Nat.le_of_ble_eq_true rfl) (Nat.le_of_ble_eq_true rfl) (Nat.le_of_ble_eq_true rfl) (Nat.le_of_ble_eq_true rfl) d_Sp_writeLine_57 ?_
      refine a_ior fx d_Sp_writeLine_60 ?_
      refine a_topi (fun x11 ex11 => ?_)
      have h := h x11 ex11
      refine a_istore (lv2 := [(5, .int x11), (0, .ref (B + a0)), (1, .int i1), (2, .int i2), (3, .ref (B + a3)), (4, .int v4)]) fx d_Sp_writeLine_61 (by decide) rfl ?_
      refine a_bipush (v := 18) fx d_Sp_writeLine_63 rfl ?_
      refine a_istore (lv2 := [(6, .int 18), (5, .int x11), (0, .ref (B + a0)), (1, .int i1), (2, .int i2), (3, .ref (B + a3)), (4, .int v4)]) fx d_Sp_writeLine_65 (by decide) rfl ?_
      refine a_sub [2, 3, 4, 5, 6, 1, 0] rfl ?_
      exact h)
  have h := h (by
    intro v4 v5 v6 M h
    refine a_iload fx 6 d_Sp_writeLine_67 rfl ?_
    refine a_if_lt fx 93 d_Sp_writeLine_69 rfl (fun hc => ?_) (fun hc => ?_)
    · have h := h.1 hc
      obtain ⟨x12, ex12⟩ : ∃ z : Int32, z = v4 + 3 := ⟨_, rfl⟩
      have h := h x12 ex12
      refine a_iinc (lv2 := [(4, .int x12), (0, .ref (B + a0)), (1, .int i1), (2, .int i2), (3, .ref (B + a3)), (5, .int v5), (6, .int v6)]) fx 4 d_Sp_writeLine_93 rfl ex12.symm (by decide) rfl ?_
      refine a_goto fx 11 d_Sp_writeLine_96 rfl ?_
      refine a_sub [1, 2, 3, 4, 0] rfl ?_
      exact h
    · have h := h.2 hc
      refine a_aload_n fx 3 d_Sp_writeLine_72 rfl rfl ?_
      refine a_iload fx 5 d_Sp_writeLine_73 rfl ?_
      refine a_iload fx 6 d_Sp_writeLine_75 rfl ?_
      refine a_ishr fx d_Sp_writeLine_77 ?_
      refine a_bipush (v := 63) fx d_Sp_writeLine_78 rfl ?_
      refine a_iand fx d_Sp_writeLine_80 ?_
      refine a_calli (rest := [.ref (B + a3)]) (a_runS (As := [.int ((v5 >>> (v6 &&& 31)) &&& 63)]) fx  cv_Sp_letter w_529 (Met_Sp_letter l B D aC aS  h) rfl rfl (Nat.le_of_ble_eq_true rfl) rfl rfl ⟨Nat.le_of_ble_eq_true rfl, Nat.le_of_ble_eq_true rfl⟩ d_Sp_writeLine_81 ⟨Nat.le_of_ble_eq_true rfl, Nat.le_of_ble_eq_true rfl⟩) (fun x14 M13 h => ?_)
      refine a_callv (rest := []) (a_runV (As := [.int x14]) fx cv_Ro_put w_511 (Met_Ro_put l B D aC aS (hk0 := hk3) (ht0 := ht3) h) hk3 ht3 (by decide) rfl rfl rfl (Nat.le_of_ble_eq_true rfl) rfl rfl ⟨Nat.le_of_ble_eq_true rfl, Nat.le_of_ble_eq_true rfl⟩ d_Sp_writeLine_84 ⟨Nat.le_of_ble_eq_true rfl, Nat.le_of_ble_eq_true rfl⟩) (fun M15 h => ?_)
      obtain ⟨x16, ex16⟩ : ∃ z : Int32, z = v6 + (-6) := ⟨_, rfl⟩
      have h := h x16 ex16
      refine a_iinc (lv2 := [(6, .int x16), (0, .ref (B + a0)), (1, .int i1), (2, .int i2), (3, .ref (B + a3)), (4, .int v4), (5, .int v5)]) fx 6 d_Sp_writeLine_87 rfl ex16.symm (by decide) rfl ?_
      refine a_goto fx 67 d_Sp_writeLine_90 rfl ?_
      refine a_sub [1, 2, 3, 4, 5, 6, 0] rfl ?_
      exact h)
  refine a_aload_n fx 3 d_Sp_writeLine_0 rfl rfl ?_
  refine a_iload_n fx 2 d_Sp_writeLine_1 rfl rfl ?_
  refine a_calli (rest := [.ref (B + a3)]) (a_runS (As := [.int i2]) fx  cv_Sp_letter w_529 (Met_Sp_letter l B D aC aS  h) rfl rfl (Nat.le_of_ble_eq_true rfl) rfl rfl ⟨Nat.le_of_ble_eq_true rfl, Nat.le_of_ble_eq_true rfl⟩ d_Sp_writeLine_2 ⟨Nat.le_of_ble_eq_true rfl, Nat.le_of_ble_eq_true rfl⟩) (fun x2 M1 h => ?_)
  refine a_callv (rest := []) (a_runV (As := [.int x2]) fx cv_Ro_put w_511 (Met_Ro_put l B D aC aS (hk0 := hk3) (ht0 := ht3) h) hk3 ht3 (by decide) rfl rfl rfl (Nat.le_of_ble_eq_true rfl) rfl rfl ⟨Nat.le_of_ble_eq_true rfl, Nat.le_of_ble_eq_true rfl⟩ d_Sp_writeLine_5 ⟨Nat.le_of_ble_eq_true rfl, Nat.le_of_ble_eq_true rfl⟩) (fun M3 h => ?_)
  refine a_iload_n fx 1 d_Sp_writeLine_8 rfl rfl ?_
  refine a_istore (lv2 := [(4, .int i1), (0, .ref (B + a0)), (1, .int i1), (2, .int i2), (3, .ref (B + a3))]) fx d_Sp_writeLine_9 (by decide) rfl ?_
  refine a_sub [1, 2, 3, 4, 0] rfl ?_
  exact h
set_option maxRecDepth 100000 in
set_option maxHeartbeats 4000000 in
theorem Met_Sp_write (l : Launch) (B : Nat) (D : va_G) (aC : Nat → ClassId) (aS : Nat → Nat) {a0 : Nat} {a1 : Nat} {M : zM} {post : zM → Prop} (hk0 : a0 < N0) (ht0 : tg a0 = 1) (hk1 : a1 < N0) (ht1 : tg a1 = 1) (h : Wp_Sp_write a0 a1 M post) : Met l y_Sp_write (wo y_Sp_write b_Sp_write 3 none) { frames := 5, cells := 0, slots := 0, locals := 107 } (va_Pc [.ref (B + a0), .ref (B + a1)] (zWl B D aC aS M)) (zQv B D aC post) 0 0 (zAb B) := by
  refine z_met (own := "MailChain$Spelling") (lv0 := [(0, .ref (B + a0)), (1, .ref (B + a1))]) (by decide) rfl (Nat.le_of_ble_eq_true rfl) rfl ?_
  intro p e s m below meth c fx hr hlo
  delta Wp_Sp_write at h
  have h := h (fun v2 M => zAt p l e { frames := 5, cells := 0, slots := 0, locals := 107 } s m ([.ref (B + a0), .ref (B + a1)] : List Value).toArray below meth c 0 0 (MQ below (zQv B D aC post) ([.ref (B + a0), .ref (B + a1)] : List Value).toArray s 0 0 (zAb B)) B D aC 3 12 [(0, .ref (B + a0)), (1, .ref (B + a1)), (2, .int v2)] [] M)
  have h := h (by
    intro v2 M h
    refine a_iload_n fx 2 d_Sp_write_12 rfl rfl ?_
    refine a_aload_n fx 0 d_Sp_write_13 rfl rfl ?_
    refine a_getIN fx (T := F_Ro) (j := 1) (hk := hk0) (ht := ht0) (ht2 := by decide) (hc := rfl) (hin := u_in_Ro) (hj := by decide) (hj2 := by decide) (hf := rfl) (hT := rfl) (q9 := 1) (hw := rfl) (hd := d_Sp_write_14) (kk := ?_)
    refine a_icmp_ge fx 43 d_Sp_write_17 rfl (fun hc => ?_) (fun hc => ?_)
    · have h := h.1 hc
      refine a_aload_n fx 0 d_Sp_write_43 rfl rfl ?_
      refine a_aload_n fx 0 d_Sp_write_44 rfl rfl ?_
      refine a_getIN fx (T := F_Ro) (j := 1) (hk := hk0) (ht := ht0) (ht2 := by decide) (hc := rfl) (hin := u_in_Ro) (hj := by decide) (hj2 := by decide) (hf := rfl) (hT := rfl) (q9 := 1) (hw := rfl) (hd := d_Sp_write_45) (kk := ?_)
      refine a_iconst (v := 0) fx d_Sp_write_48 rfl ?_
      refine a_aload_n fx 1 d_Sp_write_49 rfl rfl ?_
      refine a_callv (rest := []) (a_runS (As := [.ref (B + a0), .int (M.1 a0 1), .int 0, .ref (B + a1)]) fx  cv_Sp_writeLine w_526 (Met_Sp_writeLine l B D aC aS (hk0 := hk0) (ht0 := ht0) (hk3 := hk1) (ht3 := ht1) h) rfl rfl (Nat.le_of_ble_eq_true rfl) rfl rfl ⟨Nat.le_of_ble_eq_true rfl, Nat.le_of_ble_eq_true rfl⟩ d_Sp_write_50 ⟨Nat.le_of_ble_eq_true rfl, Nat.le_of_ble_eq_true rfl⟩) (fun M3 h => ?_)
      refine a_aload_n fx 1 d_Sp_write_53 rfl rfl ?_
      refine a_ldcS fx 5 (by decide) rfl rfl (q := 5) rfl d_Sp_write_54 ?_
      refine a_callv (rest := []) (a_runV (As := [.ref (aS 5)]) fx cv_Ro_putText w_518 (Met_Ro_putText l B D aC aS (hk0 := hk1) (ht0 := ht1) (hs1 := (by decide)) h) hk1 ht1 (by decide) rfl rfl rfl (Nat.le_of_ble_eq_true rfl) rfl rfl ⟨Nat.le_of_ble_eq_true rfl, Nat.le_of_ble_eq_true rfl⟩ d_Sp_write_56 ⟨Nat.le_of_ble_eq_true rfl, Nat.le_of_ble_eq_true rfl⟩) (fun M4 h => ?_)
      exact a_vret fx hlo hr h d_Sp_write_59
    · have h := h.2 hc
      refine a_aload_n fx 0 d_Sp_write_20 rfl rfl ?_
      refine a_iload_n fx 2 d_Sp_write_21 rfl rfl ?_
      refine a_bipush (v := 45) fx d_Sp_write_22 rfl ?_
      refine a_aload_n fx 0 d_Sp_write_24 rfl rfl ?_
      refine a_getIN fx (T := F_Ro) (j := 1) (hk := hk0) (ht := ht0) (ht2 := by decide) (hc := rfl) (hin := u_in_Ro) (hj := by decide) (hj2 := by decide) (hf := rfl) (hT := rfl) (q9 := 1) (hw := rfl) (hd := d_Sp_write_25) (kk := ?_)
      refine a_iload_n fx 2 d_Sp_write_28 rfl rfl ?_
      refine a_isub fx d_Sp_write_29 ?_
      refine a_mmin fx w_523 w_524 w_28 w_525 (Nat.le_of_ble_eq_true rfl) (Nat.le_of_ble_eq_true rfl) (Nat.le_of_ble_eq_true rfl) (Nat.le_of_ble_eq_true rfl) d_Sp_write_30 ?_
      refine a_aload_n fx 1 d_Sp_write_33 rfl rfl ?_
      refine a_callv (rest := []) (a_runS (As := [.ref (B + a0), .int v2, .int (if ((M.1 a0 1) - v2) < 45 then ((M.1 a0 1) - v2) else 45), .ref (B + a1)]) fx  cv_Sp_writeLine w_526 (Met_Sp_writeLine l B D aC aS (hk0 := hk0) (ht0 := ht0) (hk3 := hk1) (ht3 := ht1) h) rfl rfl (Nat.le_of_ble_eq_true rfl) rfl rfl ⟨Nat.le_of_ble_eq_true rfl, Nat.le_of_ble_eq_true rfl⟩ d_Sp_write_34 ⟨Nat.le_of_ble_eq_true rfl, Nat.le_of_ble_eq_true rfl⟩) (fun M5 h => ?_)
      obtain ⟨x6, ex6⟩ : ∃ z : Int32, z = v2 + 45 := ⟨_, rfl⟩
      have h := h x6 ex6
      refine a_iinc (lv2 := [(2, .int x6), (0, .ref (B + a0)), (1, .ref (B + a1))]) fx 2 d_Sp_write_37 rfl ex6.symm (by decide) rfl ?_
      refine a_goto fx 12 d_Sp_write_40 rfl ?_
      refine a_sub [1, 2, 0] rfl ?_
      exact h)
  refine a_aload_n fx 1 d_Sp_write_0 rfl rfl ?_
  refine a_callv (rest := []) (a_runV (As := []) fx cv_Ro_wipe w_501 (Met_Ro_wipe l B D aC aS (hk0 := hk1) (ht0 := ht1) h) hk1 ht1 (by decide) rfl rfl rfl (Nat.le_of_ble_eq_true rfl) rfl rfl ⟨Nat.le_of_ble_eq_true rfl, Nat.le_of_ble_eq_true rfl⟩ d_Sp_write_1 ⟨Nat.le_of_ble_eq_true rfl, Nat.le_of_ble_eq_true rfl⟩) (fun M1 h => ?_)
  refine a_aload_n fx 1 d_Sp_write_4 rfl rfl ?_
  refine a_ldcS fx 4 (by decide) rfl rfl (q := 4) rfl d_Sp_write_5 ?_
  refine a_callv (rest := []) (a_runV (As := [.ref (aS 4)]) fx cv_Ro_putText w_518 (Met_Ro_putText l B D aC aS (hk0 := hk1) (ht0 := ht1) (hs1 := (by decide)) h) hk1 ht1 (by decide) rfl rfl rfl (Nat.le_of_ble_eq_true rfl) rfl rfl ⟨Nat.le_of_ble_eq_true rfl, Nat.le_of_ble_eq_true rfl⟩ d_Sp_write_7 ⟨Nat.le_of_ble_eq_true rfl, Nat.le_of_ble_eq_true rfl⟩) (fun M2 h => ?_)
  refine a_iconst (v := 0) fx d_Sp_write_10 rfl ?_
  refine a_istore_n (lv2 := [(2, .int 0), (0, .ref (B + a0)), (1, .ref (B + a1))]) fx d_Sp_write_11 rfl (by decide) rfl ?_
  refine a_sub [1, 2, 0] rfl ?_
  exact h
set_option maxRecDepth 100000 in
set_option maxHeartbeats 4000000 in
theorem Met_Sp_sixOf (l : Launch) (B : Nat) (D : va_G) (aC : Nat → ClassId) (aS : Nat → Nat) {i0 : Int32} {M : zM} {post : Int32 → zM → Prop}  (h : Wp_Sp_sixOf i0 M post) : Met l y_Sp_sixOf (wo y_Sp_sixOf b_Sp_sixOf 1 (some FieldType.int)) { frames := 0, cells := 0, slots := 0, locals := 0 } (va_Pc [.int i0] (zWl B D aC aS M)) (zQi B D aC post) 0 0 (zAb B) := by
  refine z_met (own := "MailChain$Spelling") (lv0 := [(0, .int i0)]) (by decide) rfl (Nat.le_of_ble_eq_true rfl) rfl ?_
  intro p e s m below meth c fx hr hlo
  delta Wp_Sp_sixOf at h
  refine a_iload_n fx 0 d_Sp_sixOf_0 rfl rfl ?_
  refine a_bipush (v := 32) fx d_Sp_sixOf_1 rfl ?_
  refine a_isub fx d_Sp_sixOf_3 ?_
  refine a_bipush (v := 63) fx d_Sp_sixOf_4 rfl ?_
  refine a_iand fx d_Sp_sixOf_6 ?_
  exact a_iret fx hlo hr h d_Sp_sixOf_7
set_option maxRecDepth 100000 in
set_option maxHeartbeats 4000000 in
theorem Met_Sp_readLine (l : Launch) (B : Nat) (D : va_G) (aC : Nat → ClassId) (aS : Nat → Nat) {a0 : Nat} {i1 : Int32} {i2 : Int32} {a3 : Nat} {M : zM} {post : zM → Prop} (hk0 : a0 < N0) (ht0 : tg a0 = 1) (hk3 : a3 < N0) (ht3 : tg a3 = 1) (h : Wp_Sp_readLine a0 i1 i2 a3 M post) : Met l y_Sp_readLine (wo y_Sp_readLine b_Sp_readLine 7 none) { frames := 1, cells := 0, slots := 0, locals := 21 } (va_Pc [.ref (B + a0), .int i1, .int i2, .ref (B + a3)] (zWl B D aC aS M)) (zQv B D aC post) 0 0 (zAb B) := by
  refine z_met (own := "MailChain$Spelling") (lv0 := [(0, .ref (B + a0)), (1, .int i1), (2, .int i2), (3, .ref (B + a3))]) (by decide) rfl (Nat.le_of_ble_eq_true rfl) rfl ?_
  intro p e s m below meth c fx hr hlo
  delta Wp_Sp_readLine at h
  have h := h (fun v4 M => zAt p l e { frames := 1, cells := 0, slots := 0, locals := 21 } s m ([.ref (B + a0), .int i1, .int i2, .ref (B + a3)] : List Value).toArray below meth c 0 0 (MQ below (zQv B D aC post) ([.ref (B + a0), .int i1, .int i2, .ref (B + a3)] : List Value).toArray s 0 0 (zAb B)) B D aC 7 3 [(0, .ref (B + a0)), (1, .int i1), (2, .int i2), (3, .ref (B + a3)), (4, .int v4)] [] M)
  have h := h (by
    intro v4 M h
    refine a_iload fx 4 d_Sp_readLine_3 rfl ?_
    refine a_iload_n fx 2 d_Sp_readLine_5 rfl rfl ?_
    refine a_icmp_ge fx 71 d_Sp_readLine_6 rfl (fun hc => ?_) (fun hc => ?_)
    · have h := h.1 hc
      exact a_vret fx hlo hr h d_Sp_readLine_71
    · have h := h.2 hc
      refine a_iload_n fx 1 d_Sp_readLine_9 rfl rfl ?_
      refine a_iload fx 4 d_Sp_readLine_10 rfl ?_
      refine a_iconst (v := 3) fx d_Sp_readLine_12 rfl ?_
      refine a_idiv fx d_Sp_readLine_13 (by decide) ?_
      refine a_iconst (v := 4) fx d_Sp_readLine_14 rfl ?_
      refine a_imul fx d_Sp_readLine_15 ?_
      refine a_iadd fx d_Sp_readLine_16 ?_
      refine a_iload fx 4 d_Sp_readLine_17 rfl ?_
      refine a_iconst (v := 3) fx d_Sp_readLine_19 rfl ?_
      refine a_irem fx d_Sp_readLine_20 (by decide) ?_
      refine a_iadd fx d_Sp_readLine_21 ?_
      refine a_topi (fun x1 ex1 => ?_)
      have h := h x1 ex1
      refine a_istore (lv2 := [(5, .int x1), (0, .ref (B + a0)), (1, .int i1), (2, .int i2), (3, .ref (B + a3)), (4, .int v4)]) fx d_Sp_readLine_22 (by decide) rfl ?_
      refine a_aload_n fx 1 d_Sp_readLine_24 rfl rfl ?_
      refine a_iload fx 0 d_Sp_readLine_25 rfl ?_
      refine a_calli (rest := []) (a_runV (As := [.int x1]) fx cv_Ro_at w_504 (Met_Ro_at l B D aC aS (hk0 := hk0) (ht0 := ht0) h) hk0 ht0 (by decide) rfl rfl rfl (Nat.le_of_ble_eq_true rfl) rfl rfl ⟨Nat.le_of_ble_eq_true rfl, Nat.le_of_ble_eq_true rfl⟩ d_Sp_readLine_27 ⟨Nat.le_of_ble_eq_true rfl, Nat.le_of_ble_eq_true rfl⟩) (fun x3 M2 h => ?_)
      refine a_calli (rest := []) (a_runS (As := [.int x3]) fx  cv_Sp_sixOf w_505 (Met_Sp_sixOf l B D aC aS  h) rfl rfl (Nat.le_of_ble_eq_true rfl) rfl rfl ⟨Nat.le_of_ble_eq_true rfl, Nat.le_of_ble_eq_true rfl⟩ d_Sp_readLine_30 ⟨Nat.le_of_ble_eq_true rfl, Nat.le_of_ble_eq_true rfl⟩) (fun x5 M4 h => ?_)
      refine a_bipush (v := 6) fx d_Sp_readLine_33 rfl ?_
      refine a_ishl fx d_Sp_readLine_35 ?_
      refine a_aload_n fx 1 d_Sp_readLine_36 rfl rfl ?_
      refine a_iload fx 0 d_Sp_readLine_37 rfl ?_
      refine a_iconst (v := 1) fx d_Sp_readLine_39 rfl ?_
      refine a_iadd fx d_Sp_readLine_40 ?_
      refine a_calli (rest := [.int (x5 <<< (6 &&& 31))]) (a_runV (As := [.int (x1 + 1)]) fx cv_Ro_at w_504 (Met_Ro_at l B D aC aS (hk0 := hk0) (ht0 := ht0) h) hk0 ht0 (by decide) rfl rfl rfl (Nat.le_of_ble_eq_true rfl) rfl rfl ⟨Nat.le_of_ble_eq_true rfl, Nat.le_of_ble_eq_true rfl⟩ d_Sp_readLine_41 ⟨Nat.le_of_ble_eq_true rfl, Nat.le_of_ble_eq_true rfl⟩) (fun x7 M6 h => ?_)
      refine a_calli (rest := [.int (x5 <<< (6 &&& 31))]) (a_runS (As := [.int x7]) fx  cv_Sp_sixOf w_505 (Met_Sp_sixOf l B D aC aS  h) rfl rfl (Nat.le_of_ble_eq_true rfl) rfl rfl ⟨Nat.le_of_ble_eq_true rfl, Nat.le_of_ble_eq_true rfl⟩ d_Sp_readLine_44 ⟨Nat.le_of_ble_eq_true rfl, Nat.le_of_ble_eq_true rfl⟩) (fun x9 M8 h => ?_)
      refine a_ior fx d_Sp_readLine_47 ?_
      refine a_topi (fun x10 ex10 => ?_)
      have h := h x10 ex10
      refine a_istore (lv2 := [(6, .int x10), (5, .int x1), (0, .ref (B + a0)), (1, .int i1), (2, .int i2), (3, .ref (B + a3)), (4, .int v4)]) fx d_Sp_readLine_48 (by decide) rfl ?_
      refine a_aload_n fx 5 d_Sp_readLine_50 rfl rfl ?_
      refine a_iload fx 0 d_Sp_readLine_51 rfl ?_
      refine a_iconst (v := 4) fx d_Sp_readLine_53 rfl ?_
      refine a_iconst (v := 2) fx d_Sp_readLine_54 rfl ?_
      refine a_iload fx 6 d_Sp_readLine_55 rfl ?_
      refine a_iconst (v := 3) fx d_Sp_readLine_57 rfl ?_
      refine a_irem fx d_Sp_readLine_58 (by decide) ?_
      refine a_imul fx d_Sp_readLine_59 ?_
      refine a_isub fx d_Sp_readLine_60 ?_
      refine a_ishr fx d_Sp_readLine_61 ?_
      refine a_callv (rest := []) (a_runV (As := [.int (x10 >>> ((4 - (2 * (v4 - v4 / 3 * 3))) &&& 31))]) fx cv_Ro_put w_511 (Met_Ro_put l B D aC aS (hk0 := hk3) (ht0 := ht3) h) hk3 ht3 (by decide) rfl rfl rfl (Nat.le_of_ble_eq_true rfl) rfl rfl ⟨Nat.le_of_ble_eq_true rfl, Nat.le_of_ble_eq_true rfl⟩ d_Sp_readLine_62 ⟨Nat.le_of_ble_eq_true rfl, Nat.le_of_ble_eq_true rfl⟩) (fun M11 h => ?_)
      obtain ⟨x12, ex12⟩ : ∃ z : Int32, z = v4 + 1 := ⟨_, rfl⟩
      have h := h x12 ex12
      refine a_iinc (lv2 := [(4, .int x12), (6, .int x10), (5, .int x1), (0, .ref (B + a0)), (1, .int i1), (2, .int i2), (3, .ref (B + a3))]) fx 6 d_Sp_readLine_65 rfl ex12.symm (by decide) rfl ?_
      refine a_goto fx 3 d_Sp_readLine_68 rfl ?_
      refine a_sub [3, 4, 5, 6, 0] rfl ?_
      exact h)
  refine a_iconst (v := 0) fx d_Sp_readLine_0 rfl ?_
  refine a_istore (lv2 := [(4, .int 0), (0, .ref (B + a0)), (1, .int i1), (2, .int i2), (3, .ref (B + a3))]) fx d_Sp_readLine_1 (by decide) rfl ?_
  refine a_sub [1, 2, 3, 4, 0] rfl ?_
  exact h
set_option maxRecDepth 100000 in
set_option maxHeartbeats 4000000 in
theorem Met_Sp_read (l : Launch) (B : Nat) (D : va_G) (aC : Nat → ClassId) (aS : Nat → Nat) {a0 : Nat} {a1 : Nat} {M : zM} {post : zM → Prop} (hk0 : a0 < N0) (ht0 : tg a0 = 1) (hk1 : a1 < N0) (ht1 : tg a1 = 1) (h : Wp_Sp_read a0 a1 M post) : Met l y_Sp_read (wo y_Sp_read b_Sp_read 4 none) { frames := 2, cells := 0, slots := 0, locals := 47 } (va_Pc [.ref (B + a0), .ref (B + a1)] (zWl B D aC aS M)) (zQv B D aC post) 0 0 (zAb B) := by
  refine z_met (own := "MailChain$Spelling") (lv0 := [(0, .ref (B + a0)), (1, .ref (B + a1))]) (by decide) rfl (Nat.le_of_ble_eq_true rfl) rfl ?_
  intro p e s m below meth c fx hr hlo
  delta Wp_Sp_read at h
  have h := h (fun v2 M => zAt p l e { frames := 2, cells := 0, slots := 0, locals := 47 } s m ([.ref (B + a0), .ref (B + a1)] : List Value).toArray below meth c 0 0 (MQ below (zQv B D aC post) ([.ref (B + a0), .ref (B + a1)] : List Value).toArray s 0 0 (zAb B)) B D aC 4 10 [(0, .ref (B + a0)), (1, .ref (B + a1)), (2, .int v2)] [] M)
  have h := h (by
    intro v2 M h
    refine a_iload_n fx 2 d_Sp_read_10 rfl rfl ?_
    refine a_aload_n fx 0 d_Sp_read_11 rfl rfl ?_
    refine a_getIN fx (T := F_Ro) (j := 1) (hk := hk0) (ht := ht0) (ht2 := by decide) (hc := rfl) (hin := u_in_Ro) (hj := by decide) (hj2 := by decide) (hf := rfl) (hT := rfl) (q9 := 1) (hw := rfl) (hd := d_Sp_read_12) (kk := ?_)
    refine a_icmp_ge fx 57 d_Sp_read_15 rfl (fun hc => ?_) (fun hc => ?_)
    · have h := h.1 hc
      exact a_vret fx hlo hr h d_Sp_read_57
    · have h := h.2 hc
      refine a_aload_n fx 0 d_Sp_read_18 rfl rfl ?_
      refine a_iload_n fx 2 d_Sp_read_19 rfl rfl ?_
      refine a_calli (rest := []) (a_runV (As := [.int v2]) fx cv_Ro_at w_504 (Met_Ro_at l B D aC aS (hk0 := hk0) (ht0 := ht0) h) hk0 ht0 (by decide) rfl rfl rfl (Nat.le_of_ble_eq_true rfl) rfl rfl ⟨Nat.le_of_ble_eq_true rfl, Nat.le_of_ble_eq_true rfl⟩ d_Sp_read_20 ⟨Nat.le_of_ble_eq_true rfl, Nat.le_of_ble_eq_true rfl⟩) (fun x5 M4 h => ?_)
      refine a_calli (rest := []) (a_runS (As := [.int x5]) fx  cv_Sp_sixOf w_505 (Met_Sp_sixOf l B D aC aS  h) rfl rfl (Nat.le_of_ble_eq_true rfl) rfl rfl ⟨Nat.le_of_ble_eq_true rfl, Nat.le_of_ble_eq_true rfl⟩ d_Sp_read_23 ⟨Nat.le_of_ble_eq_true rfl, Nat.le_of_ble_eq_true rfl⟩) (fun x7 M6 h => ?_)
      refine a_istore_n (lv2 := [(3, .int x7), (0, .ref (B + a0)), (1, .ref (B + a1)), (2, .int v2)]) fx d_Sp_read_26 rfl (by decide) rfl ?_
      refine a_iload_n fx 0 d_Sp_read_27 rfl rfl ?_
      refine a_if_ne fx 32 d_Sp_read_28 rfl (fun hc => ?_) (fun hc => ?_)
      · have h := h.1 hc
        refine a_aload_n fx 1 d_Sp_read_32 rfl rfl ?_
        refine a_iload_n fx 3 d_Sp_read_33 rfl rfl ?_
        refine a_iconst (v := 1) fx d_Sp_read_34 rfl ?_
        refine a_iadd fx d_Sp_read_35 ?_
        refine a_iload_n fx 0 d_Sp_read_36 rfl rfl ?_
        refine a_aload_n fx 2 d_Sp_read_37 rfl rfl ?_
        refine a_callv (rest := []) (a_runS (As := [.ref (B + a0), .int (v2 + 1), .int x7, .ref (B + a1)]) fx  cv_Sp_readLine w_508 (Met_Sp_readLine l B D aC aS (hk0 := hk0) (ht0 := ht0) (hk3 := hk1) (ht3 := ht1) h) rfl rfl (Nat.le_of_ble_eq_true rfl) rfl rfl ⟨Nat.le_of_ble_eq_true rfl, Nat.le_of_ble_eq_true rfl⟩ d_Sp_read_38 ⟨Nat.le_of_ble_eq_true rfl, Nat.le_of_ble_eq_true rfl⟩) (fun M8 h => ?_)
        refine a_iload_n fx 3 d_Sp_read_41 rfl rfl ?_
        refine a_iload_n fx 0 d_Sp_read_42 rfl rfl ?_
        refine a_iconst (v := 2) fx d_Sp_read_43 rfl ?_
        refine a_iadd fx d_Sp_read_44 ?_
        refine a_iconst (v := 3) fx d_Sp_read_45 rfl ?_
        refine a_idiv fx d_Sp_read_46 (by decide) ?_
        refine a_iconst (v := 4) fx d_Sp_read_47 rfl ?_
        refine a_imul fx d_Sp_read_48 ?_
        refine a_iadd fx d_Sp_read_49 ?_
        refine a_topi (fun x9 ex9 => ?_)
        have h := h x9 ex9
        refine a_istore_n (lv2 := [(2, .int x9), (3, .int x7), (0, .ref (B + a0)), (1, .ref (B + a1))]) fx d_Sp_read_50 rfl (by decide) rfl ?_
        obtain ⟨x10, ex10⟩ : ∃ z : Int32, z = x9 + 2 := ⟨_, rfl⟩
        have h := h x10 ex10
        refine a_iinc (lv2 := [(2, .int x10), (3, .int x7), (0, .ref (B + a0)), (1, .ref (B + a1))]) fx 0 d_Sp_read_51 rfl ex10.symm (by decide) rfl ?_
        refine a_goto fx 10 d_Sp_read_54 rfl ?_
        refine a_sub [2, 3, 0] rfl ?_
        exact h
      · have h := h.2 hc
        exact a_vret fx hlo hr h d_Sp_read_31)
  refine a_aload_n fx 1 d_Sp_read_0 rfl rfl ?_
  refine a_callv (rest := []) (a_runV (As := []) fx cv_Ro_wipe w_501 (Met_Ro_wipe l B D aC aS (hk0 := hk1) (ht0 := ht1) h) hk1 ht1 (by decide) rfl rfl rfl (Nat.le_of_ble_eq_true rfl) rfl rfl ⟨Nat.le_of_ble_eq_true rfl, Nat.le_of_ble_eq_true rfl⟩ d_Sp_read_1 ⟨Nat.le_of_ble_eq_true rfl, Nat.le_of_ble_eq_true rfl⟩) (fun M1 h => ?_)
  refine a_ldcS fx 4 (by decide) rfl rfl (q := 4) rfl d_Sp_read_4 ?_
  refine a_calli (rest := []) (a_runVs (As := []) fx cv_JString_length w_503 (Met_JString_length l B D aC aS (hs0 := (by decide)) h) (by decide) rfl rfl (Nat.le_of_ble_eq_true rfl) rfl rfl ⟨Nat.le_of_ble_eq_true rfl, Nat.le_of_ble_eq_true rfl⟩ d_Sp_read_6 ⟨Nat.le_of_ble_eq_true rfl, Nat.le_of_ble_eq_true rfl⟩) (fun x3 M2 h => ?_)
  refine a_istore_n (lv2 := [(2, .int x3), (0, .ref (B + a0)), (1, .ref (B + a1))]) fx d_Sp_read_9 rfl (by decide) rfl ?_
  refine a_sub [1, 2, 0] rfl ?_
  exact h
set_option maxRecDepth 100000 in
set_option maxHeartbeats 4000000 in
theorem Met_Ar_kindDigits (l : Launch) (B : Nat) (D : va_G) (aC : Nat → ClassId) (aS : Nat → Nat) {i0 : Int32} {M : zM} {post : Int32 → zM → Prop}  (h : Wp_Ar_kindDigits i0 M post) : Met l y_Ar_kindDigits (wo y_Ar_kindDigits b_Ar_kindDigits 1 (some FieldType.int)) { frames := 0, cells := 0, slots := 0, locals := 0 } (va_Pc [.int i0] (zWl B D aC aS M)) (zQi B D aC post) 0 0 (zAb B) := by
  refine z_met (own := "MailChain$Archive") (lv0 := [(0, .int i0)]) (by decide) rfl (Nat.le_of_ble_eq_true rfl) rfl ?_
  intro p e s m below meth c fx hr hlo
  delta Wp_Ar_kindDigits at h
  refine a_iload_n fx 0 d_Ar_kindDigits_0 rfl rfl ?_
  refine a_if_ne fx 6 d_Ar_kindDigits_1 rfl (fun hc => ?_) (fun hc => ?_)
  · have h := h.1 hc
    refine a_iload_n fx 0 d_Ar_kindDigits_6 rfl rfl ?_
    refine a_iconst (v := 1) fx d_Ar_kindDigits_7 rfl ?_
    refine a_icmp_ne fx 16 d_Ar_kindDigits_8 rfl (fun hc => ?_) (fun hc => ?_)
    · have h := h.1 hc
      refine a_bipush (v := 10) fx d_Ar_kindDigits_16 rfl ?_
      exact a_iret fx hlo hr h d_Ar_kindDigits_18
    · have h := h.2 hc
      refine a_bipush (v := 8) fx d_Ar_kindDigits_11 rfl ?_
      refine a_goto fx 18 d_Ar_kindDigits_13 rfl ?_
      exact a_iret fx hlo hr h d_Ar_kindDigits_18
  · have h := h.2 hc
    refine a_iconst (v := 4) fx d_Ar_kindDigits_4 rfl ?_
    exact a_iret fx hlo hr h d_Ar_kindDigits_5
set_option maxRecDepth 100000 in
set_option maxHeartbeats 4000000 in
theorem Met_Ar_writeHeader (l : Launch) (B : Nat) (D : va_G) (aC : Nat → ClassId) (aS : Nat → Nat) {a0 : Nat} {i1 : Int32} {i2 : Int32} {a3 : Nat} {M : zM} {post : zM → Prop} (hk0 : a0 < N0) (ht0 : tg a0 = 2) (hk3 : a3 < N0) (ht3 : tg a3 = 1) (h : Wp_Ar_writeHeader a0 i1 i2 a3 M post) : Met l y_Ar_writeHeader (wo y_Ar_writeHeader b_Ar_writeHeader 4 none) { frames := 5, cells := 0, slots := 0, locals := 107 } (va_Pc [.ref (B + a0), .int i1, .int i2, .ref (B + a3)] (zWl B D aC aS M)) (zQv B D aC post) 0 0 (zAb B) := by
  refine z_met (own := "MailChain$Archive") (lv0 := [(0, .ref (B + a0)), (1, .int i1), (2, .int i2), (3, .ref (B + a3))]) (by decide) rfl (Nat.le_of_ble_eq_true rfl) rfl ?_
  intro p e s m below meth c fx hr hlo
  delta Wp_Ar_writeHeader at h
  refine a_aload_n fx 3 d_Ar_writeHeader_0 rfl rfl ?_
  refine a_ldcS fx 7 (by decide) rfl rfl (q := 7) rfl d_Ar_writeHeader_1 ?_
  refine a_callv (rest := []) (a_runV (As := [.ref (aS 7)]) fx cv_Ro_putText w_1030 (Met_Ro_putText l B D aC aS (hk0 := hk3) (ht0 := ht3) (hs1 := (by decide)) h) hk3 ht3 (by decide) rfl rfl rfl (Nat.le_of_ble_eq_true rfl) rfl rfl ⟨Nat.le_of_ble_eq_true rfl, Nat.le_of_ble_eq_true rfl⟩ d_Ar_writeHeader_3 ⟨Nat.le_of_ble_eq_true rfl, Nat.le_of_ble_eq_true rfl⟩) (fun M1 h => ?_)
  refine a_aload_n fx 3 d_Ar_writeHeader_6 rfl rfl ?_
  refine a_iload_n fx 1 d_Ar_writeHeader_7 rfl rfl ?_
  refine a_bipush (v := 6) fx d_Ar_writeHeader_8 rfl ?_
  refine a_callv (rest := []) (a_runV (As := [.int i1, .int 6]) fx cv_Ro_putOctal w_1031 (Met_Ro_putOctal l B D aC aS (hk0 := hk3) (ht0 := ht3) h) hk3 ht3 (by decide) rfl rfl rfl (Nat.le_of_ble_eq_true rfl) rfl rfl ⟨Nat.le_of_ble_eq_true rfl, Nat.le_of_ble_eq_true rfl⟩ d_Ar_writeHeader_10 ⟨Nat.le_of_ble_eq_true rfl, Nat.le_of_ble_eq_true rfl⟩) (fun M2 h => ?_)
  refine a_aload_n fx 3 d_Ar_writeHeader_13 rfl rfl ?_
  refine a_aload_n fx 0 d_Ar_writeHeader_14 rfl rfl ?_
  refine a_getIN fx (T := F_En) (j := 1) (hk := hk0) (ht := ht0) (ht2 := by decide) (hc := rfl) (hin := u_in_En) (hj := by decide) (hj2 := by decide) (hf := rfl) (hT := rfl) (q9 := 12) (hw := rfl) (hd := d_Ar_writeHeader_15) (kk := ?_)
  refine a_calli (rest := [.ref (B + a3)]) (a_runS (As := [.int (M2.1 a0 1)]) fx  cv_Ar_kindDigits w_950 (Met_Ar_kindDigits l B D aC aS  h) rfl rfl (Nat.le_of_ble_eq_true rfl) rfl rfl ⟨Nat.le_of_ble_eq_true rfl, Nat.le_of_ble_eq_true rfl⟩ d_Ar_writeHeader_18 ⟨Nat.le_of_ble_eq_true rfl, Nat.le_of_ble_eq_true rfl⟩) (fun x4 M3 h => ?_)
  refine a_bipush (v := 12) fx d_Ar_writeHeader_21 rfl ?_
  refine a_ishl fx d_Ar_writeHeader_23 ?_
  refine a_aload_n fx 0 d_Ar_writeHeader_24 rfl rfl ?_
  refine a_getIN fx (T := F_En) (j := 2) (hk := hk0) (ht := ht0) (ht2 := by decide) (hc := rfl) (hin := u_in_En) (hj := by decide) (hj2 := by decide) (hf := rfl) (hT := rfl) (q9 := 15) (hw := rfl) (hd := d_Ar_writeHeader_25) (kk := ?_)
  refine a_ior fx d_Ar_writeHeader_28 ?_
  refine a_bipush (v := 6) fx d_Ar_writeHeader_29 rfl ?_
  refine a_callv (rest := []) (a_runV (As := [.int ((x4 <<< (12 &&& 31)) ||| (M3.1 a0 2)), .int 6]) fx cv_Ro_putOctal w_1031 (Met_Ro_putOctal l B D aC aS (hk0 := hk3) (ht0 := ht3) h) hk3 ht3 (by decide) rfl rfl rfl (Nat.le_of_ble_eq_true rfl) rfl rfl ⟨Nat.le_of_ble_eq_true rfl, Nat.le_of_ble_eq_true rfl⟩ d_Ar_writeHeader_31 ⟨Nat.le_of_ble_eq_true rfl, Nat.le_of_ble_eq_true rfl⟩) (fun M5 h => ?_)
  refine a_aload_n fx 3 d_Ar_writeHeader_34 rfl rfl ?_
  refine a_aload_n fx 0 d_Ar_writeHeader_35 rfl rfl ?_
  refine a_getIN fx (T := F_En) (j := 3) (hk := hk0) (ht := ht0) (ht2 := by decide) (hc := rfl) (hin := u_in_En) (hj := by decide) (hj2 := by decide) (hf := rfl) (hT := rfl) (q9 := 18) (hw := rfl) (hd := d_Ar_writeHeader_36) (kk := ?_)
  refine a_bipush (v := 6) fx d_Ar_writeHeader_39 rfl ?_
  refine a_callv (rest := []) (a_runV (As := [.int (M5.1 a0 3), .int 6]) fx cv_Ro_putOctal w_1031 (Met_Ro_putOctal l B D aC aS (hk0 := hk3) (ht0 := ht3) h) hk3 ht3 (by decide) rfl rfl rfl (Nat.le_of_ble_eq_true rfl) rfl rfl ⟨Nat.le_of_ble_eq_true rfl, Nat.le_of_ble_eq_true rfl⟩ d_Ar_writeHeader_41 ⟨Nat.le_of_ble_eq_true rfl, Nat.le_of_ble_eq_true rfl⟩) (fun M6 h => ?_)
  refine a_aload_n fx 3 d_Ar_writeHeader_44 rfl rfl ?_
  refine a_aload_n fx 0 d_Ar_writeHeader_45 rfl rfl ?_
  refine a_getIN fx (T := F_En) (j := 4) (hk := hk0) (ht := ht0) (ht2 := by decide) (hc := rfl) (hin := u_in_En) (hj := by decide) (hj2 := by decide) (hf := rfl) (hT := rfl) (q9 := 21) (hw := rfl) (hd := d_Ar_writeHeader_46) (kk := ?_)
  refine a_bipush (v := 6) fx d_Ar_writeHeader_49 rfl ?_
  refine a_callv (rest := []) (a_runV (As := [.int (M6.1 a0 4), .int 6]) fx cv_Ro_putOctal w_1031 (Met_Ro_putOctal l B D aC aS (hk0 := hk3) (ht0 := ht3) h) hk3 ht3 (by decide) rfl rfl rfl (Nat.le_of_ble_eq_true rfl) rfl rfl ⟨Nat.le_of_ble_eq_true rfl, Nat.le_of_ble_eq_true rfl⟩ d_Ar_writeHeader_51 ⟨Nat.le_of_ble_eq_true rfl, Nat.le_of_ble_eq_true rfl⟩) (fun M7 h => ?_)
  refine a_aload_n fx 3 d_Ar_writeHeader_54 rfl rfl ?_
  refine a_iload_n fx 2 d_Ar_writeHeader_55 rfl rfl ?_
  refine a_bipush (v := 6) fx d_Ar_writeHeader_56 rfl ?_
  refine a_callv (rest := []) (a_runV (As := [.int i2, .int 6]) fx cv_Ro_putOctal w_1031 (Met_Ro_putOctal l B D aC aS (hk0 := hk3) (ht0 := ht3) h) hk3 ht3 (by decide) rfl rfl rfl (Nat.le_of_ble_eq_true rfl) rfl rfl ⟨Nat.le_of_ble_eq_true rfl, Nat.le_of_ble_eq_true rfl⟩ d_Ar_writeHeader_58 ⟨Nat.le_of_ble_eq_true rfl, Nat.le_of_ble_eq_true rfl⟩) (fun M8 h => ?_)
  refine a_aload_n fx 3 d_Ar_writeHeader_61 rfl rfl ?_
  refine a_ldcS fx 8 (by decide) rfl rfl (q := 8) rfl d_Ar_writeHeader_62 ?_
  refine a_callv (rest := []) (a_runV (As := [.ref (aS 8)]) fx cv_Ro_putText w_1030 (Met_Ro_putText l B D aC aS (hk0 := hk3) (ht0 := ht3) (hs1 := (by decide)) h) hk3 ht3 (by decide) rfl rfl rfl (Nat.le_of_ble_eq_true rfl) rfl rfl ⟨Nat.le_of_ble_eq_true rfl, Nat.le_of_ble_eq_true rfl⟩ d_Ar_writeHeader_64 ⟨Nat.le_of_ble_eq_true rfl, Nat.le_of_ble_eq_true rfl⟩) (fun M9 h => ?_)
  refine a_aload_n fx 3 d_Ar_writeHeader_67 rfl rfl ?_
  refine a_aload_n fx 0 d_Ar_writeHeader_68 rfl rfl ?_
  refine a_getIN fx (T := F_En) (j := 5) (hk := hk0) (ht := ht0) (ht2 := by decide) (hc := rfl) (hin := u_in_En) (hj := by decide) (hj2 := by decide) (hf := rfl) (hT := rfl) (q9 := 24) (hw := rfl) (hd := d_Ar_writeHeader_69) (kk := ?_)
  refine a_bipush (v := 11) fx d_Ar_writeHeader_72 rfl ?_
  refine a_callv (rest := []) (a_runV (As := [.int (M9.1 a0 5), .int 11]) fx cv_Ro_putOctal w_1031 (Met_Ro_putOctal l B D aC aS (hk0 := hk3) (ht0 := ht3) h) hk3 ht3 (by decide) rfl rfl rfl (Nat.le_of_ble_eq_true rfl) rfl rfl ⟨Nat.le_of_ble_eq_true rfl, Nat.le_of_ble_eq_true rfl⟩ d_Ar_writeHeader_74 ⟨Nat.le_of_ble_eq_true rfl, Nat.le_of_ble_eq_true rfl⟩) (fun M10 h => ?_)
  refine a_aload_n fx 3 d_Ar_writeHeader_77 rfl rfl ?_
  refine a_aload_n fx 0 d_Ar_writeHeader_78 rfl rfl ?_
  refine a_getSN fx (T := F_En) (j := 0) (hk := hk0) (ht := ht0) (ht2 := by decide) (hc := rfl) (hin := u_in_En) (hj := by decide) (hj2 := by decide) (hf := rfl) (n9 := 1) (hfo := rfl) (hT := rfl) (q9 := 9) (hw := rfl) (hd := d_Ar_writeHeader_79) (kk := ?_)
  refine a_getIN fx (T := F_Ro) (j := 1) (hk := (lo_2_0 hk0 ht0).1) (ht := (lo_2_0 hk0 ht0).2) (ht2 := by decide) (hc := rfl) (hin := u_in_Ro) (hj := by decide) (hj2 := by decide) (hf := rfl) (hT := rfl) (q9 := 3) (hw := rfl) (hd := d_Ar_writeHeader_82) (kk := ?_)
  refine a_iconst (v := 1) fx d_Ar_writeHeader_85 rfl ?_
  refine a_iadd fx d_Ar_writeHeader_86 ?_
  refine a_bipush (v := 6) fx d_Ar_writeHeader_87 rfl ?_
  refine a_callv (rest := []) (a_runV (As := [.int ((M10.1 (a0 + 1) 1) + 1), .int 6]) fx cv_Ro_putOctal w_1031 (Met_Ro_putOctal l B D aC aS (hk0 := hk3) (ht0 := ht3) h) hk3 ht3 (by decide) rfl rfl rfl (Nat.le_of_ble_eq_true rfl) rfl rfl ⟨Nat.le_of_ble_eq_true rfl, Nat.le_of_ble_eq_true rfl⟩ d_Ar_writeHeader_89 ⟨Nat.le_of_ble_eq_true rfl, Nat.le_of_ble_eq_true rfl⟩) (fun M11 h => ?_)
  refine a_aload_n fx 3 d_Ar_writeHeader_92 rfl rfl ?_
  refine a_aload_n fx 0 d_Ar_writeHeader_93 rfl rfl ?_
  refine a_getIN fx (T := F_En) (j := 7) (hk := hk0) (ht := ht0) (ht2 := by decide) (hc := rfl) (hin := u_in_En) (hj := by decide) (hj2 := by decide) (hf := rfl) (hT := rfl) (q9 := 29) (hw := rfl) (hd := d_Ar_writeHeader_94) (kk := ?_)
  refine a_bipush (v := 11) fx d_Ar_writeHeader_97 rfl ?_
  refine a_callv (rest := []) (a_runV (As := [.int (M11.1 a0 7), .int 11]) fx cv_Ro_putOctal w_1031 (Met_Ro_putOctal l B D aC aS (hk0 := hk3) (ht0 := ht3) h) hk3 ht3 (by decide) rfl rfl rfl (Nat.le_of_ble_eq_true rfl) rfl rfl ⟨Nat.le_of_ble_eq_true rfl, Nat.le_of_ble_eq_true rfl⟩ d_Ar_writeHeader_99 ⟨Nat.le_of_ble_eq_true rfl, Nat.le_of_ble_eq_true rfl⟩) (fun M12 h => ?_)
  exact a_vret fx hlo hr h d_Ar_writeHeader_102
set_option maxRecDepth 100000 in
set_option maxHeartbeats 4000000 in
theorem Met_Ar_write (l : Launch) (B : Nat) (D : va_G) (aC : Nat → ClassId) (aS : Nat → Nat) {a0 : Nat} {a1 : Nat} {M : zM} {post : zM → Prop} (hk0 : a0 < N0) (ht0 : tg a0 = 3) (hk1 : a1 < N0) (ht1 : tg a1 = 1) (h : Wp_Ar_write a0 a1 M post) : Met l y_Ar_write (wo y_Ar_write b_Ar_write 4 none) { frames := 6, cells := 0, slots := 0, locals := 130 } (va_Pc [.ref (B + a0), .ref (B + a1)] (zWl B D aC aS M)) (zQv B D aC post) 0 0 (zAb B) := by
  refine z_met (own := "MailChain$Archive") (lv0 := [(0, .ref (B + a0)), (1, .ref (B + a1))]) (by decide) rfl (Nat.le_of_ble_eq_true rfl) rfl ?_
  intro p e s m below meth c fx hr hlo
  delta Wp_Ar_write at h
  have h := h (fun v2 M => zAt p l e { frames := 6, cells := 0, slots := 0, locals := 130 } s m ([.ref (B + a0), .ref (B + a1)] : List Value).toArray below meth c 0 0 (MQ below (zQv B D aC post) ([.ref (B + a0), .ref (B + a1)] : List Value).toArray s 0 0 (zAb B)) B D aC 4 14 [(0, .ref (B + a0)), (1, .ref (B + a1)), (2, .int v2)] [] M)
  have h := h (by
    intro v2 M h
    refine a_iload_n fx 2 d_Ar_write_14 rfl rfl ?_
    refine a_aload_n fx 0 d_Ar_write_15 rfl rfl ?_
    refine a_getIN fx (T := F_Tr) (j := 2) (hk := hk0) (ht := ht0) (ht2 := by decide) (hc := rfl) (hin := u_in_Tr) (hj := by decide) (hj2 := by decide) (hf := rfl) (hT := rfl) (q9 := 34) (hw := rfl) (hd := d_Ar_write_16) (kk := ?_)
    refine a_icmp_ge fx 94 d_Ar_write_19 rfl (fun hc => ?_) (fun hc => ?_)
    · have h := h.1 hc
      refine a_aload_n fx 1 d_Ar_write_94 rfl rfl ?_
      refine a_ldcS fx 6 (by decide) rfl rfl (q := 6) rfl d_Ar_write_95 ?_
      refine a_callv (rest := []) (a_runV (As := [.ref (aS 6)]) fx cv_Ro_putText w_1030 (Met_Ro_putText l B D aC aS (hk0 := hk1) (ht0 := ht1) (hs1 := (by decide)) h) hk1 ht1 (by decide) rfl rfl rfl (Nat.le_of_ble_eq_true rfl) rfl rfl ⟨Nat.le_of_ble_eq_true rfl, Nat.le_of_ble_eq_true rfl⟩ d_Ar_write_97 ⟨Nat.le_of_ble_eq_true rfl, Nat.le_of_ble_eq_true rfl⟩) (fun M4 h => ?_)
      refine a_aload_n fx 1 d_Ar_write_100 rfl rfl ?_
      refine a_iconst (v := 0) fx d_Ar_write_101 rfl ?_
      refine a_callv (rest := []) (a_runV (As := [.int 0]) fx cv_Ro_put w_1037 (Met_Ro_put l B D aC aS (hk0 := hk1) (ht0 := ht1) h) hk1 ht1 (by decide) rfl rfl rfl (Nat.le_of_ble_eq_true rfl) rfl rfl ⟨Nat.le_of_ble_eq_true rfl, Nat.le_of_ble_eq_true rfl⟩ d_Ar_write_102 ⟨Nat.le_of_ble_eq_true rfl, Nat.le_of_ble_eq_true rfl⟩) (fun M5 h => ?_)
      exact a_vret fx hlo hr h d_Ar_write_105
    · have h := h.2 hc
      refine a_aload_n fx 0 d_Ar_write_22 rfl rfl ?_
      refine a_getSN fx (T := F_Tr) (j := 0) (hk := hk0) (ht := ht0) (ht2 := by decide) (hc := rfl) (hin := u_in_Tr) (hj := by decide) (hj2 := by decide) (hf := rfl) (n9 := 1) (hfo := rfl) (hT := rfl) (q9 := 32) (hw := rfl) (hd := d_Ar_write_23) (kk := ?_)
      refine a_iload_n fx 2 d_Ar_write_26 rfl rfl ?_
      obtain ⟨hin, h⟩ := h
      refine a_aald fx (lo_3_0 hk0 ht0).1 (lo_3_0 hk0 ht0).2 hin d_Ar_write_27 ?_
      refine a_topr (fun r6 er6 => ?_)
      obtain ⟨hkr6, htr6, h⟩ := h r6 er6
      refine a_astore_n (lv2 := [(3, .ref (B + r6)), (0, .ref (B + a0)), (1, .ref (B + a1)), (2, .int v2)]) fx d_Ar_write_28 rfl (by decide) rfl ?_
      refine a_aload_n fx 0 d_Ar_write_29 rfl rfl ?_
      refine a_aload_n fx 1 d_Ar_write_30 rfl rfl ?_
      refine a_iload_n fx 3 d_Ar_write_31 rfl rfl ?_
      refine a_calli (rest := [.ref (B + r6)]) (a_runV (As := [.int v2]) fx cv_Tr_firstLinkOf w_1018 (Met_Tr_firstLinkOf l B D aC aS (hk0 := hk0) (ht0 := ht0) h) hk0 ht0 (by decide) rfl rfl rfl (Nat.le_of_ble_eq_true rfl) rfl rfl ⟨Nat.le_of_ble_eq_true rfl, Nat.le_of_ble_eq_true rfl⟩ d_Ar_write_32 ⟨Nat.le_of_ble_eq_true rfl, Nat.le_of_ble_eq_true rfl⟩) (fun x8 M7 h => ?_)
      refine a_iconst (v := 1) fx d_Ar_write_35 rfl ?_
      refine a_iadd fx d_Ar_write_36 ?_
      refine a_aload_n fx 1 d_Ar_write_37 rfl rfl ?_
      refine a_iload_n fx 3 d_Ar_write_38 rfl rfl ?_
      refine a_calli (rest := [.int (x8 + 1), .ref (B + r6)]) (a_runV (As := [.int v2]) fx cv_Tr_linksOf w_1022 (Met_Tr_linksOf l B D aC aS (hk0 := hk0) (ht0 := ht0) h) hk0 ht0 (by decide) rfl rfl rfl (Nat.le_of_ble_eq_true rfl) rfl rfl ⟨Nat.le_of_ble_eq_true rfl, Nat.le_of_ble_eq_true rfl⟩ d_Ar_write_39 ⟨Nat.le_of_ble_eq_true rfl, Nat.le_of_ble_eq_true rfl⟩) (fun x10 M9 h => ?_)
      refine a_aload_n fx 2 d_Ar_write_42 rfl rfl ?_
      refine a_callv (rest := []) (a_runS (As := [.ref (B + r6), .int (x8 + 1), .int x10, .ref (B + a1)]) fx  cv_Ar_writeHeader w_1026 (Met_Ar_writeHeader l B D aC aS (hk0 := hkr6) (ht0 := htr6) (hk3 := hk1) (ht3 := ht1) h) rfl rfl (Nat.le_of_ble_eq_true rfl) rfl rfl ⟨Nat.le_of_ble_eq_true rfl, Nat.le_of_ble_eq_true rfl⟩ d_Ar_write_43 ⟨Nat.le_of_ble_eq_true rfl, Nat.le_of_ble_eq_true rfl⟩) (fun M11 h => ?_)
      refine a_aload_n fx 2 d_Ar_write_46 rfl rfl ?_
      refine a_aload_n fx 0 d_Ar_write_47 rfl rfl ?_
      refine a_getSN fx (T := F_En) (j := 0) (hk := hkr6) (ht := htr6) (ht2 := by decide) (hc := rfl) (hin := u_in_En) (hj := by decide) (hj2 := by decide) (hf := rfl) (n9 := 1) (hfo := rfl) (hT := rfl) (q9 := 9) (hw := rfl) (hd := d_Ar_write_48) (kk := ?_)
      refine a_iconst (v := 0) fx d_Ar_write_51 rfl ?_
      refine a_aload_n fx 0 d_Ar_write_52 rfl rfl ?_
      refine a_getSN fx (T := F_En) (j := 0) (hk := hkr6) (ht := htr6) (ht2 := by decide) (hc := rfl) (hin := u_in_En) (hj := by decide) (hj2 := by decide) (hf := rfl) (n9 := 1) (hfo := rfl) (hT := rfl) (q9 := 9) (hw := rfl) (hd := d_Ar_write_53) (kk := ?_)
      refine a_getIN fx (T := F_Ro) (j := 1) (hk := (lo_2_0 hkr6 htr6).1) (ht := (lo_2_0 hkr6 htr6).2) (ht2 := by decide) (hc := rfl) (hin := u_in_Ro) (hj := by decide) (hj2 := by decide) (hf := rfl) (hT := rfl) (q9 := 3) (hw := rfl) (hd := d_Ar_write_56) (kk := ?_)
      refine a_callv (rest := []) (a_runV (As := [.ref (B + (r6 + 1)), .int 0, .int (M11.1 (r6 + 1) 1)]) fx cv_Ro_putRange w_1036 (Met_Ro_putRange l B D aC aS (hk0 := hk1) (ht0 := ht1) (hk1 := (lo_2_0 hkr6 htr6).1) (ht1 := (lo_2_0 hkr6 htr6).2) h) hk1 ht1 (by decide) rfl rfl rfl (Nat.le_of_ble_eq_true rfl) rfl rfl ⟨Nat.le_of_ble_eq_true rfl, Nat.le_of_ble_eq_true rfl⟩ d_Ar_write_59 ⟨Nat.le_of_ble_eq_true rfl, Nat.le_of_ble_eq_true rfl⟩) (fun M12 h => ?_)
      refine a_aload_n fx 2 d_Ar_write_62 rfl rfl ?_
      refine a_iconst (v := 0) fx d_Ar_write_63 rfl ?_
      refine a_callv (rest := []) (a_runV (As := [.int 0]) fx cv_Ro_put w_1037 (Met_Ro_put l B D aC aS (hk0 := hk1) (ht0 := ht1) h) hk1 ht1 (by decide) rfl rfl rfl (Nat.le_of_ble_eq_true rfl) rfl rfl ⟨Nat.le_of_ble_eq_true rfl, Nat.le_of_ble_eq_true rfl⟩ d_Ar_write_64 ⟨Nat.le_of_ble_eq_true rfl, Nat.le_of_ble_eq_true rfl⟩) (fun M13 h => ?_)
      refine a_aload_n fx 2 d_Ar_write_67 rfl rfl ?_
      refine a_aload_n fx 1 d_Ar_write_68 rfl rfl ?_
      refine a_getSN fx (T := F_Tr) (j := 1) (hk := hk0) (ht := ht0) (ht2 := by decide) (hc := rfl) (hin := u_in_Tr) (hj := by decide) (hj2 := by decide) (hf := rfl) (n9 := 125) (hfo := rfl) (hT := rfl) (q9 := 33) (hw := rfl) (hd := d_Ar_write_69) (kk := ?_)
      refine a_aload_n fx 0 d_Ar_write_72 rfl rfl ?_
      refine a_getIN fx (T := F_En) (j := 6) (hk := hkr6) (ht := htr6) (ht2 := by decide) (hc := rfl) (hin := u_in_En) (hj := by decide) (hj2 := by decide) (hf := rfl) (hT := rfl) (q9 := 27) (hw := rfl) (hd := d_Ar_write_73) (kk := ?_)
      refine a_aload_n fx 0 d_Ar_write_76 rfl rfl ?_
      refine a_getIN fx (T := F_En) (j := 6) (hk := hkr6) (ht := htr6) (ht2 := by decide) (hc := rfl) (hin := u_in_En) (hj := by decide) (hj2 := by decide) (hf := rfl) (hT := rfl) (q9 := 27) (hw := rfl) (hd := d_Ar_write_77) (kk := ?_)
      refine a_aload_n fx 0 d_Ar_write_80 rfl rfl ?_
      refine a_getIN fx (T := F_En) (j := 7) (hk := hkr6) (ht := htr6) (ht2 := by decide) (hc := rfl) (hin := u_in_En) (hj := by decide) (hj2 := by decide) (hf := rfl) (hT := rfl) (q9 := 29) (hw := rfl) (hd := d_Ar_write_81) (kk := ?_)
      refine a_iadd fx d_Ar_write_84 ?_
      refine a_callv (rest := []) (a_runV (As := [.ref (B + (a0 + 125)), .int (M13.1 r6 6), .int ((M13.1 r6 6) + (M13.1 r6 7))]) fx cv_Ro_putRange w_1036 (Met_Ro_putRange l B D aC aS (hk0 := hk1) (ht0 := ht1) (hk1 := (lo_3_1 hk0 ht0).1) (ht1 := (lo_3_1 hk0 ht0).2) h) hk1 ht1 (by decide) rfl rfl rfl (Nat.le_of_ble_eq_true rfl) rfl rfl ⟨Nat.le_of_ble_eq_true rfl, Nat.le_of_ble_eq_true rfl⟩ d_Ar_write_85 ⟨Nat.le_of_ble_eq_true rfl, Nat.le_of_ble_eq_true rfl⟩) (fun M14 h => ?_)
      obtain ⟨x15, ex15⟩ : ∃ z : Int32, z = v2 + 1 := ⟨_, rfl⟩
      have h := h x15 ex15
      refine a_iinc (lv2 := [(2, .int x15), (3, .ref (B + r6)), (0, .ref (B + a0)), (1, .ref (B + a1))]) fx 3 d_Ar_write_88 rfl ex15.symm (by decide) rfl ?_
      refine a_goto fx 14 d_Ar_write_91 rfl ?_
      refine a_sub [2, 3, 0] rfl ?_
      exact h)
  refine a_aload_n fx 1 d_Ar_write_0 rfl rfl ?_
  refine a_callv (rest := []) (a_runV (As := []) fx cv_Ro_wipe w_1012 (Met_Ro_wipe l B D aC aS (hk0 := hk1) (ht0 := ht1) h) hk1 ht1 (by decide) rfl rfl rfl (Nat.le_of_ble_eq_true rfl) rfl rfl ⟨Nat.le_of_ble_eq_true rfl, Nat.le_of_ble_eq_true rfl⟩ d_Ar_write_1 ⟨Nat.le_of_ble_eq_true rfl, Nat.le_of_ble_eq_true rfl⟩) (fun M1 h => ?_)
  refine a_aload_n fx 0 d_Ar_write_4 rfl rfl ?_
  refine a_calli (rest := []) (a_runV (As := []) fx cv_Tr_hasArchive w_1013 (Met_Tr_hasArchive l B D aC aS (hk0 := hk0) (ht0 := ht0) h) hk0 ht0 (by decide) rfl rfl rfl (Nat.le_of_ble_eq_true rfl) rfl rfl ⟨Nat.le_of_ble_eq_true rfl, Nat.le_of_ble_eq_true rfl⟩ d_Ar_write_5 ⟨Nat.le_of_ble_eq_true rfl, Nat.le_of_ble_eq_true rfl⟩) (fun x3 M2 h => ?_)
  refine a_if_ne fx 12 d_Ar_write_8 rfl (fun hc => ?_) (fun hc => ?_)
  · have h := h.1 hc
    refine a_iconst (v := 0) fx d_Ar_write_12 rfl ?_
    refine a_istore_n (lv2 := [(2, .int 0), (0, .ref (B + a0)), (1, .ref (B + a1))]) fx d_Ar_write_13 rfl (by decide) rfl ?_
    refine a_sub [1, 2, 0] rfl ?_
    exact h
  · have h := h.2 hc
    exact a_vret fx hlo hr h d_Ar_write_11
set_option maxRecDepth 100000 in
set_option maxHeartbeats 4000000 in
theorem Met_Ar_kindOf (l : Launch) (B : Nat) (D : va_G) (aC : Nat → ClassId) (aS : Nat → Nat) {i0 : Int32} {M : zM} {post : Int32 → zM → Prop}  (h : Wp_Ar_kindOf i0 M post) : Met l y_Ar_kindOf (wo y_Ar_kindOf b_Ar_kindOf 2 (some FieldType.int)) { frames := 1, cells := 0, slots := 0, locals := 20 } (va_Pc [.int i0] (zWl B D aC aS M)) (zQi B D aC post) 0 0 (zAb B) := by
  refine z_met (own := "MailChain$Archive") (lv0 := [(0, .int i0)]) (by decide) rfl (Nat.le_of_ble_eq_true rfl) rfl ?_
  intro p e s m below meth c fx hr hlo
  delta Wp_Ar_kindOf at h
  have h := h (fun v1 M => zAt p l e { frames := 1, cells := 0, slots := 0, locals := 20 } s m ([.int i0] : List Value).toArray below meth c 0 0 (MQ below (zQi B D aC post) ([.int i0] : List Value).toArray s 0 0 (zAb B)) B D aC 2 2 [(0, .int i0), (1, .int v1)] [] M)
  have h := h (by
    intro v1 M h
    refine a_iload_n fx 1 d_Ar_kindOf_2 rfl rfl ?_
    refine a_iconst (v := 2) fx d_Ar_kindOf_3 rfl ?_
    refine a_icmp_gt fx 23 d_Ar_kindOf_4 rfl (fun hc => ?_) (fun hc => ?_)
    · have h := h.1 hc
      refine a_iconst (v := (-1)) fx d_Ar_kindOf_23 rfl ?_
      exact a_iret fx hlo hr h d_Ar_kindOf_24
    · have h := h.2 hc
      refine a_iload_n fx 1 d_Ar_kindOf_7 rfl rfl ?_
      refine a_calli (rest := []) (a_runS (As := [.int v1]) fx  cv_Ar_kindDigits w_950 (Met_Ar_kindDigits l B D aC aS  h) rfl rfl (Nat.le_of_ble_eq_true rfl) rfl rfl ⟨Nat.le_of_ble_eq_true rfl, Nat.le_of_ble_eq_true rfl⟩ d_Ar_kindOf_8 ⟨Nat.le_of_ble_eq_true rfl, Nat.le_of_ble_eq_true rfl⟩) (fun x2 M1 h => ?_)
      refine a_iload_n fx 0 d_Ar_kindOf_11 rfl rfl ?_
      refine a_icmp_ne fx 17 d_Ar_kindOf_12 rfl (fun hc => ?_) (fun hc => ?_)
      · have h := h.1 hc
        obtain ⟨x3, ex3⟩ : ∃ z : Int32, z = v1 + 1 := ⟨_, rfl⟩
        have h := h x3 ex3
        refine a_iinc (lv2 := [(1, .int x3), (0, .int i0)]) fx 1 d_Ar_kindOf_17 rfl ex3.symm (by decide) rfl ?_
        refine a_goto fx 2 d_Ar_kindOf_20 rfl ?_
        refine a_sub [1, 0] rfl ?_
        exact h
      · have h := h.2 hc
        refine a_iload_n fx 1 d_Ar_kindOf_15 rfl rfl ?_
        exact a_iret fx hlo hr h d_Ar_kindOf_16)
  refine a_iconst (v := 0) fx d_Ar_kindOf_0 rfl ?_
  refine a_istore_n (lv2 := [(1, .int 0), (0, .int i0)]) fx d_Ar_kindOf_1 rfl (by decide) rfl ?_
  refine a_sub [1, 0] rfl ?_
  exact h
set_option maxRecDepth 100000 in
set_option maxHeartbeats 4000000 in
theorem Met_Ar_octal (l : Launch) (B : Nat) (D : va_G) (aC : Nat → ClassId) (aS : Nat → Nat) {a0 : Nat} {i1 : Int32} {i2 : Int32} {M : zM} {post : Int32 → zM → Prop} (hk0 : a0 < N0) (ht0 : tg a0 = 1) (h : Wp_Ar_octal a0 i1 i2 M post) : Met l y_Ar_octal (wo y_Ar_octal b_Ar_octal 7 (some FieldType.int)) { frames := 1, cells := 0, slots := 0, locals := 21 } (va_Pc [.ref (B + a0), .int i1, .int i2] (zWl B D aC aS M)) (zQi B D aC post) 0 0 (zAb B) := by
  refine z_met (own := "MailChain$Archive") (lv0 := [(0, .ref (B + a0)), (1, .int i1), (2, .int i2)]) (by decide) rfl (Nat.le_of_ble_eq_true rfl) rfl ?_
  intro p e s m below meth c fx hr hlo
  delta Wp_Ar_octal at h
  have h := h (fun v3 v5 M => zAt p l e { frames := 1, cells := 0, slots := 0, locals := 21 } s m ([.ref (B + a0), .int i1, .int i2] : List Value).toArray below meth c 0 0 (MQ below (zQi B D aC post) ([.ref (B + a0), .int i1, .int i2] : List Value).toArray s 0 0 (zAb B)) B D aC 7 5 [(0, .ref (B + a0)), (1, .int i1), (2, .int i2), (3, .long v3), (5, .int v5)] [] M)
  have h := h (by
    intro v3 v5 M h
    refine a_iload fx 4 d_Ar_octal_5 rfl ?_
    refine a_iload_n fx 2 d_Ar_octal_7 rfl rfl ?_
    refine a_icmp_ge fx 54 d_Ar_octal_8 rfl (fun hc => ?_) (fun hc => ?_)
    · have h := h.1 hc
      refine a_lload_n fx 3 d_Ar_octal_54 rfl rfl ?_
      refine a_ldc2 fx w_933 d_Ar_octal_55 ?_
      refine a_lcmp fx d_Ar_octal_58 ?_
      refine a_if_gt fx 67 d_Ar_octal_59 rfl (fun hc => ?_) (fun hc => ?_)
      · have h := h.1 hc
        refine a_iconst (v := (-1)) fx d_Ar_octal_67 rfl ?_
        exact a_iret fx hlo hr h d_Ar_octal_68
      · have h := h.2 hc
        refine a_lload_n fx 3 d_Ar_octal_62 rfl rfl ?_
        refine a_l2i fx d_Ar_octal_63 ?_
        refine a_goto fx 68 d_Ar_octal_64 rfl ?_
        exact a_iret fx hlo hr h d_Ar_octal_68
    · have h := h.2 hc
      refine a_aload_n fx 0 d_Ar_octal_11 rfl rfl ?_
      refine a_iload_n fx 1 d_Ar_octal_12 rfl rfl ?_
      refine a_iload fx 4 d_Ar_octal_13 rfl ?_
      refine a_iadd fx d_Ar_octal_15 ?_
      refine a_calli (rest := []) (a_runV (As := [.int (i1 + v5)]) fx cv_Ro_at w_931 (Met_Ro_at l B D aC aS (hk0 := hk0) (ht0 := ht0) h) hk0 ht0 (by decide) rfl rfl rfl (Nat.le_of_ble_eq_true rfl) rfl rfl ⟨Nat.le_of_ble_eq_true rfl, Nat.le_of_ble_eq_true rfl⟩ d_Ar_octal_16 ⟨Nat.le_of_ble_eq_true rfl, Nat.le_of_ble_eq_true rfl⟩) (fun x2 M1 h => ?_)
      refine a_bipush (v := 48) fx d_Ar_octal_19 rfl ?_
      refine a_isub fx d_Ar_octal_21 ?_
      refine a_topi (fun x3 ex3 => ?_)
      have h := h x3 ex3
      refine a_istore (lv2 := [(6, .int x3), (0, .ref (B + a0)), (1, .int i1), (2, .int i2), (3, .long v3), (5, .int v5)]) fx d_Ar_octal_22 (by decide) rfl ?_
      refine a_iload fx 0 d_Ar_octal_24 rfl ?_
      refine a_if_lt fx 36 d_Ar_octal_26 rfl (fun hc => ?_) (fun hc => ?_)
      · have h := h.1 hc
        refine a_iconst (v := (-1)) fx d_Ar_octal_36 rfl ?_
        exact a_iret fx hlo hr h d_Ar_octal_37
      · have h := h.2 hc
        refine a_iload fx 0 d_Ar_octal_29 rfl ?_
        refine a_bipush (v := 7) fx d_Ar_octal_31 rfl ?_
        refine a_icmp_le fx 38 d_Ar_octal_33 rfl (fun hc => ?_) (fun hc => ?_)
        · have h := h.1 hc
          refine a_ldc2 fx w_932 d_Ar_octal_38 ?_
          refine a_lload_n fx 4 d_Ar_octal_41 rfl rfl ?_
          refine a_lmul fx d_Ar_octal_42 ?_
          refine a_iload fx 0 d_Ar_octal_43 rfl ?_
          refine a_i2l fx d_Ar_octal_45 ?_
          refine a_ladd fx d_Ar_octal_46 ?_
          refine a_topl (fun y4 ey4 => ?_)
          have h := h y4 ey4
          refine a_lstore_n (lv2 := [(3, .long y4), (6, .int x3), (0, .ref (B + a0)), (1, .int i1), (2, .int i2), (5, .int v5)]) fx d_Ar_octal_47 rfl (by decide) rfl ?_
          obtain ⟨x5, ex5⟩ : ∃ z : Int32, z = v5 + 1 := ⟨_, rfl⟩
          have h := h x5 ex5
          refine a_iinc (lv2 := [(5, .int x5), (3, .long y4), (6, .int x3), (0, .ref (B + a0)), (1, .int i1), (2, .int i2)]) fx 5 d_Ar_octal_48 rfl ex5.symm (by decide) rfl ?_
          refine a_goto fx 5 d_Ar_octal_51 rfl ?_
          refine a_sub [3, 4, 5, 1, 0] rfl ?_
          exact h
        · have h := h.2 hc
          refine a_iconst (v := (-1)) fx d_Ar_octal_36 rfl ?_
          exact a_iret fx hlo hr h d_Ar_octal_37)
  refine a_lconst (v := 0) fx d_Ar_octal_0 rfl ?_
  refine a_lstore_n (lv2 := [(3, .long 0), (0, .ref (B + a0)), (1, .int i1), (2, .int i2)]) fx d_Ar_octal_1 rfl (by decide) rfl ?_
  refine a_iconst (v := 0) fx d_Ar_octal_2 rfl ?_
  refine a_istore (lv2 := [(5, .int 0), (3, .long 0), (0, .ref (B + a0)), (1, .int i1), (2, .int i2)]) fx d_Ar_octal_3 (by decide) rfl ?_
  refine a_sub [2, 3, 4, 1, 0] rfl ?_
  exact h
set_option maxRecDepth 100000 in
set_option maxHeartbeats 4000000 in
theorem Met_Ar_readFields (l : Launch) (B : Nat) (D : va_G) (aC : Nat → ClassId) (aS : Nat → Nat) {a0 : Nat} {i1 : Int32} {a2 : Nat} {M : zM} {post : zM → Prop} (hk0 : a0 < N0) (ht0 : tg a0 = 1) (hk2 : a2 < N0) (ht2 : tg a2 = 2) (h : Wp_Ar_readFields a0 i1 a2 M post) : Met l y_Ar_readFields (wo y_Ar_readFields b_Ar_readFields 4 none) { frames := 2, cells := 0, slots := 0, locals := 47 } (va_Pc [.ref (B + a0), .int i1, .ref (B + a2)] (zWl B D aC aS M)) (zQv B D aC post) 0 0 (zAb B) := by
  refine z_met (own := "MailChain$Archive") (lv0 := [(0, .ref (B + a0)), (1, .int i1), (2, .ref (B + a2))]) (by decide) rfl (Nat.le_of_ble_eq_true rfl) rfl ?_
  intro p e s m below meth c fx hr hlo
  delta Wp_Ar_readFields at h
  refine a_aload_n fx 0 d_Ar_readFields_0 rfl rfl ?_
  refine a_iload_n fx 1 d_Ar_readFields_1 rfl rfl ?_
  refine a_bipush (v := 18) fx d_Ar_readFields_2 rfl ?_
  refine a_iadd fx d_Ar_readFields_4 ?_
  refine a_bipush (v := 6) fx d_Ar_readFields_5 rfl ?_
  refine a_calli (rest := []) (a_runS (As := [.ref (B + a0), .int (i1 + 18), .int 6]) fx  cv_Ar_octal w_928 (Met_Ar_octal l B D aC aS (hk0 := hk0) (ht0 := ht0) h) rfl rfl (Nat.le_of_ble_eq_true rfl) rfl rfl ⟨Nat.le_of_ble_eq_true rfl, Nat.le_of_ble_eq_true rfl⟩ d_Ar_readFields_7 ⟨Nat.le_of_ble_eq_true rfl, Nat.le_of_ble_eq_true rfl⟩) (fun x2 M1 h => ?_)
  refine a_istore_n (lv2 := [(3, .int x2), (0, .ref (B + a0)), (1, .int i1), (2, .ref (B + a2))]) fx d_Ar_readFields_10 rfl (by decide) rfl ?_
  refine a_aload_n fx 3 d_Ar_readFields_11 rfl rfl ?_
  refine a_iload_n fx 0 d_Ar_readFields_12 rfl rfl ?_
  refine a_bipush (v := 12) fx d_Ar_readFields_13 rfl ?_
  refine a_ishr fx d_Ar_readFields_15 ?_
  refine a_calli (rest := [.ref (B + a2)]) (a_runS (As := [.int (x2 >>> (12 &&& 31))]) fx  cv_Ar_kindOf w_947 (Met_Ar_kindOf l B D aC aS  h) rfl rfl (Nat.le_of_ble_eq_true rfl) rfl rfl ⟨Nat.le_of_ble_eq_true rfl, Nat.le_of_ble_eq_true rfl⟩ d_Ar_readFields_16 ⟨Nat.le_of_ble_eq_true rfl, Nat.le_of_ble_eq_true rfl⟩) (fun x4 M3 h => ?_)
  refine a_putIN fx (T := F_En) (ty0 := t_En) (j := 1) (hk := hk2) (ht := ht2) (ht2 := by decide) (hc := rfl) (hin := u_in_En) (hty := t_En_ok) (hnm := n_En) (hj := by decide) (hj2 := by decide) (hf := rfl) (hT := rfl) (hfin := rfl) (hn := rfl) (hfit := rfl) (q9 := 12) (hw := rfl) (hd := d_Ar_readFields_19) (kk := a_mem (fun M5 eM5 => ?_))
  have h := h M5 eM5
  refine a_aload_n fx 3 d_Ar_readFields_22 rfl rfl ?_
  refine a_iload_n fx 0 d_Ar_readFields_23 rfl rfl ?_
  refine a_sipush (v := 4095) fx d_Ar_readFields_24 rfl ?_
  refine a_iand fx d_Ar_readFields_27 ?_
  refine a_putIN fx (T := F_En) (ty0 := t_En) (j := 2) (hk := hk2) (ht := ht2) (ht2 := by decide) (hc := rfl) (hin := u_in_En) (hty := t_En_ok) (hnm := n_En) (hj := by decide) (hj2 := by decide) (hf := rfl) (hT := rfl) (hfin := rfl) (hn := rfl) (hfit := rfl) (q9 := 15) (hw := rfl) (hd := d_Ar_readFields_28) (kk := a_mem (fun M6 eM6 => ?_))
  have h := h M6 eM6
  refine a_aload_n fx 3 d_Ar_readFields_31 rfl rfl ?_
  refine a_aload_n fx 1 d_Ar_readFields_32 rfl rfl ?_
  refine a_iload_n fx 2 d_Ar_readFields_33 rfl rfl ?_
  refine a_bipush (v := 24) fx d_Ar_readFields_34 rfl ?_
  refine a_iadd fx d_Ar_readFields_36 ?_
  refine a_bipush (v := 6) fx d_Ar_readFields_37 rfl ?_
  refine a_calli (rest := [.ref (B + a2)]) (a_runS (As := [.ref (B + a0), .int (i1 + 24), .int 6]) fx  cv_Ar_octal w_928 (Met_Ar_octal l B D aC aS (hk0 := hk0) (ht0 := ht0) h) rfl rfl (Nat.le_of_ble_eq_true rfl) rfl rfl ⟨Nat.le_of_ble_eq_true rfl, Nat.le_of_ble_eq_true rfl⟩ d_Ar_readFields_39 ⟨Nat.le_of_ble_eq_true rfl, Nat.le_of_ble_eq_true rfl⟩) (fun x8 M7 h => ?_)
  refine a_putIN fx (T := F_En) (ty0 := t_En) (j := 3) (hk := hk2) (ht := ht2) (ht2 := by decide) (hc := rfl) (hin := u_in_En) (hty := t_En_ok) (hnm := n_En) (hj := by decide) (hj2 := by decide) (hf := rfl) (hT := rfl) (hfin := rfl) (hn := rfl) (hfit := rfl) (q9 := 18) (hw := rfl) (hd := d_Ar_readFields_42) (kk := a_mem (fun M9 eM9 => ?_))
  have h := h M9 eM9
  refine a_aload_n fx 3 d_Ar_readFields_45 rfl rfl ?_
  refine a_aload_n fx 1 d_Ar_readFields_46 rfl rfl ?_
  refine a_iload_n fx 2 d_Ar_readFields_47 rfl rfl ?_
  refine a_bipush (v := 30) fx d_Ar_readFields_48 rfl ?_
  refine a_iadd fx d_Ar_readFields_50 ?_
  refine a_bipush (v := 6) fx d_Ar_readFields_51 rfl ?_
  refine a_calli (rest := [.ref (B + a2)]) (a_runS (As := [.ref (B + a0), .int (i1 + 30), .int 6]) fx  cv_Ar_octal w_928 (Met_Ar_octal l B D aC aS (hk0 := hk0) (ht0 := ht0) h) rfl rfl (Nat.le_of_ble_eq_true rfl) rfl rfl ⟨Nat.le_of_ble_eq_true rfl, Nat.le_of_ble_eq_true rfl⟩ d_Ar_readFields_53 ⟨Nat.le_of_ble_eq_true rfl, Nat.le_of_ble_eq_true rfl⟩) (fun x11 M10 h => ?_)
  refine a_putIN fx (T := F_En) (ty0 := t_En) (j := 4) (hk := hk2) (ht := ht2) (ht2 := by decide) (hc := rfl) (hin := u_in_En) (hty := t_En_ok) (hnm := n_En) (hj := by decide) (hj2 := by decide) (hf := rfl) (hT := rfl) (hfin := rfl) (hn := rfl) (hfit := rfl) (q9 := 21) (hw := rfl) (hd := d_Ar_readFields_56) (kk := a_mem (fun M12 eM12 => ?_))
  have h := h M12 eM12
  refine a_aload_n fx 3 d_Ar_readFields_59 rfl rfl ?_
  refine a_aload_n fx 1 d_Ar_readFields_60 rfl rfl ?_
  refine a_iload_n fx 2 d_Ar_readFields_61 rfl rfl ?_
  refine a_bipush (v := 48) fx d_Ar_readFields_62 rfl ?_
  refine a_iadd fx d_Ar_readFields_64 ?_
  refine a_bipush (v := 11) fx d_Ar_readFields_65 rfl ?_
  refine a_calli (rest := [.ref (B + a2)]) (a_runS (As := [.ref (B + a0), .int (i1 + 48), .int 11]) fx  cv_Ar_octal w_928 (Met_Ar_octal l B D aC aS (hk0 := hk0) (ht0 := ht0) h) rfl rfl (Nat.le_of_ble_eq_true rfl) rfl rfl ⟨Nat.le_of_ble_eq_true rfl, Nat.le_of_ble_eq_true rfl⟩ d_Ar_readFields_67 ⟨Nat.le_of_ble_eq_true rfl, Nat.le_of_ble_eq_true rfl⟩) (fun x14 M13 h => ?_)
  refine a_putIN fx (T := F_En) (ty0 := t_En) (j := 5) (hk := hk2) (ht := ht2) (ht2 := by decide) (hc := rfl) (hin := u_in_En) (hty := t_En_ok) (hnm := n_En) (hj := by decide) (hj2 := by decide) (hf := rfl) (hT := rfl) (hfin := rfl) (hn := rfl) (hfit := rfl) (q9 := 24) (hw := rfl) (hd := d_Ar_readFields_70) (kk := a_mem (fun M15 eM15 => ?_))
  have h := h M15 eM15
  exact a_vret fx hlo hr h d_Ar_readFields_73
set_option maxRecDepth 100000 in
set_option maxHeartbeats 4000000 in
theorem Met_Ar_readEntry (l : Launch) (B : Nat) (D : va_G) (aC : Nat → ClassId) (aS : Nat → Nat) {a0 : Nat} {i1 : Int32} {a2 : Nat} {M : zM} {post : Int32 → zM → Prop} (hk0 : a0 < N0) (ht0 : tg a0 = 1) (hk2 : a2 < N0) (ht2 : tg a2 = 3) (h : Wp_Ar_readEntry a0 i1 a2 M post) : Met l y_Ar_readEntry (wo y_Ar_readEntry b_Ar_readEntry 11 (some FieldType.int)) { frames := 5, cells := 0, slots := 0, locals := 119 } (va_Pc [.ref (B + a0), .int i1, .ref (B + a2)] (zWl B D aC aS M)) (zQi B D aC post) 0 0 (zAb B) := by
  refine z_met (own := "MailChain$Archive") (lv0 := [(0, .ref (B + a0)), (1, .int i1), (2, .ref (B + a2))]) (by decide) rfl (Nat.le_of_ble_eq_true rfl) rfl ?_
  intro p e s m below meth c fx hr hlo
  delta Wp_Ar_readEntry at h
  refine a_iload_n fx 1 d_Ar_readEntry_0 rfl rfl ?_
  refine a_bipush (v := 76) fx d_Ar_readEntry_1 rfl ?_
  refine a_iadd fx d_Ar_readEntry_3 ?_
  refine a_topi (fun x1 ex1 => ?_)
  have h := h x1 ex1
  refine a_istore_n (lv2 := [(3, .int x1), (0, .ref (B + a0)), (1, .int i1), (2, .ref (B + a2))]) fx d_Ar_readEntry_4 rfl (by decide) rfl ?_
  refine a_aload_n fx 1 d_Ar_readEntry_5 rfl rfl ?_
  refine a_iload_n fx 2 d_Ar_readEntry_6 rfl rfl ?_
  refine a_bipush (v := 59) fx d_Ar_readEntry_7 rfl ?_
  refine a_iadd fx d_Ar_readEntry_9 ?_
  refine a_bipush (v := 6) fx d_Ar_readEntry_10 rfl ?_
  refine a_calli (rest := []) (a_runS (As := [.ref (B + a0), .int (i1 + 59), .int 6]) fx  cv_Ar_octal w_928 (Met_Ar_octal l B D aC aS (hk0 := hk0) (ht0 := ht0) h) rfl rfl (Nat.le_of_ble_eq_true rfl) rfl rfl ⟨Nat.le_of_ble_eq_true rfl, Nat.le_of_ble_eq_true rfl⟩ d_Ar_readEntry_12 ⟨Nat.le_of_ble_eq_true rfl, Nat.le_of_ble_eq_true rfl⟩) (fun x3 M2 h => ?_)
  refine a_iconst (v := 1) fx d_Ar_readEntry_15 rfl ?_
  refine a_isub fx d_Ar_readEntry_16 ?_
  refine a_topi (fun x4 ex4 => ?_)
  have h := h x4 ex4
  refine a_istore (lv2 := [(4, .int x4), (3, .int x1), (0, .ref (B + a0)), (1, .int i1), (2, .ref (B + a2))]) fx d_Ar_readEntry_17 (by decide) rfl ?_
  refine a_iload_n fx 1 d_Ar_readEntry_19 rfl rfl ?_
  refine a_iload fx 0 d_Ar_readEntry_20 rfl ?_
  refine a_iadd fx d_Ar_readEntry_22 ?_
  refine a_iconst (v := 1) fx d_Ar_readEntry_23 rfl ?_
  refine a_iadd fx d_Ar_readEntry_24 ?_
  refine a_topi (fun x5 ex5 => ?_)
  have h := h x5 ex5
  refine a_istore (lv2 := [(5, .int x5), (4, .int x4), (3, .int x1), (0, .ref (B + a0)), (1, .int i1), (2, .ref (B + a2))]) fx d_Ar_readEntry_25 (by decide) rfl ?_
  refine a_aload_n fx 3 d_Ar_readEntry_27 rfl rfl ?_
  refine a_iload_n fx 4 d_Ar_readEntry_28 rfl rfl ?_
  refine a_bipush (v := 65) fx d_Ar_readEntry_29 rfl ?_
  refine a_iadd fx d_Ar_readEntry_31 ?_
  refine a_bipush (v := 11) fx d_Ar_readEntry_32 rfl ?_
  refine a_calli (rest := []) (a_runS (As := [.ref (B + a0), .int (i1 + 65), .int 11]) fx  cv_Ar_octal w_928 (Met_Ar_octal l B D aC aS (hk0 := hk0) (ht0 := ht0) h) rfl rfl (Nat.le_of_ble_eq_true rfl) rfl rfl ⟨Nat.le_of_ble_eq_true rfl, Nat.le_of_ble_eq_true rfl⟩ d_Ar_readEntry_34 ⟨Nat.le_of_ble_eq_true rfl, Nat.le_of_ble_eq_true rfl⟩) (fun x7 M6 h => ?_)
  refine a_istore (lv2 := [(6, .int x7), (5, .int x5), (4, .int x4), (3, .int x1), (0, .ref (B + a0)), (1, .int i1), (2, .ref (B + a2))]) fx d_Ar_readEntry_37 (by decide) rfl ?_
  refine a_iload fx 2 d_Ar_readEntry_39 rfl ?_
  refine a_iconst (v := 1) fx d_Ar_readEntry_41 rfl ?_
  refine a_icmp_lt fx 69 d_Ar_readEntry_42 rfl (fun hc => ?_) (fun hc => ?_)
  · have h := h.1 hc
    refine a_iconst (v := (-1)) fx d_Ar_readEntry_69 rfl ?_
    exact a_iret fx hlo hr h d_Ar_readEntry_70
  · have h := h.2 hc
    refine a_iload fx 2 d_Ar_readEntry_45 rfl ?_
    refine a_bipush (v := 60) fx d_Ar_readEntry_47 rfl ?_
    refine a_icmp_gt fx 69 d_Ar_readEntry_49 rfl (fun hc => ?_) (fun hc => ?_)
    · have h := h.1 hc
      refine a_iconst (v := (-1)) fx d_Ar_readEntry_69 rfl ?_
      exact a_iret fx hlo hr h d_Ar_readEntry_70
    · have h := h.2 hc
      refine a_iload fx 0 d_Ar_readEntry_52 rfl ?_
      refine a_if_lt fx 69 d_Ar_readEntry_54 rfl (fun hc => ?_) (fun hc => ?_)
      · have h := h.1 hc
        refine a_iconst (v := (-1)) fx d_Ar_readEntry_69 rfl ?_
        exact a_iret fx hlo hr h d_Ar_readEntry_70
      · have h := h.2 hc
        refine a_iload fx 0 d_Ar_readEntry_57 rfl ?_
        refine a_aload_n fx 4 d_Ar_readEntry_59 rfl rfl ?_
        refine a_getIN fx (T := F_Ro) (j := 1) (hk := hk0) (ht := ht0) (ht2 := by decide) (hc := rfl) (hin := u_in_Ro) (hj := by decide) (hj2 := by decide) (hf := rfl) (hT := rfl) (q9 := 3) (hw := rfl) (hd := d_Ar_readEntry_60) (kk := ?_)
        refine a_iload fx 1 d_Ar_readEntry_63 rfl ?_
        refine a_isub fx d_Ar_readEntry_65 ?_
        refine a_icmp_le fx 71 d_Ar_readEntry_66 rfl (fun hc => ?_) (fun hc => ?_)
        · have h := h.1 hc
          refine a_iload fx 1 d_Ar_readEntry_71 rfl ?_
          refine a_iload fx 0 d_Ar_readEntry_73 rfl ?_
          refine a_iadd fx d_Ar_readEntry_75 ?_
          refine a_topi (fun x8 ex8 => ?_)
          have h := h x8 ex8
          refine a_istore (lv2 := [(7, .int x8), (6, .int x7), (5, .int x5), (4, .int x4), (3, .int x1), (0, .ref (B + a0)), (1, .int i1), (2, .ref (B + a2))]) fx d_Ar_readEntry_76 (by decide) rfl ?_
          refine a_aload_n fx 7 d_Ar_readEntry_78 rfl rfl ?_
          refine a_callr (rest := []) (a_runV (As := []) fx cv_Tr_draft w_934 (Met_Tr_draft l B D aC aS (hk0 := hk2) (ht0 := ht2) h) hk2 ht2 (by decide) rfl rfl rfl (Nat.le_of_ble_eq_true rfl) rfl rfl ⟨Nat.le_of_ble_eq_true rfl, Nat.le_of_ble_eq_true rfl⟩ d_Ar_readEntry_79 ⟨Nat.le_of_ble_eq_true rfl, Nat.le_of_ble_eq_true rfl⟩) (fun r10 M9 h => ?_)
          obtain ⟨hkr10, htr10, h⟩ := h
          refine a_astore (lv2 := [(8, .ref (B + r10)), (7, .int x8), (6, .int x7), (5, .int x5), (4, .int x4), (3, .int x1), (0, .ref (B + a0)), (1, .int i1), (2, .ref (B + a2))]) fx d_Ar_readEntry_82 (by decide) rfl ?_
          refine a_aload fx 0 d_Ar_readEntry_84 rfl ?_
          refine a_getSN fx (T := F_En) (j := 0) (hk := hkr10) (ht := htr10) (ht2 := by decide) (hc := rfl) (hin := u_in_En) (hj := by decide) (hj2 := by decide) (hf := rfl) (n9 := 1) (hfo := rfl) (hT := rfl) (q9 := 9) (hw := rfl) (hd := d_Ar_readEntry_86) (kk := ?_)
          refine a_aload_n fx 6 d_Ar_readEntry_89 rfl rfl ?_
          refine a_iload_n fx 5 d_Ar_readEntry_90 rfl rfl ?_
          refine a_iload_n fx 5 d_Ar_readEntry_91 rfl rfl ?_
          refine a_iload fx 4 d_Ar_readEntry_92 rfl ?_
          refine a_iadd fx d_Ar_readEntry_94 ?_
          refine a_callv (rest := []) (a_runV (As := [.ref (B + a0), .int x1, .int (x1 + x4)]) fx cv_Ro_copy w_938 (Met_Ro_copy l B D aC aS (hk0 := (lo_2_0 hkr10 htr10).1) (ht0 := (lo_2_0 hkr10 htr10).2) (hk1 := hk0) (ht1 := ht0) h) (lo_2_0 hkr10 htr10).1 (lo_2_0 hkr10 htr10).2 (by decide) rfl rfl rfl (Nat.le_of_ble_eq_true rfl) rfl rfl ⟨Nat.le_of_ble_eq_true rfl, Nat.le_of_ble_eq_true rfl⟩ d_Ar_readEntry_95 ⟨Nat.le_of_ble_eq_true rfl, Nat.le_of_ble_eq_true rfl⟩) (fun M11 h => ?_)
          refine a_aload_n fx 6 d_Ar_readEntry_98 rfl rfl ?_
          refine a_iload_n fx 7 d_Ar_readEntry_99 rfl rfl ?_
          refine a_aload fx 0 d_Ar_readEntry_100 rfl ?_
          refine a_callv (rest := []) (a_runS (As := [.ref (B + a0), .int i1, .ref (B + r10)]) fx  cv_Ar_readFields w_944 (Met_Ar_readFields l B D aC aS (hk0 := hk0) (ht0 := ht0) (hk2 := hkr10) (ht2 := htr10) h) rfl rfl (Nat.le_of_ble_eq_true rfl) rfl rfl ⟨Nat.le_of_ble_eq_true rfl, Nat.le_of_ble_eq_true rfl⟩ d_Ar_readEntry_102 ⟨Nat.le_of_ble_eq_true rfl, Nat.le_of_ble_eq_true rfl⟩) (fun M12 h => ?_)
          refine a_aload_n fx 6 d_Ar_readEntry_105 rfl rfl ?_
          refine a_iload_n fx 7 d_Ar_readEntry_106 rfl rfl ?_
          refine a_bipush (v := 12) fx d_Ar_readEntry_107 rfl ?_
          refine a_iadd fx d_Ar_readEntry_109 ?_
          refine a_bipush (v := 6) fx d_Ar_readEntry_110 rfl ?_
          refine a_calli (rest := []) (a_runS (As := [.ref (B + a0), .int (i1 + 12), .int 6]) fx  cv_Ar_octal w_928 (Met_Ar_octal l B D aC aS (hk0 := hk0) (ht0 := ht0) h) rfl rfl (Nat.le_of_ble_eq_true rfl) rfl rfl ⟨Nat.le_of_ble_eq_true rfl, Nat.le_of_ble_eq_true rfl⟩ d_Ar_readEntry_112 ⟨Nat.le_of_ble_eq_true rfl, Nat.le_of_ble_eq_true rfl⟩) (fun x14 M13 h => ?_)
          refine a_istore (lv2 := [(9, .int x14), (8, .ref (B + r10)), (7, .int x8), (6, .int x7), (5, .int x5), (4, .int x4), (3, .int x1), (0, .ref (B + a0)), (1, .int i1), (2, .ref (B + a2))]) fx d_Ar_readEntry_115 (by decide) rfl ?_
          refine a_iload fx 0 d_Ar_readEntry_117 rfl ?_
          refine a_aload_n fx 9 d_Ar_readEntry_119 rfl rfl ?_
          refine a_getIN fx (T := F_Tr) (j := 2) (hk := hk2) (ht := ht2) (ht2 := by decide) (hc := rfl) (hin := u_in_Tr) (hj := by decide) (hj2 := by decide) (hf := rfl) (hT := rfl) (q9 := 34) (hw := rfl) (hd := d_Ar_readEntry_120) (kk := ?_)
          refine a_iconst (v := 1) fx d_Ar_readEntry_123 rfl ?_
          refine a_iadd fx d_Ar_readEntry_124 ?_
          refine a_icmp_ne fx 140 d_Ar_readEntry_125 rfl (fun hc => ?_) (fun hc => ?_)
          · have h := h.1 hc
            refine a_aload_n fx 9 d_Ar_readEntry_140 rfl rfl ?_
            refine a_iload fx 0 d_Ar_readEntry_141 rfl ?_
            refine a_iconst (v := 1) fx d_Ar_readEntry_143 rfl ?_
            refine a_isub fx d_Ar_readEntry_144 ?_
            refine a_calli (rest := []) (a_runV (As := [.int (x14 - 1)]) fx cv_Tr_enterLink w_1001 (Met_Tr_enterLink l B D aC aS (hk0 := hk2) (ht0 := ht2) h) hk2 ht2 (by decide) rfl rfl rfl (Nat.le_of_ble_eq_true rfl) rfl rfl ⟨Nat.le_of_ble_eq_true rfl, Nat.le_of_ble_eq_true rfl⟩ d_Ar_readEntry_145 ⟨Nat.le_of_ble_eq_true rfl, Nat.le_of_ble_eq_true rfl⟩) (fun x16 M15 h => ?_)
            refine a_istore (lv2 := [(10, .int x16), (9, .int x14), (8, .ref (B + r10)), (7, .int x8), (6, .int x7), (5, .int x5), (4, .int x4), (3, .int x1), (0, .ref (B + a0)), (1, .int i1), (2, .ref (B + a2))]) fx d_Ar_readEntry_148 (by decide) rfl ?_
            refine a_iload fx 0 d_Ar_readEntry_150 rfl ?_
            refine a_if_ne fx 160 d_Ar_readEntry_152 rfl (fun hc => ?_) (fun hc => ?_)
            · have h := h.1 hc
              refine a_iconst (v := (-1)) fx d_Ar_readEntry_160 rfl ?_
              exact a_iret fx hlo hr h d_Ar_readEntry_161
            · have h := h.2 hc
              refine a_iload fx 3 d_Ar_readEntry_155 rfl ?_
              refine a_goto fx 161 d_Ar_readEntry_157 rfl ?_
              exact a_iret fx hlo hr h d_Ar_readEntry_161
          · have h := h.2 hc
            refine a_aload_n fx 9 d_Ar_readEntry_128 rfl rfl ?_
            refine a_aload_n fx 7 d_Ar_readEntry_129 rfl rfl ?_
            refine a_iload fx 4 d_Ar_readEntry_130 rfl ?_
            refine a_iload fx 2 d_Ar_readEntry_132 rfl ?_
            refine a_calli (rest := []) (a_runV (As := [.ref (B + a0), .int x5, .int x8]) fx cv_Tr_enter w_953 (Met_Tr_enter l B D aC aS (hk0 := hk2) (ht0 := ht2) (hk1 := hk0) (ht1 := ht0) h) hk2 ht2 (by decide) rfl rfl rfl (Nat.le_of_ble_eq_true rfl) rfl rfl ⟨Nat.le_of_ble_eq_true rfl, Nat.le_of_ble_eq_true rfl⟩ d_Ar_readEntry_134 ⟨Nat.le_of_ble_eq_true rfl, Nat.le_of_ble_eq_true rfl⟩) (fun x18 M17 h => ?_)
            refine a_goto fx 148 d_Ar_readEntry_137 rfl ?_
            refine a_istore (lv2 := [(10, .int x18), (9, .int x14), (8, .ref (B + r10)), (7, .int x8), (6, .int x7), (5, .int x5), (4, .int x4), (3, .int x1), (0, .ref (B + a0)), (1, .int i1), (2, .ref (B + a2))]) fx d_Ar_readEntry_148 (by decide) rfl ?_
            refine a_iload fx 0 d_Ar_readEntry_150 rfl ?_
            refine a_if_ne fx 160 d_Ar_readEntry_152 rfl (fun hc => ?_) (fun hc => ?_)
            · have h := h.1 hc
              refine a_iconst (v := (-1)) fx d_Ar_readEntry_160 rfl ?_
              exact a_iret fx hlo hr h d_Ar_readEntry_161
            · have h := h.2 hc
              refine a_iload fx 3 d_Ar_readEntry_155 rfl ?_
              refine a_goto fx 161 d_Ar_readEntry_157 rfl ?_
              exact a_iret fx hlo hr h d_Ar_readEntry_161
        · have h := h.2 hc
          refine a_iconst (v := (-1)) fx d_Ar_readEntry_69 rfl ?_
          exact a_iret fx hlo hr h d_Ar_readEntry_70
set_option maxRecDepth 100000 in
set_option maxHeartbeats 4000000 in
theorem Met_Ar_read (l : Launch) (B : Nat) (D : va_G) (aC : Nat → ClassId) (aS : Nat → Nat) {a0 : Nat} {a1 : Nat} {M : zM} {post : Int32 → zM → Prop} (hk0 : a0 < N0) (ht0 : tg a0 = 1) (hk1 : a1 < N0) (ht1 : tg a1 = 3) (h : Wp_Ar_read a0 a1 M post) : Met l y_Ar_read (wo y_Ar_read b_Ar_read 4 (some FieldType.boolean)) { frames := 6, cells := 0, slots := 0, locals := 149 } (va_Pc [.ref (B + a0), .ref (B + a1)] (zWl B D aC aS M)) (zQi B D aC post) 0 0 (zAb B) := by
  refine z_met (own := "MailChain$Archive") (lv0 := [(0, .ref (B + a0)), (1, .ref (B + a1))]) (by decide) rfl (Nat.le_of_ble_eq_true rfl) rfl ?_
  intro p e s m below meth c fx hr hlo
  delta Wp_Ar_read at h
  have h := h (fun v2 v3 M => zAt p l e { frames := 6, cells := 0, slots := 0, locals := 149 } s m ([.ref (B + a0), .ref (B + a1)] : List Value).toArray below meth c 0 0 (MQ below (zQi B D aC post) ([.ref (B + a0), .ref (B + a1)] : List Value).toArray s 0 0 (zAb B)) B D aC 4 8 [(0, .ref (B + a0)), (1, .ref (B + a1)), (2, .int v2), (3, .int v3)] [] M)
  have h := h (by
    intro v2 v3 M h
    refine a_iload_n fx 3 d_Ar_read_8 rfl rfl ?_
    refine a_bipush (v := 40) fx d_Ar_read_9 rfl ?_
    refine a_icmp_gt fx 44 d_Ar_read_11 rfl (fun hc => ?_) (fun hc => ?_)
    · have h := h.1 hc
      refine a_iconst (v := 0) fx d_Ar_read_44 rfl ?_
      exact a_zret fx hlo hr rfl h d_Ar_read_45
    · have h := h.2 hc
      refine a_iload_n fx 2 d_Ar_read_14 rfl rfl ?_
      refine a_iconst (v := (-1)) fx d_Ar_read_15 rfl ?_
      refine a_icmp_eq fx 44 d_Ar_read_16 rfl (fun hc => ?_) (fun hc => ?_)
      · have h := h.1 hc
        refine a_iconst (v := 0) fx d_Ar_read_44 rfl ?_
        exact a_zret fx hlo hr rfl h d_Ar_read_45
      · have h := h.2 hc
        refine a_aload_n fx 0 d_Ar_read_19 rfl rfl ?_
        refine a_ldcS fx 6 (by decide) rfl rfl (q := 6) rfl d_Ar_read_20 ?_
        refine a_iload_n fx 2 d_Ar_read_22 rfl rfl ?_
        refine a_calli (rest := []) (a_runV (As := [.ref (aS 6), .int v2]) fx cv_Ro_hasText w_924 (Met_Ro_hasText l B D aC aS (hk0 := hk0) (ht0 := ht0) (hs1 := (by decide)) h) hk0 ht0 (by decide) rfl rfl rfl (Nat.le_of_ble_eq_true rfl) rfl rfl ⟨Nat.le_of_ble_eq_true rfl, Nat.le_of_ble_eq_true rfl⟩ d_Ar_read_23 ⟨Nat.le_of_ble_eq_true rfl, Nat.le_of_ble_eq_true rfl⟩) (fun x3 M2 h => ?_)
        refine a_if_eq fx 31 d_Ar_read_26 rfl (fun hc => ?_) (fun hc => ?_)
        · have h := h.1 hc
          refine a_aload_n fx 0 d_Ar_read_31 rfl rfl ?_
          refine a_iload_n fx 2 d_Ar_read_32 rfl rfl ?_
          refine a_aload_n fx 1 d_Ar_read_33 rfl rfl ?_
          refine a_calli (rest := []) (a_runS (As := [.ref (B + a0), .int v2, .ref (B + a1)]) fx  cv_Ar_readEntry w_925 (Met_Ar_readEntry l B D aC aS (hk0 := hk0) (ht0 := ht0) (hk2 := hk1) (ht2 := ht1) h) rfl rfl (Nat.le_of_ble_eq_true rfl) rfl rfl ⟨Nat.le_of_ble_eq_true rfl, Nat.le_of_ble_eq_true rfl⟩ d_Ar_read_34 ⟨Nat.le_of_ble_eq_true rfl, Nat.le_of_ble_eq_true rfl⟩) (fun x5 M4 h => ?_)
          refine a_istore_n (lv2 := [(2, .int x5), (0, .ref (B + a0)), (1, .ref (B + a1)), (3, .int v3)]) fx d_Ar_read_37 rfl (by decide) rfl ?_
          obtain ⟨x6, ex6⟩ : ∃ z : Int32, z = v3 + 1 := ⟨_, rfl⟩
          have h := h x6 ex6
          refine a_iinc (lv2 := [(3, .int x6), (2, .int x5), (0, .ref (B + a0)), (1, .ref (B + a1))]) fx 3 d_Ar_read_38 rfl ex6.symm (by decide) rfl ?_
          refine a_goto fx 8 d_Ar_read_41 rfl ?_
          refine a_sub [2, 3, 1, 0] rfl ?_
          exact h
        · have h := h.2 hc
          refine a_iconst (v := 1) fx d_Ar_read_29 rfl ?_
          exact a_zret fx hlo hr rfl h d_Ar_read_30)
  refine a_aload_n fx 1 d_Ar_read_0 rfl rfl ?_
  refine a_callv (rest := []) (a_runV (As := []) fx cv_Tr_wipe w_922 (Met_Tr_wipe l B D aC aS (hk0 := hk1) (ht0 := ht1) h) hk1 ht1 (by decide) rfl rfl rfl (Nat.le_of_ble_eq_true rfl) rfl rfl ⟨Nat.le_of_ble_eq_true rfl, Nat.le_of_ble_eq_true rfl⟩ d_Ar_read_1 ⟨Nat.le_of_ble_eq_true rfl, Nat.le_of_ble_eq_true rfl⟩) (fun M1 h => ?_)
  refine a_iconst (v := 0) fx d_Ar_read_4 rfl ?_
  refine a_istore_n (lv2 := [(2, .int 0), (0, .ref (B + a0)), (1, .ref (B + a1))]) fx d_Ar_read_5 rfl (by decide) rfl ?_
  refine a_iconst (v := 0) fx d_Ar_read_6 rfl ?_
  refine a_istore_n (lv2 := [(3, .int 0), (2, .int 0), (0, .ref (B + a0)), (1, .ref (B + a1))]) fx d_Ar_read_7 rfl (by decide) rfl ?_
  refine a_sub [2, 3, 1, 0] rfl ?_
  exact h
set_option maxRecDepth 100000 in
set_option maxHeartbeats 4000000 in
theorem Met_Mc_clear (l : Launch) (B : Nat) (D : va_G) (aC : Nat → ClassId) (aS : Nat → Nat) {a0 : Nat} {M : zM} {post : Int32 → zM → Prop} (hk0 : a0 < N0) (ht0 : tg a0 = 0) (h : Wp_Mc_clear a0 M post) : Met l y_Mc_clear (wo y_Mc_clear b_Mc_clear 2 (some FieldType.int)) { frames := 2, cells := 0, slots := 0, locals := 40 } (va_Pc [.ref (B + a0)] (zWl B D aC aS M)) (zQi B D aC post) 0 0 (zAb B) := by
  refine z_met (own := "MailChain") (lv0 := [(0, .ref (B + a0))]) (by decide) rfl (Nat.le_of_ble_eq_true rfl) rfl ?_
  intro p e s m below meth c fx hr hlo
  delta Wp_Mc_clear at h
  refine a_aload_n fx 0 d_Mc_clear_0 rfl rfl ?_
  refine a_getS fx (T := F_Mc) (j := 1) (hk := hk0) (ht := ht0) (ht2 := by decide) (hc := rfl) (hin := u_in_Mc) (hj := by decide) (hj2 := by decide) (hf := rfl) (n9 := 3) (hfo := rfl) (hT := rfl) (hw := w_305) (hd := d_Mc_clear_1) (kk := ?_)
  refine a_getIN fx (T := F_Tr) (j := 2) (hk := (lo_0_1 hk0 ht0).1) (ht := (lo_0_1 hk0 ht0).2) (ht2 := by decide) (hc := rfl) (hin := u_in_Tr) (hj := by decide) (hj2 := by decide) (hf := rfl) (hT := rfl) (q9 := 35) (hw := rfl) (hd := d_Mc_clear_4) (kk := ?_)
  refine a_topi (fun x1 ex1 => ?_)
  have h := h x1 ex1
  refine a_istore_n (lv2 := [(1, .int x1), (0, .ref (B + a0))]) fx d_Mc_clear_7 rfl (by decide) rfl ?_
  refine a_aload_n fx 1 d_Mc_clear_8 rfl rfl ?_
  refine a_getS fx (T := F_Mc) (j := 1) (hk := hk0) (ht := ht0) (ht2 := by decide) (hc := rfl) (hin := u_in_Mc) (hj := by decide) (hj2 := by decide) (hf := rfl) (n9 := 3) (hfo := rfl) (hT := rfl) (hw := w_305) (hd := d_Mc_clear_9) (kk := ?_)
  refine a_callv (rest := []) (a_runV (As := []) fx cv_Tr_wipe w_351 (Met_Tr_wipe l B D aC aS (hk0 := (lo_0_1 hk0 ht0).1) (ht0 := (lo_0_1 hk0 ht0).2) h) (lo_0_1 hk0 ht0).1 (lo_0_1 hk0 ht0).2 (by decide) rfl rfl rfl (Nat.le_of_ble_eq_true rfl) rfl rfl ⟨Nat.le_of_ble_eq_true rfl, Nat.le_of_ble_eq_true rfl⟩ d_Mc_clear_12 ⟨Nat.le_of_ble_eq_true rfl, Nat.le_of_ble_eq_true rfl⟩) (fun M2 h => ?_)
  refine a_aload_n fx 1 d_Mc_clear_15 rfl rfl ?_
  refine a_iconst (v := 0) fx d_Mc_clear_16 rfl ?_
  refine a_putI fx (T := F_Mc) (ty0 := t_Mc) (j := 5) (hk := hk0) (ht := ht0) (ht2 := by decide) (hc := rfl) (hin := u_in_Mc) (hty := t_Mc_ok) (hnm := n_Mc) (hj := by decide) (hj2 := by decide) (hf := rfl) (hT := rfl) (hfin := rfl) (hn := rfl) (hfit := rfl) (hw := w_309) (hd := d_Mc_clear_17) (kk := a_mem (fun M3 eM3 => ?_))
  have h := h M3 eM3
  refine a_iload_n fx 0 d_Mc_clear_20 rfl rfl ?_
  exact a_iret fx hlo hr h d_Mc_clear_21
set_option maxRecDepth 100000 in
set_option maxHeartbeats 4000000 in
theorem Met_Mc_refreshArchive (l : Launch) (B : Nat) (D : va_G) (aC : Nat → ClassId) (aS : Nat → Nat) {a0 : Nat} {M : zM} {post : zM → Prop} (hk0 : a0 < N0) (ht0 : tg a0 = 0) (h : Wp_Mc_refreshArchive a0 M post) : Met l y_Mc_refreshArchive (wo y_Mc_refreshArchive b_Mc_refreshArchive 1 none) { frames := 7, cells := 0, slots := 0, locals := 153 } (va_Pc [.ref (B + a0)] (zWl B D aC aS M)) (zQv B D aC post) 0 0 (zAb B) := by
  refine z_met (own := "MailChain") (lv0 := [(0, .ref (B + a0))]) (by decide) rfl (Nat.le_of_ble_eq_true rfl) rfl ?_
  intro p e s m below meth c fx hr hlo
  delta Wp_Mc_refreshArchive at h
  refine a_aload_n fx 0 d_Mc_refreshArchive_0 rfl rfl ?_
  refine a_getI fx (T := F_Mc) (j := 5) (hk := hk0) (ht := ht0) (ht2 := by decide) (hc := rfl) (hin := u_in_Mc) (hj := by decide) (hj2 := by decide) (hf := rfl) (hT := rfl) (hw := w_309) (hd := d_Mc_refreshArchive_1) (kk := ?_)
  refine a_if_ne fx 23 d_Mc_refreshArchive_4 rfl (fun hc => ?_) (fun hc => ?_)
  · have h := h.1 hc
    exact a_vret fx hlo hr h d_Mc_refreshArchive_23
  · have h := h.2 hc
    refine a_aload_n fx 0 d_Mc_refreshArchive_7 rfl rfl ?_
    refine a_getS fx (T := F_Mc) (j := 1) (hk := hk0) (ht := ht0) (ht2 := by decide) (hc := rfl) (hin := u_in_Mc) (hj := by decide) (hj2 := by decide) (hf := rfl) (n9 := 3) (hfo := rfl) (hT := rfl) (hw := w_305) (hd := d_Mc_refreshArchive_8) (kk := ?_)
    refine a_aload_n fx 0 d_Mc_refreshArchive_11 rfl rfl ?_
    refine a_getS fx (T := F_Mc) (j := 4) (hk := hk0) (ht := ht0) (ht2 := by decide) (hc := rfl) (hin := u_in_Mc) (hj := by decide) (hj2 := by decide) (hf := rfl) (n9 := 384) (hfo := rfl) (hT := rfl) (hw := w_308) (hd := d_Mc_refreshArchive_12) (kk := ?_)
    refine a_callv (rest := []) (a_runS (As := [.ref (B + (a0 + 3)), .ref (B + (a0 + 384))]) fx  cv_Ar_write w_1009 (Met_Ar_write l B D aC aS (hk0 := (lo_0_1 hk0 ht0).1) (ht0 := (lo_0_1 hk0 ht0).2) (hk1 := (lo_0_4 hk0 ht0).1) (ht1 := (lo_0_4 hk0 ht0).2) h) rfl rfl (Nat.le_of_ble_eq_true rfl) rfl rfl ⟨Nat.le_of_ble_eq_true rfl, Nat.le_of_ble_eq_true rfl⟩ d_Mc_refreshArchive_15 ⟨Nat.le_of_ble_eq_true rfl, Nat.le_of_ble_eq_true rfl⟩) (fun M1 h => ?_)
    refine a_aload_n fx 0 d_Mc_refreshArchive_18 rfl rfl ?_
    refine a_iconst (v := 1) fx d_Mc_refreshArchive_19 rfl ?_
    refine a_putI fx (T := F_Mc) (ty0 := t_Mc) (j := 5) (hk := hk0) (ht := ht0) (ht2 := by decide) (hc := rfl) (hin := u_in_Mc) (hty := t_Mc_ok) (hnm := n_Mc) (hj := by decide) (hj2 := by decide) (hf := rfl) (hT := rfl) (hfin := rfl) (hn := rfl) (hfit := rfl) (hw := w_309) (hd := d_Mc_refreshArchive_20) (kk := a_mem (fun M2 eM2 => ?_))
    have h := h M2 eM2
    exact a_vret fx hlo hr h d_Mc_refreshArchive_23
set_option maxRecDepth 100000 in
set_option maxHeartbeats 4000000 in
theorem Met_Mc_checksum (l : Launch) (B : Nat) (D : va_G) (aC : Nat → ClassId) (aS : Nat → Nat) {a0 : Nat} {M : zM} {post : Int32 → zM → Prop} (hk0 : a0 < N0) (ht0 : tg a0 = 0) (h : Wp_Mc_checksum a0 M post) : Met l y_Mc_checksum (wo y_Mc_checksum b_Mc_checksum 2 (some FieldType.int)) { frames := 2, cells := 0, slots := 0, locals := 46 } (va_Pc [.ref (B + a0)] (zWl B D aC aS M)) (zQi B D aC post) 0 0 (zAb B) := by
  refine z_met (own := "MailChain") (lv0 := [(0, .ref (B + a0))]) (by decide) rfl (Nat.le_of_ble_eq_true rfl) rfl ?_
  intro p e s m below meth c fx hr hlo
  delta Wp_Mc_checksum at h
  refine a_aload_n fx 0 d_Mc_checksum_0 rfl rfl ?_
  refine a_getS fx (T := F_Mc) (j := 0) (hk := hk0) (ht := ht0) (ht2 := by decide) (hc := rfl) (hin := u_in_Mc) (hj := by decide) (hj2 := by decide) (hf := rfl) (n9 := 1) (hfo := rfl) (hT := rfl) (hw := w_304) (hd := d_Mc_checksum_1) (kk := ?_)
  refine a_iconst (v := 0) fx d_Mc_checksum_4 rfl ?_
  refine a_aload_n fx 0 d_Mc_checksum_5 rfl rfl ?_
  refine a_getS fx (T := F_Mc) (j := 0) (hk := hk0) (ht := ht0) (ht2 := by decide) (hc := rfl) (hin := u_in_Mc) (hj := by decide) (hj2 := by decide) (hf := rfl) (n9 := 1) (hfo := rfl) (hT := rfl) (hw := w_304) (hd := d_Mc_checksum_6) (kk := ?_)
  refine a_getIN fx (T := F_Ro) (j := 1) (hk := (lo_0_0 hk0 ht0).1) (ht := (lo_0_0 hk0 ht0).2) (ht2 := by decide) (hc := rfl) (hin := u_in_Ro) (hj := by decide) (hj2 := by decide) (hf := rfl) (hT := rfl) (q9 := 4) (hw := rfl) (hd := d_Mc_checksum_9) (kk := ?_)
  refine a_calli (rest := []) (a_runV (As := [.int 0, .int (M.1 (a0 + 1) 1)]) fx cv_Ro_sum w_363 (Met_Ro_sum l B D aC aS (hk0 := (lo_0_0 hk0 ht0).1) (ht0 := (lo_0_0 hk0 ht0).2) h) (lo_0_0 hk0 ht0).1 (lo_0_0 hk0 ht0).2 (by decide) rfl rfl rfl (Nat.le_of_ble_eq_true rfl) rfl rfl ⟨Nat.le_of_ble_eq_true rfl, Nat.le_of_ble_eq_true rfl⟩ d_Mc_checksum_12 ⟨Nat.le_of_ble_eq_true rfl, Nat.le_of_ble_eq_true rfl⟩) (fun x2 M1 h => ?_)
  refine a_istore_n (lv2 := [(1, .int x2), (0, .ref (B + a0))]) fx d_Mc_checksum_15 rfl (by decide) rfl ?_
  refine a_aload_n fx 1 d_Mc_checksum_16 rfl rfl ?_
  refine a_getS fx (T := F_Mc) (j := 0) (hk := hk0) (ht := ht0) (ht2 := by decide) (hc := rfl) (hin := u_in_Mc) (hj := by decide) (hj2 := by decide) (hf := rfl) (n9 := 1) (hfo := rfl) (hT := rfl) (hw := w_304) (hd := d_Mc_checksum_17) (kk := ?_)
  refine a_callv (rest := []) (a_runV (As := []) fx cv_Ro_wipe w_376 (Met_Ro_wipe l B D aC aS (hk0 := (lo_0_0 hk0 ht0).1) (ht0 := (lo_0_0 hk0 ht0).2) h) (lo_0_0 hk0 ht0).1 (lo_0_0 hk0 ht0).2 (by decide) rfl rfl rfl (Nat.le_of_ble_eq_true rfl) rfl rfl ⟨Nat.le_of_ble_eq_true rfl, Nat.le_of_ble_eq_true rfl⟩ d_Mc_checksum_20 ⟨Nat.le_of_ble_eq_true rfl, Nat.le_of_ble_eq_true rfl⟩) (fun M3 h => ?_)
  refine a_iload_n fx 0 d_Mc_checksum_23 rfl rfl ?_
  exact a_iret fx hlo hr h d_Mc_checksum_24
set_option maxRecDepth 100000 in
set_option maxHeartbeats 4000000 in
theorem Met_Mc_receive (l : Launch) (B : Nat) (D : va_G) (aC : Nat → ClassId) (aS : Nat → Nat) {a0 : Nat} {M : zM} {post : Int32 → zM → Prop} (hk0 : a0 < N0) (ht0 : tg a0 = 0) (h : Wp_Mc_receive a0 M post) : Met l y_Mc_receive (wo y_Mc_receive b_Mc_receive 2 (some FieldType.int)) { frames := 8, cells := 0, slots := 0, locals := 179 } (va_Pc [.ref (B + a0)] (zWl B D aC aS M)) (zQi B D aC post) 0 0 (zAb B) := by
  refine z_met (own := "MailChain") (lv0 := [(0, .ref (B + a0))]) (by decide) rfl (Nat.le_of_ble_eq_true rfl) rfl ?_
  intro p e s m below meth c fx hr hlo
  delta Wp_Mc_receive at h
  refine a_aload_n fx 0 d_Mc_receive_0 rfl rfl ?_
  refine a_getS fx (T := F_Mc) (j := 7) (hk := hk0) (ht := ht0) (ht2 := by decide) (hc := rfl) (hin := u_in_Mc) (hj := by decide) (hj2 := by decide) (hf := rfl) (n9 := 392) (hfo := rfl) (hT := rfl) (hw := w_311) (hd := d_Mc_receive_1) (kk := ?_)
  refine a_aload_n fx 0 d_Mc_receive_4 rfl rfl ?_
  refine a_getS fx (T := F_Mc) (j := 0) (hk := hk0) (ht := ht0) (ht2 := by decide) (hc := rfl) (hin := u_in_Mc) (hj := by decide) (hj2 := by decide) (hf := rfl) (n9 := 1) (hfo := rfl) (hT := rfl) (hw := w_304) (hd := d_Mc_receive_5) (kk := ?_)
  refine a_calli (rest := []) (a_runV (As := [.ref (B + (a0 + 1))]) fx cv_Bo_take w_381 (Met_Bo_take l B D aC aS (hk0 := (lo_0_7 hk0 ht0).1) (ht0 := (lo_0_7 hk0 ht0).2) (hk1 := (lo_0_0 hk0 ht0).1) (ht1 := (lo_0_0 hk0 ht0).2) h) (lo_0_7 hk0 ht0).1 (lo_0_7 hk0 ht0).2 (by decide) rfl rfl rfl (Nat.le_of_ble_eq_true rfl) rfl rfl ⟨Nat.le_of_ble_eq_true rfl, Nat.le_of_ble_eq_true rfl⟩ d_Mc_receive_8 ⟨Nat.le_of_ble_eq_true rfl, Nat.le_of_ble_eq_true rfl⟩) (fun x2 M1 h => ?_)
  refine a_istore_n (lv2 := [(1, .int x2), (0, .ref (B + a0))]) fx d_Mc_receive_11 rfl (by decide) rfl ?_
  refine a_aload_n fx 1 d_Mc_receive_12 rfl rfl ?_
  refine a_getS fx (T := F_Mc) (j := 0) (hk := hk0) (ht := ht0) (ht2 := by decide) (hc := rfl) (hin := u_in_Mc) (hj := by decide) (hj2 := by decide) (hf := rfl) (n9 := 1) (hfo := rfl) (hT := rfl) (hw := w_304) (hd := d_Mc_receive_13) (kk := ?_)
  refine a_callv (rest := []) (a_runV (As := []) fx cv_Ro_wipe w_376 (Met_Ro_wipe l B D aC aS (hk0 := (lo_0_0 hk0 ht0).1) (ht0 := (lo_0_0 hk0 ht0).2) h) (lo_0_0 hk0 ht0).1 (lo_0_0 hk0 ht0).2 (by decide) rfl rfl rfl (Nat.le_of_ble_eq_true rfl) rfl rfl ⟨Nat.le_of_ble_eq_true rfl, Nat.le_of_ble_eq_true rfl⟩ d_Mc_receive_16 ⟨Nat.le_of_ble_eq_true rfl, Nat.le_of_ble_eq_true rfl⟩) (fun M3 h => ?_)
  refine a_iload_n fx 0 d_Mc_receive_19 rfl rfl ?_
  exact a_iret fx hlo hr h d_Mc_receive_20
set_option maxRecDepth 100000 in
set_option maxHeartbeats 4000000 in
theorem Met_Mc_textOfTape (l : Launch) (B : Nat) (D : va_G) (aC : Nat → ClassId) (aS : Nat → Nat) {a0 : Nat} {i1 : Int32} {i2 : Int32} {M : zM} {post : Nat → zM → Prop} (hk0 : a0 < N0) (ht0 : tg a0 = 0) (h : Wp_Mc_textOfTape a0 i1 i2 M post) : Met l y_Mc_textOfTape (wo y_Mc_textOfTape b_Mc_textOfTape 3 (some (FieldType.object "MailChain$Row"))) { frames := 6, cells := 0, slots := 0, locals := 139 } (va_Pc [.ref (B + a0), .int i1, .int i2] (zWl B D aC aS M)) (zQr B D aC post) 0 0 (zAb B) := by
  refine z_met (own := "MailChain") (lv0 := [(0, .ref (B + a0)), (1, .int i1), (2, .int i2)]) (by decide) rfl (Nat.le_of_ble_eq_true rfl) rfl ?_
  intro p e s m below meth c fx hr hlo
  delta Wp_Mc_textOfTape at h
  refine a_iload_n fx 1 d_Mc_textOfTape_0 rfl rfl ?_
  refine a_iconst (v := 2) fx d_Mc_textOfTape_1 rfl ?_
  refine a_icmp_ne fx 10 d_Mc_textOfTape_2 rfl (fun hc => ?_) (fun hc => ?_)
  · have h := h.1 hc
    refine a_iload_n fx 1 d_Mc_textOfTape_10 rfl rfl ?_
    refine a_iconst (v := 1) fx d_Mc_textOfTape_11 rfl ?_
    refine a_icmp_ne fx 31 d_Mc_textOfTape_12 rfl (fun hc => ?_) (fun hc => ?_)
    · have h := h.1 hc
      refine a_aload_n fx 0 d_Mc_textOfTape_31 rfl rfl ?_
      refine a_getS fx (T := F_Mc) (j := 8) (hk := hk0) (ht := ht0) (ht2 := by decide) (hc := rfl) (hin := u_in_Mc) (hj := by decide) (hj2 := by decide) (hf := rfl) (n9 := 398) (hfo := rfl) (hT := rfl) (hw := w_312) (hd := d_Mc_textOfTape_32) (kk := ?_)
      refine a_aload_n fx 0 d_Mc_textOfTape_35 rfl rfl ?_
      refine a_getS fx (T := F_Mc) (j := 0) (hk := hk0) (ht := ht0) (ht2 := by decide) (hc := rfl) (hin := u_in_Mc) (hj := by decide) (hj2 := by decide) (hf := rfl) (n9 := 1) (hfo := rfl) (hT := rfl) (hw := w_304) (hd := d_Mc_textOfTape_36) (kk := ?_)
      refine a_iload_n fx 2 d_Mc_textOfTape_39 rfl rfl ?_
      refine a_aload_n fx 0 d_Mc_textOfTape_40 rfl rfl ?_
      refine a_getS fx (T := F_Mc) (j := 11) (hk := hk0) (ht := ht0) (ht2 := by decide) (hc := rfl) (hin := u_in_Mc) (hj := by decide) (hj2 := by decide) (hf := rfl) (n9 := 407) (hfo := rfl) (hT := rfl) (hw := w_315) (hd := d_Mc_textOfTape_41) (kk := ?_)
      refine a_callv (rest := []) (a_runV (As := [.ref (B + (a0 + 1)), .int i2, .ref (B + (a0 + 407))]) fx cv_Sq_squeeze w_577 (Met_Sq_squeeze l B D aC aS (hk0 := (lo_0_8 hk0 ht0).1) (ht0 := (lo_0_8 hk0 ht0).2) (hk1 := (lo_0_0 hk0 ht0).1) (ht1 := (lo_0_0 hk0 ht0).2) (hk3 := (lo_0_11 hk0 ht0).1) (ht3 := (lo_0_11 hk0 ht0).2) h) (lo_0_8 hk0 ht0).1 (lo_0_8 hk0 ht0).2 (by decide) rfl rfl rfl (Nat.le_of_ble_eq_true rfl) rfl rfl ⟨Nat.le_of_ble_eq_true rfl, Nat.le_of_ble_eq_true rfl⟩ d_Mc_textOfTape_44 ⟨Nat.le_of_ble_eq_true rfl, Nat.le_of_ble_eq_true rfl⟩) (fun M1 h => ?_)
      refine a_aload_n fx 0 d_Mc_textOfTape_47 rfl rfl ?_
      refine a_getS fx (T := F_Mc) (j := 11) (hk := hk0) (ht := ht0) (ht2 := by decide) (hc := rfl) (hin := u_in_Mc) (hj := by decide) (hj2 := by decide) (hf := rfl) (n9 := 407) (hfo := rfl) (hT := rfl) (hw := w_315) (hd := d_Mc_textOfTape_48) (kk := ?_)
      refine a_aload_n fx 0 d_Mc_textOfTape_51 rfl rfl ?_
      refine a_getS fx (T := F_Mc) (j := 12) (hk := hk0) (ht := ht0) (ht2 := by decide) (hc := rfl) (hin := u_in_Mc) (hj := by decide) (hj2 := by decide) (hf := rfl) (n9 := 409) (hfo := rfl) (hT := rfl) (hw := w_316) (hd := d_Mc_textOfTape_52) (kk := ?_)
      refine a_callv (rest := []) (a_runS (As := [.ref (B + (a0 + 407)), .ref (B + (a0 + 409))]) fx  cv_Sp_write w_515 (Met_Sp_write l B D aC aS (hk0 := (lo_0_11 hk0 ht0).1) (ht0 := (lo_0_11 hk0 ht0).2) (hk1 := (lo_0_12 hk0 ht0).1) (ht1 := (lo_0_12 hk0 ht0).2) h) rfl rfl (Nat.le_of_ble_eq_true rfl) rfl rfl ⟨Nat.le_of_ble_eq_true rfl, Nat.le_of_ble_eq_true rfl⟩ d_Mc_textOfTape_55 ⟨Nat.le_of_ble_eq_true rfl, Nat.le_of_ble_eq_true rfl⟩) (fun M2 h => ?_)
      refine a_aload_n fx 0 d_Mc_textOfTape_58 rfl rfl ?_
      refine a_getS fx (T := F_Mc) (j := 12) (hk := hk0) (ht := ht0) (ht2 := by decide) (hc := rfl) (hin := u_in_Mc) (hj := by decide) (hj2 := by decide) (hf := rfl) (n9 := 409) (hfo := rfl) (hT := rfl) (hw := w_316) (hd := d_Mc_textOfTape_59) (kk := ?_)
      exact a_aret fx hlo hr h d_Mc_textOfTape_62
    · have h := h.2 hc
      refine a_aload_n fx 0 d_Mc_textOfTape_15 rfl rfl ?_
      refine a_getS fx (T := F_Mc) (j := 0) (hk := hk0) (ht := ht0) (ht2 := by decide) (hc := rfl) (hin := u_in_Mc) (hj := by decide) (hj2 := by decide) (hf := rfl) (n9 := 1) (hfo := rfl) (hT := rfl) (hw := w_304) (hd := d_Mc_textOfTape_16) (kk := ?_)
      refine a_aload_n fx 0 d_Mc_textOfTape_19 rfl rfl ?_
      refine a_getS fx (T := F_Mc) (j := 12) (hk := hk0) (ht := ht0) (ht2 := by decide) (hc := rfl) (hin := u_in_Mc) (hj := by decide) (hj2 := by decide) (hf := rfl) (n9 := 409) (hfo := rfl) (hT := rfl) (hw := w_316) (hd := d_Mc_textOfTape_20) (kk := ?_)
      refine a_callv (rest := []) (a_runS (As := [.ref (B + (a0 + 1)), .ref (B + (a0 + 409))]) fx  cv_Sp_write w_515 (Met_Sp_write l B D aC aS (hk0 := (lo_0_0 hk0 ht0).1) (ht0 := (lo_0_0 hk0 ht0).2) (hk1 := (lo_0_12 hk0 ht0).1) (ht1 := (lo_0_12 hk0 ht0).2) h) rfl rfl (Nat.le_of_ble_eq_true rfl) rfl rfl ⟨Nat.le_of_ble_eq_true rfl, Nat.le_of_ble_eq_true rfl⟩ d_Mc_textOfTape_23 ⟨Nat.le_of_ble_eq_true rfl, Nat.le_of_ble_eq_true rfl⟩) (fun M3 h => ?_)
      refine a_aload_n fx 0 d_Mc_textOfTape_26 rfl rfl ?_
      refine a_getS fx (T := F_Mc) (j := 12) (hk := hk0) (ht := ht0) (ht2 := by decide) (hc := rfl) (hin := u_in_Mc) (hj := by decide) (hj2 := by decide) (hf := rfl) (n9 := 409) (hfo := rfl) (hT := rfl) (hw := w_316) (hd := d_Mc_textOfTape_27) (kk := ?_)
      exact a_aret fx hlo hr h d_Mc_textOfTape_30
  · have h := h.2 hc
    refine a_aload_n fx 0 d_Mc_textOfTape_5 rfl rfl ?_
    refine a_getS fx (T := F_Mc) (j := 0) (hk := hk0) (ht := ht0) (ht2 := by decide) (hc := rfl) (hin := u_in_Mc) (hj := by decide) (hj2 := by decide) (hf := rfl) (n9 := 1) (hfo := rfl) (hT := rfl) (hw := w_304) (hd := d_Mc_textOfTape_6) (kk := ?_)
    exact a_aret fx hlo hr h d_Mc_textOfTape_9
set_option maxRecDepth 100000 in
set_option maxHeartbeats 4000000 in
theorem Met_Mc_empty (l : Launch) (B : Nat) (D : va_G) (aC : Nat → ClassId) (aS : Nat → Nat) {a0 : Nat} {M : zM} {post : Int32 → zM → Prop} (hk0 : a0 < N0) (ht0 : tg a0 = 0) (h : Wp_Mc_empty a0 M post) : Met l y_Mc_empty (wo y_Mc_empty b_Mc_empty 2 (some FieldType.int)) { frames := 2, cells := 0, slots := 0, locals := 43 } (va_Pc [.ref (B + a0)] (zWl B D aC aS M)) (zQi B D aC post) 0 0 (zAb B) := by
  refine z_met (own := "MailChain") (lv0 := [(0, .ref (B + a0))]) (by decide) rfl (Nat.le_of_ble_eq_true rfl) rfl ?_
  intro p e s m below meth c fx hr hlo
  delta Wp_Mc_empty at h
  refine a_aload_n fx 0 d_Mc_empty_0 rfl rfl ?_
  refine a_getS fx (T := F_Mc) (j := 7) (hk := hk0) (ht := ht0) (ht2 := by decide) (hc := rfl) (hin := u_in_Mc) (hj := by decide) (hj2 := by decide) (hf := rfl) (n9 := 392) (hfo := rfl) (hT := rfl) (hw := w_311) (hd := d_Mc_empty_1) (kk := ?_)
  refine a_getI fx (T := F_Bo) (j := 6) (hk := (lo_0_7 hk0 ht0).1) (ht := (lo_0_7 hk0 ht0).2) (ht2 := by decide) (hc := rfl) (hin := u_in_Bo) (hj := by decide) (hj2 := by decide) (hf := rfl) (hT := rfl) (hw := w_223) (hd := d_Mc_empty_4) (kk := ?_)
  refine a_topi (fun x1 ex1 => ?_)
  have h := h x1 ex1
  refine a_istore_n (lv2 := [(1, .int x1), (0, .ref (B + a0))]) fx d_Mc_empty_7 rfl (by decide) rfl ?_
  refine a_aload_n fx 1 d_Mc_empty_8 rfl rfl ?_
  refine a_getS fx (T := F_Mc) (j := 7) (hk := hk0) (ht := ht0) (ht2 := by decide) (hc := rfl) (hin := u_in_Mc) (hj := by decide) (hj2 := by decide) (hf := rfl) (n9 := 392) (hfo := rfl) (hT := rfl) (hw := w_311) (hd := d_Mc_empty_9) (kk := ?_)
  refine a_callv (rest := []) (a_runV (As := []) fx cv_Bo_wipe w_481 (Met_Bo_wipe l B D aC aS (hk0 := (lo_0_7 hk0 ht0).1) (ht0 := (lo_0_7 hk0 ht0).2) h) (lo_0_7 hk0 ht0).1 (lo_0_7 hk0 ht0).2 (by decide) rfl rfl rfl (Nat.le_of_ble_eq_true rfl) rfl rfl ⟨Nat.le_of_ble_eq_true rfl, Nat.le_of_ble_eq_true rfl⟩ d_Mc_empty_12 ⟨Nat.le_of_ble_eq_true rfl, Nat.le_of_ble_eq_true rfl⟩) (fun M2 h => ?_)
  refine a_iload_n fx 0 d_Mc_empty_15 rfl rfl ?_
  exact a_iret fx hlo hr h d_Mc_empty_16
set_option maxRecDepth 100000 in
set_option maxHeartbeats 4000000 in
theorem Met_Mc_swapYours (l : Launch) (B : Nat) (D : va_G) (aC : Nat → ClassId) (aS : Nat → Nat) {a0 : Nat} {M : zM} {post : zM → Prop} (hk0 : a0 < N0) (ht0 : tg a0 = 0) (h : Wp_Mc_swapYours a0 M post) : Met l y_Mc_swapYours (wo y_Mc_swapYours b_Mc_swapYours 2 none) { frames := 0, cells := 0, slots := 0, locals := 0 } (va_Pc [.ref (B + a0)] (zWl B D aC aS M)) (zQv B D aC post) 0 0 (zAb B) := by
  refine z_met (own := "MailChain") (lv0 := [(0, .ref (B + a0))]) (by decide) rfl (Nat.le_of_ble_eq_true rfl) rfl ?_
  intro p e s m below meth c fx hr hlo
  delta Wp_Mc_swapYours at h
  refine a_aload_n fx 0 d_Mc_swapYours_0 rfl rfl ?_
  refine a_getR fx (T := F_Mc) (j := 2) (hk := hk0) (ht := ht0) (ht2 := by decide) (hc := rfl) (hin := u_in_Mc) (hj := by decide) (hj2 := by decide) (hf := rfl) (hT := rfl) (hw := w_306) (hd := d_Mc_swapYours_1) (kk := ?_)
  refine a_topr (fun r1 er1 => ?_)
  obtain ⟨hkr1, htr1, h⟩ := h r1 er1
  refine a_astore_n (lv2 := [(1, .ref (B + r1)), (0, .ref (B + a0))]) fx d_Mc_swapYours_4 rfl (by decide) rfl ?_
  refine a_aload_n fx 1 d_Mc_swapYours_5 rfl rfl ?_
  refine a_aload_n fx 1 d_Mc_swapYours_6 rfl rfl ?_
  refine a_getR fx (T := F_Mc) (j := 3) (hk := hk0) (ht := ht0) (ht2 := by decide) (hc := rfl) (hin := u_in_Mc) (hj := by decide) (hj2 := by decide) (hf := rfl) (hT := rfl) (hw := w_307) (hd := d_Mc_swapYours_7) (kk := ?_)
  refine a_topr (fun r2 er2 => ?_)
  obtain ⟨hkr2, htr2, h⟩ := h r2 er2
  refine a_putR fx (T := F_Mc) (ty0 := t_Mc) (j := 2) (hk := hk0) (ht := ht0) (ht2 := by decide) (hc := rfl) (hin := u_in_Mc) (hty := t_Mc_ok) (hnm := n_Mc) (hj := by decide) (hj2 := by decide) (hf := rfl) (hT := rfl) (hfin := rfl) (hn := rfl) (hfit := rfl) (hw := w_306) (hd := d_Mc_swapYours_10) (kk := a_mem (fun M3 eM3 => ?_))
  have h := h M3 eM3
  refine a_aload_n fx 1 d_Mc_swapYours_13 rfl rfl ?_
  refine a_aload_n fx 0 d_Mc_swapYours_14 rfl rfl ?_
  refine a_putR fx (T := F_Mc) (ty0 := t_Mc) (j := 3) (hk := hk0) (ht := ht0) (ht2 := by decide) (hc := rfl) (hin := u_in_Mc) (hty := t_Mc_ok) (hnm := n_Mc) (hj := by decide) (hj2 := by decide) (hf := rfl) (hT := rfl) (hfin := rfl) (hn := rfl) (hfit := rfl) (hw := w_307) (hd := d_Mc_swapYours_15) (kk := a_mem (fun M4 eM4 => ?_))
  have h := h M4 eM4
  exact a_vret fx hlo hr h d_Mc_swapYours_18
