/-- MailChain.type(JI)I -/
def Wp_Mc_type (a0 : Nat) (l1 : Int64) (i3 : Int32) (M : zM) (post : Option Value → zM → Prop) (postT : Nat → zM → Prop) : Prop := ∀ K41 : Int32 → zM → Prop, (∀ (v4 : Int32) (M : zM), ((i3 ≤ v4 → (post (some (.int (M.1 (a0 + 1) 1))) M)) ∧ (¬ i3 ≤ v4 → (Wp_Ro_put (a0 + 1) (((((l1).toUInt64 >>> (((8 * v4)).toInt64.toUInt64 &&& Int64.toUInt64 63)).toInt64)).toInt32) M (fun M3 => (∀ x4 : Int32, x4 = v4 + 1 → (K41 x4 M3)))))) → K41 v4 M) → ((i3 < 1 → (postT 1 M)) ∧ (¬ i3 < 1 → ((i3 ≤ 8 → (Wp_Ro_room (a0 + 1) M (fun x2 M1 => ((i3 ≤ x2 → (K41 0 M1)) ∧ (¬ i3 ≤ x2 → (postT 2 M1)))))) ∧ (¬ i3 ≤ 8 → (postT 1 M)))))
/-- MailChain.again(I)I -/
def Wp_Mc_again (a0 : Nat) (i1 : Int32) (M : zM) (post : Option Value → zM → Prop) (postT : Nat → zM → Prop) : Prop := ((i1 < 0 → (postT 1 M)) ∧ (¬ i1 < 0 → ((i1 ≤ (M.1 (a0 + 1) 1) → (Wp_Ro_room (a0 + 1) M (fun x2 M1 => ((i1 ≤ x2 → (Wp_Ro_putRange (a0 + 1) (a0 + 1) ((M1.1 (a0 + 1) 1) - i1) (M1.1 (a0 + 1) 1) M1 (fun M3 => (post (some (.int (M3.1 (a0 + 1) 1))) M3)))) ∧ (¬ i1 ≤ x2 → (postT 2 M1)))))) ∧ (¬ i1 ≤ (M.1 (a0 + 1) 1) → (postT 1 M)))))
/-- MailChain.afterEntering(I)I -/
def Wp_Mc_afterEntering (a0 : Nat) (i1 : Int32) (M : zM) (post : Option Value → zM → Prop) (postT : Nat → zM → Prop) : Prop := (Wp_Ro_wipe (a0 + 1) M (fun M1 => ((¬ i1 = 1 → ((¬ i1 = 2 → ((¬ i1 = 3 → ((¬ i1 = 4 → (∀ M2 : zM, M2 = zI M1 a0 5 0 → (post (some (.int (M2.1 (a0 + 3) 2))) M2))) ∧ (i1 = 4 → (postT 2 M1)))) ∧ (i1 = 3 → (postT 3 M1)))) ∧ (i1 = 2 → (postT 1 M1)))) ∧ (i1 = 1 → (postT 4 M1)))))
/-- MailChain.add(IIIIII)I -/
def Wp_Mc_add (a0 : Nat) (i1 : Int32) (i2 : Int32) (i3 : Int32) (i4 : Int32) (i5 : Int32) (i6 : Int32) (M : zM) (post : Option Value → zM → Prop) (postT : Nat → zM → Prop) : Prop := ((i2 < 1 → (Wp_Mc_afterEntering a0 2 M (fun vv M1 => ∃ x2 : Int32, vv = some (.int x2) ∧ (post (some (.int x2)) M1)) postT)) ∧ (¬ i2 < 1 → ((60 < i2 → (Wp_Mc_afterEntering a0 2 M (fun vv M3 => ∃ x4 : Int32, vv = some (.int x4) ∧ (post (some (.int x4)) M3)) postT)) ∧ (¬ 60 < i2 → (((M.1 (a0 + 1) 1) < i2 → (Wp_Mc_afterEntering a0 2 M (fun vv M5 => ∃ x6 : Int32, vv = some (.int x6) ∧ (post (some (.int x6)) M5)) postT)) ∧ (¬ (M.1 (a0 + 1) 1) < i2 → (Wp_Tr_draft (a0 + 3) M (fun r8 M7 => r8 < N0 ∧ tg r8 = 2 ∧ (Wp_Ro_copy (r8 + 1) (a0 + 1) 0 i2 M7 (fun M9 => (∀ M10 : zM, M10 = zI M9 r8 1 i1 → (∀ M11 : zM, M11 = zI M10 r8 2 i3 → (∀ M12 : zM, M12 = zI M11 r8 3 i4 → (∀ M13 : zM, M13 = zI M12 r8 4 i5 → (∀ M14 : zM, M14 = zI M13 r8 5 i6 → (Wp_Tr_enter (a0 + 3) (a0 + 1) i2 (M14.1 (a0 + 1) 1) M14 (fun x16 M15 => (Wp_Mc_afterEntering a0 x16 M15 (fun vv M17 => ∃ x18 : Int32, vv = some (.int x18) ∧ (post (some (.int x18)) M17)) postT))))))))))))))))))
/-- MailChain.link(I)I -/
def Wp_Mc_link (a0 : Nat) (i1 : Int32) (M : zM) (post : Option Value → zM → Prop) (postT : Nat → zM → Prop) : Prop := (Wp_Tr_has (a0 + 3) i1 M (fun x2 M1 => ((¬ x2 = 0 → ((60 < (M1.1 (a0 + 1) 1) → (Wp_Mc_afterEntering a0 2 M1 (fun vv M3 => ∃ x4 : Int32, vv = some (.int x4) ∧ (post (some (.int x4)) M3)) postT)) ∧ (¬ 60 < (M1.1 (a0 + 1) 1) → (Wp_Tr_draft (a0 + 3) M1 (fun r6 M5 => r6 < N0 ∧ tg r6 = 2 ∧ (Wp_Ro_copy (r6 + 1) (a0 + 1) 0 (M5.1 (a0 + 1) 1) M5 (fun M7 => (Wp_Tr_enterLink (a0 + 3) i1 M7 (fun x9 M8 => (Wp_Mc_afterEntering a0 x9 M8 (fun vv M10 => ∃ x11 : Int32, vv = some (.int x11) ∧ (post (some (.int x11)) M10)) postT)))))))))) ∧ (x2 = 0 → (Wp_Mc_afterEntering a0 1 M1 (fun vv M12 => ∃ x13 : Int32, vv = some (.int x13) ∧ (post (some (.int x13)) M12)) postT)))))
/-- MailChain.pack(II)I -/
def Wp_Mc_pack (a0 : Nat) (i1 : Int32) (i2 : Int32) (M : zM) (post : Option Value → zM → Prop) (postT : Nat → zM → Prop) : Prop := (Wp_Mc_isWidth i1 M (fun x2 M1 => ((x2 = 0 → (postT 1 M1)) ∧ (¬ x2 = 0 → ((i2 < 40 → (postT 1 M1)) ∧ (¬ i2 < 40 → ((i2 ≤ 4000 → (Wp_Mc_refreshArchive a0 M1 (fun M3 => ((¬ (M3.1 (a0 + 384) 1) = 0 → (Wp_Sq_squeeze (a0 + 398) (a0 + 384) i1 (a0 + 407) M3 (fun M4 => (Wp_Sp_write (a0 + 407) (a0 + 409) M4 (fun M5 => (((M5.1 (a0 + 409) 1) ≤ (999 * i2) → (Wp_Ma_keep (a0 + 386) (a0 + 407) (a0 + 409) i2 M5 (fun M6 => (post (some (.int (M6.1 (a0 + 386) 2))) M6)))) ∧ (¬ (M5.1 (a0 + 409) 1) ≤ (999 * i2) → (post (some (.int (-2))) M5)))))))) ∧ ((M3.1 (a0 + 384) 1) = 0 → (post (some (.int (-1))) M3)))))) ∧ (¬ i2 ≤ 4000 → (postT 1 M1)))))))))
/-- MailChain.part(II)I -/
def Wp_Mc_part (a0 : Nat) (i1 : Int32) (i2 : Int32) (M : zM) (post : Option Value → zM → Prop) (postT : Nat → zM → Prop) : Prop := (Wp_Ma_has (a0 + 386) i1 M (fun x2 M1 => ((¬ x2 = 0 → (Wp_Ma_write (a0 + 386) i1 (a0 + 411) M1 (fun M3 => ((¬ i2 = (-1) → (Wp_Ro_has (a0 + 411) i2 M3 (fun x5 M4 => ((¬ x5 = 0 → (Wp_Ro_at (a0 + 411) i2 M4 (fun x7 M6 => (post (some (.int x7)) M6)))) ∧ (x5 = 0 → (postT 4 M4)))))) ∧ (i2 = (-1) → (post (some (.int (M3.1 (a0 + 411) 1))) M3)))))) ∧ (x2 = 0 → (postT 4 M1)))))
/-- MailChain.stage(II)I -/
def Wp_Mc_stage (a0 : Nat) (i1 : Int32) (i2 : Int32) (M : zM) (post : Option Value → zM → Prop) (postT : Nat → zM → Prop) : Prop := ((i1 = 0 → (Wp_Mc_refreshArchive a0 M (fun M1 => (Wp_Ro_at (a0 + 384) i2 M1 (fun x3 M2 => (post (some (.int x3)) M2)))))) ∧ (i1 = 1 → (Wp_Ro_at ((a0 + 386) + 1) i2 M (fun x5 M4 => (post (some (.int x5)) M4)))) ∧ (i1 = 2 → (Wp_Ro_at ((a0 + 386) + 3) i2 M (fun x7 M6 => (post (some (.int x7)) M6)))) ∧ (¬ i1 = 0 → ¬ i1 = 1 → ¬ i1 = 2 → (postT 1 M)))
/-- MailChain.pass(III)I -/
def Wp_Mc_pass (a0 : Nat) (i1 : Int32) (i2 : Int32) (i3 : Int32) (M : zM) (post : Option Value → zM → Prop) (postT : Nat → zM → Prop) : Prop := (Wp_Ma_has (a0 + 386) i1 M (fun x2 M1 => ((¬ x2 = 0 → (Wp_Ma_write (a0 + 386) i1 (a0 + 411) M1 (fun M3 => (Wp_Ro_has (a0 + 411) i2 M3 (fun x5 M4 => ((¬ x5 = 0 → ((i3 < 0 → (postT 1 M4)) ∧ (¬ i3 < 0 → ((i3 ≤ 255 → (Wp_Ro_turn (a0 + 411) i2 i3 M4 (fun M6 => (Wp_Bo_take (a0 + 392) (a0 + 411) M6 (fun x8 M7 => (post (some (.int x8)) M7)))))) ∧ (¬ i3 ≤ 255 → (postT 1 M4)))))) ∧ (x5 = 0 → (postT 4 M4)))))))) ∧ (x2 = 0 → (postT 4 M1)))))
/-- MailChain.forge(II)V -/
def Wp_Mc_forge (a0 : Nat) (i1 : Int32) (i2 : Int32) (M : zM) (post : Option Value → zM → Prop) (postT : Nat → zM → Prop) : Prop := ∀ K26 : Int32 → zM → Prop, ∀ K54 : Int32 → zM → Prop, (∀ (w0 : Int32) (M : zM), ((w0 = 0 → (K54 w0 M)) ∧ (¬ w0 = 0 → (Wp_Bo_wipe (a0 + 392) M (fun M3 => (Wp_Mc_textOfTape a0 i1 i2 M3 (fun r5 M4 => r5 < N0 ∧ tg r5 = 1 ∧ (Wp_Bo_keep (a0 + 392) 1 1 r5 0 M4 (fun M6 => (K54 w0 M6))))))))) → K26 w0 M) → (∀ (v3 : Int32) (M : zM), (Wp_Ro_wipe (a0 + 1) M (fun M7 => ((¬ v3 = 0 → (post none M7)) ∧ (v3 = 0 → (postT 1 M7))))) → K54 v3 M) → ((i1 = 1 → (K26 1 M)) ∧ (¬ i1 = 1 → ((i1 = 2 → (K26 1 M)) ∧ (¬ i1 = 2 → ((¬ i1 = 0 → (K26 0 M)) ∧ (i1 = 0 → (Wp_Mc_isWidth i2 M (fun x2 M1 => ((x2 = 0 → (K26 0 M1)) ∧ (¬ x2 = 0 → (K26 1 M1)))))))))))
/-- MailChain.about(III)I -/
def Wp_Mc_about (a0 : Nat) (i1 : Int32) (i2 : Int32) (i3 : Int32) (M : zM) (post : Option Value → zM → Prop) (postT : Nat → zM → Prop) : Prop := ∀ K17 : zM → Prop, ∀ K32 : Nat → zM → Prop, (∀ (M : zM), ((¬ i1 = 0 → (∀ r1 : Nat, r1 = (M.2.2 a0 2) → r1 < N0 ∧ tg r1 = 3 ∧ (K32 r1 M))) ∧ (i1 = 0 → (K32 (a0 + 3) M))) → K17 M) → (∀ (w0 : Nat) (M : zM), w0 < N0 ∧ tg w0 = 3 ∧ ((¬ i2 = 0 → ((i2 < 0 → (postT 4 M)) ∧ (¬ i2 < 0 → ((9 < i2 → (postT 4 M)) ∧ (¬ 9 < i2 → (Wp_Tr_has w0 i3 M (fun x3 M2 => ((¬ x3 = 0 → (Wp_Tr_tell w0 i2 i3 M2 (fun x5 M4 => (post (some (.int x5)) M4)))) ∧ (x3 = 0 → (postT 4 M2)))))))))) ∧ (i2 = 0 → (post (some (.int (M.1 w0 2))) M))) → K32 w0 M) → ((i1 = 0 → (K17 M)) ∧ (¬ i1 = 0 → ((i1 = 1 → (K17 M)) ∧ (¬ i1 = 1 → (postT 1 M)))))
/-- MailChain.byteOf(III)I -/
def Wp_Mc_byteOf (a0 : Nat) (i1 : Int32) (i2 : Int32) (i3 : Int32) (M : zM) (post : Option Value → zM → Prop) (postT : Nat → zM → Prop) : Prop := ∀ K17 : zM → Prop, ∀ K32 : Nat → zM → Prop, (∀ (M : zM), ((¬ i1 = 0 → (∀ r1 : Nat, r1 = (M.2.2 a0 2) → r1 < N0 ∧ tg r1 = 3 ∧ (K32 r1 M))) ∧ (i1 = 0 → (K32 (a0 + 3) M))) → K17 M) → (∀ (w0 : Nat) (M : zM), w0 < N0 ∧ tg w0 = 3 ∧ (Wp_Tr_has w0 i2 M (fun x3 M2 => ((x3 = 0 → (postT 4 M2)) ∧ (¬ x3 = 0 → (Wp_Tr_hasByte w0 i2 i3 M2 (fun x5 M4 => ((¬ x5 = 0 → (Wp_Tr_byteAt w0 i2 i3 M4 (fun x7 M6 => (post (some (.int x7)) M6)))) ∧ (x5 = 0 → (postT 4 M4))))))))) → K32 w0 M) → ((i1 = 0 → (K17 M)) ∧ (¬ i1 = 0 → ((i1 = 1 → (K17 M)) ∧ (¬ i1 = 1 → (postT 1 M)))))
theorem d_Mc_type_0 : decode b_Mc_type 0 = .ok (.iload_n 3, 1) := by decide +kernel
theorem d_Mc_type_1 : decode b_Mc_type 1 = .ok (.iconst 1, 1) := by decide +kernel
theorem d_Mc_type_2 : decode b_Mc_type 2 = .ok (.if_icmp .lt 9, 3) := by decide +kernel
theorem d_Mc_type_5 : decode b_Mc_type 5 = .ok (.iload_n 3, 1) := by decide +kernel
theorem d_Mc_type_6 : decode b_Mc_type 6 = .ok (.bipush 8, 2) := by decide +kernel
theorem d_Mc_type_8 : decode b_Mc_type 8 = .ok (.if_icmp .le 11, 3) := by decide +kernel
theorem d_Mc_type_11 : decode b_Mc_type 11 = .ok (.new 81, 3) := by decide +kernel
theorem d_Mc_type_14 : decode b_Mc_type 14 = .ok (.dup, 1) := by decide +kernel
theorem d_Mc_type_15 : decode b_Mc_type 15 = .ok (.invokespecial 83, 3) := by decide +kernel
theorem d_Mc_type_18 : decode b_Mc_type 18 = .ok (.athrow, 1) := by decide +kernel
theorem d_Mc_type_19 : decode b_Mc_type 19 = .ok (.iload_n 3, 1) := by decide +kernel
theorem d_Mc_type_20 : decode b_Mc_type 20 = .ok (.aload_n 0, 1) := by decide +kernel
theorem d_Mc_type_21 : decode b_Mc_type 21 = .ok (.getfield 14, 3) := by decide +kernel
theorem d_Mc_type_24 : decode b_Mc_type 24 = .ok (.invokevirtual 84, 3) := by decide +kernel
theorem d_Mc_type_27 : decode b_Mc_type 27 = .ok (.if_icmp .le 11, 3) := by decide +kernel
theorem d_Mc_type_30 : decode b_Mc_type 30 = .ok (.new 88, 3) := by decide +kernel
theorem d_Mc_type_33 : decode b_Mc_type 33 = .ok (.dup, 1) := by decide +kernel
theorem d_Mc_type_34 : decode b_Mc_type 34 = .ok (.invokespecial 90, 3) := by decide +kernel
theorem d_Mc_type_37 : decode b_Mc_type 37 = .ok (.athrow, 1) := by decide +kernel
theorem d_Mc_type_38 : decode b_Mc_type 38 = .ok (.iconst 0, 1) := by decide +kernel
theorem d_Mc_type_39 : decode b_Mc_type 39 = .ok (.istore 4, 2) := by decide +kernel
theorem d_Mc_type_41 : decode b_Mc_type 41 = .ok (.iload 4, 2) := by decide +kernel
theorem d_Mc_type_43 : decode b_Mc_type 43 = .ok (.iload_n 3, 1) := by decide +kernel
theorem d_Mc_type_44 : decode b_Mc_type 44 = .ok (.if_icmp .ge 24, 3) := by decide +kernel
theorem d_Mc_type_47 : decode b_Mc_type 47 = .ok (.aload_n 0, 1) := by decide +kernel
theorem d_Mc_type_48 : decode b_Mc_type 48 = .ok (.getfield 14, 3) := by decide +kernel
theorem d_Mc_type_51 : decode b_Mc_type 51 = .ok (.lload_n 1, 1) := by decide +kernel
theorem d_Mc_type_52 : decode b_Mc_type 52 = .ok (.bipush 8, 2) := by decide +kernel
theorem d_Mc_type_54 : decode b_Mc_type 54 = .ok (.iload 4, 2) := by decide +kernel
theorem d_Mc_type_56 : decode b_Mc_type 56 = .ok (.imul, 1) := by decide +kernel
theorem d_Mc_type_57 : decode b_Mc_type 57 = .ok (.lushr, 1) := by decide +kernel
theorem d_Mc_type_58 : decode b_Mc_type 58 = .ok (.l2i, 1) := by decide +kernel
theorem d_Mc_type_59 : decode b_Mc_type 59 = .ok (.invokevirtual 91, 3) := by decide +kernel
theorem d_Mc_type_62 : decode b_Mc_type 62 = .ok (.iinc 4 1, 3) := by decide +kernel
theorem d_Mc_type_65 : decode b_Mc_type 65 = .ok (.goto (-24), 3) := by decide +kernel
theorem d_Mc_type_68 : decode b_Mc_type 68 = .ok (.aload_n 0, 1) := by decide +kernel
theorem d_Mc_type_69 : decode b_Mc_type 69 = .ok (.getfield 14, 3) := by decide +kernel
theorem d_Mc_type_72 : decode b_Mc_type 72 = .ok (.getfield 94, 3) := by decide +kernel
theorem d_Mc_type_75 : decode b_Mc_type 75 = .ok (.ireturn, 1) := by decide +kernel
theorem d_Mc_again_0 : decode b_Mc_again 0 = .ok (.iload_n 1, 1) := by decide +kernel
theorem d_Mc_again_1 : decode b_Mc_again 1 = .ok (.ifCond .lt 14, 3) := by decide +kernel
theorem d_Mc_again_4 : decode b_Mc_again 4 = .ok (.iload_n 1, 1) := by decide +kernel
theorem d_Mc_again_5 : decode b_Mc_again 5 = .ok (.aload_n 0, 1) := by decide +kernel
theorem d_Mc_again_6 : decode b_Mc_again 6 = .ok (.getfield 14, 3) := by decide +kernel
theorem d_Mc_again_9 : decode b_Mc_again 9 = .ok (.getfield 94, 3) := by decide +kernel
theorem d_Mc_again_12 : decode b_Mc_again 12 = .ok (.if_icmp .le 11, 3) := by decide +kernel
theorem d_Mc_again_15 : decode b_Mc_again 15 = .ok (.new 81, 3) := by decide +kernel
theorem d_Mc_again_18 : decode b_Mc_again 18 = .ok (.dup, 1) := by decide +kernel
theorem d_Mc_again_19 : decode b_Mc_again 19 = .ok (.invokespecial 83, 3) := by decide +kernel
theorem d_Mc_again_22 : decode b_Mc_again 22 = .ok (.athrow, 1) := by decide +kernel
theorem d_Mc_again_23 : decode b_Mc_again 23 = .ok (.iload_n 1, 1) := by decide +kernel
theorem d_Mc_again_24 : decode b_Mc_again 24 = .ok (.aload_n 0, 1) := by decide +kernel
theorem d_Mc_again_25 : decode b_Mc_again 25 = .ok (.getfield 14, 3) := by decide +kernel
theorem d_Mc_again_28 : decode b_Mc_again 28 = .ok (.invokevirtual 84, 3) := by decide +kernel
theorem d_Mc_again_31 : decode b_Mc_again 31 = .ok (.if_icmp .le 11, 3) := by decide +kernel
theorem d_Mc_again_34 : decode b_Mc_again 34 = .ok (.new 88, 3) := by decide +kernel
theorem d_Mc_again_37 : decode b_Mc_again 37 = .ok (.dup, 1) := by decide +kernel
theorem d_Mc_again_38 : decode b_Mc_again 38 = .ok (.invokespecial 90, 3) := by decide +kernel
theorem d_Mc_again_41 : decode b_Mc_again 41 = .ok (.athrow, 1) := by decide +kernel
theorem d_Mc_again_42 : decode b_Mc_again 42 = .ok (.aload_n 0, 1) := by decide +kernel
theorem d_Mc_again_43 : decode b_Mc_again 43 = .ok (.getfield 14, 3) := by decide +kernel
theorem d_Mc_again_46 : decode b_Mc_again 46 = .ok (.aload_n 0, 1) := by decide +kernel
theorem d_Mc_again_47 : decode b_Mc_again 47 = .ok (.getfield 14, 3) := by decide +kernel
theorem d_Mc_again_50 : decode b_Mc_again 50 = .ok (.aload_n 0, 1) := by decide +kernel
theorem d_Mc_again_51 : decode b_Mc_again 51 = .ok (.getfield 14, 3) := by decide +kernel
theorem d_Mc_again_54 : decode b_Mc_again 54 = .ok (.getfield 94, 3) := by decide +kernel
theorem d_Mc_again_57 : decode b_Mc_again 57 = .ok (.iload_n 1, 1) := by decide +kernel
theorem d_Mc_again_58 : decode b_Mc_again 58 = .ok (.isub, 1) := by decide +kernel
theorem d_Mc_again_59 : decode b_Mc_again 59 = .ok (.aload_n 0, 1) := by decide +kernel
theorem d_Mc_again_60 : decode b_Mc_again 60 = .ok (.getfield 14, 3) := by decide +kernel
theorem d_Mc_again_63 : decode b_Mc_again 63 = .ok (.getfield 94, 3) := by decide +kernel
theorem d_Mc_again_66 : decode b_Mc_again 66 = .ok (.invokevirtual 98, 3) := by decide +kernel
theorem d_Mc_again_69 : decode b_Mc_again 69 = .ok (.aload_n 0, 1) := by decide +kernel
theorem d_Mc_again_70 : decode b_Mc_again 70 = .ok (.getfield 14, 3) := by decide +kernel
theorem d_Mc_again_73 : decode b_Mc_again 73 = .ok (.getfield 94, 3) := by decide +kernel
theorem d_Mc_again_76 : decode b_Mc_again 76 = .ok (.ireturn, 1) := by decide +kernel
theorem d_Mc_afterEntering_0 : decode b_Mc_afterEntering 0 = .ok (.aload_n 0, 1) := by decide +kernel
theorem d_Mc_afterEntering_1 : decode b_Mc_afterEntering 1 = .ok (.getfield 14, 3) := by decide +kernel
theorem d_Mc_afterEntering_4 : decode b_Mc_afterEntering 4 = .ok (.invokevirtual 144, 3) := by decide +kernel
theorem d_Mc_afterEntering_7 : decode b_Mc_afterEntering 7 = .ok (.iload_n 1, 1) := by decide +kernel
theorem d_Mc_afterEntering_8 : decode b_Mc_afterEntering 8 = .ok (.iconst 1, 1) := by decide +kernel
theorem d_Mc_afterEntering_9 : decode b_Mc_afterEntering 9 = .ok (.if_icmp .ne 11, 3) := by decide +kernel
theorem d_Mc_afterEntering_12 : decode b_Mc_afterEntering 12 = .ok (.new 147, 3) := by decide +kernel
theorem d_Mc_afterEntering_15 : decode b_Mc_afterEntering 15 = .ok (.dup, 1) := by decide +kernel
theorem d_Mc_afterEntering_16 : decode b_Mc_afterEntering 16 = .ok (.invokespecial 149, 3) := by decide +kernel
theorem d_Mc_afterEntering_19 : decode b_Mc_afterEntering 19 = .ok (.athrow, 1) := by decide +kernel
theorem d_Mc_afterEntering_20 : decode b_Mc_afterEntering 20 = .ok (.iload_n 1, 1) := by decide +kernel
theorem d_Mc_afterEntering_21 : decode b_Mc_afterEntering 21 = .ok (.iconst 2, 1) := by decide +kernel
theorem d_Mc_afterEntering_22 : decode b_Mc_afterEntering 22 = .ok (.if_icmp .ne 11, 3) := by decide +kernel
theorem d_Mc_afterEntering_25 : decode b_Mc_afterEntering 25 = .ok (.new 81, 3) := by decide +kernel
theorem d_Mc_afterEntering_28 : decode b_Mc_afterEntering 28 = .ok (.dup, 1) := by decide +kernel
theorem d_Mc_afterEntering_29 : decode b_Mc_afterEntering 29 = .ok (.invokespecial 83, 3) := by decide +kernel
theorem d_Mc_afterEntering_32 : decode b_Mc_afterEntering 32 = .ok (.athrow, 1) := by decide +kernel
theorem d_Mc_afterEntering_33 : decode b_Mc_afterEntering 33 = .ok (.iload_n 1, 1) := by decide +kernel
theorem d_Mc_afterEntering_34 : decode b_Mc_afterEntering 34 = .ok (.iconst 3, 1) := by decide +kernel
theorem d_Mc_afterEntering_35 : decode b_Mc_afterEntering 35 = .ok (.if_icmp .ne 11, 3) := by decide +kernel
theorem d_Mc_afterEntering_38 : decode b_Mc_afterEntering 38 = .ok (.new 150, 3) := by decide +kernel
theorem d_Mc_afterEntering_41 : decode b_Mc_afterEntering 41 = .ok (.dup, 1) := by decide +kernel
theorem d_Mc_afterEntering_42 : decode b_Mc_afterEntering 42 = .ok (.invokespecial 152, 3) := by decide +kernel
theorem d_Mc_afterEntering_45 : decode b_Mc_afterEntering 45 = .ok (.athrow, 1) := by decide +kernel
theorem d_Mc_afterEntering_46 : decode b_Mc_afterEntering 46 = .ok (.iload_n 1, 1) := by decide +kernel
theorem d_Mc_afterEntering_47 : decode b_Mc_afterEntering 47 = .ok (.iconst 4, 1) := by decide +kernel
theorem d_Mc_afterEntering_48 : decode b_Mc_afterEntering 48 = .ok (.if_icmp .ne 11, 3) := by decide +kernel
theorem d_Mc_afterEntering_51 : decode b_Mc_afterEntering 51 = .ok (.new 88, 3) := by decide +kernel
theorem d_Mc_afterEntering_54 : decode b_Mc_afterEntering 54 = .ok (.dup, 1) := by decide +kernel
theorem d_Mc_afterEntering_55 : decode b_Mc_afterEntering 55 = .ok (.invokespecial 90, 3) := by decide +kernel
theorem d_Mc_afterEntering_58 : decode b_Mc_afterEntering 58 = .ok (.athrow, 1) := by decide +kernel
theorem d_Mc_afterEntering_59 : decode b_Mc_afterEntering 59 = .ok (.aload_n 0, 1) := by decide +kernel
theorem d_Mc_afterEntering_60 : decode b_Mc_afterEntering 60 = .ok (.iconst 0, 1) := by decide +kernel
theorem d_Mc_afterEntering_61 : decode b_Mc_afterEntering 61 = .ok (.putfield 34, 3) := by decide +kernel
theorem d_Mc_afterEntering_64 : decode b_Mc_afterEntering 64 = .ok (.aload_n 0, 1) := by decide +kernel
theorem d_Mc_afterEntering_65 : decode b_Mc_afterEntering 65 = .ok (.getfield 21, 3) := by decide +kernel
theorem d_Mc_afterEntering_68 : decode b_Mc_afterEntering 68 = .ok (.getfield 153, 3) := by decide +kernel
theorem d_Mc_afterEntering_71 : decode b_Mc_afterEntering 71 = .ok (.ireturn, 1) := by decide +kernel
theorem d_Mc_add_0 : decode b_Mc_add 0 = .ok (.iconst 2, 1) := by decide +kernel
theorem d_Mc_add_1 : decode b_Mc_add 1 = .ok (.istore 7, 2) := by decide +kernel
theorem d_Mc_add_3 : decode b_Mc_add 3 = .ok (.iload_n 2, 1) := by decide +kernel
theorem d_Mc_add_4 : decode b_Mc_add 4 = .ok (.iconst 1, 1) := by decide +kernel
theorem d_Mc_add_5 : decode b_Mc_add 5 = .ok (.if_icmp .lt 97, 3) := by decide +kernel
theorem d_Mc_add_8 : decode b_Mc_add 8 = .ok (.iload_n 2, 1) := by decide +kernel
theorem d_Mc_add_9 : decode b_Mc_add 9 = .ok (.bipush 60, 2) := by decide +kernel
theorem d_Mc_add_11 : decode b_Mc_add 11 = .ok (.if_icmp .gt 91, 3) := by decide +kernel
theorem d_Mc_add_14 : decode b_Mc_add 14 = .ok (.iload_n 2, 1) := by decide +kernel
theorem d_Mc_add_15 : decode b_Mc_add 15 = .ok (.aload_n 0, 1) := by decide +kernel
theorem d_Mc_add_16 : decode b_Mc_add 16 = .ok (.getfield 14, 3) := by decide +kernel
theorem d_Mc_add_19 : decode b_Mc_add 19 = .ok (.getfield 94, 3) := by decide +kernel
theorem d_Mc_add_22 : decode b_Mc_add 22 = .ok (.if_icmp .gt 80, 3) := by decide +kernel
theorem d_Mc_add_25 : decode b_Mc_add 25 = .ok (.aload_n 0, 1) := by decide +kernel
theorem d_Mc_add_26 : decode b_Mc_add 26 = .ok (.getfield 21, 3) := by decide +kernel
theorem d_Mc_add_29 : decode b_Mc_add 29 = .ok (.invokevirtual 102, 3) := by decide +kernel
theorem d_Mc_add_32 : decode b_Mc_add 32 = .ok (.astore 8, 2) := by decide +kernel
theorem d_Mc_add_34 : decode b_Mc_add 34 = .ok (.aload 8, 2) := by decide +kernel
theorem d_Mc_add_36 : decode b_Mc_add 36 = .ok (.getfield 106, 3) := by decide +kernel
theorem d_Mc_add_39 : decode b_Mc_add 39 = .ok (.aload_n 0, 1) := by decide +kernel
theorem d_Mc_add_40 : decode b_Mc_add 40 = .ok (.getfield 14, 3) := by decide +kernel
theorem d_Mc_add_43 : decode b_Mc_add 43 = .ok (.iconst 0, 1) := by decide +kernel
theorem d_Mc_add_44 : decode b_Mc_add 44 = .ok (.iload_n 2, 1) := by decide +kernel
theorem d_Mc_add_45 : decode b_Mc_add 45 = .ok (.invokevirtual 111, 3) := by decide +kernel
theorem d_Mc_add_48 : decode b_Mc_add 48 = .ok (.aload 8, 2) := by decide +kernel
theorem d_Mc_add_50 : decode b_Mc_add 50 = .ok (.iload_n 1, 1) := by decide +kernel
theorem d_Mc_add_51 : decode b_Mc_add 51 = .ok (.putfield 114, 3) := by decide +kernel
theorem d_Mc_add_54 : decode b_Mc_add 54 = .ok (.aload 8, 2) := by decide +kernel
theorem d_Mc_add_56 : decode b_Mc_add 56 = .ok (.iload_n 3, 1) := by decide +kernel
theorem d_Mc_add_57 : decode b_Mc_add 57 = .ok (.putfield 117, 3) := by decide +kernel
theorem d_Mc_add_60 : decode b_Mc_add 60 = .ok (.aload 8, 2) := by decide +kernel
theorem d_Mc_add_62 : decode b_Mc_add 62 = .ok (.iload 4, 2) := by decide +kernel
theorem d_Mc_add_64 : decode b_Mc_add 64 = .ok (.putfield 120, 3) := by decide +kernel
theorem d_Mc_add_67 : decode b_Mc_add 67 = .ok (.aload 8, 2) := by decide +kernel
theorem d_Mc_add_69 : decode b_Mc_add 69 = .ok (.iload 5, 2) := by decide +kernel
theorem d_Mc_add_71 : decode b_Mc_add 71 = .ok (.putfield 123, 3) := by decide +kernel
theorem d_Mc_add_74 : decode b_Mc_add 74 = .ok (.aload 8, 2) := by decide +kernel
theorem d_Mc_add_76 : decode b_Mc_add 76 = .ok (.iload 6, 2) := by decide +kernel
theorem d_Mc_add_78 : decode b_Mc_add 78 = .ok (.putfield 126, 3) := by decide +kernel
theorem d_Mc_add_81 : decode b_Mc_add 81 = .ok (.aload_n 0, 1) := by decide +kernel
theorem d_Mc_add_82 : decode b_Mc_add 82 = .ok (.getfield 21, 3) := by decide +kernel
theorem d_Mc_add_85 : decode b_Mc_add 85 = .ok (.aload_n 0, 1) := by decide +kernel
theorem d_Mc_add_86 : decode b_Mc_add 86 = .ok (.getfield 14, 3) := by decide +kernel
theorem d_Mc_add_89 : decode b_Mc_add 89 = .ok (.iload_n 2, 1) := by decide +kernel
theorem d_Mc_add_90 : decode b_Mc_add 90 = .ok (.aload_n 0, 1) := by decide +kernel
theorem d_Mc_add_91 : decode b_Mc_add 91 = .ok (.getfield 14, 3) := by decide +kernel
theorem d_Mc_add_94 : decode b_Mc_add 94 = .ok (.getfield 94, 3) := by decide +kernel
theorem d_Mc_add_97 : decode b_Mc_add 97 = .ok (.invokevirtual 129, 3) := by decide +kernel
theorem d_Mc_add_100 : decode b_Mc_add 100 = .ok (.istore 7, 2) := by decide +kernel
theorem d_Mc_add_102 : decode b_Mc_add 102 = .ok (.aload_n 0, 1) := by decide +kernel
theorem d_Mc_add_103 : decode b_Mc_add 103 = .ok (.iload 7, 2) := by decide +kernel
theorem d_Mc_add_105 : decode b_Mc_add 105 = .ok (.invokevirtual 133, 3) := by decide +kernel
theorem d_Mc_add_108 : decode b_Mc_add 108 = .ok (.ireturn, 1) := by decide +kernel
theorem d_Mc_link_0 : decode b_Mc_link 0 = .ok (.iconst 2, 1) := by decide +kernel
theorem d_Mc_link_1 : decode b_Mc_link 1 = .ok (.istore_n 2, 1) := by decide +kernel
theorem d_Mc_link_2 : decode b_Mc_link 2 = .ok (.aload_n 0, 1) := by decide +kernel
theorem d_Mc_link_3 : decode b_Mc_link 3 = .ok (.getfield 21, 3) := by decide +kernel
theorem d_Mc_link_6 : decode b_Mc_link 6 = .ok (.iload_n 1, 1) := by decide +kernel
theorem d_Mc_link_7 : decode b_Mc_link 7 = .ok (.invokevirtual 137, 3) := by decide +kernel
theorem d_Mc_link_10 : decode b_Mc_link 10 = .ok (.ifCond .ne 8, 3) := by decide +kernel
theorem d_Mc_link_13 : decode b_Mc_link 13 = .ok (.iconst 1, 1) := by decide +kernel
theorem d_Mc_link_14 : decode b_Mc_link 14 = .ok (.istore_n 2, 1) := by decide +kernel
theorem d_Mc_link_15 : decode b_Mc_link 15 = .ok (.goto 49, 3) := by decide +kernel
theorem d_Mc_link_18 : decode b_Mc_link 18 = .ok (.aload_n 0, 1) := by decide +kernel
theorem d_Mc_link_19 : decode b_Mc_link 19 = .ok (.getfield 14, 3) := by decide +kernel
theorem d_Mc_link_22 : decode b_Mc_link 22 = .ok (.getfield 94, 3) := by decide +kernel
theorem d_Mc_link_25 : decode b_Mc_link 25 = .ok (.bipush 60, 2) := by decide +kernel
theorem d_Mc_link_27 : decode b_Mc_link 27 = .ok (.if_icmp .gt 37, 3) := by decide +kernel
theorem d_Mc_link_30 : decode b_Mc_link 30 = .ok (.aload_n 0, 1) := by decide +kernel
theorem d_Mc_link_31 : decode b_Mc_link 31 = .ok (.getfield 21, 3) := by decide +kernel
theorem d_Mc_link_34 : decode b_Mc_link 34 = .ok (.invokevirtual 102, 3) := by decide +kernel
theorem d_Mc_link_37 : decode b_Mc_link 37 = .ok (.getfield 106, 3) := by decide +kernel
theorem d_Mc_link_40 : decode b_Mc_link 40 = .ok (.aload_n 0, 1) := by decide +kernel
theorem d_Mc_link_41 : decode b_Mc_link 41 = .ok (.getfield 14, 3) := by decide +kernel
theorem d_Mc_link_44 : decode b_Mc_link 44 = .ok (.iconst 0, 1) := by decide +kernel
theorem d_Mc_link_45 : decode b_Mc_link 45 = .ok (.aload_n 0, 1) := by decide +kernel
theorem d_Mc_link_46 : decode b_Mc_link 46 = .ok (.getfield 14, 3) := by decide +kernel
theorem d_Mc_link_49 : decode b_Mc_link 49 = .ok (.getfield 94, 3) := by decide +kernel
theorem d_Mc_link_52 : decode b_Mc_link 52 = .ok (.invokevirtual 111, 3) := by decide +kernel
theorem d_Mc_link_55 : decode b_Mc_link 55 = .ok (.aload_n 0, 1) := by decide +kernel
theorem d_Mc_link_56 : decode b_Mc_link 56 = .ok (.getfield 21, 3) := by decide +kernel
theorem d_Mc_link_59 : decode b_Mc_link 59 = .ok (.iload_n 1, 1) := by decide +kernel
theorem d_Mc_link_60 : decode b_Mc_link 60 = .ok (.invokevirtual 141, 3) := by decide +kernel
theorem d_Mc_link_63 : decode b_Mc_link 63 = .ok (.istore_n 2, 1) := by decide +kernel
theorem d_Mc_link_64 : decode b_Mc_link 64 = .ok (.aload_n 0, 1) := by decide +kernel
theorem d_Mc_link_65 : decode b_Mc_link 65 = .ok (.iload_n 2, 1) := by decide +kernel
theorem d_Mc_link_66 : decode b_Mc_link 66 = .ok (.invokevirtual 133, 3) := by decide +kernel
theorem d_Mc_link_69 : decode b_Mc_link 69 = .ok (.ireturn, 1) := by decide +kernel
theorem d_Mc_pack_0 : decode b_Mc_pack 0 = .ok (.iload_n 1, 1) := by decide +kernel
theorem d_Mc_pack_1 : decode b_Mc_pack 1 = .ok (.invokestatic 157, 3) := by decide +kernel
theorem d_Mc_pack_4 : decode b_Mc_pack 4 = .ok (.ifCond .eq 16, 3) := by decide +kernel
theorem d_Mc_pack_7 : decode b_Mc_pack 7 = .ok (.iload_n 2, 1) := by decide +kernel
theorem d_Mc_pack_8 : decode b_Mc_pack 8 = .ok (.bipush 40, 2) := by decide +kernel
theorem d_Mc_pack_10 : decode b_Mc_pack 10 = .ok (.if_icmp .lt 10, 3) := by decide +kernel
theorem d_Mc_pack_13 : decode b_Mc_pack 13 = .ok (.iload_n 2, 1) := by decide +kernel
theorem d_Mc_pack_14 : decode b_Mc_pack 14 = .ok (.sipush 4000, 3) := by decide +kernel
theorem d_Mc_pack_17 : decode b_Mc_pack 17 = .ok (.if_icmp .le 11, 3) := by decide +kernel
theorem d_Mc_pack_20 : decode b_Mc_pack 20 = .ok (.new 81, 3) := by decide +kernel
theorem d_Mc_pack_23 : decode b_Mc_pack 23 = .ok (.dup, 1) := by decide +kernel
theorem d_Mc_pack_24 : decode b_Mc_pack 24 = .ok (.invokespecial 83, 3) := by decide +kernel
theorem d_Mc_pack_27 : decode b_Mc_pack 27 = .ok (.athrow, 1) := by decide +kernel
theorem d_Mc_pack_28 : decode b_Mc_pack 28 = .ok (.aload_n 0, 1) := by decide +kernel
theorem d_Mc_pack_29 : decode b_Mc_pack 29 = .ok (.invokevirtual 160, 3) := by decide +kernel
theorem d_Mc_pack_32 : decode b_Mc_pack 32 = .ok (.aload_n 0, 1) := by decide +kernel
theorem d_Mc_pack_33 : decode b_Mc_pack 33 = .ok (.getfield 31, 3) := by decide +kernel
theorem d_Mc_pack_36 : decode b_Mc_pack 36 = .ok (.getfield 94, 3) := by decide +kernel
theorem d_Mc_pack_39 : decode b_Mc_pack 39 = .ok (.ifCond .ne 5, 3) := by decide +kernel
theorem d_Mc_pack_42 : decode b_Mc_pack 42 = .ok (.iconst (-1), 1) := by decide +kernel
theorem d_Mc_pack_43 : decode b_Mc_pack 43 = .ok (.ireturn, 1) := by decide +kernel
theorem d_Mc_pack_44 : decode b_Mc_pack 44 = .ok (.aload_n 0, 1) := by decide +kernel
theorem d_Mc_pack_45 : decode b_Mc_pack 45 = .ok (.getfield 55, 3) := by decide +kernel
theorem d_Mc_pack_48 : decode b_Mc_pack 48 = .ok (.aload_n 0, 1) := by decide +kernel
theorem d_Mc_pack_49 : decode b_Mc_pack 49 = .ok (.getfield 31, 3) := by decide +kernel
theorem d_Mc_pack_52 : decode b_Mc_pack 52 = .ok (.iload_n 1, 1) := by decide +kernel
theorem d_Mc_pack_53 : decode b_Mc_pack 53 = .ok (.aload_n 0, 1) := by decide +kernel
theorem d_Mc_pack_54 : decode b_Mc_pack 54 = .ok (.getfield 70, 3) := by decide +kernel
theorem d_Mc_pack_57 : decode b_Mc_pack 57 = .ok (.invokevirtual 163, 3) := by decide +kernel
theorem d_Mc_pack_60 : decode b_Mc_pack 60 = .ok (.aload_n 0, 1) := by decide +kernel
theorem d_Mc_pack_61 : decode b_Mc_pack 61 = .ok (.getfield 70, 3) := by decide +kernel
theorem d_Mc_pack_64 : decode b_Mc_pack 64 = .ok (.aload_n 0, 1) := by decide +kernel
theorem d_Mc_pack_65 : decode b_Mc_pack 65 = .ok (.getfield 74, 3) := by decide +kernel
theorem d_Mc_pack_68 : decode b_Mc_pack 68 = .ok (.invokestatic 167, 3) := by decide +kernel
theorem d_Mc_pack_71 : decode b_Mc_pack 71 = .ok (.aload_n 0, 1) := by decide +kernel
theorem d_Mc_pack_72 : decode b_Mc_pack 72 = .ok (.getfield 74, 3) := by decide +kernel
theorem d_Mc_pack_75 : decode b_Mc_pack 75 = .ok (.getfield 94, 3) := by decide +kernel
theorem d_Mc_pack_78 : decode b_Mc_pack 78 = .ok (.sipush 999, 3) := by decide +kernel
theorem d_Mc_pack_81 : decode b_Mc_pack 81 = .ok (.iload_n 2, 1) := by decide +kernel
theorem d_Mc_pack_82 : decode b_Mc_pack 82 = .ok (.imul, 1) := by decide +kernel
theorem d_Mc_pack_83 : decode b_Mc_pack 83 = .ok (.if_icmp .le 6, 3) := by decide +kernel
theorem d_Mc_pack_86 : decode b_Mc_pack 86 = .ok (.bipush (-2), 2) := by decide +kernel
theorem d_Mc_pack_88 : decode b_Mc_pack 88 = .ok (.ireturn, 1) := by decide +kernel
theorem d_Mc_pack_89 : decode b_Mc_pack 89 = .ok (.aload_n 0, 1) := by decide +kernel
theorem d_Mc_pack_90 : decode b_Mc_pack 90 = .ok (.getfield 41, 3) := by decide +kernel
theorem d_Mc_pack_93 : decode b_Mc_pack 93 = .ok (.aload_n 0, 1) := by decide +kernel
theorem d_Mc_pack_94 : decode b_Mc_pack 94 = .ok (.getfield 70, 3) := by decide +kernel
theorem d_Mc_pack_97 : decode b_Mc_pack 97 = .ok (.aload_n 0, 1) := by decide +kernel
theorem d_Mc_pack_98 : decode b_Mc_pack 98 = .ok (.getfield 74, 3) := by decide +kernel
theorem d_Mc_pack_101 : decode b_Mc_pack 101 = .ok (.iload_n 2, 1) := by decide +kernel
theorem d_Mc_pack_102 : decode b_Mc_pack 102 = .ok (.invokevirtual 173, 3) := by decide +kernel
theorem d_Mc_pack_105 : decode b_Mc_pack 105 = .ok (.aload_n 0, 1) := by decide +kernel
theorem d_Mc_pack_106 : decode b_Mc_pack 106 = .ok (.getfield 41, 3) := by decide +kernel
theorem d_Mc_pack_109 : decode b_Mc_pack 109 = .ok (.getfield 177, 3) := by decide +kernel
theorem d_Mc_pack_112 : decode b_Mc_pack 112 = .ok (.ireturn, 1) := by decide +kernel
theorem d_Mc_part_0 : decode b_Mc_part 0 = .ok (.aload_n 0, 1) := by decide +kernel
theorem d_Mc_part_1 : decode b_Mc_part 1 = .ok (.getfield 41, 3) := by decide +kernel
theorem d_Mc_part_4 : decode b_Mc_part 4 = .ok (.iload_n 1, 1) := by decide +kernel
theorem d_Mc_part_5 : decode b_Mc_part 5 = .ok (.invokevirtual 183, 3) := by decide +kernel
theorem d_Mc_part_8 : decode b_Mc_part 8 = .ok (.ifCond .ne 11, 3) := by decide +kernel
theorem d_Mc_part_11 : decode b_Mc_part 11 = .ok (.new 147, 3) := by decide +kernel
theorem d_Mc_part_14 : decode b_Mc_part 14 = .ok (.dup, 1) := by decide +kernel
theorem d_Mc_part_15 : decode b_Mc_part 15 = .ok (.invokespecial 149, 3) := by decide +kernel
theorem d_Mc_part_18 : decode b_Mc_part 18 = .ok (.athrow, 1) := by decide +kernel
theorem d_Mc_part_19 : decode b_Mc_part 19 = .ok (.aload_n 0, 1) := by decide +kernel
theorem d_Mc_part_20 : decode b_Mc_part 20 = .ok (.getfield 41, 3) := by decide +kernel
theorem d_Mc_part_23 : decode b_Mc_part 23 = .ok (.iload_n 1, 1) := by decide +kernel
theorem d_Mc_part_24 : decode b_Mc_part 24 = .ok (.aload_n 0, 1) := by decide +kernel
theorem d_Mc_part_25 : decode b_Mc_part 25 = .ok (.getfield 78, 3) := by decide +kernel
theorem d_Mc_part_28 : decode b_Mc_part 28 = .ok (.invokevirtual 184, 3) := by decide +kernel
theorem d_Mc_part_31 : decode b_Mc_part 31 = .ok (.iload_n 2, 1) := by decide +kernel
theorem d_Mc_part_32 : decode b_Mc_part 32 = .ok (.iconst (-1), 1) := by decide +kernel
theorem d_Mc_part_33 : decode b_Mc_part 33 = .ok (.if_icmp .ne 11, 3) := by decide +kernel
theorem d_Mc_part_36 : decode b_Mc_part 36 = .ok (.aload_n 0, 1) := by decide +kernel
theorem d_Mc_part_37 : decode b_Mc_part 37 = .ok (.getfield 78, 3) := by decide +kernel
theorem d_Mc_part_40 : decode b_Mc_part 40 = .ok (.getfield 94, 3) := by decide +kernel
theorem d_Mc_part_43 : decode b_Mc_part 43 = .ok (.ireturn, 1) := by decide +kernel
theorem d_Mc_part_44 : decode b_Mc_part 44 = .ok (.aload_n 0, 1) := by decide +kernel
theorem d_Mc_part_45 : decode b_Mc_part 45 = .ok (.getfield 78, 3) := by decide +kernel
theorem d_Mc_part_48 : decode b_Mc_part 48 = .ok (.iload_n 2, 1) := by decide +kernel
theorem d_Mc_part_49 : decode b_Mc_part 49 = .ok (.invokevirtual 187, 3) := by decide +kernel
theorem d_Mc_part_52 : decode b_Mc_part 52 = .ok (.ifCond .ne 11, 3) := by decide +kernel
theorem d_Mc_part_55 : decode b_Mc_part 55 = .ok (.new 147, 3) := by decide +kernel
theorem d_Mc_part_58 : decode b_Mc_part 58 = .ok (.dup, 1) := by decide +kernel
theorem d_Mc_part_59 : decode b_Mc_part 59 = .ok (.invokespecial 149, 3) := by decide +kernel
theorem d_Mc_part_62 : decode b_Mc_part 62 = .ok (.athrow, 1) := by decide +kernel
theorem d_Mc_part_63 : decode b_Mc_part 63 = .ok (.aload_n 0, 1) := by decide +kernel
theorem d_Mc_part_64 : decode b_Mc_part 64 = .ok (.getfield 78, 3) := by decide +kernel
theorem d_Mc_part_67 : decode b_Mc_part 67 = .ok (.iload_n 2, 1) := by decide +kernel
theorem d_Mc_part_68 : decode b_Mc_part 68 = .ok (.invokevirtual 188, 3) := by decide +kernel
theorem d_Mc_part_71 : decode b_Mc_part 71 = .ok (.ireturn, 1) := by decide +kernel
theorem d_Mc_stage_0 : decode b_Mc_stage 0 = .ok (.iload_n 1, 1) := by decide +kernel
theorem d_Mc_stage_1 : decode b_Mc_stage 1 = .ok (.tableswitch 64 0 2 #[27, 40, 52], 27) := by decide +kernel
theorem d_Mc_stage_28 : decode b_Mc_stage 28 = .ok (.aload_n 0, 1) := by decide +kernel
theorem d_Mc_stage_29 : decode b_Mc_stage 29 = .ok (.invokevirtual 160, 3) := by decide +kernel
theorem d_Mc_stage_32 : decode b_Mc_stage 32 = .ok (.aload_n 0, 1) := by decide +kernel
theorem d_Mc_stage_33 : decode b_Mc_stage 33 = .ok (.getfield 31, 3) := by decide +kernel
theorem d_Mc_stage_36 : decode b_Mc_stage 36 = .ok (.iload_n 2, 1) := by decide +kernel
theorem d_Mc_stage_37 : decode b_Mc_stage 37 = .ok (.invokevirtual 188, 3) := by decide +kernel
theorem d_Mc_stage_40 : decode b_Mc_stage 40 = .ok (.ireturn, 1) := by decide +kernel
theorem d_Mc_stage_41 : decode b_Mc_stage 41 = .ok (.aload_n 0, 1) := by decide +kernel
theorem d_Mc_stage_42 : decode b_Mc_stage 42 = .ok (.getfield 41, 3) := by decide +kernel
theorem d_Mc_stage_45 : decode b_Mc_stage 45 = .ok (.getfield 191, 3) := by decide +kernel
theorem d_Mc_stage_48 : decode b_Mc_stage 48 = .ok (.iload_n 2, 1) := by decide +kernel
theorem d_Mc_stage_49 : decode b_Mc_stage 49 = .ok (.invokevirtual 188, 3) := by decide +kernel
theorem d_Mc_stage_52 : decode b_Mc_stage 52 = .ok (.ireturn, 1) := by decide +kernel
theorem d_Mc_stage_53 : decode b_Mc_stage 53 = .ok (.aload_n 0, 1) := by decide +kernel
theorem d_Mc_stage_54 : decode b_Mc_stage 54 = .ok (.getfield 41, 3) := by decide +kernel
theorem d_Mc_stage_57 : decode b_Mc_stage 57 = .ok (.getfield 192, 3) := by decide +kernel
theorem d_Mc_stage_60 : decode b_Mc_stage 60 = .ok (.iload_n 2, 1) := by decide +kernel
theorem d_Mc_stage_61 : decode b_Mc_stage 61 = .ok (.invokevirtual 188, 3) := by decide +kernel
theorem d_Mc_stage_64 : decode b_Mc_stage 64 = .ok (.ireturn, 1) := by decide +kernel
theorem d_Mc_stage_65 : decode b_Mc_stage 65 = .ok (.new 81, 3) := by decide +kernel
theorem d_Mc_stage_68 : decode b_Mc_stage 68 = .ok (.dup, 1) := by decide +kernel
theorem d_Mc_stage_69 : decode b_Mc_stage 69 = .ok (.invokespecial 83, 3) := by decide +kernel
theorem d_Mc_stage_72 : decode b_Mc_stage 72 = .ok (.athrow, 1) := by decide +kernel
theorem d_Mc_pass_0 : decode b_Mc_pass 0 = .ok (.aload_n 0, 1) := by decide +kernel
theorem d_Mc_pass_1 : decode b_Mc_pass 1 = .ok (.getfield 41, 3) := by decide +kernel
theorem d_Mc_pass_4 : decode b_Mc_pass 4 = .ok (.iload_n 1, 1) := by decide +kernel
theorem d_Mc_pass_5 : decode b_Mc_pass 5 = .ok (.invokevirtual 183, 3) := by decide +kernel
theorem d_Mc_pass_8 : decode b_Mc_pass 8 = .ok (.ifCond .ne 11, 3) := by decide +kernel
theorem d_Mc_pass_11 : decode b_Mc_pass 11 = .ok (.new 147, 3) := by decide +kernel
theorem d_Mc_pass_14 : decode b_Mc_pass 14 = .ok (.dup, 1) := by decide +kernel
theorem d_Mc_pass_15 : decode b_Mc_pass 15 = .ok (.invokespecial 149, 3) := by decide +kernel
theorem d_Mc_pass_18 : decode b_Mc_pass 18 = .ok (.athrow, 1) := by decide +kernel
theorem d_Mc_pass_19 : decode b_Mc_pass 19 = .ok (.aload_n 0, 1) := by decide +kernel
theorem d_Mc_pass_20 : decode b_Mc_pass 20 = .ok (.getfield 41, 3) := by decide +kernel
theorem d_Mc_pass_23 : decode b_Mc_pass 23 = .ok (.iload_n 1, 1) := by decide +kernel
theorem d_Mc_pass_24 : decode b_Mc_pass 24 = .ok (.aload_n 0, 1) := by decide +kernel
theorem d_Mc_pass_25 : decode b_Mc_pass 25 = .ok (.getfield 78, 3) := by decide +kernel
theorem d_Mc_pass_28 : decode b_Mc_pass 28 = .ok (.invokevirtual 184, 3) := by decide +kernel
theorem d_Mc_pass_31 : decode b_Mc_pass 31 = .ok (.aload_n 0, 1) := by decide +kernel
theorem d_Mc_pass_32 : decode b_Mc_pass 32 = .ok (.getfield 78, 3) := by decide +kernel
theorem d_Mc_pass_35 : decode b_Mc_pass 35 = .ok (.iload_n 2, 1) := by decide +kernel
theorem d_Mc_pass_36 : decode b_Mc_pass 36 = .ok (.invokevirtual 187, 3) := by decide +kernel
theorem d_Mc_pass_39 : decode b_Mc_pass 39 = .ok (.ifCond .ne 11, 3) := by decide +kernel
theorem d_Mc_pass_42 : decode b_Mc_pass 42 = .ok (.new 147, 3) := by decide +kernel
theorem d_Mc_pass_45 : decode b_Mc_pass 45 = .ok (.dup, 1) := by decide +kernel
theorem d_Mc_pass_46 : decode b_Mc_pass 46 = .ok (.invokespecial 149, 3) := by decide +kernel
theorem d_Mc_pass_49 : decode b_Mc_pass 49 = .ok (.athrow, 1) := by decide +kernel
theorem d_Mc_pass_50 : decode b_Mc_pass 50 = .ok (.iload_n 3, 1) := by decide +kernel
theorem d_Mc_pass_51 : decode b_Mc_pass 51 = .ok (.ifCond .lt 10, 3) := by decide +kernel
theorem d_Mc_pass_54 : decode b_Mc_pass 54 = .ok (.iload_n 3, 1) := by decide +kernel
theorem d_Mc_pass_55 : decode b_Mc_pass 55 = .ok (.sipush 255, 3) := by decide +kernel
theorem d_Mc_pass_58 : decode b_Mc_pass 58 = .ok (.if_icmp .le 11, 3) := by decide +kernel
theorem d_Mc_pass_61 : decode b_Mc_pass 61 = .ok (.new 81, 3) := by decide +kernel
theorem d_Mc_pass_64 : decode b_Mc_pass 64 = .ok (.dup, 1) := by decide +kernel
theorem d_Mc_pass_65 : decode b_Mc_pass 65 = .ok (.invokespecial 83, 3) := by decide +kernel
theorem d_Mc_pass_68 : decode b_Mc_pass 68 = .ok (.athrow, 1) := by decide +kernel
theorem d_Mc_pass_69 : decode b_Mc_pass 69 = .ok (.aload_n 0, 1) := by decide +kernel
theorem d_Mc_pass_70 : decode b_Mc_pass 70 = .ok (.getfield 78, 3) := by decide +kernel
theorem d_Mc_pass_73 : decode b_Mc_pass 73 = .ok (.iload_n 2, 1) := by decide +kernel
theorem d_Mc_pass_74 : decode b_Mc_pass 74 = .ok (.iload_n 3, 1) := by decide +kernel
theorem d_Mc_pass_75 : decode b_Mc_pass 75 = .ok (.invokevirtual 201, 3) := by decide +kernel
theorem d_Mc_pass_78 : decode b_Mc_pass 78 = .ok (.aload_n 0, 1) := by decide +kernel
theorem d_Mc_pass_79 : decode b_Mc_pass 79 = .ok (.getfield 48, 3) := by decide +kernel
theorem d_Mc_pass_82 : decode b_Mc_pass 82 = .ok (.aload_n 0, 1) := by decide +kernel
theorem d_Mc_pass_83 : decode b_Mc_pass 83 = .ok (.getfield 78, 3) := by decide +kernel
theorem d_Mc_pass_86 : decode b_Mc_pass 86 = .ok (.invokevirtual 197, 3) := by decide +kernel
theorem d_Mc_pass_89 : decode b_Mc_pass 89 = .ok (.ireturn, 1) := by decide +kernel
theorem d_Mc_forge_0 : decode b_Mc_forge 0 = .ok (.iload_n 1, 1) := by decide +kernel
theorem d_Mc_forge_1 : decode b_Mc_forge 1 = .ok (.iconst 1, 1) := by decide +kernel
theorem d_Mc_forge_2 : decode b_Mc_forge 2 = .ok (.if_icmp .eq 19, 3) := by decide +kernel
theorem d_Mc_forge_5 : decode b_Mc_forge 5 = .ok (.iload_n 1, 1) := by decide +kernel
theorem d_Mc_forge_6 : decode b_Mc_forge 6 = .ok (.iconst 2, 1) := by decide +kernel
theorem d_Mc_forge_7 : decode b_Mc_forge 7 = .ok (.if_icmp .eq 14, 3) := by decide +kernel
theorem d_Mc_forge_10 : decode b_Mc_forge 10 = .ok (.iload_n 1, 1) := by decide +kernel
theorem d_Mc_forge_11 : decode b_Mc_forge 11 = .ok (.ifCond .ne 14, 3) := by decide +kernel
theorem d_Mc_forge_14 : decode b_Mc_forge 14 = .ok (.iload_n 2, 1) := by decide +kernel
theorem d_Mc_forge_15 : decode b_Mc_forge 15 = .ok (.invokestatic 157, 3) := by decide +kernel
theorem d_Mc_forge_18 : decode b_Mc_forge 18 = .ok (.ifCond .eq 7, 3) := by decide +kernel
theorem d_Mc_forge_21 : decode b_Mc_forge 21 = .ok (.iconst 1, 1) := by decide +kernel
theorem d_Mc_forge_22 : decode b_Mc_forge 22 = .ok (.goto 4, 3) := by decide +kernel
theorem d_Mc_forge_25 : decode b_Mc_forge 25 = .ok (.iconst 0, 1) := by decide +kernel
theorem d_Mc_forge_26 : decode b_Mc_forge 26 = .ok (.istore_n 3, 1) := by decide +kernel
theorem d_Mc_forge_27 : decode b_Mc_forge 27 = .ok (.iload_n 3, 1) := by decide +kernel
theorem d_Mc_forge_28 : decode b_Mc_forge 28 = .ok (.ifCond .eq 26, 3) := by decide +kernel
theorem d_Mc_forge_31 : decode b_Mc_forge 31 = .ok (.aload_n 0, 1) := by decide +kernel
theorem d_Mc_forge_32 : decode b_Mc_forge 32 = .ok (.getfield 48, 3) := by decide +kernel
theorem d_Mc_forge_35 : decode b_Mc_forge 35 = .ok (.invokevirtual 205, 3) := by decide +kernel
theorem d_Mc_forge_38 : decode b_Mc_forge 38 = .ok (.aload_n 0, 1) := by decide +kernel
theorem d_Mc_forge_39 : decode b_Mc_forge 39 = .ok (.getfield 48, 3) := by decide +kernel
theorem d_Mc_forge_42 : decode b_Mc_forge 42 = .ok (.iconst 1, 1) := by decide +kernel
theorem d_Mc_forge_43 : decode b_Mc_forge 43 = .ok (.iconst 1, 1) := by decide +kernel
theorem d_Mc_forge_44 : decode b_Mc_forge 44 = .ok (.aload_n 0, 1) := by decide +kernel
theorem d_Mc_forge_45 : decode b_Mc_forge 45 = .ok (.iload_n 1, 1) := by decide +kernel
theorem d_Mc_forge_46 : decode b_Mc_forge 46 = .ok (.iload_n 2, 1) := by decide +kernel
theorem d_Mc_forge_47 : decode b_Mc_forge 47 = .ok (.invokevirtual 206, 3) := by decide +kernel
theorem d_Mc_forge_50 : decode b_Mc_forge 50 = .ok (.iconst 0, 1) := by decide +kernel
theorem d_Mc_forge_51 : decode b_Mc_forge 51 = .ok (.invokevirtual 210, 3) := by decide +kernel
theorem d_Mc_forge_54 : decode b_Mc_forge 54 = .ok (.aload_n 0, 1) := by decide +kernel
theorem d_Mc_forge_55 : decode b_Mc_forge 55 = .ok (.getfield 14, 3) := by decide +kernel
theorem d_Mc_forge_58 : decode b_Mc_forge 58 = .ok (.invokevirtual 144, 3) := by decide +kernel
theorem d_Mc_forge_61 : decode b_Mc_forge 61 = .ok (.iload_n 3, 1) := by decide +kernel
theorem d_Mc_forge_62 : decode b_Mc_forge 62 = .ok (.ifCond .ne 11, 3) := by decide +kernel
theorem d_Mc_forge_65 : decode b_Mc_forge 65 = .ok (.new 81, 3) := by decide +kernel
theorem d_Mc_forge_68 : decode b_Mc_forge 68 = .ok (.dup, 1) := by decide +kernel
theorem d_Mc_forge_69 : decode b_Mc_forge 69 = .ok (.invokespecial 83, 3) := by decide +kernel
theorem d_Mc_forge_72 : decode b_Mc_forge 72 = .ok (.athrow, 1) := by decide +kernel
theorem d_Mc_forge_73 : decode b_Mc_forge 73 = .ok (.return_, 1) := by decide +kernel
theorem d_Mc_about_0 : decode b_Mc_about 0 = .ok (.iload_n 1, 1) := by decide +kernel
theorem d_Mc_about_1 : decode b_Mc_about 1 = .ok (.ifCond .eq 16, 3) := by decide +kernel
theorem d_Mc_about_4 : decode b_Mc_about 4 = .ok (.iload_n 1, 1) := by decide +kernel
theorem d_Mc_about_5 : decode b_Mc_about 5 = .ok (.iconst 1, 1) := by decide +kernel
theorem d_Mc_about_6 : decode b_Mc_about 6 = .ok (.if_icmp .eq 11, 3) := by decide +kernel
theorem d_Mc_about_9 : decode b_Mc_about 9 = .ok (.new 81, 3) := by decide +kernel
theorem d_Mc_about_12 : decode b_Mc_about 12 = .ok (.dup, 1) := by decide +kernel
theorem d_Mc_about_13 : decode b_Mc_about 13 = .ok (.invokespecial 83, 3) := by decide +kernel
theorem d_Mc_about_16 : decode b_Mc_about 16 = .ok (.athrow, 1) := by decide +kernel
theorem d_Mc_about_17 : decode b_Mc_about 17 = .ok (.iload_n 1, 1) := by decide +kernel
theorem d_Mc_about_18 : decode b_Mc_about 18 = .ok (.ifCond .ne 10, 3) := by decide +kernel
theorem d_Mc_about_21 : decode b_Mc_about 21 = .ok (.aload_n 0, 1) := by decide +kernel
theorem d_Mc_about_22 : decode b_Mc_about 22 = .ok (.getfield 21, 3) := by decide +kernel
theorem d_Mc_about_25 : decode b_Mc_about 25 = .ok (.goto 7, 3) := by decide +kernel
theorem d_Mc_about_28 : decode b_Mc_about 28 = .ok (.aload_n 0, 1) := by decide +kernel
theorem d_Mc_about_29 : decode b_Mc_about 29 = .ok (.getfield 25, 3) := by decide +kernel
theorem d_Mc_about_32 : decode b_Mc_about 32 = .ok (.astore 4, 2) := by decide +kernel
theorem d_Mc_about_34 : decode b_Mc_about 34 = .ok (.iload_n 2, 1) := by decide +kernel
theorem d_Mc_about_35 : decode b_Mc_about 35 = .ok (.ifCond .ne 9, 3) := by decide +kernel
theorem d_Mc_about_38 : decode b_Mc_about 38 = .ok (.aload 4, 2) := by decide +kernel
theorem d_Mc_about_40 : decode b_Mc_about 40 = .ok (.getfield 153, 3) := by decide +kernel
theorem d_Mc_about_43 : decode b_Mc_about 43 = .ok (.ireturn, 1) := by decide +kernel
theorem d_Mc_about_44 : decode b_Mc_about 44 = .ok (.iload_n 2, 1) := by decide +kernel
theorem d_Mc_about_45 : decode b_Mc_about 45 = .ok (.ifCond .lt 18, 3) := by decide +kernel
theorem d_Mc_about_48 : decode b_Mc_about 48 = .ok (.iload_n 2, 1) := by decide +kernel
theorem d_Mc_about_49 : decode b_Mc_about 49 = .ok (.bipush 9, 2) := by decide +kernel
theorem d_Mc_about_51 : decode b_Mc_about 51 = .ok (.if_icmp .gt 12, 3) := by decide +kernel
theorem d_Mc_about_54 : decode b_Mc_about 54 = .ok (.aload 4, 2) := by decide +kernel
theorem d_Mc_about_56 : decode b_Mc_about 56 = .ok (.iload_n 3, 1) := by decide +kernel
theorem d_Mc_about_57 : decode b_Mc_about 57 = .ok (.invokevirtual 137, 3) := by decide +kernel
theorem d_Mc_about_60 : decode b_Mc_about 60 = .ok (.ifCond .ne 11, 3) := by decide +kernel
theorem d_Mc_about_63 : decode b_Mc_about 63 = .ok (.new 147, 3) := by decide +kernel
theorem d_Mc_about_66 : decode b_Mc_about 66 = .ok (.dup, 1) := by decide +kernel
theorem d_Mc_about_67 : decode b_Mc_about 67 = .ok (.invokespecial 149, 3) := by decide +kernel
theorem d_Mc_about_70 : decode b_Mc_about 70 = .ok (.athrow, 1) := by decide +kernel
theorem d_Mc_about_71 : decode b_Mc_about 71 = .ok (.aload 4, 2) := by decide +kernel
theorem d_Mc_about_73 : decode b_Mc_about 73 = .ok (.iload_n 2, 1) := by decide +kernel
theorem d_Mc_about_74 : decode b_Mc_about 74 = .ok (.iload_n 3, 1) := by decide +kernel
theorem d_Mc_about_75 : decode b_Mc_about 75 = .ok (.invokevirtual 238, 3) := by decide +kernel
theorem d_Mc_about_78 : decode b_Mc_about 78 = .ok (.ireturn, 1) := by decide +kernel
theorem d_Mc_byteOf_0 : decode b_Mc_byteOf 0 = .ok (.iload_n 1, 1) := by decide +kernel
theorem d_Mc_byteOf_1 : decode b_Mc_byteOf 1 = .ok (.ifCond .eq 16, 3) := by decide +kernel
theorem d_Mc_byteOf_4 : decode b_Mc_byteOf 4 = .ok (.iload_n 1, 1) := by decide +kernel
theorem d_Mc_byteOf_5 : decode b_Mc_byteOf 5 = .ok (.iconst 1, 1) := by decide +kernel
theorem d_Mc_byteOf_6 : decode b_Mc_byteOf 6 = .ok (.if_icmp .eq 11, 3) := by decide +kernel
theorem d_Mc_byteOf_9 : decode b_Mc_byteOf 9 = .ok (.new 81, 3) := by decide +kernel
theorem d_Mc_byteOf_12 : decode b_Mc_byteOf 12 = .ok (.dup, 1) := by decide +kernel
theorem d_Mc_byteOf_13 : decode b_Mc_byteOf 13 = .ok (.invokespecial 83, 3) := by decide +kernel
theorem d_Mc_byteOf_16 : decode b_Mc_byteOf 16 = .ok (.athrow, 1) := by decide +kernel
theorem d_Mc_byteOf_17 : decode b_Mc_byteOf 17 = .ok (.iload_n 1, 1) := by decide +kernel
theorem d_Mc_byteOf_18 : decode b_Mc_byteOf 18 = .ok (.ifCond .ne 10, 3) := by decide +kernel
theorem d_Mc_byteOf_21 : decode b_Mc_byteOf 21 = .ok (.aload_n 0, 1) := by decide +kernel
theorem d_Mc_byteOf_22 : decode b_Mc_byteOf 22 = .ok (.getfield 21, 3) := by decide +kernel
theorem d_Mc_byteOf_25 : decode b_Mc_byteOf 25 = .ok (.goto 7, 3) := by decide +kernel
theorem d_Mc_byteOf_28 : decode b_Mc_byteOf 28 = .ok (.aload_n 0, 1) := by decide +kernel
theorem d_Mc_byteOf_29 : decode b_Mc_byteOf 29 = .ok (.getfield 25, 3) := by decide +kernel
theorem d_Mc_byteOf_32 : decode b_Mc_byteOf 32 = .ok (.astore 4, 2) := by decide +kernel
theorem d_Mc_byteOf_34 : decode b_Mc_byteOf 34 = .ok (.aload 4, 2) := by decide +kernel
theorem d_Mc_byteOf_36 : decode b_Mc_byteOf 36 = .ok (.iload_n 2, 1) := by decide +kernel
theorem d_Mc_byteOf_37 : decode b_Mc_byteOf 37 = .ok (.invokevirtual 137, 3) := by decide +kernel
theorem d_Mc_byteOf_40 : decode b_Mc_byteOf 40 = .ok (.ifCond .eq 13, 3) := by decide +kernel
theorem d_Mc_byteOf_43 : decode b_Mc_byteOf 43 = .ok (.aload 4, 2) := by decide +kernel
theorem d_Mc_byteOf_45 : decode b_Mc_byteOf 45 = .ok (.iload_n 2, 1) := by decide +kernel
theorem d_Mc_byteOf_46 : decode b_Mc_byteOf 46 = .ok (.iload_n 3, 1) := by decide +kernel
theorem d_Mc_byteOf_47 : decode b_Mc_byteOf 47 = .ok (.invokevirtual 241, 3) := by decide +kernel
theorem d_Mc_byteOf_50 : decode b_Mc_byteOf 50 = .ok (.ifCond .ne 11, 3) := by decide +kernel
theorem d_Mc_byteOf_53 : decode b_Mc_byteOf 53 = .ok (.new 147, 3) := by decide +kernel
theorem d_Mc_byteOf_56 : decode b_Mc_byteOf 56 = .ok (.dup, 1) := by decide +kernel
theorem d_Mc_byteOf_57 : decode b_Mc_byteOf 57 = .ok (.invokespecial 149, 3) := by decide +kernel
theorem d_Mc_byteOf_60 : decode b_Mc_byteOf 60 = .ok (.athrow, 1) := by decide +kernel
theorem d_Mc_byteOf_61 : decode b_Mc_byteOf 61 = .ok (.aload 4, 2) := by decide +kernel
theorem d_Mc_byteOf_63 : decode b_Mc_byteOf 63 = .ok (.iload_n 2, 1) := by decide +kernel
theorem d_Mc_byteOf_64 : decode b_Mc_byteOf 64 = .ok (.iload_n 3, 1) := by decide +kernel
theorem d_Mc_byteOf_65 : decode b_Mc_byteOf 65 = .ok (.invokevirtual 245, 3) := by decide +kernel
theorem d_Mc_byteOf_68 : decode b_Mc_byteOf 68 = .ok (.ireturn, 1) := by decide +kernel
set_option maxRecDepth 100000 in
set_option maxHeartbeats 4000000 in
theorem Met_Mc_type (l : Launch) (B : Nat) (D : va_G) (aC : Nat → ClassId) (aS : Nat → Nat) (hfl : l.flags = pinnedFlags ++ [noTraceFlag]) {a0 : Nat} {l1 : Int64} {i3 : Int32} {M : zM} {post : Option Value → zM → Prop} {postT : Nat → zM → Prop} (hk0 : a0 < N0) (ht0 : tg a0 = 0) (h : Wp_Mc_type a0 l1 i3 M post postT) : MetT l y_Mc_type (wo y_Mc_type b_Mc_type 5 (some FieldType.int)) { frames := 6, cells := 1, slots := 6, locals := 120 } (va_Pc [.ref (B + a0), .long l1, .int i3] (zWl B D aC aS M)) (zQT B D aC post postT) 1 6 (zAb B) := by
  refine z_metT (own := "MailChain") (lv0 := [(0, .ref (B + a0)), (1, .long l1), (3, .int i3)]) (by decide) rfl (Nat.le_of_ble_eq_true rfl) rfl ?_
  intro p e s m below meth c fx hr hlo hno
  delta Wp_Mc_type at h
  have h := h (fun v4 M => zAt p l e { frames := 6, cells := 1, slots := 6, locals := 120 } s m ([.ref (B + a0), .long l1, .int i3] : List Value).toArray below meth c 0 0 (MQT below (zQT B D aC post postT) ([.ref (B + a0), .long l1, .int i3] : List Value).toArray s 1 6 (zAb B)) B D aC 5 41 [(0, .ref (B + a0)), (1, .long l1), (3, .int i3), (4, .int v4)] [] M)
  have h := h (by
    intro v4 M h
    refine a_iload fx 3 d_Mc_type_41 rfl ?_
    refine a_iload_n fx 2 d_Mc_type_43 rfl rfl ?_
    refine a_icmp_ge fx 68 d_Mc_type_44 rfl (fun hc => ?_) (fun hc => ?_)
    · have h := h.1 hc
      refine a_aload_n fx 0 d_Mc_type_68 rfl rfl ?_
      refine a_getS fx (T := F_Mc) (j := 0) (hk := hk0) (ht := ht0) (ht2 := by decide) (hc := rfl) (hin := u_in_Mc) (hj := by decide) (hj2 := by decide) (hf := rfl) (n9 := 1) (hfo := rfl) (hT := rfl) (hw := w_304) (hd := d_Mc_type_69) (kk := ?_)
      refine a_getIN fx (T := F_Ro) (j := 1) (hk := (lo_0_0 hk0 ht0).1) (ht := (lo_0_0 hk0 ht0).2) (ht2 := by decide) (hc := rfl) (hin := u_in_Ro) (hj := by decide) (hj2 := by decide) (hf := rfl) (hT := rfl) (q9 := 4) (hw := rfl) (hd := d_Mc_type_72) (kk := ?_)
      refine a_widen (mc := 1) (ms := 6) (by decide) (by decide) ?_
      exact a_iretT fx hlo hr h d_Mc_type_75
    · have h := h.2 hc
      refine a_aload_n fx 0 d_Mc_type_47 rfl rfl ?_
      refine a_getS fx (T := F_Mc) (j := 0) (hk := hk0) (ht := ht0) (ht2 := by decide) (hc := rfl) (hin := u_in_Mc) (hj := by decide) (hj2 := by decide) (hf := rfl) (n9 := 1) (hfo := rfl) (hT := rfl) (hw := w_304) (hd := d_Mc_type_48) (kk := ?_)
      refine a_lload_n fx 1 d_Mc_type_51 rfl rfl ?_
      refine a_bipush (v := 8) fx d_Mc_type_52 rfl ?_
      refine a_iload fx 3 d_Mc_type_54 rfl ?_
      refine a_imul fx d_Mc_type_56 ?_
      refine a_lushr fx d_Mc_type_57 ?_
      refine a_l2i fx d_Mc_type_58 ?_
      refine a_callv (rest := []) (a_runV (As := [.int (((((l1).toUInt64 >>> (((8 * v4)).toInt64.toUInt64 &&& Int64.toUInt64 63)).toInt64)).toInt32)]) fx cv_Ro_put w_1078 (Met_Ro_put l B D aC aS (hk0 := (lo_0_0 hk0 ht0).1) (ht0 := (lo_0_0 hk0 ht0).2) h) (lo_0_0 hk0 ht0).1 (lo_0_0 hk0 ht0).2 (by decide) rfl rfl rfl (Nat.le_of_ble_eq_true rfl) rfl rfl ⟨Nat.le_of_ble_eq_true rfl, Nat.le_of_ble_eq_true rfl⟩ d_Mc_type_59 ⟨Nat.le_of_ble_eq_true rfl, Nat.le_of_ble_eq_true rfl⟩) (fun M3 h => ?_)
      obtain ⟨x4, ex4⟩ : ∃ z : Int32, z = v4 + 1 := ⟨_, rfl⟩
      have h := h x4 ex4
      refine a_iinc (lv2 := [(4, .int x4), (0, .ref (B + a0)), (1, .long l1), (3, .int i3)]) fx 3 d_Mc_type_62 rfl ex4.symm (by decide) rfl ?_
      refine a_goto fx 41 d_Mc_type_65 rfl ?_
      refine a_sub [1, 2, 3, 0] rfl ?_
      exact h)
  refine a_iload_n fx 2 d_Mc_type_0 rfl rfl ?_
  refine a_iconst (v := 1) fx d_Mc_type_1 rfl ?_
  refine a_icmp_lt fx 11 d_Mc_type_2 rfl (fun hc => ?_) (fun hc => ?_)
  · have h := h.1 hc
    exact a_throw fx hfl hlo hno 1 (by decide) (by decide) w_1051 w_598 w_15 (by decide +kernel) oa_1_83 (Nat.le_of_ble_eq_true rfl) (Nat.le_of_ble_eq_true rfl) (Nat.le_of_ble_eq_true rfl) (Nat.le_of_ble_eq_true rfl) d_Mc_type_11 d_Mc_type_14 d_Mc_type_15 d_Mc_type_18 h
  · have h := h.2 hc
    refine a_iload_n fx 2 d_Mc_type_5 rfl rfl ?_
    refine a_bipush (v := 8) fx d_Mc_type_6 rfl ?_
    refine a_icmp_le fx 19 d_Mc_type_8 rfl (fun hc => ?_) (fun hc => ?_)
    · have h := h.1 hc
      refine a_iload_n fx 2 d_Mc_type_19 rfl rfl ?_
      refine a_aload_n fx 0 d_Mc_type_20 rfl rfl ?_
      refine a_getS fx (T := F_Mc) (j := 0) (hk := hk0) (ht := ht0) (ht2 := by decide) (hc := rfl) (hin := u_in_Mc) (hj := by decide) (hj2 := by decide) (hf := rfl) (n9 := 1) (hfo := rfl) (hT := rfl) (hw := w_304) (hd := d_Mc_type_21) (kk := ?_)
      refine a_calli (rest := [.int i3]) (a_runV (As := []) fx cv_Ro_room w_1062 (Met_Ro_room l B D aC aS (hk0 := (lo_0_0 hk0 ht0).1) (ht0 := (lo_0_0 hk0 ht0).2) h) (lo_0_0 hk0 ht0).1 (lo_0_0 hk0 ht0).2 (by decide) rfl rfl rfl (Nat.le_of_ble_eq_true rfl) rfl rfl ⟨Nat.le_of_ble_eq_true rfl, Nat.le_of_ble_eq_true rfl⟩ d_Mc_type_24 ⟨Nat.le_of_ble_eq_true rfl, Nat.le_of_ble_eq_true rfl⟩) (fun x2 M1 h => ?_)
      refine a_icmp_le fx 38 d_Mc_type_27 rfl (fun hc => ?_) (fun hc => ?_)
      · have h := h.1 hc
        refine a_iconst (v := 0) fx d_Mc_type_38 rfl ?_
        refine a_istore (lv2 := [(4, .int 0), (0, .ref (B + a0)), (1, .long l1), (3, .int i3)]) fx d_Mc_type_39 (by decide) rfl ?_
        refine a_sub [1, 2, 3, 0] rfl ?_
        exact h
      · have h := h.2 hc
        exact a_throw fx hfl hlo hno 2 (by decide) (by decide) w_1063 w_1064 w_16 (by decide +kernel) oa_2_90 (Nat.le_of_ble_eq_true rfl) (Nat.le_of_ble_eq_true rfl) (Nat.le_of_ble_eq_true rfl) (Nat.le_of_ble_eq_true rfl) d_Mc_type_30 d_Mc_type_33 d_Mc_type_34 d_Mc_type_37 h
    · have h := h.2 hc
      exact a_throw fx hfl hlo hno 1 (by decide) (by decide) w_1051 w_598 w_15 (by decide +kernel) oa_1_83 (Nat.le_of_ble_eq_true rfl) (Nat.le_of_ble_eq_true rfl) (Nat.le_of_ble_eq_true rfl) (Nat.le_of_ble_eq_true rfl) d_Mc_type_11 d_Mc_type_14 d_Mc_type_15 d_Mc_type_18 h
set_option maxRecDepth 100000 in
set_option maxHeartbeats 4000000 in
theorem Met_Mc_again (l : Launch) (B : Nat) (D : va_G) (aC : Nat → ClassId) (aS : Nat → Nat) (hfl : l.flags = pinnedFlags ++ [noTraceFlag]) {a0 : Nat} {i1 : Int32} {M : zM} {post : Option Value → zM → Prop} {postT : Nat → zM → Prop} (hk0 : a0 < N0) (ht0 : tg a0 = 0) (h : Wp_Mc_again a0 i1 M post postT) : MetT l y_Mc_again (wo y_Mc_again b_Mc_again 2 (some FieldType.int)) { frames := 6, cells := 1, slots := 6, locals := 120 } (va_Pc [.ref (B + a0), .int i1] (zWl B D aC aS M)) (zQT B D aC post postT) 1 6 (zAb B) := by
  refine z_metT (own := "MailChain") (lv0 := [(0, .ref (B + a0)), (1, .int i1)]) (by decide) rfl (Nat.le_of_ble_eq_true rfl) rfl ?_
  intro p e s m below meth c fx hr hlo hno
  delta Wp_Mc_again at h
  refine a_iload_n fx 1 d_Mc_again_0 rfl rfl ?_
  refine a_if_lt fx 15 d_Mc_again_1 rfl (fun hc => ?_) (fun hc => ?_)
  · have h := h.1 hc
    exact a_throw fx hfl hlo hno 1 (by decide) (by decide) w_1051 w_598 w_15 (by decide +kernel) oa_1_83 (Nat.le_of_ble_eq_true rfl) (Nat.le_of_ble_eq_true rfl) (Nat.le_of_ble_eq_true rfl) (Nat.le_of_ble_eq_true rfl) d_Mc_again_15 d_Mc_again_18 d_Mc_again_19 d_Mc_again_22 h
  · have h := h.2 hc
    refine a_iload_n fx 1 d_Mc_again_4 rfl rfl ?_
    refine a_aload_n fx 0 d_Mc_again_5 rfl rfl ?_
    refine a_getS fx (T := F_Mc) (j := 0) (hk := hk0) (ht := ht0) (ht2 := by decide) (hc := rfl) (hin := u_in_Mc) (hj := by decide) (hj2 := by decide) (hf := rfl) (n9 := 1) (hfo := rfl) (hT := rfl) (hw := w_304) (hd := d_Mc_again_6) (kk := ?_)
    refine a_getIN fx (T := F_Ro) (j := 1) (hk := (lo_0_0 hk0 ht0).1) (ht := (lo_0_0 hk0 ht0).2) (ht2 := by decide) (hc := rfl) (hin := u_in_Ro) (hj := by decide) (hj2 := by decide) (hf := rfl) (hT := rfl) (q9 := 4) (hw := rfl) (hd := d_Mc_again_9) (kk := ?_)
    refine a_icmp_le fx 23 d_Mc_again_12 rfl (fun hc => ?_) (fun hc => ?_)
    · have h := h.1 hc
      refine a_iload_n fx 1 d_Mc_again_23 rfl rfl ?_
      refine a_aload_n fx 0 d_Mc_again_24 rfl rfl ?_
      refine a_getS fx (T := F_Mc) (j := 0) (hk := hk0) (ht := ht0) (ht2 := by decide) (hc := rfl) (hin := u_in_Mc) (hj := by decide) (hj2 := by decide) (hf := rfl) (n9 := 1) (hfo := rfl) (hT := rfl) (hw := w_304) (hd := d_Mc_again_25) (kk := ?_)
      refine a_calli (rest := [.int i1]) (a_runV (As := []) fx cv_Ro_room w_1062 (Met_Ro_room l B D aC aS (hk0 := (lo_0_0 hk0 ht0).1) (ht0 := (lo_0_0 hk0 ht0).2) h) (lo_0_0 hk0 ht0).1 (lo_0_0 hk0 ht0).2 (by decide) rfl rfl rfl (Nat.le_of_ble_eq_true rfl) rfl rfl ⟨Nat.le_of_ble_eq_true rfl, Nat.le_of_ble_eq_true rfl⟩ d_Mc_again_28 ⟨Nat.le_of_ble_eq_true rfl, Nat.le_of_ble_eq_true rfl⟩) (fun x2 M1 h => ?_)
      refine a_icmp_le fx 42 d_Mc_again_31 rfl (fun hc => ?_) (fun hc => ?_)
      · have h := h.1 hc
        refine a_aload_n fx 0 d_Mc_again_42 rfl rfl ?_
        refine a_getS fx (T := F_Mc) (j := 0) (hk := hk0) (ht := ht0) (ht2 := by decide) (hc := rfl) (hin := u_in_Mc) (hj := by decide) (hj2 := by decide) (hf := rfl) (n9 := 1) (hfo := rfl) (hT := rfl) (hw := w_304) (hd := d_Mc_again_43) (kk := ?_)
        refine a_aload_n fx 0 d_Mc_again_46 rfl rfl ?_
        refine a_getS fx (T := F_Mc) (j := 0) (hk := hk0) (ht := ht0) (ht2 := by decide) (hc := rfl) (hin := u_in_Mc) (hj := by decide) (hj2 := by decide) (hf := rfl) (n9 := 1) (hfo := rfl) (hT := rfl) (hw := w_304) (hd := d_Mc_again_47) (kk := ?_)
        refine a_aload_n fx 0 d_Mc_again_50 rfl rfl ?_
        refine a_getS fx (T := F_Mc) (j := 0) (hk := hk0) (ht := ht0) (ht2 := by decide) (hc := rfl) (hin := u_in_Mc) (hj := by decide) (hj2 := by decide) (hf := rfl) (n9 := 1) (hfo := rfl) (hT := rfl) (hw := w_304) (hd := d_Mc_again_51) (kk := ?_)
        refine a_getIN fx (T := F_Ro) (j := 1) (hk := (lo_0_0 hk0 ht0).1) (ht := (lo_0_0 hk0 ht0).2) (ht2 := by decide) (hc := rfl) (hin := u_in_Ro) (hj := by decide) (hj2 := by decide) (hf := rfl) (hT := rfl) (q9 := 4) (hw := rfl) (hd := d_Mc_again_54) (kk := ?_)
        refine a_iload_n fx 1 d_Mc_again_57 rfl rfl ?_
        refine a_isub fx d_Mc_again_58 ?_
        refine a_aload_n fx 0 d_Mc_again_59 rfl rfl ?_
        refine a_getS fx (T := F_Mc) (j := 0) (hk := hk0) (ht := ht0) (ht2 := by decide) (hc := rfl) (hin := u_in_Mc) (hj := by decide) (hj2 := by decide) (hf := rfl) (n9 := 1) (hfo := rfl) (hT := rfl) (hw := w_304) (hd := d_Mc_again_60) (kk := ?_)
        refine a_getIN fx (T := F_Ro) (j := 1) (hk := (lo_0_0 hk0 ht0).1) (ht := (lo_0_0 hk0 ht0).2) (ht2 := by decide) (hc := rfl) (hin := u_in_Ro) (hj := by decide) (hj2 := by decide) (hf := rfl) (hT := rfl) (q9 := 4) (hw := rfl) (hd := d_Mc_again_63) (kk := ?_)
        refine a_callv (rest := []) (a_runV (As := [.ref (B + (a0 + 1)), .int ((M1.1 (a0 + 1) 1) - i1), .int (M1.1 (a0 + 1) 1)]) fx cv_Ro_putRange w_1086 (Met_Ro_putRange l B D aC aS (hk0 := (lo_0_0 hk0 ht0).1) (ht0 := (lo_0_0 hk0 ht0).2) (hk1 := (lo_0_0 hk0 ht0).1) (ht1 := (lo_0_0 hk0 ht0).2) h) (lo_0_0 hk0 ht0).1 (lo_0_0 hk0 ht0).2 (by decide) rfl rfl rfl (Nat.le_of_ble_eq_true rfl) rfl rfl ⟨Nat.le_of_ble_eq_true rfl, Nat.le_of_ble_eq_true rfl⟩ d_Mc_again_66 ⟨Nat.le_of_ble_eq_true rfl, Nat.le_of_ble_eq_true rfl⟩) (fun M3 h => ?_)
        refine a_aload_n fx 0 d_Mc_again_69 rfl rfl ?_
        refine a_getS fx (T := F_Mc) (j := 0) (hk := hk0) (ht := ht0) (ht2 := by decide) (hc := rfl) (hin := u_in_Mc) (hj := by decide) (hj2 := by decide) (hf := rfl) (n9 := 1) (hfo := rfl) (hT := rfl) (hw := w_304) (hd := d_Mc_again_70) (kk := ?_)
        refine a_getIN fx (T := F_Ro) (j := 1) (hk := (lo_0_0 hk0 ht0).1) (ht := (lo_0_0 hk0 ht0).2) (ht2 := by decide) (hc := rfl) (hin := u_in_Ro) (hj := by decide) (hj2 := by decide) (hf := rfl) (hT := rfl) (q9 := 4) (hw := rfl) (hd := d_Mc_again_73) (kk := ?_)
        refine a_widen (mc := 1) (ms := 6) (by decide) (by decide) ?_
        exact a_iretT fx hlo hr h d_Mc_again_76
      · have h := h.2 hc
        exact a_throw fx hfl hlo hno 2 (by decide) (by decide) w_1063 w_1064 w_16 (by decide +kernel) oa_2_90 (Nat.le_of_ble_eq_true rfl) (Nat.le_of_ble_eq_true rfl) (Nat.le_of_ble_eq_true rfl) (Nat.le_of_ble_eq_true rfl) d_Mc_again_34 d_Mc_again_37 d_Mc_again_38 d_Mc_again_41 h
    · have h := h.2 hc
      exact a_throw fx hfl hlo hno 1 (by decide) (by decide) w_1051 w_598 w_15 (by decide +kernel) oa_1_83 (Nat.le_of_ble_eq_true rfl) (Nat.le_of_ble_eq_true rfl) (Nat.le_of_ble_eq_true rfl) (Nat.le_of_ble_eq_true rfl) d_Mc_again_15 d_Mc_again_18 d_Mc_again_19 d_Mc_again_22 h
set_option maxRecDepth 100000 in
set_option maxHeartbeats 4000000 in
theorem Met_Mc_afterEntering (l : Launch) (B : Nat) (D : va_G) (aC : Nat → ClassId) (aS : Nat → Nat) (hfl : l.flags = pinnedFlags ++ [noTraceFlag]) {a0 : Nat} {i1 : Int32} {M : zM} {post : Option Value → zM → Prop} {postT : Nat → zM → Prop} (hk0 : a0 < N0) (ht0 : tg a0 = 0) (h : Wp_Mc_afterEntering a0 i1 M post postT) : MetT l y_Mc_afterEntering (wo y_Mc_afterEntering b_Mc_afterEntering 2 (some FieldType.int)) { frames := 6, cells := 1, slots := 6, locals := 120 } (va_Pc [.ref (B + a0), .int i1] (zWl B D aC aS M)) (zQT B D aC post postT) 1 6 (zAb B) := by
  refine z_metT (own := "MailChain") (lv0 := [(0, .ref (B + a0)), (1, .int i1)]) (by decide) rfl (Nat.le_of_ble_eq_true rfl) rfl ?_
  intro p e s m below meth c fx hr hlo hno
  delta Wp_Mc_afterEntering at h
  refine a_aload_n fx 0 d_Mc_afterEntering_0 rfl rfl ?_
  refine a_getS fx (T := F_Mc) (j := 0) (hk := hk0) (ht := ht0) (ht2 := by decide) (hc := rfl) (hin := u_in_Mc) (hj := by decide) (hj2 := by decide) (hf := rfl) (n9 := 1) (hfo := rfl) (hT := rfl) (hw := w_304) (hd := d_Mc_afterEntering_1) (kk := ?_)
  refine a_callv (rest := []) (a_runV (As := []) fx cv_Ro_wipe w_376 (Met_Ro_wipe l B D aC aS (hk0 := (lo_0_0 hk0 ht0).1) (ht0 := (lo_0_0 hk0 ht0).2) h) (lo_0_0 hk0 ht0).1 (lo_0_0 hk0 ht0).2 (by decide) rfl rfl rfl (Nat.le_of_ble_eq_true rfl) rfl rfl ⟨Nat.le_of_ble_eq_true rfl, Nat.le_of_ble_eq_true rfl⟩ d_Mc_afterEntering_4 ⟨Nat.le_of_ble_eq_true rfl, Nat.le_of_ble_eq_true rfl⟩) (fun M1 h => ?_)
  refine a_iload_n fx 1 d_Mc_afterEntering_7 rfl rfl ?_
  refine a_iconst (v := 1) fx d_Mc_afterEntering_8 rfl ?_
  refine a_icmp_ne fx 20 d_Mc_afterEntering_9 rfl (fun hc => ?_) (fun hc => ?_)
  · have h := h.1 hc
    refine a_iload_n fx 1 d_Mc_afterEntering_20 rfl rfl ?_
    refine a_iconst (v := 2) fx d_Mc_afterEntering_21 rfl ?_
    refine a_icmp_ne fx 33 d_Mc_afterEntering_22 rfl (fun hc => ?_) (fun hc => ?_)
    · have h := h.1 hc
      refine a_iload_n fx 1 d_Mc_afterEntering_33 rfl rfl ?_
      refine a_iconst (v := 3) fx d_Mc_afterEntering_34 rfl ?_
      refine a_icmp_ne fx 46 d_Mc_afterEntering_35 rfl (fun hc => ?_) (fun hc => ?_)
      · have h := h.1 hc
        refine a_iload_n fx 1 d_Mc_afterEntering_46 rfl rfl ?_
        refine a_iconst (v := 4) fx d_Mc_afterEntering_47 rfl ?_
        refine a_icmp_ne fx 59 d_Mc_afterEntering_48 rfl (fun hc => ?_) (fun hc => ?_)
        · have h := h.1 hc
          refine a_aload_n fx 0 d_Mc_afterEntering_59 rfl rfl ?_
          refine a_iconst (v := 0) fx d_Mc_afterEntering_60 rfl ?_
          refine a_putI fx (T := F_Mc) (ty0 := t_Mc) (j := 5) (hk := hk0) (ht := ht0) (ht2 := by decide) (hc := rfl) (hin := u_in_Mc) (hty := t_Mc_ok) (hnm := n_Mc) (hj := by decide) (hj2 := by decide) (hf := rfl) (hT := rfl) (hfin := rfl) (hn := rfl) (hfit := rfl) (hw := w_309) (hd := d_Mc_afterEntering_61) (kk := a_mem (fun M2 eM2 => ?_))
          have h := h M2 eM2
          refine a_aload_n fx 0 d_Mc_afterEntering_64 rfl rfl ?_
          refine a_getS fx (T := F_Mc) (j := 1) (hk := hk0) (ht := ht0) (ht2 := by decide) (hc := rfl) (hin := u_in_Mc) (hj := by decide) (hj2 := by decide) (hf := rfl) (n9 := 3) (hfo := rfl) (hT := rfl) (hw := w_305) (hd := d_Mc_afterEntering_65) (kk := ?_)
          refine a_getIN fx (T := F_Tr) (j := 2) (hk := (lo_0_1 hk0 ht0).1) (ht := (lo_0_1 hk0 ht0).2) (ht2 := by decide) (hc := rfl) (hin := u_in_Tr) (hj := by decide) (hj2 := by decide) (hf := rfl) (hT := rfl) (q9 := 35) (hw := rfl) (hd := d_Mc_afterEntering_68) (kk := ?_)
          refine a_widen (mc := 1) (ms := 6) (by decide) (by decide) ?_
          exact a_iretT fx hlo hr h d_Mc_afterEntering_71
        · have h := h.2 hc
          exact a_throw fx hfl hlo hno 2 (by decide) (by decide) w_1063 w_1064 w_16 (by decide +kernel) oa_2_90 (Nat.le_of_ble_eq_true rfl) (Nat.le_of_ble_eq_true rfl) (Nat.le_of_ble_eq_true rfl) (Nat.le_of_ble_eq_true rfl) d_Mc_afterEntering_51 d_Mc_afterEntering_54 d_Mc_afterEntering_55 d_Mc_afterEntering_58 h
      · have h := h.2 hc
        exact a_throw fx hfl hlo hno 3 (by decide) (by decide) w_1117 w_1118 w_19 (by decide +kernel) oa_3_152 (Nat.le_of_ble_eq_true rfl) (Nat.le_of_ble_eq_true rfl) (Nat.le_of_ble_eq_true rfl) (Nat.le_of_ble_eq_true rfl) d_Mc_afterEntering_38 d_Mc_afterEntering_41 d_Mc_afterEntering_42 d_Mc_afterEntering_45 h
    · have h := h.2 hc
      exact a_throw fx hfl hlo hno 1 (by decide) (by decide) w_1051 w_598 w_15 (by decide +kernel) oa_1_83 (Nat.le_of_ble_eq_true rfl) (Nat.le_of_ble_eq_true rfl) (Nat.le_of_ble_eq_true rfl) (Nat.le_of_ble_eq_true rfl) d_Mc_afterEntering_25 d_Mc_afterEntering_28 d_Mc_afterEntering_29 d_Mc_afterEntering_32 h
  · have h := h.2 hc
    exact a_throw fx hfl hlo hno 4 (by decide) (by decide) w_1102 w_1103 w_18 (by decide +kernel) oa_4_149 (Nat.le_of_ble_eq_true rfl) (Nat.le_of_ble_eq_true rfl) (Nat.le_of_ble_eq_true rfl) (Nat.le_of_ble_eq_true rfl) d_Mc_afterEntering_12 d_Mc_afterEntering_15 d_Mc_afterEntering_16 d_Mc_afterEntering_19 h
set_option maxRecDepth 100000 in
set_option maxHeartbeats 4000000 in
theorem Met_Mc_add (l : Launch) (B : Nat) (D : va_G) (aC : Nat → ClassId) (aS : Nat → Nat) (hfl : l.flags = pinnedFlags ++ [noTraceFlag]) {a0 : Nat} {i1 : Int32} {i2 : Int32} {i3 : Int32} {i4 : Int32} {i5 : Int32} {i6 : Int32} {M : zM} {post : Option Value → zM → Prop} {postT : Nat → zM → Prop} (hk0 : a0 < N0) (ht0 : tg a0 = 0) (h : Wp_Mc_add a0 i1 i2 i3 i4 i5 i6 M post postT) : MetT l y_Mc_add (wo y_Mc_add b_Mc_add 9 (some FieldType.int)) { frames := 7, cells := 1, slots := 6, locals := 141 } (va_Pc [.ref (B + a0), .int i1, .int i2, .int i3, .int i4, .int i5, .int i6] (zWl B D aC aS M)) (zQT B D aC post postT) 1 6 (zAb B) := by
  refine z_metT (own := "MailChain") (lv0 := [(0, .ref (B + a0)), (1, .int i1), (2, .int i2), (3, .int i3), (4, .int i4), (5, .int i5), (6, .int i6)]) (by decide) rfl (Nat.le_of_ble_eq_true rfl) rfl ?_
  intro p e s m below meth c fx hr hlo hno
  delta Wp_Mc_add at h
  refine a_iconst (v := 2) fx d_Mc_add_0 rfl ?_
  refine a_istore (lv2 := [(7, .int 2), (0, .ref (B + a0)), (1, .int i1), (2, .int i2), (3, .int i3), (4, .int i4), (5, .int i5), (6, .int i6)]) fx d_Mc_add_1 (by decide) rfl ?_
  refine a_iload_n fx 3 d_Mc_add_3 rfl rfl ?_
  refine a_iconst (v := 1) fx d_Mc_add_4 rfl ?_
  refine a_icmp_lt fx 102 d_Mc_add_5 rfl (fun hc => ?_) (fun hc => ?_)
  · have h := h.1 hc
    refine a_aload_n fx 1 d_Mc_add_102 rfl rfl ?_
    refine a_iload fx 0 d_Mc_add_103 rfl ?_
    refine a_callTp (rest := []) hlo hno (a_runVT (As := [.int 2]) fx cv_Mc_afterEntering w_1098 (Met_Mc_afterEntering l B D aC aS hfl (hk0 := hk0) (ht0 := ht0) h) hk0 ht0 (by decide) rfl rfl rfl (Nat.le_of_ble_eq_true rfl) rfl rfl ⟨Nat.le_of_ble_eq_true rfl, Nat.le_of_ble_eq_true rfl⟩ d_Mc_add_105 ⟨Nat.le_of_ble_eq_true rfl, Nat.le_of_ble_eq_true rfl⟩) (fun vv M1 h => ?_) (fun j M2 h => h)
    obtain ⟨x2, rfl, h⟩ := h
    exact a_iretT fx hlo hr h d_Mc_add_108
  · have h := h.2 hc
    refine a_iload_n fx 3 d_Mc_add_8 rfl rfl ?_
    refine a_bipush (v := 60) fx d_Mc_add_9 rfl ?_
    refine a_icmp_gt fx 102 d_Mc_add_11 rfl (fun hc => ?_) (fun hc => ?_)
    · have h := h.1 hc
      refine a_aload_n fx 1 d_Mc_add_102 rfl rfl ?_
      refine a_iload fx 0 d_Mc_add_103 rfl ?_
      refine a_callTp (rest := []) hlo hno (a_runVT (As := [.int 2]) fx cv_Mc_afterEntering w_1098 (Met_Mc_afterEntering l B D aC aS hfl (hk0 := hk0) (ht0 := ht0) h) hk0 ht0 (by decide) rfl rfl rfl (Nat.le_of_ble_eq_true rfl) rfl rfl ⟨Nat.le_of_ble_eq_true rfl, Nat.le_of_ble_eq_true rfl⟩ d_Mc_add_105 ⟨Nat.le_of_ble_eq_true rfl, Nat.le_of_ble_eq_true rfl⟩) (fun vv M3 h => ?_) (fun j M2 h => h)
      obtain ⟨x4, rfl, h⟩ := h
      exact a_iretT fx hlo hr h d_Mc_add_108
    · have h := h.2 hc
      refine a_iload_n fx 3 d_Mc_add_14 rfl rfl ?_
      refine a_aload_n fx 1 d_Mc_add_15 rfl rfl ?_
      refine a_getS fx (T := F_Mc) (j := 0) (hk := hk0) (ht := ht0) (ht2 := by decide) (hc := rfl) (hin := u_in_Mc) (hj := by decide) (hj2 := by decide) (hf := rfl) (n9 := 1) (hfo := rfl) (hT := rfl) (hw := w_304) (hd := d_Mc_add_16) (kk := ?_)
      refine a_getIN fx (T := F_Ro) (j := 1) (hk := (lo_0_0 hk0 ht0).1) (ht := (lo_0_0 hk0 ht0).2) (ht2 := by decide) (hc := rfl) (hin := u_in_Ro) (hj := by decide) (hj2 := by decide) (hf := rfl) (hT := rfl) (q9 := 4) (hw := rfl) (hd := d_Mc_add_19) (kk := ?_)
      refine a_icmp_gt fx 102 d_Mc_add_22 rfl (fun hc => ?_) (fun hc => ?_)
      · have h := h.1 hc
        refine a_aload_n fx 1 d_Mc_add_102 rfl rfl ?_
        refine a_iload fx 0 d_Mc_add_103 rfl ?_
        refine a_callTp (rest := []) hlo hno (a_runVT (As := [.int 2]) fx cv_Mc_afterEntering w_1098 (Met_Mc_afterEntering l B D aC aS hfl (hk0 := hk0) (ht0 := ht0) h) hk0 ht0 (by decide) rfl rfl rfl (Nat.le_of_ble_eq_true rfl) rfl rfl ⟨Nat.le_of_ble_eq_true rfl, Nat.le_of_ble_eq_true rfl⟩ d_Mc_add_105 ⟨Nat.le_of_ble_eq_true rfl, Nat.le_of_ble_eq_true rfl⟩) (fun vv M5 h => ?_) (fun j M2 h => h)
        obtain ⟨x6, rfl, h⟩ := h
        exact a_iretT fx hlo hr h d_Mc_add_108
      · have h := h.2 hc
        refine a_aload_n fx 1 d_Mc_add_25 rfl rfl ?_
        refine a_getS fx (T := F_Mc) (j := 1) (hk := hk0) (ht := ht0) (ht2 := by decide) (hc := rfl) (hin := u_in_Mc) (hj := by decide) (hj2 := by decide) (hf := rfl) (n9 := 3) (hfo := rfl) (hT := rfl) (hw := w_305) (hd := d_Mc_add_26) (kk := ?_)
        refine a_callr (rest := []) (a_runV (As := []) fx cv_Tr_draft w_1095 (Met_Tr_draft l B D aC aS (hk0 := (lo_0_1 hk0 ht0).1) (ht0 := (lo_0_1 hk0 ht0).2) h) (lo_0_1 hk0 ht0).1 (lo_0_1 hk0 ht0).2 (by decide) rfl rfl rfl (Nat.le_of_ble_eq_true rfl) rfl rfl ⟨Nat.le_of_ble_eq_true rfl, Nat.le_of_ble_eq_true rfl⟩ d_Mc_add_29 ⟨Nat.le_of_ble_eq_true rfl, Nat.le_of_ble_eq_true rfl⟩) (fun r8 M7 h => ?_)
        obtain ⟨hkr8, htr8, h⟩ := h
        refine a_astore (lv2 := [(8, .ref (B + r8)), (7, .int 2), (0, .ref (B + a0)), (1, .int i1), (2, .int i2), (3, .int i3), (4, .int i4), (5, .int i5), (6, .int i6)]) fx d_Mc_add_32 (by decide) rfl ?_
        refine a_aload fx 0 d_Mc_add_34 rfl ?_
        refine a_getSN fx (T := F_En) (j := 0) (hk := hkr8) (ht := htr8) (ht2 := by decide) (hc := rfl) (hin := u_in_En) (hj := by decide) (hj2 := by decide) (hf := rfl) (n9 := 1) (hfo := rfl) (hT := rfl) (q9 := 10) (hw := rfl) (hd := d_Mc_add_36) (kk := ?_)
        refine a_aload_n fx 2 d_Mc_add_39 rfl rfl ?_
        refine a_getS fx (T := F_Mc) (j := 0) (hk := hk0) (ht := ht0) (ht2 := by decide) (hc := rfl) (hin := u_in_Mc) (hj := by decide) (hj2 := by decide) (hf := rfl) (n9 := 1) (hfo := rfl) (hT := rfl) (hw := w_304) (hd := d_Mc_add_40) (kk := ?_)
        refine a_iconst (v := 0) fx d_Mc_add_43 rfl ?_
        refine a_iload_n fx 4 d_Mc_add_44 rfl rfl ?_
        refine a_callv (rest := []) (a_runV (As := [.ref (B + (a0 + 1)), .int 0, .int i2]) fx cv_Ro_copy w_1096 (Met_Ro_copy l B D aC aS (hk0 := (lo_2_0 hkr8 htr8).1) (ht0 := (lo_2_0 hkr8 htr8).2) (hk1 := (lo_0_0 hk0 ht0).1) (ht1 := (lo_0_0 hk0 ht0).2) h) (lo_2_0 hkr8 htr8).1 (lo_2_0 hkr8 htr8).2 (by decide) rfl rfl rfl (Nat.le_of_ble_eq_true rfl) rfl rfl ⟨Nat.le_of_ble_eq_true rfl, Nat.le_of_ble_eq_true rfl⟩ d_Mc_add_45 ⟨Nat.le_of_ble_eq_true rfl, Nat.le_of_ble_eq_true rfl⟩) (fun M9 h => ?_)
        refine a_aload fx 0 d_Mc_add_48 rfl ?_
        refine a_iload_n fx 3 d_Mc_add_50 rfl rfl ?_
        refine a_putIN fx (T := F_En) (ty0 := t_En) (j := 1) (hk := hkr8) (ht := htr8) (ht2 := by decide) (hc := rfl) (hin := u_in_En) (hty := t_En_ok) (hnm := n_En) (hj := by decide) (hj2 := by decide) (hf := rfl) (hT := rfl) (hfin := rfl) (hn := rfl) (hfit := rfl) (q9 := 13) (hw := rfl) (hd := d_Mc_add_51) (kk := a_mem (fun M10 eM10 => ?_))
        have h := h M10 eM10
        refine a_aload fx 0 d_Mc_add_54 rfl ?_
        refine a_iload_n fx 5 d_Mc_add_56 rfl rfl ?_
        refine a_putIN fx (T := F_En) (ty0 := t_En) (j := 2) (hk := hkr8) (ht := htr8) (ht2 := by decide) (hc := rfl) (hin := u_in_En) (hty := t_En_ok) (hnm := n_En) (hj := by decide) (hj2 := by decide) (hf := rfl) (hT := rfl) (hfin := rfl) (hn := rfl) (hfit := rfl) (q9 := 16) (hw := rfl) (hd := d_Mc_add_57) (kk := a_mem (fun M11 eM11 => ?_))
        have h := h M11 eM11
        refine a_aload fx 0 d_Mc_add_60 rfl ?_
        refine a_iload fx 6 d_Mc_add_62 rfl ?_
        refine a_putIN fx (T := F_En) (ty0 := t_En) (j := 3) (hk := hkr8) (ht := htr8) (ht2 := by decide) (hc := rfl) (hin := u_in_En) (hty := t_En_ok) (hnm := n_En) (hj := by decide) (hj2 := by decide) (hf := rfl) (hT := rfl) (hfin := rfl) (hn := rfl) (hfit := rfl) (q9 := 19) (hw := rfl) (hd := d_Mc_add_64) (kk := a_mem (fun M12 eM12 => ?_))
        have h := h M12 eM12
        refine a_aload fx 0 d_Mc_add_67 rfl ?_
        refine a_iload fx 7 d_Mc_add_69 rfl ?_
        refine a_putIN fx (T := F_En) (ty0 := t_En) (j := 4) (hk := hkr8) (ht := htr8) (ht2 := by decide) (hc := rfl) (hin := u_in_En) (hty := t_En_ok) (hnm := n_En) (hj := by decide) (hj2 := by decide) (hf := rfl) (hT := rfl) (hfin := rfl) (hn := rfl) (hfit := rfl) (q9 := 22) (hw := rfl) (hd := d_Mc_add_71) (kk := a_mem (fun M13 eM13 => ?_))
        have h := h M13 eM13
        refine a_aload fx 0 d_Mc_add_74 rfl ?_
        refine a_iload fx 8 d_Mc_add_76 rfl ?_
        refine a_putIN fx (T := F_En) (ty0 := t_En) (j := 5) (hk := hkr8) (ht := htr8) (ht2 := by decide) (hc := rfl) (hin := u_in_En) (hty := t_En_ok) (hnm := n_En) (hj := by decide) (hj2 := by decide) (hf := rfl) (hT := rfl) (hfin := rfl) (hn := rfl) (hfit := rfl) (q9 := 25) (hw := rfl) (hd := d_Mc_add_78) (kk := a_mem (fun M14 eM14 => ?_))
        have h := h M14 eM14
        refine a_aload_n fx 2 d_Mc_add_81 rfl rfl ?_
        refine a_getS fx (T := F_Mc) (j := 1) (hk := hk0) (ht := ht0) (ht2 := by decide) (hc := rfl) (hin := u_in_Mc) (hj := by decide) (hj2 := by decide) (hf := rfl) (n9 := 3) (hfo := rfl) (hT := rfl) (hw := w_305) (hd := d_Mc_add_82) (kk := ?_)
        refine a_aload_n fx 2 d_Mc_add_85 rfl rfl ?_
        refine a_getS fx (T := F_Mc) (j := 0) (hk := hk0) (ht := ht0) (ht2 := by decide) (hc := rfl) (hin := u_in_Mc) (hj := by decide) (hj2 := by decide) (hf := rfl) (n9 := 1) (hfo := rfl) (hT := rfl) (hw := w_304) (hd := d_Mc_add_86) (kk := ?_)
        refine a_iload_n fx 4 d_Mc_add_89 rfl rfl ?_
        refine a_aload_n fx 2 d_Mc_add_90 rfl rfl ?_
        refine a_getS fx (T := F_Mc) (j := 0) (hk := hk0) (ht := ht0) (ht2 := by decide) (hc := rfl) (hin := u_in_Mc) (hj := by decide) (hj2 := by decide) (hf := rfl) (n9 := 1) (hfo := rfl) (hT := rfl) (hw := w_304) (hd := d_Mc_add_91) (kk := ?_)
        refine a_getIN fx (T := F_Ro) (j := 1) (hk := (lo_0_0 hk0 ht0).1) (ht := (lo_0_0 hk0 ht0).2) (ht2 := by decide) (hc := rfl) (hin := u_in_Ro) (hj := by decide) (hj2 := by decide) (hf := rfl) (hT := rfl) (q9 := 4) (hw := rfl) (hd := d_Mc_add_94) (kk := ?_)
        refine a_calli (rest := []) (a_runV (As := [.ref (B + (a0 + 1)), .int i2, .int (M14.1 (a0 + 1) 1)]) fx cv_Tr_enter w_1097 (Met_Tr_enter l B D aC aS (hk0 := (lo_0_1 hk0 ht0).1) (ht0 := (lo_0_1 hk0 ht0).2) (hk1 := (lo_0_0 hk0 ht0).1) (ht1 := (lo_0_0 hk0 ht0).2) h) (lo_0_1 hk0 ht0).1 (lo_0_1 hk0 ht0).2 (by decide) rfl rfl rfl (Nat.le_of_ble_eq_true rfl) rfl rfl ⟨Nat.le_of_ble_eq_true rfl, Nat.le_of_ble_eq_true rfl⟩ d_Mc_add_97 ⟨Nat.le_of_ble_eq_true rfl, Nat.le_of_ble_eq_true rfl⟩) (fun x16 M15 h => ?_)
        refine a_istore (lv2 := [(7, .int x16), (8, .ref (B + r8)), (0, .ref (B + a0)), (1, .int i1), (2, .int i2), (3, .int i3), (4, .int i4), (5, .int i5), (6, .int i6)]) fx d_Mc_add_100 (by decide) rfl ?_
        refine a_aload_n fx 2 d_Mc_add_102 rfl rfl ?_
        refine a_iload fx 0 d_Mc_add_103 rfl ?_
        refine a_callTp (rest := []) hlo hno (a_runVT (As := [.int x16]) fx cv_Mc_afterEntering w_1098 (Met_Mc_afterEntering l B D aC aS hfl (hk0 := hk0) (ht0 := ht0) h) hk0 ht0 (by decide) rfl rfl rfl (Nat.le_of_ble_eq_true rfl) rfl rfl ⟨Nat.le_of_ble_eq_true rfl, Nat.le_of_ble_eq_true rfl⟩ d_Mc_add_105 ⟨Nat.le_of_ble_eq_true rfl, Nat.le_of_ble_eq_true rfl⟩) (fun vv M17 h => ?_) (fun j M2 h => h)
        obtain ⟨x18, rfl, h⟩ := h
        exact a_iretT fx hlo hr h d_Mc_add_108
set_option maxRecDepth 100000 in
set_option maxHeartbeats 4000000 in
theorem Met_Mc_link (l : Launch) (B : Nat) (D : va_G) (aC : Nat → ClassId) (aS : Nat → Nat) (hfl : l.flags = pinnedFlags ++ [noTraceFlag]) {a0 : Nat} {i1 : Int32} {M : zM} {post : Option Value → zM → Prop} {postT : Nat → zM → Prop} (hk0 : a0 < N0) (ht0 : tg a0 = 0) (h : Wp_Mc_link a0 i1 M post postT) : MetT l y_Mc_link (wo y_Mc_link b_Mc_link 3 (some FieldType.int)) { frames := 7, cells := 1, slots := 6, locals := 141 } (va_Pc [.ref (B + a0), .int i1] (zWl B D aC aS M)) (zQT B D aC post postT) 1 6 (zAb B) := by
  refine z_metT (own := "MailChain") (lv0 := [(0, .ref (B + a0)), (1, .int i1)]) (by decide) rfl (Nat.le_of_ble_eq_true rfl) rfl ?_
  intro p e s m below meth c fx hr hlo hno
  delta Wp_Mc_link at h
  refine a_iconst (v := 2) fx d_Mc_link_0 rfl ?_
  refine a_istore_n (lv2 := [(2, .int 2), (0, .ref (B + a0)), (1, .int i1)]) fx d_Mc_link_1 rfl (by decide) rfl ?_
  refine a_aload_n fx 1 d_Mc_link_2 rfl rfl ?_
  refine a_getS fx (T := F_Mc) (j := 1) (hk := hk0) (ht := ht0) (ht2 := by decide) (hc := rfl) (hin := u_in_Mc) (hj := by decide) (hj2 := by decide) (hf := rfl) (n9 := 3) (hfo := rfl) (hT := rfl) (hw := w_305) (hd := d_Mc_link_3) (kk := ?_)
  refine a_iload_n fx 2 d_Mc_link_6 rfl rfl ?_
  refine a_calli (rest := []) (a_runV (As := [.int i1]) fx cv_Tr_has w_1140 (Met_Tr_has l B D aC aS (hk0 := (lo_0_1 hk0 ht0).1) (ht0 := (lo_0_1 hk0 ht0).2) h) (lo_0_1 hk0 ht0).1 (lo_0_1 hk0 ht0).2 (by decide) rfl rfl rfl (Nat.le_of_ble_eq_true rfl) rfl rfl ⟨Nat.le_of_ble_eq_true rfl, Nat.le_of_ble_eq_true rfl⟩ d_Mc_link_7 ⟨Nat.le_of_ble_eq_true rfl, Nat.le_of_ble_eq_true rfl⟩) (fun x2 M1 h => ?_)
  refine a_if_ne fx 18 d_Mc_link_10 rfl (fun hc => ?_) (fun hc => ?_)
  · have h := h.1 hc
    refine a_aload_n fx 1 d_Mc_link_18 rfl rfl ?_
    refine a_getS fx (T := F_Mc) (j := 0) (hk := hk0) (ht := ht0) (ht2 := by decide) (hc := rfl) (hin := u_in_Mc) (hj := by decide) (hj2 := by decide) (hf := rfl) (n9 := 1) (hfo := rfl) (hT := rfl) (hw := w_304) (hd := d_Mc_link_19) (kk := ?_)
    refine a_getIN fx (T := F_Ro) (j := 1) (hk := (lo_0_0 hk0 ht0).1) (ht := (lo_0_0 hk0 ht0).2) (ht2 := by decide) (hc := rfl) (hin := u_in_Ro) (hj := by decide) (hj2 := by decide) (hf := rfl) (hT := rfl) (q9 := 4) (hw := rfl) (hd := d_Mc_link_22) (kk := ?_)
    refine a_bipush (v := 60) fx d_Mc_link_25 rfl ?_
    refine a_icmp_gt fx 64 d_Mc_link_27 rfl (fun hc => ?_) (fun hc => ?_)
    · have h := h.1 hc
      refine a_aload_n fx 1 d_Mc_link_64 rfl rfl ?_
      refine a_iload_n fx 0 d_Mc_link_65 rfl rfl ?_
      refine a_callTp (rest := []) hlo hno (a_runVT (As := [.int 2]) fx cv_Mc_afterEntering w_1098 (Met_Mc_afterEntering l B D aC aS hfl (hk0 := hk0) (ht0 := ht0) h) hk0 ht0 (by decide) rfl rfl rfl (Nat.le_of_ble_eq_true rfl) rfl rfl ⟨Nat.le_of_ble_eq_true rfl, Nat.le_of_ble_eq_true rfl⟩ d_Mc_link_66 ⟨Nat.le_of_ble_eq_true rfl, Nat.le_of_ble_eq_true rfl⟩) (fun vv M3 h => ?_) (fun j M2 h => h)
      obtain ⟨x4, rfl, h⟩ := h
      exact a_iretT fx hlo hr h d_Mc_link_69
    · have h := h.2 hc
      refine a_aload_n fx 1 d_Mc_link_30 rfl rfl ?_
      refine a_getS fx (T := F_Mc) (j := 1) (hk := hk0) (ht := ht0) (ht2 := by decide) (hc := rfl) (hin := u_in_Mc) (hj := by decide) (hj2 := by decide) (hf := rfl) (n9 := 3) (hfo := rfl) (hT := rfl) (hw := w_305) (hd := d_Mc_link_31) (kk := ?_)
      refine a_callr (rest := []) (a_runV (As := []) fx cv_Tr_draft w_1095 (Met_Tr_draft l B D aC aS (hk0 := (lo_0_1 hk0 ht0).1) (ht0 := (lo_0_1 hk0 ht0).2) h) (lo_0_1 hk0 ht0).1 (lo_0_1 hk0 ht0).2 (by decide) rfl rfl rfl (Nat.le_of_ble_eq_true rfl) rfl rfl ⟨Nat.le_of_ble_eq_true rfl, Nat.le_of_ble_eq_true rfl⟩ d_Mc_link_34 ⟨Nat.le_of_ble_eq_true rfl, Nat.le_of_ble_eq_true rfl⟩) (fun r6 M5 h => ?_)
      obtain ⟨hkr6, htr6, h⟩ := h
      refine a_getSN fx (T := F_En) (j := 0) (hk := hkr6) (ht := htr6) (ht2 := by decide) (hc := rfl) (hin := u_in_En) (hj := by decide) (hj2 := by decide) (hf := rfl) (n9 := 1) (hfo := rfl) (hT := rfl) (q9 := 10) (hw := rfl) (hd := d_Mc_link_37) (kk := ?_)
      refine a_aload_n fx 1 d_Mc_link_40 rfl rfl ?_
      refine a_getS fx (T := F_Mc) (j := 0) (hk := hk0) (ht := ht0) (ht2 := by decide) (hc := rfl) (hin := u_in_Mc) (hj := by decide) (hj2 := by decide) (hf := rfl) (n9 := 1) (hfo := rfl) (hT := rfl) (hw := w_304) (hd := d_Mc_link_41) (kk := ?_)
      refine a_iconst (v := 0) fx d_Mc_link_44 rfl ?_
      refine a_aload_n fx 1 d_Mc_link_45 rfl rfl ?_
      refine a_getS fx (T := F_Mc) (j := 0) (hk := hk0) (ht := ht0) (ht2 := by decide) (hc := rfl) (hin := u_in_Mc) (hj := by decide) (hj2 := by decide) (hf := rfl) (n9 := 1) (hfo := rfl) (hT := rfl) (hw := w_304) (hd := d_Mc_link_46) (kk := ?_)
      refine a_getIN fx (T := F_Ro) (j := 1) (hk := (lo_0_0 hk0 ht0).1) (ht := (lo_0_0 hk0 ht0).2) (ht2 := by decide) (hc := rfl) (hin := u_in_Ro) (hj := by decide) (hj2 := by decide) (hf := rfl) (hT := rfl) (q9 := 4) (hw := rfl) (hd := d_Mc_link_49) (kk := ?_)
      refine a_callv (rest := []) (a_runV (As := [.ref (B + (a0 + 1)), .int 0, .int (M5.1 (a0 + 1) 1)]) fx cv_Ro_copy w_1096 (Met_Ro_copy l B D aC aS (hk0 := (lo_2_0 hkr6 htr6).1) (ht0 := (lo_2_0 hkr6 htr6).2) (hk1 := (lo_0_0 hk0 ht0).1) (ht1 := (lo_0_0 hk0 ht0).2) h) (lo_2_0 hkr6 htr6).1 (lo_2_0 hkr6 htr6).2 (by decide) rfl rfl rfl (Nat.le_of_ble_eq_true rfl) rfl rfl ⟨Nat.le_of_ble_eq_true rfl, Nat.le_of_ble_eq_true rfl⟩ d_Mc_link_52 ⟨Nat.le_of_ble_eq_true rfl, Nat.le_of_ble_eq_true rfl⟩) (fun M7 h => ?_)
      refine a_aload_n fx 1 d_Mc_link_55 rfl rfl ?_
      refine a_getS fx (T := F_Mc) (j := 1) (hk := hk0) (ht := ht0) (ht2 := by decide) (hc := rfl) (hin := u_in_Mc) (hj := by decide) (hj2 := by decide) (hf := rfl) (n9 := 3) (hfo := rfl) (hT := rfl) (hw := w_305) (hd := d_Mc_link_56) (kk := ?_)
      refine a_iload_n fx 2 d_Mc_link_59 rfl rfl ?_
      refine a_calli (rest := []) (a_runV (As := [.int i1]) fx cv_Tr_enterLink w_1141 (Met_Tr_enterLink l B D aC aS (hk0 := (lo_0_1 hk0 ht0).1) (ht0 := (lo_0_1 hk0 ht0).2) h) (lo_0_1 hk0 ht0).1 (lo_0_1 hk0 ht0).2 (by decide) rfl rfl rfl (Nat.le_of_ble_eq_true rfl) rfl rfl ⟨Nat.le_of_ble_eq_true rfl, Nat.le_of_ble_eq_true rfl⟩ d_Mc_link_60 ⟨Nat.le_of_ble_eq_true rfl, Nat.le_of_ble_eq_true rfl⟩) (fun x9 M8 h => ?_)
      refine a_istore_n (lv2 := [(2, .int x9), (0, .ref (B + a0)), (1, .int i1)]) fx d_Mc_link_63 rfl (by decide) rfl ?_
      refine a_aload_n fx 1 d_Mc_link_64 rfl rfl ?_
      refine a_iload_n fx 0 d_Mc_link_65 rfl rfl ?_
      refine a_callTp (rest := []) hlo hno (a_runVT (As := [.int x9]) fx cv_Mc_afterEntering w_1098 (Met_Mc_afterEntering l B D aC aS hfl (hk0 := hk0) (ht0 := ht0) h) hk0 ht0 (by decide) rfl rfl rfl (Nat.le_of_ble_eq_true rfl) rfl rfl ⟨Nat.le_of_ble_eq_true rfl, Nat.le_of_ble_eq_true rfl⟩ d_Mc_link_66 ⟨Nat.le_of_ble_eq_true rfl, Nat.le_of_ble_eq_true rfl⟩) (fun vv M10 h => ?_) (fun j M2 h => h)
      obtain ⟨x11, rfl, h⟩ := h
      exact a_iretT fx hlo hr h d_Mc_link_69
  · have h := h.2 hc
    refine a_iconst (v := 1) fx d_Mc_link_13 rfl ?_
    refine a_istore_n (lv2 := [(2, .int 1), (0, .ref (B + a0)), (1, .int i1)]) fx d_Mc_link_14 rfl (by decide) rfl ?_
    refine a_goto fx 64 d_Mc_link_15 rfl ?_
    refine a_aload_n fx 1 d_Mc_link_64 rfl rfl ?_
    refine a_iload_n fx 0 d_Mc_link_65 rfl rfl ?_
    refine a_callTp (rest := []) hlo hno (a_runVT (As := [.int 1]) fx cv_Mc_afterEntering w_1098 (Met_Mc_afterEntering l B D aC aS hfl (hk0 := hk0) (ht0 := ht0) h) hk0 ht0 (by decide) rfl rfl rfl (Nat.le_of_ble_eq_true rfl) rfl rfl ⟨Nat.le_of_ble_eq_true rfl, Nat.le_of_ble_eq_true rfl⟩ d_Mc_link_66 ⟨Nat.le_of_ble_eq_true rfl, Nat.le_of_ble_eq_true rfl⟩) (fun vv M12 h => ?_) (fun j M2 h => h)
    obtain ⟨x13, rfl, h⟩ := h
    exact a_iretT fx hlo hr h d_Mc_link_69
set_option maxRecDepth 100000 in
set_option maxHeartbeats 4000000 in
theorem Met_Mc_pack (l : Launch) (B : Nat) (D : va_G) (aC : Nat → ClassId) (aS : Nat → Nat) (hfl : l.flags = pinnedFlags ++ [noTraceFlag]) {a0 : Nat} {i1 : Int32} {i2 : Int32} {M : zM} {post : Option Value → zM → Prop} {postT : Nat → zM → Prop} (hk0 : a0 < N0) (ht0 : tg a0 = 0) (h : Wp_Mc_pack a0 i1 i2 M post postT) : MetT l y_Mc_pack (wo y_Mc_pack b_Mc_pack 3 (some FieldType.int)) { frames := 8, cells := 1, slots := 6, locals := 173 } (va_Pc [.ref (B + a0), .int i1, .int i2] (zWl B D aC aS M)) (zQT B D aC post postT) 1 6 (zAb B) := by
  refine z_metT (own := "MailChain") (lv0 := [(0, .ref (B + a0)), (1, .int i1), (2, .int i2)]) (by decide) rfl (Nat.le_of_ble_eq_true rfl) rfl ?_
  intro p e s m below meth c fx hr hlo hno
  delta Wp_Mc_pack at h
  refine a_iload_n fx 1 d_Mc_pack_0 rfl rfl ?_
  refine a_calli (rest := []) (a_runS (As := [.int i1]) fx  cv_Mc_isWidth w_1149 (Met_Mc_isWidth l B D aC aS  h) rfl rfl (Nat.le_of_ble_eq_true rfl) rfl rfl ⟨Nat.le_of_ble_eq_true rfl, Nat.le_of_ble_eq_true rfl⟩ d_Mc_pack_1 ⟨Nat.le_of_ble_eq_true rfl, Nat.le_of_ble_eq_true rfl⟩) (fun x2 M1 h => ?_)
  refine a_if_eq fx 20 d_Mc_pack_4 rfl (fun hc => ?_) (fun hc => ?_)
  · have h := h.1 hc
    exact a_throw fx hfl hlo hno 1 (by decide) (by decide) w_1051 w_598 w_15 (by decide +kernel) oa_1_83 (Nat.le_of_ble_eq_true rfl) (Nat.le_of_ble_eq_true rfl) (Nat.le_of_ble_eq_true rfl) (Nat.le_of_ble_eq_true rfl) d_Mc_pack_20 d_Mc_pack_23 d_Mc_pack_24 d_Mc_pack_27 h
  · have h := h.2 hc
    refine a_iload_n fx 2 d_Mc_pack_7 rfl rfl ?_
    refine a_bipush (v := 40) fx d_Mc_pack_8 rfl ?_
    refine a_icmp_lt fx 20 d_Mc_pack_10 rfl (fun hc => ?_) (fun hc => ?_)
    · have h := h.1 hc
      exact a_throw fx hfl hlo hno 1 (by decide) (by decide) w_1051 w_598 w_15 (by decide +kernel) oa_1_83 (Nat.le_of_ble_eq_true rfl) (Nat.le_of_ble_eq_true rfl) (Nat.le_of_ble_eq_true rfl) (Nat.le_of_ble_eq_true rfl) d_Mc_pack_20 d_Mc_pack_23 d_Mc_pack_24 d_Mc_pack_27 h
    · have h := h.2 hc
      refine a_iload_n fx 2 d_Mc_pack_13 rfl rfl ?_
      refine a_sipush (v := 4000) fx d_Mc_pack_14 rfl ?_
      refine a_icmp_le fx 28 d_Mc_pack_17 rfl (fun hc => ?_) (fun hc => ?_)
      · have h := h.1 hc
        refine a_aload_n fx 0 d_Mc_pack_28 rfl rfl ?_
        refine a_callv (rest := []) (a_runV (As := []) fx cv_Mc_refreshArchive w_1150 (Met_Mc_refreshArchive l B D aC aS (hk0 := hk0) (ht0 := ht0) h) hk0 ht0 (by decide) rfl rfl rfl (Nat.le_of_ble_eq_true rfl) rfl rfl ⟨Nat.le_of_ble_eq_true rfl, Nat.le_of_ble_eq_true rfl⟩ d_Mc_pack_29 ⟨Nat.le_of_ble_eq_true rfl, Nat.le_of_ble_eq_true rfl⟩) (fun M3 h => ?_)
        refine a_aload_n fx 0 d_Mc_pack_32 rfl rfl ?_
        refine a_getS fx (T := F_Mc) (j := 4) (hk := hk0) (ht := ht0) (ht2 := by decide) (hc := rfl) (hin := u_in_Mc) (hj := by decide) (hj2 := by decide) (hf := rfl) (n9 := 384) (hfo := rfl) (hT := rfl) (hw := w_308) (hd := d_Mc_pack_33) (kk := ?_)
        refine a_getIN fx (T := F_Ro) (j := 1) (hk := (lo_0_4 hk0 ht0).1) (ht := (lo_0_4 hk0 ht0).2) (ht2 := by decide) (hc := rfl) (hin := u_in_Ro) (hj := by decide) (hj2 := by decide) (hf := rfl) (hT := rfl) (q9 := 4) (hw := rfl) (hd := d_Mc_pack_36) (kk := ?_)
        refine a_if_ne fx 44 d_Mc_pack_39 rfl (fun hc => ?_) (fun hc => ?_)
        · have h := h.1 hc
          refine a_aload_n fx 0 d_Mc_pack_44 rfl rfl ?_
          refine a_getS fx (T := F_Mc) (j := 8) (hk := hk0) (ht := ht0) (ht2 := by decide) (hc := rfl) (hin := u_in_Mc) (hj := by decide) (hj2 := by decide) (hf := rfl) (n9 := 398) (hfo := rfl) (hT := rfl) (hw := w_312) (hd := d_Mc_pack_45) (kk := ?_)
          refine a_aload_n fx 0 d_Mc_pack_48 rfl rfl ?_
          refine a_getS fx (T := F_Mc) (j := 4) (hk := hk0) (ht := ht0) (ht2 := by decide) (hc := rfl) (hin := u_in_Mc) (hj := by decide) (hj2 := by decide) (hf := rfl) (n9 := 384) (hfo := rfl) (hT := rfl) (hw := w_308) (hd := d_Mc_pack_49) (kk := ?_)
          refine a_iload_n fx 1 d_Mc_pack_52 rfl rfl ?_
          refine a_aload_n fx 0 d_Mc_pack_53 rfl rfl ?_
          refine a_getS fx (T := F_Mc) (j := 11) (hk := hk0) (ht := ht0) (ht2 := by decide) (hc := rfl) (hin := u_in_Mc) (hj := by decide) (hj2 := by decide) (hf := rfl) (n9 := 407) (hfo := rfl) (hT := rfl) (hw := w_315) (hd := d_Mc_pack_54) (kk := ?_)
          refine a_callv (rest := []) (a_runV (As := [.ref (B + (a0 + 384)), .int i1, .ref (B + (a0 + 407))]) fx cv_Sq_squeeze w_577 (Met_Sq_squeeze l B D aC aS (hk0 := (lo_0_8 hk0 ht0).1) (ht0 := (lo_0_8 hk0 ht0).2) (hk1 := (lo_0_4 hk0 ht0).1) (ht1 := (lo_0_4 hk0 ht0).2) (hk3 := (lo_0_11 hk0 ht0).1) (ht3 := (lo_0_11 hk0 ht0).2) h) (lo_0_8 hk0 ht0).1 (lo_0_8 hk0 ht0).2 (by decide) rfl rfl rfl (Nat.le_of_ble_eq_true rfl) rfl rfl ⟨Nat.le_of_ble_eq_true rfl, Nat.le_of_ble_eq_true rfl⟩ d_Mc_pack_57 ⟨Nat.le_of_ble_eq_true rfl, Nat.le_of_ble_eq_true rfl⟩) (fun M4 h => ?_)
          refine a_aload_n fx 0 d_Mc_pack_60 rfl rfl ?_
          refine a_getS fx (T := F_Mc) (j := 11) (hk := hk0) (ht := ht0) (ht2 := by decide) (hc := rfl) (hin := u_in_Mc) (hj := by decide) (hj2 := by decide) (hf := rfl) (n9 := 407) (hfo := rfl) (hT := rfl) (hw := w_315) (hd := d_Mc_pack_61) (kk := ?_)
          refine a_aload_n fx 0 d_Mc_pack_64 rfl rfl ?_
          refine a_getS fx (T := F_Mc) (j := 12) (hk := hk0) (ht := ht0) (ht2 := by decide) (hc := rfl) (hin := u_in_Mc) (hj := by decide) (hj2 := by decide) (hf := rfl) (n9 := 409) (hfo := rfl) (hT := rfl) (hw := w_316) (hd := d_Mc_pack_65) (kk := ?_)
          refine a_callv (rest := []) (a_runS (As := [.ref (B + (a0 + 407)), .ref (B + (a0 + 409))]) fx  cv_Sp_write w_515 (Met_Sp_write l B D aC aS (hk0 := (lo_0_11 hk0 ht0).1) (ht0 := (lo_0_11 hk0 ht0).2) (hk1 := (lo_0_12 hk0 ht0).1) (ht1 := (lo_0_12 hk0 ht0).2) h) rfl rfl (Nat.le_of_ble_eq_true rfl) rfl rfl ⟨Nat.le_of_ble_eq_true rfl, Nat.le_of_ble_eq_true rfl⟩ d_Mc_pack_68 ⟨Nat.le_of_ble_eq_true rfl, Nat.le_of_ble_eq_true rfl⟩) (fun M5 h => ?_)
          refine a_aload_n fx 0 d_Mc_pack_71 rfl rfl ?_
          refine a_getS fx (T := F_Mc) (j := 12) (hk := hk0) (ht := ht0) (ht2 := by decide) (hc := rfl) (hin := u_in_Mc) (hj := by decide) (hj2 := by decide) (hf := rfl) (n9 := 409) (hfo := rfl) (hT := rfl) (hw := w_316) (hd := d_Mc_pack_72) (kk := ?_)
          refine a_getIN fx (T := F_Ro) (j := 1) (hk := (lo_0_12 hk0 ht0).1) (ht := (lo_0_12 hk0 ht0).2) (ht2 := by decide) (hc := rfl) (hin := u_in_Ro) (hj := by decide) (hj2 := by decide) (hf := rfl) (hT := rfl) (q9 := 4) (hw := rfl) (hd := d_Mc_pack_75) (kk := ?_)
          refine a_sipush (v := 999) fx d_Mc_pack_78 rfl ?_
          refine a_iload_n fx 2 d_Mc_pack_81 rfl rfl ?_
          refine a_imul fx d_Mc_pack_82 ?_
          refine a_icmp_le fx 89 d_Mc_pack_83 rfl (fun hc => ?_) (fun hc => ?_)
          · have h := h.1 hc
            refine a_aload_n fx 0 d_Mc_pack_89 rfl rfl ?_
            refine a_getS fx (T := F_Mc) (j := 6) (hk := hk0) (ht := ht0) (ht2 := by decide) (hc := rfl) (hin := u_in_Mc) (hj := by decide) (hj2 := by decide) (hf := rfl) (n9 := 386) (hfo := rfl) (hT := rfl) (hw := w_310) (hd := d_Mc_pack_90) (kk := ?_)
            refine a_aload_n fx 0 d_Mc_pack_93 rfl rfl ?_
            refine a_getS fx (T := F_Mc) (j := 11) (hk := hk0) (ht := ht0) (ht2 := by decide) (hc := rfl) (hin := u_in_Mc) (hj := by decide) (hj2 := by decide) (hf := rfl) (n9 := 407) (hfo := rfl) (hT := rfl) (hw := w_315) (hd := d_Mc_pack_94) (kk := ?_)
            refine a_aload_n fx 0 d_Mc_pack_97 rfl rfl ?_
            refine a_getS fx (T := F_Mc) (j := 12) (hk := hk0) (ht := ht0) (ht2 := by decide) (hc := rfl) (hin := u_in_Mc) (hj := by decide) (hj2 := by decide) (hf := rfl) (n9 := 409) (hfo := rfl) (hT := rfl) (hw := w_316) (hd := d_Mc_pack_98) (kk := ?_)
            refine a_iload_n fx 2 d_Mc_pack_101 rfl rfl ?_
            refine a_callv (rest := []) (a_runV (As := [.ref (B + (a0 + 407)), .ref (B + (a0 + 409)), .int i2]) fx cv_Ma_keep w_1154 (Met_Ma_keep l B D aC aS (hk0 := (lo_0_6 hk0 ht0).1) (ht0 := (lo_0_6 hk0 ht0).2) (hk1 := (lo_0_11 hk0 ht0).1) (ht1 := (lo_0_11 hk0 ht0).2) (hk2 := (lo_0_12 hk0 ht0).1) (ht2 := (lo_0_12 hk0 ht0).2) h) (lo_0_6 hk0 ht0).1 (lo_0_6 hk0 ht0).2 (by decide) rfl rfl rfl (Nat.le_of_ble_eq_true rfl) rfl rfl ⟨Nat.le_of_ble_eq_true rfl, Nat.le_of_ble_eq_true rfl⟩ d_Mc_pack_102 ⟨Nat.le_of_ble_eq_true rfl, Nat.le_of_ble_eq_true rfl⟩) (fun M6 h => ?_)
            refine a_aload_n fx 0 d_Mc_pack_105 rfl rfl ?_
            refine a_getS fx (T := F_Mc) (j := 6) (hk := hk0) (ht := ht0) (ht2 := by decide) (hc := rfl) (hin := u_in_Mc) (hj := by decide) (hj2 := by decide) (hf := rfl) (n9 := 386) (hfo := rfl) (hT := rfl) (hw := w_310) (hd := d_Mc_pack_106) (kk := ?_)
            refine a_getI fx (T := F_Ma) (j := 2) (hk := (lo_0_6 hk0 ht0).1) (ht := (lo_0_6 hk0 ht0).2) (ht2 := by decide) (hc := rfl) (hin := u_in_Ma) (hj := by decide) (hj2 := by decide) (hf := rfl) (hT := rfl) (hw := w_162) (hd := d_Mc_pack_109) (kk := ?_)
            refine a_widen (mc := 1) (ms := 6) (by decide) (by decide) ?_
            exact a_iretT fx hlo hr h d_Mc_pack_112
          · have h := h.2 hc
            refine a_bipush (v := (-2)) fx d_Mc_pack_86 rfl ?_
            refine a_widen (mc := 1) (ms := 6) (by decide) (by decide) ?_
            exact a_iretT fx hlo hr h d_Mc_pack_88
        · have h := h.2 hc
          refine a_iconst (v := (-1)) fx d_Mc_pack_42 rfl ?_
          refine a_widen (mc := 1) (ms := 6) (by decide) (by decide) ?_
          exact a_iretT fx hlo hr h d_Mc_pack_43
      · have h := h.2 hc
        exact a_throw fx hfl hlo hno 1 (by decide) (by decide) w_1051 w_598 w_15 (by decide +kernel) oa_1_83 (Nat.le_of_ble_eq_true rfl) (Nat.le_of_ble_eq_true rfl) (Nat.le_of_ble_eq_true rfl) (Nat.le_of_ble_eq_true rfl) d_Mc_pack_20 d_Mc_pack_23 d_Mc_pack_24 d_Mc_pack_27 h
set_option maxRecDepth 100000 in
set_option maxHeartbeats 4000000 in
theorem Met_Mc_part (l : Launch) (B : Nat) (D : va_G) (aC : Nat → ClassId) (aS : Nat → Nat) (hfl : l.flags = pinnedFlags ++ [noTraceFlag]) {a0 : Nat} {i1 : Int32} {i2 : Int32} {M : zM} {post : Option Value → zM → Prop} {postT : Nat → zM → Prop} (hk0 : a0 < N0) (ht0 : tg a0 = 0) (h : Wp_Mc_part a0 i1 i2 M post postT) : MetT l y_Mc_part (wo y_Mc_part b_Mc_part 3 (some FieldType.int)) { frames := 6, cells := 1, slots := 6, locals := 131 } (va_Pc [.ref (B + a0), .int i1, .int i2] (zWl B D aC aS M)) (zQT B D aC post postT) 1 6 (zAb B) := by
  refine z_metT (own := "MailChain") (lv0 := [(0, .ref (B + a0)), (1, .int i1), (2, .int i2)]) (by decide) rfl (Nat.le_of_ble_eq_true rfl) rfl ?_
  intro p e s m below meth c fx hr hlo hno
  delta Wp_Mc_part at h
  refine a_aload_n fx 0 d_Mc_part_0 rfl rfl ?_
  refine a_getS fx (T := F_Mc) (j := 6) (hk := hk0) (ht := ht0) (ht2 := by decide) (hc := rfl) (hin := u_in_Mc) (hj := by decide) (hj2 := by decide) (hf := rfl) (n9 := 386) (hfo := rfl) (hT := rfl) (hw := w_310) (hd := d_Mc_part_1) (kk := ?_)
  refine a_iload_n fx 1 d_Mc_part_4 rfl rfl ?_
  refine a_calli (rest := []) (a_runV (As := [.int i1]) fx cv_Ma_has w_1172 (Met_Ma_has l B D aC aS (hk0 := (lo_0_6 hk0 ht0).1) (ht0 := (lo_0_6 hk0 ht0).2) h) (lo_0_6 hk0 ht0).1 (lo_0_6 hk0 ht0).2 (by decide) rfl rfl rfl (Nat.le_of_ble_eq_true rfl) rfl rfl ⟨Nat.le_of_ble_eq_true rfl, Nat.le_of_ble_eq_true rfl⟩ d_Mc_part_5 ⟨Nat.le_of_ble_eq_true rfl, Nat.le_of_ble_eq_true rfl⟩) (fun x2 M1 h => ?_)
  refine a_if_ne fx 19 d_Mc_part_8 rfl (fun hc => ?_) (fun hc => ?_)
  · have h := h.1 hc
    refine a_aload_n fx 0 d_Mc_part_19 rfl rfl ?_
    refine a_getS fx (T := F_Mc) (j := 6) (hk := hk0) (ht := ht0) (ht2 := by decide) (hc := rfl) (hin := u_in_Mc) (hj := by decide) (hj2 := by decide) (hf := rfl) (n9 := 386) (hfo := rfl) (hT := rfl) (hw := w_310) (hd := d_Mc_part_20) (kk := ?_)
    refine a_iload_n fx 1 d_Mc_part_23 rfl rfl ?_
    refine a_aload_n fx 0 d_Mc_part_24 rfl rfl ?_
    refine a_getS fx (T := F_Mc) (j := 13) (hk := hk0) (ht := ht0) (ht2 := by decide) (hc := rfl) (hin := u_in_Mc) (hj := by decide) (hj2 := by decide) (hf := rfl) (n9 := 411) (hfo := rfl) (hT := rfl) (hw := w_317) (hd := d_Mc_part_25) (kk := ?_)
    refine a_callv (rest := []) (a_runV (As := [.int i1, .ref (B + (a0 + 411))]) fx cv_Ma_write w_1176 (Met_Ma_write l B D aC aS (hk0 := (lo_0_6 hk0 ht0).1) (ht0 := (lo_0_6 hk0 ht0).2) (hk2 := (lo_0_13 hk0 ht0).1) (ht2 := (lo_0_13 hk0 ht0).2) h) (lo_0_6 hk0 ht0).1 (lo_0_6 hk0 ht0).2 (by decide) rfl rfl rfl (Nat.le_of_ble_eq_true rfl) rfl rfl ⟨Nat.le_of_ble_eq_true rfl, Nat.le_of_ble_eq_true rfl⟩ d_Mc_part_28 ⟨Nat.le_of_ble_eq_true rfl, Nat.le_of_ble_eq_true rfl⟩) (fun M3 h => ?_)
    refine a_iload_n fx 2 d_Mc_part_31 rfl rfl ?_
    refine a_iconst (v := (-1)) fx d_Mc_part_32 rfl ?_
    refine a_icmp_ne fx 44 d_Mc_part_33 rfl (fun hc => ?_) (fun hc => ?_)
    · have h := h.1 hc
      refine a_aload_n fx 0 d_Mc_part_44 rfl rfl ?_
      refine a_getS fx (T := F_Mc) (j := 13) (hk := hk0) (ht := ht0) (ht2 := by decide) (hc := rfl) (hin := u_in_Mc) (hj := by decide) (hj2 := by decide) (hf := rfl) (n9 := 411) (hfo := rfl) (hT := rfl) (hw := w_317) (hd := d_Mc_part_45) (kk := ?_)
      refine a_iload_n fx 2 d_Mc_part_48 rfl rfl ?_
      refine a_calli (rest := []) (a_runV (As := [.int i2]) fx cv_Ro_has w_1195 (Met_Ro_has l B D aC aS (hk0 := (lo_0_13 hk0 ht0).1) (ht0 := (lo_0_13 hk0 ht0).2) h) (lo_0_13 hk0 ht0).1 (lo_0_13 hk0 ht0).2 (by decide) rfl rfl rfl (Nat.le_of_ble_eq_true rfl) rfl rfl ⟨Nat.le_of_ble_eq_true rfl, Nat.le_of_ble_eq_true rfl⟩ d_Mc_part_49 ⟨Nat.le_of_ble_eq_true rfl, Nat.le_of_ble_eq_true rfl⟩) (fun x5 M4 h => ?_)
      refine a_if_ne fx 63 d_Mc_part_52 rfl (fun hc => ?_) (fun hc => ?_)
      · have h := h.1 hc
        refine a_aload_n fx 0 d_Mc_part_63 rfl rfl ?_
        refine a_getS fx (T := F_Mc) (j := 13) (hk := hk0) (ht := ht0) (ht2 := by decide) (hc := rfl) (hin := u_in_Mc) (hj := by decide) (hj2 := by decide) (hf := rfl) (n9 := 411) (hfo := rfl) (hT := rfl) (hw := w_317) (hd := d_Mc_part_64) (kk := ?_)
        refine a_iload_n fx 2 d_Mc_part_67 rfl rfl ?_
        refine a_calli (rest := []) (a_runV (As := [.int i2]) fx cv_Ro_at w_576 (Met_Ro_at l B D aC aS (hk0 := (lo_0_13 hk0 ht0).1) (ht0 := (lo_0_13 hk0 ht0).2) h) (lo_0_13 hk0 ht0).1 (lo_0_13 hk0 ht0).2 (by decide) rfl rfl rfl (Nat.le_of_ble_eq_true rfl) rfl rfl ⟨Nat.le_of_ble_eq_true rfl, Nat.le_of_ble_eq_true rfl⟩ d_Mc_part_68 ⟨Nat.le_of_ble_eq_true rfl, Nat.le_of_ble_eq_true rfl⟩) (fun x7 M6 h => ?_)
        refine a_widen (mc := 1) (ms := 6) (by decide) (by decide) ?_
        exact a_iretT fx hlo hr h d_Mc_part_71
      · have h := h.2 hc
        exact a_throw fx hfl hlo hno 4 (by decide) (by decide) w_1102 w_1103 w_18 (by decide +kernel) oa_4_149 (Nat.le_of_ble_eq_true rfl) (Nat.le_of_ble_eq_true rfl) (Nat.le_of_ble_eq_true rfl) (Nat.le_of_ble_eq_true rfl) d_Mc_part_55 d_Mc_part_58 d_Mc_part_59 d_Mc_part_62 h
    · have h := h.2 hc
      refine a_aload_n fx 0 d_Mc_part_36 rfl rfl ?_
      refine a_getS fx (T := F_Mc) (j := 13) (hk := hk0) (ht := ht0) (ht2 := by decide) (hc := rfl) (hin := u_in_Mc) (hj := by decide) (hj2 := by decide) (hf := rfl) (n9 := 411) (hfo := rfl) (hT := rfl) (hw := w_317) (hd := d_Mc_part_37) (kk := ?_)
      refine a_getIN fx (T := F_Ro) (j := 1) (hk := (lo_0_13 hk0 ht0).1) (ht := (lo_0_13 hk0 ht0).2) (ht2 := by decide) (hc := rfl) (hin := u_in_Ro) (hj := by decide) (hj2 := by decide) (hf := rfl) (hT := rfl) (q9 := 4) (hw := rfl) (hd := d_Mc_part_40) (kk := ?_)
      refine a_widen (mc := 1) (ms := 6) (by decide) (by decide) ?_
      exact a_iretT fx hlo hr h d_Mc_part_43
  · have h := h.2 hc
    exact a_throw fx hfl hlo hno 4 (by decide) (by decide) w_1102 w_1103 w_18 (by decide +kernel) oa_4_149 (Nat.le_of_ble_eq_true rfl) (Nat.le_of_ble_eq_true rfl) (Nat.le_of_ble_eq_true rfl) (Nat.le_of_ble_eq_true rfl) d_Mc_part_11 d_Mc_part_14 d_Mc_part_15 d_Mc_part_18 h
set_option maxRecDepth 100000 in
set_option maxHeartbeats 4000000 in
theorem Met_Mc_stage (l : Launch) (B : Nat) (D : va_G) (aC : Nat → ClassId) (aS : Nat → Nat) (hfl : l.flags = pinnedFlags ++ [noTraceFlag]) {a0 : Nat} {i1 : Int32} {i2 : Int32} {M : zM} {post : Option Value → zM → Prop} {postT : Nat → zM → Prop} (hk0 : a0 < N0) (ht0 : tg a0 = 0) (h : Wp_Mc_stage a0 i1 i2 M post postT) : MetT l y_Mc_stage (wo y_Mc_stage b_Mc_stage 3 (some FieldType.int)) { frames := 8, cells := 1, slots := 6, locals := 173 } (va_Pc [.ref (B + a0), .int i1, .int i2] (zWl B D aC aS M)) (zQT B D aC post postT) 1 6 (zAb B) := by
  refine z_metT (own := "MailChain") (lv0 := [(0, .ref (B + a0)), (1, .int i1), (2, .int i2)]) (by decide) rfl (Nat.le_of_ble_eq_true rfl) rfl ?_
  intro p e s m below meth c fx hr hlo hno
  delta Wp_Mc_stage at h
  refine a_iload_n fx 1 d_Mc_stage_0 rfl rfl ?_
  by_cases hc0 : i1 = 0
  · have h := h.1 hc0
    refine a_tabI fx 28 d_Mc_stage_1 (by rw [hc0]; decide) (by rw [hc0]; decide) (by rw [hc0]; rfl) rfl ?_
    refine a_aload_n fx 0 d_Mc_stage_28 rfl rfl ?_
    refine a_callv (rest := []) (a_runV (As := []) fx cv_Mc_refreshArchive w_1150 (Met_Mc_refreshArchive l B D aC aS (hk0 := hk0) (ht0 := ht0) h) hk0 ht0 (by decide) rfl rfl rfl (Nat.le_of_ble_eq_true rfl) rfl rfl ⟨Nat.le_of_ble_eq_true rfl, Nat.le_of_ble_eq_true rfl⟩ d_Mc_stage_29 ⟨Nat.le_of_ble_eq_true rfl, Nat.le_of_ble_eq_true rfl⟩) (fun M1 h => ?_)
    refine a_aload_n fx 0 d_Mc_stage_32 rfl rfl ?_
    refine a_getS fx (T := F_Mc) (j := 4) (hk := hk0) (ht := ht0) (ht2 := by decide) (hc := rfl) (hin := u_in_Mc) (hj := by decide) (hj2 := by decide) (hf := rfl) (n9 := 384) (hfo := rfl) (hT := rfl) (hw := w_308) (hd := d_Mc_stage_33) (kk := ?_)
    refine a_iload_n fx 2 d_Mc_stage_36 rfl rfl ?_
    refine a_calli (rest := []) (a_runV (As := [.int i2]) fx cv_Ro_at w_576 (Met_Ro_at l B D aC aS (hk0 := (lo_0_4 hk0 ht0).1) (ht0 := (lo_0_4 hk0 ht0).2) h) (lo_0_4 hk0 ht0).1 (lo_0_4 hk0 ht0).2 (by decide) rfl rfl rfl (Nat.le_of_ble_eq_true rfl) rfl rfl ⟨Nat.le_of_ble_eq_true rfl, Nat.le_of_ble_eq_true rfl⟩ d_Mc_stage_37 ⟨Nat.le_of_ble_eq_true rfl, Nat.le_of_ble_eq_true rfl⟩) (fun x3 M2 h => ?_)
    refine a_widen (mc := 1) (ms := 6) (by decide) (by decide) ?_
    exact a_iretT fx hlo hr h d_Mc_stage_40
  have h := h.2
  by_cases hc1 : i1 = 1
  · have h := h.1 hc1
    refine a_tabI fx 41 d_Mc_stage_1 (by rw [hc1]; decide) (by rw [hc1]; decide) (by rw [hc1]; rfl) rfl ?_
    refine a_aload_n fx 0 d_Mc_stage_41 rfl rfl ?_
    refine a_getS fx (T := F_Mc) (j := 6) (hk := hk0) (ht := ht0) (ht2 := by decide) (hc := rfl) (hin := u_in_Mc) (hj := by decide) (hj2 := by decide) (hf := rfl) (n9 := 386) (hfo := rfl) (hT := rfl) (hw := w_310) (hd := d_Mc_stage_42) (kk := ?_)
    refine a_getS fx (T := F_Ma) (j := 0) (hk := (lo_0_6 hk0 ht0).1) (ht := (lo_0_6 hk0 ht0).2) (ht2 := by decide) (hc := rfl) (hin := u_in_Ma) (hj := by decide) (hj2 := by decide) (hf := rfl) (n9 := 1) (hfo := rfl) (hT := rfl) (hw := w_158) (hd := d_Mc_stage_45) (kk := ?_)
    refine a_iload_n fx 2 d_Mc_stage_48 rfl rfl ?_
    refine a_calli (rest := []) (a_runV (As := [.int i2]) fx cv_Ro_at w_576 (Met_Ro_at l B D aC aS (hk0 := (lo_4_0 (lo_0_6 hk0 ht0).1 (lo_0_6 hk0 ht0).2).1) (ht0 := (lo_4_0 (lo_0_6 hk0 ht0).1 (lo_0_6 hk0 ht0).2).2) h) (lo_4_0 (lo_0_6 hk0 ht0).1 (lo_0_6 hk0 ht0).2).1 (lo_4_0 (lo_0_6 hk0 ht0).1 (lo_0_6 hk0 ht0).2).2 (by decide) rfl rfl rfl (Nat.le_of_ble_eq_true rfl) rfl rfl ⟨Nat.le_of_ble_eq_true rfl, Nat.le_of_ble_eq_true rfl⟩ d_Mc_stage_49 ⟨Nat.le_of_ble_eq_true rfl, Nat.le_of_ble_eq_true rfl⟩) (fun x5 M4 h => ?_)
    refine a_widen (mc := 1) (ms := 6) (by decide) (by decide) ?_
    exact a_iretT fx hlo hr h d_Mc_stage_52
  have h := h.2
  by_cases hc2 : i1 = 2
  · have h := h.1 hc2
    refine a_tabI fx 53 d_Mc_stage_1 (by rw [hc2]; decide) (by rw [hc2]; decide) (by rw [hc2]; rfl) rfl ?_
    refine a_aload_n fx 0 d_Mc_stage_53 rfl rfl ?_
    refine a_getS fx (T := F_Mc) (j := 6) (hk := hk0) (ht := ht0) (ht2 := by decide) (hc := rfl) (hin := u_in_Mc) (hj := by decide) (hj2 := by decide) (hf := rfl) (n9 := 386) (hfo := rfl) (hT := rfl) (hw := w_310) (hd := d_Mc_stage_54) (kk := ?_)
    refine a_getS fx (T := F_Ma) (j := 1) (hk := (lo_0_6 hk0 ht0).1) (ht := (lo_0_6 hk0 ht0).2) (ht2 := by decide) (hc := rfl) (hin := u_in_Ma) (hj := by decide) (hj2 := by decide) (hf := rfl) (n9 := 3) (hfo := rfl) (hT := rfl) (hw := w_160) (hd := d_Mc_stage_57) (kk := ?_)
    refine a_iload_n fx 2 d_Mc_stage_60 rfl rfl ?_
    refine a_calli (rest := []) (a_runV (As := [.int i2]) fx cv_Ro_at w_576 (Met_Ro_at l B D aC aS (hk0 := (lo_4_1 (lo_0_6 hk0 ht0).1 (lo_0_6 hk0 ht0).2).1) (ht0 := (lo_4_1 (lo_0_6 hk0 ht0).1 (lo_0_6 hk0 ht0).2).2) h) (lo_4_1 (lo_0_6 hk0 ht0).1 (lo_0_6 hk0 ht0).2).1 (lo_4_1 (lo_0_6 hk0 ht0).1 (lo_0_6 hk0 ht0).2).2 (by decide) rfl rfl rfl (Nat.le_of_ble_eq_true rfl) rfl rfl ⟨Nat.le_of_ble_eq_true rfl, Nat.le_of_ble_eq_true rfl⟩ d_Mc_stage_61 ⟨Nat.le_of_ble_eq_true rfl, Nat.le_of_ble_eq_true rfl⟩) (fun x7 M6 h => ?_)
    refine a_widen (mc := 1) (ms := 6) (by decide) (by decide) ?_
    exact a_iretT fx hlo hr h d_Mc_stage_64
  have h := h.2
  refine a_tabO fx 65 d_Mc_stage_1 (by have e0 : ¬ (i1).toInt = 0 := fun e => hc0 (Int32.toInt_inj.mp (e.trans (by decide : (0 : Int) = (0 : Int32).toInt))); have e1 : ¬ (i1).toInt = 1 := fun e => hc1 (Int32.toInt_inj.mp (e.trans (by decide : (1 : Int) = (1 : Int32).toInt))); have e2 : ¬ (i1).toInt = 2 := fun e => hc2 (Int32.toInt_inj.mp (e.trans (by decide : (2 : Int) = (2 : Int32).toInt))); omega) rfl ?_
  have h := h hc0 hc1 hc2
  exact a_throw fx hfl hlo hno 1 (by decide) (by decide) w_1051 w_598 w_15 (by decide +kernel) oa_1_83 (Nat.le_of_ble_eq_true rfl) (Nat.le_of_ble_eq_true rfl) (Nat.le_of_ble_eq_true rfl) (Nat.le_of_ble_eq_true rfl) d_Mc_stage_65 d_Mc_stage_68 d_Mc_stage_69 d_Mc_stage_72 h
set_option maxRecDepth 100000 in
set_option maxHeartbeats 4000000 in
theorem Met_Mc_pass (l : Launch) (B : Nat) (D : va_G) (aC : Nat → ClassId) (aS : Nat → Nat) (hfl : l.flags = pinnedFlags ++ [noTraceFlag]) {a0 : Nat} {i1 : Int32} {i2 : Int32} {i3 : Int32} {M : zM} {post : Option Value → zM → Prop} {postT : Nat → zM → Prop} (hk0 : a0 < N0) (ht0 : tg a0 = 0) (h : Wp_Mc_pass a0 i1 i2 i3 M post postT) : MetT l y_Mc_pass (wo y_Mc_pass b_Mc_pass 4 (some FieldType.int)) { frames := 8, cells := 1, slots := 6, locals := 179 } (va_Pc [.ref (B + a0), .int i1, .int i2, .int i3] (zWl B D aC aS M)) (zQT B D aC post postT) 1 6 (zAb B) := by
  refine z_metT (own := "MailChain") (lv0 := [(0, .ref (B + a0)), (1, .int i1), (2, .int i2), (3, .int i3)]) (by decide) rfl (Nat.le_of_ble_eq_true rfl) rfl ?_
  intro p e s m below meth c fx hr hlo hno
  delta Wp_Mc_pass at h
  refine a_aload_n fx 0 d_Mc_pass_0 rfl rfl ?_
  refine a_getS fx (T := F_Mc) (j := 6) (hk := hk0) (ht := ht0) (ht2 := by decide) (hc := rfl) (hin := u_in_Mc) (hj := by decide) (hj2 := by decide) (hf := rfl) (n9 := 386) (hfo := rfl) (hT := rfl) (hw := w_310) (hd := d_Mc_pass_1) (kk := ?_)
  refine a_iload_n fx 1 d_Mc_pass_4 rfl rfl ?_
  refine a_calli (rest := []) (a_runV (As := [.int i1]) fx cv_Ma_has w_1172 (Met_Ma_has l B D aC aS (hk0 := (lo_0_6 hk0 ht0).1) (ht0 := (lo_0_6 hk0 ht0).2) h) (lo_0_6 hk0 ht0).1 (lo_0_6 hk0 ht0).2 (by decide) rfl rfl rfl (Nat.le_of_ble_eq_true rfl) rfl rfl ⟨Nat.le_of_ble_eq_true rfl, Nat.le_of_ble_eq_true rfl⟩ d_Mc_pass_5 ⟨Nat.le_of_ble_eq_true rfl, Nat.le_of_ble_eq_true rfl⟩) (fun x2 M1 h => ?_)
  refine a_if_ne fx 19 d_Mc_pass_8 rfl (fun hc => ?_) (fun hc => ?_)
  · have h := h.1 hc
    refine a_aload_n fx 0 d_Mc_pass_19 rfl rfl ?_
    refine a_getS fx (T := F_Mc) (j := 6) (hk := hk0) (ht := ht0) (ht2 := by decide) (hc := rfl) (hin := u_in_Mc) (hj := by decide) (hj2 := by decide) (hf := rfl) (n9 := 386) (hfo := rfl) (hT := rfl) (hw := w_310) (hd := d_Mc_pass_20) (kk := ?_)
    refine a_iload_n fx 1 d_Mc_pass_23 rfl rfl ?_
    refine a_aload_n fx 0 d_Mc_pass_24 rfl rfl ?_
    refine a_getS fx (T := F_Mc) (j := 13) (hk := hk0) (ht := ht0) (ht2 := by decide) (hc := rfl) (hin := u_in_Mc) (hj := by decide) (hj2 := by decide) (hf := rfl) (n9 := 411) (hfo := rfl) (hT := rfl) (hw := w_317) (hd := d_Mc_pass_25) (kk := ?_)
    refine a_callv (rest := []) (a_runV (As := [.int i1, .ref (B + (a0 + 411))]) fx cv_Ma_write w_1176 (Met_Ma_write l B D aC aS (hk0 := (lo_0_6 hk0 ht0).1) (ht0 := (lo_0_6 hk0 ht0).2) (hk2 := (lo_0_13 hk0 ht0).1) (ht2 := (lo_0_13 hk0 ht0).2) h) (lo_0_6 hk0 ht0).1 (lo_0_6 hk0 ht0).2 (by decide) rfl rfl rfl (Nat.le_of_ble_eq_true rfl) rfl rfl ⟨Nat.le_of_ble_eq_true rfl, Nat.le_of_ble_eq_true rfl⟩ d_Mc_pass_28 ⟨Nat.le_of_ble_eq_true rfl, Nat.le_of_ble_eq_true rfl⟩) (fun M3 h => ?_)
    refine a_aload_n fx 0 d_Mc_pass_31 rfl rfl ?_
    refine a_getS fx (T := F_Mc) (j := 13) (hk := hk0) (ht := ht0) (ht2 := by decide) (hc := rfl) (hin := u_in_Mc) (hj := by decide) (hj2 := by decide) (hf := rfl) (n9 := 411) (hfo := rfl) (hT := rfl) (hw := w_317) (hd := d_Mc_pass_32) (kk := ?_)
    refine a_iload_n fx 2 d_Mc_pass_35 rfl rfl ?_
    refine a_calli (rest := []) (a_runV (As := [.int i2]) fx cv_Ro_has w_1195 (Met_Ro_has l B D aC aS (hk0 := (lo_0_13 hk0 ht0).1) (ht0 := (lo_0_13 hk0 ht0).2) h) (lo_0_13 hk0 ht0).1 (lo_0_13 hk0 ht0).2 (by decide) rfl rfl rfl (Nat.le_of_ble_eq_true rfl) rfl rfl ⟨Nat.le_of_ble_eq_true rfl, Nat.le_of_ble_eq_true rfl⟩ d_Mc_pass_36 ⟨Nat.le_of_ble_eq_true rfl, Nat.le_of_ble_eq_true rfl⟩) (fun x5 M4 h => ?_)
    refine a_if_ne fx 50 d_Mc_pass_39 rfl (fun hc => ?_) (fun hc => ?_)
    · have h := h.1 hc
      refine a_iload_n fx 3 d_Mc_pass_50 rfl rfl ?_
      refine a_if_lt fx 61 d_Mc_pass_51 rfl (fun hc => ?_) (fun hc => ?_)
      · have h := h.1 hc
        exact a_throw fx hfl hlo hno 1 (by decide) (by decide) w_1051 w_598 w_15 (by decide +kernel) oa_1_83 (Nat.le_of_ble_eq_true rfl) (Nat.le_of_ble_eq_true rfl) (Nat.le_of_ble_eq_true rfl) (Nat.le_of_ble_eq_true rfl) d_Mc_pass_61 d_Mc_pass_64 d_Mc_pass_65 d_Mc_pass_68 h
      · have h := h.2 hc
        refine a_iload_n fx 3 d_Mc_pass_54 rfl rfl ?_
        refine a_sipush (v := 255) fx d_Mc_pass_55 rfl ?_
        refine a_icmp_le fx 69 d_Mc_pass_58 rfl (fun hc => ?_) (fun hc => ?_)
        · have h := h.1 hc
          refine a_aload_n fx 0 d_Mc_pass_69 rfl rfl ?_
          refine a_getS fx (T := F_Mc) (j := 13) (hk := hk0) (ht := ht0) (ht2 := by decide) (hc := rfl) (hin := u_in_Mc) (hj := by decide) (hj2 := by decide) (hf := rfl) (n9 := 411) (hfo := rfl) (hT := rfl) (hw := w_317) (hd := d_Mc_pass_70) (kk := ?_)
          refine a_iload_n fx 2 d_Mc_pass_73 rfl rfl ?_
          refine a_iload_n fx 3 d_Mc_pass_74 rfl rfl ?_
          refine a_callv (rest := []) (a_runV (As := [.int i2, .int i3]) fx cv_Ro_turn w_1213 (Met_Ro_turn l B D aC aS (hk0 := (lo_0_13 hk0 ht0).1) (ht0 := (lo_0_13 hk0 ht0).2) h) (lo_0_13 hk0 ht0).1 (lo_0_13 hk0 ht0).2 (by decide) rfl rfl rfl (Nat.le_of_ble_eq_true rfl) rfl rfl ⟨Nat.le_of_ble_eq_true rfl, Nat.le_of_ble_eq_true rfl⟩ d_Mc_pass_75 ⟨Nat.le_of_ble_eq_true rfl, Nat.le_of_ble_eq_true rfl⟩) (fun M6 h => ?_)
          refine a_aload_n fx 0 d_Mc_pass_78 rfl rfl ?_
          refine a_getS fx (T := F_Mc) (j := 7) (hk := hk0) (ht := ht0) (ht2 := by decide) (hc := rfl) (hin := u_in_Mc) (hj := by decide) (hj2 := by decide) (hf := rfl) (n9 := 392) (hfo := rfl) (hT := rfl) (hw := w_311) (hd := d_Mc_pass_79) (kk := ?_)
          refine a_aload_n fx 0 d_Mc_pass_82 rfl rfl ?_
          refine a_getS fx (T := F_Mc) (j := 13) (hk := hk0) (ht := ht0) (ht2 := by decide) (hc := rfl) (hin := u_in_Mc) (hj := by decide) (hj2 := by decide) (hf := rfl) (n9 := 411) (hfo := rfl) (hT := rfl) (hw := w_317) (hd := d_Mc_pass_83) (kk := ?_)
          refine a_calli (rest := []) (a_runV (As := [.ref (B + (a0 + 411))]) fx cv_Bo_take w_381 (Met_Bo_take l B D aC aS (hk0 := (lo_0_7 hk0 ht0).1) (ht0 := (lo_0_7 hk0 ht0).2) (hk1 := (lo_0_13 hk0 ht0).1) (ht1 := (lo_0_13 hk0 ht0).2) h) (lo_0_7 hk0 ht0).1 (lo_0_7 hk0 ht0).2 (by decide) rfl rfl rfl (Nat.le_of_ble_eq_true rfl) rfl rfl ⟨Nat.le_of_ble_eq_true rfl, Nat.le_of_ble_eq_true rfl⟩ d_Mc_pass_86 ⟨Nat.le_of_ble_eq_true rfl, Nat.le_of_ble_eq_true rfl⟩) (fun x8 M7 h => ?_)
          refine a_widen (mc := 1) (ms := 6) (by decide) (by decide) ?_
          exact a_iretT fx hlo hr h d_Mc_pass_89
        · have h := h.2 hc
          exact a_throw fx hfl hlo hno 1 (by decide) (by decide) w_1051 w_598 w_15 (by decide +kernel) oa_1_83 (Nat.le_of_ble_eq_true rfl) (Nat.le_of_ble_eq_true rfl) (Nat.le_of_ble_eq_true rfl) (Nat.le_of_ble_eq_true rfl) d_Mc_pass_61 d_Mc_pass_64 d_Mc_pass_65 d_Mc_pass_68 h
    · have h := h.2 hc
      exact a_throw fx hfl hlo hno 4 (by decide) (by decide) w_1102 w_1103 w_18 (by decide +kernel) oa_4_149 (Nat.le_of_ble_eq_true rfl) (Nat.le_of_ble_eq_true rfl) (Nat.le_of_ble_eq_true rfl) (Nat.le_of_ble_eq_true rfl) d_Mc_pass_42 d_Mc_pass_45 d_Mc_pass_46 d_Mc_pass_49 h
  · have h := h.2 hc
    exact a_throw fx hfl hlo hno 4 (by decide) (by decide) w_1102 w_1103 w_18 (by decide +kernel) oa_4_149 (Nat.le_of_ble_eq_true rfl) (Nat.le_of_ble_eq_true rfl) (Nat.le_of_ble_eq_true rfl) (Nat.le_of_ble_eq_true rfl) d_Mc_pass_11 d_Mc_pass_14 d_Mc_pass_15 d_Mc_pass_18 h
set_option maxRecDepth 100000 in
set_option maxHeartbeats 4000000 in
theorem Met_Mc_forge (l : Launch) (B : Nat) (D : va_G) (aC : Nat → ClassId) (aS : Nat → Nat) (hfl : l.flags = pinnedFlags ++ [noTraceFlag]) {a0 : Nat} {i1 : Int32} {i2 : Int32} {M : zM} {post : Option Value → zM → Prop} {postT : Nat → zM → Prop} (hk0 : a0 < N0) (ht0 : tg a0 = 0) (h : Wp_Mc_forge a0 i1 i2 M post postT) : MetT l y_Mc_forge (wo y_Mc_forge b_Mc_forge 4 none) { frames := 7, cells := 1, slots := 6, locals := 161 } (va_Pc [.ref (B + a0), .int i1, .int i2] (zWl B D aC aS M)) (zQT B D aC post postT) 1 6 (zAb B) := by
  refine z_metT (own := "MailChain") (lv0 := [(0, .ref (B + a0)), (1, .int i1), (2, .int i2)]) (by decide) rfl (Nat.le_of_ble_eq_true rfl) rfl ?_
  intro p e s m below meth c fx hr hlo hno
  delta Wp_Mc_forge at h
  have h := h (fun w0 M => zAt p l e { frames := 7, cells := 1, slots := 6, locals := 161 } s m ([.ref (B + a0), .int i1, .int i2] : List Value).toArray below meth c 0 0 (MQT below (zQT B D aC post postT) ([.ref (B + a0), .int i1, .int i2] : List Value).toArray s 1 6 (zAb B)) B D aC 4 26 [(0, .ref (B + a0)), (1, .int i1), (2, .int i2)] [.int w0] M)
  have h := h (fun v3 M => zAt p l e { frames := 7, cells := 1, slots := 6, locals := 161 } s m ([.ref (B + a0), .int i1, .int i2] : List Value).toArray below meth c 0 0 (MQT below (zQT B D aC post postT) ([.ref (B + a0), .int i1, .int i2] : List Value).toArray s 1 6 (zAb B)) B D aC 4 54 [(0, .ref (B + a0)), (1, .int i1), (2, .int i2), (3, .int v3)] [] M)
  have h := h (by
    intro w0 M h
    refine a_istore_n (lv2 := [(3, .int w0), (0, .ref (B + a0)), (1, .int i1), (2, .int i2)]) fx d_Mc_forge_26 rfl (by decide) rfl ?_
    refine a_iload_n fx 0 d_Mc_forge_27 rfl rfl ?_
    refine a_if_eq fx 54 d_Mc_forge_28 rfl (fun hc => ?_) (fun hc => ?_)
    · have h := h.1 hc
      refine a_sub [1, 2, 3, 0] rfl ?_
      exact h
    · have h := h.2 hc
      refine a_aload_n fx 1 d_Mc_forge_31 rfl rfl ?_
      refine a_getS fx (T := F_Mc) (j := 7) (hk := hk0) (ht := ht0) (ht2 := by decide) (hc := rfl) (hin := u_in_Mc) (hj := by decide) (hj2 := by decide) (hf := rfl) (n9 := 392) (hfo := rfl) (hT := rfl) (hw := w_311) (hd := d_Mc_forge_32) (kk := ?_)
      refine a_callv (rest := []) (a_runV (As := []) fx cv_Bo_wipe w_481 (Met_Bo_wipe l B D aC aS (hk0 := (lo_0_7 hk0 ht0).1) (ht0 := (lo_0_7 hk0 ht0).2) h) (lo_0_7 hk0 ht0).1 (lo_0_7 hk0 ht0).2 (by decide) rfl rfl rfl (Nat.le_of_ble_eq_true rfl) rfl rfl ⟨Nat.le_of_ble_eq_true rfl, Nat.le_of_ble_eq_true rfl⟩ d_Mc_forge_35 ⟨Nat.le_of_ble_eq_true rfl, Nat.le_of_ble_eq_true rfl⟩) (fun M3 h => ?_)
      refine a_aload_n fx 1 d_Mc_forge_38 rfl rfl ?_
      refine a_getS fx (T := F_Mc) (j := 7) (hk := hk0) (ht := ht0) (ht2 := by decide) (hc := rfl) (hin := u_in_Mc) (hj := by decide) (hj2 := by decide) (hf := rfl) (n9 := 392) (hfo := rfl) (hT := rfl) (hw := w_311) (hd := d_Mc_forge_39) (kk := ?_)
      refine a_iconst (v := 1) fx d_Mc_forge_42 rfl ?_
      refine a_iconst (v := 1) fx d_Mc_forge_43 rfl ?_
      refine a_aload_n fx 1 d_Mc_forge_44 rfl rfl ?_
      refine a_iload_n fx 2 d_Mc_forge_45 rfl rfl ?_
      refine a_iload_n fx 3 d_Mc_forge_46 rfl rfl ?_
      refine a_callr (rest := [.int 1, .int 1, .ref (B + (a0 + 392))]) (a_runV (As := [.int i1, .int i2]) fx cv_Mc_textOfTape w_1225 (Met_Mc_textOfTape l B D aC aS (hk0 := hk0) (ht0 := ht0) h) hk0 ht0 (by decide) rfl rfl rfl (Nat.le_of_ble_eq_true rfl) rfl rfl ⟨Nat.le_of_ble_eq_true rfl, Nat.le_of_ble_eq_true rfl⟩ d_Mc_forge_47 ⟨Nat.le_of_ble_eq_true rfl, Nat.le_of_ble_eq_true rfl⟩) (fun r5 M4 h => ?_)
      obtain ⟨hkr5, htr5, h⟩ := h
      refine a_iconst (v := 0) fx d_Mc_forge_50 rfl ?_
      refine a_callv (rest := []) (a_runV (As := [.int 1, .int 1, .ref (B + r5), .int 0]) fx cv_Bo_keep w_1229 (Met_Bo_keep l B D aC aS (hk0 := (lo_0_7 hk0 ht0).1) (ht0 := (lo_0_7 hk0 ht0).2) (hk3 := hkr5) (ht3 := htr5) h) (lo_0_7 hk0 ht0).1 (lo_0_7 hk0 ht0).2 (by decide) rfl rfl rfl (Nat.le_of_ble_eq_true rfl) rfl rfl ⟨Nat.le_of_ble_eq_true rfl, Nat.le_of_ble_eq_true rfl⟩ d_Mc_forge_51 ⟨Nat.le_of_ble_eq_true rfl, Nat.le_of_ble_eq_true rfl⟩) (fun M6 h => ?_)
      refine a_sub [1, 2, 3, 0] rfl ?_
      exact h)
  have h := h (by
    intro v3 M h
    refine a_aload_n fx 0 d_Mc_forge_54 rfl rfl ?_
    refine a_getS fx (T := F_Mc) (j := 0) (hk := hk0) (ht := ht0) (ht2 := by decide) (hc := rfl) (hin := u_in_Mc) (hj := by decide) (hj2 := by decide) (hf := rfl) (n9 := 1) (hfo := rfl) (hT := rfl) (hw := w_304) (hd := d_Mc_forge_55) (kk := ?_)
    refine a_callv (rest := []) (a_runV (As := []) fx cv_Ro_wipe w_376 (Met_Ro_wipe l B D aC aS (hk0 := (lo_0_0 hk0 ht0).1) (ht0 := (lo_0_0 hk0 ht0).2) h) (lo_0_0 hk0 ht0).1 (lo_0_0 hk0 ht0).2 (by decide) rfl rfl rfl (Nat.le_of_ble_eq_true rfl) rfl rfl ⟨Nat.le_of_ble_eq_true rfl, Nat.le_of_ble_eq_true rfl⟩ d_Mc_forge_58 ⟨Nat.le_of_ble_eq_true rfl, Nat.le_of_ble_eq_true rfl⟩) (fun M7 h => ?_)
    refine a_iload_n fx 3 d_Mc_forge_61 rfl rfl ?_
    refine a_if_ne fx 73 d_Mc_forge_62 rfl (fun hc => ?_) (fun hc => ?_)
    · have h := h.1 hc
      refine a_widen (mc := 1) (ms := 6) (by decide) (by decide) ?_
      exact a_vretT fx hlo hr h d_Mc_forge_73
    · have h := h.2 hc
      exact a_throw fx hfl hlo hno 1 (by decide) (by decide) w_1051 w_598 w_15 (by decide +kernel) oa_1_83 (Nat.le_of_ble_eq_true rfl) (Nat.le_of_ble_eq_true rfl) (Nat.le_of_ble_eq_true rfl) (Nat.le_of_ble_eq_true rfl) d_Mc_forge_65 d_Mc_forge_68 d_Mc_forge_69 d_Mc_forge_72 h)
  refine a_iload_n fx 1 d_Mc_forge_0 rfl rfl ?_
  refine a_iconst (v := 1) fx d_Mc_forge_1 rfl ?_
  refine a_icmp_eq fx 21 d_Mc_forge_2 rfl (fun hc => ?_) (fun hc => ?_)
  · have h := h.1 hc
    refine a_iconst (v := 1) fx d_Mc_forge_21 rfl ?_
    refine a_goto fx 26 d_Mc_forge_22 rfl ?_
    refine a_sub [0, 1, 2] rfl ?_
    exact h
  · have h := h.2 hc
    refine a_iload_n fx 1 d_Mc_forge_5 rfl rfl ?_
    refine a_iconst (v := 2) fx d_Mc_forge_6 rfl ?_
    refine a_icmp_eq fx 21 d_Mc_forge_7 rfl (fun hc => ?_) (fun hc => ?_)
    · have h := h.1 hc
      refine a_iconst (v := 1) fx d_Mc_forge_21 rfl ?_
      refine a_goto fx 26 d_Mc_forge_22 rfl ?_
      refine a_sub [0, 1, 2] rfl ?_
      exact h
    · have h := h.2 hc
      refine a_iload_n fx 1 d_Mc_forge_10 rfl rfl ?_
      refine a_if_ne fx 25 d_Mc_forge_11 rfl (fun hc => ?_) (fun hc => ?_)
      · have h := h.1 hc
        refine a_iconst (v := 0) fx d_Mc_forge_25 rfl ?_
        refine a_sub [0, 1, 2] rfl ?_
        exact h
      · have h := h.2 hc
        refine a_iload_n fx 2 d_Mc_forge_14 rfl rfl ?_
        refine a_calli (rest := []) (a_runS (As := [.int i2]) fx  cv_Mc_isWidth w_1149 (Met_Mc_isWidth l B D aC aS  h) rfl rfl (Nat.le_of_ble_eq_true rfl) rfl rfl ⟨Nat.le_of_ble_eq_true rfl, Nat.le_of_ble_eq_true rfl⟩ d_Mc_forge_15 ⟨Nat.le_of_ble_eq_true rfl, Nat.le_of_ble_eq_true rfl⟩) (fun x2 M1 h => ?_)
        refine a_if_eq fx 25 d_Mc_forge_18 rfl (fun hc => ?_) (fun hc => ?_)
        · have h := h.1 hc
          refine a_iconst (v := 0) fx d_Mc_forge_25 rfl ?_
          refine a_sub [0, 1, 2] rfl ?_
          exact h
        · have h := h.2 hc
          refine a_iconst (v := 1) fx d_Mc_forge_21 rfl ?_
          refine a_goto fx 26 d_Mc_forge_22 rfl ?_
          refine a_sub [0, 1, 2] rfl ?_
          exact h
set_option maxRecDepth 100000 in
set_option maxHeartbeats 4000000 in
theorem Met_Mc_about (l : Launch) (B : Nat) (D : va_G) (aC : Nat → ClassId) (aS : Nat → Nat) (hfl : l.flags = pinnedFlags ++ [noTraceFlag]) {a0 : Nat} {i1 : Int32} {i2 : Int32} {i3 : Int32} {M : zM} {post : Option Value → zM → Prop} {postT : Nat → zM → Prop} (hk0 : a0 < N0) (ht0 : tg a0 = 0) (h : Wp_Mc_about a0 i1 i2 i3 M post postT) : MetT l y_Mc_about (wo y_Mc_about b_Mc_about 5 (some FieldType.int)) { frames := 6, cells := 1, slots := 6, locals := 120 } (va_Pc [.ref (B + a0), .int i1, .int i2, .int i3] (zWl B D aC aS M)) (zQT B D aC post postT) 1 6 (zAb B) := by
  refine z_metT (own := "MailChain") (lv0 := [(0, .ref (B + a0)), (1, .int i1), (2, .int i2), (3, .int i3)]) (by decide) rfl (Nat.le_of_ble_eq_true rfl) rfl ?_
  intro p e s m below meth c fx hr hlo hno
  delta Wp_Mc_about at h
  have h := h (fun M => zAt p l e { frames := 6, cells := 1, slots := 6, locals := 120 } s m ([.ref (B + a0), .int i1, .int i2, .int i3] : List Value).toArray below meth c 0 0 (MQT below (zQT B D aC post postT) ([.ref (B + a0), .int i1, .int i2, .int i3] : List Value).toArray s 1 6 (zAb B)) B D aC 5 17 [(0, .ref (B + a0)), (1, .int i1), (2, .int i2), (3, .int i3)] [] M)
  have h := h (fun w0 M => zAt p l e { frames := 6, cells := 1, slots := 6, locals := 120 } s m ([.ref (B + a0), .int i1, .int i2, .int i3] : List Value).toArray below meth c 0 0 (MQT below (zQT B D aC post postT) ([.ref (B + a0), .int i1, .int i2, .int i3] : List Value).toArray s 1 6 (zAb B)) B D aC 5 32 [(0, .ref (B + a0)), (1, .int i1), (2, .int i2), (3, .int i3)] [.ref (B + w0)] M)
  have h := h (by
    intro M h
    refine a_iload_n fx 1 d_Mc_about_17 rfl rfl ?_
    refine a_if_ne fx 28 d_Mc_about_18 rfl (fun hc => ?_) (fun hc => ?_)
    · have h := h.1 hc
      refine a_aload_n fx 0 d_Mc_about_28 rfl rfl ?_
      refine a_getR fx (T := F_Mc) (j := 2) (hk := hk0) (ht := ht0) (ht2 := by decide) (hc := rfl) (hin := u_in_Mc) (hj := by decide) (hj2 := by decide) (hf := rfl) (hT := rfl) (hw := w_306) (hd := d_Mc_about_29) (kk := ?_)
      refine a_topr (fun r1 er1 => ?_)
      obtain ⟨hkr1, htr1, h⟩ := h r1 er1
      refine a_sub [0, 1, 2, 3] rfl ?_
      exact h
    · have h := h.2 hc
      refine a_aload_n fx 0 d_Mc_about_21 rfl rfl ?_
      refine a_getS fx (T := F_Mc) (j := 1) (hk := hk0) (ht := ht0) (ht2 := by decide) (hc := rfl) (hin := u_in_Mc) (hj := by decide) (hj2 := by decide) (hf := rfl) (n9 := 3) (hfo := rfl) (hT := rfl) (hw := w_305) (hd := d_Mc_about_22) (kk := ?_)
      refine a_goto fx 32 d_Mc_about_25 rfl ?_
      refine a_sub [0, 1, 2, 3] rfl ?_
      exact h)
  have h := h (by
    intro w0 M h
    obtain ⟨hk_w0, ht_w0, h⟩ := h
    refine a_astore (lv2 := [(4, .ref (B + w0)), (0, .ref (B + a0)), (1, .int i1), (2, .int i2), (3, .int i3)]) fx d_Mc_about_32 (by decide) rfl ?_
    refine a_iload_n fx 3 d_Mc_about_34 rfl rfl ?_
    refine a_if_ne fx 44 d_Mc_about_35 rfl (fun hc => ?_) (fun hc => ?_)
    · have h := h.1 hc
      refine a_iload_n fx 3 d_Mc_about_44 rfl rfl ?_
      refine a_if_lt fx 63 d_Mc_about_45 rfl (fun hc => ?_) (fun hc => ?_)
      · have h := h.1 hc
        exact a_throw fx hfl hlo hno 4 (by decide) (by decide) w_1102 w_1103 w_18 (by decide +kernel) oa_4_149 (Nat.le_of_ble_eq_true rfl) (Nat.le_of_ble_eq_true rfl) (Nat.le_of_ble_eq_true rfl) (Nat.le_of_ble_eq_true rfl) d_Mc_about_63 d_Mc_about_66 d_Mc_about_67 d_Mc_about_70 h
      · have h := h.2 hc
        refine a_iload_n fx 3 d_Mc_about_48 rfl rfl ?_
        refine a_bipush (v := 9) fx d_Mc_about_49 rfl ?_
        refine a_icmp_gt fx 63 d_Mc_about_51 rfl (fun hc => ?_) (fun hc => ?_)
        · have h := h.1 hc
          exact a_throw fx hfl hlo hno 4 (by decide) (by decide) w_1102 w_1103 w_18 (by decide +kernel) oa_4_149 (Nat.le_of_ble_eq_true rfl) (Nat.le_of_ble_eq_true rfl) (Nat.le_of_ble_eq_true rfl) (Nat.le_of_ble_eq_true rfl) d_Mc_about_63 d_Mc_about_66 d_Mc_about_67 d_Mc_about_70 h
        · have h := h.2 hc
          refine a_aload fx 0 d_Mc_about_54 rfl ?_
          refine a_iload_n fx 4 d_Mc_about_56 rfl rfl ?_
          refine a_calli (rest := []) (a_runV (As := [.int i3]) fx cv_Tr_has w_1140 (Met_Tr_has l B D aC aS (hk0 := hk_w0) (ht0 := ht_w0) h) hk_w0 ht_w0 (by decide) rfl rfl rfl (Nat.le_of_ble_eq_true rfl) rfl rfl ⟨Nat.le_of_ble_eq_true rfl, Nat.le_of_ble_eq_true rfl⟩ d_Mc_about_57 ⟨Nat.le_of_ble_eq_true rfl, Nat.le_of_ble_eq_true rfl⟩) (fun x3 M2 h => ?_)
          refine a_if_ne fx 71 d_Mc_about_60 rfl (fun hc => ?_) (fun hc => ?_)
          · have h := h.1 hc
            refine a_aload fx 0 d_Mc_about_71 rfl ?_
            refine a_iload_n fx 3 d_Mc_about_73 rfl rfl ?_
            refine a_iload_n fx 4 d_Mc_about_74 rfl rfl ?_
            refine a_calli (rest := []) (a_runV (As := [.int i2, .int i3]) fx cv_Tr_tell w_1237 (Met_Tr_tell l B D aC aS (hk0 := hk_w0) (ht0 := ht_w0) h) hk_w0 ht_w0 (by decide) rfl rfl rfl (Nat.le_of_ble_eq_true rfl) rfl rfl ⟨Nat.le_of_ble_eq_true rfl, Nat.le_of_ble_eq_true rfl⟩ d_Mc_about_75 ⟨Nat.le_of_ble_eq_true rfl, Nat.le_of_ble_eq_true rfl⟩) (fun x5 M4 h => ?_)
            refine a_widen (mc := 1) (ms := 6) (by decide) (by decide) ?_
            exact a_iretT fx hlo hr h d_Mc_about_78
          · have h := h.2 hc
            exact a_throw fx hfl hlo hno 4 (by decide) (by decide) w_1102 w_1103 w_18 (by decide +kernel) oa_4_149 (Nat.le_of_ble_eq_true rfl) (Nat.le_of_ble_eq_true rfl) (Nat.le_of_ble_eq_true rfl) (Nat.le_of_ble_eq_true rfl) d_Mc_about_63 d_Mc_about_66 d_Mc_about_67 d_Mc_about_70 h
    · have h := h.2 hc
      refine a_aload fx 0 d_Mc_about_38 rfl ?_
      refine a_getIN fx (T := F_Tr) (j := 2) (hk := hk_w0) (ht := ht_w0) (ht2 := by decide) (hc := rfl) (hin := u_in_Tr) (hj := by decide) (hj2 := by decide) (hf := rfl) (hT := rfl) (q9 := 35) (hw := rfl) (hd := d_Mc_about_40) (kk := ?_)
      refine a_widen (mc := 1) (ms := 6) (by decide) (by decide) ?_
      exact a_iretT fx hlo hr h d_Mc_about_43)
  refine a_iload_n fx 1 d_Mc_about_0 rfl rfl ?_
  refine a_if_eq fx 17 d_Mc_about_1 rfl (fun hc => ?_) (fun hc => ?_)
  · have h := h.1 hc
    refine a_sub [0, 1, 2, 3] rfl ?_
    exact h
  · have h := h.2 hc
    refine a_iload_n fx 1 d_Mc_about_4 rfl rfl ?_
    refine a_iconst (v := 1) fx d_Mc_about_5 rfl ?_
    refine a_icmp_eq fx 17 d_Mc_about_6 rfl (fun hc => ?_) (fun hc => ?_)
    · have h := h.1 hc
      refine a_sub [0, 1, 2, 3] rfl ?_
      exact h
    · have h := h.2 hc
      exact a_throw fx hfl hlo hno 1 (by decide) (by decide) w_1051 w_598 w_15 (by decide +kernel) oa_1_83 (Nat.le_of_ble_eq_true rfl) (Nat.le_of_ble_eq_true rfl) (Nat.le_of_ble_eq_true rfl) (Nat.le_of_ble_eq_true rfl) d_Mc_about_9 d_Mc_about_12 d_Mc_about_13 d_Mc_about_16 h
set_option maxRecDepth 100000 in
set_option maxHeartbeats 4000000 in
theorem Met_Mc_byteOf (l : Launch) (B : Nat) (D : va_G) (aC : Nat → ClassId) (aS : Nat → Nat) (hfl : l.flags = pinnedFlags ++ [noTraceFlag]) {a0 : Nat} {i1 : Int32} {i2 : Int32} {i3 : Int32} {M : zM} {post : Option Value → zM → Prop} {postT : Nat → zM → Prop} (hk0 : a0 < N0) (ht0 : tg a0 = 0) (h : Wp_Mc_byteOf a0 i1 i2 i3 M post postT) : MetT l y_Mc_byteOf (wo y_Mc_byteOf b_Mc_byteOf 5 (some FieldType.int)) { frames := 6, cells := 1, slots := 6, locals := 120 } (va_Pc [.ref (B + a0), .int i1, .int i2, .int i3] (zWl B D aC aS M)) (zQT B D aC post postT) 1 6 (zAb B) := by
  refine z_metT (own := "MailChain") (lv0 := [(0, .ref (B + a0)), (1, .int i1), (2, .int i2), (3, .int i3)]) (by decide) rfl (Nat.le_of_ble_eq_true rfl) rfl ?_
  intro p e s m below meth c fx hr hlo hno
  delta Wp_Mc_byteOf at h
  have h := h (fun M => zAt p l e { frames := 6, cells := 1, slots := 6, locals := 120 } s m ([.ref (B + a0), .int i1, .int i2, .int i3] : List Value).toArray below meth c 0 0 (MQT below (zQT B D aC post postT) ([.ref (B + a0), .int i1, .int i2, .int i3] : List Value).toArray s 1 6 (zAb B)) B D aC 5 17 [(0, .ref (B + a0)), (1, .int i1), (2, .int i2), (3, .int i3)] [] M)
  have h := h (fun w0 M => zAt p l e { frames := 6, cells := 1, slots := 6, locals := 120 } s m ([.ref (B + a0), .int i1, .int i2, .int i3] : List Value).toArray below meth c 0 0 (MQT below (zQT B D aC post postT) ([.ref (B + a0), .int i1, .int i2, .int i3] : List Value).toArray s 1 6 (zAb B)) B D aC 5 32 [(0, .ref (B + a0)), (1, .int i1), (2, .int i2), (3, .int i3)] [.ref (B + w0)] M)
  have h := h (by
    intro M h
    refine a_iload_n fx 1 d_Mc_byteOf_17 rfl rfl ?_
    refine a_if_ne fx 28 d_Mc_byteOf_18 rfl (fun hc => ?_) (fun hc => ?_)
    · have h := h.1 hc
      refine a_aload_n fx 0 d_Mc_byteOf_28 rfl rfl ?_
      refine a_getR fx (T := F_Mc) (j := 2) (hk := hk0) (ht := ht0) (ht2 := by decide) (hc := rfl) (hin := u_in_Mc) (hj := by decide) (hj2 := by decide) (hf := rfl) (hT := rfl) (hw := w_306) (hd := d_Mc_byteOf_29) (kk := ?_)
      refine a_topr (fun r1 er1 => ?_)
      obtain ⟨hkr1, htr1, h⟩ := h r1 er1
      refine a_sub [0, 1, 2, 3] rfl ?_
      exact h
    · have h := h.2 hc
      refine a_aload_n fx 0 d_Mc_byteOf_21 rfl rfl ?_
      refine a_getS fx (T := F_Mc) (j := 1) (hk := hk0) (ht := ht0) (ht2 := by decide) (hc := rfl) (hin := u_in_Mc) (hj := by decide) (hj2 := by decide) (hf := rfl) (n9 := 3) (hfo := rfl) (hT := rfl) (hw := w_305) (hd := d_Mc_byteOf_22) (kk := ?_)
      refine a_goto fx 32 d_Mc_byteOf_25 rfl ?_
      refine a_sub [0, 1, 2, 3] rfl ?_
      exact h)
  have h := h (by
    intro w0 M h
    obtain ⟨hk_w0, ht_w0, h⟩ := h
    refine a_astore (lv2 := [(4, .ref (B + w0)), (0, .ref (B + a0)), (1, .int i1), (2, .int i2), (3, .int i3)]) fx d_Mc_byteOf_32 (by decide) rfl ?_
    refine a_aload fx 0 d_Mc_byteOf_34 rfl ?_
    refine a_iload_n fx 3 d_Mc_byteOf_36 rfl rfl ?_
    refine a_calli (rest := []) (a_runV (As := [.int i2]) fx cv_Tr_has w_1140 (Met_Tr_has l B D aC aS (hk0 := hk_w0) (ht0 := ht_w0) h) hk_w0 ht_w0 (by decide) rfl rfl rfl (Nat.le_of_ble_eq_true rfl) rfl rfl ⟨Nat.le_of_ble_eq_true rfl, Nat.le_of_ble_eq_true rfl⟩ d_Mc_byteOf_37 ⟨Nat.le_of_ble_eq_true rfl, Nat.le_of_ble_eq_true rfl⟩) (fun x3 M2 h => ?_)
    refine a_if_eq fx 53 d_Mc_byteOf_40 rfl (fun hc => ?_) (fun hc => ?_)
    · have h := h.1 hc
      exact a_throw fx hfl hlo hno 4 (by decide) (by decide) w_1102 w_1103 w_18 (by decide +kernel) oa_4_149 (Nat.le_of_ble_eq_true rfl) (Nat.le_of_ble_eq_true rfl) (Nat.le_of_ble_eq_true rfl) (Nat.le_of_ble_eq_true rfl) d_Mc_byteOf_53 d_Mc_byteOf_56 d_Mc_byteOf_57 d_Mc_byteOf_60 h
    · have h := h.2 hc
      refine a_aload fx 0 d_Mc_byteOf_43 rfl ?_
      refine a_iload_n fx 3 d_Mc_byteOf_45 rfl rfl ?_
      refine a_iload_n fx 4 d_Mc_byteOf_46 rfl rfl ?_
      refine a_calli (rest := []) (a_runV (As := [.int i2, .int i3]) fx cv_Tr_hasByte w_1250 (Met_Tr_hasByte l B D aC aS (hk0 := hk_w0) (ht0 := ht_w0) h) hk_w0 ht_w0 (by decide) rfl rfl rfl (Nat.le_of_ble_eq_true rfl) rfl rfl ⟨Nat.le_of_ble_eq_true rfl, Nat.le_of_ble_eq_true rfl⟩ d_Mc_byteOf_47 ⟨Nat.le_of_ble_eq_true rfl, Nat.le_of_ble_eq_true rfl⟩) (fun x5 M4 h => ?_)
      refine a_if_ne fx 61 d_Mc_byteOf_50 rfl (fun hc => ?_) (fun hc => ?_)
      · have h := h.1 hc
        refine a_aload fx 0 d_Mc_byteOf_61 rfl ?_
        refine a_iload_n fx 3 d_Mc_byteOf_63 rfl rfl ?_
        refine a_iload_n fx 4 d_Mc_byteOf_64 rfl rfl ?_
        refine a_calli (rest := []) (a_runV (As := [.int i2, .int i3]) fx cv_Tr_byteAt w_1254 (Met_Tr_byteAt l B D aC aS (hk0 := hk_w0) (ht0 := ht_w0) h) hk_w0 ht_w0 (by decide) rfl rfl rfl (Nat.le_of_ble_eq_true rfl) rfl rfl ⟨Nat.le_of_ble_eq_true rfl, Nat.le_of_ble_eq_true rfl⟩ d_Mc_byteOf_65 ⟨Nat.le_of_ble_eq_true rfl, Nat.le_of_ble_eq_true rfl⟩) (fun x7 M6 h => ?_)
        refine a_widen (mc := 1) (ms := 6) (by decide) (by decide) ?_
        exact a_iretT fx hlo hr h d_Mc_byteOf_68
      · have h := h.2 hc
        exact a_throw fx hfl hlo hno 4 (by decide) (by decide) w_1102 w_1103 w_18 (by decide +kernel) oa_4_149 (Nat.le_of_ble_eq_true rfl) (Nat.le_of_ble_eq_true rfl) (Nat.le_of_ble_eq_true rfl) (Nat.le_of_ble_eq_true rfl) d_Mc_byteOf_53 d_Mc_byteOf_56 d_Mc_byteOf_57 d_Mc_byteOf_60 h)
  refine a_iload_n fx 1 d_Mc_byteOf_0 rfl rfl ?_
  refine a_if_eq fx 17 d_Mc_byteOf_1 rfl (fun hc => ?_) (fun hc => ?_)
  · have h := h.1 hc
    refine a_sub [0, 1, 2, 3] rfl ?_
    exact h
  · have h := h.2 hc
    refine a_iload_n fx 1 d_Mc_byteOf_4 rfl rfl ?_
    refine a_iconst (v := 1) fx d_Mc_byteOf_5 rfl ?_
    refine a_icmp_eq fx 17 d_Mc_byteOf_6 rfl (fun hc => ?_) (fun hc => ?_)
    · have h := h.1 hc
      refine a_sub [0, 1, 2, 3] rfl ?_
      exact h
    · have h := h.2 hc
      exact a_throw fx hfl hlo hno 1 (by decide) (by decide) w_1051 w_598 w_15 (by decide +kernel) oa_1_83 (Nat.le_of_ble_eq_true rfl) (Nat.le_of_ble_eq_true rfl) (Nat.le_of_ble_eq_true rfl) (Nat.le_of_ble_eq_true rfl) d_Mc_byteOf_9 d_Mc_byteOf_12 d_Mc_byteOf_13 d_Mc_byteOf_16 h
