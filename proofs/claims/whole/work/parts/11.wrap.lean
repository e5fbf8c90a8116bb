/-- MailChainLaw.type(LMailChain;JI[J)I -/
def Wp_La_type (a0 : Nat) (l1 : Int64) (i3 : Int32) (a4 : Nat) (M : zM) (post : Int32 → zM → Prop) : Prop := (Wp_Mc_type a0 l1 i3 M (fun vv M1 => ∃ x2 : Int32, vv = some (.int x2) ∧ (vp_in (0 : Int32) (ln a4) ∧ (∀ M3 : zM, M3 = zL M1 a4 ((0 : Int32)).toNatClampNeg ((x2).toInt64) → (post 0 M3)))) (fun j M1 => (j = 1 ∧ (post 1 M1)) ∨ (j = 2 ∧ (post 2 M1))))
/-- MailChainLaw.again(LMailChain;I[J)I -/
def Wp_La_again (a0 : Nat) (i1 : Int32) (a2 : Nat) (M : zM) (post : Int32 → zM → Prop) : Prop := (Wp_Mc_again a0 i1 M (fun vv M1 => ∃ x2 : Int32, vv = some (.int x2) ∧ (vp_in (0 : Int32) (ln a2) ∧ (∀ M3 : zM, M3 = zL M1 a2 ((0 : Int32)).toNatClampNeg ((x2).toInt64) → (post 0 M3)))) (fun j M1 => (j = 1 ∧ (post 1 M1)) ∨ (j = 2 ∧ (post 2 M1))))
/-- MailChainLaw.add(LMailChain;IIIIII[J)I -/
def Wp_La_add (a0 : Nat) (i1 : Int32) (i2 : Int32) (i3 : Int32) (i4 : Int32) (i5 : Int32) (i6 : Int32) (a7 : Nat) (M : zM) (post : Int32 → zM → Prop) : Prop := (Wp_Mc_add a0 i1 i2 i3 i4 i5 i6 M (fun vv M1 => ∃ x2 : Int32, vv = some (.int x2) ∧ (vp_in (0 : Int32) (ln a7) ∧ (∀ M3 : zM, M3 = zL M1 a7 ((0 : Int32)).toNatClampNeg ((x2).toInt64) → (post 0 M3)))) (fun j M1 => (j = 1 ∧ (post 1 M1)) ∨ (j = 3 ∧ (post 2 M1)) ∨ (j = 2 ∧ (post 3 M1))))
/-- MailChainLaw.link(LMailChain;I[J)I -/
def Wp_La_link (a0 : Nat) (i1 : Int32) (a2 : Nat) (M : zM) (post : Int32 → zM → Prop) : Prop := (Wp_Mc_link a0 i1 M (fun vv M1 => ∃ x2 : Int32, vv = some (.int x2) ∧ (vp_in (0 : Int32) (ln a2) ∧ (∀ M3 : zM, M3 = zL M1 a2 ((0 : Int32)).toNatClampNeg ((x2).toInt64) → (post 0 M3)))) (fun j M1 => (j = 4 ∧ (post 1 M1)) ∨ (j = 1 ∧ (post 2 M1)) ∨ (j = 3 ∧ (post 3 M1)) ∨ (j = 2 ∧ (post 4 M1))))
/-- MailChainLaw.pack(LMailChain;II[J)I -/
def Wp_La_pack (a0 : Nat) (i1 : Int32) (i2 : Int32) (a3 : Nat) (M : zM) (post : Int32 → zM → Prop) : Prop := (Wp_Mc_pack a0 i1 i2 M (fun vv M1 => ∃ x2 : Int32, vv = some (.int x2) ∧ (vp_in (0 : Int32) (ln a3) ∧ (∀ M3 : zM, M3 = zL M1 a3 ((0 : Int32)).toNatClampNeg ((x2).toInt64) → (post 0 M3)))) (fun j M1 => (j = 1 ∧ (post 1 M1))))
/-- MailChainLaw.part(LMailChain;II[J)I -/
def Wp_La_part (a0 : Nat) (i1 : Int32) (i2 : Int32) (a3 : Nat) (M : zM) (post : Int32 → zM → Prop) : Prop := (Wp_Mc_part a0 i1 i2 M (fun vv M1 => ∃ x2 : Int32, vv = some (.int x2) ∧ (vp_in (0 : Int32) (ln a3) ∧ (∀ M3 : zM, M3 = zL M1 a3 ((0 : Int32)).toNatClampNeg ((x2).toInt64) → (post 0 M3)))) (fun j M1 => (j = 4 ∧ (post 1 M1))))
/-- MailChainLaw.stage(LMailChain;II[J)I -/
def Wp_La_stage (a0 : Nat) (i1 : Int32) (i2 : Int32) (a3 : Nat) (M : zM) (post : Int32 → zM → Prop) : Prop := (Wp_Mc_stage a0 i1 i2 M (fun vv M1 => ∃ x2 : Int32, vv = some (.int x2) ∧ (vp_in (0 : Int32) (ln a3) ∧ (∀ M3 : zM, M3 = zL M1 a3 ((0 : Int32)).toNatClampNeg ((x2).toInt64) → (post 0 M3)))) (fun j M1 => (j = 1 ∧ (post 1 M1))))
/-- MailChainLaw.pass(LMailChain;III[J)I -/
def Wp_La_pass (a0 : Nat) (i1 : Int32) (i2 : Int32) (i3 : Int32) (a4 : Nat) (M : zM) (post : Int32 → zM → Prop) : Prop := (Wp_Mc_pass a0 i1 i2 i3 M (fun vv M1 => ∃ x2 : Int32, vv = some (.int x2) ∧ (vp_in (0 : Int32) (ln a4) ∧ (∀ M3 : zM, M3 = zL M1 a4 ((0 : Int32)).toNatClampNeg ((x2).toInt64) → (post 0 M3)))) (fun j M1 => (j = 4 ∧ (post 1 M1)) ∨ (j = 1 ∧ (post 2 M1))))
/-- MailChainLaw.forge(LMailChain;II)I -/
def Wp_La_forge (a0 : Nat) (i1 : Int32) (i2 : Int32) (M : zM) (post : Int32 → zM → Prop) : Prop := (Wp_Mc_forge a0 i1 i2 M (fun vv M1 => vv = none ∧ (post 0 M1)) (fun j M1 => (j = 1 ∧ (post 1 M1))))
/-- MailChainLaw.about(LMailChain;III[J)I -/
def Wp_La_about (a0 : Nat) (i1 : Int32) (i2 : Int32) (i3 : Int32) (a4 : Nat) (M : zM) (post : Int32 → zM → Prop) : Prop := (Wp_Mc_about a0 i1 i2 i3 M (fun vv M1 => ∃ x2 : Int32, vv = some (.int x2) ∧ (vp_in (0 : Int32) (ln a4) ∧ (∀ M3 : zM, M3 = zL M1 a4 ((0 : Int32)).toNatClampNeg ((x2).toInt64) → (post 0 M3)))) (fun j M1 => (j = 1 ∧ (post 1 M1)) ∨ (j = 4 ∧ (post 2 M1))))
/-- MailChainLaw.byteOf(LMailChain;III[J)I -/
def Wp_La_byteOf (a0 : Nat) (i1 : Int32) (i2 : Int32) (i3 : Int32) (a4 : Nat) (M : zM) (post : Int32 → zM → Prop) : Prop := (Wp_Mc_byteOf a0 i1 i2 i3 M (fun vv M1 => ∃ x2 : Int32, vv = some (.int x2) ∧ (vp_in (0 : Int32) (ln a4) ∧ (∀ M3 : zM, M3 = zL M1 a4 ((0 : Int32)).toNatClampNeg ((x2).toInt64) → (post 0 M3)))) (fun j M1 => (j = 1 ∧ (post 1 M1)) ∨ (j = 4 ∧ (post 2 M1))))
theorem d_La_type_0 : decode b_La_type 0 = .ok (.aload 4, 2) := by decide +kernel
theorem d_La_type_2 : decode b_La_type 2 = .ok (.iconst 0, 1) := by decide +kernel
theorem d_La_type_3 : decode b_La_type 3 = .ok (.aload_n 0, 1) := by decide +kernel
theorem d_La_type_4 : decode b_La_type 4 = .ok (.lload_n 1, 1) := by decide +kernel
theorem d_La_type_5 : decode b_La_type 5 = .ok (.iload_n 3, 1) := by decide +kernel
theorem d_La_type_6 : decode b_La_type 6 = .ok (.invokevirtual 7, 3) := by decide +kernel
theorem d_La_type_9 : decode b_La_type 9 = .ok (.i2l, 1) := by decide +kernel
theorem d_La_type_10 : decode b_La_type 10 = .ok (.lastore, 1) := by decide +kernel
theorem d_La_type_11 : decode b_La_type 11 = .ok (.goto 11, 3) := by decide +kernel
theorem d_La_type_14 : decode b_La_type 14 = .ok (.astore 5, 2) := by decide +kernel
theorem d_La_type_16 : decode b_La_type 16 = .ok (.iconst 1, 1) := by decide +kernel
theorem d_La_type_17 : decode b_La_type 17 = .ok (.ireturn, 1) := by decide +kernel
theorem d_La_type_18 : decode b_La_type 18 = .ok (.astore 5, 2) := by decide +kernel
theorem d_La_type_20 : decode b_La_type 20 = .ok (.iconst 2, 1) := by decide +kernel
theorem d_La_type_21 : decode b_La_type 21 = .ok (.ireturn, 1) := by decide +kernel
theorem d_La_type_22 : decode b_La_type 22 = .ok (.iconst 0, 1) := by decide +kernel
theorem d_La_type_23 : decode b_La_type 23 = .ok (.ireturn, 1) := by decide +kernel
theorem d_La_again_0 : decode b_La_again 0 = .ok (.aload_n 2, 1) := by decide +kernel
theorem d_La_again_1 : decode b_La_again 1 = .ok (.iconst 0, 1) := by decide +kernel
theorem d_La_again_2 : decode b_La_again 2 = .ok (.aload_n 0, 1) := by decide +kernel
theorem d_La_again_3 : decode b_La_again 3 = .ok (.iload_n 1, 1) := by decide +kernel
theorem d_La_again_4 : decode b_La_again 4 = .ok (.invokevirtual 17, 3) := by decide +kernel
theorem d_La_again_7 : decode b_La_again 7 = .ok (.i2l, 1) := by decide +kernel
theorem d_La_again_8 : decode b_La_again 8 = .ok (.lastore, 1) := by decide +kernel
theorem d_La_again_9 : decode b_La_again 9 = .ok (.goto 9, 3) := by decide +kernel
theorem d_La_again_12 : decode b_La_again 12 = .ok (.astore_n 3, 1) := by decide +kernel
theorem d_La_again_13 : decode b_La_again 13 = .ok (.iconst 1, 1) := by decide +kernel
theorem d_La_again_14 : decode b_La_again 14 = .ok (.ireturn, 1) := by decide +kernel
theorem d_La_again_15 : decode b_La_again 15 = .ok (.astore_n 3, 1) := by decide +kernel
theorem d_La_again_16 : decode b_La_again 16 = .ok (.iconst 2, 1) := by decide +kernel
theorem d_La_again_17 : decode b_La_again 17 = .ok (.ireturn, 1) := by decide +kernel
theorem d_La_again_18 : decode b_La_again 18 = .ok (.iconst 0, 1) := by decide +kernel
theorem d_La_again_19 : decode b_La_again 19 = .ok (.ireturn, 1) := by decide +kernel
theorem d_La_add_0 : decode b_La_add 0 = .ok (.aload 7, 2) := by decide +kernel
theorem d_La_add_2 : decode b_La_add 2 = .ok (.iconst 0, 1) := by decide +kernel
theorem d_La_add_3 : decode b_La_add 3 = .ok (.aload_n 0, 1) := by decide +kernel
theorem d_La_add_4 : decode b_La_add 4 = .ok (.iload_n 1, 1) := by decide +kernel
theorem d_La_add_5 : decode b_La_add 5 = .ok (.iload_n 2, 1) := by decide +kernel
theorem d_La_add_6 : decode b_La_add 6 = .ok (.iload_n 3, 1) := by decide +kernel
theorem d_La_add_7 : decode b_La_add 7 = .ok (.iload 4, 2) := by decide +kernel
theorem d_La_add_9 : decode b_La_add 9 = .ok (.iload 5, 2) := by decide +kernel
theorem d_La_add_11 : decode b_La_add 11 = .ok (.iload 6, 2) := by decide +kernel
theorem d_La_add_13 : decode b_La_add 13 = .ok (.invokevirtual 21, 3) := by decide +kernel
theorem d_La_add_16 : decode b_La_add 16 = .ok (.i2l, 1) := by decide +kernel
theorem d_La_add_17 : decode b_La_add 17 = .ok (.lastore, 1) := by decide +kernel
theorem d_La_add_18 : decode b_La_add 18 = .ok (.goto 15, 3) := by decide +kernel
theorem d_La_add_21 : decode b_La_add 21 = .ok (.astore 8, 2) := by decide +kernel
theorem d_La_add_23 : decode b_La_add 23 = .ok (.iconst 1, 1) := by decide +kernel
theorem d_La_add_24 : decode b_La_add 24 = .ok (.ireturn, 1) := by decide +kernel
theorem d_La_add_25 : decode b_La_add 25 = .ok (.astore 8, 2) := by decide +kernel
theorem d_La_add_27 : decode b_La_add 27 = .ok (.iconst 2, 1) := by decide +kernel
theorem d_La_add_28 : decode b_La_add 28 = .ok (.ireturn, 1) := by decide +kernel
theorem d_La_add_29 : decode b_La_add 29 = .ok (.astore 8, 2) := by decide +kernel
theorem d_La_add_31 : decode b_La_add 31 = .ok (.iconst 3, 1) := by decide +kernel
theorem d_La_add_32 : decode b_La_add 32 = .ok (.ireturn, 1) := by decide +kernel
theorem d_La_add_33 : decode b_La_add 33 = .ok (.iconst 0, 1) := by decide +kernel
theorem d_La_add_34 : decode b_La_add 34 = .ok (.ireturn, 1) := by decide +kernel
theorem d_La_link_0 : decode b_La_link 0 = .ok (.aload_n 2, 1) := by decide +kernel
theorem d_La_link_1 : decode b_La_link 1 = .ok (.iconst 0, 1) := by decide +kernel
theorem d_La_link_2 : decode b_La_link 2 = .ok (.aload_n 0, 1) := by decide +kernel
theorem d_La_link_3 : decode b_La_link 3 = .ok (.iload_n 1, 1) := by decide +kernel
theorem d_La_link_4 : decode b_La_link 4 = .ok (.invokevirtual 27, 3) := by decide +kernel
theorem d_La_link_7 : decode b_La_link 7 = .ok (.i2l, 1) := by decide +kernel
theorem d_La_link_8 : decode b_La_link 8 = .ok (.lastore, 1) := by decide +kernel
theorem d_La_link_9 : decode b_La_link 9 = .ok (.goto 15, 3) := by decide +kernel
theorem d_La_link_12 : decode b_La_link 12 = .ok (.astore_n 3, 1) := by decide +kernel
theorem d_La_link_13 : decode b_La_link 13 = .ok (.iconst 1, 1) := by decide +kernel
theorem d_La_link_14 : decode b_La_link 14 = .ok (.ireturn, 1) := by decide +kernel
theorem d_La_link_15 : decode b_La_link 15 = .ok (.astore_n 3, 1) := by decide +kernel
theorem d_La_link_16 : decode b_La_link 16 = .ok (.iconst 2, 1) := by decide +kernel
theorem d_La_link_17 : decode b_La_link 17 = .ok (.ireturn, 1) := by decide +kernel
theorem d_La_link_18 : decode b_La_link 18 = .ok (.astore_n 3, 1) := by decide +kernel
theorem d_La_link_19 : decode b_La_link 19 = .ok (.iconst 3, 1) := by decide +kernel
theorem d_La_link_20 : decode b_La_link 20 = .ok (.ireturn, 1) := by decide +kernel
theorem d_La_link_21 : decode b_La_link 21 = .ok (.astore_n 3, 1) := by decide +kernel
theorem d_La_link_22 : decode b_La_link 22 = .ok (.iconst 4, 1) := by decide +kernel
theorem d_La_link_23 : decode b_La_link 23 = .ok (.ireturn, 1) := by decide +kernel
theorem d_La_link_24 : decode b_La_link 24 = .ok (.iconst 0, 1) := by decide +kernel
theorem d_La_link_25 : decode b_La_link 25 = .ok (.ireturn, 1) := by decide +kernel
theorem d_La_pack_0 : decode b_La_pack 0 = .ok (.aload_n 3, 1) := by decide +kernel
theorem d_La_pack_1 : decode b_La_pack 1 = .ok (.iconst 0, 1) := by decide +kernel
theorem d_La_pack_2 : decode b_La_pack 2 = .ok (.aload_n 0, 1) := by decide +kernel
theorem d_La_pack_3 : decode b_La_pack 3 = .ok (.iload_n 1, 1) := by decide +kernel
theorem d_La_pack_4 : decode b_La_pack 4 = .ok (.iload_n 2, 1) := by decide +kernel
theorem d_La_pack_5 : decode b_La_pack 5 = .ok (.invokevirtual 32, 3) := by decide +kernel
theorem d_La_pack_8 : decode b_La_pack 8 = .ok (.i2l, 1) := by decide +kernel
theorem d_La_pack_9 : decode b_La_pack 9 = .ok (.lastore, 1) := by decide +kernel
theorem d_La_pack_10 : decode b_La_pack 10 = .ok (.goto 7, 3) := by decide +kernel
theorem d_La_pack_13 : decode b_La_pack 13 = .ok (.astore 4, 2) := by decide +kernel
theorem d_La_pack_15 : decode b_La_pack 15 = .ok (.iconst 1, 1) := by decide +kernel
theorem d_La_pack_16 : decode b_La_pack 16 = .ok (.ireturn, 1) := by decide +kernel
theorem d_La_pack_17 : decode b_La_pack 17 = .ok (.iconst 0, 1) := by decide +kernel
theorem d_La_pack_18 : decode b_La_pack 18 = .ok (.ireturn, 1) := by decide +kernel
theorem d_La_part_0 : decode b_La_part 0 = .ok (.aload_n 3, 1) := by decide +kernel
theorem d_La_part_1 : decode b_La_part 1 = .ok (.iconst 0, 1) := by decide +kernel
theorem d_La_part_2 : decode b_La_part 2 = .ok (.aload_n 0, 1) := by decide +kernel
theorem d_La_part_3 : decode b_La_part 3 = .ok (.iload_n 1, 1) := by decide +kernel
theorem d_La_part_4 : decode b_La_part 4 = .ok (.iload_n 2, 1) := by decide +kernel
theorem d_La_part_5 : decode b_La_part 5 = .ok (.invokevirtual 36, 3) := by decide +kernel
theorem d_La_part_8 : decode b_La_part 8 = .ok (.i2l, 1) := by decide +kernel
theorem d_La_part_9 : decode b_La_part 9 = .ok (.lastore, 1) := by decide +kernel
theorem d_La_part_10 : decode b_La_part 10 = .ok (.goto 7, 3) := by decide +kernel
theorem d_La_part_13 : decode b_La_part 13 = .ok (.astore 4, 2) := by decide +kernel
theorem d_La_part_15 : decode b_La_part 15 = .ok (.iconst 1, 1) := by decide +kernel
theorem d_La_part_16 : decode b_La_part 16 = .ok (.ireturn, 1) := by decide +kernel
theorem d_La_part_17 : decode b_La_part 17 = .ok (.iconst 0, 1) := by decide +kernel
theorem d_La_part_18 : decode b_La_part 18 = .ok (.ireturn, 1) := by decide +kernel
theorem d_La_stage_0 : decode b_La_stage 0 = .ok (.aload_n 3, 1) := by decide +kernel
theorem d_La_stage_1 : decode b_La_stage 1 = .ok (.iconst 0, 1) := by decide +kernel
theorem d_La_stage_2 : decode b_La_stage 2 = .ok (.aload_n 0, 1) := by decide +kernel
theorem d_La_stage_3 : decode b_La_stage 3 = .ok (.iload_n 1, 1) := by decide +kernel
theorem d_La_stage_4 : decode b_La_stage 4 = .ok (.iload_n 2, 1) := by decide +kernel
theorem d_La_stage_5 : decode b_La_stage 5 = .ok (.invokevirtual 39, 3) := by decide +kernel
theorem d_La_stage_8 : decode b_La_stage 8 = .ok (.i2l, 1) := by decide +kernel
theorem d_La_stage_9 : decode b_La_stage 9 = .ok (.lastore, 1) := by decide +kernel
theorem d_La_stage_10 : decode b_La_stage 10 = .ok (.goto 7, 3) := by decide +kernel
theorem d_La_stage_13 : decode b_La_stage 13 = .ok (.astore 4, 2) := by decide +kernel
theorem d_La_stage_15 : decode b_La_stage 15 = .ok (.iconst 1, 1) := by decide +kernel
theorem d_La_stage_16 : decode b_La_stage 16 = .ok (.ireturn, 1) := by decide +kernel
theorem d_La_stage_17 : decode b_La_stage 17 = .ok (.iconst 0, 1) := by decide +kernel
theorem d_La_stage_18 : decode b_La_stage 18 = .ok (.ireturn, 1) := by decide +kernel
theorem d_La_pass_0 : decode b_La_pass 0 = .ok (.aload 4, 2) := by decide +kernel
theorem d_La_pass_2 : decode b_La_pass 2 = .ok (.iconst 0, 1) := by decide +kernel
theorem d_La_pass_3 : decode b_La_pass 3 = .ok (.aload_n 0, 1) := by decide +kernel
theorem d_La_pass_4 : decode b_La_pass 4 = .ok (.iload_n 1, 1) := by decide +kernel
theorem d_La_pass_5 : decode b_La_pass 5 = .ok (.iload_n 2, 1) := by decide +kernel
theorem d_La_pass_6 : decode b_La_pass 6 = .ok (.iload_n 3, 1) := by decide +kernel
theorem d_La_pass_7 : decode b_La_pass 7 = .ok (.invokevirtual 42, 3) := by decide +kernel
theorem d_La_pass_10 : decode b_La_pass 10 = .ok (.i2l, 1) := by decide +kernel
theorem d_La_pass_11 : decode b_La_pass 11 = .ok (.lastore, 1) := by decide +kernel
theorem d_La_pass_12 : decode b_La_pass 12 = .ok (.goto 11, 3) := by decide +kernel
theorem d_La_pass_15 : decode b_La_pass 15 = .ok (.astore 5, 2) := by decide +kernel
theorem d_La_pass_17 : decode b_La_pass 17 = .ok (.iconst 1, 1) := by decide +kernel
theorem d_La_pass_18 : decode b_La_pass 18 = .ok (.ireturn, 1) := by decide +kernel
theorem d_La_pass_19 : decode b_La_pass 19 = .ok (.astore 5, 2) := by decide +kernel
theorem d_La_pass_21 : decode b_La_pass 21 = .ok (.iconst 2, 1) := by decide +kernel
theorem d_La_pass_22 : decode b_La_pass 22 = .ok (.ireturn, 1) := by decide +kernel
theorem d_La_pass_23 : decode b_La_pass 23 = .ok (.iconst 0, 1) := by decide +kernel
theorem d_La_pass_24 : decode b_La_pass 24 = .ok (.ireturn, 1) := by decide +kernel
theorem d_La_forge_0 : decode b_La_forge 0 = .ok (.aload_n 0, 1) := by decide +kernel
theorem d_La_forge_1 : decode b_La_forge 1 = .ok (.iload_n 1, 1) := by decide +kernel
theorem d_La_forge_2 : decode b_La_forge 2 = .ok (.iload_n 2, 1) := by decide +kernel
theorem d_La_forge_3 : decode b_La_forge 3 = .ok (.invokevirtual 46, 3) := by decide +kernel
theorem d_La_forge_6 : decode b_La_forge 6 = .ok (.goto 6, 3) := by decide +kernel
theorem d_La_forge_9 : decode b_La_forge 9 = .ok (.astore_n 3, 1) := by decide +kernel
theorem d_La_forge_10 : decode b_La_forge 10 = .ok (.iconst 1, 1) := by decide +kernel
theorem d_La_forge_11 : decode b_La_forge 11 = .ok (.ireturn, 1) := by decide +kernel
theorem d_La_forge_12 : decode b_La_forge 12 = .ok (.iconst 0, 1) := by decide +kernel
theorem d_La_forge_13 : decode b_La_forge 13 = .ok (.ireturn, 1) := by decide +kernel
theorem d_La_about_0 : decode b_La_about 0 = .ok (.aload 4, 2) := by decide +kernel
theorem d_La_about_2 : decode b_La_about 2 = .ok (.iconst 0, 1) := by decide +kernel
theorem d_La_about_3 : decode b_La_about 3 = .ok (.aload_n 0, 1) := by decide +kernel
theorem d_La_about_4 : decode b_La_about 4 = .ok (.iload_n 1, 1) := by decide +kernel
theorem d_La_about_5 : decode b_La_about 5 = .ok (.iload_n 2, 1) := by decide +kernel
theorem d_La_about_6 : decode b_La_about 6 = .ok (.iload_n 3, 1) := by decide +kernel
theorem d_La_about_7 : decode b_La_about 7 = .ok (.invokevirtual 50, 3) := by decide +kernel
theorem d_La_about_10 : decode b_La_about 10 = .ok (.i2l, 1) := by decide +kernel
theorem d_La_about_11 : decode b_La_about 11 = .ok (.lastore, 1) := by decide +kernel
theorem d_La_about_12 : decode b_La_about 12 = .ok (.goto 11, 3) := by decide +kernel
theorem d_La_about_15 : decode b_La_about 15 = .ok (.astore 5, 2) := by decide +kernel
theorem d_La_about_17 : decode b_La_about 17 = .ok (.iconst 1, 1) := by decide +kernel
theorem d_La_about_18 : decode b_La_about 18 = .ok (.ireturn, 1) := by decide +kernel
theorem d_La_about_19 : decode b_La_about 19 = .ok (.astore 5, 2) := by decide +kernel
theorem d_La_about_21 : decode b_La_about 21 = .ok (.iconst 2, 1) := by decide +kernel
theorem d_La_about_22 : decode b_La_about 22 = .ok (.ireturn, 1) := by decide +kernel
theorem d_La_about_23 : decode b_La_about 23 = .ok (.iconst 0, 1) := by decide +kernel
theorem d_La_about_24 : decode b_La_about 24 = .ok (.ireturn, 1) := by decide +kernel
theorem d_La_byteOf_0 : decode b_La_byteOf 0 = .ok (.aload 4, 2) := by decide +kernel
theorem d_La_byteOf_2 : decode b_La_byteOf 2 = .ok (.iconst 0, 1) := by decide +kernel
theorem d_La_byteOf_3 : decode b_La_byteOf 3 = .ok (.aload_n 0, 1) := by decide +kernel
theorem d_La_byteOf_4 : decode b_La_byteOf 4 = .ok (.iload_n 1, 1) := by decide +kernel
theorem d_La_byteOf_5 : decode b_La_byteOf 5 = .ok (.iload_n 2, 1) := by decide +kernel
theorem d_La_byteOf_6 : decode b_La_byteOf 6 = .ok (.iload_n 3, 1) := by decide +kernel
theorem d_La_byteOf_7 : decode b_La_byteOf 7 = .ok (.invokevirtual 53, 3) := by decide +kernel
theorem d_La_byteOf_10 : decode b_La_byteOf 10 = .ok (.i2l, 1) := by decide +kernel
theorem d_La_byteOf_11 : decode b_La_byteOf 11 = .ok (.lastore, 1) := by decide +kernel
theorem d_La_byteOf_12 : decode b_La_byteOf 12 = .ok (.goto 11, 3) := by decide +kernel
theorem d_La_byteOf_15 : decode b_La_byteOf 15 = .ok (.astore 5, 2) := by decide +kernel
theorem d_La_byteOf_17 : decode b_La_byteOf 17 = .ok (.iconst 1, 1) := by decide +kernel
theorem d_La_byteOf_18 : decode b_La_byteOf 18 = .ok (.ireturn, 1) := by decide +kernel
theorem d_La_byteOf_19 : decode b_La_byteOf 19 = .ok (.astore 5, 2) := by decide +kernel
theorem d_La_byteOf_21 : decode b_La_byteOf 21 = .ok (.iconst 2, 1) := by decide +kernel
theorem d_La_byteOf_22 : decode b_La_byteOf 22 = .ok (.ireturn, 1) := by decide +kernel
theorem d_La_byteOf_23 : decode b_La_byteOf 23 = .ok (.iconst 0, 1) := by decide +kernel
theorem d_La_byteOf_24 : decode b_La_byteOf 24 = .ok (.ireturn, 1) := by decide +kernel
theorem ok_La_type : okHH "MailChainLaw" 6 [(0, 11, 14, 13), (0, 11, 18, 15)] [(14, 1), (18, 2)] := ⟨by decide, by decide, rfl, w_1045, ⟨by decide, by decide, rfl, w_1046, trivial⟩⟩
set_option maxRecDepth 100000 in
set_option maxHeartbeats 4000000 in
theorem Met_La_type (l : Launch) (B : Nat) (D : va_G) (aC : Nat → ClassId) (aS : Nat → Nat) (hfl : l.flags = pinnedFlags ++ [noTraceFlag]) {a0 : Nat} {l1 : Int64} {i3 : Int32} {a4 : Nat} {M : zM} {post : Int32 → zM → Prop} (hk0 : a0 < N0) (ht0 : tg a0 = 0) (hk4 : a4 < N0) (ht4 : tg a4 = 23) (h : Wp_La_type a0 l1 i3 a4 M post) : Met l y_La_type (woW y_La_type b_La_type 6 (some FieldType.int) [(0, 11, 14, 13), (0, 11, 18, 15)]) { frames := 7, cells := 1, slots := 6, locals := 144 } (va_Pc [.ref (B + a0), .long l1, .int i3, .ref (B + a4)] (zWl B D aC aS M)) (zQi B D aC post) 1 6 (zAb B) := by
  refine z_metW (own := "MailChainLaw") (lv0 := [(0, .ref (B + a0)), (1, .long l1), (3, .int i3), (4, .ref (B + a4))]) (by decide) rfl (Nat.le_of_ble_eq_true rfl) rfl ?_
  intro p e s m below meth c fx hr hlo hexc
  delta Wp_La_type at h
  refine a_aload fx 3 d_La_type_0 rfl ?_
  refine a_iconst (v := 0) fx d_La_type_2 rfl ?_
  refine a_aload_n fx 0 d_La_type_3 rfl rfl ?_
  refine a_lload_n fx 1 d_La_type_4 rfl rfl ?_
  refine a_iload_n fx 2 d_La_type_5 rfl rfl ?_
  refine a_callTc (rest := [.int 0, .ref (B + a4)]) fx (a_runVT (As := [.long l1, .int i3]) fx cv_Mc_type w_1047 (Met_Mc_type l B D aC aS hfl (hk0 := hk0) (ht0 := ht0) h) hk0 ht0 (by decide) rfl rfl rfl (Nat.le_of_ble_eq_true rfl) rfl rfl ⟨Nat.le_of_ble_eq_true rfl, Nat.le_of_ble_eq_true rfl⟩ d_La_type_6 ⟨Nat.le_of_ble_eq_true rfl, Nat.le_of_ble_eq_true rfl⟩) (hs := [(14, 1), (18, 2)]) (okH_of _ _ _ hexc ok_La_type) (fun vv M1 h => ?_) (fun j M1 h => ?_)
  · obtain ⟨x2, rfl, h⟩ := h
    refine a_i2l fx d_La_type_9 ?_
    obtain ⟨hin, h⟩ := h
    refine a_last fx hk4 ht4 hin d_La_type_10 (a_mem (fun M3 eM3 => ?_))
    have h := h M3 eM3
    refine a_goto fx 22 d_La_type_11 rfl ?_
    refine a_iconst (v := 0) fx d_La_type_22 rfl ?_
    exact a_iret fx hlo hr h d_La_type_23
  · rcases h with ⟨rfl, h⟩ | ⟨rfl, h⟩
    · refine ⟨14, rfl, fun xE => ?_⟩
      refine a_astore (lv2 := [(5, .ref xE), (0, .ref (B + a0)), (1, .long l1), (3, .int i3), (4, .ref (B + a4))]) fx d_La_type_14 (by decide) rfl ?_
      refine a_iconst (v := 1) fx d_La_type_16 rfl ?_
      exact a_iret fx hlo hr h d_La_type_17
    · refine ⟨18, rfl, fun xE => ?_⟩
      refine a_astore (lv2 := [(5, .ref xE), (0, .ref (B + a0)), (1, .long l1), (3, .int i3), (4, .ref (B + a4))]) fx d_La_type_18 (by decide) rfl ?_
      refine a_iconst (v := 2) fx d_La_type_20 rfl ?_
      exact a_iret fx hlo hr h d_La_type_21
theorem ok_La_again : okHH "MailChainLaw" 4 [(0, 9, 12, 13), (0, 9, 15, 15)] [(12, 1), (15, 2)] := ⟨by decide, by decide, rfl, w_1045, ⟨by decide, by decide, rfl, w_1046, trivial⟩⟩
set_option maxRecDepth 100000 in
set_option maxHeartbeats 4000000 in
theorem Met_La_again (l : Launch) (B : Nat) (D : va_G) (aC : Nat → ClassId) (aS : Nat → Nat) (hfl : l.flags = pinnedFlags ++ [noTraceFlag]) {a0 : Nat} {i1 : Int32} {a2 : Nat} {M : zM} {post : Int32 → zM → Prop} (hk0 : a0 < N0) (ht0 : tg a0 = 0) (hk2 : a2 < N0) (ht2 : tg a2 = 23) (h : Wp_La_again a0 i1 a2 M post) : Met l y_La_again (woW y_La_again b_La_again 4 (some FieldType.int) [(0, 9, 12, 13), (0, 9, 15, 15)]) { frames := 7, cells := 1, slots := 6, locals := 141 } (va_Pc [.ref (B + a0), .int i1, .ref (B + a2)] (zWl B D aC aS M)) (zQi B D aC post) 1 6 (zAb B) := by
  refine z_metW (own := "MailChainLaw") (lv0 := [(0, .ref (B + a0)), (1, .int i1), (2, .ref (B + a2))]) (by decide) rfl (Nat.le_of_ble_eq_true rfl) rfl ?_
  intro p e s m below meth c fx hr hlo hexc
  delta Wp_La_again at h
  refine a_aload_n fx 2 d_La_again_0 rfl rfl ?_
  refine a_iconst (v := 0) fx d_La_again_1 rfl ?_
  refine a_aload_n fx 0 d_La_again_2 rfl rfl ?_
  refine a_iload_n fx 1 d_La_again_3 rfl rfl ?_
  refine a_callTc (rest := [.int 0, .ref (B + a2)]) fx (a_runVT (As := [.int i1]) fx cv_Mc_again w_1082 (Met_Mc_again l B D aC aS hfl (hk0 := hk0) (ht0 := ht0) h) hk0 ht0 (by decide) rfl rfl rfl (Nat.le_of_ble_eq_true rfl) rfl rfl ⟨Nat.le_of_ble_eq_true rfl, Nat.le_of_ble_eq_true rfl⟩ d_La_again_4 ⟨Nat.le_of_ble_eq_true rfl, Nat.le_of_ble_eq_true rfl⟩) (hs := [(12, 1), (15, 2)]) (okH_of _ _ _ hexc ok_La_again) (fun vv M1 h => ?_) (fun j M1 h => ?_)
  · obtain ⟨x2, rfl, h⟩ := h
    refine a_i2l fx d_La_again_7 ?_
    obtain ⟨hin, h⟩ := h
    refine a_last fx hk2 ht2 hin d_La_again_8 (a_mem (fun M3 eM3 => ?_))
    have h := h M3 eM3
    refine a_goto fx 18 d_La_again_9 rfl ?_
    refine a_iconst (v := 0) fx d_La_again_18 rfl ?_
    exact a_iret fx hlo hr h d_La_again_19
  · rcases h with ⟨rfl, h⟩ | ⟨rfl, h⟩
    · refine ⟨12, rfl, fun xE => ?_⟩
      refine a_astore_n (lv2 := [(3, .ref xE), (0, .ref (B + a0)), (1, .int i1), (2, .ref (B + a2))]) fx d_La_again_12 rfl (by decide) rfl ?_
      refine a_iconst (v := 1) fx d_La_again_13 rfl ?_
      exact a_iret fx hlo hr h d_La_again_14
    · refine ⟨15, rfl, fun xE => ?_⟩
      refine a_astore_n (lv2 := [(3, .ref xE), (0, .ref (B + a0)), (1, .int i1), (2, .ref (B + a2))]) fx d_La_again_15 rfl (by decide) rfl ?_
      refine a_iconst (v := 2) fx d_La_again_16 rfl ?_
      exact a_iret fx hlo hr h d_La_again_17
theorem ok_La_add : okHH "MailChainLaw" 13 [(0, 18, 21, 13), (0, 18, 25, 25), (0, 18, 29, 15)] [(21, 1), (25, 3), (29, 2)] := ⟨by decide, by decide, rfl, w_1045, ⟨by decide, by decide, rfl, w_1090, ⟨by decide, by decide, rfl, w_1046, trivial⟩⟩⟩
set_option maxRecDepth 100000 in
set_option maxHeartbeats 4000000 in
theorem Met_La_add (l : Launch) (B : Nat) (D : va_G) (aC : Nat → ClassId) (aS : Nat → Nat) (hfl : l.flags = pinnedFlags ++ [noTraceFlag]) {a0 : Nat} {i1 : Int32} {i2 : Int32} {i3 : Int32} {i4 : Int32} {i5 : Int32} {i6 : Int32} {a7 : Nat} {M : zM} {post : Int32 → zM → Prop} (hk0 : a0 < N0) (ht0 : tg a0 = 0) (hk7 : a7 < N0) (ht7 : tg a7 = 23) (h : Wp_La_add a0 i1 i2 i3 i4 i5 i6 a7 M post) : Met l y_La_add (woW y_La_add b_La_add 9 (some FieldType.int) [(0, 18, 21, 13), (0, 18, 25, 25), (0, 18, 29, 15)]) { frames := 8, cells := 1, slots := 6, locals := 169 } (va_Pc [.ref (B + a0), .int i1, .int i2, .int i3, .int i4, .int i5, .int i6, .ref (B + a7)] (zWl B D aC aS M)) (zQi B D aC post) 1 6 (zAb B) := by
  refine z_metW (own := "MailChainLaw") (lv0 := [(0, .ref (B + a0)), (1, .int i1), (2, .int i2), (3, .int i3), (4, .int i4), (5, .int i5), (6, .int i6), (7, .ref (B + a7))]) (by decide) rfl (Nat.le_of_ble_eq_true rfl) rfl ?_
  intro p e s m below meth c fx hr hlo hexc
  delta Wp_La_add at h
  refine a_aload fx 7 d_La_add_0 rfl ?_
  refine a_iconst (v := 0) fx d_La_add_2 rfl ?_
  refine a_aload_n fx 0 d_La_add_3 rfl rfl ?_
  refine a_iload_n fx 1 d_La_add_4 rfl rfl ?_
  refine a_iload_n fx 2 d_La_add_5 rfl rfl ?_
  refine a_iload_n fx 3 d_La_add_6 rfl rfl ?_
  refine a_iload fx 4 d_La_add_7 rfl ?_
  refine a_iload fx 5 d_La_add_9 rfl ?_
  refine a_iload fx 6 d_La_add_11 rfl ?_
  refine a_callTc (rest := [.int 0, .ref (B + a7)]) fx (a_runVT (As := [.int i1, .int i2, .int i3, .int i4, .int i5, .int i6]) fx cv_Mc_add w_1091 (Met_Mc_add l B D aC aS hfl (hk0 := hk0) (ht0 := ht0) h) hk0 ht0 (by decide) rfl rfl rfl (Nat.le_of_ble_eq_true rfl) rfl rfl ⟨Nat.le_of_ble_eq_true rfl, Nat.le_of_ble_eq_true rfl⟩ d_La_add_13 ⟨Nat.le_of_ble_eq_true rfl, Nat.le_of_ble_eq_true rfl⟩) (hs := [(21, 1), (25, 3), (29, 2)]) (okH_of _ _ _ hexc ok_La_add) (fun vv M1 h => ?_) (fun j M1 h => ?_)
  · obtain ⟨x2, rfl, h⟩ := h
    refine a_i2l fx d_La_add_16 ?_
    obtain ⟨hin, h⟩ := h
    refine a_last fx hk7 ht7 hin d_La_add_17 (a_mem (fun M3 eM3 => ?_))
    have h := h M3 eM3
    refine a_goto fx 33 d_La_add_18 rfl ?_
    refine a_iconst (v := 0) fx d_La_add_33 rfl ?_
    exact a_iret fx hlo hr h d_La_add_34
  · rcases h with ⟨rfl, h⟩ | ⟨rfl, h⟩ | ⟨rfl, h⟩
    · refine ⟨21, rfl, fun xE => ?_⟩
      refine a_astore (lv2 := [(8, .ref xE), (0, .ref (B + a0)), (1, .int i1), (2, .int i2), (3, .int i3), (4, .int i4), (5, .int i5), (6, .int i6), (7, .ref (B + a7))]) fx d_La_add_21 (by decide) rfl ?_
      refine a_iconst (v := 1) fx d_La_add_23 rfl ?_
      exact a_iret fx hlo hr h d_La_add_24
    · refine ⟨25, rfl, fun xE => ?_⟩
      refine a_astore (lv2 := [(8, .ref xE), (0, .ref (B + a0)), (1, .int i1), (2, .int i2), (3, .int i3), (4, .int i4), (5, .int i5), (6, .int i6), (7, .ref (B + a7))]) fx d_La_add_25 (by decide) rfl ?_
      refine a_iconst (v := 2) fx d_La_add_27 rfl ?_
      exact a_iret fx hlo hr h d_La_add_28
    · refine ⟨29, rfl, fun xE => ?_⟩
      refine a_astore (lv2 := [(8, .ref xE), (0, .ref (B + a0)), (1, .int i1), (2, .int i2), (3, .int i3), (4, .int i4), (5, .int i5), (6, .int i6), (7, .ref (B + a7))]) fx d_La_add_29 (by decide) rfl ?_
      refine a_iconst (v := 3) fx d_La_add_31 rfl ?_
      exact a_iret fx hlo hr h d_La_add_32
theorem ok_La_link : okHH "MailChainLaw" 4 [(0, 9, 12, 30), (0, 9, 15, 13), (0, 9, 18, 25), (0, 9, 21, 15)] [(12, 4), (15, 1), (18, 3), (21, 2)] := ⟨by decide, by decide, rfl, w_1135, ⟨by decide, by decide, rfl, w_1045, ⟨by decide, by decide, rfl, w_1090, ⟨by decide, by decide, rfl, w_1046, trivial⟩⟩⟩⟩
set_option maxRecDepth 100000 in
set_option maxHeartbeats 4000000 in
theorem Met_La_link (l : Launch) (B : Nat) (D : va_G) (aC : Nat → ClassId) (aS : Nat → Nat) (hfl : l.flags = pinnedFlags ++ [noTraceFlag]) {a0 : Nat} {i1 : Int32} {a2 : Nat} {M : zM} {post : Int32 → zM → Prop} (hk0 : a0 < N0) (ht0 : tg a0 = 0) (hk2 : a2 < N0) (ht2 : tg a2 = 23) (h : Wp_La_link a0 i1 a2 M post) : Met l y_La_link (woW y_La_link b_La_link 4 (some FieldType.int) [(0, 9, 12, 30), (0, 9, 15, 13), (0, 9, 18, 25), (0, 9, 21, 15)]) { frames := 8, cells := 1, slots := 6, locals := 163 } (va_Pc [.ref (B + a0), .int i1, .ref (B + a2)] (zWl B D aC aS M)) (zQi B D aC post) 1 6 (zAb B) := by
  refine z_metW (own := "MailChainLaw") (lv0 := [(0, .ref (B + a0)), (1, .int i1), (2, .ref (B + a2))]) (by decide) rfl (Nat.le_of_ble_eq_true rfl) rfl ?_
  intro p e s m below meth c fx hr hlo hexc
  delta Wp_La_link at h
  refine a_aload_n fx 2 d_La_link_0 rfl rfl ?_
  refine a_iconst (v := 0) fx d_La_link_1 rfl ?_
  refine a_aload_n fx 0 d_La_link_2 rfl rfl ?_
  refine a_iload_n fx 1 d_La_link_3 rfl rfl ?_
  refine a_callTc (rest := [.int 0, .ref (B + a2)]) fx (a_runVT (As := [.int i1]) fx cv_Mc_link w_1136 (Met_Mc_link l B D aC aS hfl (hk0 := hk0) (ht0 := ht0) h) hk0 ht0 (by decide) rfl rfl rfl (Nat.le_of_ble_eq_true rfl) rfl rfl ⟨Nat.le_of_ble_eq_true rfl, Nat.le_of_ble_eq_true rfl⟩ d_La_link_4 ⟨Nat.le_of_ble_eq_true rfl, Nat.le_of_ble_eq_true rfl⟩) (hs := [(12, 4), (15, 1), (18, 3), (21, 2)]) (okH_of _ _ _ hexc ok_La_link) (fun vv M1 h => ?_) (fun j M1 h => ?_)
  · obtain ⟨x2, rfl, h⟩ := h
    refine a_i2l fx d_La_link_7 ?_
    obtain ⟨hin, h⟩ := h
    refine a_last fx hk2 ht2 hin d_La_link_8 (a_mem (fun M3 eM3 => ?_))
    have h := h M3 eM3
    refine a_goto fx 24 d_La_link_9 rfl ?_
    refine a_iconst (v := 0) fx d_La_link_24 rfl ?_
    exact a_iret fx hlo hr h d_La_link_25
  · rcases h with ⟨rfl, h⟩ | ⟨rfl, h⟩ | ⟨rfl, h⟩ | ⟨rfl, h⟩
    · refine ⟨12, rfl, fun xE => ?_⟩
      refine a_astore_n (lv2 := [(3, .ref xE), (0, .ref (B + a0)), (1, .int i1), (2, .ref (B + a2))]) fx d_La_link_12 rfl (by decide) rfl ?_
      refine a_iconst (v := 1) fx d_La_link_13 rfl ?_
      exact a_iret fx hlo hr h d_La_link_14
    · refine ⟨15, rfl, fun xE => ?_⟩
      refine a_astore_n (lv2 := [(3, .ref xE), (0, .ref (B + a0)), (1, .int i1), (2, .ref (B + a2))]) fx d_La_link_15 rfl (by decide) rfl ?_
      refine a_iconst (v := 2) fx d_La_link_16 rfl ?_
      exact a_iret fx hlo hr h d_La_link_17
    · refine ⟨18, rfl, fun xE => ?_⟩
      refine a_astore_n (lv2 := [(3, .ref xE), (0, .ref (B + a0)), (1, .int i1), (2, .ref (B + a2))]) fx d_La_link_18 rfl (by decide) rfl ?_
      refine a_iconst (v := 3) fx d_La_link_19 rfl ?_
      exact a_iret fx hlo hr h d_La_link_20
    · refine ⟨21, rfl, fun xE => ?_⟩
      refine a_astore_n (lv2 := [(3, .ref xE), (0, .ref (B + a0)), (1, .int i1), (2, .ref (B + a2))]) fx d_La_link_21 rfl (by decide) rfl ?_
      refine a_iconst (v := 4) fx d_La_link_22 rfl ?_
      exact a_iret fx hlo hr h d_La_link_23
theorem ok_La_pack : okHH "MailChainLaw" 5 [(0, 10, 13, 13)] [(13, 1)] := ⟨by decide, by decide, rfl, w_1045, trivial⟩
set_option maxRecDepth 100000 in
set_option maxHeartbeats 4000000 in
theorem Met_La_pack (l : Launch) (B : Nat) (D : va_G) (aC : Nat → ClassId) (aS : Nat → Nat) (hfl : l.flags = pinnedFlags ++ [noTraceFlag]) {a0 : Nat} {i1 : Int32} {i2 : Int32} {a3 : Nat} {M : zM} {post : Int32 → zM → Prop} (hk0 : a0 < N0) (ht0 : tg a0 = 0) (hk3 : a3 < N0) (ht3 : tg a3 = 23) (h : Wp_La_pack a0 i1 i2 a3 M post) : Met l y_La_pack (woW y_La_pack b_La_pack 5 (some FieldType.int) [(0, 10, 13, 13)]) { frames := 9, cells := 1, slots := 6, locals := 195 } (va_Pc [.ref (B + a0), .int i1, .int i2, .ref (B + a3)] (zWl B D aC aS M)) (zQi B D aC post) 1 6 (zAb B) := by
  refine z_metW (own := "MailChainLaw") (lv0 := [(0, .ref (B + a0)), (1, .int i1), (2, .int i2), (3, .ref (B + a3))]) (by decide) rfl (Nat.le_of_ble_eq_true rfl) rfl ?_
  intro p e s m below meth c fx hr hlo hexc
  delta Wp_La_pack at h
  refine a_aload_n fx 3 d_La_pack_0 rfl rfl ?_
  refine a_iconst (v := 0) fx d_La_pack_1 rfl ?_
  refine a_aload_n fx 0 d_La_pack_2 rfl rfl ?_
  refine a_iload_n fx 1 d_La_pack_3 rfl rfl ?_
  refine a_iload_n fx 2 d_La_pack_4 rfl rfl ?_
  refine a_callTc (rest := [.int 0, .ref (B + a3)]) fx (a_runVT (As := [.int i1, .int i2]) fx cv_Mc_pack w_1145 (Met_Mc_pack l B D aC aS hfl (hk0 := hk0) (ht0 := ht0) h) hk0 ht0 (by decide) rfl rfl rfl (Nat.le_of_ble_eq_true rfl) rfl rfl ⟨Nat.le_of_ble_eq_true rfl, Nat.le_of_ble_eq_true rfl⟩ d_La_pack_5 ⟨Nat.le_of_ble_eq_true rfl, Nat.le_of_ble_eq_true rfl⟩) (hs := [(13, 1)]) (okH_of _ _ _ hexc ok_La_pack) (fun vv M1 h => ?_) (fun j M1 h => ?_)
  · obtain ⟨x2, rfl, h⟩ := h
    refine a_i2l fx d_La_pack_8 ?_
    obtain ⟨hin, h⟩ := h
    refine a_last fx hk3 ht3 hin d_La_pack_9 (a_mem (fun M3 eM3 => ?_))
    have h := h M3 eM3
    refine a_goto fx 17 d_La_pack_10 rfl ?_
    refine a_iconst (v := 0) fx d_La_pack_17 rfl ?_
    exact a_iret fx hlo hr h d_La_pack_18
  · rcases h with ⟨rfl, h⟩
    · refine ⟨13, rfl, fun xE => ?_⟩
      refine a_astore (lv2 := [(4, .ref xE), (0, .ref (B + a0)), (1, .int i1), (2, .int i2), (3, .ref (B + a3))]) fx d_La_pack_13 (by decide) rfl ?_
      refine a_iconst (v := 1) fx d_La_pack_15 rfl ?_
      exact a_iret fx hlo hr h d_La_pack_16
theorem ok_La_part : okHH "MailChainLaw" 5 [(0, 10, 13, 30)] [(13, 4)] := ⟨by decide, by decide, rfl, w_1135, trivial⟩
set_option maxRecDepth 100000 in
set_option maxHeartbeats 4000000 in
theorem Met_La_part (l : Launch) (B : Nat) (D : va_G) (aC : Nat → ClassId) (aS : Nat → Nat) (hfl : l.flags = pinnedFlags ++ [noTraceFlag]) {a0 : Nat} {i1 : Int32} {i2 : Int32} {a3 : Nat} {M : zM} {post : Int32 → zM → Prop} (hk0 : a0 < N0) (ht0 : tg a0 = 0) (hk3 : a3 < N0) (ht3 : tg a3 = 23) (h : Wp_La_part a0 i1 i2 a3 M post) : Met l y_La_part (woW y_La_part b_La_part 5 (some FieldType.int) [(0, 10, 13, 30)]) { frames := 7, cells := 1, slots := 6, locals := 153 } (va_Pc [.ref (B + a0), .int i1, .int i2, .ref (B + a3)] (zWl B D aC aS M)) (zQi B D aC post) 1 6 (zAb B) := by
  refine z_metW (own := "MailChainLaw") (lv0 := [(0, .ref (B + a0)), (1, .int i1), (2, .int i2), (3, .ref (B + a3))]) (by decide) rfl (Nat.le_of_ble_eq_true rfl) rfl ?_
  intro p e s m below meth c fx hr hlo hexc
  delta Wp_La_part at h
  refine a_aload_n fx 3 d_La_part_0 rfl rfl ?_
  refine a_iconst (v := 0) fx d_La_part_1 rfl ?_
  refine a_aload_n fx 0 d_La_part_2 rfl rfl ?_
  refine a_iload_n fx 1 d_La_part_3 rfl rfl ?_
  refine a_iload_n fx 2 d_La_part_4 rfl rfl ?_
  refine a_callTc (rest := [.int 0, .ref (B + a3)]) fx (a_runVT (As := [.int i1, .int i2]) fx cv_Mc_part w_1168 (Met_Mc_part l B D aC aS hfl (hk0 := hk0) (ht0 := ht0) h) hk0 ht0 (by decide) rfl rfl rfl (Nat.le_of_ble_eq_true rfl) rfl rfl ⟨Nat.le_of_ble_eq_true rfl, Nat.le_of_ble_eq_true rfl⟩ d_La_part_5 ⟨Nat.le_of_ble_eq_true rfl, Nat.le_of_ble_eq_true rfl⟩) (hs := [(13, 4)]) (okH_of _ _ _ hexc ok_La_part) (fun vv M1 h => ?_) (fun j M1 h => ?_)
  · obtain ⟨x2, rfl, h⟩ := h
    refine a_i2l fx d_La_part_8 ?_
    obtain ⟨hin, h⟩ := h
    refine a_last fx hk3 ht3 hin d_La_part_9 (a_mem (fun M3 eM3 => ?_))
    have h := h M3 eM3
    refine a_goto fx 17 d_La_part_10 rfl ?_
    refine a_iconst (v := 0) fx d_La_part_17 rfl ?_
    exact a_iret fx hlo hr h d_La_part_18
  · rcases h with ⟨rfl, h⟩
    · refine ⟨13, rfl, fun xE => ?_⟩
      refine a_astore (lv2 := [(4, .ref xE), (0, .ref (B + a0)), (1, .int i1), (2, .int i2), (3, .ref (B + a3))]) fx d_La_part_13 (by decide) rfl ?_
      refine a_iconst (v := 1) fx d_La_part_15 rfl ?_
      exact a_iret fx hlo hr h d_La_part_16
theorem ok_La_stage : okHH "MailChainLaw" 5 [(0, 10, 13, 13)] [(13, 1)] := ⟨by decide, by decide, rfl, w_1045, trivial⟩
set_option maxRecDepth 100000 in
set_option maxHeartbeats 4000000 in
theorem Met_La_stage (l : Launch) (B : Nat) (D : va_G) (aC : Nat → ClassId) (aS : Nat → Nat) (hfl : l.flags = pinnedFlags ++ [noTraceFlag]) {a0 : Nat} {i1 : Int32} {i2 : Int32} {a3 : Nat} {M : zM} {post : Int32 → zM → Prop} (hk0 : a0 < N0) (ht0 : tg a0 = 0) (hk3 : a3 < N0) (ht3 : tg a3 = 23) (h : Wp_La_stage a0 i1 i2 a3 M post) : Met l y_La_stage (woW y_La_stage b_La_stage 5 (some FieldType.int) [(0, 10, 13, 13)]) { frames := 9, cells := 1, slots := 6, locals := 195 } (va_Pc [.ref (B + a0), .int i1, .int i2, .ref (B + a3)] (zWl B D aC aS M)) (zQi B D aC post) 1 6 (zAb B) := by
  refine z_metW (own := "MailChainLaw") (lv0 := [(0, .ref (B + a0)), (1, .int i1), (2, .int i2), (3, .ref (B + a3))]) (by decide) rfl (Nat.le_of_ble_eq_true rfl) rfl ?_
  intro p e s m below meth c fx hr hlo hexc
  delta Wp_La_stage at h
  refine a_aload_n fx 3 d_La_stage_0 rfl rfl ?_
  refine a_iconst (v := 0) fx d_La_stage_1 rfl ?_
  refine a_aload_n fx 0 d_La_stage_2 rfl rfl ?_
  refine a_iload_n fx 1 d_La_stage_3 rfl rfl ?_
  refine a_iload_n fx 2 d_La_stage_4 rfl rfl ?_
  refine a_callTc (rest := [.int 0, .ref (B + a3)]) fx (a_runVT (As := [.int i1, .int i2]) fx cv_Mc_stage w_1202 (Met_Mc_stage l B D aC aS hfl (hk0 := hk0) (ht0 := ht0) h) hk0 ht0 (by decide) rfl rfl rfl (Nat.le_of_ble_eq_true rfl) rfl rfl ⟨Nat.le_of_ble_eq_true rfl, Nat.le_of_ble_eq_true rfl⟩ d_La_stage_5 ⟨Nat.le_of_ble_eq_true rfl, Nat.le_of_ble_eq_true rfl⟩) (hs := [(13, 1)]) (okH_of _ _ _ hexc ok_La_stage) (fun vv M1 h => ?_) (fun j M1 h => ?_)
  · obtain ⟨x2, rfl, h⟩ := h
    refine a_i2l fx d_La_stage_8 ?_
    obtain ⟨hin, h⟩ := h
    refine a_last fx hk3 ht3 hin d_La_stage_9 (a_mem (fun M3 eM3 => ?_))
    have h := h M3 eM3
    refine a_goto fx 17 d_La_stage_10 rfl ?_
    refine a_iconst (v := 0) fx d_La_stage_17 rfl ?_
    exact a_iret fx hlo hr h d_La_stage_18
  · rcases h with ⟨rfl, h⟩
    · refine ⟨13, rfl, fun xE => ?_⟩
      refine a_astore (lv2 := [(4, .ref xE), (0, .ref (B + a0)), (1, .int i1), (2, .int i2), (3, .ref (B + a3))]) fx d_La_stage_13 (by decide) rfl ?_
      refine a_iconst (v := 1) fx d_La_stage_15 rfl ?_
      exact a_iret fx hlo hr h d_La_stage_16
theorem ok_La_pass : okHH "MailChainLaw" 7 [(0, 12, 15, 30), (0, 12, 19, 13)] [(15, 4), (19, 1)] := ⟨by decide, by decide, rfl, w_1135, ⟨by decide, by decide, rfl, w_1045, trivial⟩⟩
set_option maxRecDepth 100000 in
set_option maxHeartbeats 4000000 in
theorem Met_La_pass (l : Launch) (B : Nat) (D : va_G) (aC : Nat → ClassId) (aS : Nat → Nat) (hfl : l.flags = pinnedFlags ++ [noTraceFlag]) {a0 : Nat} {i1 : Int32} {i2 : Int32} {i3 : Int32} {a4 : Nat} {M : zM} {post : Int32 → zM → Prop} (hk0 : a0 < N0) (ht0 : tg a0 = 0) (hk4 : a4 < N0) (ht4 : tg a4 = 23) (h : Wp_La_pass a0 i1 i2 i3 a4 M post) : Met l y_La_pass (woW y_La_pass b_La_pass 6 (some FieldType.int) [(0, 12, 15, 30), (0, 12, 19, 13)]) { frames := 9, cells := 1, slots := 6, locals := 202 } (va_Pc [.ref (B + a0), .int i1, .int i2, .int i3, .ref (B + a4)] (zWl B D aC aS M)) (zQi B D aC post) 1 6 (zAb B) := by
  refine z_metW (own := "MailChainLaw") (lv0 := [(0, .ref (B + a0)), (1, .int i1), (2, .int i2), (3, .int i3), (4, .ref (B + a4))]) (by decide) rfl (Nat.le_of_ble_eq_true rfl) rfl ?_
  intro p e s m below meth c fx hr hlo hexc
  delta Wp_La_pass at h
  refine a_aload fx 4 d_La_pass_0 rfl ?_
  refine a_iconst (v := 0) fx d_La_pass_2 rfl ?_
  refine a_aload_n fx 0 d_La_pass_3 rfl rfl ?_
  refine a_iload_n fx 1 d_La_pass_4 rfl rfl ?_
  refine a_iload_n fx 2 d_La_pass_5 rfl rfl ?_
  refine a_iload_n fx 3 d_La_pass_6 rfl rfl ?_
  refine a_callTc (rest := [.int 0, .ref (B + a4)]) fx (a_runVT (As := [.int i1, .int i2, .int i3]) fx cv_Mc_pass w_1209 (Met_Mc_pass l B D aC aS hfl (hk0 := hk0) (ht0 := ht0) h) hk0 ht0 (by decide) rfl rfl rfl (Nat.le_of_ble_eq_true rfl) rfl rfl ⟨Nat.le_of_ble_eq_true rfl, Nat.le_of_ble_eq_true rfl⟩ d_La_pass_7 ⟨Nat.le_of_ble_eq_true rfl, Nat.le_of_ble_eq_true rfl⟩) (hs := [(15, 4), (19, 1)]) (okH_of _ _ _ hexc ok_La_pass) (fun vv M1 h => ?_) (fun j M1 h => ?_)
  · obtain ⟨x2, rfl, h⟩ := h
    refine a_i2l fx d_La_pass_10 ?_
    obtain ⟨hin, h⟩ := h
    refine a_last fx hk4 ht4 hin d_La_pass_11 (a_mem (fun M3 eM3 => ?_))
    have h := h M3 eM3
    refine a_goto fx 23 d_La_pass_12 rfl ?_
    refine a_iconst (v := 0) fx d_La_pass_23 rfl ?_
    exact a_iret fx hlo hr h d_La_pass_24
  · rcases h with ⟨rfl, h⟩ | ⟨rfl, h⟩
    · refine ⟨15, rfl, fun xE => ?_⟩
      refine a_astore (lv2 := [(5, .ref xE), (0, .ref (B + a0)), (1, .int i1), (2, .int i2), (3, .int i3), (4, .ref (B + a4))]) fx d_La_pass_15 (by decide) rfl ?_
      refine a_iconst (v := 1) fx d_La_pass_17 rfl ?_
      exact a_iret fx hlo hr h d_La_pass_18
    · refine ⟨19, rfl, fun xE => ?_⟩
      refine a_astore (lv2 := [(5, .ref xE), (0, .ref (B + a0)), (1, .int i1), (2, .int i2), (3, .int i3), (4, .ref (B + a4))]) fx d_La_pass_19 (by decide) rfl ?_
      refine a_iconst (v := 2) fx d_La_pass_21 rfl ?_
      exact a_iret fx hlo hr h d_La_pass_22
theorem ok_La_forge : okHH "MailChainLaw" 3 [(0, 6, 9, 13)] [(9, 1)] := ⟨by decide, by decide, rfl, w_1045, trivial⟩
set_option maxRecDepth 100000 in
set_option maxHeartbeats 4000000 in
theorem Met_La_forge (l : Launch) (B : Nat) (D : va_G) (aC : Nat → ClassId) (aS : Nat → Nat) (hfl : l.flags = pinnedFlags ++ [noTraceFlag]) {a0 : Nat} {i1 : Int32} {i2 : Int32} {M : zM} {post : Int32 → zM → Prop} (hk0 : a0 < N0) (ht0 : tg a0 = 0) (h : Wp_La_forge a0 i1 i2 M post) : Met l y_La_forge (woW y_La_forge b_La_forge 4 (some FieldType.int) [(0, 6, 9, 13)]) { frames := 8, cells := 1, slots := 6, locals := 184 } (va_Pc [.ref (B + a0), .int i1, .int i2] (zWl B D aC aS M)) (zQi B D aC post) 1 6 (zAb B) := by
  refine z_metW (own := "MailChainLaw") (lv0 := [(0, .ref (B + a0)), (1, .int i1), (2, .int i2)]) (by decide) rfl (Nat.le_of_ble_eq_true rfl) rfl ?_
  intro p e s m below meth c fx hr hlo hexc
  delta Wp_La_forge at h
  refine a_aload_n fx 0 d_La_forge_0 rfl rfl ?_
  refine a_iload_n fx 1 d_La_forge_1 rfl rfl ?_
  refine a_iload_n fx 2 d_La_forge_2 rfl rfl ?_
  refine a_callTc (rest := []) fx (a_runVT (As := [.int i1, .int i2]) fx cv_Mc_forge w_1221 (Met_Mc_forge l B D aC aS hfl (hk0 := hk0) (ht0 := ht0) h) hk0 ht0 (by decide) rfl rfl rfl (Nat.le_of_ble_eq_true rfl) rfl rfl ⟨Nat.le_of_ble_eq_true rfl, Nat.le_of_ble_eq_true rfl⟩ d_La_forge_3 ⟨Nat.le_of_ble_eq_true rfl, Nat.le_of_ble_eq_true rfl⟩) (hs := [(9, 1)]) (okH_of _ _ _ hexc ok_La_forge) (fun vv M1 h => ?_) (fun j M1 h => ?_)
  · obtain ⟨rfl, h⟩ := h
    refine a_goto fx 12 d_La_forge_6 rfl ?_
    refine a_iconst (v := 0) fx d_La_forge_12 rfl ?_
    exact a_iret fx hlo hr h d_La_forge_13
  · rcases h with ⟨rfl, h⟩
    · refine ⟨9, rfl, fun xE => ?_⟩
      refine a_astore_n (lv2 := [(3, .ref xE), (0, .ref (B + a0)), (1, .int i1), (2, .int i2)]) fx d_La_forge_9 rfl (by decide) rfl ?_
      refine a_iconst (v := 1) fx d_La_forge_10 rfl ?_
      exact a_iret fx hlo hr h d_La_forge_11
theorem ok_La_about : okHH "MailChainLaw" 7 [(0, 12, 15, 13), (0, 12, 19, 30)] [(15, 1), (19, 4)] := ⟨by decide, by decide, rfl, w_1045, ⟨by decide, by decide, rfl, w_1135, trivial⟩⟩
set_option maxRecDepth 100000 in
set_option maxHeartbeats 4000000 in
theorem Met_La_about (l : Launch) (B : Nat) (D : va_G) (aC : Nat → ClassId) (aS : Nat → Nat) (hfl : l.flags = pinnedFlags ++ [noTraceFlag]) {a0 : Nat} {i1 : Int32} {i2 : Int32} {i3 : Int32} {a4 : Nat} {M : zM} {post : Int32 → zM → Prop} (hk0 : a0 < N0) (ht0 : tg a0 = 0) (hk4 : a4 < N0) (ht4 : tg a4 = 23) (h : Wp_La_about a0 i1 i2 i3 a4 M post) : Met l y_La_about (woW y_La_about b_La_about 6 (some FieldType.int) [(0, 12, 15, 13), (0, 12, 19, 30)]) { frames := 7, cells := 1, slots := 6, locals := 144 } (va_Pc [.ref (B + a0), .int i1, .int i2, .int i3, .ref (B + a4)] (zWl B D aC aS M)) (zQi B D aC post) 1 6 (zAb B) := by
  refine z_metW (own := "MailChainLaw") (lv0 := [(0, .ref (B + a0)), (1, .int i1), (2, .int i2), (3, .int i3), (4, .ref (B + a4))]) (by decide) rfl (Nat.le_of_ble_eq_true rfl) rfl ?_
  intro p e s m below meth c fx hr hlo hexc
  delta Wp_La_about at h
  refine a_aload fx 4 d_La_about_0 rfl ?_
  refine a_iconst (v := 0) fx d_La_about_2 rfl ?_
  refine a_aload_n fx 0 d_La_about_3 rfl rfl ?_
  refine a_iload_n fx 1 d_La_about_4 rfl rfl ?_
  refine a_iload_n fx 2 d_La_about_5 rfl rfl ?_
  refine a_iload_n fx 3 d_La_about_6 rfl rfl ?_
  refine a_callTc (rest := [.int 0, .ref (B + a4)]) fx (a_runVT (As := [.int i1, .int i2, .int i3]) fx cv_Mc_about w_1233 (Met_Mc_about l B D aC aS hfl (hk0 := hk0) (ht0 := ht0) h) hk0 ht0 (by decide) rfl rfl rfl (Nat.le_of_ble_eq_true rfl) rfl rfl ⟨Nat.le_of_ble_eq_true rfl, Nat.le_of_ble_eq_true rfl⟩ d_La_about_7 ⟨Nat.le_of_ble_eq_true rfl, Nat.le_of_ble_eq_true rfl⟩) (hs := [(15, 1), (19, 4)]) (okH_of _ _ _ hexc ok_La_about) (fun vv M1 h => ?_) (fun j M1 h => ?_)
  · obtain ⟨x2, rfl, h⟩ := h
    refine a_i2l fx d_La_about_10 ?_
    obtain ⟨hin, h⟩ := h
    refine a_last fx hk4 ht4 hin d_La_about_11 (a_mem (fun M3 eM3 => ?_))
    have h := h M3 eM3
    refine a_goto fx 23 d_La_about_12 rfl ?_
    refine a_iconst (v := 0) fx d_La_about_23 rfl ?_
    exact a_iret fx hlo hr h d_La_about_24
  · rcases h with ⟨rfl, h⟩ | ⟨rfl, h⟩
    · refine ⟨15, rfl, fun xE => ?_⟩
      refine a_astore (lv2 := [(5, .ref xE), (0, .ref (B + a0)), (1, .int i1), (2, .int i2), (3, .int i3), (4, .ref (B + a4))]) fx d_La_about_15 (by decide) rfl ?_
      refine a_iconst (v := 1) fx d_La_about_17 rfl ?_
      exact a_iret fx hlo hr h d_La_about_18
    · refine ⟨19, rfl, fun xE => ?_⟩
      refine a_astore (lv2 := [(5, .ref xE), (0, .ref (B + a0)), (1, .int i1), (2, .int i2), (3, .int i3), (4, .ref (B + a4))]) fx d_La_about_19 (by decide) rfl ?_
      refine a_iconst (v := 2) fx d_La_about_21 rfl ?_
      exact a_iret fx hlo hr h d_La_about_22
theorem ok_La_byteOf : okHH "MailChainLaw" 7 [(0, 12, 15, 13), (0, 12, 19, 30)] [(15, 1), (19, 4)] := ⟨by decide, by decide, rfl, w_1045, ⟨by decide, by decide, rfl, w_1135, trivial⟩⟩
set_option maxRecDepth 100000 in
set_option maxHeartbeats 4000000 in
theorem Met_La_byteOf (l : Launch) (B : Nat) (D : va_G) (aC : Nat → ClassId) (aS : Nat → Nat) (hfl : l.flags = pinnedFlags ++ [noTraceFlag]) {a0 : Nat} {i1 : Int32} {i2 : Int32} {i3 : Int32} {a4 : Nat} {M : zM} {post : Int32 → zM → Prop} (hk0 : a0 < N0) (ht0 : tg a0 = 0) (hk4 : a4 < N0) (ht4 : tg a4 = 23) (h : Wp_La_byteOf a0 i1 i2 i3 a4 M post) : Met l y_La_byteOf (woW y_La_byteOf b_La_byteOf 6 (some FieldType.int) [(0, 12, 15, 13), (0, 12, 19, 30)]) { frames := 7, cells := 1, slots := 6, locals := 144 } (va_Pc [.ref (B + a0), .int i1, .int i2, .int i3, .ref (B + a4)] (zWl B D aC aS M)) (zQi B D aC post) 1 6 (zAb B) := by
  refine z_metW (own := "MailChainLaw") (lv0 := [(0, .ref (B + a0)), (1, .int i1), (2, .int i2), (3, .int i3), (4, .ref (B + a4))]) (by decide) rfl (Nat.le_of_ble_eq_true rfl) rfl ?_
  intro p e s m below meth c fx hr hlo hexc
  delta Wp_La_byteOf at h
  refine a_aload fx 4 d_La_byteOf_0 rfl ?_
  refine a_iconst (v := 0) fx d_La_byteOf_2 rfl ?_
  refine a_aload_n fx 0 d_La_byteOf_3 rfl rfl ?_
  refine a_iload_n fx 1 d_La_byteOf_4 rfl rfl ?_
  refine a_iload_n fx 2 d_La_byteOf_5 rfl rfl ?_
  refine a_iload_n fx 3 d_La_byteOf_6 rfl rfl ?_
  refine a_callTc (rest := [.int 0, .ref (B + a4)]) fx (a_runVT (As := [.int i1, .int i2, .int i3]) fx cv_Mc_byteOf w_1246 (Met_Mc_byteOf l B D aC aS hfl (hk0 := hk0) (ht0 := ht0) h) hk0 ht0 (by decide) rfl rfl rfl (Nat.le_of_ble_eq_true rfl) rfl rfl ⟨Nat.le_of_ble_eq_true rfl, Nat.le_of_ble_eq_true rfl⟩ d_La_byteOf_7 ⟨Nat.le_of_ble_eq_true rfl, Nat.le_of_ble_eq_true rfl⟩) (hs := [(15, 1), (19, 4)]) (okH_of _ _ _ hexc ok_La_byteOf) (fun vv M1 h => ?_) (fun j M1 h => ?_)
  · obtain ⟨x2, rfl, h⟩ := h
    refine a_i2l fx d_La_byteOf_10 ?_
    obtain ⟨hin, h⟩ := h
    refine a_last fx hk4 ht4 hin d_La_byteOf_11 (a_mem (fun M3 eM3 => ?_))
    have h := h M3 eM3
    refine a_goto fx 23 d_La_byteOf_12 rfl ?_
    refine a_iconst (v := 0) fx d_La_byteOf_23 rfl ?_
    exact a_iret fx hlo hr h d_La_byteOf_24
  · rcases h with ⟨rfl, h⟩ | ⟨rfl, h⟩
    · refine ⟨15, rfl, fun xE => ?_⟩
      refine a_astore (lv2 := [(5, .ref xE), (0, .ref (B + a0)), (1, .int i1), (2, .int i2), (3, .int i3), (4, .ref (B + a4))]) fx d_La_byteOf_15 (by decide) rfl ?_
      refine a_iconst (v := 1) fx d_La_byteOf_17 rfl ?_
      exact a_iret fx hlo hr h d_La_byteOf_18
    · refine ⟨19, rfl, fun xE => ?_⟩
      refine a_astore (lv2 := [(5, .ref xE), (0, .ref (B + a0)), (1, .int i1), (2, .int i2), (3, .int i3), (4, .ref (B + a4))]) fx d_La_byteOf_19 (by decide) rfl ?_
      refine a_iconst (v := 2) fx d_La_byteOf_21 rfl ?_
      exact a_iret fx hlo hr h d_La_byteOf_22
