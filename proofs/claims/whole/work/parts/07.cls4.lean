/-- MailChain.unpack()I -/
def Wp_Mc_unpack (a0 : Nat) (M : zM) (post : Int32 → zM → Prop) : Prop := (Wp_Bo_isWhole (a0 + 392) M (fun x2 M1 => ((¬ x2 = 0 → (Wp_Bo_join (a0 + 392) (a0 + 409) M1 (fun x4 M3 => ((¬ x4 = 0 → (Wp_Sp_read (a0 + 409) (a0 + 407) M3 (fun M5 => (Wp_Sp_write (a0 + 407) (a0 + 411) M5 (fun M6 => (Wp_Ro_same (a0 + 411) (a0 + 409) M6 (fun x8 M7 => ((¬ x8 = 0 → ((30000 < (M7.1 (a0 + 407) 1) → (post 8 M7)) ∧ (¬ 30000 < (M7.1 (a0 + 407) 1) → (Wp_Ex_expand (a0 + 402) (a0 + 407) (a0 + 405) M7 (fun x10 M9 => ((¬ x10 = 0 → (Wp_Ro_at (a0 + 407) 2 M9 (fun x12 M11 => (Wp_Sq_squeeze (a0 + 398) (a0 + 405) (x12 - 128) (a0 + 411) M11 (fun M13 => (Wp_Ro_same (a0 + 411) (a0 + 407) M13 (fun x15 M14 => ((¬ x15 = 0 → (∀ r16 : Nat, r16 = (M14.2.2 a0 3) → r16 < N0 ∧ tg r16 = 3 ∧ (Wp_Ar_read (a0 + 405) r16 M14 (fun x18 M17 => ((¬ x18 = 0 → (∀ r19 : Nat, r19 = (M17.2.2 a0 3) → r19 < N0 ∧ tg r19 = 3 ∧ (Wp_Ar_write r19 (a0 + 411) M17 (fun M20 => (Wp_Ro_same (a0 + 411) (a0 + 405) M20 (fun x22 M21 => ((¬ x22 = 0 → (Wp_Mc_swapYours a0 M21 (fun M23 => (Wp_Bo_wipe (a0 + 392) M23 (fun M24 => (post 0 M24)))))) ∧ (x22 = 0 → (post 9 M21))))))))) ∧ (x18 = 0 → (post 9 M17))))))) ∧ (x15 = 0 → (post 8 M14)))))))))) ∧ (x10 = 0 → (post 8 M9)))))))) ∧ (x8 = 0 → (post 7 M7)))))))))) ∧ (x4 = 0 → (post 7 M3)))))) ∧ (x2 = 0 → (post 6 M1)))))
theorem d_Mc_unpack_0 : decode b_Mc_unpack 0 = .ok (.aload_n 0, 1) := by decide +kernel
theorem d_Mc_unpack_1 : decode b_Mc_unpack 1 = .ok (.getfield 48, 3) := by decide +kernel
theorem d_Mc_unpack_4 : decode b_Mc_unpack 4 = .ok (.invokevirtual 214, 3) := by decide +kernel
theorem d_Mc_unpack_7 : decode b_Mc_unpack 7 = .ok (.ifCond .ne 6, 3) := by decide +kernel
theorem d_Mc_unpack_10 : decode b_Mc_unpack 10 = .ok (.bipush 6, 2) := by decide +kernel
theorem d_Mc_unpack_12 : decode b_Mc_unpack 12 = .ok (.ireturn, 1) := by decide +kernel
theorem d_Mc_unpack_13 : decode b_Mc_unpack 13 = .ok (.aload_n 0, 1) := by decide +kernel
theorem d_Mc_unpack_14 : decode b_Mc_unpack 14 = .ok (.getfield 48, 3) := by decide +kernel
theorem d_Mc_unpack_17 : decode b_Mc_unpack 17 = .ok (.aload_n 0, 1) := by decide +kernel
theorem d_Mc_unpack_18 : decode b_Mc_unpack 18 = .ok (.getfield 74, 3) := by decide +kernel
theorem d_Mc_unpack_21 : decode b_Mc_unpack 21 = .ok (.invokevirtual 218, 3) := by decide +kernel
theorem d_Mc_unpack_24 : decode b_Mc_unpack 24 = .ok (.ifCond .ne 6, 3) := by decide +kernel
theorem d_Mc_unpack_27 : decode b_Mc_unpack 27 = .ok (.bipush 7, 2) := by decide +kernel
theorem d_Mc_unpack_29 : decode b_Mc_unpack 29 = .ok (.ireturn, 1) := by decide +kernel
theorem d_Mc_unpack_30 : decode b_Mc_unpack 30 = .ok (.aload_n 0, 1) := by decide +kernel
theorem d_Mc_unpack_31 : decode b_Mc_unpack 31 = .ok (.getfield 74, 3) := by decide +kernel
theorem d_Mc_unpack_34 : decode b_Mc_unpack 34 = .ok (.aload_n 0, 1) := by decide +kernel
theorem d_Mc_unpack_35 : decode b_Mc_unpack 35 = .ok (.getfield 70, 3) := by decide +kernel
theorem d_Mc_unpack_38 : decode b_Mc_unpack 38 = .ok (.invokestatic 222, 3) := by decide +kernel
theorem d_Mc_unpack_41 : decode b_Mc_unpack 41 = .ok (.aload_n 0, 1) := by decide +kernel
theorem d_Mc_unpack_42 : decode b_Mc_unpack 42 = .ok (.getfield 70, 3) := by decide +kernel
theorem d_Mc_unpack_45 : decode b_Mc_unpack 45 = .ok (.aload_n 0, 1) := by decide +kernel
theorem d_Mc_unpack_46 : decode b_Mc_unpack 46 = .ok (.getfield 78, 3) := by decide +kernel
theorem d_Mc_unpack_49 : decode b_Mc_unpack 49 = .ok (.invokestatic 167, 3) := by decide +kernel
theorem d_Mc_unpack_52 : decode b_Mc_unpack 52 = .ok (.aload_n 0, 1) := by decide +kernel
theorem d_Mc_unpack_53 : decode b_Mc_unpack 53 = .ok (.getfield 78, 3) := by decide +kernel
theorem d_Mc_unpack_56 : decode b_Mc_unpack 56 = .ok (.aload_n 0, 1) := by decide +kernel
theorem d_Mc_unpack_57 : decode b_Mc_unpack 57 = .ok (.getfield 74, 3) := by decide +kernel
theorem d_Mc_unpack_60 : decode b_Mc_unpack 60 = .ok (.invokevirtual 225, 3) := by decide +kernel
theorem d_Mc_unpack_63 : decode b_Mc_unpack 63 = .ok (.ifCond .ne 6, 3) := by decide +kernel
theorem d_Mc_unpack_66 : decode b_Mc_unpack 66 = .ok (.bipush 7, 2) := by decide +kernel
theorem d_Mc_unpack_68 : decode b_Mc_unpack 68 = .ok (.ireturn, 1) := by decide +kernel
theorem d_Mc_unpack_69 : decode b_Mc_unpack 69 = .ok (.aload_n 0, 1) := by decide +kernel
theorem d_Mc_unpack_70 : decode b_Mc_unpack 70 = .ok (.getfield 70, 3) := by decide +kernel
theorem d_Mc_unpack_73 : decode b_Mc_unpack 73 = .ok (.getfield 94, 3) := by decide +kernel
theorem d_Mc_unpack_76 : decode b_Mc_unpack 76 = .ok (.sipush 30000, 3) := by decide +kernel
theorem d_Mc_unpack_79 : decode b_Mc_unpack 79 = .ok (.if_icmp .gt 21, 3) := by decide +kernel
theorem d_Mc_unpack_82 : decode b_Mc_unpack 82 = .ok (.aload_n 0, 1) := by decide +kernel
theorem d_Mc_unpack_83 : decode b_Mc_unpack 83 = .ok (.getfield 62, 3) := by decide +kernel
theorem d_Mc_unpack_86 : decode b_Mc_unpack 86 = .ok (.aload_n 0, 1) := by decide +kernel
theorem d_Mc_unpack_87 : decode b_Mc_unpack 87 = .ok (.getfield 70, 3) := by decide +kernel
theorem d_Mc_unpack_90 : decode b_Mc_unpack 90 = .ok (.aload_n 0, 1) := by decide +kernel
theorem d_Mc_unpack_91 : decode b_Mc_unpack 91 = .ok (.getfield 66, 3) := by decide +kernel
theorem d_Mc_unpack_94 : decode b_Mc_unpack 94 = .ok (.invokevirtual 228, 3) := by decide +kernel
theorem d_Mc_unpack_97 : decode b_Mc_unpack 97 = .ok (.ifCond .ne 6, 3) := by decide +kernel
theorem d_Mc_unpack_100 : decode b_Mc_unpack 100 = .ok (.bipush 8, 2) := by decide +kernel
theorem d_Mc_unpack_102 : decode b_Mc_unpack 102 = .ok (.ireturn, 1) := by decide +kernel
theorem d_Mc_unpack_103 : decode b_Mc_unpack 103 = .ok (.aload_n 0, 1) := by decide +kernel
theorem d_Mc_unpack_104 : decode b_Mc_unpack 104 = .ok (.getfield 55, 3) := by decide +kernel
theorem d_Mc_unpack_107 : decode b_Mc_unpack 107 = .ok (.aload_n 0, 1) := by decide +kernel
theorem d_Mc_unpack_108 : decode b_Mc_unpack 108 = .ok (.getfield 66, 3) := by decide +kernel
theorem d_Mc_unpack_111 : decode b_Mc_unpack 111 = .ok (.aload_n 0, 1) := by decide +kernel
theorem d_Mc_unpack_112 : decode b_Mc_unpack 112 = .ok (.getfield 70, 3) := by decide +kernel
theorem d_Mc_unpack_115 : decode b_Mc_unpack 115 = .ok (.iconst 2, 1) := by decide +kernel
theorem d_Mc_unpack_116 : decode b_Mc_unpack 116 = .ok (.invokevirtual 188, 3) := by decide +kernel
theorem d_Mc_unpack_119 : decode b_Mc_unpack 119 = .ok (.sipush 128, 3) := by decide +kernel
theorem d_Mc_unpack_122 : decode b_Mc_unpack 122 = .ok (.isub, 1) := by decide +kernel
theorem d_Mc_unpack_123 : decode b_Mc_unpack 123 = .ok (.aload_n 0, 1) := by decide +kernel
theorem d_Mc_unpack_124 : decode b_Mc_unpack 124 = .ok (.getfield 78, 3) := by decide +kernel
theorem d_Mc_unpack_127 : decode b_Mc_unpack 127 = .ok (.invokevirtual 163, 3) := by decide +kernel
theorem d_Mc_unpack_130 : decode b_Mc_unpack 130 = .ok (.aload_n 0, 1) := by decide +kernel
theorem d_Mc_unpack_131 : decode b_Mc_unpack 131 = .ok (.getfield 78, 3) := by decide +kernel
theorem d_Mc_unpack_134 : decode b_Mc_unpack 134 = .ok (.aload_n 0, 1) := by decide +kernel
theorem d_Mc_unpack_135 : decode b_Mc_unpack 135 = .ok (.getfield 70, 3) := by decide +kernel
theorem d_Mc_unpack_138 : decode b_Mc_unpack 138 = .ok (.invokevirtual 225, 3) := by decide +kernel
theorem d_Mc_unpack_141 : decode b_Mc_unpack 141 = .ok (.ifCond .ne 6, 3) := by decide +kernel
theorem d_Mc_unpack_144 : decode b_Mc_unpack 144 = .ok (.bipush 8, 2) := by decide +kernel
theorem d_Mc_unpack_146 : decode b_Mc_unpack 146 = .ok (.ireturn, 1) := by decide +kernel
theorem d_Mc_unpack_147 : decode b_Mc_unpack 147 = .ok (.aload_n 0, 1) := by decide +kernel
theorem d_Mc_unpack_148 : decode b_Mc_unpack 148 = .ok (.getfield 66, 3) := by decide +kernel
theorem d_Mc_unpack_151 : decode b_Mc_unpack 151 = .ok (.aload_n 0, 1) := by decide +kernel
theorem d_Mc_unpack_152 : decode b_Mc_unpack 152 = .ok (.getfield 28, 3) := by decide +kernel
theorem d_Mc_unpack_155 : decode b_Mc_unpack 155 = .ok (.invokestatic 232, 3) := by decide +kernel
theorem d_Mc_unpack_158 : decode b_Mc_unpack 158 = .ok (.ifCond .ne 6, 3) := by decide +kernel
theorem d_Mc_unpack_161 : decode b_Mc_unpack 161 = .ok (.bipush 9, 2) := by decide +kernel
theorem d_Mc_unpack_163 : decode b_Mc_unpack 163 = .ok (.ireturn, 1) := by decide +kernel
theorem d_Mc_unpack_164 : decode b_Mc_unpack 164 = .ok (.aload_n 0, 1) := by decide +kernel
theorem d_Mc_unpack_165 : decode b_Mc_unpack 165 = .ok (.getfield 28, 3) := by decide +kernel
theorem d_Mc_unpack_168 : decode b_Mc_unpack 168 = .ok (.aload_n 0, 1) := by decide +kernel
theorem d_Mc_unpack_169 : decode b_Mc_unpack 169 = .ok (.getfield 78, 3) := by decide +kernel
theorem d_Mc_unpack_172 : decode b_Mc_unpack 172 = .ok (.invokestatic 178, 3) := by decide +kernel
theorem d_Mc_unpack_175 : decode b_Mc_unpack 175 = .ok (.aload_n 0, 1) := by decide +kernel
theorem d_Mc_unpack_176 : decode b_Mc_unpack 176 = .ok (.getfield 78, 3) := by decide +kernel
theorem d_Mc_unpack_179 : decode b_Mc_unpack 179 = .ok (.aload_n 0, 1) := by decide +kernel
theorem d_Mc_unpack_180 : decode b_Mc_unpack 180 = .ok (.getfield 66, 3) := by decide +kernel
theorem d_Mc_unpack_183 : decode b_Mc_unpack 183 = .ok (.invokevirtual 225, 3) := by decide +kernel
theorem d_Mc_unpack_186 : decode b_Mc_unpack 186 = .ok (.ifCond .ne 6, 3) := by decide +kernel
theorem d_Mc_unpack_189 : decode b_Mc_unpack 189 = .ok (.bipush 9, 2) := by decide +kernel
theorem d_Mc_unpack_191 : decode b_Mc_unpack 191 = .ok (.ireturn, 1) := by decide +kernel
theorem d_Mc_unpack_192 : decode b_Mc_unpack 192 = .ok (.aload_n 0, 1) := by decide +kernel
theorem d_Mc_unpack_193 : decode b_Mc_unpack 193 = .ok (.invokevirtual 235, 3) := by decide +kernel
theorem d_Mc_unpack_196 : decode b_Mc_unpack 196 = .ok (.aload_n 0, 1) := by decide +kernel
theorem d_Mc_unpack_197 : decode b_Mc_unpack 197 = .ok (.getfield 48, 3) := by decide +kernel
theorem d_Mc_unpack_200 : decode b_Mc_unpack 200 = .ok (.invokevirtual 205, 3) := by decide +kernel
theorem d_Mc_unpack_203 : decode b_Mc_unpack 203 = .ok (.iconst 0, 1) := by decide +kernel
theorem d_Mc_unpack_204 : decode b_Mc_unpack 204 = .ok (.ireturn, 1) := by decide +kernel
set_option maxRecDepth 100000 in
set_option maxHeartbeats 4000000 in
theorem Met_Mc_unpack (l : Launch) (B : Nat) (D : va_G) (aC : Nat → ClassId) (aS : Nat → Nat) {a0 : Nat} {M : zM} {post : Int32 → zM → Prop} (hk0 : a0 < N0) (ht0 : tg a0 = 0) (h : Wp_Mc_unpack a0 M post) : Met l y_Mc_unpack (wo y_Mc_unpack b_Mc_unpack 1 (some FieldType.int)) { frames := 7, cells := 0, slots := 0, locals := 172 } (va_Pc [.ref (B + a0)] (zWl B D aC aS M)) (zQi B D aC post) 0 0 (zAb B) := by
  refine z_met (own := "MailChain") (lv0 := [(0, .ref (B + a0))]) (by decide) rfl (Nat.le_of_ble_eq_true rfl) rfl ?_
  intro p e s m below meth c fx hr hlo
  delta Wp_Mc_unpack at h
  refine a_aload_n fx 0 d_Mc_unpack_0 rfl rfl ?_
  refine a_getS fx (T := F_Mc) (j := 7) (hk := hk0) (ht := ht0) (ht2 := by decide) (hc := rfl) (hin := u_in_Mc) (hj := by decide) (hj2 := by decide) (hf := rfl) (n9 := 392) (hfo := rfl) (hT := rfl) (hw := w_311) (hd := d_Mc_unpack_1) (kk := ?_)
  refine a_calli (rest := []) (a_runV (As := []) fx cv_Bo_isWhole w_490 (Met_Bo_isWhole l B D aC aS (hk0 := (lo_0_7 hk0 ht0).1) (ht0 := (lo_0_7 hk0 ht0).2) h) (lo_0_7 hk0 ht0).1 (lo_0_7 hk0 ht0).2 (by decide) rfl rfl rfl (Nat.le_of_ble_eq_true rfl) rfl rfl ⟨Nat.le_of_ble_eq_true rfl, Nat.le_of_ble_eq_true rfl⟩ d_Mc_unpack_4 ⟨Nat.le_of_ble_eq_true rfl, Nat.le_of_ble_eq_true rfl⟩) (fun x2 M1 h => ?_)
  refine a_if_ne fx 13 d_Mc_unpack_7 rfl (fun hc => ?_) (fun hc => ?_)
  · have h := h.1 hc
    refine a_aload_n fx 0 d_Mc_unpack_13 rfl rfl ?_
    refine a_getS fx (T := F_Mc) (j := 7) (hk := hk0) (ht := ht0) (ht2 := by decide) (hc := rfl) (hin := u_in_Mc) (hj := by decide) (hj2 := by decide) (hf := rfl) (n9 := 392) (hfo := rfl) (hT := rfl) (hw := w_311) (hd := d_Mc_unpack_14) (kk := ?_)
    refine a_aload_n fx 0 d_Mc_unpack_17 rfl rfl ?_
    refine a_getS fx (T := F_Mc) (j := 12) (hk := hk0) (ht := ht0) (ht2 := by decide) (hc := rfl) (hin := u_in_Mc) (hj := by decide) (hj2 := by decide) (hf := rfl) (n9 := 409) (hfo := rfl) (hT := rfl) (hw := w_316) (hd := d_Mc_unpack_18) (kk := ?_)
    refine a_calli (rest := []) (a_runV (As := [.ref (B + (a0 + 409))]) fx cv_Bo_join w_494 (Met_Bo_join l B D aC aS (hk0 := (lo_0_7 hk0 ht0).1) (ht0 := (lo_0_7 hk0 ht0).2) (hk1 := (lo_0_12 hk0 ht0).1) (ht1 := (lo_0_12 hk0 ht0).2) h) (lo_0_7 hk0 ht0).1 (lo_0_7 hk0 ht0).2 (by decide) rfl rfl rfl (Nat.le_of_ble_eq_true rfl) rfl rfl ⟨Nat.le_of_ble_eq_true rfl, Nat.le_of_ble_eq_true rfl⟩ d_Mc_unpack_21 ⟨Nat.le_of_ble_eq_true rfl, Nat.le_of_ble_eq_true rfl⟩) (fun x4 M3 h => ?_)
    refine a_if_ne fx 30 d_Mc_unpack_24 rfl (fun hc => ?_) (fun hc => ?_)
    · have h := h.1 hc
      refine a_aload_n fx 0 d_Mc_unpack_30 rfl rfl ?_
      refine a_getS fx (T := F_Mc) (j := 12) (hk := hk0) (ht := ht0) (ht2 := by decide) (hc := rfl) (hin := u_in_Mc) (hj := by decide) (hj2 := by decide) (hf := rfl) (n9 := 409) (hfo := rfl) (hT := rfl) (hw := w_316) (hd := d_Mc_unpack_31) (kk := ?_)
      refine a_aload_n fx 0 d_Mc_unpack_34 rfl rfl ?_
      refine a_getS fx (T := F_Mc) (j := 11) (hk := hk0) (ht := ht0) (ht2 := by decide) (hc := rfl) (hin := u_in_Mc) (hj := by decide) (hj2 := by decide) (hf := rfl) (n9 := 407) (hfo := rfl) (hT := rfl) (hw := w_315) (hd := d_Mc_unpack_35) (kk := ?_)
      refine a_callv (rest := []) (a_runS (As := [.ref (B + (a0 + 409)), .ref (B + (a0 + 407))]) fx  cv_Sp_read w_498 (Met_Sp_read l B D aC aS (hk0 := (lo_0_12 hk0 ht0).1) (ht0 := (lo_0_12 hk0 ht0).2) (hk1 := (lo_0_11 hk0 ht0).1) (ht1 := (lo_0_11 hk0 ht0).2) h) rfl rfl (Nat.le_of_ble_eq_true rfl) rfl rfl ⟨Nat.le_of_ble_eq_true rfl, Nat.le_of_ble_eq_true rfl⟩ d_Mc_unpack_38 ⟨Nat.le_of_ble_eq_true rfl, Nat.le_of_ble_eq_true rfl⟩) (fun M5 h => ?_)
      refine a_aload_n fx 0 d_Mc_unpack_41 rfl rfl ?_
      refine a_getS fx (T := F_Mc) (j := 11) (hk := hk0) (ht := ht0) (ht2 := by decide) (hc := rfl) (hin := u_in_Mc) (hj := by decide) (hj2 := by decide) (hf := rfl) (n9 := 407) (hfo := rfl) (hT := rfl) (hw := w_315) (hd := d_Mc_unpack_42) (kk := ?_)
      refine a_aload_n fx 0 d_Mc_unpack_45 rfl rfl ?_
      refine a_getS fx (T := F_Mc) (j := 13) (hk := hk0) (ht := ht0) (ht2 := by decide) (hc := rfl) (hin := u_in_Mc) (hj := by decide) (hj2 := by decide) (hf := rfl) (n9 := 411) (hfo := rfl) (hT := rfl) (hw := w_317) (hd := d_Mc_unpack_46) (kk := ?_)
      refine a_callv (rest := []) (a_runS (As := [.ref (B + (a0 + 407)), .ref (B + (a0 + 411))]) fx  cv_Sp_write w_515 (Met_Sp_write l B D aC aS (hk0 := (lo_0_11 hk0 ht0).1) (ht0 := (lo_0_11 hk0 ht0).2) (hk1 := (lo_0_13 hk0 ht0).1) (ht1 := (lo_0_13 hk0 ht0).2) h) rfl rfl (Nat.le_of_ble_eq_true rfl) rfl rfl ⟨Nat.le_of_ble_eq_true rfl, Nat.le_of_ble_eq_true rfl⟩ d_Mc_unpack_49 ⟨Nat.le_of_ble_eq_true rfl, Nat.le_of_ble_eq_true rfl⟩) (fun M6 h => ?_)
      refine a_aload_n fx 0 d_Mc_unpack_52 rfl rfl ?_
      refine a_getS fx (T := F_Mc) (j := 13) (hk := hk0) (ht := ht0) (ht2 := by decide) (hc := rfl) (hin := u_in_Mc) (hj := by decide) (hj2 := by decide) (hf := rfl) (n9 := 411) (hfo := rfl) (hT := rfl) (hw := w_317) (hd := d_Mc_unpack_53) (kk := ?_)
      refine a_aload_n fx 0 d_Mc_unpack_56 rfl rfl ?_
      refine a_getS fx (T := F_Mc) (j := 12) (hk := hk0) (ht := ht0) (ht2 := by decide) (hc := rfl) (hin := u_in_Mc) (hj := by decide) (hj2 := by decide) (hf := rfl) (n9 := 409) (hfo := rfl) (hT := rfl) (hw := w_316) (hd := d_Mc_unpack_57) (kk := ?_)
      refine a_calli (rest := []) (a_runV (As := [.ref (B + (a0 + 409))]) fx cv_Ro_same w_536 (Met_Ro_same l B D aC aS (hk0 := (lo_0_13 hk0 ht0).1) (ht0 := (lo_0_13 hk0 ht0).2) (hk1 := (lo_0_12 hk0 ht0).1) (ht1 := (lo_0_12 hk0 ht0).2) h) (lo_0_13 hk0 ht0).1 (lo_0_13 hk0 ht0).2 (by decide) rfl rfl rfl (Nat.le_of_ble_eq_true rfl) rfl rfl ⟨Nat.le_of_ble_eq_true rfl, Nat.le_of_ble_eq_true rfl⟩ d_Mc_unpack_60 ⟨Nat.le_of_ble_eq_true rfl, Nat.le_of_ble_eq_true rfl⟩) (fun x8 M7 h => ?_)
      refine a_if_ne fx 69 d_Mc_unpack_63 rfl (fun hc => ?_) (fun hc => ?_)
      · have h := h.1 hc
        refine a_aload_n fx 0 d_Mc_unpack_69 rfl rfl ?_
        refine a_getS fx (T := F_Mc) (j := 11) (hk := hk0) (ht := ht0) (ht2 := by decide) (hc := rfl) (hin := u_in_Mc) (hj := by decide) (hj2 := by decide) (hf := rfl) (n9 := 407) (hfo := rfl) (hT := rfl) (hw := w_315) (hd := d_Mc_unpack_70) (kk := ?_)
        refine a_getIN fx (T := F_Ro) (j := 1) (hk := (lo_0_11 hk0 ht0).1) (ht := (lo_0_11 hk0 ht0).2) (ht2 := by decide) (hc := rfl) (hin := u_in_Ro) (hj := by decide) (hj2 := by decide) (hf := rfl) (hT := rfl) (q9 := 4) (hw := rfl) (hd := d_Mc_unpack_73) (kk := ?_)
        refine a_sipush (v := 30000) fx d_Mc_unpack_76 rfl ?_
        refine a_icmp_gt fx 100 d_Mc_unpack_79 rfl (fun hc => ?_) (fun hc => ?_)
        · have h := h.1 hc
          refine a_bipush (v := 8) fx d_Mc_unpack_100 rfl ?_
          exact a_iret fx hlo hr h d_Mc_unpack_102
        · have h := h.2 hc
          refine a_aload_n fx 0 d_Mc_unpack_82 rfl rfl ?_
          refine a_getS fx (T := F_Mc) (j := 9) (hk := hk0) (ht := ht0) (ht2 := by decide) (hc := rfl) (hin := u_in_Mc) (hj := by decide) (hj2 := by decide) (hf := rfl) (n9 := 402) (hfo := rfl) (hT := rfl) (hw := w_313) (hd := d_Mc_unpack_83) (kk := ?_)
          refine a_aload_n fx 0 d_Mc_unpack_86 rfl rfl ?_
          refine a_getS fx (T := F_Mc) (j := 11) (hk := hk0) (ht := ht0) (ht2 := by decide) (hc := rfl) (hin := u_in_Mc) (hj := by decide) (hj2 := by decide) (hf := rfl) (n9 := 407) (hfo := rfl) (hT := rfl) (hw := w_315) (hd := d_Mc_unpack_87) (kk := ?_)
          refine a_aload_n fx 0 d_Mc_unpack_90 rfl rfl ?_
          refine a_getS fx (T := F_Mc) (j := 10) (hk := hk0) (ht := ht0) (ht2 := by decide) (hc := rfl) (hin := u_in_Mc) (hj := by decide) (hj2 := by decide) (hf := rfl) (n9 := 405) (hfo := rfl) (hT := rfl) (hw := w_314) (hd := d_Mc_unpack_91) (kk := ?_)
          refine a_calli (rest := []) (a_runV (As := [.ref (B + (a0 + 407)), .ref (B + (a0 + 405))]) fx cv_Ex_expand w_544 (Met_Ex_expand l B D aC aS (hk0 := (lo_0_9 hk0 ht0).1) (ht0 := (lo_0_9 hk0 ht0).2) (hk1 := (lo_0_11 hk0 ht0).1) (ht1 := (lo_0_11 hk0 ht0).2) (hk2 := (lo_0_10 hk0 ht0).1) (ht2 := (lo_0_10 hk0 ht0).2) h) (lo_0_9 hk0 ht0).1 (lo_0_9 hk0 ht0).2 (by decide) rfl rfl rfl (Nat.le_of_ble_eq_true rfl) rfl rfl ⟨Nat.le_of_ble_eq_true rfl, Nat.le_of_ble_eq_true rfl⟩ d_Mc_unpack_94 ⟨Nat.le_of_ble_eq_true rfl, Nat.le_of_ble_eq_true rfl⟩) (fun x10 M9 h => ?_)
          refine a_if_ne fx 103 d_Mc_unpack_97 rfl (fun hc => ?_) (fun hc => ?_)
          · have h := h.1 hc
            refine a_aload_n fx 0 d_Mc_unpack_103 rfl rfl ?_
            refine a_getS fx (T := F_Mc) (j := 8) (hk := hk0) (ht := ht0) (ht2 := by decide) (hc := rfl) (hin := u_in_Mc) (hj := by decide) (hj2 := by decide) (hf := rfl) (n9 := 398) (hfo := rfl) (hT := rfl) (hw := w_312) (hd := d_Mc_unpack_104) (kk := ?_)
            refine a_aload_n fx 0 d_Mc_unpack_107 rfl rfl ?_
            refine a_getS fx (T := F_Mc) (j := 10) (hk := hk0) (ht := ht0) (ht2 := by decide) (hc := rfl) (hin := u_in_Mc) (hj := by decide) (hj2 := by decide) (hf := rfl) (n9 := 405) (hfo := rfl) (hT := rfl) (hw := w_314) (hd := d_Mc_unpack_108) (kk := ?_)
            refine a_aload_n fx 0 d_Mc_unpack_111 rfl rfl ?_
            refine a_getS fx (T := F_Mc) (j := 11) (hk := hk0) (ht := ht0) (ht2 := by decide) (hc := rfl) (hin := u_in_Mc) (hj := by decide) (hj2 := by decide) (hf := rfl) (n9 := 407) (hfo := rfl) (hT := rfl) (hw := w_315) (hd := d_Mc_unpack_112) (kk := ?_)
            refine a_iconst (v := 2) fx d_Mc_unpack_115 rfl ?_
            refine a_calli (rest := [.ref (B + (a0 + 405)), .ref (B + (a0 + 398))]) (a_runV (As := [.int 2]) fx cv_Ro_at w_576 (Met_Ro_at l B D aC aS (hk0 := (lo_0_11 hk0 ht0).1) (ht0 := (lo_0_11 hk0 ht0).2) h) (lo_0_11 hk0 ht0).1 (lo_0_11 hk0 ht0).2 (by decide) rfl rfl rfl (Nat.le_of_ble_eq_true rfl) rfl rfl ⟨Nat.le_of_ble_eq_true rfl, Nat.le_of_ble_eq_true rfl⟩ d_Mc_unpack_116 ⟨Nat.le_of_ble_eq_true rfl, Nat.le_of_ble_eq_true rfl⟩) (fun x12 M11 h => ?_)
            refine a_sipush (v := 128) fx d_Mc_unpack_119 rfl ?_
            refine a_isub fx d_Mc_unpack_122 ?_
            refine a_aload_n fx 0 d_Mc_unpack_123 rfl rfl ?_
            refine a_getS fx (T := F_Mc) (j := 13) (hk := hk0) (ht := ht0) (ht2 := by decide) (hc := rfl) (hin := u_in_Mc) (hj := by decide) (hj2 := by decide) (hf := rfl) (n9 := 411) (hfo := rfl) (hT := rfl) (hw := w_317) (hd := d_Mc_unpack_124) (kk := ?_)
            refine a_callv (rest := []) (a_runV (As := [.ref (B + (a0 + 405)), .int (x12 - 128), .ref (B + (a0 + 411))]) fx cv_Sq_squeeze w_577 (Met_Sq_squeeze l B D aC aS (hk0 := (lo_0_8 hk0 ht0).1) (ht0 := (lo_0_8 hk0 ht0).2) (hk1 := (lo_0_10 hk0 ht0).1) (ht1 := (lo_0_10 hk0 ht0).2) (hk3 := (lo_0_13 hk0 ht0).1) (ht3 := (lo_0_13 hk0 ht0).2) h) (lo_0_8 hk0 ht0).1 (lo_0_8 hk0 ht0).2 (by decide) rfl rfl rfl (Nat.le_of_ble_eq_true rfl) rfl rfl ⟨Nat.le_of_ble_eq_true rfl, Nat.le_of_ble_eq_true rfl⟩ d_Mc_unpack_127 ⟨Nat.le_of_ble_eq_true rfl, Nat.le_of_ble_eq_true rfl⟩) (fun M13 h => ?_)
            refine a_aload_n fx 0 d_Mc_unpack_130 rfl rfl ?_
            refine a_getS fx (T := F_Mc) (j := 13) (hk := hk0) (ht := ht0) (ht2 := by decide) (hc := rfl) (hin := u_in_Mc) (hj := by decide) (hj2 := by decide) (hf := rfl) (n9 := 411) (hfo := rfl) (hT := rfl) (hw := w_317) (hd := d_Mc_unpack_131) (kk := ?_)
            refine a_aload_n fx 0 d_Mc_unpack_134 rfl rfl ?_
            refine a_getS fx (T := F_Mc) (j := 11) (hk := hk0) (ht := ht0) (ht2 := by decide) (hc := rfl) (hin := u_in_Mc) (hj := by decide) (hj2 := by decide) (hf := rfl) (n9 := 407) (hfo := rfl) (hT := rfl) (hw := w_315) (hd := d_Mc_unpack_135) (kk := ?_)
            refine a_calli (rest := []) (a_runV (As := [.ref (B + (a0 + 407))]) fx cv_Ro_same w_536 (Met_Ro_same l B D aC aS (hk0 := (lo_0_13 hk0 ht0).1) (ht0 := (lo_0_13 hk0 ht0).2) (hk1 := (lo_0_11 hk0 ht0).1) (ht1 := (lo_0_11 hk0 ht0).2) h) (lo_0_13 hk0 ht0).1 (lo_0_13 hk0 ht0).2 (by decide) rfl rfl rfl (Nat.le_of_ble_eq_true rfl) rfl rfl ⟨Nat.le_of_ble_eq_true rfl, Nat.le_of_ble_eq_true rfl⟩ d_Mc_unpack_138 ⟨Nat.le_of_ble_eq_true rfl, Nat.le_of_ble_eq_true rfl⟩) (fun x15 M14 h => ?_)
            refine a_if_ne fx 147 d_Mc_unpack_141 rfl (fun hc => ?_) (fun hc => ?_)
            · have h := h.1 hc
              refine a_aload_n fx 0 d_Mc_unpack_147 rfl rfl ?_
              refine a_getS fx (T := F_Mc) (j := 10) (hk := hk0) (ht := ht0) (ht2 := by decide) (hc := rfl) (hin := u_in_Mc) (hj := by decide) (hj2 := by decide) (hf := rfl) (n9 := 405) (hfo := rfl) (hT := rfl) (hw := w_314) (hd := d_Mc_unpack_148) (kk := ?_)
              refine a_aload_n fx 0 d_Mc_unpack_151 rfl rfl ?_
              refine a_getR fx (T := F_Mc) (j := 3) (hk := hk0) (ht := ht0) (ht2 := by decide) (hc := rfl) (hin := u_in_Mc) (hj := by decide) (hj2 := by decide) (hf := rfl) (hT := rfl) (hw := w_307) (hd := d_Mc_unpack_152) (kk := ?_)
              refine a_topr (fun r16 er16 => ?_)
              obtain ⟨hkr16, htr16, h⟩ := h r16 er16
              refine a_calli (rest := []) (a_runS (As := [.ref (B + (a0 + 405)), .ref (B + r16)]) fx  cv_Ar_read w_919 (Met_Ar_read l B D aC aS (hk0 := (lo_0_10 hk0 ht0).1) (ht0 := (lo_0_10 hk0 ht0).2) (hk1 := hkr16) (ht1 := htr16) h) rfl rfl (Nat.le_of_ble_eq_true rfl) rfl rfl ⟨Nat.le_of_ble_eq_true rfl, Nat.le_of_ble_eq_true rfl⟩ d_Mc_unpack_155 ⟨Nat.le_of_ble_eq_true rfl, Nat.le_of_ble_eq_true rfl⟩) (fun x18 M17 h => ?_)
              refine a_if_ne fx 164 d_Mc_unpack_158 rfl (fun hc => ?_) (fun hc => ?_)
              · have h := h.1 hc
                refine a_aload_n fx 0 d_Mc_unpack_164 rfl rfl ?_
                refine a_getR fx (T := F_Mc) (j := 3) (hk := hk0) (ht := ht0) (ht2 := by decide) (hc := rfl) (hin := u_in_Mc) (hj := by decide) (hj2 := by decide) (hf := rfl) (hT := rfl) (hw := w_307) (hd := d_Mc_unpack_165) (kk := ?_)
                refine a_topr (fun r19 er19 => ?_)
                obtain ⟨hkr19, htr19, h⟩ := h r19 er19
                refine a_aload_n fx 0 d_Mc_unpack_168 rfl rfl ?_
                refine a_getS fx (T := F_Mc) (j := 13) (hk := hk0) (ht := ht0) (ht2 := by decide) (hc := rfl) (hin := u_in_Mc) (hj := by decide) (hj2 := by decide) (hf := rfl) (n9 := 411) (hfo := rfl) (hT := rfl) (hw := w_317) (hd := d_Mc_unpack_169) (kk := ?_)
                refine a_callv (rest := []) (a_runS (As := [.ref (B + r19), .ref (B + (a0 + 411))]) fx  cv_Ar_write w_1009 (Met_Ar_write l B D aC aS (hk0 := hkr19) (ht0 := htr19) (hk1 := (lo_0_13 hk0 ht0).1) (ht1 := (lo_0_13 hk0 ht0).2) h) rfl rfl (Nat.le_of_ble_eq_true rfl) rfl rfl ⟨Nat.le_of_ble_eq_true rfl, Nat.le_of_ble_eq_true rfl⟩ d_Mc_unpack_172 ⟨Nat.le_of_ble_eq_true rfl, Nat.le_of_ble_eq_true rfl⟩) (fun M20 h => ?_)
                refine a_aload_n fx 0 d_Mc_unpack_175 rfl rfl ?_
                refine a_getS fx (T := F_Mc) (j := 13) (hk := hk0) (ht := ht0) (ht2 := by decide) (hc := rfl) (hin := u_in_Mc) (hj := by decide) (hj2 := by decide) (hf := rfl) (n9 := 411) (hfo := rfl) (hT := rfl) (hw := w_317) (hd := d_Mc_unpack_176) (kk := ?_)
                refine a_aload_n fx 0 d_Mc_unpack_179 rfl rfl ?_
                refine a_getS fx (T := F_Mc) (j := 10) (hk := hk0) (ht := ht0) (ht2 := by decide) (hc := rfl) (hin := u_in_Mc) (hj := by decide) (hj2 := by decide) (hf := rfl) (n9 := 405) (hfo := rfl) (hT := rfl) (hw := w_314) (hd := d_Mc_unpack_180) (kk := ?_)
                refine a_calli (rest := []) (a_runV (As := [.ref (B + (a0 + 405))]) fx cv_Ro_same w_536 (Met_Ro_same l B D aC aS (hk0 := (lo_0_13 hk0 ht0).1) (ht0 := (lo_0_13 hk0 ht0).2) (hk1 := (lo_0_10 hk0 ht0).1) (ht1 := (lo_0_10 hk0 ht0).2) h) (lo_0_13 hk0 ht0).1 (lo_0_13 hk0 ht0).2 (by decide) rfl rfl rfl (Nat.le_of_ble_eq_true rfl) rfl rfl ⟨Nat.le_of_ble_eq_true rfl, Nat.le_of_ble_eq_true rfl⟩ d_Mc_unpack_183 ⟨Nat.le_of_ble_eq_true rfl, Nat.le_of_ble_eq_true rfl⟩) (fun x22 M21 h => ?_)
                refine a_if_ne fx 192 d_Mc_unpack_186 rfl (fun hc => ?_) (fun hc => ?_)
                · have h := h.1 hc
                  refine a_aload_n fx 0 d_Mc_unpack_192 rfl rfl ?_
                  refine a_callv (rest := []) (a_runV (As := []) fx cv_Mc_swapYours w_1038 (Met_Mc_swapYours l B D aC aS (hk0 := hk0) (ht0 := ht0) h) hk0 ht0 (by decide) rfl rfl rfl (Nat.le_of_ble_eq_true rfl) rfl rfl ⟨Nat.le_of_ble_eq_true rfl, Nat.le_of_ble_eq_true rfl⟩ d_Mc_unpack_193 ⟨Nat.le_of_ble_eq_true rfl, Nat.le_of_ble_eq_true rfl⟩) (fun M23 h => ?_)
                  refine a_aload_n fx 0 d_Mc_unpack_196 rfl rfl ?_
                  refine a_getS fx (T := F_Mc) (j := 7) (hk := hk0) (ht := ht0) (ht2 := by decide) (hc := rfl) (hin := u_in_Mc) (hj := by decide) (hj2 := by decide) (hf := rfl) (n9 := 392) (hfo := rfl) (hT := rfl) (hw := w_311) (hd := d_Mc_unpack_197) (kk := ?_)
                  refine a_callv (rest := []) (a_runV (As := []) fx cv_Bo_wipe w_481 (Met_Bo_wipe l B D aC aS (hk0 := (lo_0_7 hk0 ht0).1) (ht0 := (lo_0_7 hk0 ht0).2) h) (lo_0_7 hk0 ht0).1 (lo_0_7 hk0 ht0).2 (by decide) rfl rfl rfl (Nat.le_of_ble_eq_true rfl) rfl rfl ⟨Nat.le_of_ble_eq_true rfl, Nat.le_of_ble_eq_true rfl⟩ d_Mc_unpack_200 ⟨Nat.le_of_ble_eq_true rfl, Nat.le_of_ble_eq_true rfl⟩) (fun M24 h => ?_)
                  refine a_iconst (v := 0) fx d_Mc_unpack_203 rfl ?_
                  exact a_iret fx hlo hr h d_Mc_unpack_204
                · have h := h.2 hc
                  refine a_bipush (v := 9) fx d_Mc_unpack_189 rfl ?_
                  exact a_iret fx hlo hr h d_Mc_unpack_191
              · have h := h.2 hc
                refine a_bipush (v := 9) fx d_Mc_unpack_161 rfl ?_
                exact a_iret fx hlo hr h d_Mc_unpack_163
            · have h := h.2 hc
              refine a_bipush (v := 8) fx d_Mc_unpack_144 rfl ?_
              exact a_iret fx hlo hr h d_Mc_unpack_146
          · have h := h.2 hc
            refine a_bipush (v := 8) fx d_Mc_unpack_100 rfl ?_
            exact a_iret fx hlo hr h d_Mc_unpack_102
      · have h := h.2 hc
        refine a_bipush (v := 7) fx d_Mc_unpack_66 rfl ?_
        exact a_iret fx hlo hr h d_Mc_unpack_68
    · have h := h.2 hc
      refine a_bipush (v := 7) fx d_Mc_unpack_27 rfl ?_
      exact a_iret fx hlo hr h d_Mc_unpack_29
  · have h := h.2 hc
    refine a_bipush (v := 6) fx d_Mc_unpack_10 rfl ?_
    exact a_iret fx hlo hr h d_Mc_unpack_12
