theorem w_32 : Cond.classLink "MailChainLaw" 8 "MailChain" ∈ tb := tbc_1 32 rfl rfl
theorem w_33 : Cond.instantiable "MailChain" 14 ∈ tb := tbc_1 33 rfl rfl
theorem w_34 : Cond.methodLink "MailChainLaw" 56 y_Mc_init ∈ tb := tbc_1 34 rfl rfl
theorem w_35 : Cond.instanceMethod y_Mc_init ∈ tb := tbc_1 35 rfl rfl
theorem w_36 : Cond.code y_Mc_init b_Mc_init 1 none ∈ tb := tbc_1 36 rfl rfl
theorem w_1258 : Cond.classLink "MailChainLaw" 57 "MailChainModel" ∈ tb := tbc_6 58 rfl rfl
theorem w_1259 : Cond.instantiable "MailChainModel" 62 ∈ tb := tbc_6 59 rfl rfl
theorem w_1260 : Cond.methodLink "MailChainLaw" 59 y_Mo_init ∈ tb := tbc_6 60 rfl rfl
theorem w_1261 : Cond.instanceMethod y_Mo_init ∈ tb := tbc_6 61 rfl rfl
theorem w_1262 : Cond.code y_Mo_init b_Mo_init 1 none ∈ tb := tbc_6 62 rfl rfl
theorem w_1747 : Cond.arrayClass .long ∈ tb := tbc_8 67 rfl rfl
theorem def_0 : ∀ j, j < 14 → defaultValue (t_Mc j) = dfv (ft 0 j) := by decide +kernel
theorem def_9 : ∀ j, j < 62 → defaultValue (t_Mo j) = dfv (ft 9 j) := by decide +kernel
def Wf_La_law (L : Nat) (xs : Nat → Int32) (M : zM) (F : zFl) : Prop := yFr M F 0 ∧ Wf_Mc_init 0 1 M F (fun N2 M2 F2 => N2 = 413 ∧ yFr M2 F2 413 ∧ Wf_Mo_init 413 414 M2 F2 (fun N3 M3 F3 => N3 = 451 ∧ yFr M3 F3 451 ∧ (∀ k, k < N0 → ∀ j, F3 k j = false) ∧ Wp_La_law L xs 0 413 451 452 1149866 M3))
theorem d_La_law_0 : decode code 0 = .ok (.new 8, 3) := by decide +kernel
theorem d_La_law_3 : decode code 3 = .ok (.dup, 1) := by decide +kernel
theorem d_La_law_4 : decode code 4 = .ok (.invokespecial 56, 3) := by decide +kernel
theorem d_La_law_7 : decode code 7 = .ok (.astore_n 1, 1) := by decide +kernel
theorem d_La_law_8 : decode code 8 = .ok (.new 57, 3) := by decide +kernel
theorem d_La_law_11 : decode code 11 = .ok (.dup, 1) := by decide +kernel
theorem d_La_law_12 : decode code 12 = .ok (.invokespecial 59, 3) := by decide +kernel
theorem d_La_law_15 : decode code 15 = .ok (.astore_n 2, 1) := by decide +kernel
theorem d_La_law_16 : decode code 16 = .ok (.iconst 1, 1) := by decide +kernel
theorem d_La_law_17 : decode code 17 = .ok (.newarray .long, 2) := by decide +kernel
theorem d_La_law_19 : decode code 19 = .ok (.astore_n 3, 1) := by decide +kernel
set_option maxRecDepth 100000 in
set_option maxHeartbeats 4000000 in
theorem Met_start {p : Program} {l : Launch} {e : Env} {s : State} {m : MethodId} {below : List Frame} {meth : Method} {c : Code} {b : Nat} {B : Nat} {D : va_G} {aC : Nat → ClassId} {aS : Nat → Nat} {L : Nat} {xs : Nat → Int32} {M : zM} {F : zFl} (hfl : l.flags = pinnedFlags ++ [noTraceFlag]) (fx : yFx p s m #[Value.ref b] c B D aC aS 7 code "MailChainLaw") (fz : zFx p s m #[Value.ref b] c B D aC aS 7 code "MailChainLaw") (hB : s.heap.size = B) (hr : meth.sig.returnType = ret) (hlo : meth.locks = false) (hX : va_X b L xs s s.heap) (hbl : b < s.heap.size) (h : Wf_La_law L xs M F) : W p l e room_1 s m #[Value.ref b] below meth c s.heap [] 0 0 (lw_Z below #[Value.ref b] s) (entryFrame m ([Value.ref b] : List Value).toArray 7) := by
  have hl := lv_entry [Value.ref b] (n := 7) (Nat.le_of_ble_eq_true rfl)
  rw [lg_entry_eq]
  obtain ⟨hfr, h⟩ := h
  refine f_new0 (lv := [(0, .ref b)]) fx (T := F_Mc) (ty := t_Mc) hB rfl (by decide) rfl u_in_Mc t_Mc_ok def_0 rfl hfr w_32 w_33 w_1 (Nat.le_of_ble_eq_true rfl) (Nat.le_of_ble_eq_true rfl) d_La_law_0 ?_ hl
  refine f_dup fx d_La_law_3 rfl ?_
  refine f_callI (As := []) (k := 0) (rest := [.ref (B + 0)]) fx (by decide) (by decide) (by omega) w_34 w_35 w_1 w_36 rfl ⟨by decide, by decide, by decide +kernel⟩ (Mef_Mc_init l B D aC aS h) rfl rfl (Nat.le_of_ble_eq_true rfl) rfl rfl ⟨Nat.le_of_ble_eq_true rfl, Nat.le_of_ble_eq_true rfl⟩ d_La_law_4 ⟨Nat.le_of_ble_eq_true rfl, Nat.le_of_ble_eq_true rfl⟩ (fun N2 M2 F2 h => ?_)
  obtain ⟨hN2, hfr, h⟩ := h
  subst hN2
  refine f_astore_n (lv2 := [(1, .ref (B + 0)), (0, .ref b)]) fx d_La_law_7 rfl (by decide) rfl ?_
  refine f_new fx (T := F_Mo) (ty := t_Mo) (by decide) (by omega) rfl (by decide) rfl u_in_Mo t_Mo_ok def_9 rfl hfr w_1258 w_1259 w_11 (Nat.le_of_ble_eq_true rfl) (Nat.le_of_ble_eq_true rfl) d_La_law_8 ?_
  refine f_dup fx d_La_law_11 rfl ?_
  refine f_callI (As := []) (k := 413) (rest := [.ref (B + 413)]) fx (by decide) (by decide) (by omega) w_1260 w_1261 w_11 w_1262 rfl ⟨by decide, by decide, by decide +kernel⟩ (Mef_Mo_init l B D aC aS h) rfl rfl (Nat.le_of_ble_eq_true rfl) rfl rfl ⟨Nat.le_of_ble_eq_true rfl, Nat.le_of_ble_eq_true rfl⟩ d_La_law_12 ⟨Nat.le_of_ble_eq_true rfl, Nat.le_of_ble_eq_true rfl⟩ (fun N3 M3 F3 h => ?_)
  obtain ⟨hN3, hfr, hF, h⟩ := h
  subst hN3
  refine f_astore_n (lv2 := [(2, .ref (B + 413)), (1, .ref (B + 0)), (0, .ref b)]) fx d_La_law_15 rfl (by decide) rfl ?_
  refine f_iconst (v := 1) fx d_La_law_16 rfl ?_
  refine f_newaL fx (n := 1) (N' := 1) (by decide) (by omega) rfl rfl hfr (by decide) (by decide) (by decide) w_1747 (Nat.le_of_ble_eq_true rfl) (Nat.le_of_ble_eq_true rfl) d_La_law_17 ?_
  refine f_astore_n (lv2 := [(3, .ref (B + 451)), (2, .ref (B + 413)), (1, .ref (B + 0)), (0, .ref b)]) fx d_La_law_19 rfl (by decide) rfl ?_
  refine f_sub [3, 2, 1, 0] rfl ?_
  exact f_done hB hF (Met_La_law hfl fz hB hr hlo hX hbl (by decide) rfl (by decide) rfl (by decide) rfl h)
