theorem w_37 : Cond.methodLink "MailChain" 1 Lib.objectInit ∈ tb := tbc_1 37 rfl rfl
theorem w_38 : Cond.instanceMethod Lib.objectInit ∈ tb := tbc_1 38 rfl rfl
theorem w_39 : Cond.code Lib.objectInit ⟨#[0xb1]⟩ 1 none ∈ tb := tbc_1 39 rfl rfl
theorem w_40 : Cond.classLink "MailChain" 7 "MailChain$Row" ∈ tb := tbc_1 40 rfl rfl
theorem w_41 : Cond.instantiable "MailChain$Row" 2 ∈ tb := tbc_1 41 rfl rfl
theorem w_42 : Cond.methodLink "MailChain" 11 y_Ro_init ∈ tb := tbc_1 42 rfl rfl
theorem w_43 : Cond.instanceMethod y_Ro_init ∈ tb := tbc_1 43 rfl rfl
theorem w_44 : Cond.code y_Ro_init b_Ro_init 2 none ∈ tb := tbc_1 44 rfl rfl
theorem w_45 : Cond.methodLink "MailChain$Row" 3 Lib.objectInit ∈ tb := tbc_1 45 rfl rfl
theorem w_62 : Cond.arrayClass .byte ∈ tb := tbc_1 62 rfl rfl
theorem w_63 : Cond.classLink "MailChain" 18 "MailChain$Tree" ∈ tb := tbc_1 63 rfl rfl
theorem w_64 : Cond.instantiable "MailChain$Tree" 4 ∈ tb := tbc_1 64 rfl rfl
theorem w_65 : Cond.methodLink "MailChain" 20 y_Tr_init ∈ tb := tbc_1 65 rfl rfl
theorem w_66 : Cond.instanceMethod y_Tr_init ∈ tb := tbc_1 66 rfl rfl
theorem w_67 : Cond.code y_Tr_init b_Tr_init 2 none ∈ tb := tbc_1 67 rfl rfl
theorem w_68 : Cond.methodLink "MailChain$Tree" 3 Lib.objectInit ∈ tb := tbc_1 68 rfl rfl
theorem w_69 : Cond.classLink "MailChain$Tree" 9 "MailChain$Entry" ∈ tb := tbc_1 69 rfl rfl
theorem w_71 : Cond.instantiable "MailChain$Entry" 9 ∈ tb := tbc_1 71 rfl rfl
theorem w_72 : Cond.methodLink "MailChain$Tree" 17 y_En_init ∈ tb := tbc_1 72 rfl rfl
theorem w_73 : Cond.instanceMethod y_En_init ∈ tb := tbc_1 73 rfl rfl
theorem w_74 : Cond.code y_En_init b_En_init 1 none ∈ tb := tbc_1 74 rfl rfl
theorem w_75 : Cond.methodLink "MailChain$Entry" 3 Lib.objectInit ∈ tb := tbc_1 75 rfl rfl
theorem w_76 : Cond.classLink "MailChain$Entry" 9 "MailChain$Row" ∈ tb := tbc_1 76 rfl rfl
theorem w_77 : Cond.methodLink "MailChain$Entry" 11 y_Ro_init ∈ tb := tbc_1 77 rfl rfl
theorem w_129 : Cond.classLink "MailChain$Tree" 18 "MailChain$Row" ∈ tb := tbc_1 129 rfl rfl
theorem w_130 : Cond.methodLink "MailChain$Tree" 20 y_Ro_init ∈ tb := tbc_1 130 rfl rfl
theorem w_148 : Cond.classLink "MailChain" 38 "MailChain$Mail" ∈ tb := tbc_1 148 rfl rfl
theorem w_149 : Cond.instantiable "MailChain$Mail" 5 ∈ tb := tbc_1 149 rfl rfl
theorem w_150 : Cond.methodLink "MailChain" 40 y_Ma_init ∈ tb := tbc_1 150 rfl rfl
theorem w_151 : Cond.instanceMethod y_Ma_init ∈ tb := tbc_1 151 rfl rfl
theorem w_152 : Cond.code y_Ma_init b_Ma_init 1 none ∈ tb := tbc_1 152 rfl rfl
theorem w_153 : Cond.methodLink "MailChain$Mail" 3 Lib.objectInit ∈ tb := tbc_1 153 rfl rfl
theorem w_154 : Cond.classLink "MailChain$Mail" 9 "MailChain$Row" ∈ tb := tbc_1 154 rfl rfl
theorem w_155 : Cond.methodLink "MailChain$Mail" 11 y_Ro_init ∈ tb := tbc_1 155 rfl rfl
theorem w_156 : Cond.constant "MailChain$Mail" 20 36000 ∈ tb := tbc_1 156 rfl rfl
theorem w_176 : Cond.arrayClass .int ∈ tb := tbc_1 176 rfl rfl
theorem w_177 : Cond.classLink "MailChain" 45 "MailChain$Box" ∈ tb := tbc_1 177 rfl rfl
theorem w_178 : Cond.instantiable "MailChain$Box" 7 ∈ tb := tbc_1 178 rfl rfl
theorem w_179 : Cond.methodLink "MailChain" 47 y_Bo_init ∈ tb := tbc_1 179 rfl rfl
theorem w_180 : Cond.instanceMethod y_Bo_init ∈ tb := tbc_1 180 rfl rfl
theorem w_181 : Cond.code y_Bo_init b_Bo_init 1 none ∈ tb := tbc_1 181 rfl rfl
theorem w_182 : Cond.methodLink "MailChain$Box" 3 Lib.objectInit ∈ tb := tbc_1 182 rfl rfl
theorem w_183 : Cond.classLink "MailChain$Box" 9 "MailChain$Row" ∈ tb := tbc_1 183 rfl rfl
theorem w_185 : Cond.methodLink "MailChain$Box" 12 y_Ro_init ∈ tb := tbc_1 185 rfl rfl
theorem w_189 : Cond.classLink "MailChain$Box" 34 "MailChain$PartLine" ∈ tb := tbc_1 189 rfl rfl
theorem w_190 : Cond.instantiable "MailChain$PartLine" 5 ∈ tb := tbc_1 190 rfl rfl
theorem w_192 : Cond.instanceMethod y_Pl_init ∈ tb := tbc_1 192 rfl rfl
theorem w_193 : Cond.code y_Pl_init b_Pl_init 1 none ∈ tb := tbc_1 193 rfl rfl
theorem w_194 : Cond.methodLink "MailChain$PartLine" 3 Lib.objectInit ∈ tb := tbc_1 194 rfl rfl
theorem w_239 : Cond.classLink "MailChain" 52 "MailChain$Squeezer" ∈ tb := tbc_1 239 rfl rfl
theorem w_240 : Cond.instantiable "MailChain$Squeezer" 9 ∈ tb := tbc_2 0 rfl rfl
theorem w_241 : Cond.methodLink "MailChain" 54 y_Sq_init ∈ tb := tbc_2 1 rfl rfl
theorem w_242 : Cond.instanceMethod y_Sq_init ∈ tb := tbc_2 2 rfl rfl
theorem w_243 : Cond.code y_Sq_init b_Sq_init 1 none ∈ tb := tbc_2 3 rfl rfl
theorem w_244 : Cond.methodLink "MailChain$Squeezer" 3 Lib.objectInit ∈ tb := tbc_2 4 rfl rfl
theorem w_273 : Cond.classLink "MailChain" 59 "MailChain$Expander" ∈ tb := tbc_2 33 rfl rfl
theorem w_274 : Cond.instantiable "MailChain$Expander" 7 ∈ tb := tbc_2 34 rfl rfl
theorem w_275 : Cond.methodLink "MailChain" 61 y_Ex_init ∈ tb := tbc_2 35 rfl rfl
theorem w_276 : Cond.instanceMethod y_Ex_init ∈ tb := tbc_2 36 rfl rfl
theorem w_277 : Cond.code y_Ex_init b_Ex_init 1 none ∈ tb := tbc_2 37 rfl rfl
theorem w_278 : Cond.methodLink "MailChain$Expander" 3 Lib.objectInit ∈ tb := tbc_2 38 rfl rfl
theorem w_301 : Cond.constant "MailChain" 69 36000 ∈ tb := tbc_2 61 rfl rfl
theorem w_302 : Cond.constant "MailChain" 73 48000 ∈ tb := tbc_2 62 rfl rfl
theorem w_303 : Cond.constant "MailChain" 77 50000 ∈ tb := tbc_2 63 rfl rfl
theorem w_1263 : Cond.methodLink "MailChainModel" 1 Lib.objectInit ∈ tb := tbc_6 63 rfl rfl
theorem w_1264 : Cond.constant "MailChainModel" 68 60000 ∈ tb := tbc_6 64 rfl rfl
theorem w_1266 : Cond.constant "MailChainModel" 82 56000 ∈ tb := tbc_6 66 rfl rfl
theorem w_1267 : Cond.constant "MailChainModel" 102 70000 ∈ tb := tbc_6 67 rfl rfl
theorem w_1268 : Cond.constant "MailChainModel" 112 65537 ∈ tb := tbc_6 68 rfl rfl
theorem w_1456 : Cond.arrayClass .boolean ∈ tb := tbc_7 16 rfl rfl
theorem def_1 : ∀ j, j < 2 → defaultValue (t_Ro j) = dfv (ft 1 j) := by decide +kernel
theorem def_2 : ∀ j, j < 9 → defaultValue (t_En j) = dfv (ft 2 j) := by decide +kernel
theorem def_3 : ∀ j, j < 4 → defaultValue (t_Tr j) = dfv (ft 3 j) := by decide +kernel
theorem def_4 : ∀ j, j < 5 → defaultValue (t_Ma j) = dfv (ft 4 j) := by decide +kernel
theorem def_5 : ∀ j, j < 5 → defaultValue (t_Pl j) = dfv (ft 5 j) := by decide +kernel
theorem def_6 : ∀ j, j < 7 → defaultValue (t_Bo j) = dfv (ft 6 j) := by decide +kernel
theorem def_7 : ∀ j, j < 9 → defaultValue (t_Sq j) = dfv (ft 7 j) := by decide +kernel
theorem def_8 : ∀ j, j < 7 → defaultValue (t_Ex j) = dfv (ft 8 j) := by decide +kernel
set_option maxRecDepth 100000 in
/-- MailChain.Row.<init>(I)V, while the memory grows -/
def Wf_Ro_init (a0 : Nat) (i1 : Int32) (N : Nat) (M : zM) (F : zFl) (post : Nat → zM → zFl → Prop) : Prop := (0 < N ∧ N + 0 = N ∧ tg N = 20 ∧ ln N = (i1).toNatClampNeg ∧ yFr M F N ∧ 0 + 1 ≤ 1 ∧ 0 + (i1).toNatClampNeg ≤ (i1).toNatClampNeg ∧ ¬ i1 < 0 ∧ (i1).toNatClampNeg * 1 ≤ 536870912 ∧ (a0 < (N + 1) ∧ tg a0 = 1 ∧ N = a0 + 1 ∧ ∀ F1 : zFl, F1 = yset F a0 0 → (a0 < (N + 1) ∧ tg a0 = 1 ∧ ∀ M2 : zM, M2 = zI M a0 1 0 → (0 < (N + 1) ∧ N + 1 = (N + 1) ∧ 1 = 1 ∧ (0 + (i1).toNatClampNeg) ≤ (i1).toNatClampNeg ∧ (post (N + 1) M2 F1)))))
set_option maxRecDepth 100000 in
/-- MailChain.Entry.<init>()V, while the memory grows -/
def Wf_En_init (a0 : Nat) (N : Nat) (M : zM) (F : zFl) (post : Nat → zM → zFl → Prop) : Prop := (0 < N ∧ N + 0 = N ∧ tg N = 1 ∧ yFr M F N ∧ 0 + 1 ≤ 2 ∧ 0 + 2 ≤ 62 ∧ (0 < (N + 1) ∧ N + 1 = (N + 1) ∧ (N + 1) ≤ N0 ∧ 1 + 1 ≤ 2 ∧ 2 + 60 ≤ 62 ∧ (Wf_Ro_init N 60 (N + 1) M F (fun N3 M1 F2 => (a0 < N3 ∧ tg a0 = 2 ∧ N = a0 + 1 ∧ ∀ F4 : zFl, F4 = yset F2 a0 0 → (0 < N3 ∧ N + 2 = N3 ∧ 2 = 2 ∧ 62 ≤ 62 ∧ (post N3 M1 F4)))))))
set_option maxRecDepth 100000 in
/-- MailChain.PartLine.<init>()V, while the memory grows -/
def Wf_Pl_init (a0 : Nat) (N : Nat) (M : zM) (F : zFl) (post : Nat → zM → zFl → Prop) : Prop := (0 < N ∧ N + 0 = N ∧ 0 = 0 ∧ 0 ≤ 0 ∧ (post N M F))
set_option maxRecDepth 100000 in
/-- MailChain.Tree.<init>()V, while the memory grows -/
def Wf_Tr_init (a0 : Nat) (N : Nat) (M : zM) (F : zFl) (post : Nat → zM → zFl → Prop) : Prop := ∀ K15 : Int32 → Nat → Nat → Nat → zM → zFl → Prop, (∀ (v1 : Int32) (NL cn sn : Nat) (M : zM) (F : zFl), (a0 < NL ∧ tg a0 = 3 ∧ F a0 0 = false ∧ ((a0 + 1) < NL ∧ tg (a0 + 1) = 24 ∧ (((Int32.ofNat (ln (a0 + 1))) ≤ v1 → (0 < NL ∧ N + cn = NL ∧ tg NL = 1 ∧ yFr M F NL ∧ cn + 1 ≤ 126 ∧ sn + 2 ≤ 11354 ∧ (0 < (NL + 1) ∧ N + (cn + 1) = (NL + 1) ∧ (NL + 1) ≤ N0 ∧ (cn + 1) + 1 ≤ 126 ∧ (sn + 2) + 8400 ≤ 11354 ∧ (Wf_Ro_init NL 8400 (NL + 1) M F (fun N4 M2 F3 => (a0 < N4 ∧ tg a0 = 3 ∧ NL = a0 + 125 ∧ ∀ F5 : zFl, F5 = yset F3 a0 1 → (a0 < N4 ∧ tg a0 = 3 ∧ ∀ M6 : zM, M6 = zI M2 a0 2 0 → (a0 < N4 ∧ tg a0 = 3 ∧ ∀ M7 : zM, M7 = zI M6 a0 3 0 → (0 < N4 ∧ N + (cn + 2) = N4 ∧ (cn + 2) = 126 ∧ (sn + 8402) ≤ 11354 ∧ (post N4 M7 F5)))))))))) ∧ (¬ (Int32.ofNat (ln (a0 + 1))) ≤ v1 → (a0 < NL ∧ tg a0 = 3 ∧ F a0 0 = false ∧ (0 < NL ∧ N + cn = NL ∧ tg NL = 2 ∧ yFr M F NL ∧ cn + 1 ≤ 126 ∧ sn + 9 ≤ 11354 ∧ (0 < (NL + 1) ∧ N + (cn + 1) = (NL + 1) ∧ (NL + 1) ≤ N0 ∧ (cn + 1) + 2 ≤ 126 ∧ (sn + 9) + 62 ≤ 11354 ∧ (Wf_En_init NL (NL + 1) M F (fun N10 M8 F9 => ((a0 + 1) < N10 ∧ tg (a0 + 1) = 24 ∧ NL < N10 ∧ tg NL = 2 ∧ vp_in v1 (ln (a0 + 1)) ∧ ∀ M11 : zM, M11 = zR M8 (a0 + 1) (v1).toNatClampNeg NL → ∀ F12 : zFl, F12 = yset F9 (a0 + 1) (v1).toNatClampNeg → (∀ x13 : Int32, x13 = v1 + 1 → (K15 x13 N10 (cn + 3) (sn + 71) M11 F12)))))))))))) → K15 v1 NL cn sn M F) → (0 < N ∧ N + 0 = N ∧ tg N = 24 ∧ ln N = 41 ∧ yFr M F N ∧ 0 + 1 ≤ 126 ∧ 0 + 41 ≤ 11354 ∧ (a0 < (N + 1) ∧ tg a0 = 3 ∧ N = a0 + 1 ∧ ∀ F1 : zFl, F1 = yset F a0 0 → (K15 0 (N + 1) 1 41 M F1)))
set_option maxRecDepth 100000 in
/-- MailChain.Mail.<init>()V, while the memory grows -/
def Wf_Ma_init (a0 : Nat) (N : Nat) (M : zM) (F : zFl) (post : Nat → zM → zFl → Prop) : Prop := (0 < N ∧ N + 0 = N ∧ tg N = 1 ∧ yFr M F N ∧ 0 + 1 ≤ 5 ∧ 0 + 2 ≤ 63003 ∧ (0 < (N + 1) ∧ N + 1 = (N + 1) ∧ (N + 1) ≤ N0 ∧ 1 + 1 ≤ 5 ∧ 2 + 26000 ≤ 63003 ∧ (Wf_Ro_init N 26000 (N + 1) M F (fun N3 M1 F2 => (a0 < N3 ∧ tg a0 = 4 ∧ N = a0 + 1 ∧ ∀ F4 : zFl, F4 = yset F2 a0 0 → (0 < N3 ∧ N + 2 = N3 ∧ tg N3 = 1 ∧ yFr M1 F4 N3 ∧ 2 + 1 ≤ 5 ∧ 26002 + 2 ≤ 63003 ∧ (0 < (N3 + 1) ∧ N + 3 = (N3 + 1) ∧ (N3 + 1) ≤ N0 ∧ 3 + 1 ≤ 5 ∧ 26004 + 36000 ≤ 63003 ∧ (Wf_Ro_init N3 36000 (N3 + 1) M1 F4 (fun N7 M5 F6 => (a0 < N7 ∧ tg a0 = 4 ∧ N3 = a0 + 3 ∧ ∀ F8 : zFl, F8 = yset F6 a0 1 → (a0 < N7 ∧ tg a0 = 4 ∧ ∀ M9 : zM, M9 = zI M5 a0 2 0 → (a0 < N7 ∧ tg a0 = 4 ∧ ∀ M10 : zM, M10 = zI M9 a0 3 40 → (0 < N7 ∧ N + 4 = N7 ∧ tg N7 = 21 ∧ ln N7 = 999 ∧ yFr M10 F8 N7 ∧ 4 + 1 ≤ 5 ∧ 62004 + 999 ≤ 63003 ∧ (a0 < (N7 + 1) ∧ tg a0 = 4 ∧ N7 = a0 + 5 ∧ ∀ F11 : zFl, F11 = yset F8 a0 4 → (0 < (N7 + 1) ∧ N + 5 = (N7 + 1) ∧ 5 = 5 ∧ 63003 ≤ 63003 ∧ (post (N7 + 1) M10 F11))))))))))))))))
set_option maxRecDepth 100000 in
/-- java/util/Arrays.fill([II)V, while the memory grows -/
def Wf_JArrays_fill (a0 : Nat) (i1 : Int32) (N : Nat) (M : zM) (F : zFl) (post : Nat → zM → zFl → Prop) : Prop := ∀ K5 : Int32 → Int32 → Nat → Nat → Nat → zM → zFl → Prop, (∀ (v2 : Int32) (v3 : Int32) (NL cn sn : Nat) (M : zM) (F : zFl), ((v3 ≤ v2 → (0 < NL ∧ N + cn = NL ∧ cn = 0 ∧ sn ≤ 0 ∧ (post NL M F))) ∧ (¬ v3 ≤ v2 → (a0 < NL ∧ tg a0 = 21 ∧ vp_in v2 (ln a0) ∧ ∀ M2 : zM, M2 = zI M a0 (v2).toNatClampNeg i1 → (∀ x3 : Int32, x3 = v2 + 1 → (K5 x3 v3 NL cn sn M2 F))))) → K5 v2 v3 NL cn sn M F) → (a0 < N ∧ tg a0 = 21 ∧ (∀ x1 : Int32, x1 = (Int32.ofNat (ln a0)) → (K5 0 x1 N 0 0 M F)))
set_option maxRecDepth 100000 in
/-- MailChain.Box.<init>()V, while the memory grows -/
def Wf_Bo_init (a0 : Nat) (N : Nat) (M : zM) (F : zFl) (post : Nat → zM → zFl → Prop) : Prop := (0 < N ∧ N + 0 = N ∧ tg N = 1 ∧ yFr M F N ∧ 0 + 1 ≤ 5 ∧ 0 + 2 ≤ 50007 ∧ (0 < (N + 1) ∧ N + 1 = (N + 1) ∧ (N + 1) ≤ N0 ∧ 1 + 1 ≤ 5 ∧ 2 + 48000 ≤ 50007 ∧ (Wf_Ro_init N 48000 (N + 1) M F (fun N3 M1 F2 => (a0 < N3 ∧ tg a0 = 6 ∧ N = a0 + 1 ∧ ∀ F4 : zFl, F4 = yset F2 a0 0 → (0 < N3 ∧ N + 2 = N3 ∧ tg N3 = 21 ∧ ln N3 = 1000 ∧ yFr M1 F4 N3 ∧ 2 + 1 ≤ 5 ∧ 48002 + 1000 ≤ 50007 ∧ (a0 < (N3 + 1) ∧ tg a0 = 6 ∧ N3 = a0 + 3 ∧ ∀ F5 : zFl, F5 = yset F4 a0 1 → (0 < (N3 + 1) ∧ N + 3 = (N3 + 1) ∧ tg (N3 + 1) = 21 ∧ ln (N3 + 1) = 1000 ∧ yFr M1 F5 (N3 + 1) ∧ 3 + 1 ≤ 5 ∧ 49002 + 1000 ≤ 50007 ∧ (a0 < (N3 + 2) ∧ tg a0 = 6 ∧ (N3 + 1) = a0 + 4 ∧ ∀ F6 : zFl, F6 = yset F5 a0 2 → (a0 < (N3 + 2) ∧ tg a0 = 6 ∧ F6 a0 2 = false ∧ (0 < (N3 + 2) ∧ N + 4 = (N3 + 2) ∧ (N3 + 2) ≤ N0 ∧ 4 + 0 ≤ 5 ∧ 50002 + 0 ≤ 50007 ∧ (Wf_JArrays_fill (a0 + 4) (-1) (N3 + 2) M1 F6 (fun N9 M7 F8 => (0 < N9 ∧ N + 4 = N9 ∧ tg N9 = 5 ∧ yFr M7 F8 N9 ∧ 4 + 1 ≤ 5 ∧ 50002 + 5 ≤ 50007 ∧ (0 < (N9 + 1) ∧ N + 5 = (N9 + 1) ∧ (N9 + 1) ≤ N0 ∧ 5 + 0 ≤ 5 ∧ 50007 + 0 ≤ 50007 ∧ (Wf_Pl_init N9 (N9 + 1) M7 F8 (fun N12 M10 F11 => (a0 < N12 ∧ tg a0 = 6 ∧ N9 = a0 + 5 ∧ ∀ F13 : zFl, F13 = yset F11 a0 3 → (a0 < N12 ∧ tg a0 = 6 ∧ ∀ M14 : zM, M14 = zI M10 a0 4 0 → (a0 < N12 ∧ tg a0 = 6 ∧ ∀ M15 : zM, M15 = zI M14 a0 5 0 → (a0 < N12 ∧ tg a0 = 6 ∧ ∀ M16 : zM, M16 = zI M15 a0 6 0 → (0 < N12 ∧ N + 5 = N12 ∧ 5 = 5 ∧ 50007 ≤ 50007 ∧ (post N12 M16 F13)))))))))))))))))))))))
set_option maxRecDepth 100000 in
/-- MailChain.Squeezer.<init>()V, while the memory grows -/
def Wf_Sq_init (a0 : Nat) (N : Nat) (M : zM) (F : zFl) (post : Nat → zM → zFl → Prop) : Prop := (0 < N ∧ N + 0 = N ∧ tg N = 21 ∧ ln N = 16384 ∧ yFr M F N ∧ 0 + 1 ≤ 3 ∧ 0 + 16384 ≤ 49152 ∧ (a0 < (N + 1) ∧ tg a0 = 7 ∧ N = a0 + 1 ∧ ∀ F1 : zFl, F1 = yset F a0 0 → (0 < (N + 1) ∧ N + 1 = (N + 1) ∧ tg (N + 1) = 21 ∧ ln (N + 1) = 16384 ∧ yFr M F1 (N + 1) ∧ 1 + 1 ≤ 3 ∧ 16384 + 16384 ≤ 49152 ∧ (a0 < (N + 2) ∧ tg a0 = 7 ∧ (N + 1) = a0 + 2 ∧ ∀ F2 : zFl, F2 = yset F1 a0 1 → (0 < (N + 2) ∧ N + 2 = (N + 2) ∧ tg (N + 2) = 21 ∧ ln (N + 2) = 16384 ∧ yFr M F2 (N + 2) ∧ 2 + 1 ≤ 3 ∧ 32768 + 16384 ≤ 49152 ∧ (a0 < (N + 3) ∧ tg a0 = 7 ∧ (N + 2) = a0 + 3 ∧ ∀ F3 : zFl, F3 = yset F2 a0 2 → (0 < (N + 3) ∧ N + 3 = (N + 3) ∧ 3 = 3 ∧ 49152 ≤ 49152 ∧ (post (N + 3) M F3))))))))
set_option maxRecDepth 100000 in
/-- MailChain.Expander.<init>()V, while the memory grows -/
def Wf_Ex_init (a0 : Nat) (N : Nat) (M : zM) (F : zFl) (post : Nat → zM → zFl → Prop) : Prop := (0 < N ∧ N + 0 = N ∧ tg N = 21 ∧ ln N = 16384 ∧ yFr M F N ∧ 0 + 1 ≤ 2 ∧ 0 + 16384 ≤ 32768 ∧ (a0 < (N + 1) ∧ tg a0 = 8 ∧ N = a0 + 1 ∧ ∀ F1 : zFl, F1 = yset F a0 0 → (0 < (N + 1) ∧ N + 1 = (N + 1) ∧ tg (N + 1) = 21 ∧ ln (N + 1) = 16384 ∧ yFr M F1 (N + 1) ∧ 1 + 1 ≤ 2 ∧ 16384 + 16384 ≤ 32768 ∧ (a0 < (N + 2) ∧ tg a0 = 8 ∧ (N + 1) = a0 + 2 ∧ ∀ F2 : zFl, F2 = yset F1 a0 1 → (0 < (N + 2) ∧ N + 2 = (N + 2) ∧ 2 = 2 ∧ 32768 ≤ 32768 ∧ (post (N + 2) M F2))))))
set_option maxRecDepth 100000 in
/-- MailChain.<init>()V, while the memory grows -/
def Wf_Mc_init (a0 : Nat) (N : Nat) (M : zM) (F : zFl) (post : Nat → zM → zFl → Prop) : Prop := (0 < N ∧ N + 0 = N ∧ tg N = 1 ∧ yFr M F N ∧ 0 + 1 ≤ 412 ∧ 0 + 2 ≤ 401044 ∧ (0 < (N + 1) ∧ N + 1 = (N + 1) ∧ (N + 1) ≤ N0 ∧ 1 + 1 ≤ 412 ∧ 2 + 8000 ≤ 401044 ∧ (Wf_Ro_init N 8000 (N + 1) M F (fun N3 M1 F2 => (a0 < N3 ∧ tg a0 = 0 ∧ N = a0 + 1 ∧ ∀ F4 : zFl, F4 = yset F2 a0 0 → (0 < N3 ∧ N + 2 = N3 ∧ tg N3 = 3 ∧ yFr M1 F4 N3 ∧ 2 + 1 ≤ 412 ∧ 8002 + 4 ≤ 401044 ∧ (0 < (N3 + 1) ∧ N + 3 = (N3 + 1) ∧ (N3 + 1) ≤ N0 ∧ 3 + 126 ≤ 412 ∧ 8006 + 11354 ≤ 401044 ∧ (Wf_Tr_init N3 (N3 + 1) M1 F4 (fun N7 M5 F6 => (a0 < N7 ∧ tg a0 = 0 ∧ N3 = a0 + 3 ∧ ∀ F8 : zFl, F8 = yset F6 a0 1 → (0 < N7 ∧ N + 129 = N7 ∧ tg N7 = 3 ∧ yFr M5 F8 N7 ∧ 129 + 1 ≤ 412 ∧ 19360 + 4 ≤ 401044 ∧ (0 < (N7 + 1) ∧ N + 130 = (N7 + 1) ∧ (N7 + 1) ≤ N0 ∧ 130 + 126 ≤ 412 ∧ 19364 + 11354 ≤ 401044 ∧ (Wf_Tr_init N7 (N7 + 1) M5 F8 (fun N11 M9 F10 => (a0 < N11 ∧ tg a0 = 0 ∧ ∀ M13 : zM, M13 = zR M9 a0 2 N7 → ∀ F12 : zFl, F12 = yset F10 a0 2 → (0 < N11 ∧ N + 256 = N11 ∧ tg N11 = 3 ∧ yFr M13 F12 N11 ∧ 256 + 1 ≤ 412 ∧ 30718 + 4 ≤ 401044 ∧ (0 < (N11 + 1) ∧ N + 257 = (N11 + 1) ∧ (N11 + 1) ≤ N0 ∧ 257 + 126 ≤ 412 ∧ 30722 + 11354 ≤ 401044 ∧ (Wf_Tr_init N11 (N11 + 1) M13 F12 (fun N16 M14 F15 => (a0 < N16 ∧ tg a0 = 0 ∧ ∀ M18 : zM, M18 = zR M14 a0 3 N11 → ∀ F17 : zFl, F17 = yset F15 a0 3 → (0 < N16 ∧ N + 383 = N16 ∧ tg N16 = 1 ∧ yFr M18 F17 N16 ∧ 383 + 1 ≤ 412 ∧ 42076 + 2 ≤ 401044 ∧ (0 < (N16 + 1) ∧ N + 384 = (N16 + 1) ∧ (N16 + 1) ≤ N0 ∧ 384 + 1 ≤ 412 ∧ 42078 + 14000 ≤ 401044 ∧ (Wf_Ro_init N16 14000 (N16 + 1) M18 F17 (fun N21 M19 F20 => (a0 < N21 ∧ tg a0 = 0 ∧ N16 = a0 + 384 ∧ ∀ F22 : zFl, F22 = yset F20 a0 4 → (a0 < N21 ∧ tg a0 = 0 ∧ ∀ M23 : zM, M23 = zI M19 a0 5 0 → (0 < N21 ∧ N + 385 = N21 ∧ tg N21 = 4 ∧ yFr M23 F22 N21 ∧ 385 + 1 ≤ 412 ∧ 56078 + 5 ≤ 401044 ∧ (0 < (N21 + 1) ∧ N + 386 = (N21 + 1) ∧ (N21 + 1) ≤ N0 ∧ 386 + 5 ≤ 412 ∧ 56083 + 63003 ≤ 401044 ∧ (Wf_Ma_init N21 (N21 + 1) M23 F22 (fun N26 M24 F25 => (a0 < N26 ∧ tg a0 = 0 ∧ N21 = a0 + 386 ∧ ∀ F27 : zFl, F27 = yset F25 a0 6 → (0 < N26 ∧ N + 391 = N26 ∧ tg N26 = 6 ∧ yFr M24 F27 N26 ∧ 391 + 1 ≤ 412 ∧ 119086 + 7 ≤ 401044 ∧ (0 < (N26 + 1) ∧ N + 392 = (N26 + 1) ∧ (N26 + 1) ≤ N0 ∧ 392 + 5 ≤ 412 ∧ 119093 + 50007 ≤ 401044 ∧ (Wf_Bo_init N26 (N26 + 1) M24 F27 (fun N30 M28 F29 => (a0 < N30 ∧ tg a0 = 0 ∧ N26 = a0 + 392 ∧ ∀ F31 : zFl, F31 = yset F29 a0 7 → (0 < N30 ∧ N + 397 = N30 ∧ tg N30 = 7 ∧ yFr M28 F31 N30 ∧ 397 + 1 ≤ 412 ∧ 169100 + 9 ≤ 401044 ∧ (0 < (N30 + 1) ∧ N + 398 = (N30 + 1) ∧ (N30 + 1) ≤ N0 ∧ 398 + 3 ≤ 412 ∧ 169109 + 49152 ≤ 401044 ∧ (Wf_Sq_init N30 (N30 + 1) M28 F31 (fun N34 M32 F33 => (a0 < N34 ∧ tg a0 = 0 ∧ N30 = a0 + 398 ∧ ∀ F35 : zFl, F35 = yset F33 a0 8 → (0 < N34 ∧ N + 401 = N34 ∧ tg N34 = 8 ∧ yFr M32 F35 N34 ∧ 401 + 1 ≤ 412 ∧ 218261 + 7 ≤ 401044 ∧ (0 < (N34 + 1) ∧ N + 402 = (N34 + 1) ∧ (N34 + 1) ≤ N0 ∧ 402 + 2 ≤ 412 ∧ 218268 + 32768 ≤ 401044 ∧ (Wf_Ex_init N34 (N34 + 1) M32 F35 (fun N38 M36 F37 => (a0 < N38 ∧ tg a0 = 0 ∧ N34 = a0 + 402 ∧ ∀ F39 : zFl, F39 = yset F37 a0 9 → (0 < N38 ∧ N + 404 = N38 ∧ tg N38 = 1 ∧ yFr M36 F39 N38 ∧ 404 + 1 ≤ 412 ∧ 251036 + 2 ≤ 401044 ∧ (0 < (N38 + 1) ∧ N + 405 = (N38 + 1) ∧ (N38 + 1) ≤ N0 ∧ 405 + 1 ≤ 412 ∧ 251038 + 16000 ≤ 401044 ∧ (Wf_Ro_init N38 16000 (N38 + 1) M36 F39 (fun N42 M40 F41 => (a0 < N42 ∧ tg a0 = 0 ∧ N38 = a0 + 405 ∧ ∀ F43 : zFl, F43 = yset F41 a0 10 → (0 < N42 ∧ N + 406 = N42 ∧ tg N42 = 1 ∧ yFr M40 F43 N42 ∧ 406 + 1 ≤ 412 ∧ 267038 + 2 ≤ 401044 ∧ (0 < (N42 + 1) ∧ N + 407 = (N42 + 1) ∧ (N42 + 1) ≤ N0 ∧ 407 + 1 ≤ 412 ∧ 267040 + 36000 ≤ 401044 ∧ (Wf_Ro_init N42 36000 (N42 + 1) M40 F43 (fun N46 M44 F45 => (a0 < N46 ∧ tg a0 = 0 ∧ N42 = a0 + 407 ∧ ∀ F47 : zFl, F47 = yset F45 a0 11 → (0 < N46 ∧ N + 408 = N46 ∧ tg N46 = 1 ∧ yFr M44 F47 N46 ∧ 408 + 1 ≤ 412 ∧ 303040 + 2 ≤ 401044 ∧ (0 < (N46 + 1) ∧ N + 409 = (N46 + 1) ∧ (N46 + 1) ≤ N0 ∧ 409 + 1 ≤ 412 ∧ 303042 + 48000 ≤ 401044 ∧ (Wf_Ro_init N46 48000 (N46 + 1) M44 F47 (fun N50 M48 F49 => (a0 < N50 ∧ tg a0 = 0 ∧ N46 = a0 + 409 ∧ ∀ F51 : zFl, F51 = yset F49 a0 12 → (0 < N50 ∧ N + 410 = N50 ∧ tg N50 = 1 ∧ yFr M48 F51 N50 ∧ 410 + 1 ≤ 412 ∧ 351042 + 2 ≤ 401044 ∧ (0 < (N50 + 1) ∧ N + 411 = (N50 + 1) ∧ (N50 + 1) ≤ N0 ∧ 411 + 1 ≤ 412 ∧ 351044 + 50000 ≤ 401044 ∧ (Wf_Ro_init N50 50000 (N50 + 1) M48 F51 (fun N54 M52 F53 => (a0 < N54 ∧ tg a0 = 0 ∧ N50 = a0 + 411 ∧ ∀ F55 : zFl, F55 = yset F53 a0 13 → (0 < N54 ∧ N + 412 = N54 ∧ 412 = 412 ∧ 401044 ≤ 401044 ∧ (post N54 M52 F55))))))))))))))))))))))))))))))))))))))))))))))))))))))))))))))))))))
set_option maxRecDepth 100000 in
/-- MailChainModel.<init>()V, while the memory grows -/
def Wf_Mo_init (a0 : Nat) (N : Nat) (M : zM) (F : zFl) (post : Nat → zM → zFl → Prop) : Prop := (0 < N ∧ N + 0 = N ∧ tg N = 20 ∧ ln N = 10 ∧ yFr M F N ∧ 0 + 1 ≤ 37 ∧ 0 + 10 ≤ 748745 ∧ (N < (N + 1) ∧ tg N = 20 ∧ vp_in (0 : Int32) (ln N) ∧ ∀ M1 : zM, M1 = zI M N ((0 : Int32)).toNatClampNeg (vp_nar .byte 84) → (N < (N + 1) ∧ tg N = 20 ∧ vp_in (1 : Int32) (ln N) ∧ ∀ M2 : zM, M2 = zI M1 N ((1 : Int32)).toNatClampNeg (vp_nar .byte 82) → (N < (N + 1) ∧ tg N = 20 ∧ vp_in (2 : Int32) (ln N) ∧ ∀ M3 : zM, M3 = zI M2 N ((2 : Int32)).toNatClampNeg (vp_nar .byte 65) → (N < (N + 1) ∧ tg N = 20 ∧ vp_in (3 : Int32) (ln N) ∧ ∀ M4 : zM, M4 = zI M3 N ((3 : Int32)).toNatClampNeg (vp_nar .byte 73) → (N < (N + 1) ∧ tg N = 20 ∧ vp_in (4 : Int32) (ln N) ∧ ∀ M5 : zM, M5 = zI M4 N ((4 : Int32)).toNatClampNeg (vp_nar .byte 76) → (N < (N + 1) ∧ tg N = 20 ∧ vp_in (5 : Int32) (ln N) ∧ ∀ M6 : zM, M6 = zI M5 N ((5 : Int32)).toNatClampNeg (vp_nar .byte 69) → (N < (N + 1) ∧ tg N = 20 ∧ vp_in (6 : Int32) (ln N) ∧ ∀ M7 : zM, M7 = zI M6 N ((6 : Int32)).toNatClampNeg (vp_nar .byte 82) → (N < (N + 1) ∧ tg N = 20 ∧ vp_in (7 : Int32) (ln N) ∧ ∀ M8 : zM, M8 = zI M7 N ((7 : Int32)).toNatClampNeg (vp_nar .byte 33) → (N < (N + 1) ∧ tg N = 20 ∧ vp_in (8 : Int32) (ln N) ∧ ∀ M9 : zM, M9 = zI M8 N ((8 : Int32)).toNatClampNeg (vp_nar .byte 33) → (N < (N + 1) ∧ tg N = 20 ∧ vp_in (9 : Int32) (ln N) ∧ ∀ M10 : zM, M10 = zI M9 N ((9 : Int32)).toNatClampNeg (vp_nar .byte 33) → (a0 < (N + 1) ∧ tg a0 = 9 ∧ N = a0 + 1 ∧ ∀ F11 : zFl, F11 = yset F a0 0 → (0 < (N + 1) ∧ N + 1 = (N + 1) ∧ tg (N + 1) = 20 ∧ ln (N + 1) = 15 ∧ yFr M10 F11 (N + 1) ∧ 1 + 1 ≤ 37 ∧ 10 + 15 ≤ 748745 ∧ ((N + 1) < (N + 2) ∧ tg (N + 1) = 20 ∧ vp_in (0 : Int32) (ln (N + 1)) ∧ ∀ M12 : zM, M12 = zI M10 (N + 1) ((0 : Int32)).toNatClampNeg (vp_nar .byte 98) → ((N + 1) < (N + 2) ∧ tg (N + 1) = 20 ∧ vp_in (1 : Int32) (ln (N + 1)) ∧ ∀ M13 : zM, M13 = zI M12 (N + 1) ((1 : Int32)).toNatClampNeg (vp_nar .byte 101) → ((N + 1) < (N + 2) ∧ tg (N + 1) = 20 ∧ vp_in (2 : Int32) (ln (N + 1)) ∧ ∀ M14 : zM, M14 = zI M13 (N + 1) ((2 : Int32)).toNatClampNeg (vp_nar .byte 103) → ((N + 1) < (N + 2) ∧ tg (N + 1) = 20 ∧ vp_in (3 : Int32) (ln (N + 1)) ∧ ∀ M15 : zM, M15 = zI M14 (N + 1) ((3 : Int32)).toNatClampNeg (vp_nar .byte 105) → ((N + 1) < (N + 2) ∧ tg (N + 1) = 20 ∧ vp_in (4 : Int32) (ln (N + 1)) ∧ ∀ M16 : zM, M16 = zI M15 (N + 1) ((4 : Int32)).toNatClampNeg (vp_nar .byte 110) → ((N + 1) < (N + 2) ∧ tg (N + 1) = 20 ∧ vp_in (5 : Int32) (ln (N + 1)) ∧ ∀ M17 : zM, M17 = zI M16 (N + 1) ((5 : Int32)).toNatClampNeg (vp_nar .byte 32) → ((N + 1) < (N + 2) ∧ tg (N + 1) = 20 ∧ vp_in (6 : Int32) (ln (N + 1)) ∧ ∀ M18 : zM, M18 = zI M17 (N + 1) ((6 : Int32)).toNatClampNeg (vp_nar .byte 54) → ((N + 1) < (N + 2) ∧ tg (N + 1) = 20 ∧ vp_in (7 : Int32) (ln (N + 1)) ∧ ∀ M19 : zM, M19 = zI M18 (N + 1) ((7 : Int32)).toNatClampNeg (vp_nar .byte 52) → ((N + 1) < (N + 2) ∧ tg (N + 1) = 20 ∧ vp_in (8 : Int32) (ln (N + 1)) ∧ ∀ M20 : zM, M20 = zI M19 (N + 1) ((8 : Int32)).toNatClampNeg (vp_nar .byte 52) → ((N + 1) < (N + 2) ∧ tg (N + 1) = 20 ∧ vp_in (9 : Int32) (ln (N + 1)) ∧ ∀ M21 : zM, M21 = zI M20 (N + 1) ((9 : Int32)).toNatClampNeg (vp_nar .byte 32) → ((N + 1) < (N + 2) ∧ tg (N + 1) = 20 ∧ vp_in (10 : Int32) (ln (N + 1)) ∧ ∀ M22 : zM, M22 = zI M21 (N + 1) ((10 : Int32)).toNatClampNeg (vp_nar .byte 109) → ((N + 1) < (N + 2) ∧ tg (N + 1) = 20 ∧ vp_in (11 : Int32) (ln (N + 1)) ∧ ∀ M23 : zM, M23 = zI M22 (N + 1) ((11 : Int32)).toNatClampNeg (vp_nar .byte 97) → ((N + 1) < (N + 2) ∧ tg (N + 1) = 20 ∧ vp_in (12 : Int32) (ln (N + 1)) ∧ ∀ M24 : zM, M24 = zI M23 (N + 1) ((12 : Int32)).toNatClampNeg (vp_nar .byte 105) → ((N + 1) < (N + 2) ∧ tg (N + 1) = 20 ∧ vp_in (13 : Int32) (ln (N + 1)) ∧ ∀ M25 : zM, M25 = zI M24 (N + 1) ((13 : Int32)).toNatClampNeg (vp_nar .byte 108) → ((N + 1) < (N + 2) ∧ tg (N + 1) = 20 ∧ vp_in (14 : Int32) (ln (N + 1)) ∧ ∀ M26 : zM, M26 = zI M25 (N + 1) ((14 : Int32)).toNatClampNeg (vp_nar .byte 10) → (a0 < (N + 2) ∧ tg a0 = 9 ∧ (N + 1) = a0 + 2 ∧ ∀ F27 : zFl, F27 = yset F11 a0 1 → (0 < (N + 2) ∧ N + 2 = (N + 2) ∧ tg (N + 2) = 20 ∧ ln (N + 2) = 5 ∧ yFr M26 F27 (N + 2) ∧ 2 + 1 ≤ 37 ∧ 25 + 5 ≤ 748745 ∧ ((N + 2) < (N + 3) ∧ tg (N + 2) = 20 ∧ vp_in (0 : Int32) (ln (N + 2)) ∧ ∀ M28 : zM, M28 = zI M26 (N + 2) ((0 : Int32)).toNatClampNeg (vp_nar .byte 80) → ((N + 2) < (N + 3) ∧ tg (N + 2) = 20 ∧ vp_in (1 : Int32) (ln (N + 2)) ∧ ∀ M29 : zM, M29 = zI M28 (N + 2) ((1 : Int32)).toNatClampNeg (vp_nar .byte 65) → ((N + 2) < (N + 3) ∧ tg (N + 2) = 20 ∧ vp_in (2 : Int32) (ln (N + 2)) ∧ ∀ M30 : zM, M30 = zI M29 (N + 2) ((2 : Int32)).toNatClampNeg (vp_nar .byte 82) → ((N + 2) < (N + 3) ∧ tg (N + 2) = 20 ∧ vp_in (3 : Int32) (ln (N + 2)) ∧ ∀ M31 : zM, M31 = zI M30 (N + 2) ((3 : Int32)).toNatClampNeg (vp_nar .byte 84) → ((N + 2) < (N + 3) ∧ tg (N + 2) = 20 ∧ vp_in (4 : Int32) (ln (N + 2)) ∧ ∀ M32 : zM, M32 = zI M31 (N + 2) ((4 : Int32)).toNatClampNeg (vp_nar .byte 32) → (a0 < (N + 3) ∧ tg a0 = 9 ∧ (N + 2) = a0 + 3 ∧ ∀ F33 : zFl, F33 = yset F27 a0 2 → (0 < (N + 3) ∧ N + 3 = (N + 3) ∧ tg (N + 3) = 20 ∧ ln (N + 3) = 3 ∧ yFr M32 F33 (N + 3) ∧ 3 + 1 ≤ 37 ∧ 30 + 3 ≤ 748745 ∧ ((N + 3) < (N + 4) ∧ tg (N + 3) = 20 ∧ vp_in (0 : Int32) (ln (N + 3)) ∧ ∀ M34 : zM, M34 = zI M32 (N + 3) ((0 : Int32)).toNatClampNeg (vp_nar .byte 79) → ((N + 3) < (N + 4) ∧ tg (N + 3) = 20 ∧ vp_in (1 : Int32) (ln (N + 3)) ∧ ∀ M35 : zM, M35 = zI M34 (N + 3) ((1 : Int32)).toNatClampNeg (vp_nar .byte 70) → ((N + 3) < (N + 4) ∧ tg (N + 3) = 20 ∧ vp_in (2 : Int32) (ln (N + 3)) ∧ ∀ M36 : zM, M36 = zI M35 (N + 3) ((2 : Int32)).toNatClampNeg (vp_nar .byte 32) → (a0 < (N + 4) ∧ tg a0 = 9 ∧ (N + 3) = a0 + 4 ∧ ∀ F37 : zFl, F37 = yset F33 a0 3 → (0 < (N + 4) ∧ N + 4 = (N + 4) ∧ tg (N + 4) = 20 ∧ ln (N + 4) = 5 ∧ yFr M36 F37 (N + 4) ∧ 4 + 1 ≤ 37 ∧ 33 + 5 ≤ 748745 ∧ ((N + 4) < (N + 5) ∧ tg (N + 4) = 20 ∧ vp_in (0 : Int32) (ln (N + 4)) ∧ ∀ M38 : zM, M38 = zI M36 (N + 4) ((0 : Int32)).toNatClampNeg (vp_nar .byte 83) → ((N + 4) < (N + 5) ∧ tg (N + 4) = 20 ∧ vp_in (1 : Int32) (ln (N + 4)) ∧ ∀ M39 : zM, M39 = zI M38 (N + 4) ((1 : Int32)).toNatClampNeg (vp_nar .byte 73) → ((N + 4) < (N + 5) ∧ tg (N + 4) = 20 ∧ vp_in (2 : Int32) (ln (N + 4)) ∧ ∀ M40 : zM, M40 = zI M39 (N + 4) ((2 : Int32)).toNatClampNeg (vp_nar .byte 90) → ((N + 4) < (N + 5) ∧ tg (N + 4) = 20 ∧ vp_in (3 : Int32) (ln (N + 4)) ∧ ∀ M41 : zM, M41 = zI M40 (N + 4) ((3 : Int32)).toNatClampNeg (vp_nar .byte 69) → ((N + 4) < (N + 5) ∧ tg (N + 4) = 20 ∧ vp_in (4 : Int32) (ln (N + 4)) ∧ ∀ M42 : zM, M42 = zI M41 (N + 4) ((4 : Int32)).toNatClampNeg (vp_nar .byte 32) → (a0 < (N + 5) ∧ tg a0 = 9 ∧ (N + 4) = a0 + 5 ∧ ∀ F43 : zFl, F43 = yset F37 a0 4 → (0 < (N + 5) ∧ N + 5 = (N + 5) ∧ tg (N + 5) = 20 ∧ ln (N + 5) = 6 ∧ yFr M42 F43 (N + 5) ∧ 5 + 1 ≤ 37 ∧ 38 + 6 ≤ 748745 ∧ ((N + 5) < (N + 6) ∧ tg (N + 5) = 20 ∧ vp_in (0 : Int32) (ln (N + 5)) ∧ ∀ M44 : zM, M44 = zI M42 (N + 5) ((0 : Int32)).toNatClampNeg (vp_nar .byte 67) → ((N + 5) < (N + 6) ∧ tg (N + 5) = 20 ∧ vp_in (1 : Int32) (ln (N + 5)) ∧ ∀ M45 : zM, M45 = zI M44 (N + 5) ((1 : Int32)).toNatClampNeg (vp_nar .byte 75) → ((N + 5) < (N + 6) ∧ tg (N + 5) = 20 ∧ vp_in (2 : Int32) (ln (N + 5)) ∧ ∀ M46 : zM, M46 = zI M45 (N + 5) ((2 : Int32)).toNatClampNeg (vp_nar .byte 83) → ((N + 5) < (N + 6) ∧ tg (N + 5) = 20 ∧ vp_in (3 : Int32) (ln (N + 5)) ∧ ∀ M47 : zM, M47 = zI M46 (N + 5) ((3 : Int32)).toNatClampNeg (vp_nar .byte 85) → ((N + 5) < (N + 6) ∧ tg (N + 5) = 20 ∧ vp_in (4 : Int32) (ln (N + 5)) ∧ ∀ M48 : zM, M48 = zI M47 (N + 5) ((4 : Int32)).toNatClampNeg (vp_nar .byte 77) → ((N + 5) < (N + 6) ∧ tg (N + 5) = 20 ∧ vp_in (5 : Int32) (ln (N + 5)) ∧ ∀ M49 : zM, M49 = zI M48 (N + 5) ((5 : Int32)).toNatClampNeg (vp_nar .byte 32) → (a0 < (N + 6) ∧ tg a0 = 9 ∧ (N + 5) = a0 + 6 ∧ ∀ F50 : zFl, F50 = yset F43 a0 5 → (0 < (N + 6) ∧ N + 6 = (N + 6) ∧ tg (N + 6) = 20 ∧ ln (N + 6) = 8000 ∧ yFr M49 F50 (N + 6) ∧ 6 + 1 ≤ 37 ∧ 44 + 8000 ≤ 748745 ∧ (a0 < (N + 7) ∧ tg a0 = 9 ∧ (N + 6) = a0 + 7 ∧ ∀ F51 : zFl, F51 = yset F50 a0 8 → (0 < (N + 7) ∧ N + 7 = (N + 7) ∧ tg (N + 7) = 21 ∧ ln (N + 7) = 3 ∧ yFr M49 F51 (N + 7) ∧ 7 + 1 ≤ 37 ∧ 8044 + 3 ≤ 748745 ∧ (a0 < (N + 8) ∧ tg a0 = 9 ∧ (N + 7) = a0 + 8 ∧ ∀ F52 : zFl, F52 = yset F51 a0 9 → (0 < (N + 8) ∧ N + 8 = (N + 8) ∧ tg (N + 8) = 20 ∧ ln (N + 8) = 7380 ∧ yFr M49 F52 (N + 8) ∧ 8 + 1 ≤ 37 ∧ 8047 + 7380 ≤ 748745 ∧ (a0 < (N + 9) ∧ tg a0 = 9 ∧ (N + 8) = a0 + 9 ∧ ∀ F53 : zFl, F53 = yset F52 a0 10 → (0 < (N + 9) ∧ N + 9 = (N + 9) ∧ tg (N + 9) = 21 ∧ ln (N + 9) = 123 ∧ yFr M49 F53 (N + 9) ∧ 9 + 1 ≤ 37 ∧ 15427 + 123 ≤ 748745 ∧ (a0 < (N + 10) ∧ tg a0 = 9 ∧ (N + 9) = a0 + 10 ∧ ∀ F54 : zFl, F54 = yset F53 a0 11 → (0 < (N + 10) ∧ N + 10 = (N + 10) ∧ tg (N + 10) = 21 ∧ ln (N + 10) = 123 ∧ yFr M49 F54 (N + 10) ∧ 10 + 1 ≤ 37 ∧ 15550 + 123 ≤ 748745 ∧ (a0 < (N + 11) ∧ tg a0 = 9 ∧ (N + 10) = a0 + 11 ∧ ∀ F55 : zFl, F55 = yset F54 a0 12 → (0 < (N + 11) ∧ N + 11 = (N + 11) ∧ tg (N + 11) = 21 ∧ ln (N + 11) = 123 ∧ yFr M49 F55 (N + 11) ∧ 11 + 1 ≤ 37 ∧ 15673 + 123 ≤ 748745 ∧ (a0 < (N + 12) ∧ tg a0 = 9 ∧ (N + 11) = a0 + 12 ∧ ∀ F56 : zFl, F56 = yset F55 a0 13 → (0 < (N + 12) ∧ N + 12 = (N + 12) ∧ tg (N + 12) = 21 ∧ ln (N + 12) = 123 ∧ yFr M49 F56 (N + 12) ∧ 12 + 1 ≤ 37 ∧ 15796 + 123 ≤ 748745 ∧ (a0 < (N + 13) ∧ tg a0 = 9 ∧ (N + 12) = a0 + 13 ∧ ∀ F57 : zFl, F57 = yset F56 a0 14 → (0 < (N + 13) ∧ N + 13 = (N + 13) ∧ tg (N + 13) = 21 ∧ ln (N + 13) = 123 ∧ yFr M49 F57 (N + 13) ∧ 13 + 1 ≤ 37 ∧ 15919 + 123 ≤ 748745 ∧ (a0 < (N + 14) ∧ tg a0 = 9 ∧ (N + 13) = a0 + 14 ∧ ∀ F58 : zFl, F58 = yset F57 a0 15 → (0 < (N + 14) ∧ N + 14 = (N + 14) ∧ tg (N + 14) = 21 ∧ ln (N + 14) = 123 ∧ yFr M49 F58 (N + 14) ∧ 14 + 1 ≤ 37 ∧ 16042 + 123 ≤ 748745 ∧ (a0 < (N + 15) ∧ tg a0 = 9 ∧ (N + 14) = a0 + 15 ∧ ∀ F59 : zFl, F59 = yset F58 a0 16 → (0 < (N + 15) ∧ N + 15 = (N + 15) ∧ tg (N + 15) = 21 ∧ ln (N + 15) = 123 ∧ yFr M49 F59 (N + 15) ∧ 15 + 1 ≤ 37 ∧ 16165 + 123 ≤ 748745 ∧ (a0 < (N + 16) ∧ tg a0 = 9 ∧ (N + 15) = a0 + 16 ∧ ∀ F60 : zFl, F60 = yset F59 a0 17 → (0 < (N + 16) ∧ N + 16 = (N + 16) ∧ tg (N + 16) = 21 ∧ ln (N + 16) = 123 ∧ yFr M49 F60 (N + 16) ∧ 16 + 1 ≤ 37 ∧ 16288 + 123 ≤ 748745 ∧ (a0 < (N + 17) ∧ tg a0 = 9 ∧ (N + 16) = a0 + 17 ∧ ∀ F61 : zFl, F61 = yset F60 a0 18 → (0 < (N + 17) ∧ N + 17 = (N + 17) ∧ tg (N + 17) = 21 ∧ ln (N + 17) = 123 ∧ yFr M49 F61 (N + 17) ∧ 17 + 1 ≤ 37 ∧ 16411 + 123 ≤ 748745 ∧ (a0 < (N + 18) ∧ tg a0 = 9 ∧ (N + 17) = a0 + 18 ∧ ∀ F62 : zFl, F62 = yset F61 a0 19 → (0 < (N + 18) ∧ N + 18 = (N + 18) ∧ tg (N + 18) = 21 ∧ ln (N + 18) = 3 ∧ yFr M49 F62 (N + 18) ∧ 18 + 1 ≤ 37 ∧ 16534 + 3 ≤ 748745 ∧ (a0 < (N + 19) ∧ tg a0 = 9 ∧ (N + 18) = a0 + 19 ∧ ∀ F63 : zFl, F63 = yset F62 a0 20 → (0 < (N + 19) ∧ N + 19 = (N + 19) ∧ tg (N + 19) = 20 ∧ ln (N + 19) = 60000 ∧ yFr M49 F63 (N + 19) ∧ 19 + 1 ≤ 37 ∧ 16537 + 60000 ≤ 748745 ∧ (a0 < (N + 20) ∧ tg a0 = 9 ∧ (N + 19) = a0 + 20 ∧ ∀ F64 : zFl, F64 = yset F63 a0 21 → (0 < (N + 20) ∧ N + 20 = (N + 20) ∧ tg (N + 20) = 20 ∧ ln (N + 20) = 60 ∧ yFr M49 F64 (N + 20) ∧ 20 + 1 ≤ 37 ∧ 76537 + 60 ≤ 748745 ∧ (a0 < (N + 21) ∧ tg a0 = 9 ∧ (N + 20) = a0 + 21 ∧ ∀ F65 : zFl, F65 = yset F64 a0 23 → (0 < (N + 21) ∧ N + 21 = (N + 21) ∧ tg (N + 21) = 20 ∧ ln (N + 21) = 24000 ∧ yFr M49 F65 (N + 21) ∧ 21 + 1 ≤ 37 ∧ 76597 + 24000 ≤ 748745 ∧ (a0 < (N + 22) ∧ tg a0 = 9 ∧ (N + 21) = a0 + 22 ∧ ∀ F66 : zFl, F66 = yset F65 a0 26 → (0 < (N + 22) ∧ N + 22 = (N + 22) ∧ tg (N + 22) = 20 ∧ ln (N + 22) = 40000 ∧ yFr M49 F66 (N + 22) ∧ 22 + 1 ≤ 37 ∧ 100597 + 40000 ≤ 748745 ∧ (a0 < (N + 23) ∧ tg a0 = 9 ∧ (N + 22) = a0 + 23 ∧ ∀ F67 : zFl, F67 = yset F66 a0 28 → (0 < (N + 23) ∧ N + 23 = (N + 23) ∧ tg (N + 23) = 20 ∧ ln (N + 23) = 56000 ∧ yFr M49 F67 (N + 23) ∧ 23 + 1 ≤ 37 ∧ 140597 + 56000 ≤ 748745 ∧ (a0 < (N + 24) ∧ tg a0 = 9 ∧ (N + 23) = a0 + 24 ∧ ∀ F68 : zFl, F68 = yset F67 a0 30 → (0 < (N + 24) ∧ N + 24 = (N + 24) ∧ tg (N + 24) = 20 ∧ ln (N + 24) = 40000 ∧ yFr M49 F68 (N + 24) ∧ 24 + 1 ≤ 37 ∧ 196597 + 40000 ≤ 748745 ∧ (a0 < (N + 25) ∧ tg a0 = 9 ∧ (N + 24) = a0 + 25 ∧ ∀ F69 : zFl, F69 = yset F68 a0 34 → (0 < (N + 25) ∧ N + 25 = (N + 25) ∧ tg (N + 25) = 20 ∧ ln (N + 25) = 56000 ∧ yFr M49 F69 (N + 25) ∧ 25 + 1 ≤ 37 ∧ 236597 + 56000 ≤ 748745 ∧ (a0 < (N + 26) ∧ tg a0 = 9 ∧ (N + 25) = a0 + 26 ∧ ∀ F70 : zFl, F70 = yset F69 a0 36 → (0 < (N + 26) ∧ N + 26 = (N + 26) ∧ tg (N + 26) = 22 ∧ ln (N + 26) = 1000 ∧ yFr M49 F70 (N + 26) ∧ 26 + 1 ≤ 37 ∧ 292597 + 1000 ≤ 748745 ∧ (a0 < (N + 27) ∧ tg a0 = 9 ∧ (N + 26) = a0 + 27 ∧ ∀ F71 : zFl, F71 = yset F70 a0 40 → (0 < (N + 27) ∧ N + 27 = (N + 27) ∧ tg (N + 27) = 21 ∧ ln (N + 27) = 1000 ∧ yFr M49 F71 (N + 27) ∧ 27 + 1 ≤ 37 ∧ 293597 + 1000 ≤ 748745 ∧ (a0 < (N + 28) ∧ tg a0 = 9 ∧ (N + 27) = a0 + 28 ∧ ∀ F72 : zFl, F72 = yset F71 a0 41 → (0 < (N + 28) ∧ N + 28 = (N + 28) ∧ tg (N + 28) = 21 ∧ ln (N + 28) = 1000 ∧ yFr M49 F72 (N + 28) ∧ 28 + 1 ≤ 37 ∧ 294597 + 1000 ≤ 748745 ∧ (a0 < (N + 29) ∧ tg a0 = 9 ∧ (N + 28) = a0 + 29 ∧ ∀ F73 : zFl, F73 = yset F72 a0 42 → (0 < (N + 29) ∧ N + 29 = (N + 29) ∧ tg (N + 29) = 20 ∧ ln (N + 29) = 70000 ∧ yFr M49 F73 (N + 29) ∧ 29 + 1 ≤ 37 ∧ 295597 + 70000 ≤ 748745 ∧ (a0 < (N + 30) ∧ tg a0 = 9 ∧ (N + 29) = a0 + 30 ∧ ∀ F74 : zFl, F74 = yset F73 a0 44 → (0 < (N + 30) ∧ N + 30 = (N + 30) ∧ tg (N + 30) = 20 ∧ ln (N + 30) = 56000 ∧ yFr M49 F74 (N + 30) ∧ 30 + 1 ≤ 37 ∧ 365597 + 56000 ≤ 748745 ∧ (a0 < (N + 31) ∧ tg a0 = 9 ∧ (N + 30) = a0 + 31 ∧ ∀ F75 : zFl, F75 = yset F74 a0 46 → (0 < (N + 31) ∧ N + 31 = (N + 31) ∧ tg (N + 31) = 20 ∧ ln (N + 31) = 56000 ∧ yFr M49 F75 (N + 31) ∧ 31 + 1 ≤ 37 ∧ 421597 + 56000 ≤ 748745 ∧ (a0 < (N + 32) ∧ tg a0 = 9 ∧ (N + 31) = a0 + 32 ∧ ∀ F76 : zFl, F76 = yset F75 a0 48 → (0 < (N + 32) ∧ N + 32 = (N + 32) ∧ tg (N + 32) = 21 ∧ ln (N + 32) = 65537 ∧ yFr M49 F76 (N + 32) ∧ 32 + 1 ≤ 37 ∧ 477597 + 65537 ≤ 748745 ∧ (a0 < (N + 33) ∧ tg a0 = 9 ∧ (N + 32) = a0 + 33 ∧ ∀ F77 : zFl, F77 = yset F76 a0 49 → (0 < (N + 33) ∧ N + 33 = (N + 33) ∧ tg (N + 33) = 21 ∧ ln (N + 33) = 65537 ∧ yFr M49 F77 (N + 33) ∧ 33 + 1 ≤ 37 ∧ 543134 + 65537 ≤ 748745 ∧ (a0 < (N + 34) ∧ tg a0 = 9 ∧ (N + 33) = a0 + 34 ∧ ∀ F78 : zFl, F78 = yset F77 a0 50 → (0 < (N + 34) ∧ N + 34 = (N + 34) ∧ tg (N + 34) = 21 ∧ ln (N + 34) = 65537 ∧ yFr M49 F78 (N + 34) ∧ 34 + 1 ≤ 37 ∧ 608671 + 65537 ≤ 748745 ∧ (a0 < (N + 35) ∧ tg a0 = 9 ∧ (N + 34) = a0 + 35 ∧ ∀ F79 : zFl, F79 = yset F78 a0 51 → (0 < (N + 35) ∧ N + 35 = (N + 35) ∧ tg (N + 35) = 21 ∧ ln (N + 35) = 65537 ∧ yFr M49 F79 (N + 35) ∧ 35 + 1 ≤ 37 ∧ 674208 + 65537 ≤ 748745 ∧ (a0 < (N + 36) ∧ tg a0 = 9 ∧ (N + 35) = a0 + 36 ∧ ∀ F80 : zFl, F80 = yset F79 a0 52 → (0 < (N + 36) ∧ N + 36 = (N + 36) ∧ tg (N + 36) = 20 ∧ ln (N + 36) = 9000 ∧ yFr M49 F80 (N + 36) ∧ 36 + 1 ≤ 37 ∧ 739745 + 9000 ≤ 748745 ∧ (a0 < (N + 37) ∧ tg a0 = 9 ∧ (N + 36) = a0 + 37 ∧ ∀ F81 : zFl, F81 = yset F80 a0 60 → (0 < (N + 37) ∧ N + 37 = (N + 37) ∧ 37 = 37 ∧ 748745 ≤ 748745 ∧ (post (N + 37) M49 F81))))))))))))))))))))))))))))))))))))))))))))))))))))))))))))))))))))))))))))))))))))))))))))))))))))))))))))))))))))))))
theorem d_Ro_init_0 : decode b_Ro_init 0 = .ok (.aload_n 0, 1) := by decide +kernel
theorem d_Ro_init_1 : decode b_Ro_init 1 = .ok (.invokespecial 3, 3) := by decide +kernel
theorem d_Ro_init_4 : decode b_Ro_init 4 = .ok (.aload_n 0, 1) := by decide +kernel
theorem d_Ro_init_5 : decode b_Ro_init 5 = .ok (.iload_n 1, 1) := by decide +kernel
theorem d_Ro_init_6 : decode b_Ro_init 6 = .ok (.newarray .byte, 2) := by decide +kernel
theorem d_Ro_init_8 : decode b_Ro_init 8 = .ok (.putfield 9, 3) := by decide +kernel
theorem d_Ro_init_11 : decode b_Ro_init 11 = .ok (.aload_n 0, 1) := by decide +kernel
theorem d_Ro_init_12 : decode b_Ro_init 12 = .ok (.iconst 0, 1) := by decide +kernel
theorem d_Ro_init_13 : decode b_Ro_init 13 = .ok (.putfield 15, 3) := by decide +kernel
theorem d_Ro_init_16 : decode b_Ro_init 16 = .ok (.return_, 1) := by decide +kernel
theorem d_En_init_0 : decode b_En_init 0 = .ok (.aload_n 0, 1) := by decide +kernel
theorem d_En_init_1 : decode b_En_init 1 = .ok (.invokespecial 3, 3) := by decide +kernel
theorem d_En_init_4 : decode b_En_init 4 = .ok (.aload_n 0, 1) := by decide +kernel
theorem d_En_init_5 : decode b_En_init 5 = .ok (.new 9, 3) := by decide +kernel
theorem d_En_init_8 : decode b_En_init 8 = .ok (.dup, 1) := by decide +kernel
theorem d_En_init_9 : decode b_En_init 9 = .ok (.bipush 60, 2) := by decide +kernel
theorem d_En_init_11 : decode b_En_init 11 = .ok (.invokespecial 11, 3) := by decide +kernel
theorem d_En_init_14 : decode b_En_init 14 = .ok (.putfield 14, 3) := by decide +kernel
theorem d_En_init_17 : decode b_En_init 17 = .ok (.return_, 1) := by decide +kernel
theorem d_Pl_init_0 : decode b_Pl_init 0 = .ok (.aload_n 0, 1) := by decide +kernel
theorem d_Pl_init_1 : decode b_Pl_init 1 = .ok (.invokespecial 3, 3) := by decide +kernel
theorem d_Pl_init_4 : decode b_Pl_init 4 = .ok (.return_, 1) := by decide +kernel
theorem d_Tr_init_0 : decode b_Tr_init 0 = .ok (.aload_n 0, 1) := by decide +kernel
theorem d_Tr_init_1 : decode b_Tr_init 1 = .ok (.invokespecial 3, 3) := by decide +kernel
theorem d_Tr_init_4 : decode b_Tr_init 4 = .ok (.aload_n 0, 1) := by decide +kernel
theorem d_Tr_init_5 : decode b_Tr_init 5 = .ok (.bipush 41, 2) := by decide +kernel
theorem d_Tr_init_7 : decode b_Tr_init 7 = .ok (.anewarray 9, 3) := by decide +kernel
theorem d_Tr_init_10 : decode b_Tr_init 10 = .ok (.putfield 11, 3) := by decide +kernel
theorem d_Tr_init_13 : decode b_Tr_init 13 = .ok (.iconst 0, 1) := by decide +kernel
theorem d_Tr_init_14 : decode b_Tr_init 14 = .ok (.istore_n 1, 1) := by decide +kernel
theorem d_Tr_init_15 : decode b_Tr_init 15 = .ok (.iload_n 1, 1) := by decide +kernel
theorem d_Tr_init_16 : decode b_Tr_init 16 = .ok (.aload_n 0, 1) := by decide +kernel
theorem d_Tr_init_17 : decode b_Tr_init 17 = .ok (.getfield 11, 3) := by decide +kernel
theorem d_Tr_init_20 : decode b_Tr_init 20 = .ok (.arraylength, 1) := by decide +kernel
theorem d_Tr_init_21 : decode b_Tr_init 21 = .ok (.if_icmp .ge 22, 3) := by decide +kernel
theorem d_Tr_init_24 : decode b_Tr_init 24 = .ok (.aload_n 0, 1) := by decide +kernel
theorem d_Tr_init_25 : decode b_Tr_init 25 = .ok (.getfield 11, 3) := by decide +kernel
theorem d_Tr_init_28 : decode b_Tr_init 28 = .ok (.iload_n 1, 1) := by decide +kernel
theorem d_Tr_init_29 : decode b_Tr_init 29 = .ok (.new 9, 3) := by decide +kernel
theorem d_Tr_init_32 : decode b_Tr_init 32 = .ok (.dup, 1) := by decide +kernel
theorem d_Tr_init_33 : decode b_Tr_init 33 = .ok (.invokespecial 17, 3) := by decide +kernel
theorem d_Tr_init_36 : decode b_Tr_init 36 = .ok (.aastore, 1) := by decide +kernel
theorem d_Tr_init_37 : decode b_Tr_init 37 = .ok (.iinc 1 1, 3) := by decide +kernel
theorem d_Tr_init_40 : decode b_Tr_init 40 = .ok (.goto (-25), 3) := by decide +kernel
theorem d_Tr_init_43 : decode b_Tr_init 43 = .ok (.aload_n 0, 1) := by decide +kernel
theorem d_Tr_init_44 : decode b_Tr_init 44 = .ok (.new 18, 3) := by decide +kernel
theorem d_Tr_init_47 : decode b_Tr_init 47 = .ok (.dup, 1) := by decide +kernel
theorem d_Tr_init_48 : decode b_Tr_init 48 = .ok (.sipush 8400, 3) := by decide +kernel
theorem d_Tr_init_51 : decode b_Tr_init 51 = .ok (.invokespecial 20, 3) := by decide +kernel
theorem d_Tr_init_54 : decode b_Tr_init 54 = .ok (.putfield 23, 3) := by decide +kernel
theorem d_Tr_init_57 : decode b_Tr_init 57 = .ok (.aload_n 0, 1) := by decide +kernel
theorem d_Tr_init_58 : decode b_Tr_init 58 = .ok (.iconst 0, 1) := by decide +kernel
theorem d_Tr_init_59 : decode b_Tr_init 59 = .ok (.putfield 27, 3) := by decide +kernel
theorem d_Tr_init_62 : decode b_Tr_init 62 = .ok (.aload_n 0, 1) := by decide +kernel
theorem d_Tr_init_63 : decode b_Tr_init 63 = .ok (.iconst 0, 1) := by decide +kernel
theorem d_Tr_init_64 : decode b_Tr_init 64 = .ok (.putfield 31, 3) := by decide +kernel
theorem d_Tr_init_67 : decode b_Tr_init 67 = .ok (.return_, 1) := by decide +kernel
theorem d_Ma_init_0 : decode b_Ma_init 0 = .ok (.aload_n 0, 1) := by decide +kernel
theorem d_Ma_init_1 : decode b_Ma_init 1 = .ok (.invokespecial 3, 3) := by decide +kernel
theorem d_Ma_init_4 : decode b_Ma_init 4 = .ok (.aload_n 0, 1) := by decide +kernel
theorem d_Ma_init_5 : decode b_Ma_init 5 = .ok (.new 9, 3) := by decide +kernel
theorem d_Ma_init_8 : decode b_Ma_init 8 = .ok (.dup, 1) := by decide +kernel
theorem d_Ma_init_9 : decode b_Ma_init 9 = .ok (.sipush 26000, 3) := by decide +kernel
theorem d_Ma_init_12 : decode b_Ma_init 12 = .ok (.invokespecial 11, 3) := by decide +kernel
theorem d_Ma_init_15 : decode b_Ma_init 15 = .ok (.putfield 14, 3) := by decide +kernel
theorem d_Ma_init_18 : decode b_Ma_init 18 = .ok (.aload_n 0, 1) := by decide +kernel
theorem d_Ma_init_19 : decode b_Ma_init 19 = .ok (.new 9, 3) := by decide +kernel
theorem d_Ma_init_22 : decode b_Ma_init 22 = .ok (.dup, 1) := by decide +kernel
theorem d_Ma_init_23 : decode b_Ma_init 23 = .ok (.ldc 20, 2) := by decide +kernel
theorem d_Ma_init_25 : decode b_Ma_init 25 = .ok (.invokespecial 11, 3) := by decide +kernel
theorem d_Ma_init_28 : decode b_Ma_init 28 = .ok (.putfield 21, 3) := by decide +kernel
theorem d_Ma_init_31 : decode b_Ma_init 31 = .ok (.aload_n 0, 1) := by decide +kernel
theorem d_Ma_init_32 : decode b_Ma_init 32 = .ok (.iconst 0, 1) := by decide +kernel
theorem d_Ma_init_33 : decode b_Ma_init 33 = .ok (.putfield 24, 3) := by decide +kernel
theorem d_Ma_init_36 : decode b_Ma_init 36 = .ok (.aload_n 0, 1) := by decide +kernel
theorem d_Ma_init_37 : decode b_Ma_init 37 = .ok (.bipush 40, 2) := by decide +kernel
theorem d_Ma_init_39 : decode b_Ma_init 39 = .ok (.putfield 28, 3) := by decide +kernel
theorem d_Ma_init_42 : decode b_Ma_init 42 = .ok (.aload_n 0, 1) := by decide +kernel
theorem d_Ma_init_43 : decode b_Ma_init 43 = .ok (.sipush 999, 3) := by decide +kernel
theorem d_Ma_init_46 : decode b_Ma_init 46 = .ok (.newarray .int, 2) := by decide +kernel
theorem d_Ma_init_48 : decode b_Ma_init 48 = .ok (.putfield 31, 3) := by decide +kernel
theorem d_Ma_init_51 : decode b_Ma_init 51 = .ok (.return_, 1) := by decide +kernel
theorem d_Bo_init_0 : decode b_Bo_init 0 = .ok (.aload_n 0, 1) := by decide +kernel
theorem d_Bo_init_1 : decode b_Bo_init 1 = .ok (.invokespecial 3, 3) := by decide +kernel
theorem d_Bo_init_4 : decode b_Bo_init 4 = .ok (.aload_n 0, 1) := by decide +kernel
theorem d_Bo_init_5 : decode b_Bo_init 5 = .ok (.new 9, 3) := by decide +kernel
theorem d_Bo_init_8 : decode b_Bo_init 8 = .ok (.dup, 1) := by decide +kernel
theorem d_Bo_init_9 : decode b_Bo_init 9 = .ok (.ldc 11, 2) := by decide +kernel
theorem d_Bo_init_11 : decode b_Bo_init 11 = .ok (.invokespecial 12, 3) := by decide +kernel
theorem d_Bo_init_14 : decode b_Bo_init 14 = .ok (.putfield 15, 3) := by decide +kernel
theorem d_Bo_init_17 : decode b_Bo_init 17 = .ok (.aload_n 0, 1) := by decide +kernel
theorem d_Bo_init_18 : decode b_Bo_init 18 = .ok (.sipush 1000, 3) := by decide +kernel
theorem d_Bo_init_21 : decode b_Bo_init 21 = .ok (.newarray .int, 2) := by decide +kernel
theorem d_Bo_init_23 : decode b_Bo_init 23 = .ok (.putfield 21, 3) := by decide +kernel
theorem d_Bo_init_26 : decode b_Bo_init 26 = .ok (.aload_n 0, 1) := by decide +kernel
theorem d_Bo_init_27 : decode b_Bo_init 27 = .ok (.sipush 1000, 3) := by decide +kernel
theorem d_Bo_init_30 : decode b_Bo_init 30 = .ok (.newarray .int, 2) := by decide +kernel
theorem d_Bo_init_32 : decode b_Bo_init 32 = .ok (.putfield 25, 3) := by decide +kernel
theorem d_Bo_init_35 : decode b_Bo_init 35 = .ok (.aload_n 0, 1) := by decide +kernel
theorem d_Bo_init_36 : decode b_Bo_init 36 = .ok (.getfield 25, 3) := by decide +kernel
theorem d_Bo_init_39 : decode b_Bo_init 39 = .ok (.iconst (-1), 1) := by decide +kernel
theorem d_Bo_init_40 : decode b_Bo_init 40 = .ok (.invokestatic 28, 3) := by decide +kernel
theorem d_Bo_init_43 : decode b_Bo_init 43 = .ok (.aload_n 0, 1) := by decide +kernel
theorem d_Bo_init_44 : decode b_Bo_init 44 = .ok (.new 34, 3) := by decide +kernel
theorem d_Bo_init_47 : decode b_Bo_init 47 = .ok (.dup, 1) := by decide +kernel
theorem d_Bo_init_48 : decode b_Bo_init 48 = .ok (.invokespecial 36, 3) := by decide +kernel
theorem d_Bo_init_51 : decode b_Bo_init 51 = .ok (.putfield 37, 3) := by decide +kernel
theorem d_Bo_init_54 : decode b_Bo_init 54 = .ok (.aload_n 0, 1) := by decide +kernel
theorem d_Bo_init_55 : decode b_Bo_init 55 = .ok (.iconst 0, 1) := by decide +kernel
theorem d_Bo_init_56 : decode b_Bo_init 56 = .ok (.putfield 41, 3) := by decide +kernel
theorem d_Bo_init_59 : decode b_Bo_init 59 = .ok (.aload_n 0, 1) := by decide +kernel
theorem d_Bo_init_60 : decode b_Bo_init 60 = .ok (.iconst 0, 1) := by decide +kernel
theorem d_Bo_init_61 : decode b_Bo_init 61 = .ok (.putfield 45, 3) := by decide +kernel
theorem d_Bo_init_64 : decode b_Bo_init 64 = .ok (.aload_n 0, 1) := by decide +kernel
theorem d_Bo_init_65 : decode b_Bo_init 65 = .ok (.iconst 0, 1) := by decide +kernel
theorem d_Bo_init_66 : decode b_Bo_init 66 = .ok (.putfield 48, 3) := by decide +kernel
theorem d_Bo_init_69 : decode b_Bo_init 69 = .ok (.return_, 1) := by decide +kernel
theorem d_Sq_init_0 : decode b_Sq_init 0 = .ok (.aload_n 0, 1) := by decide +kernel
theorem d_Sq_init_1 : decode b_Sq_init 1 = .ok (.invokespecial 3, 3) := by decide +kernel
theorem d_Sq_init_4 : decode b_Sq_init 4 = .ok (.aload_n 0, 1) := by decide +kernel
theorem d_Sq_init_5 : decode b_Sq_init 5 = .ok (.sipush 16384, 3) := by decide +kernel
theorem d_Sq_init_8 : decode b_Sq_init 8 = .ok (.newarray .int, 2) := by decide +kernel
theorem d_Sq_init_10 : decode b_Sq_init 10 = .ok (.putfield 9, 3) := by decide +kernel
theorem d_Sq_init_13 : decode b_Sq_init 13 = .ok (.aload_n 0, 1) := by decide +kernel
theorem d_Sq_init_14 : decode b_Sq_init 14 = .ok (.sipush 16384, 3) := by decide +kernel
theorem d_Sq_init_17 : decode b_Sq_init 17 = .ok (.newarray .int, 2) := by decide +kernel
theorem d_Sq_init_19 : decode b_Sq_init 19 = .ok (.putfield 15, 3) := by decide +kernel
theorem d_Sq_init_22 : decode b_Sq_init 22 = .ok (.aload_n 0, 1) := by decide +kernel
theorem d_Sq_init_23 : decode b_Sq_init 23 = .ok (.sipush 16384, 3) := by decide +kernel
theorem d_Sq_init_26 : decode b_Sq_init 26 = .ok (.newarray .int, 2) := by decide +kernel
theorem d_Sq_init_28 : decode b_Sq_init 28 = .ok (.putfield 18, 3) := by decide +kernel
theorem d_Sq_init_31 : decode b_Sq_init 31 = .ok (.return_, 1) := by decide +kernel
theorem d_Ex_init_0 : decode b_Ex_init 0 = .ok (.aload_n 0, 1) := by decide +kernel
theorem d_Ex_init_1 : decode b_Ex_init 1 = .ok (.invokespecial 3, 3) := by decide +kernel
theorem d_Ex_init_4 : decode b_Ex_init 4 = .ok (.aload_n 0, 1) := by decide +kernel
theorem d_Ex_init_5 : decode b_Ex_init 5 = .ok (.sipush 16384, 3) := by decide +kernel
theorem d_Ex_init_8 : decode b_Ex_init 8 = .ok (.newarray .int, 2) := by decide +kernel
theorem d_Ex_init_10 : decode b_Ex_init 10 = .ok (.putfield 9, 3) := by decide +kernel
theorem d_Ex_init_13 : decode b_Ex_init 13 = .ok (.aload_n 0, 1) := by decide +kernel
theorem d_Ex_init_14 : decode b_Ex_init 14 = .ok (.sipush 16384, 3) := by decide +kernel
theorem d_Ex_init_17 : decode b_Ex_init 17 = .ok (.newarray .int, 2) := by decide +kernel
theorem d_Ex_init_19 : decode b_Ex_init 19 = .ok (.putfield 15, 3) := by decide +kernel
theorem d_Ex_init_22 : decode b_Ex_init 22 = .ok (.return_, 1) := by decide +kernel
theorem d_Mc_init_0 : decode b_Mc_init 0 = .ok (.aload_n 0, 1) := by decide +kernel
theorem d_Mc_init_1 : decode b_Mc_init 1 = .ok (.invokespecial 1, 3) := by decide +kernel
theorem d_Mc_init_4 : decode b_Mc_init 4 = .ok (.aload_n 0, 1) := by decide +kernel
theorem d_Mc_init_5 : decode b_Mc_init 5 = .ok (.new 7, 3) := by decide +kernel
theorem d_Mc_init_8 : decode b_Mc_init 8 = .ok (.dup, 1) := by decide +kernel
theorem d_Mc_init_9 : decode b_Mc_init 9 = .ok (.sipush 8000, 3) := by decide +kernel
theorem d_Mc_init_12 : decode b_Mc_init 12 = .ok (.invokespecial 11, 3) := by decide +kernel
theorem d_Mc_init_15 : decode b_Mc_init 15 = .ok (.putfield 14, 3) := by decide +kernel
theorem d_Mc_init_18 : decode b_Mc_init 18 = .ok (.aload_n 0, 1) := by decide +kernel
theorem d_Mc_init_19 : decode b_Mc_init 19 = .ok (.new 18, 3) := by decide +kernel
theorem d_Mc_init_22 : decode b_Mc_init 22 = .ok (.dup, 1) := by decide +kernel
theorem d_Mc_init_23 : decode b_Mc_init 23 = .ok (.invokespecial 20, 3) := by decide +kernel
theorem d_Mc_init_26 : decode b_Mc_init 26 = .ok (.putfield 21, 3) := by decide +kernel
theorem d_Mc_init_29 : decode b_Mc_init 29 = .ok (.aload_n 0, 1) := by decide +kernel
theorem d_Mc_init_30 : decode b_Mc_init 30 = .ok (.new 18, 3) := by decide +kernel
theorem d_Mc_init_33 : decode b_Mc_init 33 = .ok (.dup, 1) := by decide +kernel
theorem d_Mc_init_34 : decode b_Mc_init 34 = .ok (.invokespecial 20, 3) := by decide +kernel
theorem d_Mc_init_37 : decode b_Mc_init 37 = .ok (.putfield 25, 3) := by decide +kernel
theorem d_Mc_init_40 : decode b_Mc_init 40 = .ok (.aload_n 0, 1) := by decide +kernel
theorem d_Mc_init_41 : decode b_Mc_init 41 = .ok (.new 18, 3) := by decide +kernel
theorem d_Mc_init_44 : decode b_Mc_init 44 = .ok (.dup, 1) := by decide +kernel
theorem d_Mc_init_45 : decode b_Mc_init 45 = .ok (.invokespecial 20, 3) := by decide +kernel
theorem d_Mc_init_48 : decode b_Mc_init 48 = .ok (.putfield 28, 3) := by decide +kernel
theorem d_Mc_init_51 : decode b_Mc_init 51 = .ok (.aload_n 0, 1) := by decide +kernel
theorem d_Mc_init_52 : decode b_Mc_init 52 = .ok (.new 7, 3) := by decide +kernel
theorem d_Mc_init_55 : decode b_Mc_init 55 = .ok (.dup, 1) := by decide +kernel
theorem d_Mc_init_56 : decode b_Mc_init 56 = .ok (.sipush 14000, 3) := by decide +kernel
theorem d_Mc_init_59 : decode b_Mc_init 59 = .ok (.invokespecial 11, 3) := by decide +kernel
theorem d_Mc_init_62 : decode b_Mc_init 62 = .ok (.putfield 31, 3) := by decide +kernel
theorem d_Mc_init_65 : decode b_Mc_init 65 = .ok (.aload_n 0, 1) := by decide +kernel
theorem d_Mc_init_66 : decode b_Mc_init 66 = .ok (.iconst 0, 1) := by decide +kernel
theorem d_Mc_init_67 : decode b_Mc_init 67 = .ok (.putfield 34, 3) := by decide +kernel
theorem d_Mc_init_70 : decode b_Mc_init 70 = .ok (.aload_n 0, 1) := by decide +kernel
theorem d_Mc_init_71 : decode b_Mc_init 71 = .ok (.new 38, 3) := by decide +kernel
theorem d_Mc_init_74 : decode b_Mc_init 74 = .ok (.dup, 1) := by decide +kernel
theorem d_Mc_init_75 : decode b_Mc_init 75 = .ok (.invokespecial 40, 3) := by decide +kernel
theorem d_Mc_init_78 : decode b_Mc_init 78 = .ok (.putfield 41, 3) := by decide +kernel
theorem d_Mc_init_81 : decode b_Mc_init 81 = .ok (.aload_n 0, 1) := by decide +kernel
theorem d_Mc_init_82 : decode b_Mc_init 82 = .ok (.new 45, 3) := by decide +kernel
theorem d_Mc_init_85 : decode b_Mc_init 85 = .ok (.dup, 1) := by decide +kernel
theorem d_Mc_init_86 : decode b_Mc_init 86 = .ok (.invokespecial 47, 3) := by decide +kernel
theorem d_Mc_init_89 : decode b_Mc_init 89 = .ok (.putfield 48, 3) := by decide +kernel
theorem d_Mc_init_92 : decode b_Mc_init 92 = .ok (.aload_n 0, 1) := by decide +kernel
theorem d_Mc_init_93 : decode b_Mc_init 93 = .ok (.new 52, 3) := by decide +kernel
theorem d_Mc_init_96 : decode b_Mc_init 96 = .ok (.dup, 1) := by decide +kernel
theorem d_Mc_init_97 : decode b_Mc_init 97 = .ok (.invokespecial 54, 3) := by decide +kernel
theorem d_Mc_init_100 : decode b_Mc_init 100 = .ok (.putfield 55, 3) := by decide +kernel
theorem d_Mc_init_103 : decode b_Mc_init 103 = .ok (.aload_n 0, 1) := by decide +kernel
theorem d_Mc_init_104 : decode b_Mc_init 104 = .ok (.new 59, 3) := by decide +kernel
theorem d_Mc_init_107 : decode b_Mc_init 107 = .ok (.dup, 1) := by decide +kernel
theorem d_Mc_init_108 : decode b_Mc_init 108 = .ok (.invokespecial 61, 3) := by decide +kernel
theorem d_Mc_init_111 : decode b_Mc_init 111 = .ok (.putfield 62, 3) := by decide +kernel
theorem d_Mc_init_114 : decode b_Mc_init 114 = .ok (.aload_n 0, 1) := by decide +kernel
theorem d_Mc_init_115 : decode b_Mc_init 115 = .ok (.new 7, 3) := by decide +kernel
theorem d_Mc_init_118 : decode b_Mc_init 118 = .ok (.dup, 1) := by decide +kernel
theorem d_Mc_init_119 : decode b_Mc_init 119 = .ok (.sipush 16000, 3) := by decide +kernel
theorem d_Mc_init_122 : decode b_Mc_init 122 = .ok (.invokespecial 11, 3) := by decide +kernel
theorem d_Mc_init_125 : decode b_Mc_init 125 = .ok (.putfield 66, 3) := by decide +kernel
theorem d_Mc_init_128 : decode b_Mc_init 128 = .ok (.aload_n 0, 1) := by decide +kernel
theorem d_Mc_init_129 : decode b_Mc_init 129 = .ok (.new 7, 3) := by decide +kernel
theorem d_Mc_init_132 : decode b_Mc_init 132 = .ok (.dup, 1) := by decide +kernel
theorem d_Mc_init_133 : decode b_Mc_init 133 = .ok (.ldc 69, 2) := by decide +kernel
theorem d_Mc_init_135 : decode b_Mc_init 135 = .ok (.invokespecial 11, 3) := by decide +kernel
theorem d_Mc_init_138 : decode b_Mc_init 138 = .ok (.putfield 70, 3) := by decide +kernel
theorem d_Mc_init_141 : decode b_Mc_init 141 = .ok (.aload_n 0, 1) := by decide +kernel
theorem d_Mc_init_142 : decode b_Mc_init 142 = .ok (.new 7, 3) := by decide +kernel
theorem d_Mc_init_145 : decode b_Mc_init 145 = .ok (.dup, 1) := by decide +kernel
theorem d_Mc_init_146 : decode b_Mc_init 146 = .ok (.ldc 73, 2) := by decide +kernel
theorem d_Mc_init_148 : decode b_Mc_init 148 = .ok (.invokespecial 11, 3) := by decide +kernel
theorem d_Mc_init_151 : decode b_Mc_init 151 = .ok (.putfield 74, 3) := by decide +kernel
theorem d_Mc_init_154 : decode b_Mc_init 154 = .ok (.aload_n 0, 1) := by decide +kernel
theorem d_Mc_init_155 : decode b_Mc_init 155 = .ok (.new 7, 3) := by decide +kernel
theorem d_Mc_init_158 : decode b_Mc_init 158 = .ok (.dup, 1) := by decide +kernel
theorem d_Mc_init_159 : decode b_Mc_init 159 = .ok (.ldc 77, 2) := by decide +kernel
theorem d_Mc_init_161 : decode b_Mc_init 161 = .ok (.invokespecial 11, 3) := by decide +kernel
theorem d_Mc_init_164 : decode b_Mc_init 164 = .ok (.putfield 78, 3) := by decide +kernel
theorem d_Mc_init_167 : decode b_Mc_init 167 = .ok (.return_, 1) := by decide +kernel
theorem d_Mo_init_0 : decode b_Mo_init 0 = .ok (.aload_n 0, 1) := by decide +kernel
theorem d_Mo_init_1 : decode b_Mo_init 1 = .ok (.invokespecial 1, 3) := by decide +kernel
theorem d_Mo_init_4 : decode b_Mo_init 4 = .ok (.aload_n 0, 1) := by decide +kernel
theorem d_Mo_init_5 : decode b_Mo_init 5 = .ok (.bipush 10, 2) := by decide +kernel
theorem d_Mo_init_7 : decode b_Mo_init 7 = .ok (.newarray .byte, 2) := by decide +kernel
theorem d_Mo_init_9 : decode b_Mo_init 9 = .ok (.dup, 1) := by decide +kernel
theorem d_Mo_init_10 : decode b_Mo_init 10 = .ok (.iconst 0, 1) := by decide +kernel
theorem d_Mo_init_11 : decode b_Mo_init 11 = .ok (.bipush 84, 2) := by decide +kernel
theorem d_Mo_init_13 : decode b_Mo_init 13 = .ok (.bastore, 1) := by decide +kernel
theorem d_Mo_init_14 : decode b_Mo_init 14 = .ok (.dup, 1) := by decide +kernel
theorem d_Mo_init_15 : decode b_Mo_init 15 = .ok (.iconst 1, 1) := by decide +kernel
theorem d_Mo_init_16 : decode b_Mo_init 16 = .ok (.bipush 82, 2) := by decide +kernel
theorem d_Mo_init_18 : decode b_Mo_init 18 = .ok (.bastore, 1) := by decide +kernel
theorem d_Mo_init_19 : decode b_Mo_init 19 = .ok (.dup, 1) := by decide +kernel
theorem d_Mo_init_20 : decode b_Mo_init 20 = .ok (.iconst 2, 1) := by decide +kernel
theorem d_Mo_init_21 : decode b_Mo_init 21 = .ok (.bipush 65, 2) := by decide +kernel
theorem d_Mo_init_23 : decode b_Mo_init 23 = .ok (.bastore, 1) := by decide +kernel
theorem d_Mo_init_24 : decode b_Mo_init 24 = .ok (.dup, 1) := by decide +kernel
theorem d_Mo_init_25 : decode b_Mo_init 25 = .ok (.iconst 3, 1) := by decide +kernel
theorem d_Mo_init_26 : decode b_Mo_init 26 = .ok (.bipush 73, 2) := by decide +kernel
theorem d_Mo_init_28 : decode b_Mo_init 28 = .ok (.bastore, 1) := by decide +kernel
theorem d_Mo_init_29 : decode b_Mo_init 29 = .ok (.dup, 1) := by decide +kernel
theorem d_Mo_init_30 : decode b_Mo_init 30 = .ok (.iconst 4, 1) := by decide +kernel
theorem d_Mo_init_31 : decode b_Mo_init 31 = .ok (.bipush 76, 2) := by decide +kernel
theorem d_Mo_init_33 : decode b_Mo_init 33 = .ok (.bastore, 1) := by decide +kernel
theorem d_Mo_init_34 : decode b_Mo_init 34 = .ok (.dup, 1) := by decide +kernel
theorem d_Mo_init_35 : decode b_Mo_init 35 = .ok (.iconst 5, 1) := by decide +kernel
theorem d_Mo_init_36 : decode b_Mo_init 36 = .ok (.bipush 69, 2) := by decide +kernel
theorem d_Mo_init_38 : decode b_Mo_init 38 = .ok (.bastore, 1) := by decide +kernel
theorem d_Mo_init_39 : decode b_Mo_init 39 = .ok (.dup, 1) := by decide +kernel
theorem d_Mo_init_40 : decode b_Mo_init 40 = .ok (.bipush 6, 2) := by decide +kernel
theorem d_Mo_init_42 : decode b_Mo_init 42 = .ok (.bipush 82, 2) := by decide +kernel
theorem d_Mo_init_44 : decode b_Mo_init 44 = .ok (.bastore, 1) := by decide +kernel
theorem d_Mo_init_45 : decode b_Mo_init 45 = .ok (.dup, 1) := by decide +kernel
theorem d_Mo_init_46 : decode b_Mo_init 46 = .ok (.bipush 7, 2) := by decide +kernel
theorem d_Mo_init_48 : decode b_Mo_init 48 = .ok (.bipush 33, 2) := by decide +kernel
theorem d_Mo_init_50 : decode b_Mo_init 50 = .ok (.bastore, 1) := by decide +kernel
theorem d_Mo_init_51 : decode b_Mo_init 51 = .ok (.dup, 1) := by decide +kernel
theorem d_Mo_init_52 : decode b_Mo_init 52 = .ok (.bipush 8, 2) := by decide +kernel
theorem d_Mo_init_54 : decode b_Mo_init 54 = .ok (.bipush 33, 2) := by decide +kernel
theorem d_Mo_init_56 : decode b_Mo_init 56 = .ok (.bastore, 1) := by decide +kernel
theorem d_Mo_init_57 : decode b_Mo_init 57 = .ok (.dup, 1) := by decide +kernel
theorem d_Mo_init_58 : decode b_Mo_init 58 = .ok (.bipush 9, 2) := by decide +kernel
theorem d_Mo_init_60 : decode b_Mo_init 60 = .ok (.bipush 33, 2) := by decide +kernel
theorem d_Mo_init_62 : decode b_Mo_init 62 = .ok (.bastore, 1) := by decide +kernel
theorem d_Mo_init_63 : decode b_Mo_init 63 = .ok (.putfield 7, 3) := by decide +kernel
theorem d_Mo_init_66 : decode b_Mo_init 66 = .ok (.aload_n 0, 1) := by decide +kernel
theorem d_Mo_init_67 : decode b_Mo_init 67 = .ok (.bipush 15, 2) := by decide +kernel
theorem d_Mo_init_69 : decode b_Mo_init 69 = .ok (.newarray .byte, 2) := by decide +kernel
theorem d_Mo_init_71 : decode b_Mo_init 71 = .ok (.dup, 1) := by decide +kernel
theorem d_Mo_init_72 : decode b_Mo_init 72 = .ok (.iconst 0, 1) := by decide +kernel
theorem d_Mo_init_73 : decode b_Mo_init 73 = .ok (.bipush 98, 2) := by decide +kernel
theorem d_Mo_init_75 : decode b_Mo_init 75 = .ok (.bastore, 1) := by decide +kernel
theorem d_Mo_init_76 : decode b_Mo_init 76 = .ok (.dup, 1) := by decide +kernel
theorem d_Mo_init_77 : decode b_Mo_init 77 = .ok (.iconst 1, 1) := by decide +kernel
theorem d_Mo_init_78 : decode b_Mo_init 78 = .ok (.bipush 101, 2) := by decide +kernel
theorem d_Mo_init_80 : decode b_Mo_init 80 = .ok (.bastore, 1) := by decide +kernel
theorem d_Mo_init_81 : decode b_Mo_init 81 = .ok (.dup, 1) := by decide +kernel
theorem d_Mo_init_82 : decode b_Mo_init 82 = .ok (.iconst 2, 1) := by decide +kernel
theorem d_Mo_init_83 : decode b_Mo_init 83 = .ok (.bipush 103, 2) := by decide +kernel
theorem d_Mo_init_85 : decode b_Mo_init 85 = .ok (.bastore, 1) := by decide +kernel
theorem d_Mo_init_86 : decode b_Mo_init 86 = .ok (.dup, 1) := by decide +kernel
theorem d_Mo_init_87 : decode b_Mo_init 87 = .ok (.iconst 3, 1) := by decide +kernel
theorem d_Mo_init_88 : decode b_Mo_init 88 = .ok (.bipush 105, 2) := by decide +kernel
theorem d_Mo_init_90 : decode b_Mo_init 90 = .ok (.bastore, 1) := by decide +kernel
theorem d_Mo_init_91 : decode b_Mo_init 91 = .ok (.dup, 1) := by decide +kernel
theorem d_Mo_init_92 : decode b_Mo_init 92 = .ok (.iconst 4, 1) := by decide +kernel
theorem d_Mo_init_93 : decode b_Mo_init 93 = .ok (.bipush 110, 2) := by decide +kernel
theorem d_Mo_init_95 : decode b_Mo_init 95 = .ok (.bastore, 1) := by decide +kernel
theorem d_Mo_init_96 : decode b_Mo_init 96 = .ok (.dup, 1) := by decide +kernel
theorem d_Mo_init_97 : decode b_Mo_init 97 = .ok (.iconst 5, 1) := by decide +kernel
theorem d_Mo_init_98 : decode b_Mo_init 98 = .ok (.bipush 32, 2) := by decide +kernel
theorem d_Mo_init_100 : decode b_Mo_init 100 = .ok (.bastore, 1) := by decide +kernel
theorem d_Mo_init_101 : decode b_Mo_init 101 = .ok (.dup, 1) := by decide +kernel
theorem d_Mo_init_102 : decode b_Mo_init 102 = .ok (.bipush 6, 2) := by decide +kernel
theorem d_Mo_init_104 : decode b_Mo_init 104 = .ok (.bipush 54, 2) := by decide +kernel
theorem d_Mo_init_106 : decode b_Mo_init 106 = .ok (.bastore, 1) := by decide +kernel
theorem d_Mo_init_107 : decode b_Mo_init 107 = .ok (.dup, 1) := by decide +kernel
theorem d_Mo_init_108 : decode b_Mo_init 108 = .ok (.bipush 7, 2) := by decide +kernel
theorem d_Mo_init_110 : decode b_Mo_init 110 = .ok (.bipush 52, 2) := by decide +kernel
theorem d_Mo_init_112 : decode b_Mo_init 112 = .ok (.bastore, 1) := by decide +kernel
theorem d_Mo_init_113 : decode b_Mo_init 113 = .ok (.dup, 1) := by decide +kernel
theorem d_Mo_init_114 : decode b_Mo_init 114 = .ok (.bipush 8, 2) := by decide +kernel
theorem d_Mo_init_116 : decode b_Mo_init 116 = .ok (.bipush 52, 2) := by decide +kernel
theorem d_Mo_init_118 : decode b_Mo_init 118 = .ok (.bastore, 1) := by decide +kernel
theorem d_Mo_init_119 : decode b_Mo_init 119 = .ok (.dup, 1) := by decide +kernel
theorem d_Mo_init_120 : decode b_Mo_init 120 = .ok (.bipush 9, 2) := by decide +kernel
theorem d_Mo_init_122 : decode b_Mo_init 122 = .ok (.bipush 32, 2) := by decide +kernel
theorem d_Mo_init_124 : decode b_Mo_init 124 = .ok (.bastore, 1) := by decide +kernel
theorem d_Mo_init_125 : decode b_Mo_init 125 = .ok (.dup, 1) := by decide +kernel
theorem d_Mo_init_126 : decode b_Mo_init 126 = .ok (.bipush 10, 2) := by decide +kernel
theorem d_Mo_init_128 : decode b_Mo_init 128 = .ok (.bipush 109, 2) := by decide +kernel
theorem d_Mo_init_130 : decode b_Mo_init 130 = .ok (.bastore, 1) := by decide +kernel
theorem d_Mo_init_131 : decode b_Mo_init 131 = .ok (.dup, 1) := by decide +kernel
theorem d_Mo_init_132 : decode b_Mo_init 132 = .ok (.bipush 11, 2) := by decide +kernel
theorem d_Mo_init_134 : decode b_Mo_init 134 = .ok (.bipush 97, 2) := by decide +kernel
theorem d_Mo_init_136 : decode b_Mo_init 136 = .ok (.bastore, 1) := by decide +kernel
theorem d_Mo_init_137 : decode b_Mo_init 137 = .ok (.dup, 1) := by decide +kernel
theorem d_Mo_init_138 : decode b_Mo_init 138 = .ok (.bipush 12, 2) := by decide +kernel
theorem d_Mo_init_140 : decode b_Mo_init 140 = .ok (.bipush 105, 2) := by decide +kernel
theorem d_Mo_init_142 : decode b_Mo_init 142 = .ok (.bastore, 1) := by decide +kernel
theorem d_Mo_init_143 : decode b_Mo_init 143 = .ok (.dup, 1) := by decide +kernel
theorem d_Mo_init_144 : decode b_Mo_init 144 = .ok (.bipush 13, 2) := by decide +kernel
theorem d_Mo_init_146 : decode b_Mo_init 146 = .ok (.bipush 108, 2) := by decide +kernel
theorem d_Mo_init_148 : decode b_Mo_init 148 = .ok (.bastore, 1) := by decide +kernel
theorem d_Mo_init_149 : decode b_Mo_init 149 = .ok (.dup, 1) := by decide +kernel
theorem d_Mo_init_150 : decode b_Mo_init 150 = .ok (.bipush 14, 2) := by decide +kernel
theorem d_Mo_init_152 : decode b_Mo_init 152 = .ok (.bipush 10, 2) := by decide +kernel
theorem d_Mo_init_154 : decode b_Mo_init 154 = .ok (.bastore, 1) := by decide +kernel
theorem d_Mo_init_155 : decode b_Mo_init 155 = .ok (.putfield 13, 3) := by decide +kernel
theorem d_Mo_init_158 : decode b_Mo_init 158 = .ok (.aload_n 0, 1) := by decide +kernel
theorem d_Mo_init_159 : decode b_Mo_init 159 = .ok (.iconst 5, 1) := by decide +kernel
theorem d_Mo_init_160 : decode b_Mo_init 160 = .ok (.newarray .byte, 2) := by decide +kernel
theorem d_Mo_init_162 : decode b_Mo_init 162 = .ok (.dup, 1) := by decide +kernel
theorem d_Mo_init_163 : decode b_Mo_init 163 = .ok (.iconst 0, 1) := by decide +kernel
theorem d_Mo_init_164 : decode b_Mo_init 164 = .ok (.bipush 80, 2) := by decide +kernel
theorem d_Mo_init_166 : decode b_Mo_init 166 = .ok (.bastore, 1) := by decide +kernel
theorem d_Mo_init_167 : decode b_Mo_init 167 = .ok (.dup, 1) := by decide +kernel
theorem d_Mo_init_168 : decode b_Mo_init 168 = .ok (.iconst 1, 1) := by decide +kernel
theorem d_Mo_init_169 : decode b_Mo_init 169 = .ok (.bipush 65, 2) := by decide +kernel
theorem d_Mo_init_171 : decode b_Mo_init 171 = .ok (.bastore, 1) := by decide +kernel
theorem d_Mo_init_172 : decode b_Mo_init 172 = .ok (.dup, 1) := by decide +kernel
theorem d_Mo_init_173 : decode b_Mo_init 173 = .ok (.iconst 2, 1) := by decide +kernel
theorem d_Mo_init_174 : decode b_Mo_init 174 = .ok (.bipush 82, 2) := by decide +kernel
theorem d_Mo_init_176 : decode b_Mo_init 176 = .ok (.bastore, 1) := by decide +kernel
theorem d_Mo_init_177 : decode b_Mo_init 177 = .ok (.dup, 1) := by decide +kernel
theorem d_Mo_init_178 : decode b_Mo_init 178 = .ok (.iconst 3, 1) := by decide +kernel
theorem d_Mo_init_179 : decode b_Mo_init 179 = .ok (.bipush 84, 2) := by decide +kernel
theorem d_Mo_init_181 : decode b_Mo_init 181 = .ok (.bastore, 1) := by decide +kernel
theorem d_Mo_init_182 : decode b_Mo_init 182 = .ok (.dup, 1) := by decide +kernel
theorem d_Mo_init_183 : decode b_Mo_init 183 = .ok (.iconst 4, 1) := by decide +kernel
theorem d_Mo_init_184 : decode b_Mo_init 184 = .ok (.bipush 32, 2) := by decide +kernel
theorem d_Mo_init_186 : decode b_Mo_init 186 = .ok (.bastore, 1) := by decide +kernel
theorem d_Mo_init_187 : decode b_Mo_init 187 = .ok (.putfield 16, 3) := by decide +kernel
theorem d_Mo_init_190 : decode b_Mo_init 190 = .ok (.aload_n 0, 1) := by decide +kernel
theorem d_Mo_init_191 : decode b_Mo_init 191 = .ok (.iconst 3, 1) := by decide +kernel
theorem d_Mo_init_192 : decode b_Mo_init 192 = .ok (.newarray .byte, 2) := by decide +kernel
theorem d_Mo_init_194 : decode b_Mo_init 194 = .ok (.dup, 1) := by decide +kernel
theorem d_Mo_init_195 : decode b_Mo_init 195 = .ok (.iconst 0, 1) := by decide +kernel
theorem d_Mo_init_196 : decode b_Mo_init 196 = .ok (.bipush 79, 2) := by decide +kernel
theorem d_Mo_init_198 : decode b_Mo_init 198 = .ok (.bastore, 1) := by decide +kernel
theorem d_Mo_init_199 : decode b_Mo_init 199 = .ok (.dup, 1) := by decide +kernel
theorem d_Mo_init_200 : decode b_Mo_init 200 = .ok (.iconst 1, 1) := by decide +kernel
theorem d_Mo_init_201 : decode b_Mo_init 201 = .ok (.bipush 70, 2) := by decide +kernel
theorem d_Mo_init_203 : decode b_Mo_init 203 = .ok (.bastore, 1) := by decide +kernel
theorem d_Mo_init_204 : decode b_Mo_init 204 = .ok (.dup, 1) := by decide +kernel
theorem d_Mo_init_205 : decode b_Mo_init 205 = .ok (.iconst 2, 1) := by decide +kernel
theorem d_Mo_init_206 : decode b_Mo_init 206 = .ok (.bipush 32, 2) := by decide +kernel
theorem d_Mo_init_208 : decode b_Mo_init 208 = .ok (.bastore, 1) := by decide +kernel
theorem d_Mo_init_209 : decode b_Mo_init 209 = .ok (.putfield 19, 3) := by decide +kernel
theorem d_Mo_init_212 : decode b_Mo_init 212 = .ok (.aload_n 0, 1) := by decide +kernel
theorem d_Mo_init_213 : decode b_Mo_init 213 = .ok (.iconst 5, 1) := by decide +kernel
theorem d_Mo_init_214 : decode b_Mo_init 214 = .ok (.newarray .byte, 2) := by decide +kernel
theorem d_Mo_init_216 : decode b_Mo_init 216 = .ok (.dup, 1) := by decide +kernel
theorem d_Mo_init_217 : decode b_Mo_init 217 = .ok (.iconst 0, 1) := by decide +kernel
theorem d_Mo_init_218 : decode b_Mo_init 218 = .ok (.bipush 83, 2) := by decide +kernel
theorem d_Mo_init_220 : decode b_Mo_init 220 = .ok (.bastore, 1) := by decide +kernel
theorem d_Mo_init_221 : decode b_Mo_init 221 = .ok (.dup, 1) := by decide +kernel
theorem d_Mo_init_222 : decode b_Mo_init 222 = .ok (.iconst 1, 1) := by decide +kernel
theorem d_Mo_init_223 : decode b_Mo_init 223 = .ok (.bipush 73, 2) := by decide +kernel
theorem d_Mo_init_225 : decode b_Mo_init 225 = .ok (.bastore, 1) := by decide +kernel
theorem d_Mo_init_226 : decode b_Mo_init 226 = .ok (.dup, 1) := by decide +kernel
theorem d_Mo_init_227 : decode b_Mo_init 227 = .ok (.iconst 2, 1) := by decide +kernel
theorem d_Mo_init_228 : decode b_Mo_init 228 = .ok (.bipush 90, 2) := by decide +kernel
theorem d_Mo_init_230 : decode b_Mo_init 230 = .ok (.bastore, 1) := by decide +kernel
theorem d_Mo_init_231 : decode b_Mo_init 231 = .ok (.dup, 1) := by decide +kernel
theorem d_Mo_init_232 : decode b_Mo_init 232 = .ok (.iconst 3, 1) := by decide +kernel
theorem d_Mo_init_233 : decode b_Mo_init 233 = .ok (.bipush 69, 2) := by decide +kernel
theorem d_Mo_init_235 : decode b_Mo_init 235 = .ok (.bastore, 1) := by decide +kernel
theorem d_Mo_init_236 : decode b_Mo_init 236 = .ok (.dup, 1) := by decide +kernel
theorem d_Mo_init_237 : decode b_Mo_init 237 = .ok (.iconst 4, 1) := by decide +kernel
theorem d_Mo_init_238 : decode b_Mo_init 238 = .ok (.bipush 32, 2) := by decide +kernel
theorem d_Mo_init_240 : decode b_Mo_init 240 = .ok (.bastore, 1) := by decide +kernel
theorem d_Mo_init_241 : decode b_Mo_init 241 = .ok (.putfield 22, 3) := by decide +kernel
theorem d_Mo_init_244 : decode b_Mo_init 244 = .ok (.aload_n 0, 1) := by decide +kernel
theorem d_Mo_init_245 : decode b_Mo_init 245 = .ok (.bipush 6, 2) := by decide +kernel
theorem d_Mo_init_247 : decode b_Mo_init 247 = .ok (.newarray .byte, 2) := by decide +kernel
theorem d_Mo_init_249 : decode b_Mo_init 249 = .ok (.dup, 1) := by decide +kernel
theorem d_Mo_init_250 : decode b_Mo_init 250 = .ok (.iconst 0, 1) := by decide +kernel
theorem d_Mo_init_251 : decode b_Mo_init 251 = .ok (.bipush 67, 2) := by decide +kernel
theorem d_Mo_init_253 : decode b_Mo_init 253 = .ok (.bastore, 1) := by decide +kernel
theorem d_Mo_init_254 : decode b_Mo_init 254 = .ok (.dup, 1) := by decide +kernel
theorem d_Mo_init_255 : decode b_Mo_init 255 = .ok (.iconst 1, 1) := by decide +kernel
theorem d_Mo_init_256 : decode b_Mo_init 256 = .ok (.bipush 75, 2) := by decide +kernel
theorem d_Mo_init_258 : decode b_Mo_init 258 = .ok (.bastore, 1) := by decide +kernel
theorem d_Mo_init_259 : decode b_Mo_init 259 = .ok (.dup, 1) := by decide +kernel
theorem d_Mo_init_260 : decode b_Mo_init 260 = .ok (.iconst 2, 1) := by decide +kernel
theorem d_Mo_init_261 : decode b_Mo_init 261 = .ok (.bipush 83, 2) := by decide +kernel
theorem d_Mo_init_263 : decode b_Mo_init 263 = .ok (.bastore, 1) := by decide +kernel
theorem d_Mo_init_264 : decode b_Mo_init 264 = .ok (.dup, 1) := by decide +kernel
theorem d_Mo_init_265 : decode b_Mo_init 265 = .ok (.iconst 3, 1) := by decide +kernel
theorem d_Mo_init_266 : decode b_Mo_init 266 = .ok (.bipush 85, 2) := by decide +kernel
theorem d_Mo_init_268 : decode b_Mo_init 268 = .ok (.bastore, 1) := by decide +kernel
theorem d_Mo_init_269 : decode b_Mo_init 269 = .ok (.dup, 1) := by decide +kernel
theorem d_Mo_init_270 : decode b_Mo_init 270 = .ok (.iconst 4, 1) := by decide +kernel
theorem d_Mo_init_271 : decode b_Mo_init 271 = .ok (.bipush 77, 2) := by decide +kernel
theorem d_Mo_init_273 : decode b_Mo_init 273 = .ok (.bastore, 1) := by decide +kernel
theorem d_Mo_init_274 : decode b_Mo_init 274 = .ok (.dup, 1) := by decide +kernel
theorem d_Mo_init_275 : decode b_Mo_init 275 = .ok (.iconst 5, 1) := by decide +kernel
theorem d_Mo_init_276 : decode b_Mo_init 276 = .ok (.bipush 32, 2) := by decide +kernel
theorem d_Mo_init_278 : decode b_Mo_init 278 = .ok (.bastore, 1) := by decide +kernel
theorem d_Mo_init_279 : decode b_Mo_init 279 = .ok (.putfield 25, 3) := by decide +kernel
theorem d_Mo_init_282 : decode b_Mo_init 282 = .ok (.aload_n 0, 1) := by decide +kernel
theorem d_Mo_init_283 : decode b_Mo_init 283 = .ok (.sipush 8000, 3) := by decide +kernel
theorem d_Mo_init_286 : decode b_Mo_init 286 = .ok (.newarray .byte, 2) := by decide +kernel
theorem d_Mo_init_288 : decode b_Mo_init 288 = .ok (.putfield 28, 3) := by decide +kernel
theorem d_Mo_init_291 : decode b_Mo_init 291 = .ok (.aload_n 0, 1) := by decide +kernel
theorem d_Mo_init_292 : decode b_Mo_init 292 = .ok (.iconst 3, 1) := by decide +kernel
theorem d_Mo_init_293 : decode b_Mo_init 293 = .ok (.newarray .int, 2) := by decide +kernel
theorem d_Mo_init_295 : decode b_Mo_init 295 = .ok (.putfield 31, 3) := by decide +kernel
theorem d_Mo_init_298 : decode b_Mo_init 298 = .ok (.aload_n 0, 1) := by decide +kernel
theorem d_Mo_init_299 : decode b_Mo_init 299 = .ok (.sipush 7380, 3) := by decide +kernel
theorem d_Mo_init_302 : decode b_Mo_init 302 = .ok (.newarray .byte, 2) := by decide +kernel
theorem d_Mo_init_304 : decode b_Mo_init 304 = .ok (.putfield 35, 3) := by decide +kernel
theorem d_Mo_init_307 : decode b_Mo_init 307 = .ok (.aload_n 0, 1) := by decide +kernel
theorem d_Mo_init_308 : decode b_Mo_init 308 = .ok (.bipush 123, 2) := by decide +kernel
theorem d_Mo_init_310 : decode b_Mo_init 310 = .ok (.newarray .int, 2) := by decide +kernel
theorem d_Mo_init_312 : decode b_Mo_init 312 = .ok (.putfield 38, 3) := by decide +kernel
theorem d_Mo_init_315 : decode b_Mo_init 315 = .ok (.aload_n 0, 1) := by decide +kernel
theorem d_Mo_init_316 : decode b_Mo_init 316 = .ok (.bipush 123, 2) := by decide +kernel
theorem d_Mo_init_318 : decode b_Mo_init 318 = .ok (.newarray .int, 2) := by decide +kernel
theorem d_Mo_init_320 : decode b_Mo_init 320 = .ok (.putfield 41, 3) := by decide +kernel
theorem d_Mo_init_323 : decode b_Mo_init 323 = .ok (.aload_n 0, 1) := by decide +kernel
theorem d_Mo_init_324 : decode b_Mo_init 324 = .ok (.bipush 123, 2) := by decide +kernel
theorem d_Mo_init_326 : decode b_Mo_init 326 = .ok (.newarray .int, 2) := by decide +kernel
theorem d_Mo_init_328 : decode b_Mo_init 328 = .ok (.putfield 44, 3) := by decide +kernel
theorem d_Mo_init_331 : decode b_Mo_init 331 = .ok (.aload_n 0, 1) := by decide +kernel
theorem d_Mo_init_332 : decode b_Mo_init 332 = .ok (.bipush 123, 2) := by decide +kernel
theorem d_Mo_init_334 : decode b_Mo_init 334 = .ok (.newarray .int, 2) := by decide +kernel
theorem d_Mo_init_336 : decode b_Mo_init 336 = .ok (.putfield 47, 3) := by decide +kernel
theorem d_Mo_init_339 : decode b_Mo_init 339 = .ok (.aload_n 0, 1) := by decide +kernel
theorem d_Mo_init_340 : decode b_Mo_init 340 = .ok (.bipush 123, 2) := by decide +kernel
theorem d_Mo_init_342 : decode b_Mo_init 342 = .ok (.newarray .int, 2) := by decide +kernel
theorem d_Mo_init_344 : decode b_Mo_init 344 = .ok (.putfield 50, 3) := by decide +kernel
theorem d_Mo_init_347 : decode b_Mo_init 347 = .ok (.aload_n 0, 1) := by decide +kernel
theorem d_Mo_init_348 : decode b_Mo_init 348 = .ok (.bipush 123, 2) := by decide +kernel
theorem d_Mo_init_350 : decode b_Mo_init 350 = .ok (.newarray .int, 2) := by decide +kernel
theorem d_Mo_init_352 : decode b_Mo_init 352 = .ok (.putfield 53, 3) := by decide +kernel
theorem d_Mo_init_355 : decode b_Mo_init 355 = .ok (.aload_n 0, 1) := by decide +kernel
theorem d_Mo_init_356 : decode b_Mo_init 356 = .ok (.bipush 123, 2) := by decide +kernel
theorem d_Mo_init_358 : decode b_Mo_init 358 = .ok (.newarray .int, 2) := by decide +kernel
theorem d_Mo_init_360 : decode b_Mo_init 360 = .ok (.putfield 56, 3) := by decide +kernel
theorem d_Mo_init_363 : decode b_Mo_init 363 = .ok (.aload_n 0, 1) := by decide +kernel
theorem d_Mo_init_364 : decode b_Mo_init 364 = .ok (.bipush 123, 2) := by decide +kernel
theorem d_Mo_init_366 : decode b_Mo_init 366 = .ok (.newarray .int, 2) := by decide +kernel
theorem d_Mo_init_368 : decode b_Mo_init 368 = .ok (.putfield 59, 3) := by decide +kernel
theorem d_Mo_init_371 : decode b_Mo_init 371 = .ok (.aload_n 0, 1) := by decide +kernel
theorem d_Mo_init_372 : decode b_Mo_init 372 = .ok (.bipush 123, 2) := by decide +kernel
theorem d_Mo_init_374 : decode b_Mo_init 374 = .ok (.newarray .int, 2) := by decide +kernel
theorem d_Mo_init_376 : decode b_Mo_init 376 = .ok (.putfield 62, 3) := by decide +kernel
theorem d_Mo_init_379 : decode b_Mo_init 379 = .ok (.aload_n 0, 1) := by decide +kernel
theorem d_Mo_init_380 : decode b_Mo_init 380 = .ok (.iconst 3, 1) := by decide +kernel
theorem d_Mo_init_381 : decode b_Mo_init 381 = .ok (.newarray .int, 2) := by decide +kernel
theorem d_Mo_init_383 : decode b_Mo_init 383 = .ok (.putfield 65, 3) := by decide +kernel
theorem d_Mo_init_386 : decode b_Mo_init 386 = .ok (.aload_n 0, 1) := by decide +kernel
theorem d_Mo_init_387 : decode b_Mo_init 387 = .ok (.ldc 68, 2) := by decide +kernel
theorem d_Mo_init_389 : decode b_Mo_init 389 = .ok (.newarray .byte, 2) := by decide +kernel
theorem d_Mo_init_391 : decode b_Mo_init 391 = .ok (.putfield 69, 3) := by decide +kernel
theorem d_Mo_init_394 : decode b_Mo_init 394 = .ok (.aload_n 0, 1) := by decide +kernel
theorem d_Mo_init_395 : decode b_Mo_init 395 = .ok (.bipush 60, 2) := by decide +kernel
theorem d_Mo_init_397 : decode b_Mo_init 397 = .ok (.newarray .byte, 2) := by decide +kernel
theorem d_Mo_init_399 : decode b_Mo_init 399 = .ok (.putfield 72, 3) := by decide +kernel
theorem d_Mo_init_402 : decode b_Mo_init 402 = .ok (.aload_n 0, 1) := by decide +kernel
theorem d_Mo_init_403 : decode b_Mo_init 403 = .ok (.sipush 24000, 3) := by decide +kernel
theorem d_Mo_init_406 : decode b_Mo_init 406 = .ok (.newarray .byte, 2) := by decide +kernel
theorem d_Mo_init_408 : decode b_Mo_init 408 = .ok (.putfield 75, 3) := by decide +kernel
theorem d_Mo_init_411 : decode b_Mo_init 411 = .ok (.aload_n 0, 1) := by decide +kernel
theorem d_Mo_init_412 : decode b_Mo_init 412 = .ok (.ldc 78, 2) := by decide +kernel
theorem d_Mo_init_414 : decode b_Mo_init 414 = .ok (.newarray .byte, 2) := by decide +kernel
theorem d_Mo_init_416 : decode b_Mo_init 416 = .ok (.putfield 79, 3) := by decide +kernel
theorem d_Mo_init_419 : decode b_Mo_init 419 = .ok (.aload_n 0, 1) := by decide +kernel
theorem d_Mo_init_420 : decode b_Mo_init 420 = .ok (.ldc 82, 2) := by decide +kernel
theorem d_Mo_init_422 : decode b_Mo_init 422 = .ok (.newarray .byte, 2) := by decide +kernel
theorem d_Mo_init_424 : decode b_Mo_init 424 = .ok (.putfield 83, 3) := by decide +kernel
theorem d_Mo_init_427 : decode b_Mo_init 427 = .ok (.aload_n 0, 1) := by decide +kernel
theorem d_Mo_init_428 : decode b_Mo_init 428 = .ok (.ldc 78, 2) := by decide +kernel
theorem d_Mo_init_430 : decode b_Mo_init 430 = .ok (.newarray .byte, 2) := by decide +kernel
theorem d_Mo_init_432 : decode b_Mo_init 432 = .ok (.putfield 86, 3) := by decide +kernel
theorem d_Mo_init_435 : decode b_Mo_init 435 = .ok (.aload_n 0, 1) := by decide +kernel
theorem d_Mo_init_436 : decode b_Mo_init 436 = .ok (.ldc 82, 2) := by decide +kernel
theorem d_Mo_init_438 : decode b_Mo_init 438 = .ok (.newarray .byte, 2) := by decide +kernel
theorem d_Mo_init_440 : decode b_Mo_init 440 = .ok (.putfield 89, 3) := by decide +kernel
theorem d_Mo_init_443 : decode b_Mo_init 443 = .ok (.aload_n 0, 1) := by decide +kernel
theorem d_Mo_init_444 : decode b_Mo_init 444 = .ok (.sipush 1000, 3) := by decide +kernel
theorem d_Mo_init_447 : decode b_Mo_init 447 = .ok (.newarray .boolean, 2) := by decide +kernel
theorem d_Mo_init_449 : decode b_Mo_init 449 = .ok (.putfield 92, 3) := by decide +kernel
theorem d_Mo_init_452 : decode b_Mo_init 452 = .ok (.aload_n 0, 1) := by decide +kernel
theorem d_Mo_init_453 : decode b_Mo_init 453 = .ok (.sipush 1000, 3) := by decide +kernel
theorem d_Mo_init_456 : decode b_Mo_init 456 = .ok (.newarray .int, 2) := by decide +kernel
theorem d_Mo_init_458 : decode b_Mo_init 458 = .ok (.putfield 96, 3) := by decide +kernel
theorem d_Mo_init_461 : decode b_Mo_init 461 = .ok (.aload_n 0, 1) := by decide +kernel
theorem d_Mo_init_462 : decode b_Mo_init 462 = .ok (.sipush 1000, 3) := by decide +kernel
theorem d_Mo_init_465 : decode b_Mo_init 465 = .ok (.newarray .int, 2) := by decide +kernel
theorem d_Mo_init_467 : decode b_Mo_init 467 = .ok (.putfield 99, 3) := by decide +kernel
theorem d_Mo_init_470 : decode b_Mo_init 470 = .ok (.aload_n 0, 1) := by decide +kernel
theorem d_Mo_init_471 : decode b_Mo_init 471 = .ok (.ldc 102, 2) := by decide +kernel
theorem d_Mo_init_473 : decode b_Mo_init 473 = .ok (.newarray .byte, 2) := by decide +kernel
theorem d_Mo_init_475 : decode b_Mo_init 475 = .ok (.putfield 103, 3) := by decide +kernel
theorem d_Mo_init_478 : decode b_Mo_init 478 = .ok (.aload_n 0, 1) := by decide +kernel
theorem d_Mo_init_479 : decode b_Mo_init 479 = .ok (.ldc 82, 2) := by decide +kernel
theorem d_Mo_init_481 : decode b_Mo_init 481 = .ok (.newarray .byte, 2) := by decide +kernel
theorem d_Mo_init_483 : decode b_Mo_init 483 = .ok (.putfield 106, 3) := by decide +kernel
theorem d_Mo_init_486 : decode b_Mo_init 486 = .ok (.aload_n 0, 1) := by decide +kernel
theorem d_Mo_init_487 : decode b_Mo_init 487 = .ok (.ldc 82, 2) := by decide +kernel
theorem d_Mo_init_489 : decode b_Mo_init 489 = .ok (.newarray .byte, 2) := by decide +kernel
theorem d_Mo_init_491 : decode b_Mo_init 491 = .ok (.putfield 109, 3) := by decide +kernel
theorem d_Mo_init_494 : decode b_Mo_init 494 = .ok (.aload_n 0, 1) := by decide +kernel
theorem d_Mo_init_495 : decode b_Mo_init 495 = .ok (.ldc 112, 2) := by decide +kernel
theorem d_Mo_init_497 : decode b_Mo_init 497 = .ok (.newarray .int, 2) := by decide +kernel
theorem d_Mo_init_499 : decode b_Mo_init 499 = .ok (.putfield 113, 3) := by decide +kernel
theorem d_Mo_init_502 : decode b_Mo_init 502 = .ok (.aload_n 0, 1) := by decide +kernel
theorem d_Mo_init_503 : decode b_Mo_init 503 = .ok (.ldc 112, 2) := by decide +kernel
theorem d_Mo_init_505 : decode b_Mo_init 505 = .ok (.newarray .int, 2) := by decide +kernel
theorem d_Mo_init_507 : decode b_Mo_init 507 = .ok (.putfield 116, 3) := by decide +kernel
theorem d_Mo_init_510 : decode b_Mo_init 510 = .ok (.aload_n 0, 1) := by decide +kernel
theorem d_Mo_init_511 : decode b_Mo_init 511 = .ok (.ldc 112, 2) := by decide +kernel
theorem d_Mo_init_513 : decode b_Mo_init 513 = .ok (.newarray .int, 2) := by decide +kernel
theorem d_Mo_init_515 : decode b_Mo_init 515 = .ok (.putfield 119, 3) := by decide +kernel
theorem d_Mo_init_518 : decode b_Mo_init 518 = .ok (.aload_n 0, 1) := by decide +kernel
theorem d_Mo_init_519 : decode b_Mo_init 519 = .ok (.ldc 112, 2) := by decide +kernel
theorem d_Mo_init_521 : decode b_Mo_init 521 = .ok (.newarray .int, 2) := by decide +kernel
theorem d_Mo_init_523 : decode b_Mo_init 523 = .ok (.putfield 122, 3) := by decide +kernel
theorem d_Mo_init_526 : decode b_Mo_init 526 = .ok (.aload_n 0, 1) := by decide +kernel
theorem d_Mo_init_527 : decode b_Mo_init 527 = .ok (.sipush 9000, 3) := by decide +kernel
theorem d_Mo_init_530 : decode b_Mo_init 530 = .ok (.newarray .byte, 2) := by decide +kernel
theorem d_Mo_init_532 : decode b_Mo_init 532 = .ok (.putfield 125, 3) := by decide +kernel
theorem d_Mo_init_535 : decode b_Mo_init 535 = .ok (.return_, 1) := by decide +kernel
set_option maxRecDepth 100000 in
set_option maxHeartbeats 4000000 in
theorem Mef_Ro_init (l : Launch) (B : Nat) (D : va_G) (aC : Nat → ClassId) (aS : Nat → Nat) {a0 : Nat} {i1 : Int32} {N : Nat} {M : zM} {F : zFl} {post : Nat → zM → zFl → Prop} (h : Wf_Ro_init a0 i1 N M F post) : Met l y_Ro_init (wo y_Ro_init b_Ro_init 2 none) { frames := 1, cells := 1, slots := (i1).toNatClampNeg, locals := 32 } (va_Pc [.ref (B + a0), .int i1] (yWl B D aC aS N M F)) (yQ B D aC post) 1 ((i1).toNatClampNeg) (yAb B) := by
  refine y_met (own := "MailChain$Row") (lv0 := [(0, .ref (B + a0)), (1, .int i1)]) (by decide) rfl (Nat.le_of_ble_eq_true rfl) rfl ?_
  intro p e s m below meth c fx hr hlo hnm hz hNN
  delta Wf_Ro_init at h
  refine f_aload_n fx 0 d_Ro_init_0 rfl rfl ?_
  refine f_obj fx w_45 w_38 w_39 d_Ro_init_1 (Nat.le_of_ble_eq_true rfl) (Nat.le_of_ble_eq_true rfl) ?_
  refine f_aload_n fx 0 d_Ro_init_4 rfl rfl ?_
  refine f_iload_n fx 1 d_Ro_init_5 rfl rfl ?_
  obtain ⟨h0, hz1, ht, hln, hfr, hRc, hRs, hneg, hby, h⟩ := h
  refine f_newaB fx (n := i1) h0 (by omega) ht hln hfr hneg rfl hby w_62 hRc hRs d_Ro_init_6 ?_
  obtain ⟨hk, ht, hE, h⟩ := h
  refine f_ref hE ?_
  refine f_putS fx (T := F_Ro) (ty0 := t_Ro) (j := 0) (hk := hk) (ht := ht) (ht2 := by decide) (hc := rfl) (hin := u_in_Ro) (hty := t_Ro_ok) (hnm := n_Ro) (hj := by decide) (hj2 := by decide) (hf := rfl) (hT := rfl) (hfin := rfl) (n9 := 1) (hfo := rfl) (hin2 := hnm) (hdecl := rfl) (hn := rfl) (hfit := rfl) (hw := w_46) (hd := d_Ro_init_8) (kk := f_memF (fun F1 eF1 => ?_))
  have h := h F1 eF1
  refine f_aload_n fx 0 d_Ro_init_11 rfl rfl ?_
  refine f_iconst (v := 0) fx d_Ro_init_12 rfl ?_
  obtain ⟨hk, ht, h⟩ := h
  refine f_putI fx (T := F_Ro) (ty0 := t_Ro) (j := 1) (hk := hk) (ht := ht) (ht2 := by decide) (hc := rfl) (hin := u_in_Ro) (hty := t_Ro_ok) (hnm := n_Ro) (hj := by decide) (hj2 := by decide) (hf := rfl) (hT := rfl) (hfin := rfl) (hn := rfl) (hfit := rfl) (hw := w_47) (hd := d_Ro_init_13) (kk := f_memM (fun M2 eM2 => ?_))
  have h := h M2 eM2
  obtain ⟨h0, hz1, hcc, hss, h⟩ := h
  refine f_widen (mc := 1) (ms := (i1).toNatClampNeg) (by omega) hss ?_
  exact f_vret fx hlo hr h0 (by omega) h d_Ro_init_16
set_option maxRecDepth 100000 in
set_option maxHeartbeats 4000000 in
theorem Mef_En_init (l : Launch) (B : Nat) (D : va_G) (aC : Nat → ClassId) (aS : Nat → Nat) {a0 : Nat} {N : Nat} {M : zM} {F : zFl} {post : Nat → zM → zFl → Prop} (h : Wf_En_init a0 N M F post) : Met l y_En_init (wo y_En_init b_En_init 1 none) { frames := 2, cells := 2, slots := 62, locals := 53 } (va_Pc [.ref (B + a0)] (yWl B D aC aS N M F)) (yQ B D aC post) 2 62 (yAb B) := by
  refine y_met (own := "MailChain$Entry") (lv0 := [(0, .ref (B + a0))]) (by decide) rfl (Nat.le_of_ble_eq_true rfl) rfl ?_
  intro p e s m below meth c fx hr hlo hnm hz hNN
  delta Wf_En_init at h
  refine f_aload_n fx 0 d_En_init_0 rfl rfl ?_
  refine f_obj fx w_75 w_38 w_39 d_En_init_1 (Nat.le_of_ble_eq_true rfl) (Nat.le_of_ble_eq_true rfl) ?_
  refine f_aload_n fx 0 d_En_init_4 rfl rfl ?_
  obtain ⟨h0, hz1, ht, hfr, hRc, hRs, h⟩ := h
  refine f_new fx (T := F_Ro) (ty := t_Ro) h0 (by omega) ht (by decide) rfl u_in_Ro t_Ro_ok def_1 rfl hfr w_76 w_41 w_2 hRc hRs d_En_init_5 ?_
  refine f_dup fx d_En_init_8 rfl ?_
  refine f_bipush (v := 60) fx d_En_init_9 rfl ?_
  obtain ⟨h0, hz1, hN, hRc, hRs, h⟩ := h
  refine f_callI (As := [.int 60]) (rest := [.ref (B + N), .ref (B + a0)]) fx h0 hN (by omega) w_77 w_43 w_2 w_44 rfl ⟨by decide, by decide, by decide +kernel⟩ (Mef_Ro_init l B D aC aS h) rfl rfl (Nat.le_of_ble_eq_true rfl) rfl rfl ⟨Nat.le_of_ble_eq_true rfl, Nat.le_of_ble_eq_true rfl⟩ d_En_init_11 ⟨hRc, hRs⟩ (fun N3 M1 F2 h => ?_)
  obtain ⟨hk, ht, hE, h⟩ := h
  refine f_ref hE ?_
  refine f_putS fx (T := F_En) (ty0 := t_En) (j := 0) (hk := hk) (ht := ht) (ht2 := by decide) (hc := rfl) (hin := u_in_En) (hty := t_En_ok) (hnm := n_En) (hj := by decide) (hj2 := by decide) (hf := rfl) (hT := rfl) (hfin := rfl) (n9 := 1) (hfo := rfl) (hin2 := hnm) (hdecl := rfl) (hn := rfl) (hfit := rfl) (hw := w_78) (hd := d_En_init_14) (kk := f_memF (fun F4 eF4 => ?_))
  have h := h F4 eF4
  obtain ⟨h0, hz1, hcc, hss, h⟩ := h
  refine f_widen (mc := 2) (ms := 62) (by omega) hss ?_
  exact f_vret fx hlo hr h0 (by omega) h d_En_init_17
set_option maxRecDepth 100000 in
set_option maxHeartbeats 4000000 in
theorem Mef_Pl_init (l : Launch) (B : Nat) (D : va_G) (aC : Nat → ClassId) (aS : Nat → Nat) {a0 : Nat} {N : Nat} {M : zM} {F : zFl} {post : Nat → zM → zFl → Prop} (h : Wf_Pl_init a0 N M F post) : Met l y_Pl_init (wo y_Pl_init b_Pl_init 1 none) { frames := 1, cells := 0, slots := 0, locals := 32 } (va_Pc [.ref (B + a0)] (yWl B D aC aS N M F)) (yQ B D aC post) 0 0 (yAb B) := by
  refine y_met (own := "MailChain$PartLine") (lv0 := [(0, .ref (B + a0))]) (by decide) rfl (Nat.le_of_ble_eq_true rfl) rfl ?_
  intro p e s m below meth c fx hr hlo hnm hz hNN
  delta Wf_Pl_init at h
  refine f_aload_n fx 0 d_Pl_init_0 rfl rfl ?_
  refine f_obj fx w_194 w_38 w_39 d_Pl_init_1 (Nat.le_of_ble_eq_true rfl) (Nat.le_of_ble_eq_true rfl) ?_
  obtain ⟨h0, hz1, hcc, hss, h⟩ := h
  refine f_widen (mc := 0) (ms := 0) (by omega) hss ?_
  exact f_vret fx hlo hr h0 (by omega) h d_Pl_init_4
set_option maxRecDepth 100000 in
set_option maxHeartbeats 4000000 in
theorem Mef_Tr_init (l : Launch) (B : Nat) (D : va_G) (aC : Nat → ClassId) (aS : Nat → Nat) {a0 : Nat} {N : Nat} {M : zM} {F : zFl} {post : Nat → zM → zFl → Prop} (h : Wf_Tr_init a0 N M F post) : Met l y_Tr_init (wo y_Tr_init b_Tr_init 2 none) { frames := 3, cells := 126, slots := 11354, locals := 73 } (va_Pc [.ref (B + a0)] (yWl B D aC aS N M F)) (yQ B D aC post) 126 11354 (yAb B) := by
  refine y_met (own := "MailChain$Tree") (lv0 := [(0, .ref (B + a0))]) (by decide) rfl (Nat.le_of_ble_eq_true rfl) rfl ?_
  intro p e s m below meth c fx hr hlo hnm hz hNN
  delta Wf_Tr_init at h
  have h := h (fun v1 NL cn sn M F => yAt p l e { frames := 3, cells := 126, slots := 11354, locals := 73 } s m ([.ref (B + a0)] : List Value).toArray below meth c cn sn (MQ below (yQ B D aC post) ([.ref (B + a0)] : List Value).toArray s 126 11354 (yAb B)) B D aC 2 15 [(0, .ref (B + a0)), (1, .int v1)] [] NL M F)
  have h := h (by
    intro v1 NL cn sn M F h
    refine f_iload_n fx 1 d_Tr_init_15 rfl rfl ?_
    refine f_aload_n fx 0 d_Tr_init_16 rfl rfl ?_
    obtain ⟨hk, ht, hF, h⟩ := h
    refine f_getS fx (T := F_Tr) (j := 0) (n9 := 1) (hk := hk) (ht := ht) (ht2 := by decide) (hc := rfl) (hin := u_in_Tr) (hj := by decide) (hj2 := by decide) (hf := rfl) (hfo := rfl) (hF := hF) (hT := rfl) (hw := w_131) (hd := d_Tr_init_17) (kk := ?_)
    obtain ⟨hk, ht, h⟩ := h
    refine f_alenR fx hk ht d_Tr_init_20 ?_
    refine f_icmp_ge fx 43 d_Tr_init_21 rfl (fun hc => ?_) (fun hc => ?_)
    · have h := h.1 hc
      refine f_aload_n fx 0 d_Tr_init_43 rfl rfl ?_
      obtain ⟨h0, hz1, ht, hfr, hRc, hRs, h⟩ := h
      refine f_new fx (T := F_Ro) (ty := t_Ro) h0 (by omega) ht (by decide) rfl u_in_Ro t_Ro_ok def_1 rfl hfr w_129 w_41 w_2 hRc hRs d_Tr_init_44 ?_
      refine f_dup fx d_Tr_init_47 rfl ?_
      refine f_sipush (v := 8400) fx d_Tr_init_48 rfl ?_
      obtain ⟨h0, hz1, hN, hRc, hRs, h⟩ := h
      refine f_callI (As := [.int 8400]) (rest := [.ref (B + NL), .ref (B + a0)]) fx h0 hN (by omega) w_130 w_43 w_2 w_44 rfl ⟨by decide, by decide, by decide +kernel⟩ (Mef_Ro_init l B D aC aS h) rfl rfl (Nat.le_of_ble_eq_true rfl) rfl rfl ⟨Nat.le_of_ble_eq_true rfl, Nat.le_of_ble_eq_true rfl⟩ d_Tr_init_51 ⟨hRc, hRs⟩ (fun N4 M2 F3 h => ?_)
      obtain ⟨hk, ht, hE, h⟩ := h
      refine f_ref hE ?_
      refine f_putS fx (T := F_Tr) (ty0 := t_Tr) (j := 1) (hk := hk) (ht := ht) (ht2 := by decide) (hc := rfl) (hin := u_in_Tr) (hty := t_Tr_ok) (hnm := n_Tr) (hj := by decide) (hj2 := by decide) (hf := rfl) (hT := rfl) (hfin := rfl) (n9 := 125) (hfo := rfl) (hin2 := hnm) (hdecl := rfl) (hn := rfl) (hfit := rfl) (hw := w_133) (hd := d_Tr_init_54) (kk := f_memF (fun F5 eF5 => ?_))
      have h := h F5 eF5
      refine f_aload_n fx 0 d_Tr_init_57 rfl rfl ?_
      refine f_iconst (v := 0) fx d_Tr_init_58 rfl ?_
      obtain ⟨hk, ht, h⟩ := h
      refine f_putI fx (T := F_Tr) (ty0 := t_Tr) (j := 2) (hk := hk) (ht := ht) (ht2 := by decide) (hc := rfl) (hin := u_in_Tr) (hty := t_Tr_ok) (hnm := n_Tr) (hj := by decide) (hj2 := by decide) (hf := rfl) (hT := rfl) (hfin := rfl) (hn := rfl) (hfit := rfl) (hw := w_135) (hd := d_Tr_init_59) (kk := f_memM (fun M6 eM6 => ?_))
      have h := h M6 eM6
      refine f_aload_n fx 0 d_Tr_init_62 rfl rfl ?_
      refine f_iconst (v := 0) fx d_Tr_init_63 rfl ?_
      obtain ⟨hk, ht, h⟩ := h
      refine f_putI fx (T := F_Tr) (ty0 := t_Tr) (j := 3) (hk := hk) (ht := ht) (ht2 := by decide) (hc := rfl) (hin := u_in_Tr) (hty := t_Tr_ok) (hnm := n_Tr) (hj := by decide) (hj2 := by decide) (hf := rfl) (hT := rfl) (hfin := rfl) (hn := rfl) (hfit := rfl) (hw := w_138) (hd := d_Tr_init_64) (kk := f_memM (fun M7 eM7 => ?_))
      have h := h M7 eM7
      obtain ⟨h0, hz1, hcc, hss, h⟩ := h
      refine f_widen (mc := 126) (ms := 11354) (by omega) hss ?_
      exact f_vret fx hlo hr h0 (by omega) h d_Tr_init_67
    · have h := h.2 hc
      refine f_aload_n fx 0 d_Tr_init_24 rfl rfl ?_
      obtain ⟨hk, ht, hF, h⟩ := h
      refine f_getS fx (T := F_Tr) (j := 0) (n9 := 1) (hk := hk) (ht := ht) (ht2 := by decide) (hc := rfl) (hin := u_in_Tr) (hj := by decide) (hj2 := by decide) (hf := rfl) (hfo := rfl) (hF := hF) (hT := rfl) (hw := w_131) (hd := d_Tr_init_25) (kk := ?_)
      refine f_iload_n fx 1 d_Tr_init_28 rfl rfl ?_
      obtain ⟨h0, hz1, ht, hfr, hRc, hRs, h⟩ := h
      refine f_new fx (T := F_En) (ty := t_En) h0 (by omega) ht (by decide) rfl u_in_En t_En_ok def_2 rfl hfr w_69 w_71 w_4 hRc hRs d_Tr_init_29 ?_
      refine f_dup fx d_Tr_init_32 rfl ?_
      obtain ⟨h0, hz1, hN, hRc, hRs, h⟩ := h
      refine f_callI (As := []) (rest := [.ref (B + NL), .int v1, .ref (B + (a0 + 1))]) fx h0 hN (by omega) w_72 w_73 w_4 w_74 rfl ⟨by decide, by decide, by decide +kernel⟩ (Mef_En_init l B D aC aS h) rfl rfl (Nat.le_of_ble_eq_true rfl) rfl rfl ⟨Nat.le_of_ble_eq_true rfl, Nat.le_of_ble_eq_true rfl⟩ d_Tr_init_33 ⟨hRc, hRs⟩ (fun N10 M8 F9 h => ?_)
      obtain ⟨hk, ht, hv, hvt, hin, h⟩ := h
      refine f_aast fx hk ht hv hvt hin d_Tr_init_36 (f_memM (fun M11 eM11 => f_memF (fun F12 eF12 => ?_)))
      have h := h M11 eM11 F12 eF12
      obtain ⟨x13, ex13⟩ : ∃ z : Int32, z = v1 + 1 := ⟨_, rfl⟩
      have h := h x13 ex13
      refine f_iinc (lv2 := [(1, .int x13), (0, .ref (B + a0))]) fx 1 d_Tr_init_37 rfl ex13.symm (by decide) rfl ?_
      refine f_goto fx 15 d_Tr_init_40 rfl ?_
      refine f_sub [1, 0] rfl ?_
      exact h)
  refine f_aload_n fx 0 d_Tr_init_0 rfl rfl ?_
  refine f_obj fx w_68 w_38 w_39 d_Tr_init_1 (Nat.le_of_ble_eq_true rfl) (Nat.le_of_ble_eq_true rfl) ?_
  refine f_aload_n fx 0 d_Tr_init_4 rfl rfl ?_
  refine f_bipush (v := 41) fx d_Tr_init_5 rfl ?_
  obtain ⟨h0, hz1, ht, hln, hfr, hRc, hRs, h⟩ := h
  refine f_anew fx (n := 41) h0 (by omega) ht hln hfr (by decide) (by decide) (by decide) w_69 hRc hRs d_Tr_init_7 ?_
  obtain ⟨hk, ht, hE, h⟩ := h
  refine f_ref hE ?_
  refine f_putS fx (T := F_Tr) (ty0 := t_Tr) (j := 0) (hk := hk) (ht := ht) (ht2 := by decide) (hc := rfl) (hin := u_in_Tr) (hty := t_Tr_ok) (hnm := n_Tr) (hj := by decide) (hj2 := by decide) (hf := rfl) (hT := rfl) (hfin := rfl) (n9 := 1) (hfo := rfl) (hin2 := hnm) (hdecl := rfl) (hn := rfl) (hfit := rfl) (hw := w_131) (hd := d_Tr_init_10) (kk := f_memF (fun F1 eF1 => ?_))
  have h := h F1 eF1
  refine f_iconst (v := 0) fx d_Tr_init_13 rfl ?_
  refine f_istore_n (lv2 := [(1, .int 0), (0, .ref (B + a0))]) fx d_Tr_init_14 rfl (by decide) rfl ?_
  refine f_sub [1, 0] rfl ?_
  exact h
set_option maxRecDepth 100000 in
set_option maxHeartbeats 4000000 in
theorem Mef_Ma_init (l : Launch) (B : Nat) (D : va_G) (aC : Nat → ClassId) (aS : Nat → Nat) {a0 : Nat} {N : Nat} {M : zM} {F : zFl} {post : Nat → zM → zFl → Prop} (h : Wf_Ma_init a0 N M F post) : Met l y_Ma_init (wo y_Ma_init b_Ma_init 1 none) { frames := 2, cells := 5, slots := 63003, locals := 53 } (va_Pc [.ref (B + a0)] (yWl B D aC aS N M F)) (yQ B D aC post) 5 63003 (yAb B) := by
  refine y_met (own := "MailChain$Mail") (lv0 := [(0, .ref (B + a0))]) (by decide) rfl (Nat.le_of_ble_eq_true rfl) rfl ?_
  intro p e s m below meth c fx hr hlo hnm hz hNN
  delta Wf_Ma_init at h
  refine f_aload_n fx 0 d_Ma_init_0 rfl rfl ?_
  refine f_obj fx w_153 w_38 w_39 d_Ma_init_1 (Nat.le_of_ble_eq_true rfl) (Nat.le_of_ble_eq_true rfl) ?_
  refine f_aload_n fx 0 d_Ma_init_4 rfl rfl ?_
  obtain ⟨h0, hz1, ht, hfr, hRc, hRs, h⟩ := h
  refine f_new fx (T := F_Ro) (ty := t_Ro) h0 (by omega) ht (by decide) rfl u_in_Ro t_Ro_ok def_1 rfl hfr w_154 w_41 w_2 hRc hRs d_Ma_init_5 ?_
  refine f_dup fx d_Ma_init_8 rfl ?_
  refine f_sipush (v := 26000) fx d_Ma_init_9 rfl ?_
  obtain ⟨h0, hz1, hN, hRc, hRs, h⟩ := h
  refine f_callI (As := [.int 26000]) (rest := [.ref (B + N), .ref (B + a0)]) fx h0 hN (by omega) w_155 w_43 w_2 w_44 rfl ⟨by decide, by decide, by decide +kernel⟩ (Mef_Ro_init l B D aC aS h) rfl rfl (Nat.le_of_ble_eq_true rfl) rfl rfl ⟨Nat.le_of_ble_eq_true rfl, Nat.le_of_ble_eq_true rfl⟩ d_Ma_init_12 ⟨hRc, hRs⟩ (fun N3 M1 F2 h => ?_)
  obtain ⟨hk, ht, hE, h⟩ := h
  refine f_ref hE ?_
  refine f_putS fx (T := F_Ma) (ty0 := t_Ma) (j := 0) (hk := hk) (ht := ht) (ht2 := by decide) (hc := rfl) (hin := u_in_Ma) (hty := t_Ma_ok) (hnm := n_Ma) (hj := by decide) (hj2 := by decide) (hf := rfl) (hT := rfl) (hfin := rfl) (n9 := 1) (hfo := rfl) (hin2 := hnm) (hdecl := rfl) (hn := rfl) (hfit := rfl) (hw := w_157) (hd := d_Ma_init_15) (kk := f_memF (fun F4 eF4 => ?_))
  have h := h F4 eF4
  refine f_aload_n fx 0 d_Ma_init_18 rfl rfl ?_
  obtain ⟨h0, hz1, ht, hfr, hRc, hRs, h⟩ := h
  refine f_new fx (T := F_Ro) (ty := t_Ro) h0 (by omega) ht (by decide) rfl u_in_Ro t_Ro_ok def_1 rfl hfr w_154 w_41 w_2 hRc hRs d_Ma_init_19 ?_
  refine f_dup fx d_Ma_init_22 rfl ?_
  refine f_ldc fx w_156 d_Ma_init_23 ?_
  obtain ⟨h0, hz1, hN, hRc, hRs, h⟩ := h
  refine f_callI (As := [.int 36000]) (rest := [.ref (B + N3), .ref (B + a0)]) fx h0 hN (by omega) w_155 w_43 w_2 w_44 rfl ⟨by decide, by decide, by decide +kernel⟩ (Mef_Ro_init l B D aC aS h) rfl rfl (Nat.le_of_ble_eq_true rfl) rfl rfl ⟨Nat.le_of_ble_eq_true rfl, Nat.le_of_ble_eq_true rfl⟩ d_Ma_init_25 ⟨hRc, hRs⟩ (fun N7 M5 F6 h => ?_)
  obtain ⟨hk, ht, hE, h⟩ := h
  refine f_ref hE ?_
  refine f_putS fx (T := F_Ma) (ty0 := t_Ma) (j := 1) (hk := hk) (ht := ht) (ht2 := by decide) (hc := rfl) (hin := u_in_Ma) (hty := t_Ma_ok) (hnm := n_Ma) (hj := by decide) (hj2 := by decide) (hf := rfl) (hT := rfl) (hfin := rfl) (n9 := 3) (hfo := rfl) (hin2 := hnm) (hdecl := rfl) (hn := rfl) (hfit := rfl) (hw := w_159) (hd := d_Ma_init_28) (kk := f_memF (fun F8 eF8 => ?_))
  have h := h F8 eF8
  refine f_aload_n fx 0 d_Ma_init_31 rfl rfl ?_
  refine f_iconst (v := 0) fx d_Ma_init_32 rfl ?_
  obtain ⟨hk, ht, h⟩ := h
  refine f_putI fx (T := F_Ma) (ty0 := t_Ma) (j := 2) (hk := hk) (ht := ht) (ht2 := by decide) (hc := rfl) (hin := u_in_Ma) (hty := t_Ma_ok) (hnm := n_Ma) (hj := by decide) (hj2 := by decide) (hf := rfl) (hT := rfl) (hfin := rfl) (hn := rfl) (hfit := rfl) (hw := w_161) (hd := d_Ma_init_33) (kk := f_memM (fun M9 eM9 => ?_))
  have h := h M9 eM9
  refine f_aload_n fx 0 d_Ma_init_36 rfl rfl ?_
  refine f_bipush (v := 40) fx d_Ma_init_37 rfl ?_
  obtain ⟨hk, ht, h⟩ := h
  refine f_putI fx (T := F_Ma) (ty0 := t_Ma) (j := 3) (hk := hk) (ht := ht) (ht2 := by decide) (hc := rfl) (hin := u_in_Ma) (hty := t_Ma_ok) (hnm := n_Ma) (hj := by decide) (hj2 := by decide) (hf := rfl) (hT := rfl) (hfin := rfl) (hn := rfl) (hfit := rfl) (hw := w_163) (hd := d_Ma_init_39) (kk := f_memM (fun M10 eM10 => ?_))
  have h := h M10 eM10
  refine f_aload_n fx 0 d_Ma_init_42 rfl rfl ?_
  refine f_sipush (v := 999) fx d_Ma_init_43 rfl ?_
  obtain ⟨h0, hz1, ht, hln, hfr, hRc, hRs, h⟩ := h
  refine f_newaI fx (n := 999) h0 (by omega) ht hln hfr (by decide) (by decide) (by decide) w_176 hRc hRs d_Ma_init_46 ?_
  obtain ⟨hk, ht, hE, h⟩ := h
  refine f_ref hE ?_
  refine f_putS fx (T := F_Ma) (ty0 := t_Ma) (j := 4) (hk := hk) (ht := ht) (ht2 := by decide) (hc := rfl) (hin := u_in_Ma) (hty := t_Ma_ok) (hnm := n_Ma) (hj := by decide) (hj2 := by decide) (hf := rfl) (hT := rfl) (hfin := rfl) (n9 := 5) (hfo := rfl) (hin2 := hnm) (hdecl := rfl) (hn := rfl) (hfit := rfl) (hw := w_164) (hd := d_Ma_init_48) (kk := f_memF (fun F11 eF11 => ?_))
  have h := h F11 eF11
  obtain ⟨h0, hz1, hcc, hss, h⟩ := h
  refine f_widen (mc := 5) (ms := 63003) (by omega) hss ?_
  exact f_vret fx hlo hr h0 (by omega) h d_Ma_init_51
set_option maxRecDepth 100000 in
set_option maxHeartbeats 4000000 in
theorem Mef_JArrays_fill (l : Launch) (B : Nat) (D : va_G) (aC : Nat → ClassId) (aS : Nat → Nat) {a0 : Nat} {i1 : Int32} {N : Nat} {M : zM} {F : zFl} {post : Nat → zM → zFl → Prop} (h : Wf_JArrays_fill a0 i1 N M F post) : Met l y_JArrays_fill (wo y_JArrays_fill b_JArrays_fill 4 none) { frames := 0, cells := 0, slots := 0, locals := 0 } (va_Pc [.ref (B + a0), .int i1] (yWl B D aC aS N M F)) (yQ B D aC post) 0 0 (yAb B) := by
  refine y_met (own := "java/util/Arrays") (lv0 := [(0, .ref (B + a0)), (1, .int i1)]) (by decide) rfl (Nat.le_of_ble_eq_true rfl) rfl ?_
  intro p e s m below meth c fx hr hlo hnm hz hNN
  delta Wf_JArrays_fill at h
  have h := h (fun v2 v3 NL cn sn M F => yAt p l e { frames := 0, cells := 0, slots := 0, locals := 0 } s m ([.ref (B + a0), .int i1] : List Value).toArray below meth c cn sn (MQ below (yQ B D aC post) ([.ref (B + a0), .int i1] : List Value).toArray s 0 0 (yAb B)) B D aC 4 5 [(0, .ref (B + a0)), (1, .int i1), (2, .int v2), (3, .int v3)] [] NL M F)
  have h := h (by
    intro v2 v3 NL cn sn M F h
    refine f_iload_n fx 2 d_JArrays_fill_5 rfl rfl ?_
    refine f_iload_n fx 3 d_JArrays_fill_6 rfl rfl ?_
    refine f_icmp_ge fx 20 d_JArrays_fill_7 rfl (fun hc => ?_) (fun hc => ?_)
    · have h := h.1 hc
      obtain ⟨h0, hz1, hcc, hss, h⟩ := h
      refine f_widen (mc := 0) (ms := 0) (by omega) hss ?_
      exact f_vret fx hlo hr h0 (by omega) h d_JArrays_fill_20
    · have h := h.2 hc
      refine f_aload_n fx 0 d_JArrays_fill_10 rfl rfl ?_
      refine f_iload_n fx 2 d_JArrays_fill_11 rfl rfl ?_
      refine f_iload_n fx 1 d_JArrays_fill_12 rfl rfl ?_
      obtain ⟨hk, ht, hin, h⟩ := h
      refine f_iast fx hk ht hin d_JArrays_fill_13 (f_memM (fun M2 eM2 => ?_))
      have h := h M2 eM2
      obtain ⟨x3, ex3⟩ : ∃ z : Int32, z = v2 + 1 := ⟨_, rfl⟩
      have h := h x3 ex3
      refine f_iinc (lv2 := [(2, .int x3), (0, .ref (B + a0)), (1, .int i1), (3, .int v3)]) fx 2 d_JArrays_fill_14 rfl ex3.symm (by decide) rfl ?_
      refine f_goto fx 5 d_JArrays_fill_17 rfl ?_
      refine f_sub [1, 2, 0, 3] rfl ?_
      exact h)
  refine f_iconst (v := 0) fx d_JArrays_fill_0 rfl ?_
  refine f_istore_n (lv2 := [(2, .int 0), (0, .ref (B + a0)), (1, .int i1)]) fx d_JArrays_fill_1 rfl (by decide) rfl ?_
  refine f_aload_n fx 1 d_JArrays_fill_2 rfl rfl ?_
  obtain ⟨hk, ht, h⟩ := h
  refine f_alenI fx hk ht d_JArrays_fill_3 ?_
  obtain ⟨x1, ex1⟩ : ∃ z : Int32, z = (Int32.ofNat (ln a0)) := ⟨_, rfl⟩
  have h := h x1 ex1
  rw [← ex1]
  refine f_istore_n (lv2 := [(3, .int x1), (2, .int 0), (0, .ref (B + a0)), (1, .int i1)]) fx d_JArrays_fill_4 rfl (by decide) rfl ?_
  refine f_sub [2, 3, 1, 0] rfl ?_
  exact h
set_option maxRecDepth 100000 in
set_option maxHeartbeats 4000000 in
theorem Mef_Bo_init (l : Launch) (B : Nat) (D : va_G) (aC : Nat → ClassId) (aS : Nat → Nat) {a0 : Nat} {N : Nat} {M : zM} {F : zFl} {post : Nat → zM → zFl → Prop} (h : Wf_Bo_init a0 N M F post) : Met l y_Bo_init (wo y_Bo_init b_Bo_init 1 none) { frames := 2, cells := 5, slots := 50007, locals := 53 } (va_Pc [.ref (B + a0)] (yWl B D aC aS N M F)) (yQ B D aC post) 5 50007 (yAb B) := by
  refine y_met (own := "MailChain$Box") (lv0 := [(0, .ref (B + a0))]) (by decide) rfl (Nat.le_of_ble_eq_true rfl) rfl ?_
  intro p e s m below meth c fx hr hlo hnm hz hNN
  delta Wf_Bo_init at h
  refine f_aload_n fx 0 d_Bo_init_0 rfl rfl ?_
  refine f_obj fx w_182 w_38 w_39 d_Bo_init_1 (Nat.le_of_ble_eq_true rfl) (Nat.le_of_ble_eq_true rfl) ?_
  refine f_aload_n fx 0 d_Bo_init_4 rfl rfl ?_
  obtain ⟨h0, hz1, ht, hfr, hRc, hRs, h⟩ := h
  refine f_new fx (T := F_Ro) (ty := t_Ro) h0 (by omega) ht (by decide) rfl u_in_Ro t_Ro_ok def_1 rfl hfr w_183 w_41 w_2 hRc hRs d_Bo_init_5 ?_
  refine f_dup fx d_Bo_init_8 rfl ?_
  refine f_ldc fx w_184 d_Bo_init_9 ?_
  obtain ⟨h0, hz1, hN, hRc, hRs, h⟩ := h
  refine f_callI (As := [.int 48000]) (rest := [.ref (B + N), .ref (B + a0)]) fx h0 hN (by omega) w_185 w_43 w_2 w_44 rfl ⟨by decide, by decide, by decide +kernel⟩ (Mef_Ro_init l B D aC aS h) rfl rfl (Nat.le_of_ble_eq_true rfl) rfl rfl ⟨Nat.le_of_ble_eq_true rfl, Nat.le_of_ble_eq_true rfl⟩ d_Bo_init_11 ⟨hRc, hRs⟩ (fun N3 M1 F2 h => ?_)
  obtain ⟨hk, ht, hE, h⟩ := h
  refine f_ref hE ?_
  refine f_putS fx (T := F_Bo) (ty0 := t_Bo) (j := 0) (hk := hk) (ht := ht) (ht2 := by decide) (hc := rfl) (hin := u_in_Bo) (hty := t_Bo_ok) (hnm := n_Bo) (hj := by decide) (hj2 := by decide) (hf := rfl) (hT := rfl) (hfin := rfl) (n9 := 1) (hfo := rfl) (hin2 := hnm) (hdecl := rfl) (hn := rfl) (hfit := rfl) (hw := w_216) (hd := d_Bo_init_14) (kk := f_memF (fun F4 eF4 => ?_))
  have h := h F4 eF4
  refine f_aload_n fx 0 d_Bo_init_17 rfl rfl ?_
  refine f_sipush (v := 1000) fx d_Bo_init_18 rfl ?_
  obtain ⟨h0, hz1, ht, hln, hfr, hRc, hRs, h⟩ := h
  refine f_newaI fx (n := 1000) h0 (by omega) ht hln hfr (by decide) (by decide) (by decide) w_176 hRc hRs d_Bo_init_21 ?_
  obtain ⟨hk, ht, hE, h⟩ := h
  refine f_ref hE ?_
  refine f_putS fx (T := F_Bo) (ty0 := t_Bo) (j := 1) (hk := hk) (ht := ht) (ht2 := by decide) (hc := rfl) (hin := u_in_Bo) (hty := t_Bo_ok) (hnm := n_Bo) (hj := by decide) (hj2 := by decide) (hf := rfl) (hT := rfl) (hfin := rfl) (n9 := 3) (hfo := rfl) (hin2 := hnm) (hdecl := rfl) (hn := rfl) (hfit := rfl) (hw := w_217) (hd := d_Bo_init_23) (kk := f_memF (fun F5 eF5 => ?_))
  have h := h F5 eF5
  refine f_aload_n fx 0 d_Bo_init_26 rfl rfl ?_
  refine f_sipush (v := 1000) fx d_Bo_init_27 rfl ?_
  obtain ⟨h0, hz1, ht, hln, hfr, hRc, hRs, h⟩ := h
  refine f_newaI fx (n := 1000) h0 (by omega) ht hln hfr (by decide) (by decide) (by decide) w_176 hRc hRs d_Bo_init_30 ?_
  obtain ⟨hk, ht, hE, h⟩ := h
  refine f_ref hE ?_
  refine f_putS fx (T := F_Bo) (ty0 := t_Bo) (j := 2) (hk := hk) (ht := ht) (ht2 := by decide) (hc := rfl) (hin := u_in_Bo) (hty := t_Bo_ok) (hnm := n_Bo) (hj := by decide) (hj2 := by decide) (hf := rfl) (hT := rfl) (hfin := rfl) (n9 := 4) (hfo := rfl) (hin2 := hnm) (hdecl := rfl) (hn := rfl) (hfit := rfl) (hw := w_218) (hd := d_Bo_init_32) (kk := f_memF (fun F6 eF6 => ?_))
  have h := h F6 eF6
  refine f_aload_n fx 0 d_Bo_init_35 rfl rfl ?_
  obtain ⟨hk, ht, hF, h⟩ := h
  refine f_getS fx (T := F_Bo) (j := 2) (n9 := 4) (hk := hk) (ht := ht) (ht2 := by decide) (hc := rfl) (hin := u_in_Bo) (hj := by decide) (hj2 := by decide) (hf := rfl) (hfo := rfl) (hF := hF) (hT := rfl) (hw := w_218) (hd := d_Bo_init_36) (kk := ?_)
  refine f_iconst (v := (-1)) fx d_Bo_init_39 rfl ?_
  obtain ⟨h0, hz1, hN, hRc, hRs, h⟩ := h
  refine f_callS (As := [.ref (B + (a0 + 4)), .int (-1)]) (rest := []) fx h0 hN (by omega) cv_JArrays_fill w_186 (Mef_JArrays_fill l B D aC aS h) rfl rfl (Nat.le_of_ble_eq_true rfl) rfl rfl ⟨Nat.le_of_ble_eq_true rfl, Nat.le_of_ble_eq_true rfl⟩ d_Bo_init_40 ⟨hRc, hRs⟩ (fun N9 M7 F8 h => ?_)
  refine f_aload_n fx 0 d_Bo_init_43 rfl rfl ?_
  obtain ⟨h0, hz1, ht, hfr, hRc, hRs, h⟩ := h
  refine f_new fx (T := F_Pl) (ty := t_Pl) h0 (by omega) ht (by decide) rfl u_in_Pl t_Pl_ok def_5 rfl hfr w_189 w_190 w_8 hRc hRs d_Bo_init_44 ?_
  refine f_dup fx d_Bo_init_47 rfl ?_
  obtain ⟨h0, hz1, hN, hRc, hRs, h⟩ := h
  refine f_callIN (As := []) (rest := [.ref (B + N9), .ref (B + a0)]) fx h0 hN (by omega) 0 rfl w_192 w_8 w_193 rfl ⟨by decide, by decide, by decide +kernel⟩ (Mef_Pl_init l B D aC aS h) rfl rfl (Nat.le_of_ble_eq_true rfl) rfl rfl ⟨Nat.le_of_ble_eq_true rfl, Nat.le_of_ble_eq_true rfl⟩ d_Bo_init_48 ⟨hRc, hRs⟩ (fun N12 M10 F11 h => ?_)
  obtain ⟨hk, ht, hE, h⟩ := h
  refine f_ref hE ?_
  refine f_putS fx (T := F_Bo) (ty0 := t_Bo) (j := 3) (hk := hk) (ht := ht) (ht2 := by decide) (hc := rfl) (hin := u_in_Bo) (hty := t_Bo_ok) (hnm := n_Bo) (hj := by decide) (hj2 := by decide) (hf := rfl) (hT := rfl) (hfin := rfl) (n9 := 5) (hfo := rfl) (hin2 := hnm) (hdecl := rfl) (hn := rfl) (hfit := rfl) (hw := w_219) (hd := d_Bo_init_51) (kk := f_memF (fun F13 eF13 => ?_))
  have h := h F13 eF13
  refine f_aload_n fx 0 d_Bo_init_54 rfl rfl ?_
  refine f_iconst (v := 0) fx d_Bo_init_55 rfl ?_
  obtain ⟨hk, ht, h⟩ := h
  refine f_putI fx (T := F_Bo) (ty0 := t_Bo) (j := 4) (hk := hk) (ht := ht) (ht2 := by decide) (hc := rfl) (hin := u_in_Bo) (hty := t_Bo_ok) (hnm := n_Bo) (hj := by decide) (hj2 := by decide) (hf := rfl) (hT := rfl) (hfin := rfl) (hn := rfl) (hfit := rfl) (hw := w_220) (hd := d_Bo_init_56) (kk := f_memM (fun M14 eM14 => ?_))
  have h := h M14 eM14
  refine f_aload_n fx 0 d_Bo_init_59 rfl rfl ?_
  refine f_iconst (v := 0) fx d_Bo_init_60 rfl ?_
  obtain ⟨hk, ht, h⟩ := h
  refine f_putI fx (T := F_Bo) (ty0 := t_Bo) (j := 5) (hk := hk) (ht := ht) (ht2 := by decide) (hc := rfl) (hin := u_in_Bo) (hty := t_Bo_ok) (hnm := n_Bo) (hj := by decide) (hj2 := by decide) (hf := rfl) (hT := rfl) (hfin := rfl) (hn := rfl) (hfit := rfl) (hw := w_221) (hd := d_Bo_init_61) (kk := f_memM (fun M15 eM15 => ?_))
  have h := h M15 eM15
  refine f_aload_n fx 0 d_Bo_init_64 rfl rfl ?_
  refine f_iconst (v := 0) fx d_Bo_init_65 rfl ?_
  obtain ⟨hk, ht, h⟩ := h
  refine f_putI fx (T := F_Bo) (ty0 := t_Bo) (j := 6) (hk := hk) (ht := ht) (ht2 := by decide) (hc := rfl) (hin := u_in_Bo) (hty := t_Bo_ok) (hnm := n_Bo) (hj := by decide) (hj2 := by decide) (hf := rfl) (hT := rfl) (hfin := rfl) (hn := rfl) (hfit := rfl) (hw := w_222) (hd := d_Bo_init_66) (kk := f_memM (fun M16 eM16 => ?_))
  have h := h M16 eM16
  obtain ⟨h0, hz1, hcc, hss, h⟩ := h
  refine f_widen (mc := 5) (ms := 50007) (by omega) hss ?_
  exact f_vret fx hlo hr h0 (by omega) h d_Bo_init_69
set_option maxRecDepth 100000 in
set_option maxHeartbeats 4000000 in
theorem Mef_Sq_init (l : Launch) (B : Nat) (D : va_G) (aC : Nat → ClassId) (aS : Nat → Nat) {a0 : Nat} {N : Nat} {M : zM} {F : zFl} {post : Nat → zM → zFl → Prop} (h : Wf_Sq_init a0 N M F post) : Met l y_Sq_init (wo y_Sq_init b_Sq_init 1 none) { frames := 1, cells := 3, slots := 49152, locals := 32 } (va_Pc [.ref (B + a0)] (yWl B D aC aS N M F)) (yQ B D aC post) 3 49152 (yAb B) := by
  refine y_met (own := "MailChain$Squeezer") (lv0 := [(0, .ref (B + a0))]) (by decide) rfl (Nat.le_of_ble_eq_true rfl) rfl ?_
  intro p e s m below meth c fx hr hlo hnm hz hNN
  delta Wf_Sq_init at h
  refine f_aload_n fx 0 d_Sq_init_0 rfl rfl ?_
  refine f_obj fx w_244 w_38 w_39 d_Sq_init_1 (Nat.le_of_ble_eq_true rfl) (Nat.le_of_ble_eq_true rfl) ?_
  refine f_aload_n fx 0 d_Sq_init_4 rfl rfl ?_
  refine f_sipush (v := 16384) fx d_Sq_init_5 rfl ?_
  obtain ⟨h0, hz1, ht, hln, hfr, hRc, hRs, h⟩ := h
  refine f_newaI fx (n := 16384) h0 (by omega) ht hln hfr (by decide) (by decide) (by decide) w_176 hRc hRs d_Sq_init_8 ?_
  obtain ⟨hk, ht, hE, h⟩ := h
  refine f_ref hE ?_
  refine f_putS fx (T := F_Sq) (ty0 := t_Sq) (j := 0) (hk := hk) (ht := ht) (ht2 := by decide) (hc := rfl) (hin := u_in_Sq) (hty := t_Sq_ok) (hnm := n_Sq) (hj := by decide) (hj2 := by decide) (hf := rfl) (hT := rfl) (hfin := rfl) (n9 := 1) (hfo := rfl) (hin2 := hnm) (hdecl := rfl) (hn := rfl) (hfit := rfl) (hw := w_245) (hd := d_Sq_init_10) (kk := f_memF (fun F1 eF1 => ?_))
  have h := h F1 eF1
  refine f_aload_n fx 0 d_Sq_init_13 rfl rfl ?_
  refine f_sipush (v := 16384) fx d_Sq_init_14 rfl ?_
  obtain ⟨h0, hz1, ht, hln, hfr, hRc, hRs, h⟩ := h
  refine f_newaI fx (n := 16384) h0 (by omega) ht hln hfr (by decide) (by decide) (by decide) w_176 hRc hRs d_Sq_init_17 ?_
  obtain ⟨hk, ht, hE, h⟩ := h
  refine f_ref hE ?_
  refine f_putS fx (T := F_Sq) (ty0 := t_Sq) (j := 1) (hk := hk) (ht := ht) (ht2 := by decide) (hc := rfl) (hin := u_in_Sq) (hty := t_Sq_ok) (hnm := n_Sq) (hj := by decide) (hj2 := by decide) (hf := rfl) (hT := rfl) (hfin := rfl) (n9 := 2) (hfo := rfl) (hin2 := hnm) (hdecl := rfl) (hn := rfl) (hfit := rfl) (hw := w_246) (hd := d_Sq_init_19) (kk := f_memF (fun F2 eF2 => ?_))
  have h := h F2 eF2
  refine f_aload_n fx 0 d_Sq_init_22 rfl rfl ?_
  refine f_sipush (v := 16384) fx d_Sq_init_23 rfl ?_
  obtain ⟨h0, hz1, ht, hln, hfr, hRc, hRs, h⟩ := h
  refine f_newaI fx (n := 16384) h0 (by omega) ht hln hfr (by decide) (by decide) (by decide) w_176 hRc hRs d_Sq_init_26 ?_
  obtain ⟨hk, ht, hE, h⟩ := h
  refine f_ref hE ?_
  refine f_putS fx (T := F_Sq) (ty0 := t_Sq) (j := 2) (hk := hk) (ht := ht) (ht2 := by decide) (hc := rfl) (hin := u_in_Sq) (hty := t_Sq_ok) (hnm := n_Sq) (hj := by decide) (hj2 := by decide) (hf := rfl) (hT := rfl) (hfin := rfl) (n9 := 3) (hfo := rfl) (hin2 := hnm) (hdecl := rfl) (hn := rfl) (hfit := rfl) (hw := w_247) (hd := d_Sq_init_28) (kk := f_memF (fun F3 eF3 => ?_))
  have h := h F3 eF3
  obtain ⟨h0, hz1, hcc, hss, h⟩ := h
  refine f_widen (mc := 3) (ms := 49152) (by omega) hss ?_
  exact f_vret fx hlo hr h0 (by omega) h d_Sq_init_31
set_option maxRecDepth 100000 in
set_option maxHeartbeats 4000000 in
theorem Mef_Ex_init (l : Launch) (B : Nat) (D : va_G) (aC : Nat → ClassId) (aS : Nat → Nat) {a0 : Nat} {N : Nat} {M : zM} {F : zFl} {post : Nat → zM → zFl → Prop} (h : Wf_Ex_init a0 N M F post) : Met l y_Ex_init (wo y_Ex_init b_Ex_init 1 none) { frames := 1, cells := 2, slots := 32768, locals := 32 } (va_Pc [.ref (B + a0)] (yWl B D aC aS N M F)) (yQ B D aC post) 2 32768 (yAb B) := by
  refine y_met (own := "MailChain$Expander") (lv0 := [(0, .ref (B + a0))]) (by decide) rfl (Nat.le_of_ble_eq_true rfl) rfl ?_
  intro p e s m below meth c fx hr hlo hnm hz hNN
  delta Wf_Ex_init at h
  refine f_aload_n fx 0 d_Ex_init_0 rfl rfl ?_
  refine f_obj fx w_278 w_38 w_39 d_Ex_init_1 (Nat.le_of_ble_eq_true rfl) (Nat.le_of_ble_eq_true rfl) ?_
  refine f_aload_n fx 0 d_Ex_init_4 rfl rfl ?_
  refine f_sipush (v := 16384) fx d_Ex_init_5 rfl ?_
  obtain ⟨h0, hz1, ht, hln, hfr, hRc, hRs, h⟩ := h
  refine f_newaI fx (n := 16384) h0 (by omega) ht hln hfr (by decide) (by decide) (by decide) w_176 hRc hRs d_Ex_init_8 ?_
  obtain ⟨hk, ht, hE, h⟩ := h
  refine f_ref hE ?_
  refine f_putS fx (T := F_Ex) (ty0 := t_Ex) (j := 0) (hk := hk) (ht := ht) (ht2 := by decide) (hc := rfl) (hin := u_in_Ex) (hty := t_Ex_ok) (hnm := n_Ex) (hj := by decide) (hj2 := by decide) (hf := rfl) (hT := rfl) (hfin := rfl) (n9 := 1) (hfo := rfl) (hin2 := hnm) (hdecl := rfl) (hn := rfl) (hfit := rfl) (hw := w_279) (hd := d_Ex_init_10) (kk := f_memF (fun F1 eF1 => ?_))
  have h := h F1 eF1
  refine f_aload_n fx 0 d_Ex_init_13 rfl rfl ?_
  refine f_sipush (v := 16384) fx d_Ex_init_14 rfl ?_
  obtain ⟨h0, hz1, ht, hln, hfr, hRc, hRs, h⟩ := h
  refine f_newaI fx (n := 16384) h0 (by omega) ht hln hfr (by decide) (by decide) (by decide) w_176 hRc hRs d_Ex_init_17 ?_
  obtain ⟨hk, ht, hE, h⟩ := h
  refine f_ref hE ?_
  refine f_putS fx (T := F_Ex) (ty0 := t_Ex) (j := 1) (hk := hk) (ht := ht) (ht2 := by decide) (hc := rfl) (hin := u_in_Ex) (hty := t_Ex_ok) (hnm := n_Ex) (hj := by decide) (hj2 := by decide) (hf := rfl) (hT := rfl) (hfin := rfl) (n9 := 2) (hfo := rfl) (hin2 := hnm) (hdecl := rfl) (hn := rfl) (hfit := rfl) (hw := w_280) (hd := d_Ex_init_19) (kk := f_memF (fun F2 eF2 => ?_))
  have h := h F2 eF2
  obtain ⟨h0, hz1, hcc, hss, h⟩ := h
  refine f_widen (mc := 2) (ms := 32768) (by omega) hss ?_
  exact f_vret fx hlo hr h0 (by omega) h d_Ex_init_22
set_option maxRecDepth 100000 in
set_option maxHeartbeats 4000000 in
theorem Mef_Mc_init (l : Launch) (B : Nat) (D : va_G) (aC : Nat → ClassId) (aS : Nat → Nat) {a0 : Nat} {N : Nat} {M : zM} {F : zFl} {post : Nat → zM → zFl → Prop} (h : Wf_Mc_init a0 N M F post) : Met l y_Mc_init (wo y_Mc_init b_Mc_init 1 none) { frames := 4, cells := 412, slots := 401044, locals := 94 } (va_Pc [.ref (B + a0)] (yWl B D aC aS N M F)) (yQ B D aC post) 412 401044 (yAb B) := by
  refine y_met (own := "MailChain") (lv0 := [(0, .ref (B + a0))]) (by decide) rfl (Nat.le_of_ble_eq_true rfl) rfl ?_
  intro p e s m below meth c fx hr hlo hnm hz hNN
  delta Wf_Mc_init at h
  refine f_aload_n fx 0 d_Mc_init_0 rfl rfl ?_
  refine f_obj fx w_37 w_38 w_39 d_Mc_init_1 (Nat.le_of_ble_eq_true rfl) (Nat.le_of_ble_eq_true rfl) ?_
  refine f_aload_n fx 0 d_Mc_init_4 rfl rfl ?_
  obtain ⟨h0, hz1, ht, hfr, hRc, hRs, h⟩ := h
  refine f_new fx (T := F_Ro) (ty := t_Ro) h0 (by omega) ht (by decide) rfl u_in_Ro t_Ro_ok def_1 rfl hfr w_40 w_41 w_2 hRc hRs d_Mc_init_5 ?_
  refine f_dup fx d_Mc_init_8 rfl ?_
  refine f_sipush (v := 8000) fx d_Mc_init_9 rfl ?_
  obtain ⟨h0, hz1, hN, hRc, hRs, h⟩ := h
  refine f_callI (As := [.int 8000]) (rest := [.ref (B + N), .ref (B + a0)]) fx h0 hN (by omega) w_42 w_43 w_2 w_44 rfl ⟨by decide, by decide, by decide +kernel⟩ (Mef_Ro_init l B D aC aS h) rfl rfl (Nat.le_of_ble_eq_true rfl) rfl rfl ⟨Nat.le_of_ble_eq_true rfl, Nat.le_of_ble_eq_true rfl⟩ d_Mc_init_12 ⟨hRc, hRs⟩ (fun N3 M1 F2 h => ?_)
  obtain ⟨hk, ht, hE, h⟩ := h
  refine f_ref hE ?_
  refine f_putS fx (T := F_Mc) (ty0 := t_Mc) (j := 0) (hk := hk) (ht := ht) (ht2 := by decide) (hc := rfl) (hin := u_in_Mc) (hty := t_Mc_ok) (hnm := n_Mc) (hj := by decide) (hj2 := by decide) (hf := rfl) (hT := rfl) (hfin := rfl) (n9 := 1) (hfo := rfl) (hin2 := hnm) (hdecl := rfl) (hn := rfl) (hfit := rfl) (hw := w_304) (hd := d_Mc_init_15) (kk := f_memF (fun F4 eF4 => ?_))
  have h := h F4 eF4
  refine f_aload_n fx 0 d_Mc_init_18 rfl rfl ?_
  obtain ⟨h0, hz1, ht, hfr, hRc, hRs, h⟩ := h
  refine f_new fx (T := F_Tr) (ty := t_Tr) h0 (by omega) ht (by decide) rfl u_in_Tr t_Tr_ok def_3 rfl hfr w_63 w_64 w_3 hRc hRs d_Mc_init_19 ?_
  refine f_dup fx d_Mc_init_22 rfl ?_
  obtain ⟨h0, hz1, hN, hRc, hRs, h⟩ := h
  refine f_callI (As := []) (rest := [.ref (B + N3), .ref (B + a0)]) fx h0 hN (by omega) w_65 w_66 w_3 w_67 rfl ⟨by decide, by decide, by decide +kernel⟩ (Mef_Tr_init l B D aC aS h) rfl rfl (Nat.le_of_ble_eq_true rfl) rfl rfl ⟨Nat.le_of_ble_eq_true rfl, Nat.le_of_ble_eq_true rfl⟩ d_Mc_init_23 ⟨hRc, hRs⟩ (fun N7 M5 F6 h => ?_)
  obtain ⟨hk, ht, hE, h⟩ := h
  refine f_ref hE ?_
  refine f_putS fx (T := F_Mc) (ty0 := t_Mc) (j := 1) (hk := hk) (ht := ht) (ht2 := by decide) (hc := rfl) (hin := u_in_Mc) (hty := t_Mc_ok) (hnm := n_Mc) (hj := by decide) (hj2 := by decide) (hf := rfl) (hT := rfl) (hfin := rfl) (n9 := 3) (hfo := rfl) (hin2 := hnm) (hdecl := rfl) (hn := rfl) (hfit := rfl) (hw := w_305) (hd := d_Mc_init_26) (kk := f_memF (fun F8 eF8 => ?_))
  have h := h F8 eF8
  refine f_aload_n fx 0 d_Mc_init_29 rfl rfl ?_
  obtain ⟨h0, hz1, ht, hfr, hRc, hRs, h⟩ := h
  refine f_new fx (T := F_Tr) (ty := t_Tr) h0 (by omega) ht (by decide) rfl u_in_Tr t_Tr_ok def_3 rfl hfr w_63 w_64 w_3 hRc hRs d_Mc_init_30 ?_
  refine f_dup fx d_Mc_init_33 rfl ?_
  obtain ⟨h0, hz1, hN, hRc, hRs, h⟩ := h
  refine f_callI (As := []) (rest := [.ref (B + N7), .ref (B + a0)]) fx h0 hN (by omega) w_65 w_66 w_3 w_67 rfl ⟨by decide, by decide, by decide +kernel⟩ (Mef_Tr_init l B D aC aS h) rfl rfl (Nat.le_of_ble_eq_true rfl) rfl rfl ⟨Nat.le_of_ble_eq_true rfl, Nat.le_of_ble_eq_true rfl⟩ d_Mc_init_34 ⟨hRc, hRs⟩ (fun N11 M9 F10 h => ?_)
  obtain ⟨hk, ht, h⟩ := h
  refine f_putR fx (T := F_Mc) (ty0 := t_Mc) (j := 2) (hk := hk) (ht := ht) (ht2 := by decide) (hc := rfl) (hin := u_in_Mc) (hty := t_Mc_ok) (hnm := n_Mc) (hj := by decide) (hj2 := by decide) (hf := rfl) (hT := rfl) (hfin := rfl) (hn := rfl) (hfit := rfl) (hw := w_306) (hd := d_Mc_init_37) (kk := f_memM (fun M13 eM13 => f_memF (fun F12 eF12 => ?_)))
  have h := h M13 eM13 F12 eF12
  refine f_aload_n fx 0 d_Mc_init_40 rfl rfl ?_
  obtain ⟨h0, hz1, ht, hfr, hRc, hRs, h⟩ := h
  refine f_new fx (T := F_Tr) (ty := t_Tr) h0 (by omega) ht (by decide) rfl u_in_Tr t_Tr_ok def_3 rfl hfr w_63 w_64 w_3 hRc hRs d_Mc_init_41 ?_
  refine f_dup fx d_Mc_init_44 rfl ?_
  obtain ⟨h0, hz1, hN, hRc, hRs, h⟩ := h
  refine f_callI (As := []) (rest := [.ref (B + N11), .ref (B + a0)]) fx h0 hN (by omega) w_65 w_66 w_3 w_67 rfl ⟨by decide, by decide, by decide +kernel⟩ (Mef_Tr_init l B D aC aS h) rfl rfl (Nat.le_of_ble_eq_true rfl) rfl rfl ⟨Nat.le_of_ble_eq_true rfl, Nat.le_of_ble_eq_true rfl⟩ d_Mc_init_45 ⟨hRc, hRs⟩ (fun N16 M14 F15 h => ?_)
  obtain ⟨hk, ht, h⟩ := h
  refine f_putR fx (T := F_Mc) (ty0 := t_Mc) (j := 3) (hk := hk) (ht := ht) (ht2 := by decide) (hc := rfl) (hin := u_in_Mc) (hty := t_Mc_ok) (hnm := n_Mc) (hj := by decide) (hj2 := by decide) (hf := rfl) (hT := rfl) (hfin := rfl) (hn := rfl) (hfit := rfl) (hw := w_307) (hd := d_Mc_init_48) (kk := f_memM (fun M18 eM18 => f_memF (fun F17 eF17 => ?_)))
  have h := h M18 eM18 F17 eF17
  refine f_aload_n fx 0 d_Mc_init_51 rfl rfl ?_
  obtain ⟨h0, hz1, ht, hfr, hRc, hRs, h⟩ := h
  refine f_new fx (T := F_Ro) (ty := t_Ro) h0 (by omega) ht (by decide) rfl u_in_Ro t_Ro_ok def_1 rfl hfr w_40 w_41 w_2 hRc hRs d_Mc_init_52 ?_
  refine f_dup fx d_Mc_init_55 rfl ?_
  refine f_sipush (v := 14000) fx d_Mc_init_56 rfl ?_
  obtain ⟨h0, hz1, hN, hRc, hRs, h⟩ := h
  refine f_callI (As := [.int 14000]) (rest := [.ref (B + N16), .ref (B + a0)]) fx h0 hN (by omega) w_42 w_43 w_2 w_44 rfl ⟨by decide, by decide, by decide +kernel⟩ (Mef_Ro_init l B D aC aS h) rfl rfl (Nat.le_of_ble_eq_true rfl) rfl rfl ⟨Nat.le_of_ble_eq_true rfl, Nat.le_of_ble_eq_true rfl⟩ d_Mc_init_59 ⟨hRc, hRs⟩ (fun N21 M19 F20 h => ?_)
  obtain ⟨hk, ht, hE, h⟩ := h
  refine f_ref hE ?_
  refine f_putS fx (T := F_Mc) (ty0 := t_Mc) (j := 4) (hk := hk) (ht := ht) (ht2 := by decide) (hc := rfl) (hin := u_in_Mc) (hty := t_Mc_ok) (hnm := n_Mc) (hj := by decide) (hj2 := by decide) (hf := rfl) (hT := rfl) (hfin := rfl) (n9 := 384) (hfo := rfl) (hin2 := hnm) (hdecl := rfl) (hn := rfl) (hfit := rfl) (hw := w_308) (hd := d_Mc_init_62) (kk := f_memF (fun F22 eF22 => ?_))
  have h := h F22 eF22
  refine f_aload_n fx 0 d_Mc_init_65 rfl rfl ?_
  refine f_iconst (v := 0) fx d_Mc_init_66 rfl ?_
  obtain ⟨hk, ht, h⟩ := h
  refine f_putI fx (T := F_Mc) (ty0 := t_Mc) (j := 5) (hk := hk) (ht := ht) (ht2 := by decide) (hc := rfl) (hin := u_in_Mc) (hty := t_Mc_ok) (hnm := n_Mc) (hj := by decide) (hj2 := by decide) (hf := rfl) (hT := rfl) (hfin := rfl) (hn := rfl) (hfit := rfl) (hw := w_309) (hd := d_Mc_init_67) (kk := f_memM (fun M23 eM23 => ?_))
  have h := h M23 eM23
  refine f_aload_n fx 0 d_Mc_init_70 rfl rfl ?_
  obtain ⟨h0, hz1, ht, hfr, hRc, hRs, h⟩ := h
  refine f_new fx (T := F_Ma) (ty := t_Ma) h0 (by omega) ht (by decide) rfl u_in_Ma t_Ma_ok def_4 rfl hfr w_148 w_149 w_5 hRc hRs d_Mc_init_71 ?_
  refine f_dup fx d_Mc_init_74 rfl ?_
  obtain ⟨h0, hz1, hN, hRc, hRs, h⟩ := h
  refine f_callI (As := []) (rest := [.ref (B + N21), .ref (B + a0)]) fx h0 hN (by omega) w_150 w_151 w_5 w_152 rfl ⟨by decide, by decide, by decide +kernel⟩ (Mef_Ma_init l B D aC aS h) rfl rfl (Nat.le_of_ble_eq_true rfl) rfl rfl ⟨Nat.le_of_ble_eq_true rfl, Nat.le_of_ble_eq_true rfl⟩ d_Mc_init_75 ⟨hRc, hRs⟩ (fun N26 M24 F25 h => ?_)
  obtain ⟨hk, ht, hE, h⟩ := h
  refine f_ref hE ?_
  refine f_putS fx (T := F_Mc) (ty0 := t_Mc) (j := 6) (hk := hk) (ht := ht) (ht2 := by decide) (hc := rfl) (hin := u_in_Mc) (hty := t_Mc_ok) (hnm := n_Mc) (hj := by decide) (hj2 := by decide) (hf := rfl) (hT := rfl) (hfin := rfl) (n9 := 386) (hfo := rfl) (hin2 := hnm) (hdecl := rfl) (hn := rfl) (hfit := rfl) (hw := w_310) (hd := d_Mc_init_78) (kk := f_memF (fun F27 eF27 => ?_))
  have h := h F27 eF27
  refine f_aload_n fx 0 d_Mc_init_81 rfl rfl ?_
  obtain ⟨h0, hz1, ht, hfr, hRc, hRs, h⟩ := h
  refine f_new fx (T := F_Bo) (ty := t_Bo) h0 (by omega) ht (by decide) rfl u_in_Bo t_Bo_ok def_6 rfl hfr w_177 w_178 w_6 hRc hRs d_Mc_init_82 ?_
  refine f_dup fx d_Mc_init_85 rfl ?_
  obtain ⟨h0, hz1, hN, hRc, hRs, h⟩ := h
  refine f_callI (As := []) (rest := [.ref (B + N26), .ref (B + a0)]) fx h0 hN (by omega) w_179 w_180 w_6 w_181 rfl ⟨by decide, by decide, by decide +kernel⟩ (Mef_Bo_init l B D aC aS h) rfl rfl (Nat.le_of_ble_eq_true rfl) rfl rfl ⟨Nat.le_of_ble_eq_true rfl, Nat.le_of_ble_eq_true rfl⟩ d_Mc_init_86 ⟨hRc, hRs⟩ (fun N30 M28 F29 h => ?_)
  obtain ⟨hk, ht, hE, h⟩ := h
  refine f_ref hE ?_
  refine f_putS fx (T := F_Mc) (ty0 := t_Mc) (j := 7) (hk := hk) (ht := ht) (ht2 := by decide) (hc := rfl) (hin := u_in_Mc) (hty := t_Mc_ok) (hnm := n_Mc) (hj := by decide) (hj2 := by decide) (hf := rfl) (hT := rfl) (hfin := rfl) (n9 := 392) (hfo := rfl) (hin2 := hnm) (hdecl := rfl) (hn := rfl) (hfit := rfl) (hw := w_311) (hd := d_Mc_init_89) (kk := f_memF (fun F31 eF31 => ?_))
  have h := h F31 eF31
  refine f_aload_n fx 0 d_Mc_init_92 rfl rfl ?_
  obtain ⟨h0, hz1, ht, hfr, hRc, hRs, h⟩ := h
  refine f_new fx (T := F_Sq) (ty := t_Sq) h0 (by omega) ht (by decide) rfl u_in_Sq t_Sq_ok def_7 rfl hfr w_239 w_240 w_9 hRc hRs d_Mc_init_93 ?_
  refine f_dup fx d_Mc_init_96 rfl ?_
  obtain ⟨h0, hz1, hN, hRc, hRs, h⟩ := h
  refine f_callI (As := []) (rest := [.ref (B + N30), .ref (B + a0)]) fx h0 hN (by omega) w_241 w_242 w_9 w_243 rfl ⟨by decide, by decide, by decide +kernel⟩ (Mef_Sq_init l B D aC aS h) rfl rfl (Nat.le_of_ble_eq_true rfl) rfl rfl ⟨Nat.le_of_ble_eq_true rfl, Nat.le_of_ble_eq_true rfl⟩ d_Mc_init_97 ⟨hRc, hRs⟩ (fun N34 M32 F33 h => ?_)
  obtain ⟨hk, ht, hE, h⟩ := h
  refine f_ref hE ?_
  refine f_putS fx (T := F_Mc) (ty0 := t_Mc) (j := 8) (hk := hk) (ht := ht) (ht2 := by decide) (hc := rfl) (hin := u_in_Mc) (hty := t_Mc_ok) (hnm := n_Mc) (hj := by decide) (hj2 := by decide) (hf := rfl) (hT := rfl) (hfin := rfl) (n9 := 398) (hfo := rfl) (hin2 := hnm) (hdecl := rfl) (hn := rfl) (hfit := rfl) (hw := w_312) (hd := d_Mc_init_100) (kk := f_memF (fun F35 eF35 => ?_))
  have h := h F35 eF35
  refine f_aload_n fx 0 d_Mc_init_103 rfl rfl ?_
  obtain ⟨h0, hz1, ht, hfr, hRc, hRs, h⟩ := h
  refine f_new fx (T := F_Ex) (ty := t_Ex) h0 (by omega) ht (by decide) rfl u_in_Ex t_Ex_ok def_8 rfl hfr w_273 w_274 w_10 hRc hRs d_Mc_init_104 ?_
  refine f_dup fx d_Mc_init_107 rfl ?_
  obtain ⟨h0, hz1, hN, hRc, hRs, h⟩ := h
  refine f_callI (As := []) (rest := [.ref (B + N34), .ref (B + a0)]) fx h0 hN (by omega) w_275 w_276 w_10 w_277 rfl ⟨by decide, by decide, by decide +kernel⟩ (Mef_Ex_init l B D aC aS h) rfl rfl (Nat.le_of_ble_eq_true rfl) rfl rfl ⟨Nat.le_of_ble_eq_true rfl, Nat.le_of_ble_eq_true rfl⟩ d_Mc_init_108 ⟨hRc, hRs⟩ (fun N38 M36 F37 h => ?_)
  obtain ⟨hk, ht, hE, h⟩ := h
  refine f_ref hE ?_
  refine f_putS fx (T := F_Mc) (ty0 := t_Mc) (j := 9) (hk := hk) (ht := ht) (ht2 := by decide) (hc := rfl) (hin := u_in_Mc) (hty := t_Mc_ok) (hnm := n_Mc) (hj := by decide) (hj2 := by decide) (hf := rfl) (hT := rfl) (hfin := rfl) (n9 := 402) (hfo := rfl) (hin2 := hnm) (hdecl := rfl) (hn := rfl) (hfit := rfl) (hw := w_313) (hd := d_Mc_init_111) (kk := f_memF (fun F39 eF39 => ?_))
  have h := h F39 eF39
  refine f_aload_n fx 0 d_Mc_init_114 rfl rfl ?_
  obtain ⟨h0, hz1, ht, hfr, hRc, hRs, h⟩ := h
  refine f_new fx (T := F_Ro) (ty := t_Ro) h0 (by omega) ht (by decide) rfl u_in_Ro t_Ro_ok def_1 rfl hfr w_40 w_41 w_2 hRc hRs d_Mc_init_115 ?_
  refine f_dup fx d_Mc_init_118 rfl ?_
  refine f_sipush (v := 16000) fx d_Mc_init_119 rfl ?_
  obtain ⟨h0, hz1, hN, hRc, hRs, h⟩ := h
  refine f_callI (As := [.int 16000]) (rest := [.ref (B + N38), .ref (B + a0)]) fx h0 hN (by omega) w_42 w_43 w_2 w_44 rfl ⟨by decide, by decide, by decide +kernel⟩ (Mef_Ro_init l B D aC aS h) rfl rfl (Nat.le_of_ble_eq_true rfl) rfl rfl ⟨Nat.le_of_ble_eq_true rfl, Nat.le_of_ble_eq_true rfl⟩ d_Mc_init_122 ⟨hRc, hRs⟩ (fun N42 M40 F41 h => ?_)
  obtain ⟨hk, ht, hE, h⟩ := h
  refine f_ref hE ?_
  refine f_putS fx (T := F_Mc) (ty0 := t_Mc) (j := 10) (hk := hk) (ht := ht) (ht2 := by decide) (hc := rfl) (hin := u_in_Mc) (hty := t_Mc_ok) (hnm := n_Mc) (hj := by decide) (hj2 := by decide) (hf := rfl) (hT := rfl) (hfin := rfl) (n9 := 405) (hfo := rfl) (hin2 := hnm) (hdecl := rfl) (hn := rfl) (hfit := rfl) (hw := w_314) (hd := d_Mc_init_125) (kk := f_memF (fun F43 eF43 => ?_))
  have h := h F43 eF43
  refine f_aload_n fx 0 d_Mc_init_128 rfl rfl ?_
  obtain ⟨h0, hz1, ht, hfr, hRc, hRs, h⟩ := h
  refine f_new fx (T := F_Ro) (ty := t_Ro) h0 (by omega) ht (by decide) rfl u_in_Ro t_Ro_ok def_1 rfl hfr w_40 w_41 w_2 hRc hRs d_Mc_init_129 ?_
  refine f_dup fx d_Mc_init_132 rfl ?_
  refine f_ldc fx w_301 d_Mc_init_133 ?_
  obtain ⟨h0, hz1, hN, hRc, hRs, h⟩ := h
  refine f_callI (As := [.int 36000]) (rest := [.ref (B + N42), .ref (B + a0)]) fx h0 hN (by omega) w_42 w_43 w_2 w_44 rfl ⟨by decide, by decide, by decide +kernel⟩ (Mef_Ro_init l B D aC aS h) rfl rfl (Nat.le_of_ble_eq_true rfl) rfl rfl ⟨Nat.le_of_ble_eq_true rfl, Nat.le_of_ble_eq_true rfl⟩ d_Mc_init_135 ⟨hRc, hRs⟩ (fun N46 M44 F45 h => ?_)
  obtain ⟨hk, ht, hE, h⟩ := h
  refine f_ref hE ?_
  refine f_putS fx (T := F_Mc) (ty0 := t_Mc) (j := 11) (hk := hk) (ht := ht) (ht2 := by decide) (hc := rfl) (hin := u_in_Mc) (hty := t_Mc_ok) (hnm := n_Mc) (hj := by decide) (hj2 := by decide) (hf := rfl) (hT := rfl) (hfin := rfl) (n9 := 407) (hfo := rfl) (hin2 := hnm) (hdecl := rfl) (hn := rfl) (hfit := rfl) (hw := w_315) (hd := d_Mc_init_138) (kk := f_memF (fun F47 eF47 => ?_))
  have h := h F47 eF47
  refine f_aload_n fx 0 d_Mc_init_141 rfl rfl ?_
  obtain ⟨h0, hz1, ht, hfr, hRc, hRs, h⟩ := h
  refine f_new fx (T := F_Ro) (ty := t_Ro) h0 (by omega) ht (by decide) rfl u_in_Ro t_Ro_ok def_1 rfl hfr w_40 w_41 w_2 hRc hRs d_Mc_init_142 ?_
  refine f_dup fx d_Mc_init_145 rfl ?_
  refine f_ldc fx w_302 d_Mc_init_146 ?_
  obtain ⟨h0, hz1, hN, hRc, hRs, h⟩ := h
  refine f_callI (As := [.int 48000]) (rest := [.ref (B + N46), .ref (B + a0)]) fx h0 hN (by omega) w_42 w_43 w_2 w_44 rfl ⟨by decide, by decide, by decide +kernel⟩ (Mef_Ro_init l B D aC aS h) rfl rfl (Nat.le_of_ble_eq_true rfl) rfl rfl ⟨Nat.le_of_ble_eq_true rfl, Nat.le_of_ble_eq_true rfl⟩ d_Mc_init_148 ⟨hRc, hRs⟩ (fun N50 M48 F49 h => ?_)
  obtain ⟨hk, ht, hE, h⟩ := h
  refine f_ref hE ?_
  refine f_putS fx (T := F_Mc) (ty0 := t_Mc) (j := 12) (hk := hk) (ht := ht) (ht2 := by decide) (hc := rfl) (hin := u_in_Mc) (hty := t_Mc_ok) (hnm := n_Mc) (hj := by decide) (hj2 := by decide) (hf := rfl) (hT := rfl) (hfin := rfl) (n9 := 409) (hfo := rfl) (hin2 := hnm) (hdecl := rfl) (hn := rfl) (hfit := rfl) (hw := w_316) (hd := d_Mc_init_151) (kk := f_memF (fun F51 eF51 => ?_))
  have h := h F51 eF51
  refine f_aload_n fx 0 d_Mc_init_154 rfl rfl ?_
  obtain ⟨h0, hz1, ht, hfr, hRc, hRs, h⟩ := h
  refine f_new fx (T := F_Ro) (ty := t_Ro) h0 (by omega) ht (by decide) rfl u_in_Ro t_Ro_ok def_1 rfl hfr w_40 w_41 w_2 hRc hRs d_Mc_init_155 ?_
  refine f_dup fx d_Mc_init_158 rfl ?_
  refine f_ldc fx w_303 d_Mc_init_159 ?_
  obtain ⟨h0, hz1, hN, hRc, hRs, h⟩ := h
  refine f_callI (As := [.int 50000]) (rest := [.ref (B + N50), .ref (B + a0)]) fx h0 hN (by omega) w_42 w_43 w_2 w_44 rfl ⟨by decide, by decide, by decide +kernel⟩ (Mef_Ro_init l B D aC aS h) rfl rfl (Nat.le_of_ble_eq_true rfl) rfl rfl ⟨Nat.le_of_ble_eq_true rfl, Nat.le_of_ble_eq_true rfl⟩ d_Mc_init_161 ⟨hRc, hRs⟩ (fun N54 M52 F53 h => ?_)
  obtain ⟨hk, ht, hE, h⟩ := h
  refine f_ref hE ?_
  refine f_putS fx (T := F_Mc) (ty0 := t_Mc) (j := 13) (hk := hk) (ht := ht) (ht2 := by decide) (hc := rfl) (hin := u_in_Mc) (hty := t_Mc_ok) (hnm := n_Mc) (hj := by decide) (hj2 := by decide) (hf := rfl) (hT := rfl) (hfin := rfl) (n9 := 411) (hfo := rfl) (hin2 := hnm) (hdecl := rfl) (hn := rfl) (hfit := rfl) (hw := w_317) (hd := d_Mc_init_164) (kk := f_memF (fun F55 eF55 => ?_))
  have h := h F55 eF55
  obtain ⟨h0, hz1, hcc, hss, h⟩ := h
  refine f_widen (mc := 412) (ms := 401044) (by omega) hss ?_
  exact f_vret fx hlo hr h0 (by omega) h d_Mc_init_167
set_option maxRecDepth 100000 in
set_option maxHeartbeats 4000000 in
theorem Mef_Mo_init (l : Launch) (B : Nat) (D : va_G) (aC : Nat → ClassId) (aS : Nat → Nat) {a0 : Nat} {N : Nat} {M : zM} {F : zFl} {post : Nat → zM → zFl → Prop} (h : Wf_Mo_init a0 N M F post) : Met l y_Mo_init (wo y_Mo_init b_Mo_init 1 none) { frames := 1, cells := 37, slots := 748745, locals := 32 } (va_Pc [.ref (B + a0)] (yWl B D aC aS N M F)) (yQ B D aC post) 37 748745 (yAb B) := by
  refine y_met (own := "MailChainModel") (lv0 := [(0, .ref (B + a0))]) (by decide) rfl (Nat.le_of_ble_eq_true rfl) rfl ?_
  intro p e s m below meth c fx hr hlo hnm hz hNN
  delta Wf_Mo_init at h
  refine f_aload_n fx 0 d_Mo_init_0 rfl rfl ?_
  refine f_obj fx w_1263 w_38 w_39 d_Mo_init_1 (Nat.le_of_ble_eq_true rfl) (Nat.le_of_ble_eq_true rfl) ?_
  refine f_aload_n fx 0 d_Mo_init_4 rfl rfl ?_
  refine f_bipush (v := 10) fx d_Mo_init_5 rfl ?_
  obtain ⟨h0, hz1, ht, hln, hfr, hRc, hRs, h⟩ := h
  refine f_newaB fx (n := 10) h0 (by omega) ht hln hfr (by decide) (by decide) (by decide) w_62 hRc hRs d_Mo_init_7 ?_
  refine f_dup fx d_Mo_init_9 rfl ?_
  refine f_iconst (v := 0) fx d_Mo_init_10 rfl ?_
  refine f_bipush (v := 84) fx d_Mo_init_11 rfl ?_
  obtain ⟨hk, ht, hin, h⟩ := h
  refine f_bast fx hk ht hin d_Mo_init_13 (f_memM (fun M1 eM1 => ?_))
  have h := h M1 eM1
  refine f_dup fx d_Mo_init_14 rfl ?_
  refine f_iconst (v := 1) fx d_Mo_init_15 rfl ?_
  refine f_bipush (v := 82) fx d_Mo_init_16 rfl ?_
  obtain ⟨hk, ht, hin, h⟩ := h
  refine f_bast fx hk ht hin d_Mo_init_18 (f_memM (fun M2 eM2 => ?_))
  have h := h M2 eM2
  refine f_dup fx d_Mo_init_19 rfl ?_
  refine f_iconst (v := 2) fx d_Mo_init_20 rfl ?_
  refine f_bipush (v := 65) fx d_Mo_init_21 rfl ?_
  obtain ⟨hk, ht, hin, h⟩ := h
  refine f_bast fx hk ht hin d_Mo_init_23 (f_memM (fun M3 eM3 => ?_))
  have h := h M3 eM3
  refine f_dup fx d_Mo_init_24 rfl ?_
  refine f_iconst (v := 3) fx d_Mo_init_25 rfl ?_
  refine f_bipush (v := 73) fx d_Mo_init_26 rfl ?_
  obtain ⟨hk, ht, hin, h⟩ := h
  refine f_bast fx hk ht hin d_Mo_init_28 (f_memM (fun M4 eM4 => ?_))
  have h := h M4 eM4
  refine f_dup fx d_Mo_init_29 rfl ?_
  refine f_iconst (v := 4) fx d_Mo_init_30 rfl ?_
  refine f_bipush (v := 76) fx d_Mo_init_31 rfl ?_
  obtain ⟨hk, ht, hin, h⟩ := h
  refine f_bast fx hk ht hin d_Mo_init_33 (f_memM (fun M5 eM5 => ?_))
  have h := h M5 eM5
  refine f_dup fx d_Mo_init_34 rfl ?_
  refine f_iconst (v := 5) fx d_Mo_init_35 rfl ?_
  refine f_bipush (v := 69) fx d_Mo_init_36 rfl ?_
  obtain ⟨hk, ht, hin, h⟩ := h
  refine f_bast fx hk ht hin d_Mo_init_38 (f_memM (fun M6 eM6 => ?_))
  have h := h M6 eM6
  refine f_dup fx d_Mo_init_39 rfl ?_
  refine f_bipush (v := 6) fx d_Mo_init_40 rfl ?_
  refine f_bipush (v := 82) fx d_Mo_init_42 rfl ?_
  obtain ⟨hk, ht, hin, h⟩ := h
  refine f_bast fx hk ht hin d_Mo_init_44 (f_memM (fun M7 eM7 => ?_))
  have h := h M7 eM7
  refine f_dup fx d_Mo_init_45 rfl ?_
  refine f_bipush (v := 7) fx d_Mo_init_46 rfl ?_
  refine f_bipush (v := 33) fx d_Mo_init_48 rfl ?_
  obtain ⟨hk, ht, hin, h⟩ := h
  refine f_bast fx hk ht hin d_Mo_init_50 (f_memM (fun M8 eM8 => ?_))
  have h := h M8 eM8
  refine f_dup fx d_Mo_init_51 rfl ?_
  refine f_bipush (v := 8) fx d_Mo_init_52 rfl ?_
  refine f_bipush (v := 33) fx d_Mo_init_54 rfl ?_
  obtain ⟨hk, ht, hin, h⟩ := h
  refine f_bast fx hk ht hin d_Mo_init_56 (f_memM (fun M9 eM9 => ?_))
  have h := h M9 eM9
  refine f_dup fx d_Mo_init_57 rfl ?_
  refine f_bipush (v := 9) fx d_Mo_init_58 rfl ?_
  refine f_bipush (v := 33) fx d_Mo_init_60 rfl ?_
  obtain ⟨hk, ht, hin, h⟩ := h
  refine f_bast fx hk ht hin d_Mo_init_62 (f_memM (fun M10 eM10 => ?_))
  have h := h M10 eM10
  obtain ⟨hk, ht, hE, h⟩ := h
  refine f_ref hE ?_
  refine f_putS fx (T := F_Mo) (ty0 := t_Mo) (j := 0) (hk := hk) (ht := ht) (ht2 := by decide) (hc := rfl) (hin := u_in_Mo) (hty := t_Mo_ok) (hnm := n_Mo) (hj := by decide) (hj2 := by decide) (hf := rfl) (hT := rfl) (hfin := rfl) (n9 := 1) (hfo := rfl) (hin2 := hnm) (hdecl := rfl) (hn := rfl) (hfit := rfl) (hw := w_1269) (hd := d_Mo_init_63) (kk := f_memF (fun F11 eF11 => ?_))
  have h := h F11 eF11
  refine f_aload_n fx 0 d_Mo_init_66 rfl rfl ?_
  refine f_bipush (v := 15) fx d_Mo_init_67 rfl ?_
  obtain ⟨h0, hz1, ht, hln, hfr, hRc, hRs, h⟩ := h
  refine f_newaB fx (n := 15) h0 (by omega) ht hln hfr (by decide) (by decide) (by decide) w_62 hRc hRs d_Mo_init_69 ?_
  refine f_dup fx d_Mo_init_71 rfl ?_
  refine f_iconst (v := 0) fx d_Mo_init_72 rfl ?_
  refine f_bipush (v := 98) fx d_Mo_init_73 rfl ?_
  obtain ⟨hk, ht, hin, h⟩ := h
  refine f_bast fx hk ht hin d_Mo_init_75 (f_memM (fun M12 eM12 => ?_))
  have h := h M12 eM12
  refine f_dup fx d_Mo_init_76 rfl ?_
  refine f_iconst (v := 1) fx d_Mo_init_77 rfl ?_
  refine f_bipush (v := 101) fx d_Mo_init_78 rfl ?_
  obtain ⟨hk, ht, hin, h⟩ := h
  refine f_bast fx hk ht hin d_Mo_init_80 (f_memM (fun M13 eM13 => ?_))
  have h := h M13 eM13
  refine f_dup fx d_Mo_init_81 rfl ?_
  refine f_iconst (v := 2) fx d_Mo_init_82 rfl ?_
  refine f_bipush (v := 103) fx d_Mo_init_83 rfl ?_
  obtain ⟨hk, ht, hin, h⟩ := h
  refine f_bast fx hk ht hin d_Mo_init_85 (f_memM (fun M14 eM14 => ?_))
  have h := h M14 eM14
  refine f_dup fx d_Mo_init_86 rfl ?_
  refine f_iconst (v := 3) fx d_Mo_init_87 rfl ?_
  refine f_bipush (v := 105) fx d_Mo_init_88 rfl ?_
  obtain ⟨hk, ht, hin, h⟩ := h
  refine f_bast fx hk ht hin d_Mo_init_90 (f_memM (fun M15 eM15 => ?_))
  have h := h M15 eM15
  refine f_dup fx d_Mo_init_91 rfl ?_
  refine f_iconst (v := 4) fx d_Mo_init_92 rfl ?_
  refine f_bipush (v := 110) fx d_Mo_init_93 rfl ?_
  obtain ⟨hk, ht, hin, h⟩ := h
  refine f_bast fx hk ht hin d_Mo_init_95 (f_memM (fun M16 eM16 => ?_))
  have h := h M16 eM16
  refine f_dup fx d_Mo_init_96 rfl ?_
  refine f_iconst (v := 5) fx d_Mo_init_97 rfl ?_
  refine f_bipush (v := 32) fx d_Mo_init_98 rfl ?_
  obtain ⟨hk, ht, hin, h⟩ := h
  refine f_bast fx hk ht hin d_Mo_init_100 (f_memM (fun M17 eM17 => ?_))
  have h := h M17 eM17
  refine f_dup fx d_Mo_init_101 rfl ?_
  refine f_bipush (v := 6) fx d_Mo_init_102 rfl ?_
  refine f_bipush (v := 54) fx d_Mo_init_104 rfl ?_
  obtain ⟨hk, ht, hin, h⟩ := h
  refine f_bast fx hk ht hin d_Mo_init_106 (f_memM (fun M18 eM18 => ?_))
  have h := h M18 eM18
  refine f_dup fx d_Mo_init_107 rfl ?_
  refine f_bipush (v := 7) fx d_Mo_init_108 rfl ?_
  refine f_bipush (v := 52) fx d_Mo_init_110 rfl ?_
  obtain ⟨hk, ht, hin, h⟩ := h
  refine f_bast fx hk ht hin d_Mo_init_112 (f_memM (fun M19 eM19 => ?_))
  have h := h M19 eM19
  refine f_dup fx d_Mo_init_113 rfl ?_
  refine f_bipush (v := 8) fx d_Mo_init_114 rfl ?_
  refine f_bipush (v := 52) fx d_Mo_init_116 rfl ?_
  obtain ⟨hk, ht, hin, h⟩ := h
  refine f_bast fx hk ht hin d_Mo_init_118 (f_memM (fun M20 eM20 => ?_))
  have h := h M20 eM20
  refine f_dup fx d_Mo_init_119 rfl ?_
  refine f_bipush (v := 9) fx d_Mo_init_120 rfl ?_
  refine f_bipush (v := 32) fx d_Mo_init_122 rfl ?_
  obtain ⟨hk, ht, hin, h⟩ := h
  refine f_bast fx hk ht hin d_Mo_init_124 (f_memM (fun M21 eM21 => ?_))
  have h := h M21 eM21
  refine f_dup fx d_Mo_init_125 rfl ?_
  refine f_bipush (v := 10) fx d_Mo_init_126 rfl ?_
  refine f_bipush (v := 109) fx d_Mo_init_128 rfl ?_
  obtain ⟨hk, ht, hin, h⟩ := h
  refine f_bast fx hk ht hin d_Mo_init_130 (f_memM (fun M22 eM22 => ?_))
  have h := h M22 eM22
  refine f_dup fx d_Mo_init_131 rfl ?_
  refine f_bipush (v := 11) fx d_Mo_init_132 rfl ?_
  refine f_bipush (v := 97) fx d_Mo_init_134 rfl ?_
  obtain ⟨hk, ht, hin, h⟩ := h
  refine f_bast fx hk ht hin d_Mo_init_136 (f_memM (fun M23 eM23 => ?_))
  have h := h M23 eM23
  refine f_dup fx d_Mo_init_137 rfl ?_
  refine f_bipush (v := 12) fx d_Mo_init_138 rfl ?_
  refine f_bipush (v := 105) fx d_Mo_init_140 rfl ?_
  obtain ⟨hk, ht, hin, h⟩ := h
  refine f_bast fx hk ht hin d_Mo_init_142 (f_memM (fun M24 eM24 => ?_))
  have h := h M24 eM24
  refine f_dup fx d_Mo_init_143 rfl ?_
  refine f_bipush (v := 13) fx d_Mo_init_144 rfl ?_
  refine f_bipush (v := 108) fx d_Mo_init_146 rfl ?_
  obtain ⟨hk, ht, hin, h⟩ := h
  refine f_bast fx hk ht hin d_Mo_init_148 (f_memM (fun M25 eM25 => ?_))
  have h := h M25 eM25
  refine f_dup fx d_Mo_init_149 rfl ?_
  refine f_bipush (v := 14) fx d_Mo_init_150 rfl ?_
  refine f_bipush (v := 10) fx d_Mo_init_152 rfl ?_
  obtain ⟨hk, ht, hin, h⟩ := h
  refine f_bast fx hk ht hin d_Mo_init_154 (f_memM (fun M26 eM26 => ?_))
  have h := h M26 eM26
  obtain ⟨hk, ht, hE, h⟩ := h
  refine f_ref hE ?_
  refine f_putS fx (T := F_Mo) (ty0 := t_Mo) (j := 1) (hk := hk) (ht := ht) (ht2 := by decide) (hc := rfl) (hin := u_in_Mo) (hty := t_Mo_ok) (hnm := n_Mo) (hj := by decide) (hj2 := by decide) (hf := rfl) (hT := rfl) (hfin := rfl) (n9 := 2) (hfo := rfl) (hin2 := hnm) (hdecl := rfl) (hn := rfl) (hfit := rfl) (hw := w_1270) (hd := d_Mo_init_155) (kk := f_memF (fun F27 eF27 => ?_))
  have h := h F27 eF27
  refine f_aload_n fx 0 d_Mo_init_158 rfl rfl ?_
  refine f_iconst (v := 5) fx d_Mo_init_159 rfl ?_
  obtain ⟨h0, hz1, ht, hln, hfr, hRc, hRs, h⟩ := h
  refine f_newaB fx (n := 5) h0 (by omega) ht hln hfr (by decide) (by decide) (by decide) w_62 hRc hRs d_Mo_init_160 ?_
  refine f_dup fx d_Mo_init_162 rfl ?_
  refine f_iconst (v := 0) fx d_Mo_init_163 rfl ?_
  refine f_bipush (v := 80) fx d_Mo_init_164 rfl ?_
  obtain ⟨hk, ht, hin, h⟩ := h
  refine f_bast fx hk ht hin d_Mo_init_166 (f_memM (fun M28 eM28 => ?_))
  have h := h M28 eM28
  refine f_dup fx d_Mo_init_167 rfl ?_
  refine f_iconst (v := 1) fx d_Mo_init_168 rfl ?_
  refine f_bipush (v := 65) fx d_Mo_init_169 rfl ?_
  obtain ⟨hk, ht, hin, h⟩ := h
  refine f_bast fx hk ht hin d_Mo_init_171 (f_memM (fun M29 eM29 => ?_))
  have h := h M29 eM29
  refine f_dup fx d_Mo_init_172 rfl ?_
  refine f_iconst (v := 2) fx d_Mo_init_173 rfl ?_
  refine f_bipush (v := 82) fx d_Mo_init_174 rfl ?_
  obtain ⟨hk, ht, hin, h⟩ := h
  refine f_bast fx hk ht hin d_Mo_init_176 (f_memM (fun M30 eM30 => ?_))
  have h := h M30 eM30
  refine f_dup fx d_Mo_init_177 rfl ?_
  refine f_iconst (v := 3) fx d_Mo_init_178 rfl ?_
  refine f_bipush (v := 84) fx d_Mo_init_179 rfl ?_
  obtain ⟨hk, ht, hin, h⟩ := h
  refine f_bast fx hk ht hin d_Mo_init_181 (f_memM (fun M31 eM31 => ?_))
  have h := h M31 eM31
  refine f_dup fx d_Mo_init_182 rfl ?_
  refine f_iconst (v := 4) fx d_Mo_init_183 rfl ?_
  refine f_bipush (v := 32) fx d_Mo_init_184 rfl ?_
  obtain ⟨hk, ht, hin, h⟩ := h
  refine f_bast fx hk ht hin d_Mo_init_186 (f_memM (fun M32 eM32 => ?_))
  have h := h M32 eM32
  obtain ⟨hk, ht, hE, h⟩ := h
  refine f_ref hE ?_
  refine f_putS fx (T := F_Mo) (ty0 := t_Mo) (j := 2) (hk := hk) (ht := ht) (ht2 := by decide) (hc := rfl) (hin := u_in_Mo) (hty := t_Mo_ok) (hnm := n_Mo) (hj := by decide) (hj2 := by decide) (hf := rfl) (hT := rfl) (hfin := rfl) (n9 := 3) (hfo := rfl) (hin2 := hnm) (hdecl := rfl) (hn := rfl) (hfit := rfl) (hw := w_1271) (hd := d_Mo_init_187) (kk := f_memF (fun F33 eF33 => ?_))
  have h := h F33 eF33
  refine f_aload_n fx 0 d_Mo_init_190 rfl rfl ?_
  refine f_iconst (v := 3) fx d_Mo_init_191 rfl ?_
  obtain ⟨h0, hz1, ht, hln, hfr, hRc, hRs, h⟩ := h
  refine f_newaB fx (n := 3) h0 (by omega) ht hln hfr (by decide) (by decide) (by decide) w_62 hRc hRs d_Mo_init_192 ?_
  refine f_dup fx d_Mo_init_194 rfl ?_
  refine f_iconst (v := 0) fx d_Mo_init_195 rfl ?_
  refine f_bipush (v := 79) fx d_Mo_init_196 rfl ?_
  obtain ⟨hk, ht, hin, h⟩ := h
  refine f_bast fx hk ht hin d_Mo_init_198 (f_memM (fun M34 eM34 => ?_))
  have h := h M34 eM34
  refine f_dup fx d_Mo_init_199 rfl ?_
  refine f_iconst (v := 1) fx d_Mo_init_200 rfl ?_
  refine f_bipush (v := 70) fx d_Mo_init_201 rfl ?_
  obtain ⟨hk, ht, hin, h⟩ := h
  refine f_bast fx hk ht hin d_Mo_init_203 (f_memM (fun M35 eM35 => ?_))
  have h := h M35 eM35
  refine f_dup fx d_Mo_init_204 rfl ?_
  refine f_iconst (v := 2) fx d_Mo_init_205 rfl ?_
  refine f_bipush (v := 32) fx d_Mo_init_206 rfl ?_
  obtain ⟨hk, ht, hin, h⟩ := h
  refine f_bast fx hk ht hin d_Mo_init_208 (f_memM (fun M36 eM36 => ?_))
  have h := h M36 eM36
  obtain ⟨hk, ht, hE, h⟩ := h
  refine f_ref hE ?_
  refine f_putS fx (T := F_Mo) (ty0 := t_Mo) (j := 3) (hk := hk) (ht := ht) (ht2 := by decide) (hc := rfl) (hin := u_in_Mo) (hty := t_Mo_ok) (hnm := n_Mo) (hj := by decide) (hj2 := by decide) (hf := rfl) (hT := rfl) (hfin := rfl) (n9 := 4) (hfo := rfl) (hin2 := hnm) (hdecl := rfl) (hn := rfl) (hfit := rfl) (hw := w_1272) (hd := d_Mo_init_209) (kk := f_memF (fun F37 eF37 => ?_))
  have h := h F37 eF37
  refine f_aload_n fx 0 d_Mo_init_212 rfl rfl ?_
  refine f_iconst (v := 5) fx d_Mo_init_213 rfl ?_
  obtain ⟨h0, hz1, ht, hln, hfr, hRc, hRs, h⟩ := h
  refine f_newaB fx (n := 5) h0 (by omega) ht hln hfr (by decide) (by decide) (by decide) w_62 hRc hRs d_Mo_init_214 ?_
  refine f_dup fx d_Mo_init_216 rfl ?_
  refine f_iconst (v := 0) fx d_Mo_init_217 rfl ?_
  refine f_bipush (v := 83) fx d_Mo_init_218 rfl ?_
  obtain ⟨hk, ht, hin, h⟩ := h
  refine f_bast fx hk ht hin d_Mo_init_220 (f_memM (fun M38 eM38 => ?_))
  have h := h M38 eM38
  refine f_dup fx d_Mo_init_221 rfl ?_
  refine f_iconst (v := 1) fx d_Mo_init_222 rfl ?_
  refine f_bipush (v := 73) fx d_Mo_init_223 rfl ?_
  obtain ⟨hk, ht, hin, h⟩ := h
  refine f_bast fx hk ht hin d_Mo_init_225 (f_memM (fun M39 eM39 => ?_))
  have h := h M39 eM39
  refine f_dup fx d_Mo_init_226 rfl ?_
  refine f_iconst (v := 2) fx d_Mo_init_227 rfl ?_
  refine f_bipush (v := 90) fx d_Mo_init_228 rfl ?_
  obtain ⟨hk, ht, hin, h⟩ := h
  refine f_bast fx hk ht hin d_Mo_init_230 (f_memM (fun M40 eM40 => ?_))
  have h := h M40 eM40
  refine f_dup fx d_Mo_init_231 rfl ?_
  refine f_iconst (v := 3) fx d_Mo_init_232 rfl ?_
  refine f_bipush (v := 69) fx d_Mo_init_233 rfl ?_
  obtain ⟨hk, ht, hin, h⟩ := h
  refine f_bast fx hk ht hin d_Mo_init_235 (f_memM (fun M41 eM41 => ?_))
  have h := h M41 eM41
  refine f_dup fx d_Mo_init_236 rfl ?_
  refine f_iconst (v := 4) fx d_Mo_init_237 rfl ?_
  refine f_bipush (v := 32) fx d_Mo_init_238 rfl ?_
  obtain ⟨hk, ht, hin, h⟩ := h
  refine f_bast fx hk ht hin d_Mo_init_240 (f_memM (fun M42 eM42 => ?_))
  have h := h M42 eM42
  obtain ⟨hk, ht, hE, h⟩ := h
  refine f_ref hE ?_
  refine f_putS fx (T := F_Mo) (ty0 := t_Mo) (j := 4) (hk := hk) (ht := ht) (ht2 := by decide) (hc := rfl) (hin := u_in_Mo) (hty := t_Mo_ok) (hnm := n_Mo) (hj := by decide) (hj2 := by decide) (hf := rfl) (hT := rfl) (hfin := rfl) (n9 := 5) (hfo := rfl) (hin2 := hnm) (hdecl := rfl) (hn := rfl) (hfit := rfl) (hw := w_1273) (hd := d_Mo_init_241) (kk := f_memF (fun F43 eF43 => ?_))
  have h := h F43 eF43
  refine f_aload_n fx 0 d_Mo_init_244 rfl rfl ?_
  refine f_bipush (v := 6) fx d_Mo_init_245 rfl ?_
  obtain ⟨h0, hz1, ht, hln, hfr, hRc, hRs, h⟩ := h
  refine f_newaB fx (n := 6) h0 (by omega) ht hln hfr (by decide) (by decide) (by decide) w_62 hRc hRs d_Mo_init_247 ?_
  refine f_dup fx d_Mo_init_249 rfl ?_
  refine f_iconst (v := 0) fx d_Mo_init_250 rfl ?_
  refine f_bipush (v := 67) fx d_Mo_init_251 rfl ?_
  obtain ⟨hk, ht, hin, h⟩ := h
  refine f_bast fx hk ht hin d_Mo_init_253 (f_memM (fun M44 eM44 => ?_))
  have h := h M44 eM44
  refine f_dup fx d_Mo_init_254 rfl ?_
  refine f_iconst (v := 1) fx d_Mo_init_255 rfl ?_
  refine f_bipush (v := 75) fx d_Mo_init_256 rfl ?_
  obtain ⟨hk, ht, hin, h⟩ := h
  refine f_bast fx hk ht hin d_Mo_init_258 (f_memM (fun M45 eM45 => ?_))
  have h := h M45 eM45
  refine f_dup fx d_Mo_init_259 rfl ?_
  refine f_iconst (v := 2) fx d_Mo_init_260 rfl ?_
  refine f_bipush (v := 83) fx d_Mo_init_261 rfl ?_
  obtain ⟨hk, ht, hin, h⟩ := h
  refine f_bast fx hk ht hin d_Mo_init_263 (f_memM (fun M46 eM46 => ?_))
  have h := h M46 eM46
  refine f_dup fx d_Mo_init_264 rfl ?_
  refine f_iconst (v := 3) fx d_Mo_init_265 rfl ?_
  refine f_bipush (v := 85) fx d_Mo_init_266 rfl ?_
  obtain ⟨hk, ht, hin, h⟩ := h
  refine f_bast fx hk ht hin d_Mo_init_268 (f_memM (fun M47 eM47 => ?_))
  have h := h M47 eM47
  refine f_dup fx d_Mo_init_269 rfl ?_
  refine f_iconst (v := 4) fx d_Mo_init_270 rfl ?_
  refine f_bipush (v := 77) fx d_Mo_init_271 rfl ?_
  obtain ⟨hk, ht, hin, h⟩ := h
  refine f_bast fx hk ht hin d_Mo_init_273 (f_memM (fun M48 eM48 => ?_))
  have h := h M48 eM48
  refine f_dup fx d_Mo_init_274 rfl ?_
  refine f_iconst (v := 5) fx d_Mo_init_275 rfl ?_
  refine f_bipush (v := 32) fx d_Mo_init_276 rfl ?_
  obtain ⟨hk, ht, hin, h⟩ := h
  refine f_bast fx hk ht hin d_Mo_init_278 (f_memM (fun M49 eM49 => ?_))
  have h := h M49 eM49
  obtain ⟨hk, ht, hE, h⟩ := h
  refine f_ref hE ?_
  refine f_putS fx (T := F_Mo) (ty0 := t_Mo) (j := 5) (hk := hk) (ht := ht) (ht2 := by decide) (hc := rfl) (hin := u_in_Mo) (hty := t_Mo_ok) (hnm := n_Mo) (hj := by decide) (hj2 := by decide) (hf := rfl) (hT := rfl) (hfin := rfl) (n9 := 6) (hfo := rfl) (hin2 := hnm) (hdecl := rfl) (hn := rfl) (hfit := rfl) (hw := w_1274) (hd := d_Mo_init_279) (kk := f_memF (fun F50 eF50 => ?_))
  have h := h F50 eF50
  refine f_aload_n fx 0 d_Mo_init_282 rfl rfl ?_
  refine f_sipush (v := 8000) fx d_Mo_init_283 rfl ?_
  obtain ⟨h0, hz1, ht, hln, hfr, hRc, hRs, h⟩ := h
  refine f_newaB fx (n := 8000) h0 (by omega) ht hln hfr (by decide) (by decide) (by decide) w_62 hRc hRs d_Mo_init_286 ?_
  obtain ⟨hk, ht, hE, h⟩ := h
  refine f_ref hE ?_
  refine f_putS fx (T := F_Mo) (ty0 := t_Mo) (j := 8) (hk := hk) (ht := ht) (ht2 := by decide) (hc := rfl) (hin := u_in_Mo) (hty := t_Mo_ok) (hnm := n_Mo) (hj := by decide) (hj2 := by decide) (hf := rfl) (hT := rfl) (hfin := rfl) (n9 := 7) (hfo := rfl) (hin2 := hnm) (hdecl := rfl) (hn := rfl) (hfit := rfl) (hw := w_1277) (hd := d_Mo_init_288) (kk := f_memF (fun F51 eF51 => ?_))
  have h := h F51 eF51
  refine f_aload_n fx 0 d_Mo_init_291 rfl rfl ?_
  refine f_iconst (v := 3) fx d_Mo_init_292 rfl ?_
  obtain ⟨h0, hz1, ht, hln, hfr, hRc, hRs, h⟩ := h
  refine f_newaI fx (n := 3) h0 (by omega) ht hln hfr (by decide) (by decide) (by decide) w_176 hRc hRs d_Mo_init_293 ?_
  obtain ⟨hk, ht, hE, h⟩ := h
  refine f_ref hE ?_
  refine f_putS fx (T := F_Mo) (ty0 := t_Mo) (j := 9) (hk := hk) (ht := ht) (ht2 := by decide) (hc := rfl) (hin := u_in_Mo) (hty := t_Mo_ok) (hnm := n_Mo) (hj := by decide) (hj2 := by decide) (hf := rfl) (hT := rfl) (hfin := rfl) (n9 := 8) (hfo := rfl) (hin2 := hnm) (hdecl := rfl) (hn := rfl) (hfit := rfl) (hw := w_1278) (hd := d_Mo_init_295) (kk := f_memF (fun F52 eF52 => ?_))
  have h := h F52 eF52
  refine f_aload_n fx 0 d_Mo_init_298 rfl rfl ?_
  refine f_sipush (v := 7380) fx d_Mo_init_299 rfl ?_
  obtain ⟨h0, hz1, ht, hln, hfr, hRc, hRs, h⟩ := h
  refine f_newaB fx (n := 7380) h0 (by omega) ht hln hfr (by decide) (by decide) (by decide) w_62 hRc hRs d_Mo_init_302 ?_
  obtain ⟨hk, ht, hE, h⟩ := h
  refine f_ref hE ?_
  refine f_putS fx (T := F_Mo) (ty0 := t_Mo) (j := 10) (hk := hk) (ht := ht) (ht2 := by decide) (hc := rfl) (hin := u_in_Mo) (hty := t_Mo_ok) (hnm := n_Mo) (hj := by decide) (hj2 := by decide) (hf := rfl) (hT := rfl) (hfin := rfl) (n9 := 9) (hfo := rfl) (hin2 := hnm) (hdecl := rfl) (hn := rfl) (hfit := rfl) (hw := w_1279) (hd := d_Mo_init_304) (kk := f_memF (fun F53 eF53 => ?_))
  have h := h F53 eF53
  refine f_aload_n fx 0 d_Mo_init_307 rfl rfl ?_
  refine f_bipush (v := 123) fx d_Mo_init_308 rfl ?_
  obtain ⟨h0, hz1, ht, hln, hfr, hRc, hRs, h⟩ := h
  refine f_newaI fx (n := 123) h0 (by omega) ht hln hfr (by decide) (by decide) (by decide) w_176 hRc hRs d_Mo_init_310 ?_
  obtain ⟨hk, ht, hE, h⟩ := h
  refine f_ref hE ?_
  refine f_putS fx (T := F_Mo) (ty0 := t_Mo) (j := 11) (hk := hk) (ht := ht) (ht2 := by decide) (hc := rfl) (hin := u_in_Mo) (hty := t_Mo_ok) (hnm := n_Mo) (hj := by decide) (hj2 := by decide) (hf := rfl) (hT := rfl) (hfin := rfl) (n9 := 10) (hfo := rfl) (hin2 := hnm) (hdecl := rfl) (hn := rfl) (hfit := rfl) (hw := w_1280) (hd := d_Mo_init_312) (kk := f_memF (fun F54 eF54 => ?_))
  have h := h F54 eF54
  refine f_aload_n fx 0 d_Mo_init_315 rfl rfl ?_
  refine f_bipush (v := 123) fx d_Mo_init_316 rfl ?_
  obtain ⟨h0, hz1, ht, hln, hfr, hRc, hRs, h⟩ := h
  refine f_newaI fx (n := 123) h0 (by omega) ht hln hfr (by decide) (by decide) (by decide) w_176 hRc hRs d_Mo_init_318 ?_
  obtain ⟨hk, ht, hE, h⟩ := h
  refine f_ref hE ?_
  refine f_putS fx (T := F_Mo) (ty0 := t_Mo) (j := 12) (hk := hk) (ht := ht) (ht2 := by decide) (hc := rfl) (hin := u_in_Mo) (hty := t_Mo_ok) (hnm := n_Mo) (hj := by decide) (hj2 := by decide) (hf := rfl) (hT := rfl) (hfin := rfl) (n9 := 11) (hfo := rfl) (hin2 := hnm) (hdecl := rfl) (hn := rfl) (hfit := rfl) (hw := w_1281) (hd := d_Mo_init_320) (kk := f_memF (fun F55 eF55 => ?_))
  have h := h F55 eF55
  refine f_aload_n fx 0 d_Mo_init_323 rfl rfl ?_
  refine f_bipush (v := 123) fx d_Mo_init_324 rfl ?_
  obtain ⟨h0, hz1, ht, hln, hfr, hRc, hRs, h⟩ := h
  refine f_newaI fx (n := 123) h0 (by omega) ht hln hfr (by decide) (by decide) (by decide) w_176 hRc hRs d_Mo_init_326 ?_
  obtain ⟨hk, ht, hE, h⟩ := h
  refine f_ref hE ?_
  refine f_putS fx (T := F_Mo) (ty0 := t_Mo) (j := 13) (hk := hk) (ht := ht) (ht2 := by decide) (hc := rfl) (hin := u_in_Mo) (hty := t_Mo_ok) (hnm := n_Mo) (hj := by decide) (hj2 := by decide) (hf := rfl) (hT := rfl) (hfin := rfl) (n9 := 12) (hfo := rfl) (hin2 := hnm) (hdecl := rfl) (hn := rfl) (hfit := rfl) (hw := w_1282) (hd := d_Mo_init_328) (kk := f_memF (fun F56 eF56 => ?_))
  have h := h F56 eF56
  refine f_aload_n fx 0 d_Mo_init_331 rfl rfl ?_
  refine f_bipush (v := 123) fx d_Mo_init_332 rfl ?_
  obtain ⟨h0, hz1, ht, hln, hfr, hRc, hRs, h⟩ := h
  refine f_newaI fx (n := 123) h0 (by omega) ht hln hfr (by decide) (by decide) (by decide) w_176 hRc hRs d_Mo_init_334 ?_
  obtain ⟨hk, ht, hE, h⟩ := h
  refine f_ref hE ?_
  refine f_putS fx (T := F_Mo) (ty0 := t_Mo) (j := 14) (hk := hk) (ht := ht) (ht2 := by decide) (hc := rfl) (hin := u_in_Mo) (hty := t_Mo_ok) (hnm := n_Mo) (hj := by decide) (hj2 := by decide) (hf := rfl) (hT := rfl) (hfin := rfl) (n9 := 13) (hfo := rfl) (hin2 := hnm) (hdecl := rfl) (hn := rfl) (hfit := rfl) (hw := w_1283) (hd := d_Mo_init_336) (kk := f_memF (fun F57 eF57 => ?_))
  have h := h F57 eF57
  refine f_aload_n fx 0 d_Mo_init_339 rfl rfl ?_
  refine f_bipush (v := 123) fx d_Mo_init_340 rfl ?_
  obtain ⟨h0, hz1, ht, hln, hfr, hRc, hRs, h⟩ := h
  refine f_newaI fx (n := 123) h0 (by omega) ht hln hfr (by decide) (by decide) (by decide) w_176 hRc hRs d_Mo_init_342 ?_
  obtain ⟨hk, ht, hE, h⟩ := h
  refine f_ref hE ?_
  refine f_putS fx (T := F_Mo) (ty0 := t_Mo) (j := 15) (hk := hk) (ht := ht) (ht2 := by decide) (hc := rfl) (hin := u_in_Mo) (hty := t_Mo_ok) (hnm := n_Mo) (hj := by decide) (hj2 := by decide) (hf := rfl) (hT := rfl) (hfin := rfl) (n9 := 14) (hfo := rfl) (hin2 := hnm) (hdecl := rfl) (hn := rfl) (hfit := rfl) (hw := w_1284) (hd := d_Mo_init_344) (kk := f_memF (fun F58 eF58 => ?_))
  have h := h F58 eF58
  refine f_aload_n fx 0 d_Mo_init_347 rfl rfl ?_
  refine f_bipush (v := 123) fx d_Mo_init_348 rfl ?_
  obtain ⟨h0, hz1, ht, hln, hfr, hRc, hRs, h⟩ := h
  refine f_newaI fx (n := 123) h0 (by omega) ht hln hfr (by decide) (by decide) (by decide) w_176 hRc hRs d_Mo_init_350 ?_
  obtain ⟨hk, ht, hE, h⟩ := h
  refine f_ref hE ?_
  refine f_putS fx (T := F_Mo) (ty0 := t_Mo) (j := 16) (hk := hk) (ht := ht) (ht2 := by decide) (hc := rfl) (hin := u_in_Mo) (hty := t_Mo_ok) (hnm := n_Mo) (hj := by decide) (hj2 := by decide) (hf := rfl) (hT := rfl) (hfin := rfl) (n9 := 15) (hfo := rfl) (hin2 := hnm) (hdecl := rfl) (hn := rfl) (hfit := rfl) (hw := w_1285) (hd := d_Mo_init_352) (kk := f_memF (fun F59 eF59 => ?_))
  have h := h F59 eF59
  refine f_aload_n fx 0 d_Mo_init_355 rfl rfl ?_
  refine f_bipush (v := 123) fx d_Mo_init_356 rfl ?_
  obtain ⟨h0, hz1, ht, hln, hfr, hRc, hRs, h⟩ := h
  refine f_newaI fx (n := 123) h0 (by omega) ht hln hfr (by decide) (by decide) (by decide) w_176 hRc hRs d_Mo_init_358 ?_
  obtain ⟨hk, ht, hE, h⟩ := h
  refine f_ref hE ?_
  refine f_putS fx (T := F_Mo) (ty0 := t_Mo) (j := 17) (hk := hk) (ht := ht) (ht2 := by decide) (hc := rfl) (hin := u_in_Mo) (hty := t_Mo_ok) (hnm := n_Mo) (hj := by decide) (hj2 := by decide) (hf := rfl) (hT := rfl) (hfin := rfl) (n9 := 16) (hfo := rfl) (hin2 := hnm) (hdecl := rfl) (hn := rfl) (hfit := rfl) (hw := w_1286) (hd := d_Mo_init_360) (kk := f_memF (fun F60 eF60 => ?_))
  have h := h F60 eF60
  refine f_aload_n fx 0 d_Mo_init_363 rfl rfl ?_
  refine f_bipush (v := 123) fx d_Mo_init_364 rfl ?_
  obtain ⟨h0, hz1, ht, hln, hfr, hRc, hRs, h⟩ := h
  refine f_newaI fx (n := 123) h0 (by omega) ht hln hfr (by decide) (by decide) (by decide) w_176 hRc hRs d_Mo_init_366 ?_
  obtain ⟨hk, ht, hE, h⟩ := h
  refine f_ref hE ?_
  refine f_putS fx (T := F_Mo) (ty0 := t_Mo) (j := 18) (hk := hk) (ht := ht) (ht2 := by decide) (hc := rfl) (hin := u_in_Mo) (hty := t_Mo_ok) (hnm := n_Mo) (hj := by decide) (hj2 := by decide) (hf := rfl) (hT := rfl) (hfin := rfl) (n9 := 17) (hfo := rfl) (hin2 := hnm) (hdecl := rfl) (hn := rfl) (hfit := rfl) (hw := w_1287) (hd := d_Mo_init_368) (kk := f_memF (fun F61 eF61 => ?_))
  have h := h F61 eF61
  refine f_aload_n fx 0 d_Mo_init_371 rfl rfl ?_
  refine f_bipush (v := 123) fx d_Mo_init_372 rfl ?_
  obtain ⟨h0, hz1, ht, hln, hfr, hRc, hRs, h⟩ := h
  refine f_newaI fx (n := 123) h0 (by omega) ht hln hfr (by decide) (by decide) (by decide) w_176 hRc hRs d_Mo_init_374 ?_
  obtain ⟨hk, ht, hE, h⟩ := h
  refine f_ref hE ?_
  refine f_putS fx (T := F_Mo) (ty0 := t_Mo) (j := 19) (hk := hk) (ht := ht) (ht2 := by decide) (hc := rfl) (hin := u_in_Mo) (hty := t_Mo_ok) (hnm := n_Mo) (hj := by decide) (hj2 := by decide) (hf := rfl) (hT := rfl) (hfin := rfl) (n9 := 18) (hfo := rfl) (hin2 := hnm) (hdecl := rfl) (hn := rfl) (hfit := rfl) (hw := w_1288) (hd := d_Mo_init_376) (kk := f_memF (fun F62 eF62 => ?_))
  have h := h F62 eF62
  refine f_aload_n fx 0 d_Mo_init_379 rfl rfl ?_
  refine f_iconst (v := 3) fx d_Mo_init_380 rfl ?_
  obtain ⟨h0, hz1, ht, hln, hfr, hRc, hRs, h⟩ := h
  refine f_newaI fx (n := 3) h0 (by omega) ht hln hfr (by decide) (by decide) (by decide) w_176 hRc hRs d_Mo_init_381 ?_
  obtain ⟨hk, ht, hE, h⟩ := h
  refine f_ref hE ?_
  refine f_putS fx (T := F_Mo) (ty0 := t_Mo) (j := 20) (hk := hk) (ht := ht) (ht2 := by decide) (hc := rfl) (hin := u_in_Mo) (hty := t_Mo_ok) (hnm := n_Mo) (hj := by decide) (hj2 := by decide) (hf := rfl) (hT := rfl) (hfin := rfl) (n9 := 19) (hfo := rfl) (hin2 := hnm) (hdecl := rfl) (hn := rfl) (hfit := rfl) (hw := w_1289) (hd := d_Mo_init_383) (kk := f_memF (fun F63 eF63 => ?_))
  have h := h F63 eF63
  refine f_aload_n fx 0 d_Mo_init_386 rfl rfl ?_
  refine f_ldc fx w_1264 d_Mo_init_387 ?_
  obtain ⟨h0, hz1, ht, hln, hfr, hRc, hRs, h⟩ := h
  refine f_newaB fx (n := 60000) h0 (by omega) ht hln hfr (by decide) (by decide) (by decide) w_62 hRc hRs d_Mo_init_389 ?_
  obtain ⟨hk, ht, hE, h⟩ := h
  refine f_ref hE ?_
  refine f_putS fx (T := F_Mo) (ty0 := t_Mo) (j := 21) (hk := hk) (ht := ht) (ht2 := by decide) (hc := rfl) (hin := u_in_Mo) (hty := t_Mo_ok) (hnm := n_Mo) (hj := by decide) (hj2 := by decide) (hf := rfl) (hT := rfl) (hfin := rfl) (n9 := 20) (hfo := rfl) (hin2 := hnm) (hdecl := rfl) (hn := rfl) (hfit := rfl) (hw := w_1290) (hd := d_Mo_init_391) (kk := f_memF (fun F64 eF64 => ?_))
  have h := h F64 eF64
  refine f_aload_n fx 0 d_Mo_init_394 rfl rfl ?_
  refine f_bipush (v := 60) fx d_Mo_init_395 rfl ?_
  obtain ⟨h0, hz1, ht, hln, hfr, hRc, hRs, h⟩ := h
  refine f_newaB fx (n := 60) h0 (by omega) ht hln hfr (by decide) (by decide) (by decide) w_62 hRc hRs d_Mo_init_397 ?_
  obtain ⟨hk, ht, hE, h⟩ := h
  refine f_ref hE ?_
  refine f_putS fx (T := F_Mo) (ty0 := t_Mo) (j := 23) (hk := hk) (ht := ht) (ht2 := by decide) (hc := rfl) (hin := u_in_Mo) (hty := t_Mo_ok) (hnm := n_Mo) (hj := by decide) (hj2 := by decide) (hf := rfl) (hT := rfl) (hfin := rfl) (n9 := 21) (hfo := rfl) (hin2 := hnm) (hdecl := rfl) (hn := rfl) (hfit := rfl) (hw := w_1292) (hd := d_Mo_init_399) (kk := f_memF (fun F65 eF65 => ?_))
  have h := h F65 eF65
  refine f_aload_n fx 0 d_Mo_init_402 rfl rfl ?_
  refine f_sipush (v := 24000) fx d_Mo_init_403 rfl ?_
  obtain ⟨h0, hz1, ht, hln, hfr, hRc, hRs, h⟩ := h
  refine f_newaB fx (n := 24000) h0 (by omega) ht hln hfr (by decide) (by decide) (by decide) w_62 hRc hRs d_Mo_init_406 ?_
  obtain ⟨hk, ht, hE, h⟩ := h
  refine f_ref hE ?_
  refine f_putS fx (T := F_Mo) (ty0 := t_Mo) (j := 26) (hk := hk) (ht := ht) (ht2 := by decide) (hc := rfl) (hin := u_in_Mo) (hty := t_Mo_ok) (hnm := n_Mo) (hj := by decide) (hj2 := by decide) (hf := rfl) (hT := rfl) (hfin := rfl) (n9 := 22) (hfo := rfl) (hin2 := hnm) (hdecl := rfl) (hn := rfl) (hfit := rfl) (hw := w_1295) (hd := d_Mo_init_408) (kk := f_memF (fun F66 eF66 => ?_))
  have h := h F66 eF66
  refine f_aload_n fx 0 d_Mo_init_411 rfl rfl ?_
  refine f_ldc fx w_1265 d_Mo_init_412 ?_
  obtain ⟨h0, hz1, ht, hln, hfr, hRc, hRs, h⟩ := h
  refine f_newaB fx (n := 40000) h0 (by omega) ht hln hfr (by decide) (by decide) (by decide) w_62 hRc hRs d_Mo_init_414 ?_
  obtain ⟨hk, ht, hE, h⟩ := h
  refine f_ref hE ?_
  refine f_putS fx (T := F_Mo) (ty0 := t_Mo) (j := 28) (hk := hk) (ht := ht) (ht2 := by decide) (hc := rfl) (hin := u_in_Mo) (hty := t_Mo_ok) (hnm := n_Mo) (hj := by decide) (hj2 := by decide) (hf := rfl) (hT := rfl) (hfin := rfl) (n9 := 23) (hfo := rfl) (hin2 := hnm) (hdecl := rfl) (hn := rfl) (hfit := rfl) (hw := w_1297) (hd := d_Mo_init_416) (kk := f_memF (fun F67 eF67 => ?_))
  have h := h F67 eF67
  refine f_aload_n fx 0 d_Mo_init_419 rfl rfl ?_
  refine f_ldc fx w_1266 d_Mo_init_420 ?_
  obtain ⟨h0, hz1, ht, hln, hfr, hRc, hRs, h⟩ := h
  refine f_newaB fx (n := 56000) h0 (by omega) ht hln hfr (by decide) (by decide) (by decide) w_62 hRc hRs d_Mo_init_422 ?_
  obtain ⟨hk, ht, hE, h⟩ := h
  refine f_ref hE ?_
  refine f_putS fx (T := F_Mo) (ty0 := t_Mo) (j := 30) (hk := hk) (ht := ht) (ht2 := by decide) (hc := rfl) (hin := u_in_Mo) (hty := t_Mo_ok) (hnm := n_Mo) (hj := by decide) (hj2 := by decide) (hf := rfl) (hT := rfl) (hfin := rfl) (n9 := 24) (hfo := rfl) (hin2 := hnm) (hdecl := rfl) (hn := rfl) (hfit := rfl) (hw := w_1299) (hd := d_Mo_init_424) (kk := f_memF (fun F68 eF68 => ?_))
  have h := h F68 eF68
  refine f_aload_n fx 0 d_Mo_init_427 rfl rfl ?_
  refine f_ldc fx w_1265 d_Mo_init_428 ?_
  obtain ⟨h0, hz1, ht, hln, hfr, hRc, hRs, h⟩ := h
  refine f_newaB fx (n := 40000) h0 (by omega) ht hln hfr (by decide) (by decide) (by decide) w_62 hRc hRs d_Mo_init_430 ?_
  obtain ⟨hk, ht, hE, h⟩ := h
  refine f_ref hE ?_
  refine f_putS fx (T := F_Mo) (ty0 := t_Mo) (j := 34) (hk := hk) (ht := ht) (ht2 := by decide) (hc := rfl) (hin := u_in_Mo) (hty := t_Mo_ok) (hnm := n_Mo) (hj := by decide) (hj2 := by decide) (hf := rfl) (hT := rfl) (hfin := rfl) (n9 := 25) (hfo := rfl) (hin2 := hnm) (hdecl := rfl) (hn := rfl) (hfit := rfl) (hw := w_1303) (hd := d_Mo_init_432) (kk := f_memF (fun F69 eF69 => ?_))
  have h := h F69 eF69
  refine f_aload_n fx 0 d_Mo_init_435 rfl rfl ?_
  refine f_ldc fx w_1266 d_Mo_init_436 ?_
  obtain ⟨h0, hz1, ht, hln, hfr, hRc, hRs, h⟩ := h
  refine f_newaB fx (n := 56000) h0 (by omega) ht hln hfr (by decide) (by decide) (by decide) w_62 hRc hRs d_Mo_init_438 ?_
  obtain ⟨hk, ht, hE, h⟩ := h
  refine f_ref hE ?_
  refine f_putS fx (T := F_Mo) (ty0 := t_Mo) (j := 36) (hk := hk) (ht := ht) (ht2 := by decide) (hc := rfl) (hin := u_in_Mo) (hty := t_Mo_ok) (hnm := n_Mo) (hj := by decide) (hj2 := by decide) (hf := rfl) (hT := rfl) (hfin := rfl) (n9 := 26) (hfo := rfl) (hin2 := hnm) (hdecl := rfl) (hn := rfl) (hfit := rfl) (hw := w_1305) (hd := d_Mo_init_440) (kk := f_memF (fun F70 eF70 => ?_))
  have h := h F70 eF70
  refine f_aload_n fx 0 d_Mo_init_443 rfl rfl ?_
  refine f_sipush (v := 1000) fx d_Mo_init_444 rfl ?_
  obtain ⟨h0, hz1, ht, hln, hfr, hRc, hRs, h⟩ := h
  refine f_newaZ fx (n := 1000) h0 (by omega) ht hln hfr (by decide) (by decide) (by decide) w_1456 hRc hRs d_Mo_init_447 ?_
  obtain ⟨hk, ht, hE, h⟩ := h
  refine f_ref hE ?_
  refine f_putS fx (T := F_Mo) (ty0 := t_Mo) (j := 40) (hk := hk) (ht := ht) (ht2 := by decide) (hc := rfl) (hin := u_in_Mo) (hty := t_Mo_ok) (hnm := n_Mo) (hj := by decide) (hj2 := by decide) (hf := rfl) (hT := rfl) (hfin := rfl) (n9 := 27) (hfo := rfl) (hin2 := hnm) (hdecl := rfl) (hn := rfl) (hfit := rfl) (hw := w_1309) (hd := d_Mo_init_449) (kk := f_memF (fun F71 eF71 => ?_))
  have h := h F71 eF71
  refine f_aload_n fx 0 d_Mo_init_452 rfl rfl ?_
  refine f_sipush (v := 1000) fx d_Mo_init_453 rfl ?_
  obtain ⟨h0, hz1, ht, hln, hfr, hRc, hRs, h⟩ := h
  refine f_newaI fx (n := 1000) h0 (by omega) ht hln hfr (by decide) (by decide) (by decide) w_176 hRc hRs d_Mo_init_456 ?_
  obtain ⟨hk, ht, hE, h⟩ := h
  refine f_ref hE ?_
  refine f_putS fx (T := F_Mo) (ty0 := t_Mo) (j := 41) (hk := hk) (ht := ht) (ht2 := by decide) (hc := rfl) (hin := u_in_Mo) (hty := t_Mo_ok) (hnm := n_Mo) (hj := by decide) (hj2 := by decide) (hf := rfl) (hT := rfl) (hfin := rfl) (n9 := 28) (hfo := rfl) (hin2 := hnm) (hdecl := rfl) (hn := rfl) (hfit := rfl) (hw := w_1310) (hd := d_Mo_init_458) (kk := f_memF (fun F72 eF72 => ?_))
  have h := h F72 eF72
  refine f_aload_n fx 0 d_Mo_init_461 rfl rfl ?_
  refine f_sipush (v := 1000) fx d_Mo_init_462 rfl ?_
  obtain ⟨h0, hz1, ht, hln, hfr, hRc, hRs, h⟩ := h
  refine f_newaI fx (n := 1000) h0 (by omega) ht hln hfr (by decide) (by decide) (by decide) w_176 hRc hRs d_Mo_init_465 ?_
  obtain ⟨hk, ht, hE, h⟩ := h
  refine f_ref hE ?_
  refine f_putS fx (T := F_Mo) (ty0 := t_Mo) (j := 42) (hk := hk) (ht := ht) (ht2 := by decide) (hc := rfl) (hin := u_in_Mo) (hty := t_Mo_ok) (hnm := n_Mo) (hj := by decide) (hj2 := by decide) (hf := rfl) (hT := rfl) (hfin := rfl) (n9 := 29) (hfo := rfl) (hin2 := hnm) (hdecl := rfl) (hn := rfl) (hfit := rfl) (hw := w_1311) (hd := d_Mo_init_467) (kk := f_memF (fun F73 eF73 => ?_))
  have h := h F73 eF73
  refine f_aload_n fx 0 d_Mo_init_470 rfl rfl ?_
  refine f_ldc fx w_1267 d_Mo_init_471 ?_
  obtain ⟨h0, hz1, ht, hln, hfr, hRc, hRs, h⟩ := h
  refine f_newaB fx (n := 70000) h0 (by omega) ht hln hfr (by decide) (by decide) (by decide) w_62 hRc hRs d_Mo_init_473 ?_
  obtain ⟨hk, ht, hE, h⟩ := h
  refine f_ref hE ?_
  refine f_putS fx (T := F_Mo) (ty0 := t_Mo) (j := 44) (hk := hk) (ht := ht) (ht2 := by decide) (hc := rfl) (hin := u_in_Mo) (hty := t_Mo_ok) (hnm := n_Mo) (hj := by decide) (hj2 := by decide) (hf := rfl) (hT := rfl) (hfin := rfl) (n9 := 30) (hfo := rfl) (hin2 := hnm) (hdecl := rfl) (hn := rfl) (hfit := rfl) (hw := w_1313) (hd := d_Mo_init_475) (kk := f_memF (fun F74 eF74 => ?_))
  have h := h F74 eF74
  refine f_aload_n fx 0 d_Mo_init_478 rfl rfl ?_
  refine f_ldc fx w_1266 d_Mo_init_479 ?_
  obtain ⟨h0, hz1, ht, hln, hfr, hRc, hRs, h⟩ := h
  refine f_newaB fx (n := 56000) h0 (by omega) ht hln hfr (by decide) (by decide) (by decide) w_62 hRc hRs d_Mo_init_481 ?_
  obtain ⟨hk, ht, hE, h⟩ := h
  refine f_ref hE ?_
  refine f_putS fx (T := F_Mo) (ty0 := t_Mo) (j := 46) (hk := hk) (ht := ht) (ht2 := by decide) (hc := rfl) (hin := u_in_Mo) (hty := t_Mo_ok) (hnm := n_Mo) (hj := by decide) (hj2 := by decide) (hf := rfl) (hT := rfl) (hfin := rfl) (n9 := 31) (hfo := rfl) (hin2 := hnm) (hdecl := rfl) (hn := rfl) (hfit := rfl) (hw := w_1315) (hd := d_Mo_init_483) (kk := f_memF (fun F75 eF75 => ?_))
  have h := h F75 eF75
  refine f_aload_n fx 0 d_Mo_init_486 rfl rfl ?_
  refine f_ldc fx w_1266 d_Mo_init_487 ?_
  obtain ⟨h0, hz1, ht, hln, hfr, hRc, hRs, h⟩ := h
  refine f_newaB fx (n := 56000) h0 (by omega) ht hln hfr (by decide) (by decide) (by decide) w_62 hRc hRs d_Mo_init_489 ?_
  obtain ⟨hk, ht, hE, h⟩ := h
  refine f_ref hE ?_
  refine f_putS fx (T := F_Mo) (ty0 := t_Mo) (j := 48) (hk := hk) (ht := ht) (ht2 := by decide) (hc := rfl) (hin := u_in_Mo) (hty := t_Mo_ok) (hnm := n_Mo) (hj := by decide) (hj2 := by decide) (hf := rfl) (hT := rfl) (hfin := rfl) (n9 := 32) (hfo := rfl) (hin2 := hnm) (hdecl := rfl) (hn := rfl) (hfit := rfl) (hw := w_1317) (hd := d_Mo_init_491) (kk := f_memF (fun F76 eF76 => ?_))
  have h := h F76 eF76
  refine f_aload_n fx 0 d_Mo_init_494 rfl rfl ?_
  refine f_ldc fx w_1268 d_Mo_init_495 ?_
  obtain ⟨h0, hz1, ht, hln, hfr, hRc, hRs, h⟩ := h
  refine f_newaI fx (n := 65537) h0 (by omega) ht hln hfr (by decide) (by decide) (by decide) w_176 hRc hRs d_Mo_init_497 ?_
  obtain ⟨hk, ht, hE, h⟩ := h
  refine f_ref hE ?_
  refine f_putS fx (T := F_Mo) (ty0 := t_Mo) (j := 49) (hk := hk) (ht := ht) (ht2 := by decide) (hc := rfl) (hin := u_in_Mo) (hty := t_Mo_ok) (hnm := n_Mo) (hj := by decide) (hj2 := by decide) (hf := rfl) (hT := rfl) (hfin := rfl) (n9 := 33) (hfo := rfl) (hin2 := hnm) (hdecl := rfl) (hn := rfl) (hfit := rfl) (hw := w_1318) (hd := d_Mo_init_499) (kk := f_memF (fun F77 eF77 => ?_))
  have h := h F77 eF77
  refine f_aload_n fx 0 d_Mo_init_502 rfl rfl ?_
  refine f_ldc fx w_1268 d_Mo_init_503 ?_
  obtain ⟨h0, hz1, ht, hln, hfr, hRc, hRs, h⟩ := h
  refine f_newaI fx (n := 65537) h0 (by omega) ht hln hfr (by decide) (by decide) (by decide) w_176 hRc hRs d_Mo_init_505 ?_
  obtain ⟨hk, ht, hE, h⟩ := h
  refine f_ref hE ?_
  refine f_putS fx (T := F_Mo) (ty0 := t_Mo) (j := 50) (hk := hk) (ht := ht) (ht2 := by decide) (hc := rfl) (hin := u_in_Mo) (hty := t_Mo_ok) (hnm := n_Mo) (hj := by decide) (hj2 := by decide) (hf := rfl) (hT := rfl) (hfin := rfl) (n9 := 34) (hfo := rfl) (hin2 := hnm) (hdecl := rfl) (hn := rfl) (hfit := rfl) (hw := w_1319) (hd := d_Mo_init_507) (kk := f_memF (fun F78 eF78 => ?_))
  have h := h F78 eF78
  refine f_aload_n fx 0 d_Mo_init_510 rfl rfl ?_
  refine f_ldc fx w_1268 d_Mo_init_511 ?_
  obtain ⟨h0, hz1, ht, hln, hfr, hRc, hRs, h⟩ := h
  refine f_newaI fx (n := 65537) h0 (by omega) ht hln hfr (by decide) (by decide) (by decide) w_176 hRc hRs d_Mo_init_513 ?_
  obtain ⟨hk, ht, hE, h⟩ := h
  refine f_ref hE ?_
  refine f_putS fx (T := F_Mo) (ty0 := t_Mo) (j := 51) (hk := hk) (ht := ht) (ht2 := by decide) (hc := rfl) (hin := u_in_Mo) (hty := t_Mo_ok) (hnm := n_Mo) (hj := by decide) (hj2 := by decide) (hf := rfl) (hT := rfl) (hfin := rfl) (n9 := 35) (hfo := rfl) (hin2 := hnm) (hdecl := rfl) (hn := rfl) (hfit := rfl) (hw := w_1320) (hd := d_Mo_init_515) (kk := f_memF (fun F79 eF79 => ?_))
  have h := h F79 eF79
  refine f_aload_n fx 0 d_Mo_init_518 rfl rfl ?_
  refine f_ldc fx w_1268 d_Mo_init_519 ?_
  obtain ⟨h0, hz1, ht, hln, hfr, hRc, hRs, h⟩ := h
  refine f_newaI fx (n := 65537) h0 (by omega) ht hln hfr (by decide) (by decide) (by decide) w_176 hRc hRs d_Mo_init_521 ?_
  obtain ⟨hk, ht, hE, h⟩ := h
  refine f_ref hE ?_
  refine f_putS fx (T := F_Mo) (ty0 := t_Mo) (j := 52) (hk := hk) (ht := ht) (ht2 := by decide) (hc := rfl) (hin := u_in_Mo) (hty := t_Mo_ok) (hnm := n_Mo) (hj := by decide) (hj2 := by decide) (hf := rfl) (hT := rfl) (hfin := rfl) (n9 := 36) (hfo := rfl) (hin2 := hnm) (hdecl := rfl) (hn := rfl) (hfit := rfl) (hw := w_1321) (hd := d_Mo_init_523) (kk := f_memF (fun F80 eF80 => ?_))
  have h := h F80 eF80
  refine f_aload_n fx 0 d_Mo_init_526 rfl rfl ?_
  refine f_sipush (v := 9000) fx d_Mo_init_527 rfl ?_
  obtain ⟨h0, hz1, ht, hln, hfr, hRc, hRs, h⟩ := h
  refine f_newaB fx (n := 9000) h0 (by omega) ht hln hfr (by decide) (by decide) (by decide) w_62 hRc hRs d_Mo_init_530 ?_
  obtain ⟨hk, ht, hE, h⟩ := h
  refine f_ref hE ?_
  refine f_putS fx (T := F_Mo) (ty0 := t_Mo) (j := 60) (hk := hk) (ht := ht) (ht2 := by decide) (hc := rfl) (hin := u_in_Mo) (hty := t_Mo_ok) (hnm := n_Mo) (hj := by decide) (hj2 := by decide) (hf := rfl) (hT := rfl) (hfin := rfl) (n9 := 37) (hfo := rfl) (hin2 := hnm) (hdecl := rfl) (hn := rfl) (hfit := rfl) (hw := w_1329) (hd := d_Mo_init_532) (kk := f_memF (fun F81 eF81 => ?_))
  have h := h F81 eF81
  obtain ⟨h0, hz1, hcc, hss, h⟩ := h
  refine f_widen (mc := 37) (ms := 748745) (by omega) hss ?_
  exact f_vret fx hlo hr h0 (by omega) h d_Mo_init_535
