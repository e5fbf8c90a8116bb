/-! The machine's world as a memory: every object and array that the law makes has a place (its number in the order of making), the cell of place k is B + k. -/
abbrev Mm : Type := (Nat → Nat → Int32) × (Nat → Nat → Int64) × (Nat → Nat → Nat)
def sI (M : Mm) (k j : Nat) (v : Int32) : Mm := (fun a => if a = k then upd (M.1 a) j v else M.1 a, M.2.1, M.2.2)
def sL (M : Mm) (k j : Nat) (v : Int64) : Mm := (M.1, fun a => if a = k then vp_updL (M.2.1 a) j v else M.2.1 a, M.2.2)
def sR (M : Mm) (k j : Nat) (v : Nat) : Mm := (M.1, M.2.1, fun a => if a = k then va_up (M.2.2 a) j v else M.2.2 a)
/-- a whole array of whole numbers laid anew -/
def sA (M : Mm) (k : Nat) (f : Nat → Int32) : Mm := (fun a => if a = k then f else M.1 a, M.2.1, M.2.2)
def fvl (B : Nat) (M : Mm) (t k j : Nat) : Value := match ft t j with
  | 0 => .int (M.1 k j)
  | 1 => .long (M.2.1 k j)
  | 2 => .ref (B + (k + fo t j))
  | _ => .ref (B + M.2.2 k j)
def fvs (B : Nat) (M : Mm) (t k : Nat) : List Value := (List.range (nf t)).map (fvl B M t k)
def cel (B : Nat) (aC : Nat → ClassId) (M : Mm) (k : Nat) : va_E :=
  if tg k < 20 then .inr (tg k, fvs B M (tg k) k) else if tg k < 23 then .inl (aC (tg k), ln k, .inl (M.1 k)) else if tg k = 23 then .inl (aC 23, ln k, .inr (.inl (M.2.1 k))) else .inl (aC 24, ln k, .inr (.inr (.inr (.inr (fun j => some (B + M.2.2 k j))))))
def cls (B : Nat) (aC : Nat → ClassId) (M : Mm) : va_W := (List.range N0).map (fun k => (B + k, cel B aC M k))
def tyl (aC : Nat → ClassId) : List (ClassId × FieldType) := [(aC 20, .byte), (aC 21, .int), (aC 22, .boolean), (aC 23, .long), (aC 24, .object "MailChain$Entry")]
abbrev Ab (B : Nat) : Nat → Prop := fun q => B ≤ q
theorem cls_at {B : Nat} {aC : Nat → ClassId} {M : Mm} {k : Nat} (h : k < N0) : (cls B aC M)[k]? = some (B + k, cel B aC M k) := by
  unfold cls
  rw [List.getElem?_map, List.getElem?_range h]
  rfl
theorem cls_set {B : Nat} {aC : Nat → ClassId} {M M' : Mm} {k : Nat} (h : k < N0) (e : va_E) (he : cel B aC M' k = e) (ho : ∀ j, j ≠ k → cel B aC M' j = cel B aC M j) : (cls B aC M).set k (B + k, e) = cls B aC M' := by
  apply List.ext_getElem?
  intro i
  by_cases hi : i < N0
  · rw [cls_at hi]
    by_cases hk : k = i
    · subst hk
      have hl : k < (cls B aC M).length := by unfold cls; rw [List.length_map, List.length_range]; exact h
      rw [List.getElem?_set_self hl, he]
    · rw [List.getElem?_set_ne hk, cls_at hi, ho i (fun q => hk q.symm)]
  · have h1 : (cls B aC M').length ≤ i := by unfold cls; rw [List.length_map, List.length_range]; omega
    have h2 : ((cls B aC M).set k (B + k, e)).length ≤ i := by rw [List.length_set]; unfold cls; rw [List.length_map, List.length_range]; omega
    rw [List.getElem?_eq_none h1, List.getElem?_eq_none h2]
theorem cls_D {B : Nat} {aC : Nat → ClassId} {M : Mm} : va_D (Ab B) (cls B aC M) := by
  have key : ∀ (i : Nat) (q : Nat × va_E), (cls B aC M)[i]? = some q → q.1 = B + i := by
    intro i q h
    by_cases hi : i < N0
    · rw [cls_at hi] at h
      cases h
      rfl
    · have h1 : (cls B aC M).length ≤ i := by unfold cls; rw [List.length_map, List.length_range]; omega
      rw [List.getElem?_eq_none h1] at h
      cases h
  refine ⟨fun i j p q hp hq e => ?_, fun k q hq => ?_⟩
  · have h1 := key i p hp
    have h2 := key j q hq
    omega
  · have h1 := key k q hq
    show B ≤ q.1
    omega
theorem fvs_at {B : Nat} {M : Mm} {t k j : Nat} (h : j < nf t) : (fvs B M t k)[j]? = some (fvl B M t k j) := by
  unfold fvs
  rw [List.getElem?_map, List.getElem?_range h]
  rfl
theorem fvs_len {B : Nat} {M : Mm} {t k : Nat} : (fvs B M t k).length = nf t := by
  unfold fvs
  rw [List.length_map, List.length_range]
theorem fvs_set {B : Nat} {M M' : Mm} {t k j : Nat} {v : Value} (h : j < nf t) (hv : fvl B M' t k j = v) (ho : ∀ i, i ≠ j → fvl B M' t k i = fvl B M t k i) : (fvs B M t k).set j v = fvs B M' t k := by
  apply List.ext_getElem?
  intro i
  by_cases hi : i < nf t
  · rw [fvs_at hi]
    by_cases hk : j = i
    · subst hk
      rw [List.getElem?_set_self (by rw [fvs_len]; exact h), hv]
    · rw [List.getElem?_set_ne hk, fvs_at hi, ho i (fun q => hk q.symm)]
  · rw [List.getElem?_eq_none (by rw [List.length_set, fvs_len]; omega), List.getElem?_eq_none (by rw [fvs_len]; omega)]
theorem cel_o {B : Nat} {aC : Nat → ClassId} {M : Mm} {k t : Nat} (h : tg k = t) (ht : t < 20) : cel B aC M k = .inr (t, fvs B M t k) := by
  subst h
  unfold cel
  rw [if_pos ht]
theorem cel_i {B : Nat} {aC : Nat → ClassId} {M : Mm} {k t : Nat} (h : tg k = t) (h1 : ¬ t < 20) (h2 : t < 23) : cel B aC M k = .inl (aC t, ln k, .inl (M.1 k)) := by
  subst h
  unfold cel
  rw [if_neg h1, if_pos h2]
theorem cel_l {B : Nat} {aC : Nat → ClassId} {M : Mm} {k : Nat} (h : tg k = 23) : cel B aC M k = .inl (aC 23, ln k, .inr (.inl (M.2.1 k))) := by
  unfold cel
  rw [h]
  rfl
theorem cel_r {B : Nat} {aC : Nat → ClassId} {M : Mm} {k : Nat} (h : tg k = 24) : cel B aC M k = .inl (aC 24, ln k, .inr (.inr (.inr (.inr (fun j => some (B + M.2.2 k j)))))) := by
  unfold cel
  rw [h]
  rfl
/-- a cell depends on its own row of the memory alone -/
theorem cel_same {B : Nat} {aC : Nat → ClassId} {M M' : Mm} {k : Nat} (h1 : M'.1 k = M.1 k) (h2 : M'.2.1 k = M.2.1 k) (h3 : M'.2.2 k = M.2.2 k) : cel B aC M' k = cel B aC M k := by
  have hf : ∀ t, fvs B M' t k = fvs B M t k := by
    intro t
    unfold fvs
    congr 1
    funext j
    unfold fvl
    rw [h1, h2, h3]
  unfold cel
  rw [hf, h1, h2, h3]
theorem sI_o {M : Mm} {k j a : Nat} {v : Int32} (h : a ≠ k) : (sI M k j v).1 a = M.1 a := if_neg h
theorem sL_o {M : Mm} {k j a : Nat} {v : Int64} (h : a ≠ k) : (sL M k j v).2.1 a = M.2.1 a := if_neg h
theorem sR_o {M : Mm} {k j a v : Nat} (h : a ≠ k) : (sR M k j v).2.2 a = M.2.2 a := if_neg h
theorem sA_o {M : Mm} {k a : Nat} {f : Nat → Int32} (h : a ≠ k) : (sA M k f).1 a = M.1 a := if_neg h
theorem sI_s {M : Mm} {k j : Nat} {v : Int32} : (sI M k j v).1 k = upd (M.1 k) j v := if_pos rfl
theorem sL_s {M : Mm} {k j : Nat} {v : Int64} : (sL M k j v).2.1 k = vp_updL (M.2.1 k) j v := if_pos rfl
theorem sR_s {M : Mm} {k j v : Nat} : (sR M k j v).2.2 k = va_up (M.2.2 k) j v := if_pos rfl
theorem sA_s {M : Mm} {k : Nat} {f : Nat → Int32} : (sA M k f).1 k = f := if_pos rfl
theorem fvs_sI {B : Nat} {M : Mm} {t k j : Nat} {v : Int32} (h : j < nf t) (hf : ft t j = 0) : (fvs B M t k).set j (.int v) = fvs B (sI M k j v) t k := by
  refine fvs_set h ?_ (fun i hi => ?_)
  · unfold fvl
    rw [hf, sI_s]
    show Value.int (upd (M.1 k) j v j) = _
    rw [show upd (M.1 k) j v j = v from if_pos rfl]
  · unfold fvl
    rw [sI_s, show upd (M.1 k) j v i = M.1 k i from if_neg hi]
    rfl
theorem fvs_sL {B : Nat} {M : Mm} {t k j : Nat} {v : Int64} (h : j < nf t) (hf : ft t j = 1) : (fvs B M t k).set j (.long v) = fvs B (sL M k j v) t k := by
  refine fvs_set h ?_ (fun i hi => ?_)
  · unfold fvl
    rw [hf, sL_s]
    show Value.long (vp_updL (M.2.1 k) j v j) = _
    rw [show vp_updL (M.2.1 k) j v j = v from if_pos rfl]
  · unfold fvl
    rw [sL_s, show vp_updL (M.2.1 k) j v i = M.2.1 k i from if_neg hi]
    rfl
theorem fvs_sR {B : Nat} {M : Mm} {t k j v : Nat} (h : j < nf t) (hf : ft t j = 3) : (fvs B M t k).set j (.ref (B + v)) = fvs B (sR M k j v) t k := by
  refine fvs_set h ?_ (fun i hi => ?_)
  · unfold fvl
    rw [hf, sR_s]
    show Value.ref (B + va_up (M.2.2 k) j v j) = _
    rw [show va_up (M.2.2 k) j v j = v from if_pos rfl]
  · unfold fvl
    rw [sR_s, show va_up (M.2.2 k) j v i = M.2.2 k i from if_neg hi]
    rfl
/-- the tables at a state: classes, array classes; statics and texts below the law's own cells -/
def Sx (B : Nat) (aS : Nat → Nat) (U : State) : Prop :=
  (∃ t : Nat, va_Z "MailChain$Row" "REMAINDERS" "[I" (.ref t) (Ab B) U U.heap ∧ va_T .int t 16 (fun j => .int (remL.getD j 0)) (Ab B) U U.heap) ∧
  (∃ aV : Nat → Nat, vk_S 9 strLen strByt aS aV (Ab B) U U.heap) ∧ (∀ i, i < 13 → vk_R (strOwn i) (strIx i) (strTx i) (aS (strNo i)) U) ∧
  va_Z "java/lang/String" "COMPACT_STRINGS" "Z" (.int 1) (Ab B) U U.heap ∧
  va_Zq "java/lang/Throwable" "UNASSIGNED_STACK" "[Ljava/lang/StackTraceElement;" (Ab B) U U.heap ∧ va_Zq "java/lang/Throwable" "SUPPRESSED_SENTINEL" "Ljava/util/List;" (Ab B) U U.heap ∧
  (∀ q ∈ nestF, va_Nw (.fieldLinkNest q.1 q.2.1 q.2.2.1 q.2.2.2.1 q.2.2.2.2.1 q.2.2.2.2.2) U) ∧ (∀ q ∈ nestM, va_Nw (.methodLinkNest q.1 q.2.1 q.2.2.1 q.2.2.2) U)
theorem Sx.warm {B : Nat} {aS : Nat → Nat} {s U : State} (h : Sx B aS s) (hW : s.WarmedH U.vm) (hq : ∀ a : Nat, a < s.heap.size → ¬ Ab B a → U.heap[a]? = s.heap[a]?) : Sx B aS U := by
  obtain ⟨⟨t, h1, h2⟩, ⟨aV, h3⟩, h4, h5, h6, h7, h8, h9⟩ := h
  have hv := hW.alike
  exact ⟨⟨t, (h1.kept hq).moved hv, (h2.kept hq).moved hv⟩, ⟨aV, (h3.kept hq).moved hv⟩, fun i hi => (h4 i hi).warm hW, (h5.kept hq).moved hv, (h6.kept hq).moved hv, (h7.kept hq).moved hv, fun q hq => (h8 q hq).warmF hW, fun q hq => (h9 q hq).warmM hW⟩
theorem Sx.blind {B : Nat} {aS : Nat → Nat} {U : State} {g : JFrame} {mk : MethodId} {a : Array Value} (h : Sx B aS U) : Sx B aS (U.calling g mk a) := by
  obtain ⟨⟨t, h1, h2⟩, ⟨aV, h3⟩, h4, h5, h6, h7, h8, h9⟩ := h
  have hv : U.vm.Alike (U.calling g mk a).vm := Vm.Alike.refl U.vm
  exact ⟨⟨t, h1.moved hv, h2.moved hv⟩, ⟨aV, h3.moved hv⟩, fun i hi => (h4 i hi).same rfl, h5.moved hv, h6.moved hv, h7.moved hv, fun q hq => (h8 q hq).same rfl rfl, fun q hq => (h9 q hq).same rfl rfl⟩
def Cx (B : Nat) (D : va_G) (aC : Nat → ClassId) (aS : Nat → Nat) (U : State) : Prop := va_K D kcl (tyl aC) U ∧ Sx B aS U
/-- what holds at a method's start -/
def Wl (B : Nat) (D : va_G) (aC : Nat → ClassId) (aS : Nat → Nat) (M : Mm) (U : State) : Prop := va_P D kcl (cls B aC M) U.heap ∧ B + N0 ≤ U.heap.size ∧ Cx B D aC aS U
theorem Wl.blind {B : Nat} {D : va_G} {aC : Nat → ClassId} {aS : Nat → Nat} {M : Mm} {U : State} {g : JFrame} {mk : MethodId} {a : Array Value} (h : Wl B D aC aS M U) : Wl B D aC aS M (U.calling g mk a) :=
  ⟨h.1, h.2.1, va_K.moved (u := U) (U := U.calling g mk a) (Vm.Alike.refl U.vm) h.2.2.1, h.2.2.2.blind⟩
/-- behind a method: the answer, the memory -/
def Qv (B : Nat) (D : va_G) (aC : Nat → ClassId) (post : Mm → Prop) : Array Value → State → Outcome → State → Prop := fun _ st oc t => ∃ M, oc = .returned none ∧ post M ∧ va_P D kcl (cls B aC M) t.heap ∧ va_F (Ab B) st t
def Qi (B : Nat) (D : va_G) (aC : Nat → ClassId) (post : Int32 → Mm → Prop) : Array Value → State → Outcome → State → Prop := fun _ st oc t => ∃ r M, oc = .returned (some (.int r)) ∧ post r M ∧ va_P D kcl (cls B aC M) t.heap ∧ va_F (Ab B) st t
def Ql (B : Nat) (D : va_G) (aC : Nat → ClassId) (post : Int64 → Mm → Prop) : Array Value → State → Outcome → State → Prop := fun _ st oc t => ∃ r M, oc = .returned (some (.long r)) ∧ post r M ∧ va_P D kcl (cls B aC M) t.heap ∧ va_F (Ab B) st t
def Qr (B : Nat) (D : va_G) (aC : Nat → ClassId) (post : Nat → Mm → Prop) : Array Value → State → Outcome → State → Prop := fun _ st oc t => ∃ r M, oc = .returned (some (.ref (B + r))) ∧ post r M ∧ va_P D kcl (cls B aC M) t.heap ∧ va_F (Ab B) st t
