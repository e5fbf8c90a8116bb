/-! The machine's world as a memory: every object and array that the law makes has a place (its number in the order of making), the cell of place k is B + k. -/
abbrev zM : Type := (Nat → Nat → Int32) × (Nat → Nat → Int64) × (Nat → Nat → Nat)
def zI (M : zM) (k j : Nat) (v : Int32) : zM := (fun a => if a = k then upd (M.1 a) j v else M.1 a, M.2.1, M.2.2)
def zL (M : zM) (k j : Nat) (v : Int64) : zM := (M.1, fun a => if a = k then vp_updL (M.2.1 a) j v else M.2.1 a, M.2.2)
def zR (M : zM) (k j : Nat) (v : Nat) : zM := (M.1, M.2.1, fun a => if a = k then va_up (M.2.2 a) j v else M.2.2 a)
/-- a whole array of whole numbers laid anew -/
def zA (M : zM) (k : Nat) (f : Nat → Int32) : zM := (fun a => if a = k then f else M.1 a, M.2.1, M.2.2)
def zfvl (B : Nat) (M : zM) (t k j : Nat) : Value := match ft t j with
  | 0 => .int (M.1 k j)
  | 1 => .long (M.2.1 k j)
  | 2 => .ref (B + (k + fo t j))
  | _ => .ref (B + M.2.2 k j)
def zfvs (B : Nat) (M : zM) (t k : Nat) : List Value := (List.range (nf t)).map (zfvl B M t k)
def zcel (B : Nat) (aC : Nat → ClassId) (M : zM) (k : Nat) : va_E :=
  if tg k < 20 then .inr (tg k, zfvs B M (tg k) k) else if tg k < 23 then .inl (aC (tg k), ln k, .inl (M.1 k)) else if tg k = 23 then .inl (aC 23, ln k, .inr (.inl (M.2.1 k))) else .inl (aC 24, ln k, .inr (.inr (.inr (.inr (fun j => some (B + M.2.2 k j))))))
def zcls (B : Nat) (aC : Nat → ClassId) (M : zM) : va_W := (List.range N0).map (fun k => (B + k, zcel B aC M k))
def ztyl (aC : Nat → ClassId) : List (ClassId × FieldType) := [(aC 20, .byte), (aC 21, .int), (aC 22, .boolean), (aC 23, .long), (aC 24, .object "MailChain$Entry")]
/-- the law's own cells, those of the places -/
abbrev zAb (B : Nat) : Nat → Prop := fun q => B ≤ q ∧ q < B + N0
theorem zcls_at {B : Nat} {aC : Nat → ClassId} {M : zM} {k : Nat} (h : k < N0) : (zcls B aC M)[k]? = some (B + k, zcel B aC M k) := by
  unfold zcls
  rw [List.getElem?_map, List.getElem?_range h]
  rfl
theorem zcls_set {B : Nat} {aC : Nat → ClassId} {M M' : zM} {k : Nat} (h : k < N0) (e : va_E) (he : zcel B aC M' k = e) (ho : ∀ j, j ≠ k → zcel B aC M' j = zcel B aC M j) : (zcls B aC M).set k (B + k, e) = zcls B aC M' := by
  apply List.ext_getElem?
  intro i
  by_cases hi : i < N0
  · rw [zcls_at hi]
    by_cases hk : k = i
    · subst hk
      have hl : k < (zcls B aC M).length := by unfold zcls; rw [List.length_map, List.length_range]; exact h
      rw [List.getElem?_set_self hl, he]
    · rw [List.getElem?_set_ne hk, zcls_at hi, ho i (fun q => hk q.symm)]
  · have h1 : (zcls B aC M').length ≤ i := by unfold zcls; rw [List.length_map, List.length_range]; omega
    have h2 : ((zcls B aC M).set k (B + k, e)).length ≤ i := by rw [List.length_set]; unfold zcls; rw [List.length_map, List.length_range]; omega
    rw [List.getElem?_eq_none h1, List.getElem?_eq_none h2]
theorem zcls_key {B : Nat} {aC : Nat → ClassId} {M : zM} (i : Nat) (q : Nat × va_E) (h : (zcls B aC M)[i]? = some q) : i < N0 ∧ q = (B + i, zcel B aC M i) := by
  by_cases hi : i < N0
  · rw [zcls_at hi] at h
    cases h
    exact ⟨hi, rfl⟩
  · have h1 : (zcls B aC M).length ≤ i := by unfold zcls; rw [List.length_map, List.length_range]; omega
    rw [List.getElem?_eq_none h1] at h
    cases h
theorem zcls_D {B : Nat} {aC : Nat → ClassId} {M : zM} : va_D (zAb B) (zcls B aC M) := by
  refine ⟨fun i j p q hp hq e => ?_, fun k q hq => ?_⟩
  · have h1 := (zcls_key i p hp).2
    have h2 := (zcls_key j q hq).2
    rw [h1, h2] at e
    have e2 : B + i = B + j := e
    omega
  · obtain ⟨h0, h1⟩ := zcls_key k q hq
    rw [h1]
    exact ⟨by show B ≤ B + k; omega, by show B + k < B + N0; omega⟩
theorem zP_size {B : Nat} {D : va_G} {aC : Nat → ClassId} {M : zM} {H : Heap} (hP : va_P D kcl (zcls B aC M) H) : B + N0 ≤ H.size := by
  have h : B + (N0 - 1) < H.size := (hP (N0 - 1) _ (zcls_at (by decide))).lt
  have e : N0 = 452 := rfl
  omega
/-- the cells of the places are no class's statics -/
theorem zcls_ns {B : Nat} {D : va_G} {aC : Nat → ClassId} {M : zM} {H : Heap} (hP : va_P D kcl (zcls B aC M) H) : ∀ (q : Nat) (cell : Cell), zAb B q → H[q]? = some cell → cell.vm.isStatics = false := by
  intro q cell hq hc
  obtain ⟨k, rfl⟩ : ∃ k, q = B + k := ⟨q - B, by have := hq.1; omega⟩
  have hk : k < N0 := by have := hq.2; omega
  have h := hP k _ (zcls_at hk)
  have hv : cell.vm = .none := by
    generalize zcel B aC M k = ce at h
    cases ce with
    | inl x =>
      have h2 : H[B + k]? = some (vp_cell x.1 x.2) := h
      rw [h2] at hc
      cases hc
      obtain ⟨a, n, f | f | f | f | f⟩ := x <;> rfl
    | inr o =>
      obtain ⟨r, -, cell2, h2, -, h3, -⟩ := h
      have h2 : H[B + k]? = some cell2 := h2
      rw [h2] at hc
      cases hc
      exact h3
  rw [hv]
  rfl
theorem zfvs_at {B : Nat} {M : zM} {t k j : Nat} (h : j < nf t) : (zfvs B M t k)[j]? = some (zfvl B M t k j) := by
  unfold zfvs
  rw [List.getElem?_map, List.getElem?_range h]
  rfl
theorem zfvs_len {B : Nat} {M : zM} {t k : Nat} : (zfvs B M t k).length = nf t := by
  unfold zfvs
  rw [List.length_map, List.length_range]
theorem zfvs_set {B : Nat} {M M' : zM} {t k j : Nat} {v : Value} (h : j < nf t) (hv : zfvl B M' t k j = v) (ho : ∀ i, i ≠ j → zfvl B M' t k i = zfvl B M t k i) : (zfvs B M t k).set j v = zfvs B M' t k := by
  apply List.ext_getElem?
  intro i
  by_cases hi : i < nf t
  · rw [zfvs_at hi]
    by_cases hk : j = i
    · subst hk
      rw [List.getElem?_set_self (by rw [zfvs_len]; exact h), hv]
    · rw [List.getElem?_set_ne hk, zfvs_at hi, ho i (fun q => hk q.symm)]
  · rw [List.getElem?_eq_none (by rw [List.length_set, zfvs_len]; omega), List.getElem?_eq_none (by rw [zfvs_len]; omega)]
theorem zcel_o {B : Nat} {aC : Nat → ClassId} {M : zM} {k t : Nat} (h : tg k = t) (ht : t < 20) : zcel B aC M k = .inr (t, zfvs B M t k) := by
  subst h
  unfold zcel
  rw [if_pos ht]
theorem zcel_i {B : Nat} {aC : Nat → ClassId} {M : zM} {k t : Nat} (h : tg k = t) (h1 : ¬ t < 20) (h2 : t < 23) : zcel B aC M k = .inl (aC t, ln k, .inl (M.1 k)) := by
  subst h
  unfold zcel
  rw [if_neg h1, if_pos h2]
theorem zcel_l {B : Nat} {aC : Nat → ClassId} {M : zM} {k : Nat} (h : tg k = 23) : zcel B aC M k = .inl (aC 23, ln k, .inr (.inl (M.2.1 k))) := by
  unfold zcel
  rw [h]
  rfl
theorem zcel_r {B : Nat} {aC : Nat → ClassId} {M : zM} {k : Nat} (h : tg k = 24) : zcel B aC M k = .inl (aC 24, ln k, .inr (.inr (.inr (.inr (fun j => some (B + M.2.2 k j)))))) := by
  unfold zcel
  rw [h]
  rfl
/-- a cell depends on its own row of the memory alone -/
theorem zcel_same {B : Nat} {aC : Nat → ClassId} {M M' : zM} {k : Nat} (h1 : M'.1 k = M.1 k) (h2 : M'.2.1 k = M.2.1 k) (h3 : M'.2.2 k = M.2.2 k) : zcel B aC M' k = zcel B aC M k := by
  have hf : ∀ t, zfvs B M' t k = zfvs B M t k := by
    intro t
    unfold zfvs
    congr 1
    funext j
    unfold zfvl
    rw [h1, h2, h3]
  unfold zcel
  rw [hf, h1, h2, h3]
theorem zI_o {M : zM} {k j a : Nat} {v : Int32} (h : a ≠ k) : (zI M k j v).1 a = M.1 a := if_neg h
theorem zL_o {M : zM} {k j a : Nat} {v : Int64} (h : a ≠ k) : (zL M k j v).2.1 a = M.2.1 a := if_neg h
theorem zR_o {M : zM} {k j a v : Nat} (h : a ≠ k) : (zR M k j v).2.2 a = M.2.2 a := if_neg h
theorem zA_o {M : zM} {k a : Nat} {f : Nat → Int32} (h : a ≠ k) : (zA M k f).1 a = M.1 a := if_neg h
theorem zI_s {M : zM} {k j : Nat} {v : Int32} : (zI M k j v).1 k = upd (M.1 k) j v := if_pos rfl
theorem zL_s {M : zM} {k j : Nat} {v : Int64} : (zL M k j v).2.1 k = vp_updL (M.2.1 k) j v := if_pos rfl
theorem zR_s {M : zM} {k j v : Nat} : (zR M k j v).2.2 k = va_up (M.2.2 k) j v := if_pos rfl
theorem zA_s {M : zM} {k : Nat} {f : Nat → Int32} : (zA M k f).1 k = f := if_pos rfl
theorem zfvs_sI {B : Nat} {M : zM} {t k j : Nat} {v : Int32} (h : j < nf t) (hf : ft t j = 0) : (zfvs B M t k).set j (.int v) = zfvs B (zI M k j v) t k := by
  refine zfvs_set h ?_ (fun i hi => ?_)
  · unfold zfvl
    rw [hf, zI_s]
    show Value.int (upd (M.1 k) j v j) = _
    rw [show upd (M.1 k) j v j = v from if_pos rfl]
  · unfold zfvl
    rw [zI_s, show upd (M.1 k) j v i = M.1 k i from if_neg hi]
    rfl
theorem zfvs_sL {B : Nat} {M : zM} {t k j : Nat} {v : Int64} (h : j < nf t) (hf : ft t j = 1) : (zfvs B M t k).set j (.long v) = zfvs B (zL M k j v) t k := by
  refine zfvs_set h ?_ (fun i hi => ?_)
  · unfold zfvl
    rw [hf, zL_s]
    show Value.long (vp_updL (M.2.1 k) j v j) = _
    rw [show vp_updL (M.2.1 k) j v j = v from if_pos rfl]
  · unfold zfvl
    rw [zL_s, show vp_updL (M.2.1 k) j v i = M.2.1 k i from if_neg hi]
    rfl
theorem zfvs_sR {B : Nat} {M : zM} {t k j v : Nat} (h : j < nf t) (hf : ft t j = 3) : (zfvs B M t k).set j (.ref (B + v)) = zfvs B (zR M k j v) t k := by
  refine zfvs_set h ?_ (fun i hi => ?_)
  · unfold zfvl
    rw [hf, zR_s]
    show Value.ref (B + va_up (M.2.2 k) j v j) = _
    rw [show va_up (M.2.2 k) j v j = v from if_pos rfl]
  · unfold zfvl
    rw [zR_s, show va_up (M.2.2 k) j v i = M.2.2 k i from if_neg hi]
    rfl
/-- a class has a static field of that name; its cell is none of the places' -/
def zLs (C n d : String) (B : Nat) (U : State) : Prop := ∃ (c : ClassId) (k : Class) (i : Nat) (f : Field) (a : Nat) (cell : Cell), U.vm.findClass C = some c ∧ U.fieldFound? C n d = some (c, k, i, f) ∧ f.isStatic = true ∧ k.statics = some a ∧ U.heap[a]? = some cell ∧ cell.vm.isStatics = true ∧ cell.cls = c ∧ f.slot < cell.slots.size ∧ k.staticTypes[f.slot]? = some f.type ∧ ¬ zAb B a
theorem zLs.warm {C n d : String} {B : Nat} {s U : State} (h : zLs C n d B s) (hv : s.vm.Alike U.vm) (hq : ∀ a : Nat, a < s.heap.size → ¬ zAb B a → U.heap[a]? = s.heap[a]?) : zLs C n d B U := by
  obtain ⟨c, k, i, f, a, cell, h1, h2, h3, h4, h5, h6, h7, h8, h9, h10⟩ := h
  obtain ⟨k', hi', he⟩ := State.fieldFound?_setVm hv h2
  exact ⟨c, k', i, f, a, cell, by rw [hv.findClass]; exact h1, hi', h3, by rw [he]; exact h4, by rw [hq a (Array.getElem?_eq_some_iff.mp h5).1 h10]; exact h5, h6, h7, h8, by rw [he]; exact h9, h10⟩
theorem zLs.use {C n d : String} {B : Nat} {U : State} {args : Array Value} (h : zLs C n d B U) : (Cond.laysStatic C n d).before args U = true := by
  obtain ⟨c, k, i, f, a, cell, h1, h2, h3, h4, h5, h6, h7, h8, h9, h10⟩ := h
  exact Cond.laysStatic_of h1 h2 h3 h4 h5 h6 h7 h8 h9
/-- the tables at a state: classes, array classes; statics and texts below the law's own cells -/
def zSx (B : Nat) (aS : Nat → Nat) (U : State) : Prop :=
  (∃ t : Nat, va_Z "MailChain$Row" "REMAINDERS" "[I" (.ref t) (zAb B) U U.heap ∧ va_T .int t 16 (fun j => .int (remL.getD j 0)) (zAb B) U U.heap) ∧
  vk_S 9 strLen strByt aS (fun i => aS (100 + i)) (zAb B) U U.heap ∧ (∀ i, i < 13 → vk_R (strOwn i) (strIx i) (strTx i) (aS (strNo i)) U) ∧
  va_Z "java/lang/String" "COMPACT_STRINGS" "Z" (.int 1) (zAb B) U U.heap ∧
  va_Zq "java/lang/Throwable" "UNASSIGNED_STACK" "[Ljava/lang/StackTraceElement;" (zAb B) U U.heap ∧ va_Zq "java/lang/Throwable" "SUPPRESSED_SENTINEL" "Ljava/util/List;" (zAb B) U U.heap ∧ va_Zq "jdk/internal/util/Preconditions" "SIOOBE_FORMATTER" "Ljava/util/function/BiFunction;" (zAb B) U U.heap ∧
  (∀ q ∈ nestF, va_Nw (.fieldLinkNest q.1 q.2.1 q.2.2.1 q.2.2.2.1 q.2.2.2.2.1 q.2.2.2.2.2) U) ∧ (∀ q ∈ nestM, va_Nw (.methodLinkNest q.1 q.2.1 q.2.2.1 q.2.2.2) U) ∧ (∀ k, 1 ≤ k → k ≤ 4 → va_Nw (.castable (exN k) (exN k)) U) ∧ (∀ q ∈ neL, va_Nc (exN q.1) (exN q.2) U) ∧ (∀ q ∈ chainL, va_Nw (.declares ⟨q, "<init>", "()V"⟩) U) ∧ zLs "java/lang/Throwable" "UNASSIGNED_STACK" "[Ljava/lang/StackTraceElement;" B U ∧ zLs "java/lang/Throwable" "SUPPRESSED_SENTINEL" "Ljava/util/List;" B U
theorem zSx.warm {B : Nat} {aS : Nat → Nat} {s U : State} (h : zSx B aS s) (hW : s.WarmedH U.vm) (hq : ∀ a : Nat, a < s.heap.size → ¬ zAb B a → U.heap[a]? = s.heap[a]?) : zSx B aS U := by
  obtain ⟨⟨t, h1, h2⟩, h3, h4, h5, h6, h7, h10, h8, h9, h11, h12, h13, h14, h15⟩ := h
  have hv := hW.alike
  exact ⟨⟨t, (h1.kept hq).moved hv, (h2.kept hq).moved hv⟩, (h3.kept hq).moved hv, fun i hi => (h4 i hi).warm hW, (h5.kept hq).moved hv, (h6.kept hq).moved hv, (h7.kept hq).moved hv, (h10.kept hq).moved hv, fun q hq => (h8 q hq).warmF hW, fun q hq => (h9 q hq).warmM hW, fun k h1 h2 => (h11 k h1 h2).warmC hW, fun q hq => (h12 q hq).moved hv, fun q hq => (h13 q hq).warmD hW, h14.warm hv hq, h15.warm hv hq⟩
theorem zSx.blind {B : Nat} {aS : Nat → Nat} {U : State} {g : JFrame} {mk : MethodId} {a : Array Value} (h : zSx B aS U) : zSx B aS (U.calling g mk a) := by
  obtain ⟨⟨t, h1, h2⟩, h3, h4, h5, h6, h7, h10, h8, h9, h11, h12, h13, h14, h15⟩ := h
  have hv : U.vm.Alike (U.calling g mk a).vm := Vm.Alike.refl U.vm
  exact ⟨⟨t, h1.moved hv, h2.moved hv⟩, h3.moved hv, fun i hi => (h4 i hi).same rfl, h5.moved hv, h6.moved hv, h7.moved hv, h10.moved hv, fun q hq => (h8 q hq).same rfl rfl, fun q hq => (h9 q hq).same rfl rfl, fun k h1 h2 => (h11 k h1 h2).same rfl rfl, fun q hq => (h12 q hq).moved hv, fun q hq => (h13 q hq).same rfl rfl, h14.warm hv (fun _ _ _ => rfl), h15.warm hv (fun _ _ _ => rfl)⟩
def zCx (B : Nat) (D : va_G) (aC : Nat → ClassId) (aS : Nat → Nat) (U : State) : Prop := va_K D kcl (ztyl aC) U ∧ zSx B aS U
/-- what holds at a method's start -/
def zWl (B : Nat) (D : va_G) (aC : Nat → ClassId) (aS : Nat → Nat) (M : zM) (U : State) : Prop := va_P D kcl (zcls B aC M) U.heap ∧ B + N0 ≤ U.heap.size ∧ zCx B D aC aS U
theorem zWl.blind {B : Nat} {D : va_G} {aC : Nat → ClassId} {aS : Nat → Nat} {M : zM} {U : State} {g : JFrame} {mk : MethodId} {a : Array Value} (h : zWl B D aC aS M U) : zWl B D aC aS M (U.calling g mk a) :=
  ⟨h.1, h.2.1, va_K.moved (u := U) (U := U.calling g mk a) (Vm.Alike.refl U.vm) h.2.2.1, h.2.2.2.blind⟩
/-- behind a method: the answer, the memory -/
def zQv (B : Nat) (D : va_G) (aC : Nat → ClassId) (post : zM → Prop) : Array Value → State → Outcome → State → Prop := fun _ st oc t => ∃ M, oc = .returned none ∧ post M ∧ va_P D kcl (zcls B aC M) t.heap ∧ va_F (zAb B) st t
def zQi (B : Nat) (D : va_G) (aC : Nat → ClassId) (post : Int32 → zM → Prop) : Array Value → State → Outcome → State → Prop := fun _ st oc t => ∃ r M, oc = .returned (some (.int r)) ∧ post r M ∧ va_P D kcl (zcls B aC M) t.heap ∧ va_F (zAb B) st t
def zQl (B : Nat) (D : va_G) (aC : Nat → ClassId) (post : Int64 → zM → Prop) : Array Value → State → Outcome → State → Prop := fun _ st oc t => ∃ r M, oc = .returned (some (.long r)) ∧ post r M ∧ va_P D kcl (zcls B aC M) t.heap ∧ va_F (zAb B) st t
def zQr (B : Nat) (D : va_G) (aC : Nat → ClassId) (post : Nat → zM → Prop) : Array Value → State → Outcome → State → Prop := fun _ st oc t => ∃ r M, oc = .returned (some (.ref (B + r))) ∧ post r M ∧ va_P D kcl (zcls B aC M) t.heap ∧ va_F (zAb B) st t
