/-! Construction: the places come one by one; a reference field or element is null until it is laid (F k j = true). -/
abbrev zFl : Type := Nat → Nat → Bool
def yset (F : zFl) (k j : Nat) : zFl := fun a b => if a = k ∧ b = j then false else F a b
def yfvl (B : Nat) (M : zM) (F : zFl) (t k j : Nat) : Value := match ft t j with
  | 0 => .int (M.1 k j)
  | 1 => .long (M.2.1 k j)
  | 2 => if F k j then .null else .ref (B + (k + fo t j))
  | _ => if F k j then .null else .ref (B + M.2.2 k j)
def yfvs (B : Nat) (M : zM) (F : zFl) (t k : Nat) : List Value := (List.range (nf t)).map (yfvl B M F t k)
def ycel (B : Nat) (aC : Nat → ClassId) (M : zM) (F : zFl) (k : Nat) : va_E :=
  if tg k < 20 then .inr (tg k, yfvs B M F (tg k) k) else if tg k < 23 then .inl (aC (tg k), ln k, .inl (M.1 k)) else if tg k = 23 then .inl (aC 23, ln k, .inr (.inl (M.2.1 k))) else .inl (aC 24, ln k, .inr (.inr (.inr (.inr (fun j => if F k j then none else some (B + M.2.2 k j))))))
def ycls (B : Nat) (aC : Nat → ClassId) (N : Nat) (M : zM) (F : zFl) : va_W := (List.range N).map (fun k => (B + k, ycel B aC M F k))
abbrev yAb (B : Nat) : Nat → Prop := fun q => B ≤ q
theorem ycls_at {B : Nat} {aC : Nat → ClassId} {N : Nat} {M : zM} {F : zFl} {k : Nat} (h : k < N) : (ycls B aC N M F)[k]? = some (B + k, ycel B aC M F k) := by
  unfold ycls
  rw [List.getElem?_map, List.getElem?_range h]
  rfl
theorem ycls_len {B : Nat} {aC : Nat → ClassId} {N : Nat} {M : zM} {F : zFl} : (ycls B aC N M F).length = N := by
  unfold ycls
  rw [List.length_map, List.length_range]
theorem ycls_set {B : Nat} {aC : Nat → ClassId} {N : Nat} {M M' : zM} {F F' : zFl} {k : Nat} (h : k < N) (e : va_E) (he : ycel B aC M' F' k = e) (ho : ∀ j, j ≠ k → ycel B aC M' F' j = ycel B aC M F j) : (ycls B aC N M F).set k (B + k, e) = ycls B aC N M' F' := by
  apply List.ext_getElem?
  intro i
  by_cases hi : i < N
  · rw [ycls_at hi]
    by_cases hk : k = i
    · subst hk
      rw [List.getElem?_set_self (by rw [ycls_len]; exact h), he]
    · rw [List.getElem?_set_ne hk, ycls_at hi, ho i (fun q => hk q.symm)]
  · rw [List.getElem?_eq_none (by rw [List.length_set, ycls_len]; omega), List.getElem?_eq_none (by rw [ycls_len]; omega)]
theorem ycls_D {B : Nat} {aC : Nat → ClassId} {N : Nat} {M : zM} {F : zFl} : va_D (yAb B) (ycls B aC N M F) := by
  have key : ∀ (i : Nat) (q : Nat × va_E), (ycls B aC N M F)[i]? = some q → q.1 = B + i := by
    intro i q h
    by_cases hi : i < N
    · rw [ycls_at hi] at h
      cases h
      rfl
    · rw [List.getElem?_eq_none (by rw [ycls_len]; omega)] at h
      cases h
  refine ⟨fun i j p q hp hq e => ?_, fun k q hq => ?_⟩
  · have h1 := key i p hp
    have h2 := key j q hq
    omega
  · have h1 := key k q hq
    show B ≤ q.1
    omega
theorem yfvs_at {B : Nat} {M : zM} {F : zFl} {t k j : Nat} (h : j < nf t) : (yfvs B M F t k)[j]? = some (yfvl B M F t k j) := by
  unfold yfvs
  rw [List.getElem?_map, List.getElem?_range h]
  rfl
theorem yfvs_len {B : Nat} {M : zM} {F : zFl} {t k : Nat} : (yfvs B M F t k).length = nf t := by
  unfold yfvs
  rw [List.length_map, List.length_range]
theorem yfvs_set {B : Nat} {M M' : zM} {F F' : zFl} {t k j : Nat} {v : Value} (h : j < nf t) (hv : yfvl B M' F' t k j = v) (ho : ∀ i, i ≠ j → yfvl B M' F' t k i = yfvl B M F t k i) : (yfvs B M F t k).set j v = yfvs B M' F' t k := by
  apply List.ext_getElem?
  intro i
  by_cases hi : i < nf t
  · rw [yfvs_at hi]
    by_cases hk : j = i
    · subst hk
      rw [List.getElem?_set_self (by rw [yfvs_len]; exact h), hv]
    · rw [List.getElem?_set_ne hk, yfvs_at hi, ho i (fun q => hk q.symm)]
  · rw [List.getElem?_eq_none (by rw [List.length_set, yfvs_len]; omega), List.getElem?_eq_none (by rw [yfvs_len]; omega)]
theorem ycel_o {B : Nat} {aC : Nat → ClassId} {M : zM} {F : zFl} {k t : Nat} (h : tg k = t) (ht : t < 20) : ycel B aC M F k = .inr (t, yfvs B M F t k) := by
  subst h
  unfold ycel
  rw [if_pos ht]
theorem ycel_i {B : Nat} {aC : Nat → ClassId} {M : zM} {F : zFl} {k t : Nat} (h : tg k = t) (h1 : ¬ t < 20) (h2 : t < 23) : ycel B aC M F k = .inl (aC t, ln k, .inl (M.1 k)) := by
  subst h
  unfold ycel
  rw [if_neg h1, if_pos h2]
theorem ycel_l {B : Nat} {aC : Nat → ClassId} {M : zM} {F : zFl} {k : Nat} (h : tg k = 23) : ycel B aC M F k = .inl (aC 23, ln k, .inr (.inl (M.2.1 k))) := by
  unfold ycel
  rw [h]
  rfl
theorem ycel_r {B : Nat} {aC : Nat → ClassId} {M : zM} {F : zFl} {k : Nat} (h : tg k = 24) : ycel B aC M F k = .inl (aC 24, ln k, .inr (.inr (.inr (.inr (fun j => if F k j then none else some (B + M.2.2 k j)))))) := by
  unfold ycel
  rw [h]
  rfl
theorem ycel_same {B : Nat} {aC : Nat → ClassId} {M M' : zM} {F F' : zFl} {k : Nat} (h1 : M'.1 k = M.1 k) (h2 : M'.2.1 k = M.2.1 k) (h3 : M'.2.2 k = M.2.2 k) (h4 : F' k = F k) : ycel B aC M' F' k = ycel B aC M F k := by
  have hf : ∀ t, yfvs B M' F' t k = yfvs B M F t k := by
    intro t
    unfold yfvs
    congr 1
    funext j
    unfold yfvl
    rw [h1, h2, h3, h4]
  unfold ycel
  rw [hf, h1, h2, h3, h4]
theorem yset_o {F : zFl} {k j a : Nat} (h : a ≠ k) : yset F k j a = F a := by
  funext b
  exact if_neg (fun q => h q.1)
theorem yset_n {F : zFl} {k j b : Nat} (h : b ≠ j) : yset F k j k b = F k b := if_neg (fun q => h q.2)
theorem yset_s {F : zFl} {k j : Nat} : yset F k j k j = false := if_pos ⟨rfl, rfl⟩
/-- the built memory is the memory -/
theorem y_done {B : Nat} {aC : Nat → ClassId} {M : zM} {F : zFl} (h : ∀ k, k < N0 → ∀ j, F k j = false) : ycls B aC N0 M F = zcls B aC M := by
  unfold ycls zcls
  apply List.map_congr_left
  intro k hk
  have hF := h k (List.mem_range.mp hk)
  have hf : ∀ t, yfvs B M F t k = zfvs B M t k := by
    intro t
    unfold yfvs zfvs
    congr 1
    funext j
    unfold yfvl zfvl
    rw [hF j]
    rfl
  unfold ycel zcel
  rw [hf]
  have e : (fun j => if F k j = true then none else some (B + M.2.2 k j)) = fun j => some (B + M.2.2 k j) := by
    funext j
    rw [hF j]
    rfl
  rw [e]
def yWl (B : Nat) (D : va_G) (aC : Nat → ClassId) (aS : Nat → Nat) (N : Nat) (M : zM) (F : zFl) (U : State) : Prop := va_P D kcl (ycls B aC N M F) U.heap ∧ U.heap.size = B + N ∧ N ≤ N0 ∧ zCx B D aC aS U ∧ va_AO "MailChain$Entry" U
theorem yWl.blind {B : Nat} {D : va_G} {aC : Nat → ClassId} {aS : Nat → Nat} {N : Nat} {M : zM} {F : zFl} {U : State} {g : JFrame} {mk : MethodId} {a : Array Value} (h : yWl B D aC aS N M F U) : yWl B D aC aS N M F (U.calling g mk a) :=
  ⟨h.1, h.2.1, h.2.2.1, ⟨va_K.moved (u := U) (U := U.calling g mk a) (Vm.Alike.refl U.vm) h.2.2.2.1.1, h.2.2.2.1.2.blind⟩, va_AO.moved (u := U) (U := U.calling g mk a) (Vm.Alike.refl U.vm) h.2.2.2.2⟩
def yQ (B : Nat) (D : va_G) (aC : Nat → ClassId) (post : Nat → zM → zFl → Prop) : Array Value → State → Outcome → State → Prop := fun _ st oc t => ∃ N M F, oc = .returned none ∧ post N M F ∧ va_P D kcl (ycls B aC N M F) t.heap ∧ t.heap.size = B + N ∧ va_F (yAb B) st t
def yAt (p : Program) (l : Launch) (e : Env) (R : Room) (s : State) (m : MethodId) (args : Array Value) (below : List Frame) (meth : Method) (c : Code) (cells slots : Nat) (Q : State → Prop) (B : Nat) (D : va_G) (aC : Nat → ClassId) (nL : Nat) (pc : Nat) (lv : List (Nat × Value)) (st : List Value) (N : Nat) (M : zM) (F : zFl) : Prop :=
  ∀ (H : Heap) (locs : List Loc) (ls : Array Slot), va_P D kcl (ycls B aC N M F) H → lv_has ls nL lv → va_S (yAb B) s.heap H locs → W p l e R s m args below meth c H locs cells slots Q (F0 m pc ls st)
def yFx (p : Program) (s : State) (m : MethodId) (args : Array Value) (c : Code) (B : Nat) (D : va_G) (aC : Nat → ClassId) (aS : Nat → Nat) (nL : Nat) (cc : ByteArray) (own : String) : Prop :=
  p.tables.exec = Jvm.exec ∧ c.code = cc ∧ c.maxLocals = nL ∧ s.vm.findClass own = some m.cls ∧ (∀ w ∈ tb, w.before args s = true) ∧ zCx B D aC aS s ∧ B ≤ s.heap.size ∧ va_AO "MailChain$Entry" s
section CTOR
variable {p : Program} {l : Launch} {e : Env} {R : Room} {s : State} {m : MethodId} {args : Array Value} {below : List Frame} {meth : Method} {c : Code} {cells slots mc ms : Nat} {Q : State → Prop} {B : Nat} {D : va_G} {aC : Nat → ClassId} {aS : Nat → Nat} {nL : Nat} {cc : ByteArray} {own : String} {pc : Nat} {lv lv2 : List (Nat × Value)} {st rest st0 : List Value} {N : Nat} {M : zM} {F : zFl}
theorem f_iconst (fx : yFx p s m args c B D aC aS nL cc own) {n : Int} {v : Int32} (hd : decode cc pc = .ok (.iconst n, 1)) (hv : Int32.ofInt n = v) (k : yAt p l e R s m args below meth c cells slots Q B D aC nL (pc + 1) lv (.int v :: st) N M F) : yAt p l e R s m args below meth c cells slots Q B D aC nL pc lv (st) N M F := fun H locs ls hP hl hS => lv_iconst fx.1 fx.2.1 hd hv (k H locs ls hP hl hS)
theorem f_bipush (fx : yFx p s m args c B D aC aS nL cc own) {n : Int} {v : Int32} (hd : decode cc pc = .ok (.bipush n, 2)) (hv : (Int8.ofInt n).toInt32 = v) (k : yAt p l e R s m args below meth c cells slots Q B D aC nL (pc + 2) lv (.int v :: st) N M F) : yAt p l e R s m args below meth c cells slots Q B D aC nL pc lv (st) N M F := fun H locs ls hP hl hS => lv_bipush fx.1 fx.2.1 hd hv (k H locs ls hP hl hS)
theorem f_sipush (fx : yFx p s m args c B D aC aS nL cc own) {n : Int} {v : Int32} (hd : decode cc pc = .ok (.sipush n, 3)) (hv : (Int16.ofInt n).toInt32 = v) (k : yAt p l e R s m args below meth c cells slots Q B D aC nL (pc + 3) lv (.int v :: st) N M F) : yAt p l e R s m args below meth c cells slots Q B D aC nL pc lv (st) N M F := fun H locs ls hP hl hS => lv_sipush fx.1 fx.2.1 hd hv (k H locs ls hP hl hS)
theorem f_dup (fx : yFx p s m args c B D aC aS nL cc own) {va : Value} (hd : decode cc pc = .ok (.dup, 1)) (h1 : va.category = 1) (k : yAt p l e R s m args below meth c cells slots Q B D aC nL (pc + 1) lv (va :: va :: st) N M F) : yAt p l e R s m args below meth c cells slots Q B D aC nL pc lv (va :: st) N M F := fun H locs ls hP hl hS => lv_dup fx.1 fx.2.1 hd h1 (k H locs ls hP hl hS)
theorem f_ldc (fx : yFx p s m args c B D aC aS nL cc own) {index : Nat} {v : Int32} (hw : Cond.constant own index v ∈ tb) (hd : decode cc pc = .ok (.ldc index, 2)) (k : yAt p l e R s m args below meth c cells slots Q B D aC nL (pc + 2) lv (.int v :: st) N M F) : yAt p l e R s m args below meth c cells slots Q B D aC nL pc lv st N M F := fun H locs ls hP hl hS => lv_ldc fx.1 fx.2.1 fx.2.2.2.1 (fx.2.2.2.2.1 _ hw) hd (k H locs ls hP hl hS)
theorem f_iload_n (fx : yFx p s m args c B D aC aS nL cc own) (q : Nat) {k0 : Fin 4} {i : Nat} {x : Int32} (hd : decode cc pc = .ok (.iload_n k0, 1)) (hi : (k0 : Nat) = i) (hq : lv[q]? = some (i, .int x)) (k : yAt p l e R s m args below meth c cells slots Q B D aC nL (pc + 1) lv (.int x :: st) N M F) : yAt p l e R s m args below meth c cells slots Q B D aC nL pc lv st N M F := fun H locs ls hP hl hS => lv_iload_n fx.1 fx.2.1 hd hi (lv_at hl q hq) (k H locs ls hP hl hS)
theorem f_aload_n (fx : yFx p s m args c B D aC aS nL cc own) (q : Nat) {k0 : Fin 4} {i : Nat} {x : Nat} (hd : decode cc pc = .ok (.aload_n k0, 1)) (hi : (k0 : Nat) = i) (hq : lv[q]? = some (i, .ref x)) (k : yAt p l e R s m args below meth c cells slots Q B D aC nL (pc + 1) lv (.ref x :: st) N M F) : yAt p l e R s m args below meth c cells slots Q B D aC nL pc lv st N M F := fun H locs ls hP hl hS => lv_aload_n fx.1 fx.2.1 hd hi (lv_at hl q hq) (k H locs ls hP hl hS)
theorem f_istore_n (fx : yFx p s m args c B D aC aS nL cc own) {k0 : Fin 4} {i : Nat} {x : Int32} (hd : decode cc pc = .ok (.istore_n k0, 1)) (hi : (k0 : Nat) = i) (hn : i < nL) (h2 : (i, Value.int x) :: lv.filter (fun q => !(q.1 == i) && !(q.1 + 1 == i && q.2.category == 2)) = lv2) (k : yAt p l e R s m args below meth c cells slots Q B D aC nL (pc + 1) lv2 st N M F) : yAt p l e R s m args below meth c cells slots Q B D aC nL pc lv (.int x :: st) N M F := fun H locs ls hP hl hS => lv_istore_n fx.1 fx.2.1 hd hi hl hn h2 (fun ls2 hl2 => k H locs ls2 hP hl2 hS)
theorem f_astore_n (fx : yFx p s m args c B D aC aS nL cc own) {k0 : Fin 4} {i : Nat} {x : Nat} (hd : decode cc pc = .ok (.astore_n k0, 1)) (hi : (k0 : Nat) = i) (hn : i < nL) (h2 : (i, Value.ref x) :: lv.filter (fun q => !(q.1 == i) && !(q.1 + 1 == i && q.2.category == 2)) = lv2) (k : yAt p l e R s m args below meth c cells slots Q B D aC nL (pc + 1) lv2 st N M F) : yAt p l e R s m args below meth c cells slots Q B D aC nL pc lv (.ref x :: st) N M F := fun H locs ls hP hl hS => lv_astore_n fx.1 fx.2.1 hd hi hl hn h2 (fun ls2 hl2 => k H locs ls2 hP hl2 hS)
theorem f_iinc (fx : yFx p s m args c B D aC aS nL cc own) (q : Nat) {i : Nat} {n : Int} {x v : Int32} (hd : decode cc pc = .ok (.iinc i n, 3)) (hq : lv[q]? = some (i, .int x)) (hv : x + Int32.ofInt n = v) (hn : i < nL) (h2 : (i, Value.int v) :: lv.filter (fun q => !(q.1 == i) && !(q.1 + 1 == i && q.2.category == 2)) = lv2) (k : yAt p l e R s m args below meth c cells slots Q B D aC nL (pc + 3) lv2 st N M F) : yAt p l e R s m args below meth c cells slots Q B D aC nL pc lv st N M F := fun H locs ls hP hl hS => lv_iinc fx.1 fx.2.1 hd hl hq hv hn h2 (fun ls2 hl2 => k H locs ls2 hP hl2 hS)
theorem f_sub (ks : List Nat) (h : lv_pick lv ks = lv2) (k : yAt p l e R s m args below meth c cells slots Q B D aC nL pc lv2 st N M F) : yAt p l e R s m args below meth c cells slots Q B D aC nL pc lv st N M F := fun H locs ls hP hl hS => k H locs ls hP (lv_sub hl ks h) hS
theorem f_memM (k : ∀ M2 : zM, M2 = M → yAt p l e R s m args below meth c cells slots Q B D aC nL pc lv st N M2 F) : yAt p l e R s m args below meth c cells slots Q B D aC nL pc lv st N M F := k M rfl
theorem f_memF (k : ∀ F2 : zFl, F2 = F → yAt p l e R s m args below meth c cells slots Q B D aC nL pc lv st N M F2) : yAt p l e R s m args below meth c cells slots Q B D aC nL pc lv st N M F := k F rfl
theorem f_N {N2 : Nat} (h : N = N2) (k : yAt p l e R s m args below meth c cells slots Q B D aC nL pc lv st N2 M F) : yAt p l e R s m args below meth c cells slots Q B D aC nL pc lv st N M F := by rw [h]; exact k
theorem f_ref {v w : Nat} (h : v = w) (k : yAt p l e R s m args below meth c cells slots Q B D aC nL pc lv (.ref (B + w) :: st) N M F) : yAt p l e R s m args below meth c cells slots Q B D aC nL pc lv (.ref (B + v) :: st) N M F := by rw [h]; exact k
theorem f_goto (fx : yFx p s m args c B D aC aS nL cc own) {off : Int} (tgt : Nat) (hd : decode cc pc = .ok (.goto off, 3)) (ht : (pc : Int) + off = (tgt : Int)) (k : yAt p l e R s m args below meth c cells slots Q B D aC nL tgt lv st N M F) : yAt p l e R s m args below meth c cells slots Q B D aC nL pc lv st N M F := fun H locs ls hP hl hS => lv_goto fx.1 fx.2.1 hd ht (k H locs ls hP hl hS)
theorem f_icmp_ge (fx : yFx p s m args c B D aC aS nL cc own) {x y : Int32} {off : Int} (tgt : Nat) (hd : decode cc pc = .ok (.if_icmp .ge off, 3)) (ht : (pc : Int) + off = (tgt : Int)) (kt : y ≤ x → yAt p l e R s m args below meth c cells slots Q B D aC nL tgt lv st N M F) (kf : ¬ y ≤ x → yAt p l e R s m args below meth c cells slots Q B D aC nL (pc + 3) lv st N M F) : yAt p l e R s m args below meth c cells slots Q B D aC nL pc lv (.int y :: .int x :: st) N M F := fun H locs ls hP hl hS => lv_icmp_ge fx.1 fx.2.1 hd ht (fun h => kt h H locs ls hP hl hS) (fun h => kf h H locs ls hP hl hS)
theorem f_widen (h1 : cells ≤ mc) (h2 : slots ≤ ms) (k : yAt p l e R s m args below meth c mc ms Q B D aC nL pc lv st N M F) : yAt p l e R s m args below meth c cells slots Q B D aC nL pc lv st N M F := fun H locs ls hP hl hS => W.widen h1 h2 (k H locs ls hP hl hS)
theorem f_obj (fx : yFx p s m args c B D aC aS nL cc own) {idx a : Nat} (h1 : Cond.methodLink own idx Lib.objectInit ∈ tb) (h2 : Cond.instanceMethod Lib.objectInit ∈ tb) (h3 : Cond.code Lib.objectInit ⟨#[0xb1]⟩ 1 none ∈ tb) (hd : decode cc pc = .ok (.invokespecial idx, 3)) (hf : 1 ≤ R.frames) (hlo : (st.map fun v => v.category).sum + 12 ≤ R.locals) (k : yAt p l e R s m args below meth c cells slots Q B D aC nL (pc + 3) lv st N M F) : yAt p l e R s m args below meth c cells slots Q B D aC nL pc lv (.ref a :: st) N M F := fun H locs ls hP hl hS => W.objInit fx.1 fx.2.1 fx.2.2.2.1 (fx.2.2.2.2.1 _ h1) (fx.2.2.2.2.1 _ h2) (fx.2.2.2.2.1 _ h3) rfl (by rw [fx.2.2.1]; exact hl.1) rfl hd hf (by show 2 * 0 + (st.map fun v => v.category).sum + 12 ≤ R.locals; omega) (k H locs ls hP hl hS)
theorem f_getS (fx : yFx p s m args c B D aC aS nL cc own) {C : String} {T : u_T} {n t index k j n9 : Nat} (hk : k < N) (ht : tg k = t) (ht2 : t < 20) (hc : kcl[t]? = some (C, T, n)) (hin : ∀ w ∈ u_ws C T n, w ∈ tb) (hj : j < n) (hj2 : j < nf t) (hf : ft t j = 2) (hfo : fo t j = n9) (hF : F k j = false) (hT : (T j).1 = C) (hw : Cond.fieldLink own index C (T j).2.1 (T j).2.2.1 ∈ tb) (hd : decode cc pc = .ok (.getfield index, 3)) (kk : yAt p l e R s m args below meth c cells slots Q B D aC nL (pc + 3) lv (.ref (B + (k + n9)) :: st) N M F) : yAt p l e R s m args below meth c cells slots Q B D aC nL pc lv (.ref (B + k) :: st) N M F := fun H locs ls hP hl hS => va_get (ref := C) (v := .ref (B + (k + n9))) fx.1 fx.2.1 (fun w hw => fx.2.2.2.2.1 w hw) hin fx.2.2.2.1 fx.2.2.2.2.2.1.1 hP k ((ycls_at hk).trans (by rw [ycel_o ht ht2])) hc j hj (fx.2.2.2.2.1 _ hw) (fun x h => by rw [hT] at h; exact h) ((yfvs_at hj2).trans (by unfold yfvl; rw [hf, hF]; subst hfo; rfl)) hd (kk H locs ls hP hl hS)
theorem f_putS (fx : yFx p s m args c B D aC aS nL cc own) {C : String} {T : u_T} {n t index k j : Nat} {n9 : Nat} (hfo : fo t j = n9) {ty0 : Nat → FieldType} (hk : k < N) (ht : tg k = t) (ht2 : t < 20) (hc : kcl[t]? = some (C, T, n)) (hin : ∀ w ∈ u_ws C T n, w ∈ tb) (hty : ∀ k, k < n → parseFieldDescriptor (T k).2.2.1 = some (ty0 k)) (hnm : ∀ a, a < n → ∀ b, b < n → a ≠ b → (T a).2.1 ≠ (T b).2.1) (hj : j < n) (hj2 : j < nf t) (hf : ft t j = 2) (hT : (T j).1 = C) (hfin : (T j).2.2.2 = true) (hin2 : meth.name = "<init>") (hdecl : (T j).1 = own) (hn : narrow (ty0 j) (.ref (B + (k + n9))) = .ref (B + (k + n9))) (hfit : fits (ty0 j) (.ref (B + (k + n9))) = true) (hw : Cond.fieldLink own index C (T j).2.1 (T j).2.2.1 ∈ tb) (hd : decode cc pc = .ok (.putfield index, 3)) (kk : yAt p l e R s m args below meth c cells slots Q B D aC nL (pc + 3) lv st N M (yset F k j)) : yAt p l e R s m args below meth c cells slots Q B D aC nL pc lv (.ref (B + (k + n9)) :: .ref (B + k) :: st) N M F := by
  intro H locs ls hP hl hS
  refine va_putF (ref := C) (v := .ref (B + (k + n9))) (ty := ty0 j) fx.1 fx.2.1 (fun w hw => fx.2.2.2.2.1 w hw) hin ty0 hty hnm fx.2.2.2.1 fx.2.2.2.2.2.1.1 hP ycls_D hS k ((ycls_at hk).trans (by rw [ycel_o ht ht2])) hc j hj (fx.2.2.2.2.1 _ hw) (fun x h => by rw [hT] at h; exact h) hfin hin2 hdecl (hty j hj) hn hfit (by rw [yfvs_len]; exact hj2) hd (fun H1 locs1 hP1 _ hS1 => ?_)
  rw [yfvs_set (M' := M) (F' := (yset F k j)) hj2 (by unfold yfvl; rw [hf, yset_s]; subst hfo; rfl) (fun i hi => by unfold yfvl; rw [yset_n hi]), ycls_set (M := M) (F := F) (M' := M) (F' := (yset F k j)) hk _ (ycel_o ht ht2) (fun a ha => ycel_same rfl rfl rfl (yset_o ha))] at hP1
  exact kk H1 locs1 ls hP1 hl hS1
theorem f_putR (fx : yFx p s m args c B D aC aS nL cc own) {C : String} {T : u_T} {n t index k j : Nat} {v : Nat} {ty0 : Nat → FieldType} (hk : k < N) (ht : tg k = t) (ht2 : t < 20) (hc : kcl[t]? = some (C, T, n)) (hin : ∀ w ∈ u_ws C T n, w ∈ tb) (hty : ∀ k, k < n → parseFieldDescriptor (T k).2.2.1 = some (ty0 k)) (hnm : ∀ a, a < n → ∀ b, b < n → a ≠ b → (T a).2.1 ≠ (T b).2.1) (hj : j < n) (hj2 : j < nf t) (hf : ft t j = 3) (hT : (T j).1 = C) (hfin : (T j).2.2.2 = false) (hn : narrow (ty0 j) (.ref (B + v)) = .ref (B + v)) (hfit : fits (ty0 j) (.ref (B + v)) = true) (hw : Cond.fieldLink own index C (T j).2.1 (T j).2.2.1 ∈ tb) (hd : decode cc pc = .ok (.putfield index, 3)) (kk : yAt p l e R s m args below meth c cells slots Q B D aC nL (pc + 3) lv st N (zR M k j v) (yset F k j)) : yAt p l e R s m args below meth c cells slots Q B D aC nL pc lv (.ref (B + v) :: .ref (B + k) :: st) N M F := by
  intro H locs ls hP hl hS
  refine va_put (ref := C) (v := .ref (B + v)) (ty := ty0 j) fx.1 fx.2.1 (fun w hw => fx.2.2.2.2.1 w hw) hin ty0 hty hnm fx.2.2.2.1 fx.2.2.2.2.2.1.1 hP ycls_D hS k ((ycls_at hk).trans (by rw [ycel_o ht ht2])) hc j hj (fx.2.2.2.2.1 _ hw) (fun x h => by rw [hT] at h; exact h) hfin (hty j hj) hn hfit (by rw [yfvs_len]; exact hj2) hd (fun H1 locs1 hP1 _ hS1 => ?_)
  rw [yfvs_set (M' := (zR M k j v)) (F' := (yset F k j)) hj2 (by unfold yfvl; rw [hf, yset_s, zR_s]; show Value.ref (B + va_up (M.2.2 k) j v j) = _; rw [show va_up (M.2.2 k) j v j = v from if_pos rfl]) (fun i hi => by unfold yfvl; rw [yset_n hi, zR_s, show va_up (M.2.2 k) j v i = M.2.2 k i from if_neg hi]; rfl), ycls_set (M := M) (F := F) (M' := (zR M k j v)) (F' := (yset F k j)) hk _ (ycel_o ht ht2) (fun a ha => ycel_same rfl rfl (zR_o ha) (yset_o ha))] at hP1
  exact kk H1 locs1 ls hP1 hl hS1
theorem f_putI (fx : yFx p s m args c B D aC aS nL cc own) {C : String} {T : u_T} {n t index k j : Nat} {v : Int32} {ty0 : Nat → FieldType} (hk : k < N) (ht : tg k = t) (ht2 : t < 20) (hc : kcl[t]? = some (C, T, n)) (hin : ∀ w ∈ u_ws C T n, w ∈ tb) (hty : ∀ k, k < n → parseFieldDescriptor (T k).2.2.1 = some (ty0 k)) (hnm : ∀ a, a < n → ∀ b, b < n → a ≠ b → (T a).2.1 ≠ (T b).2.1) (hj : j < n) (hj2 : j < nf t) (hf : ft t j = 0) (hT : (T j).1 = C) (hfin : (T j).2.2.2 = false) (hn : narrow (ty0 j) (.int v) = .int v) (hfit : fits (ty0 j) (.int v) = true) (hw : Cond.fieldLink own index C (T j).2.1 (T j).2.2.1 ∈ tb) (hd : decode cc pc = .ok (.putfield index, 3)) (kk : yAt p l e R s m args below meth c cells slots Q B D aC nL (pc + 3) lv st N (zI M k j v) F) : yAt p l e R s m args below meth c cells slots Q B D aC nL pc lv (.int v :: .ref (B + k) :: st) N M F := by
  intro H locs ls hP hl hS
  refine va_put (ref := C) (v := .int v) (ty := ty0 j) fx.1 fx.2.1 (fun w hw => fx.2.2.2.2.1 w hw) hin ty0 hty hnm fx.2.2.2.1 fx.2.2.2.2.2.1.1 hP ycls_D hS k ((ycls_at hk).trans (by rw [ycel_o ht ht2])) hc j hj (fx.2.2.2.2.1 _ hw) (fun x h => by rw [hT] at h; exact h) hfin (hty j hj) hn hfit (by rw [yfvs_len]; exact hj2) hd (fun H1 locs1 hP1 _ hS1 => ?_)
  rw [yfvs_set (M' := (zI M k j v)) (F' := F) hj2 (by unfold yfvl; rw [hf, zI_s]; show Value.int (upd (M.1 k) j v j) = _; rw [show upd (M.1 k) j v j = v from if_pos rfl]) (fun i hi => by unfold yfvl; rw [zI_s, show upd (M.1 k) j v i = M.1 k i from if_neg hi]; rfl), ycls_set (M := M) (F := F) (M' := (zI M k j v)) (F' := F) hk _ (ycel_o ht ht2) (fun a ha => ycel_same (zI_o ha) rfl rfl rfl)] at hP1
  exact kk H1 locs1 ls hP1 hl hS1
theorem y_size {H : Heap} {locs : List Loc} {T : State} (hP : va_P D kcl (ycls B aC N M F) H) (h0 : 0 < N) (hz : s.heap.size + cells = B + N) (hT : T.heap = H) (X : Stand p l e R s m args below meth c T locs cells slots) : H.size = B + N := by
  have h1 := X.heapSize
  have h2 := (hP (N - 1) _ (ycls_at (by omega))).lt
  rw [hT] at h1
  have h3 : B + (N - 1) < H.size := h2
  omega
theorem y_W {H : Heap} {locs : List Loc} {g : JFrame} (hP : va_P D kcl (ycls B aC N M F) H) (h0 : 0 < N) (hz : s.heap.size + cells = B + N) (k : H.size = B + N → W p l e R s m args below meth c H locs cells slots Q g) : W p l e R s m args below meth c H locs cells slots Q g := fun T hT X => k (y_size hP h0 hz hT X) T hT X
def dfv (n : Nat) : Value := match n with
  | 0 => .int 0
  | 1 => .long 0
  | _ => .null
/-- a place's slot that holds a reference -/
def yR (k j : Nat) : Bool := if tg k < 20 then decide (2 ≤ ft (tg k) j) else (tg k == 24 && decide (j < ln k))
def yFr (M : zM) (F : zFl) (k : Nat) : Prop := (∀ j, M.1 k j = 0) ∧ (∀ j, M.2.1 k j = 0) ∧ ∀ j, yR k j = true → F k j = true
theorem yfvl_fr {t k j : Nat} (ht : tg k = t) (ht2 : t < 20) (h : yFr M F k) : yfvl B M F t k j = dfv (ft t j) := by
  have hF : 2 ≤ ft t j → F k j = true := fun hq => h.2.2 j (by unfold yR; rw [ht, if_pos ht2]; exact decide_eq_true hq)
  unfold yfvl dfv
  rw [h.1 j, h.2.1 j]
  generalize ft t j = q at hF ⊢
  match q, hF with
  | 0, _ => rfl
  | 1, _ => rfl
  | 2, hF => rw [hF (by decide)]; rfl
  | n + 3, hF => rw [hF (by omega)]; rfl
theorem arrV_same {cI : ClassId} {n : Nat} {f g : Nat → Value} (h : ∀ j, j < n → f j = g j) : arrV cI n f = arrV cI n g := by
  unfold arrV
  congr 1
  congr 1
  funext j
  exact h j.val j.isLt
theorem ycls_push {e : va_E} (he : ycel B aC M F N = e) : ycls B aC N M F ++ [(B + N, e)] = ycls B aC (N + 1) M F := by
  unfold ycls
  rw [List.range_succ, List.map_append, ← he]
  rfl
theorem y_push {H H1 : Heap} (hP : va_P D kcl (ycls B aC N M F) H) (hsz : H.size = B + N) (o1 : ∀ q, q < B + N → H1[q]? = H[q]?) {e : va_E} (he : ycel B aC M F N = e) (h : va_at D kcl (B + N, e) H1) : va_P D kcl (ycls B aC (N + 1) M F) H1 := by
  rw [← ycls_push he]
  refine (hP.kept (fun k x hx => o1 x.1 ?_)).app (fun k x hx => ?_)
  · rw [← hsz]
    exact (hP k x hx).lt
  · match k, hx with
    | 0, hx => cases hx; exact h
theorem yS_push {H H1 : Heap} {locs : List Loc} {h : Nat} (hS : va_S (yAb B) s.heap H locs) (hh : H.size = h) (z1 : H1.size = h + 1) (o1 : ∀ q, q < h → H1[q]? = H[q]?) : va_S (yAb B) s.heap H1 locs := ⟨Nat.le_trans hS.1 (by omega), fun x h1 h2 => (o1 x (by have := hS.1; omega)).trans (hS.2.1 x h1 h2), hS.2.2⟩
theorem f_new (fx : yFx p s m args c B D aC aS nL cc own) {C : String} {T : u_T} {n t index : Nat} {ty : Nat → FieldType} (h0 : 0 < N) (hz : s.heap.size + cells = B + N) (ht : tg N = t) (ht2 : t < 20) (hc : kcl[t]? = some (C, T, n)) (hin : ∀ w ∈ u_ws C T n, w ∈ tb) (hty : ∀ k, k < n → parseFieldDescriptor (T k).2.2.1 = some (ty k)) (hdef : ∀ j, j < n → defaultValue (ty j) = dfv (ft t j)) (hnf : nf t = n) (hfr : yFr M F N) (h1 : Cond.classLink own index C ∈ tb) (h2 : Cond.instantiable C n ∈ tb) (h3 : Cond.initialized C ∈ tb) (hRc : cells + 1 ≤ R.cells) (hRs : slots + n ≤ R.slots) (hd : decode cc pc = .ok (.new index, 3)) (k : yAt p l e R s m args below meth c (cells + 1) (slots + n) Q B D aC nL (pc + 3) lv (.ref (B + N) :: st) (N + 1) M F) : yAt p l e R s m args below meth c cells slots Q B D aC nL pc lv st N M F := by
  intro H locs ls hP hl hS
  refine y_W hP h0 hz (fun hsz => ?_)
  obtain ⟨f1, f2, f3, f4, f5, f6, f7⟩ := fx
  have hKn := f6.1.1 t _ hc
  have q1 := f5 _ h1
  have q2 := f5 _ h2
  have q3 := f5 _ h3
  refine W.newcK f1 f2 f4 q1 q2 q3 rfl hd hRc hRs hKn.2.1 hsz (fun H1 kC hkC e1 z1 o1 => ?_)
  refine k H1 locs ls (y_push hP hsz o1 (ycel_o ht ht2) ?_) hl (yS_push hS hsz z1 o1)
  refine ⟨_, hc, (u_born ty f5 hin hKn hkC e1 hty).to (fun j hj => ?_)⟩
  rw [hdef j hj]
  show _ = (yfvs B M F t N).getD j .null
  rw [List.getD_eq_getElem?_getD, yfvs_at (by rw [hnf]; exact hj), yfvl_fr ht ht2 hfr]
  rfl
theorem f_newaB (fx : yFx p s m args c B D aC aS nL cc own) {n : Int32} {N' : Nat} (h0 : 0 < N) (hz : s.heap.size + cells = B + N) (ht : tg N = 20) (hln : ln N = N') (hfr : yFr M F N) (hn : ¬ n < 0) (hN : n.toNatClampNeg = N') (hby : N' * componentBytes .byte ≤ 536870912) (ha : Cond.arrayClass .byte ∈ tb) (hRc : cells + 1 ≤ R.cells) (hRs : slots + N' ≤ R.slots) (hd : decode cc pc = .ok (.newarray .byte, 2)) (k : yAt p l e R s m args below meth c (cells + 1) (slots + N') Q B D aC nL (pc + 2) lv (.ref (B + N) :: st) (N + 1) M F) : yAt p l e R s m args below meth c cells slots Q B D aC nL pc lv (.int n :: st) N M F := by
  intro H locs ls hP hl hS
  refine y_W hP h0 hz (fun hsz => ?_)
  obtain ⟨f1, f2, f3, f4, f5, f6, f7⟩ := fx
  have q1 := f5 _ ha
  refine va_newaK f1 f2 (atype := .byte) q1 rfl hd rfl hn hN hby hRc hRs hsz (fun H1 cA e1 z1 o1 hAr hNm => ?_)
  have hcA : cA = aC 20 := by
    have q := (f6.1.2 0 (aC 20, .byte) rfl).2
    exact Option.some.inj (hNm.symm.trans q)
  subst hcA
  refine k H1 locs ls (y_push hP hsz o1 (ycel_i ht (by decide) (by decide)) ?_) hl (yS_push hS hsz z1 o1)
  show H1[B + N]? = some (vp_cell (aC 20) (ln N, .inl (M.1 N)))
  rw [e1, vp_cell_i, hln, show M.1 N = fun _ => 0 from funext hfr.1]
  rfl
theorem f_newaI (fx : yFx p s m args c B D aC aS nL cc own) {n : Int32} {N' : Nat} (h0 : 0 < N) (hz : s.heap.size + cells = B + N) (ht : tg N = 21) (hln : ln N = N') (hfr : yFr M F N) (hn : ¬ n < 0) (hN : n.toNatClampNeg = N') (hby : N' * componentBytes .int ≤ 536870912) (ha : Cond.arrayClass .int ∈ tb) (hRc : cells + 1 ≤ R.cells) (hRs : slots + N' ≤ R.slots) (hd : decode cc pc = .ok (.newarray .int, 2)) (k : yAt p l e R s m args below meth c (cells + 1) (slots + N') Q B D aC nL (pc + 2) lv (.ref (B + N) :: st) (N + 1) M F) : yAt p l e R s m args below meth c cells slots Q B D aC nL pc lv (.int n :: st) N M F := by
  intro H locs ls hP hl hS
  refine y_W hP h0 hz (fun hsz => ?_)
  obtain ⟨f1, f2, f3, f4, f5, f6, f7⟩ := fx
  have q1 := f5 _ ha
  refine va_newaK f1 f2 (atype := .int) q1 rfl hd rfl hn hN hby hRc hRs hsz (fun H1 cA e1 z1 o1 hAr hNm => ?_)
  have hcA : cA = aC 21 := by
    have q := (f6.1.2 1 (aC 21, .int) rfl).2
    exact Option.some.inj (hNm.symm.trans q)
  subst hcA
  refine k H1 locs ls (y_push hP hsz o1 (ycel_i ht (by decide) (by decide)) ?_) hl (yS_push hS hsz z1 o1)
  show H1[B + N]? = some (vp_cell (aC 21) (ln N, .inl (M.1 N)))
  rw [e1, vp_cell_i, hln, show M.1 N = fun _ => 0 from funext hfr.1]
  rfl
theorem f_newaZ (fx : yFx p s m args c B D aC aS nL cc own) {n : Int32} {N' : Nat} (h0 : 0 < N) (hz : s.heap.size + cells = B + N) (ht : tg N = 22) (hln : ln N = N') (hfr : yFr M F N) (hn : ¬ n < 0) (hN : n.toNatClampNeg = N') (hby : N' * componentBytes .boolean ≤ 536870912) (ha : Cond.arrayClass .boolean ∈ tb) (hRc : cells + 1 ≤ R.cells) (hRs : slots + N' ≤ R.slots) (hd : decode cc pc = .ok (.newarray .boolean, 2)) (k : yAt p l e R s m args below meth c (cells + 1) (slots + N') Q B D aC nL (pc + 2) lv (.ref (B + N) :: st) (N + 1) M F) : yAt p l e R s m args below meth c cells slots Q B D aC nL pc lv (.int n :: st) N M F := by
  intro H locs ls hP hl hS
  refine y_W hP h0 hz (fun hsz => ?_)
  obtain ⟨f1, f2, f3, f4, f5, f6, f7⟩ := fx
  have q1 := f5 _ ha
  refine va_newaK f1 f2 (atype := .boolean) q1 rfl hd rfl hn hN hby hRc hRs hsz (fun H1 cA e1 z1 o1 hAr hNm => ?_)
  have hcA : cA = aC 22 := by
    have q := (f6.1.2 2 (aC 22, .boolean) rfl).2
    exact Option.some.inj (hNm.symm.trans q)
  subst hcA
  refine k H1 locs ls (y_push hP hsz o1 (ycel_i ht (by decide) (by decide)) ?_) hl (yS_push hS hsz z1 o1)
  show H1[B + N]? = some (vp_cell (aC 22) (ln N, .inl (M.1 N)))
  rw [e1, vp_cell_i, hln, show M.1 N = fun _ => 0 from funext hfr.1]
  rfl
theorem f_newaL (fx : yFx p s m args c B D aC aS nL cc own) {n : Int32} {N' : Nat} (h0 : 0 < N) (hz : s.heap.size + cells = B + N) (ht : tg N = 23) (hln : ln N = N') (hfr : yFr M F N) (hn : ¬ n < 0) (hN : n.toNatClampNeg = N') (hby : N' * componentBytes .long ≤ 536870912) (ha : Cond.arrayClass .long ∈ tb) (hRc : cells + 1 ≤ R.cells) (hRs : slots + N' ≤ R.slots) (hd : decode cc pc = .ok (.newarray .long, 2)) (k : yAt p l e R s m args below meth c (cells + 1) (slots + N') Q B D aC nL (pc + 2) lv (.ref (B + N) :: st) (N + 1) M F) : yAt p l e R s m args below meth c cells slots Q B D aC nL pc lv (.int n :: st) N M F := by
  intro H locs ls hP hl hS
  refine y_W hP h0 hz (fun hsz => ?_)
  obtain ⟨f1, f2, f3, f4, f5, f6, f7⟩ := fx
  have q1 := f5 _ ha
  refine va_newaK f1 f2 (atype := .long) q1 rfl hd rfl hn hN hby hRc hRs hsz (fun H1 cA e1 z1 o1 hAr hNm => ?_)
  have hcA : cA = aC 23 := by
    have q := (f6.1.2 3 (aC 23, .long) rfl).2
    exact Option.some.inj (hNm.symm.trans q)
  subst hcA
  refine k H1 locs ls (y_push hP hsz o1 (ycel_l ht) ?_) hl (yS_push hS hsz z1 o1)
  show H1[B + N]? = some (vp_cell (aC 23) (ln N, .inr (.inl (M.2.1 N))))
  rw [e1, vp_cell_l, hln, show M.2.1 N = fun _ => 0 from funext hfr.2.1]
  rfl
/-- the first object, in a heap that holds none of the law's -/
theorem f_new0 (fx : yFx p s m args c B D aC aS nL cc own) {C : String} {T : u_T} {n t index : Nat} {ty : Nat → FieldType} (hB : s.heap.size = B) (ht : tg 0 = t) (ht2 : t < 20) (hc : kcl[t]? = some (C, T, n)) (hin : ∀ w ∈ u_ws C T n, w ∈ tb) (hty : ∀ k, k < n → parseFieldDescriptor (T k).2.2.1 = some (ty k)) (hdef : ∀ j, j < n → defaultValue (ty j) = dfv (ft t j)) (hnf : nf t = n) (hfr : yFr M F 0) (h1 : Cond.classLink own index C ∈ tb) (h2 : Cond.instantiable C n ∈ tb) (h3 : Cond.initialized C ∈ tb) (hRc : cells + 1 ≤ R.cells) (hRs : slots + n ≤ R.slots) (hd : decode cc pc = .ok (.new index, 3)) (k : yAt p l e R s m args below meth c (cells + 1) (slots + n) Q B D aC nL (pc + 3) lv (.ref (B + 0) :: st) 1 M F) {ls : Array Slot} (hl : lv_has ls nL lv) : W p l e R s m args below meth c s.heap [] cells slots Q (F0 m pc ls st) := by
  have hsz : s.heap.size = B + 0 := hB
  have hP : va_P D kcl (ycls B aC 0 M F) s.heap := fun k x hx => absurd hx (by unfold ycls; simp)
  obtain ⟨f1, f2, f3, f4, f5, f6, f7⟩ := fx
  have hKn := f6.1.1 t _ hc
  have q1 := f5 _ h1
  have q2 := f5 _ h2
  have q3 := f5 _ h3
  refine W.newcK f1 f2 f4 q1 q2 q3 rfl hd hRc hRs hKn.2.1 hsz (fun H1 kC hkC e1 z1 o1 => ?_)
  refine k H1 [] ls (y_push hP hsz o1 (ycel_o ht ht2) ?_) hl (yS_push va_S.rf hsz z1 o1)
  refine ⟨_, hc, (u_born ty f5 hin hKn hkC e1 hty).to (fun j hj => ?_)⟩
  rw [hdef j hj]
  show _ = (yfvs B M F t 0).getD j .null
  rw [List.getD_eq_getElem?_getD, yfvs_at (by rw [hnf]; exact hj), yfvl_fr ht ht2 hfr]
  rfl
/-- all is laid: the memory stands -/
theorem f_done (hB : s.heap.size = B) (hF : ∀ k, k < N0 → ∀ j, F k j = false) (k : zAt p l e R s m args below meth c cells slots Q B D aC nL pc lv st M) : yAt p l e R s m args below meth c cells slots Q B D aC nL pc lv st N0 M F := by
  intro H locs ls hP hl hS
  rw [y_done hF] at hP
  refine va_forget (fun q hq => ?_) (k H [] ls hP hl ⟨hS.1, fun q h1 h2 => hS.2.1 q h1 (fun h3 => ?_), fun q hq => absurd hq List.not_mem_nil⟩)
  · rw [hB]
    exact hS.2.2 q hq
  · have h4 : B ≤ q := h3
    omega
theorem f_anew (fx : yFx p s m args c B D aC aS nL cc own) {n : Int32} {index : Nat} {N' : Nat} (h0 : 0 < N) (hz : s.heap.size + cells = B + N) (ht : tg N = 24) (hln : ln N = N') (hfr : yFr M F N) (hn : ¬ n < 0) (hN : n.toNatClampNeg = N') (hby : N' * 4 ≤ 536870912) (hcl : Cond.classLink own index "MailChain$Entry" ∈ tb) (hRc : cells + 1 ≤ R.cells) (hRs : slots + N' ≤ R.slots) (hd : decode cc pc = .ok (.anewarray index, 3)) (k : yAt p l e R s m args below meth c (cells + 1) (slots + N') Q B D aC nL (pc + 3) lv (.ref (B + N) :: st) (N + 1) M F) : yAt p l e R s m args below meth c cells slots Q B D aC nL pc lv (.int n :: st) N M F := by
  intro H locs ls hP hl hS
  refine y_W hP h0 hz (fun hsz => ?_)
  obtain ⟨f1, f2, f3, f4, f5, f6, f7⟩ := fx
  have q1 := f5 _ hcl
  have q2 := va_AO.use (A := args) f7.2
  subst hN
  refine W.anew f1 f2 f4 q1 q2 rfl hd rfl hn hby hRc hRs (fun cA kA comp g1 g2 g3 g4 => ?_)
  generalize hH1 : H.push ({ cls := cA, slots := Array.replicate n.toNatClampNeg .null, vm := .none } : Cell) = H1
  have z1 : H1.size = B + N + 1 := by rw [← hH1, Array.size_push, hsz]
  have e1 : H1[B + N]? = some (arrV cA n.toNatClampNeg (fun _ => .null)) := by rw [← hH1, ← hsz, Array.getElem?_push_size, ← arrV_new]
  have o1 : ∀ q : Nat, q < B + N → H1[q]? = H[q]? := fun q hq => by rw [← hH1, Array.getElem?_push, if_neg (by rw [hsz]; exact Nat.ne_of_lt hq)]
  have hcA : cA = aC 24 := by
    obtain ⟨kA2, comp2, -, -, -, q⟩ := (f6.1.2 4 (aC 24, .object "MailChain$Entry") rfl).2
    exact Option.some.inj (g1.symm.trans q)
  subst hcA
  rw [hsz]
  refine k H1 locs ls (y_push hP hsz o1 (ycel_r ht) ?_) hl (yS_push hS hsz z1 o1)
  show H1[B + N]? = some (vp_cell (aC 24) (ln N, .inr (.inr (.inr (.inr (fun j => if F N j = true then none else some (B + M.2.2 N j)))))))
  rw [e1, hln, vp_cell_q]
  refine congrArg some (arrV_same (fun j hj => ?_))
  have hF : F N j = true := hfr.2.2 j (by unfold yR; rw [ht, hln]; simp [hj])
  rw [hF]
  rfl
theorem f_iast (fx : yFx p s m args c B D aC aS nL cc own) {k : Nat} {i x : Int32} (hk : k < N) (ht : tg k = 21) (hin : vp_in i (ln k)) (hd : decode cc pc = .ok (.iastore, 1)) (kk : yAt p l e R s m args below meth c cells slots Q B D aC nL (pc + 1) lv st N (zI M k i.toNatClampNeg x) F) : yAt p l e R s m args below meth c cells slots Q B D aC nL pc lv (.int x :: .int i :: .ref (B + k) :: st) N M F := by
  intro H locs ls hP hl hS
  refine va_iast fx.1 fx.2.1 fx.2.2.2.2.2.1.1 hP ycls_D hS k 1 ((ycls_at hk).trans (by rw [ycel_i ht (by decide) (by decide)])) rfl hin hd (fun H1 locs1 hP1 _ hS1 => ?_)
  rw [ycls_set (M := M) (F := F) (M' := zI M k i.toNatClampNeg x) (F' := F) hk _ (by rw [ycel_i ht (by decide) (by decide), zI_s]) (fun a ha => ycel_same (zI_o ha) rfl rfl rfl)] at hP1
  exact kk H1 locs1 ls hP1 hl hS1
theorem f_bast (fx : yFx p s m args c B D aC aS nL cc own) {k : Nat} {i x : Int32} (hk : k < N) (ht : tg k = 20) (hin : vp_in i (ln k)) (hd : decode cc pc = .ok (.bastore, 1)) (kk : yAt p l e R s m args below meth c cells slots Q B D aC nL (pc + 1) lv st N (zI M k i.toNatClampNeg (vp_nar .byte x)) F) : yAt p l e R s m args below meth c cells slots Q B D aC nL pc lv (.int x :: .int i :: .ref (B + k) :: st) N M F := by
  intro H locs ls hP hl hS
  refine va_bast fx.1 fx.2.1 fx.2.2.2.2.2.1.1 hP ycls_D hS k 0 ((ycls_at hk).trans (by rw [ycel_i ht (by decide) (by decide)])) rfl hin hd (fun H1 locs1 hP1 _ hS1 => ?_)
  rw [ycls_set (M := M) (F := F) (M' := zI M k i.toNatClampNeg (vp_nar .byte x)) (F' := F) hk _ (by rw [ycel_i ht (by decide) (by decide), zI_s]) (fun a ha => ycel_same (zI_o ha) rfl rfl rfl)] at hP1
  exact kk H1 locs1 ls hP1 hl hS1
theorem f_aast (fx : yFx p s m args c B D aC aS nL cc own) {k v : Nat} {i : Int32} (hk : k < N) (ht : tg k = 24) (hv : v < N) (hvt : tg v = 2) (hin : vp_in i (ln k)) (hd : decode cc pc = .ok (.aastore, 1)) (kk : yAt p l e R s m args below meth c cells slots Q B D aC nL (pc + 1) lv st N (zR M k i.toNatClampNeg v) (yset F k i.toNatClampNeg)) : yAt p l e R s m args below meth c cells slots Q B D aC nL pc lv (.ref (B + v) :: .int i :: .ref (B + k) :: st) N M F := by
  intro H locs ls hP hl hS
  refine va_astq fx.1 fx.2.1 fx.2.2.2.2.2.1.1 hP ycls_D hS k 4 v 2 (r := (R_En, F_En, 9)) ((ycls_at hk).trans (by rw [ycel_r ht])) rfl ((ycls_at hv).trans (by rw [ycel_o hvt (by decide)])) rfl hin hd (fun H1 locs1 hP1 _ hS1 => ?_)
  have e : va_up (fun j => if F k j = true then none else some (B + M.2.2 k j)) i.toNatClampNeg (some (B + v)) = fun j => if yset F k i.toNatClampNeg k j = true then none else some (B + (zR M k i.toNatClampNeg v).2.2 k j) := by
    funext j
    rw [zR_s]
    by_cases h : j = i.toNatClampNeg
    · subst h
      rw [yset_s]
      simp [va_up]
    · rw [yset_n h]
      simp [va_up, h]
  rw [e, ycls_set (M := M) (F := F) (M' := zR M k i.toNatClampNeg v) (F' := yset F k i.toNatClampNeg) hk _ (ycel_r ht) (fun a ha => ycel_same rfl rfl (zR_o ha) (yset_o ha))] at hP1
  exact kk H1 locs1 ls hP1 hl hS1
theorem f_alenR (fx : yFx p s m args c B D aC aS nL cc own) {k : Nat} (hk : k < N) (ht : tg k = 24) (hd : decode cc pc = .ok (.arraylength, 1)) (kk : yAt p l e R s m args below meth c cells slots Q B D aC nL (pc + 1) lv (.int (Int32.ofNat (ln k)) :: st) N M F) : yAt p l e R s m args below meth c cells slots Q B D aC nL pc lv (.ref (B + k) :: st) N M F := fun H locs ls hP hl hS => va_alen fx.1 fx.2.1 fx.2.2.2.2.2.1.1 hP k 4 ((ycls_at hk).trans (by rw [ycel_r ht])) rfl rfl hd (kk H locs ls hP hl hS)
theorem f_alenI (fx : yFx p s m args c B D aC aS nL cc own) {k : Nat} (hk : k < N) (ht : tg k = 21) (hd : decode cc pc = .ok (.arraylength, 1)) (kk : yAt p l e R s m args below meth c cells slots Q B D aC nL (pc + 1) lv (.int (Int32.ofNat (ln k)) :: st) N M F) : yAt p l e R s m args below meth c cells slots Q B D aC nL pc lv (.ref (B + k) :: st) N M F := fun H locs ls hP hl hS => va_alen fx.1 fx.2.1 fx.2.2.2.2.2.1.1 hP k 1 ((ycls_at hk).trans (by rw [ycel_i ht (by decide) (by decide)])) rfl rfl hd (kk H locs ls hP hl hS)
theorem f_vret (fx : yFx p s m args c B D aC aS nL cc own) (hlo : meth.locks = false) (hr : meth.sig.returnType = none) {post : Nat → zM → zFl → Prop} (h0 : 0 < N) (hz : s.heap.size + cells = B + N) (h : post N M F) (hd : decode cc pc = .ok (.return_, 1)) : yAt p l e R s m args below meth c cells slots (MQ below (yQ B D aC post) args s cells slots (yAb B)) B D aC nL pc lv [] N M F := by
  intro H locs ls hP hl hS
  refine y_W hP h0 hz (fun hsz => ?_)
  exact W.vret fx.1 fx.2.1 hr (fun t ht hW => ⟨N, M, F, rfl, h, by rw [ht]; exact hP, by rw [ht]; exact hsz, hS.F ht⟩) hS.2.2 hd
theorem yWl_at (fx : yFx p s m args c B D aC aS nL cc own) {H : Heap} {locs : List Loc} {U : State} (hP : va_P D kcl (ycls B aC N M F) H) (hsz : H.size = B + N) (hN : N ≤ N0) (hS : va_S (yAb B) s.heap H locs) (hU : U.heap = H) (hW : s.WarmedH U.vm) : yWl B D aC aS N M F U :=
  ⟨by rw [hU]; exact hP, by rw [hU]; exact hsz, hN, ⟨va_K.moved hW.alike fx.2.2.2.2.2.1.1, fx.2.2.2.2.2.1.2.warm hW (fun a h1 h2 => by
    rw [hU]
    refine hS.2.1 a h1 (fun h3 => h2 ⟨h3, ?_⟩)
    have := hS.1
    omega)⟩, va_AO.moved hW.alike fx.2.2.2.2.2.2.2⟩
/-- a constructor is called on the object made last but its own parts -/
theorem f_callI (fx : yFx p s m args c B D aC aS nL cc own) {y : MethodName} {b : ByteArray} {mx np : Nat} {index k : Nat} {rm : Room} {As : List Value} {post : Nat → zM → zFl → Prop} (h0 : 0 < N) (hN : N ≤ N0) (hz : s.heap.size + cells = B + N) (hl : Cond.methodLink own index y ∈ tb) (hi : Cond.instanceMethod y ∈ tb) (hini : Cond.initialized y.cls ∈ tb) (hco : Cond.code y b mx none ∈ tb) (hy : y.name = "<init>") (hdd : y.cls ≠ "java/lang/invoke/MethodHandle" ∧ y.cls ≠ "java/lang/invoke/VarHandle" ∧ (parseMethodDescriptor y.desc).map (fun d => d.parameters.length) = some np)
    (hM : Met l y (wo y b mx none) rm (va_Pc (.ref (B + k) :: As) (yWl B D aC aS N M F)) (yQ B D aC post) mc ms (yAb B)) (hn : As.length = np) (hst : st0 = As.reverse ++ .ref (B + k) :: rest) (hw : (rest.map fun v => v.category).sum ≤ 8)
    (hrc : rm.cells = mc) (hrs : rm.slots = ms) (hR : rm.frames + 1 ≤ R.frames ∧ 8 + (mx + 11) + rm.locals ≤ R.locals) (hd : decode cc pc = .ok (.invokespecial index, 3)) (hf : cells + mc ≤ R.cells ∧ slots + ms ≤ R.slots)
    (kk : ∀ (N2 : Nat) (M2 : zM) (F2 : zFl), post N2 M2 F2 → yAt p l e R s m args below meth c (cells + mc) (slots + ms) Q B D aC nL (pc + 3) lv rest N2 M2 F2) : yAt p l e R s m args below meth c cells slots Q B D aC nL pc lv st0 N M F := by
  intro H locs ls hP hlv hS T0 hT X
  have hsz := y_size hP h0 hz hT X
  subst hst
  have hr := va_runI (bytes := b) (maxL := mx) (Ts := tb) (l := l) (e := e) (R := R) (below := below) (meth := meth) (H := H) (locs := locs) (cells := cells) (slots := slots) (g := F0 m pc ls (As.reverse ++ .ref (B + k) :: rest)) (b := B + k) (As := As) (rest := rest) ⟨fx.1, fx.2.1, fx.2.2.1, fx.2.2.2.1, fx.2.2.2.2.1⟩ hM (cwI np fx.2.2.2.2.1 (z_goodwo hco) rfl hrc hrs (fx.2.2.2.2.1 _ hini) (fx.2.2.2.2.1 _ hl) (fx.2.2.2.2.1 _ hi) hy hdd hR) ⟨fun a U g mk q => ⟨q.1, q.2.blind⟩, fun U hU hW => ⟨rfl, yWl_at fx hP hsz hN hS hU hW⟩⟩ rfl hn hlv.1 rfl (lv_room hw) hd hf
  obtain ⟨v, st₀, t, T', L, g0, X', hL, e1, e2, ⟨N2, M2, F2, hv, hp, hP1, hz1, hzz, hk⟩, stp⟩ := hr T0 hT X
  cases hv
  rw [g0] at hzz hk
  obtain ⟨t2, a1, b1⟩ := kk N2 M2 F2 hp T'.heap (locs ++ L) ls (by rw [e1]; exact hP1) hlv ⟨Nat.le_trans hS.1 (by rw [e1]; exact hzz), fun q h1 h2 => by rw [e1, hk q (Nat.lt_of_lt_of_le h1 hS.1) h2]; exact hS.2.1 q h1 h2, fun q hq => by
    rcases List.mem_append.mp hq with h | h
    · exact hS.2.2 q h
    · exact hL q h⟩ T' rfl X'
  exact ⟨t2, stp t2 a1, b1⟩
theorem f_callIN (fx : yFx p s m args c B D aC aS nL cc own) {y : MethodName} {b : ByteArray} {mx np : Nat} {index k : Nat} {rm : Room} {As : List Value} {post : Nat → zM → zFl → Prop} (h0 : 0 < N) (hN : N ≤ N0) (hz : s.heap.size + cells = B + N) (q9 : Nat) {host : String} (hl : nestM[q9]? = some (own, index, y, host)) (hi : Cond.instanceMethod y ∈ tb) (hini : Cond.initialized y.cls ∈ tb) (hco : Cond.code y b mx none ∈ tb) (hy : y.name = "<init>") (hdd : y.cls ≠ "java/lang/invoke/MethodHandle" ∧ y.cls ≠ "java/lang/invoke/VarHandle" ∧ (parseMethodDescriptor y.desc).map (fun d => d.parameters.length) = some np)
    (hM : Met l y (wo y b mx none) rm (va_Pc (.ref (B + k) :: As) (yWl B D aC aS N M F)) (yQ B D aC post) mc ms (yAb B)) (hn : As.length = np) (hst : st0 = As.reverse ++ .ref (B + k) :: rest) (hw : (rest.map fun v => v.category).sum ≤ 8)
    (hrc : rm.cells = mc) (hrs : rm.slots = ms) (hR : rm.frames + 1 ≤ R.frames ∧ 8 + (mx + 11) + rm.locals ≤ R.locals) (hd : decode cc pc = .ok (.invokespecial index, 3)) (hf : cells + mc ≤ R.cells ∧ slots + ms ≤ R.slots)
    (kk : ∀ (N2 : Nat) (M2 : zM) (F2 : zFl), post N2 M2 F2 → yAt p l e R s m args below meth c (cells + mc) (slots + ms) Q B D aC nL (pc + 3) lv rest N2 M2 F2) : yAt p l e R s m args below meth c cells slots Q B D aC nL pc lv st0 N M F := by
  intro H locs ls hP hlv hS T0 hT X
  have hsz := y_size hP h0 hz hT X
  subst hst
  have hr := va_runIN (bytes := b) (maxL := mx) (Ts := tb) (l := l) (e := e) (R := R) (below := below) (meth := meth) (H := H) (locs := locs) (cells := cells) (slots := slots) (g := F0 m pc ls (As.reverse ++ .ref (B + k) :: rest)) (b := B + k) (As := As) (rest := rest) ⟨fx.1, fx.2.1, fx.2.2.1, fx.2.2.2.1, fx.2.2.2.2.1⟩ hM ⟨va_cnB np fx.2.2.2.2.1 (z_goodwo hco) rfl hrc hrs (fx.2.2.2.2.2.1.2.2.2.2.2.2.2.2.2.1 _ (List.mem_of_getElem? hl)) (fx.2.2.2.2.1 _ hini) hdd hR, hy, fx.2.2.2.2.1 _ hi⟩ ⟨fun a U g mk q => ⟨q.1, q.2.blind⟩, fun U hU hW => ⟨rfl, yWl_at fx hP hsz hN hS hU hW⟩⟩ rfl hn hlv.1 rfl (lv_room hw) hd hf
  obtain ⟨v, st₀, t, T', L, g0, X', hL, e1, e2, ⟨N2, M2, F2, hv, hp, hP1, hz1, hzz, hk⟩, stp⟩ := hr T0 hT X
  cases hv
  rw [g0] at hzz hk
  obtain ⟨t2, a1, b1⟩ := kk N2 M2 F2 hp T'.heap (locs ++ L) ls (by rw [e1]; exact hP1) hlv ⟨Nat.le_trans hS.1 (by rw [e1]; exact hzz), fun q h1 h2 => by rw [e1, hk q (Nat.lt_of_lt_of_le h1 hS.1) h2]; exact hS.2.1 q h1 h2, fun q hq => by
    rcases List.mem_append.mp hq with h | h
    · exact hS.2.2 q h
    · exact hL q h⟩ T' rfl X'
  exact ⟨t2, stp t2 a1, b1⟩
theorem f_callS (fx : yFx p s m args c B D aC aS nL cc own) {y : MethodName} {b : ByteArray} {mx np : Nat} {index : Nat} {rm : Room} {As : List Value} {post : Nat → zM → zFl → Prop} (h0 : 0 < N) (hN : N ≤ N0) (hz : s.heap.size + cells = B + N) (cv : zCS y b mx none np) (hl : Cond.methodLink own index y ∈ tb)
    (hM : Met l y (wo y b mx none) rm (va_Pc As (yWl B D aC aS N M F)) (yQ B D aC post) mc ms (yAb B)) (hn : As.length = np) (hst : st0 = As.reverse ++ rest) (hw : (rest.map fun v => v.category).sum ≤ 8)
    (hrc : rm.cells = mc) (hrs : rm.slots = ms) (hR : rm.frames + 1 ≤ R.frames ∧ 8 + (mx + 11) + rm.locals ≤ R.locals) (hd : decode cc pc = .ok (.invokestatic index, 3)) (hf : cells + mc ≤ R.cells ∧ slots + ms ≤ R.slots)
    (kk : ∀ (N2 : Nat) (M2 : zM) (F2 : zFl), post N2 M2 F2 → yAt p l e R s m args below meth c (cells + mc) (slots + ms) Q B D aC nL (pc + 3) lv rest N2 M2 F2) : yAt p l e R s m args below meth c cells slots Q B D aC nL pc lv st0 N M F := by
  intro H locs ls hP hlv hS T0 hT X
  have hsz := y_size hP h0 hz hT X
  subst hst
  obtain ⟨v1, v2, v3, v5⟩ := cv
  have hG : GoodIn tb (va_wsS own index y (wo y b mx none)) := by
    intro w hw
    rcases List.mem_append.mp hw with h | h
    · simp only [List.mem_cons, List.not_mem_nil, or_false] at h
      rcases h with h | h | h <;> (rw [h]; apply z_good; assumption)
    · exact z_goodwo v3 w h
  have hr := va_runS (bytes := b) (maxL := mx) (ret := none) (Ts := tb) (l := l) (e := e) (R := R) (below := below) (meth := meth) (H := H) (locs := locs) (cells := cells) (slots := slots) (g := F0 m pc ls (As.reverse ++ rest)) (As := As) (rest := rest) ⟨fx.1, fx.2.1, fx.2.2.1, fx.2.2.2.1, fx.2.2.2.2.1⟩ hM (va_cwS np fx.2.2.2.2.1 hG rfl hrc hrs v5 hR) ⟨fun a U g mk q => ⟨q.1, q.2.blind⟩, fun U hU hW => ⟨rfl, yWl_at fx hP hsz hN hS hU hW⟩⟩ rfl hn hlv.1 rfl (lv_room hw) hd hf
  obtain ⟨v, st₀, t, T', L, g0, X', hL, e1, e2, ⟨N2, M2, F2, hv, hp, hP1, hz1, hzz, hk⟩, stp⟩ := hr T0 hT X
  cases hv
  rw [g0] at hzz hk
  obtain ⟨t2, a1, b1⟩ := kk N2 M2 F2 hp T'.heap (locs ++ L) ls (by rw [e1]; exact hP1) hlv ⟨Nat.le_trans hS.1 (by rw [e1]; exact hzz), fun q h1 h2 => by rw [e1, hk q (Nat.lt_of_lt_of_le h1 hS.1) h2]; exact hS.2.1 q h1 h2, fun q hq => by
    rcases List.mem_append.mp hq with h | h
    · exact hS.2.2 q h
    · exact hL q h⟩ T' rfl X'
  exact ⟨t2, stp t2 a1, b1⟩
theorem y_met {y : MethodName} {b : ByteArray} {mx : Nat} {rm : Room} {as : List Value} {lv0 : List (Nat × Value)} {Qc : Array Value → State → Outcome → State → Prop} (hy : plainName y.cls = true) (ho : y.cls = own) (hlen : (lg_sl as).length ≤ mx) (hlv : lv_args 0 as = lv0)
    (body : ∀ p e s m below meth c, yFx p s m as.toArray c B D aC aS mx b own → meth.sig.returnType = none → meth.locks = false → meth.name = y.name → s.heap.size + 0 = B + N → N ≤ N0 → yAt p l e rm s m as.toArray below meth c 0 0 (MQ below Qc as.toArray s mc ms (yAb B)) B D aC mx 0 lv0 [] N M F) : Met l y (wo y b mx none) rm (va_Pc as (yWl B D aC aS N M F)) Qc mc ms (yAb B) := by
  refine Met.ofW (cc := b) (maxL := mx) (ret := none) hy rfl ?_
  intro p e s m args below meth c s₁ BB hml hv
  obtain ⟨rfl, hP, hsz, hN, hC, hAO⟩ := hv
  subst ho
  have hl := lv_entry as (n := mx) hlen
  rw [lg_entry_eq]
  rw [hlv] at hl
  exact body p e s m below meth c ⟨BB.exec, BB.bytes, hml, findClass_of_methodNamed BB.named, fun w hw => atoms_spec (ws := wo y b mx none) BB.pre w (List.mem_cons_of_mem _ hw), hC, by rw [hsz]; omega, hAO⟩ BB.returns BB.notSynchronized (name_of_methodNamed BB.named BB.method).1 hsz hN s.heap [] _ hP hl va_S.rf
end CTOR
