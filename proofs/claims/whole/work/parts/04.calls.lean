/-! Calls over the memory; how a contract is begun. -/
section CALLS
variable {p : Program} {l : Launch} {e : Env} {R : Room} {s : State} {m : MethodId} {args : Array Value} {below : List Frame} {meth : Method} {c : Code} {cells slots mc ms : Nat} {Q : State → Prop} {B : Nat} {D : va_G} {aC : Nat → ClassId} {aS : Nat → Nat} {nL : Nat} {cc : ByteArray} {own : String} {pc : Nat} {lv lv2 : List (Nat × Value)} {st rest st0 : List Value} {M : zM} {av : Array Value}
/-- a call that has a run from every heap that holds the memory -/
def zRun (p : Program) (l : Launch) (e : Env) (R : Room) (s : State) (m : MethodId) (args : Array Value) (below : List Frame) (meth : Method) (c : Code) (cells slots mc ms : Nat) (B : Nat) (D : va_G) (aC : Nat → ClassId) (nL : Nat) (pc : Nat) (lv : List (Nat × Value)) (st0 rest : List Value) (M : zM) (Qa : State → Outcome → State → Prop) : Prop :=
  ∀ (H : Heap) (locs : List Loc) (ls : Array Slot), va_P D kcl (zcls B aC M) H → lv_has ls nL lv → va_S (zAb B) s.heap H locs → va_Run p l e R s m args below meth c H locs cells slots mc ms (F0 m pc ls st0) rest Qa (zAb B)
theorem a_calli {post : Int32 → zM → Prop} (hr : zRun p l e R s m args below meth c cells slots mc ms B D aC nL pc lv st0 rest M (zQi B D aC post av)) (k : ∀ (r : Int32) (M2 : zM), post r M2 → zAt p l e R s m args below meth c (cells + mc) (slots + ms) Q B D aC nL (pc + 3) lv (.int r :: rest) M2) : zAt p l e R s m args below meth c cells slots Q B D aC nL pc lv st0 M := by
  intro H locs ls hP hl hS T hT X
  obtain ⟨v, st₀, t, T', L, h0, X', hL, e1, e2, ⟨r, M2, hv, hp, hP1, hz, hk⟩, st⟩ := hr H locs ls hP hl hS T hT X
  cases hv
  rw [h0] at hz hk
  obtain ⟨t2, a1, b1⟩ := k r M2 hp T'.heap (locs ++ L) ls (by rw [e1]; exact hP1) hl ⟨Nat.le_trans hS.1 (by rw [e1]; exact hz), fun q h1 h2 => by rw [e1, hk q (Nat.lt_of_lt_of_le h1 hS.1) h2]; exact hS.2.1 q h1 h2, fun q hq => by
    rcases List.mem_append.mp hq with h | h
    · exact hS.2.2 q h
    · exact hL q h⟩ T' rfl X'
  exact ⟨t2, st t2 a1, b1⟩
theorem a_calll {post : Int64 → zM → Prop} (hr : zRun p l e R s m args below meth c cells slots mc ms B D aC nL pc lv st0 rest M (zQl B D aC post av)) (k : ∀ (r : Int64) (M2 : zM), post r M2 → zAt p l e R s m args below meth c (cells + mc) (slots + ms) Q B D aC nL (pc + 3) lv (.long r :: rest) M2) : zAt p l e R s m args below meth c cells slots Q B D aC nL pc lv st0 M := by
  intro H locs ls hP hl hS T hT X
  obtain ⟨v, st₀, t, T', L, h0, X', hL, e1, e2, ⟨r, M2, hv, hp, hP1, hz, hk⟩, st⟩ := hr H locs ls hP hl hS T hT X
  cases hv
  rw [h0] at hz hk
  obtain ⟨t2, a1, b1⟩ := k r M2 hp T'.heap (locs ++ L) ls (by rw [e1]; exact hP1) hl ⟨Nat.le_trans hS.1 (by rw [e1]; exact hz), fun q h1 h2 => by rw [e1, hk q (Nat.lt_of_lt_of_le h1 hS.1) h2]; exact hS.2.1 q h1 h2, fun q hq => by
    rcases List.mem_append.mp hq with h | h
    · exact hS.2.2 q h
    · exact hL q h⟩ T' rfl X'
  exact ⟨t2, st t2 a1, b1⟩
theorem a_callr {post : Nat → zM → Prop} (hr : zRun p l e R s m args below meth c cells slots mc ms B D aC nL pc lv st0 rest M (zQr B D aC post av)) (k : ∀ (r : Nat) (M2 : zM), post r M2 → zAt p l e R s m args below meth c (cells + mc) (slots + ms) Q B D aC nL (pc + 3) lv (.ref (B + r) :: rest) M2) : zAt p l e R s m args below meth c cells slots Q B D aC nL pc lv st0 M := by
  intro H locs ls hP hl hS T hT X
  obtain ⟨v, st₀, t, T', L, h0, X', hL, e1, e2, ⟨r, M2, hv, hp, hP1, hz, hk⟩, st⟩ := hr H locs ls hP hl hS T hT X
  cases hv
  rw [h0] at hz hk
  obtain ⟨t2, a1, b1⟩ := k r M2 hp T'.heap (locs ++ L) ls (by rw [e1]; exact hP1) hl ⟨Nat.le_trans hS.1 (by rw [e1]; exact hz), fun q h1 h2 => by rw [e1, hk q (Nat.lt_of_lt_of_le h1 hS.1) h2]; exact hS.2.1 q h1 h2, fun q hq => by
    rcases List.mem_append.mp hq with h | h
    · exact hS.2.2 q h
    · exact hL q h⟩ T' rfl X'
  exact ⟨t2, st t2 a1, b1⟩
theorem a_callv {post : zM → Prop} (hr : zRun p l e R s m args below meth c cells slots mc ms B D aC nL pc lv st0 rest M (zQv B D aC post av)) (k : ∀ (M2 : zM), post M2 → zAt p l e R s m args below meth c (cells + mc) (slots + ms) Q B D aC nL (pc + 3) lv (rest) M2) : zAt p l e R s m args below meth c cells slots Q B D aC nL pc lv st0 M := by
  intro H locs ls hP hl hS T hT X
  obtain ⟨v, st₀, t, T', L, h0, X', hL, e1, e2, ⟨M2, hv, hp, hP1, hz, hk⟩, st⟩ := hr H locs ls hP hl hS T hT X
  cases hv
  rw [h0] at hz hk
  obtain ⟨t2, a1, b1⟩ := k M2 hp T'.heap (locs ++ L) ls (by rw [e1]; exact hP1) hl ⟨Nat.le_trans hS.1 (by rw [e1]; exact hz), fun q h1 h2 => by rw [e1, hk q (Nat.lt_of_lt_of_le h1 hS.1) h2]; exact hS.2.1 q h1 h2, fun q hq => by
    rcases List.mem_append.mp hq with h | h
    · exact hS.2.2 q h
    · exact hL q h⟩ T' rfl X'
  exact ⟨t2, st t2 a1, b1⟩
theorem zWl_at (fx : zFx p s m args c B D aC aS nL cc own) {H : Heap} {locs : List Loc} {U : State} (hP : va_P D kcl (zcls B aC M) H) (hS : va_S (zAb B) s.heap H locs) (hU : U.heap = H) (hW : s.WarmedH U.vm) : zWl B D aC aS M U :=
  ⟨by rw [hU]; exact hP, by rw [hU]; exact zP_size hP, va_K.moved hW.alike fx.2.2.2.2.2.1.1, fx.2.2.2.2.2.1.2.warm hW (fun a h1 h2 => by rw [hU]; exact hS.2.1 a h1 h2)⟩
/-- what the tables say of a method that is called on an object -/
def zCV (y : MethodName) (C : String) (b : ByteArray) (n : Nat) (r : Option FieldType) (np : Nat) : Prop := Cond.instanceMethod y ∈ tb ∧ Cond.selects C y y ∈ tb ∧ Cond.initialized C ∈ tb ∧ Cond.code y b n r ∈ tb ∧ (y.cls = C ∧ y.cls ≠ "java/lang/invoke/MethodHandle" ∧ y.cls ≠ "java/lang/invoke/VarHandle" ∧ (parseMethodDescriptor y.desc).map (fun d => d.parameters.length) = some np)
def zCS (y : MethodName) (b : ByteArray) (n : Nat) (r : Option FieldType) (np : Nat) : Prop := Cond.static y ∈ tb ∧ Cond.initialized y.cls ∈ tb ∧ Cond.code y b n r ∈ tb ∧ (y.cls ≠ "java/lang/invoke/MethodHandle" ∧ y.cls ≠ "java/lang/invoke/VarHandle" ∧ (parseMethodDescriptor y.desc).map (fun d => d.parameters.length) = some np)
theorem z_good {w : Cond} (h : w ∈ tb) : w ∈ tb ∧ ((w.onTables && w.keeps) = true ∨ ∃ ty, w = .arrayClass ty) := ⟨h, good_of_word (tb_good w h)⟩
theorem z_goodwo {y : MethodName} {b : ByteArray} {n : Nat} {r : Option FieldType} (h : Cond.code y b n r ∈ tb) : GoodIn tb (wo y b n r) := by
  intro w hw
  rcases List.mem_cons.mp hw with e | e
  · rw [e]; exact z_good h
  · exact z_good e
theorem a_runV (fx : zFx p s m args c B D aC aS nL cc own) {y : MethodName} {C : String} {b : ByteArray} {mx np : Nat} {ret : Option FieldType} {index k t N : Nat} {T : u_T} {rm : Room} {As : List Value} {Qc : Array Value → State → Outcome → State → Prop} (cv : zCV y C b mx ret np) (hl : Cond.methodLink own index y ∈ tb)
    (hM : Met l y (wo y b mx ret) rm (va_Pc (.ref (B + k) :: As) (zWl B D aC aS M)) Qc mc ms (zAb B)) (hk : k < N0) (ht : tg k = t) (ht2 : t < 20) (hc : kcl[t]? = some (C, T, N)) (hn : As.length = np) (hst : st0 = As.reverse ++ .ref (B + k) :: rest) (hw : (rest.map fun v => v.category).sum ≤ 8)
    (hrc : rm.cells = mc) (hrs : rm.slots = ms) (hR : rm.frames + 1 ≤ R.frames ∧ 8 + (mx + 11) + rm.locals ≤ R.locals) (hd : decode cc pc = .ok (.invokevirtual index, 3)) (hf : cells + mc ≤ R.cells ∧ slots + ms ≤ R.slots) : zRun p l e R s m args below meth c cells slots mc ms B D aC nL pc lv st0 rest M (Qc (Value.ref (B + k) :: As).toArray) := by
  intro H locs ls hP hlv hS
  subst hst
  obtain ⟨v1, v2, v3, v4, v5⟩ := cv
  refine va_runV (C := C) (bytes := b) (maxL := mx) (ret := ret) (Ts := tb) ⟨fx.1, fx.2.1, fx.2.2.1, fx.2.2.2.1, fx.2.2.2.2.1⟩ hM (cwV np fx.2.2.2.2.1 ?_ rfl hrc hrs v5 hR) ⟨fun a U g mk q => ⟨q.1, q.2.blind⟩, va_recv fx.2.2.2.2.2.1.1 hP hc ((zcls_at hk).trans (by rw [zcel_o ht ht2])), fun U hU hW => ⟨rfl, zWl_at fx hP hS hU hW⟩⟩ rfl hn hlv.1 rfl (lv_room hw) hd hf
  intro w hw
  rcases List.mem_append.mp hw with h | h
  · simp only [List.mem_cons, List.not_mem_nil, or_false] at h
    rcases h with h | h | h | h <;> (rw [h]; apply z_good; assumption)
  · exact z_goodwo v4 w h
theorem a_runVs (fx : zFx p s m args c B D aC aS nL cc own) {y : MethodName} {b : ByteArray} {mx np : Nat} {ret : Option FieldType} {index i : Nat} {rm : Room} {As : List Value} {Qc : Array Value → State → Outcome → State → Prop} (cv : zCV y "java/lang/String" b mx ret np) (hl : Cond.methodLink own index y ∈ tb)
    (hM : Met l y (wo y b mx ret) rm (va_Pc (.ref (aS i) :: As) (zWl B D aC aS M)) Qc mc ms (zAb B)) (hi : i < 9) (hn : As.length = np) (hst : st0 = As.reverse ++ .ref (aS i) :: rest) (hw : (rest.map fun v => v.category).sum ≤ 8)
    (hrc : rm.cells = mc) (hrs : rm.slots = ms) (hR : rm.frames + 1 ≤ R.frames ∧ 8 + (mx + 11) + rm.locals ≤ R.locals) (hd : decode cc pc = .ok (.invokevirtual index, 3)) (hf : cells + mc ≤ R.cells ∧ slots + ms ≤ R.slots) : zRun p l e R s m args below meth c cells slots mc ms B D aC nL pc lv st0 rest M (Qc (Value.ref (aS i) :: As).toArray) := by
  intro H locs ls hP hlv hS
  subst hst
  obtain ⟨v1, v2, v3, v4, v5⟩ := cv
  refine va_runV (C := "java/lang/String") (bytes := b) (maxL := mx) (ret := ret) (Ts := tb) ⟨fx.1, fx.2.1, fx.2.2.1, fx.2.2.2.1, fx.2.2.2.2.1⟩ hM (cwV np fx.2.2.2.2.1 ?_ rfl hrc hrs v5 hR) ⟨fun a U g mk q => ⟨q.1, q.2.blind⟩, vk_recv fx.2.2.2.2.2.1.2.2.1 hi hS, fun U hU hW => ⟨rfl, zWl_at fx hP hS hU hW⟩⟩ rfl hn hlv.1 rfl (lv_room hw) hd hf
  intro w hw
  rcases List.mem_append.mp hw with h | h
  · simp only [List.mem_cons, List.not_mem_nil, or_false] at h
    rcases h with h | h | h | h <;> (rw [h]; apply z_good; assumption)
  · exact z_goodwo v4 w h
theorem a_runS (fx : zFx p s m args c B D aC aS nL cc own) {y : MethodName} {b : ByteArray} {mx np : Nat} {ret : Option FieldType} {index : Nat} {rm : Room} {As : List Value} {Qc : Array Value → State → Outcome → State → Prop} (cv : zCS y b mx ret np) (hl : Cond.methodLink own index y ∈ tb)
    (hM : Met l y (wo y b mx ret) rm (va_Pc As (zWl B D aC aS M)) Qc mc ms (zAb B)) (hn : As.length = np) (hst : st0 = As.reverse ++ rest) (hw : (rest.map fun v => v.category).sum ≤ 8)
    (hrc : rm.cells = mc) (hrs : rm.slots = ms) (hR : rm.frames + 1 ≤ R.frames ∧ 8 + (mx + 11) + rm.locals ≤ R.locals) (hd : decode cc pc = .ok (.invokestatic index, 3)) (hf : cells + mc ≤ R.cells ∧ slots + ms ≤ R.slots) : zRun p l e R s m args below meth c cells slots mc ms B D aC nL pc lv st0 rest M (Qc As.toArray) := by
  intro H locs ls hP hlv hS
  subst hst
  obtain ⟨v1, v2, v3, v5⟩ := cv
  refine va_runS (bytes := b) (maxL := mx) (ret := ret) (Ts := tb) ⟨fx.1, fx.2.1, fx.2.2.1, fx.2.2.2.1, fx.2.2.2.2.1⟩ hM (va_cwS np fx.2.2.2.2.1 ?_ rfl hrc hrs v5 hR) ⟨fun a U g mk q => ⟨q.1, q.2.blind⟩, fun U hU hW => ⟨rfl, zWl_at fx hP hS hU hW⟩⟩ rfl hn hlv.1 rfl (lv_room hw) hd hf
  intro w hw
  rcases List.mem_append.mp hw with h | h
  · simp only [List.mem_cons, List.not_mem_nil, or_false] at h
    rcases h with h | h | h <;> (rw [h]; apply z_good; assumption)
  · exact z_goodwo v3 w h
theorem a_runSN (fx : zFx p s m args c B D aC aS nL cc own) {y : MethodName} {b : ByteArray} {mx np : Nat} {ret : Option FieldType} {index : Nat} {host : String} (q9 : Nat) {rm : Room} {As : List Value} {Qc : Array Value → State → Outcome → State → Prop} (cv : zCS y b mx ret np) (hl : nestM[q9]? = some (own, index, y, host))
    (hM : Met l y (wo y b mx ret) rm (va_Pc As (zWl B D aC aS M)) Qc mc ms (zAb B)) (hn : As.length = np) (hst : st0 = As.reverse ++ rest) (hw : (rest.map fun v => v.category).sum ≤ 8)
    (hrc : rm.cells = mc) (hrs : rm.slots = ms) (hR : rm.frames + 1 ≤ R.frames ∧ 8 + (mx + 11) + rm.locals ≤ R.locals) (hd : decode cc pc = .ok (.invokestatic index, 3)) (hf : cells + mc ≤ R.cells ∧ slots + ms ≤ R.slots) : zRun p l e R s m args below meth c cells slots mc ms B D aC nL pc lv st0 rest M (Qc As.toArray) := by
  intro H locs ls hP hlv hS
  subst hst
  obtain ⟨v1, v2, v3, v5⟩ := cv
  exact va_runSN (bytes := b) (maxL := mx) (ret := ret) (Ts := tb) ⟨fx.1, fx.2.1, fx.2.2.1, fx.2.2.2.1, fx.2.2.2.2.1⟩ hM ⟨va_cnB np fx.2.2.2.2.1 (z_goodwo v3) rfl hrc hrs (fx.2.2.2.2.2.1.2.2.2.2.2.2.2.2.2.1 _ (List.mem_of_getElem? hl)) (fx.2.2.2.2.1 _ v2) v5 hR, fx.2.2.2.2.1 _ v1, trivial⟩ ⟨fun a U g mk q => ⟨q.1, q.2.blind⟩, fun U hU hW => ⟨rfl, zWl_at fx hP hS hU hW⟩⟩ rfl hn hlv.1 rfl (lv_room hw) hd hf
/-- a contract is met, if the walk from its entry meets it -/
theorem z_met {y : MethodName} {b : ByteArray} {mx : Nat} {ret : Option FieldType} {rm : Room} {as : List Value} {lv0 : List (Nat × Value)} {Qc : Array Value → State → Outcome → State → Prop} (hy : plainName y.cls = true) (ho : y.cls = own) (hlen : (lg_sl as).length ≤ mx) (hlv : lv_args 0 as = lv0)
    (body : ∀ p e s m below meth c, zFx p s m as.toArray c B D aC aS mx b own → meth.sig.returnType = ret → meth.locks = false → zAt p l e rm s m as.toArray below meth c 0 0 (MQ below Qc as.toArray s mc ms (zAb B)) B D aC mx 0 lv0 [] M) : Met l y (wo y b mx ret) rm (va_Pc as (zWl B D aC aS M)) Qc mc ms (zAb B) := by
  refine Met.ofW (cc := b) (maxL := mx) (ret := ret) hy rfl ?_
  intro p e s m args below meth c s₁ BB hml hv
  obtain ⟨rfl, hP, hsz, hC⟩ := hv
  subst ho
  have hl := lv_entry as (n := mx) hlen
  rw [lg_entry_eq]
  rw [hlv] at hl
  exact body p e s m below meth c ⟨BB.exec, BB.bytes, hml, findClass_of_methodNamed BB.named, fun w hw => atoms_spec (ws := wo y b mx ret) BB.pre w (List.mem_cons_of_mem _ hw), hC, trivial, zcls_ns hP⟩ BB.returns BB.notSynchronized s.heap [] _ hP hl va_S.rf
theorem a_mmax (fx : zFx p s m args c B D aC aS nL cc own) {index : Nat} {x y : Int32} (h1 : Cond.methodLink own index Lib.Math.max.name ∈ tb) (h2 : Cond.static Lib.Math.max.name ∈ tb) (h3 : Cond.initialized "java/lang/Math" ∈ tb) (h4 : Cond.code Lib.Math.max.name Lib.Math.max.code 2 (some .int) ∈ tb) (hf : 1 ≤ R.frames) (hlo : (st.map fun v => v.category).sum + 13 ≤ R.locals) (hc : cells ≤ R.cells) (hs : slots ≤ R.slots) (hd : decode cc pc = .ok (.invokestatic index, 3)) (k : zAt p l e R s m args below meth c cells slots Q B D aC nL (pc + 3) lv (.int (if x < y then y else x) :: st) M) : zAt p l e R s m args below meth c cells slots Q B D aC nL pc lv (.int y :: .int x :: st) M := fun H locs ls hP hl hS =>
  va_mmax fx.1 fx.2.1 (fx.2.2.1.trans hl.1.symm) fx.2.2.2.1 (fx.2.2.2.2.1 _ h1) (fx.2.2.2.2.1 _ h2) (fx.2.2.2.2.1 _ h3) (fx.2.2.2.2.1 _ h4) hf hlo hc hs hd (k H locs ls hP hl hS)
theorem a_mmin (fx : zFx p s m args c B D aC aS nL cc own) {index : Nat} {x y : Int32} (h1 : Cond.methodLink own index Lib.Math.min.name ∈ tb) (h2 : Cond.static Lib.Math.min.name ∈ tb) (h3 : Cond.initialized "java/lang/Math" ∈ tb) (h4 : Cond.code Lib.Math.min.name Lib.Math.min.code 2 (some .int) ∈ tb) (hf : 1 ≤ R.frames) (hlo : (st.map fun v => v.category).sum + 13 ≤ R.locals) (hc : cells ≤ R.cells) (hs : slots ≤ R.slots) (hd : decode cc pc = .ok (.invokestatic index, 3)) (k : zAt p l e R s m args below meth c cells slots Q B D aC nL (pc + 3) lv (.int (if y < x then y else x) :: st) M) : zAt p l e R s m args below meth c cells slots Q B D aC nL pc lv (.int y :: .int x :: st) M := fun H locs ls hP hl hS =>
  va_mmin fx.1 fx.2.1 (fx.2.2.1.trans hl.1.symm) fx.2.2.2.1 (fx.2.2.2.2.1 _ h1) (fx.2.2.2.2.1 _ h2) (fx.2.2.2.2.1 _ h3) (fx.2.2.2.2.1 _ h4) hf hlo hc hs hd (k H locs ls hP hl hS)
theorem a_copy (fx : zFx p s m args c B D aC aS nL cc own) {index k1 k2 : Nat} {sp dp n : Int32} (h1 : Cond.methodLink own index arraycopyName ∈ tb) (h2 : Cond.native arraycopyName ∈ tb) (h3 : Cond.static arraycopyName ∈ tb) (h4 : Cond.initialized "java/lang/System" ∈ tb) (hk1 : k1 < N0) (ht1 : tg k1 = 20) (hk2 : k2 < N0) (ht2 : tg k2 = 20) (hsp : ¬ sp < 0) (hdp : ¬ dp < 0) (hn : ¬ n < 0) (hs1 : sp.toNatClampNeg + n.toNatClampNeg ≤ ln k1) (hs2 : dp.toNatClampNeg + n.toNatClampNeg ≤ ln k2) (hfit : ∀ i, i < n.toNatClampNeg → fits .byte (.int (M.1 k1 (sp.toNatClampNeg + i))) = true)
    (hf : 1 ≤ R.frames) (hlo : (st.map fun v => v.category).sum + (nativeFrameWords "java/lang/System" "arraycopy" 5 + 11) ≤ R.locals) (hd : decode cc pc = .ok (.invokestatic index, 3)) (k : zAt p l e R s m args below meth c cells slots Q B D aC nL (pc + 3) lv st (zA M k2 (va_cpy (M.1 k1) (M.1 k2) sp.toNatClampNeg dp.toNatClampNeg n.toNatClampNeg))) : zAt p l e R s m args below meth c cells slots Q B D aC nL pc lv (.int n :: .int dp :: .ref (B + k2) :: .int sp :: .ref (B + k1) :: st) M := by
  intro H locs ls hP hl hS
  refine va_copyi (ty := .byte) fx.1 fx.2.1 (fx.2.2.1.trans hl.1.symm) fx.2.2.2.1 (fx.2.2.2.2.1 _ h1) (fx.2.2.2.2.1 _ h2) (fx.2.2.2.2.1 _ h3) (fx.2.2.2.2.1 _ h4) fx.2.2.2.2.2.1.1 hP zcls_D hS k1 k2 0 0 ((zcls_at hk1).trans (by rw [zcel_i ht1 (by decide) (by decide)])) ((zcls_at hk2).trans (by rw [zcel_i ht2 (by decide) (by decide)])) rfl rfl rfl hsp hdp hn hs1 hs2 hfit hf hlo hd (fun H1 locs1 hP1 _ hS1 => ?_)
  rw [zcls_set (M := M) (M' := zA M k2 (va_cpy (M.1 k1) (M.1 k2) sp.toNatClampNeg dp.toNatClampNeg n.toNatClampNeg)) hk2 _ (by rw [zcel_i ht2 (by decide) (by decide), zA_s]) (fun a ha => zcel_same (zA_o ha) rfl rfl)] at hP1
  exact k H1 locs1 ls hP1 hl hS1
end CALLS
