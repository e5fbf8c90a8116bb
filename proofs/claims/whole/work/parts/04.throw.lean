/-! What is thrown: contracts of methods that may throw, their calls, and what is caught. -/
/-- a contract of a method that returns or throws -/
def MetT (l : Launch) (y : MethodName) (ws : List Cond) (rm : Room) (Pc : Array Value → State → Prop) (Qc : Array Value → State → Outcome → State → Prop) (mc ms : Nat) (free : Addr → Prop) : Prop :=
  MetFree l y (headSpec ws rm) Pc (fun _ _ _ _ _ => True) (fun a st o t => Qc a st o t ∧ st.WarmedH t.vm ∧ ∃ L, st.sameButNew ({ t with vm := st.vm } : State) L mc ms ∧ ∀ q ∈ L, free q.base)
def MQT (below : List Frame) (Qc : Array Value → State → Outcome → State → Prop) (a : Array Value) (s : State) (mc ms : Nat) (free : Addr → Prop) : State → Prop := fun t =>
  ∃ o, t.status = .running ∧ Ended t below o ∧ Qc a s o t ∧ s.WarmedH t.vm ∧ ∃ L, s.sameButNew ({ t with vm := s.vm } : State) L mc ms ∧ ∀ q ∈ L, free q.base
/-- behind a method that may throw -/
def zQT (B : Nat) (D : va_G) (aC : Nat → ClassId) (post : Option Value → zM → Prop) (postT : Nat → zM → Prop) : Array Value → State → Outcome → State → Prop := fun _ st oc t =>
  ∃ M, va_P D kcl (zcls B aC M) t.heap ∧ va_F (zAb B) st t ∧ ((∃ v, oc = .returned v ∧ post v M) ∨ ∃ (x k : Nat) (cell : Cell), oc = .threw x ∧ postT k M ∧ t.heap[x]? = some cell ∧ cell.vm.isStatics = false ∧ st.vm.findClass (exN k) = some cell.cls)
section THR
variable {p : Program} {l : Launch} {e : Env} {R : Room} {s : State} {m : MethodId} {args : Array Value} {below : List Frame} {meth : Method} {c : Code} {T : State} {locs : List Loc} {cells slots : Nat}
theorem MetT.ofW {y : MethodName} {ws ws' : List Cond} {rm : Room} {Pc : Array Value → State → Prop} {Qc : Array Value → State → Outcome → State → Prop} {mc ms : Nat} {free : Addr → Prop} {cc : ByteArray} {maxL : Nat} {ret : Option FieldType}
    (hy : plainName y.cls = true) (hw : ws = Cond.code y cc maxL ret :: ws')
    (body : ∀ p e s m args below meth c s₁, BodyLoose p l y (headSpec ws rm) cc maxL ret e s m args below meth c s₁ → c.maxLocals = maxL → Pc args s →
      W p l e (headSpec ws rm).room s m args below meth c s.heap [] 0 0 (MQT below Qc args s mc ms free) (entryFrame m args maxL)) : MetT l y ws rm Pc Qc mc ms free := by
  refine MetFree.of_bodyS (code := cc) (maxLocals := maxL) (ret := ret) hy ?_ ?_
  · intro args s m h hn
    obtain ⟨meth, c, h1, h2, h3, h4, h5, h6, -, -⟩ := Cond.code_spec hn (atoms_spec (ws := ws) h _ (by rw [hw]; exact List.mem_cons_self))
    exact ⟨meth, c, h1, h2, h3, h4, h5, h6⟩
  · intro p e s m args below meth c s₁ BB hml hP _
    have hh0 : s₁.heap = s.heap := by rw [BB.state]; rfl
    obtain ⟨t, a1, o, b1, b2, b3⟩ := body p e s m args below meth c s₁ BB hml hP s₁ hh0 (Stand.of_body BB)
    exact ⟨t, o, a1, b1, b2, b3⟩
/-- a call of a method that may throw: it returns, or its exception lies over the caller's frame -/
theorem z_callT {y : MethodName} {ws : List Cond} {rm : Room} {Pc : Array Value → State → Prop} {Qc : Array Value → State → Outcome → State → Prop} {mc ms : Nat} {free : Addr → Prop} {bytes : ByteArray} {maxL W0 : Nat} {ret : Option FieldType}
    (X : Stand p l e R s m args below meth c T locs cells slots) (hM : MetT l y ws rm Pc Qc mc ms free) {g : JFrame} (hg : g.method = m) (hsize : g.locals.size = c.maxLocals) {ig : Instr} (hdg : decode c.code g.pc = .ok (ig, 3))
    (hW : 2 * g.monitorRoom + (g.stack.map fun v => v.category).sum ≤ W0) {mk : MethodId} (hn : T.methodNamed? y = some mk) {a : Array Value}
    (hframes : rm.frames + 1 ≤ R.frames) (hlocals : W0 + (maxL + 11) + rm.locals ≤ R.locals) (hrc : rm.cells = mc) (hrs : rm.slots = ms) (h4 : cells + mc ≤ R.cells) (h5 : slots + ms ≤ R.slots)
    (h1 : (headSpec ws rm).pre.before a T = true) (h2 : (Cond.code y bytes maxL ret).before a T = true) (h3 : (Cond.initialized y.cls).before a T = true) (hP : Pc a (T.calling g mk a)) :
    ∃ (o : Outcome) (T' t : State) (L : List Loc), Stand p l e R s m args below meth c T' (locs ++ L) (cells + mc) (slots + ms) ∧ (∀ q ∈ L, free q.base) ∧ T'.heap = t.heap ∧ T'.vm = t.vm ∧ Qc a (T.calling g mk a) o t ∧
      ((∃ v, o = .returned v ∧ Steps p.tables e below (doInvoke e (T.setTop g) [] mk a).1 (T'.setTop { g with pc := g.pc + 3, stack := v.toList ++ g.stack })) ∨
        ∃ x, o = .threw x ∧ Steps p.tables e below (doInvoke e (T.setTop g) [] mk a).1 ((T'.setTop g).pushFrame (.throwing x))) := by
  obtain ⟨methY, cY, hmY, hcY, -, hlY, -, -, -, -⟩ := Cond.code_spec hn h2
  obtain ⟨kY, hkY, -⟩ := className_of_methodNamed hn
  have hinitY : kY.init = .initialized := Cond.initialized_spec (findClass_of_methodNamed hn) hkY h3
  have h : _root_.Jvm.At T g.method c below := by rw [hg]; exact X.here
  have happ : (headSpec ws rm).appliesLoose y e.platform (T.calling g mk a) = true :=
    Spec.appliesLoose_calling (g := g) h hdg hn hkY hinitY
      (X.room_calling (g := g) (R' := (headSpec ws rm).room) hsize hmY hcY hframes (by rw [hlY]; show _ + rm.locals ≤ _; omega) (by show cells + rm.cells ≤ _; omega) (by show slots + rm.slots ≤ _; omega)) h1
  obtain ⟨mid, hmid⟩ := h.above
  have hfr : (T.setTop g).frames = (.java g :: mid) ++ below := by rw [State.frames_setTop' g h.top, hmid]; rfl
  obtain ⟨o, s₂, hsteps, -, hend, hq, hW₂, L, hsm, hL⟩ := Steps.callFree hM p X.admits X.cas X.clock (acts := []) hfr happ hP trivial
  rw [State.frames_setTop' g h.top, X.tail] at hend
  cases o with
  | returned v =>
    obtain ⟨T', X', e1, e2, e4⟩ := X.outOf hg hdg hend hW₂ hsm
    exact ⟨_, T', s₂, L, X', hL, by rw [e4]; simp, by rw [e4]; simp, hq, Or.inl ⟨v, rfl, by rw [← e4]; exact hsteps⟩⟩
  | threw x =>
    obtain ⟨T', X', e1, e2, e4⟩ := X.outOfThrown hg hend hW₂ hsm
    exact ⟨_, T', s₂, L, X', hL, by rw [e4]; simp [State.pushFrame], by rw [e4]; simp [State.pushFrame], hq, Or.inr ⟨x, rfl, by rw [← e4]; exact hsteps⟩⟩
theorem z_mono {Q Q' : State → Prop} {H : Heap} {g : JFrame} (h : ∀ t, Q t → Q' t) (w : W p l e R s m args below meth c H locs cells slots Q g) : W p l e R s m args below meth c H locs cells slots Q' g := by
  intro T hT X
  obtain ⟨t, a, b⟩ := w T hT X
  exact ⟨t, a, h t b⟩
theorem MQ.toT {Qc : Array Value → State → Outcome → State → Prop} {mc ms : Nat} {free : Addr → Prop} {t : State} (h : MQ below Qc args s mc ms free t) : MQT below Qc args s mc ms free t := by
  obtain ⟨o, h1, h2, h3, L, ⟨-, h4, h5⟩, h6⟩ := h
  exact ⟨o, h1, h2, h3, h4, L, h5, h6⟩
end THR
section THR2
variable {p : Program} {l : Launch} {e : Env} {R : Room} {s : State} {m : MethodId} {args : Array Value} {below : List Frame} {meth : Method} {c : Code} {cells slots mc ms : Nat} {Q : State → Prop} {B : Nat} {D : va_G} {aC : Nat → ClassId} {aS : Nat → Nat} {nL : Nat} {cc : ByteArray} {own : String} {pc : Nat} {lv lv2 : List (Nat × Value)} {st rest st0 : List Value} {M : zM} {av : Array Value} {post : Option Value → zM → Prop} {postT : Nat → zM → Prop}
theorem a_widen (h1 : cells ≤ mc) (h2 : slots ≤ ms) (k : zAt p l e R s m args below meth c mc ms Q B D aC nL pc lv st M) : zAt p l e R s m args below meth c cells slots Q B D aC nL pc lv st M := fun H locs ls hP hl hS => W.widen h1 h2 (k H locs ls hP hl hS)
theorem a_iretT (fx : zFx p s m args c B D aC aS nL cc own) (hlo : meth.locks = false) (hr : meth.sig.returnType = some .int) {v : Int32} (h : post (some (.int v)) M) (hd : decode cc pc = .ok (.ireturn, 1)) : zAt p l e R s m args below meth c cells slots (MQT below (zQT B D aC post postT) args s cells slots (zAb B)) B D aC nL pc lv [.int v] M := fun H locs ls hP hl hS => z_mono (fun _ => MQ.toT) (W.iret fx.1 fx.2.1 hr (fun t ht hW => ⟨M, by rw [ht]; exact hP, hS.F ht, Or.inl ⟨_, rfl, h⟩⟩) hS.2.2 hd)
theorem a_vretT (fx : zFx p s m args c B D aC aS nL cc own) (hlo : meth.locks = false) (hr : meth.sig.returnType = none) (h : post none M) (hd : decode cc pc = .ok (.return_, 1)) : zAt p l e R s m args below meth c cells slots (MQT below (zQT B D aC post postT) args s cells slots (zAb B)) B D aC nL pc lv [] M := fun H locs ls hP hl hS => z_mono (fun _ => MQ.toT) (W.vret fx.1 fx.2.1 hr (fun t ht hW => ⟨M, by rw [ht]; exact hP, hS.F ht, Or.inl ⟨_, rfl, h⟩⟩) hS.2.2 hd)
theorem z_isRef {C n d : String} {A : Nat → Prop} {a : Array Value} {U : State} (h : va_Zq C n d A U U.heap) : (Cond.isRef (.static C n d)).before a U = true := by
  rcases h with ⟨cf, kf, fi, f, ad, cell, h1, h2, h3, h4, h5, h6, h7, h8⟩ | ⟨t, cf, kf, fi, f, ad, cell, h1, h2, h3, h4, h5, h6, h7, h8⟩
  · simp [Cond.before, Cond.holds, Cond.value, Term.eval, State.fieldNamed?, h1, h2, h4, h5, h6, h7]
  · simp [Cond.before, Cond.holds, Cond.value, Term.eval, State.fieldNamed?, h1, h2, h4, h5, h6, h7]
theorem z_rebase {T : State} {locs : List Loc} (X : Stand p l e R s m args below meth c T locs cells slots) (h1 : cells ≤ R.cells) (h2 : slots ≤ R.slots) :
    Stand p l e { R with cells := R.cells - cells, slots := R.slots - slots } ({ s with heap := T.heap, slotsUsed := T.slotsUsed } : State) m args below meth c T [] 0 0 := by
  refine ⟨X.admits, X.cas, X.clock, X.frames, ?_, X.hears, X.method, X.code, X.here, X.tail, X.warmed, X.limits, X.bytes, ?_⟩
  · have hr := X.room
    have hc := X.cellsAbove (n := R.cells - cells) (by omega)
    have hs := X.slotsAbove (n := R.slots - slots) (by omega)
    have hb := X.book
    simp only [State.hasRoom, Bool.and_eq_true, decide_eq_true_eq] at hr ⊢
    obtain ⟨⟨⟨⟨r1, r2⟩, r3⟩, r4⟩, r5⟩ := hr
    exact ⟨⟨⟨⟨r1, r2⟩, hc⟩, hs⟩, hb⟩
  · obtain ⟨e1, -⟩ := X.same
    refine ⟨e1, Nat.le_refl _, Nat.le_refl _, ?_, ?_, fun a c hc => ⟨c, hc, rfl, rfl, fun _ _ => rfl⟩⟩
    · show T.slotsUsed = T.slotsUsed + ((T.heap.toList.drop T.heap.size).map (·.slots.size)).sum
      rw [List.drop_eq_nil_of_le (by simp)]
      rfl
    · show ((T.heap.toList.drop T.heap.size).map (·.slots.size)).sum ≤ 0
      rw [List.drop_eq_nil_of_le (by simp)]
      exact Nat.le_refl _
set_option maxHeartbeats 4000000 in
/-- new X(); athrow: the exception leaves the method -/
theorem a_throw (fx : zFx p s m args c B D aC aS nL cc own) (hfl : l.flags = pinnedFlags ++ [noTraceFlag]) (hlo : meth.locks = false) (hno : c.exceptionTable.isEmpty = true) (k : Nat) (hk1 : 1 ≤ k) (hk4 : k ≤ 4) {i1 i2 : Nat}
    (hcl : Cond.classLink own i1 (exN k) ∈ tb) (hins : Cond.instantiable (exN k) 6 ∈ tb) (hini : Cond.initialized (exN k) ∈ tb) (hfit : Bundle.fit (exN k) = true)
    (hat : ∀ w ∈ Bundle.ownAtoms0 own i2 (exN k) ["java/lang/RuntimeException", "java/lang/Exception"], w ∈ tb ∨ w = .castable (exN k) (exN k) ∨ w = .isRef (.static Bundle.tN "UNASSIGNED_STACK" Bundle.steD) ∨ w = .isRef (.static Bundle.tN "SUPPRESSED_SENTINEL" Bundle.listD) ∨ (∃ q ∈ chainL, w = .declares ⟨q, "<init>", "()V"⟩) ∨ w = .laysStatic Bundle.tN "UNASSIGNED_STACK" Bundle.steD ∨ w = .laysStatic Bundle.tN "SUPPRESSED_SENTINEL" Bundle.listD)
    (hRf : 5 < R.frames) (hRl : (st.map fun v => v.category).sum + 90 ≤ R.locals) (hRc : cells + 1 ≤ R.cells) (hRs : slots + 6 ≤ R.slots)
    (d1 : decode cc pc = .ok (.new i1, 3)) (d2 : decode cc (pc + 3) = .ok (.dup, 1)) (d3 : decode cc (pc + 4) = .ok (.invokespecial i2, 3)) (d4 : decode cc (pc + 7) = .ok (.athrow, 1)) (h : postT k M) :
    zAt p l e R s m args below meth c cells slots (MQT below (zQT B D aC post postT) args s (cells + 1) (slots + 6) (zAb B)) B D aC nL pc lv st M := by
  intro H locs ls hP hl hS T0 hT0 X0
  have X1 := z_rebase X0 (by omega) (by omega)
  obtain ⟨sv, hsv⟩ : ∃ sv : State, sv = ({ s with heap := T0.heap, slotsUsed := T0.slotsUsed } : State) := ⟨_, rfl⟩
  rw [← hsv] at X1
  have hsvh : sv.heap = H := by rw [hsv]; exact hT0
  have hsvm : sv.vm = s.vm := by rw [hsv]
  obtain ⟨R', hR'⟩ : ∃ R' : Room, R' = { R with cells := R.cells - cells, slots := R.slots - slots } := ⟨_, rfl⟩
  rw [← hR'] at X1
  have hRc' : 0 + 1 ≤ R'.cells := by rw [hR']; show 0 + 1 ≤ R.cells - cells; omega
  have hRs' : 0 + 6 ≤ R'.slots := by rw [hR']; show 0 + 6 ≤ R.slots - slots; omega
  have hRf' : 5 < R'.frames := by rw [hR']; exact hRf
  have hRl' : (st.map fun v => v.category).sum + 90 ≤ R'.locals := by rw [hR']; exact hRl
  have hWs : s.WarmedH sv.vm := by rw [hsvm]; exact State.WarmedH.refl s
  have hC1 : zCx B D aC aS sv := (zWl_at (U := sv) fx hP hS hsvh hWs).2.2
  obtain ⟨hx, hb, hml, hown, hts, hC, hsz, hns⟩ := fx
  have hts1 : ∀ w ∈ tb, w.before args sv = true := fun w hw => word_at hWs (good_of_word (tb_good w hw)) (hts w hw)
  have hown1 : sv.vm.findClass own = some m.cls := by rw [hsvm]; exact hown
  have w1 : W p l e R' sv m args below meth c H [] 0 0
      (fun U => U.status = .running ∧ Ended U below (.threw H.size) ∧ sv.WarmedH U.vm ∧ sv.sameButNew ({ U with vm := sv.vm } : State) [] 1 6 ∧ ∃ ce, U.heap[H.size]? = some ce ∧ ce.vm.isStatics = false ∧ sv.vm.findClass (exN k) = some ce.cls) (F0 m pc ls st) := by
    have q1 := hts1 _ hcl
    have q2 := hts1 _ hins
    have q3 := hts1 _ hini
    refine W.newc hx hb hown1 q1 q2 q3 rfl d1 hRc' hRs' (fun cC kC g1 g2 g3 g4 => ?_)
    refine lv_dup hx hb d2 rfl ?_
    intro T hT X
    have hce : T.heap[H.size]? = some (freshCell cC kC) := by rw [hT]; simp [freshCell]
    have hat1 : ∀ w ∈ Bundle.ownAtoms0 own i2 (exN k) ["java/lang/RuntimeException", "java/lang/Exception"], w.before args sv = true := fun w hw => by
        rcases hat w hw with q | q | q | q | ⟨n, hn, q⟩ | q | q
        · exact hts1 w q
        · rw [q]; exact va_Nw.use rfl (hC1.2.2.2.2.2.2.2.2.2.2.1 k hk1 hk4)
        · rw [q]; exact z_isRef hC1.2.2.2.2.2.1
        · rw [q]; exact z_isRef hC1.2.2.2.2.2.2.1
        · rw [q]; exact va_Nw.use rfl (hC1.2.2.2.2.2.2.2.2.2.2.2.2.1 n hn)
        · rw [q]; exact hC1.2.2.2.2.2.2.2.2.2.2.2.2.2.1.use
        · rw [q]; exact hC1.2.2.2.2.2.2.2.2.2.2.2.2.2.2.use
    have hRl2 : 2 * (F0 m (pc + 3 + 1) ls (.ref H.size :: .ref H.size :: st)).monitorRoom + ((Value.ref H.size :: st).map fun v => v.category).sum + (13 * ((["java/lang/RuntimeException", "java/lang/Exception"] : List String).length + 1) + 41) ≤ R'.locals := by
      show 2 * 0 + (1 + (List.map (fun v => v.category) st).sum) + (13 * (2 + 1) + 41) ≤ R'.locals
      omega
    have hnew : sv.heap.size ≤ H.size := by rw [hsvh]; exact Nat.le_refl _
    obtain ⟨U, s1, s2, s3, s4, s5, ce, c1, c2⟩ := X.ctorThrow0 hx (Launch.traces_off hfl X.admits) (own := own) (cls := exN k) (names := ["java/lang/RuntimeException", "java/lang/Exception"]) (ic := i2) hown1 hfit (by decide +kernel) hat1
      (fun x hx => by cases hx) g1 g2 hce hnew (g := F0 m (pc + 3 + 1) ls (.ref H.size :: .ref H.size :: st)) rfl (by rw [hml]; exact hl.1) rfl rfl rfl (by rw [hb]; exact d3) (by rw [hb]; exact d4) (fun x hx => by rw [Array.isEmpty_iff] at hno; rw [hno] at hx; cases hx) hRf' hRl2
    exact ⟨U, s1, s2, s3, s4, s5, ce, c1, by rw [c2.vm]; rfl, c2.cls⟩
  obtain ⟨U, a1, s2, s3, s4, s5, ce, c1, c2, c3⟩ := w1 T0 hT0 X1
  rw [hsvm] at s5 c3
  have hWU : s.WarmedH U.vm := State.WarmedH.trans hWs s4
  have hsame : s.sameButNew ({ U with vm := s.vm } : State) locs (cells + 1) (slots + 6) := by
    have e0 := X0.same.1
    have h1 : (T0.setVm s.vm).sameButNew ({ U with vm := s.vm } : State) [] 1 6 := by
      subst hsv
      obtain ⟨e1, e2, e3, e4, e5, e6⟩ := s5
      refine ⟨?_, e2, e3, e4, e5, e6⟩
      refine e1.trans ?_
      generalize ({ U with vm := s.vm } : State).frames = F
      have e7 : (T0.setVm s.vm).setFrames F = ({ s.setFrames F with heap := T0.heap, slotsUsed := T0.slotsUsed } : State) := by
        rw [e0]
        show ({ (s.setFrames (T0.setVm s.vm).frames).setFrames F with heap := T0.heap, slotsUsed := T0.slotsUsed } : State) = _
        rw [State.setFrames_setFrames]
      rw [e7]
      rfl
    have h2 := X0.same.trans h1
    rw [List.append_nil] at h2
    exact h2
  refine ⟨U, a1, .threw H.size, s2, s3, ?_, hWU, locs, hsame, hS.2.2⟩
  have hk : ∀ q : Nat, q < H.size → U.heap[q]? = H[q]? := by
    intro q hq
    obtain ⟨c', r1, r2, r3, r4⟩ := s5.2.2.2.2.2 q H[q] (by rw [hsvh]; exact Array.getElem?_eq_getElem hq)
    have e1 : c' = H[q] := by
      rw [r2]
      have e2 : c'.slots = H[q].slots := Array.ext_getElem? (fun i => r4 i (by simp))
      rw [e2]
    rw [Array.getElem?_eq_getElem hq, ← e1]
    exact r1
  refine ⟨M, hP.kept (fun j q hq => hk q.1 ((hP j q hq).lt)), ⟨?_, fun q h1 h2 => ?_⟩, Or.inr ⟨H.size, k, ce, rfl, h, c1, c2, c3⟩⟩
  · exact Nat.le_trans hS.1 (by have := s5.2.1; rw [hsvh] at this; exact this)
  · rw [hk q (Nat.lt_of_lt_of_le h1 hS.1)]
    exact hS.2.1 q h1 h2
/-- a call that may throw, from every heap that holds the memory -/
def zRunT (p : Program) (l : Launch) (e : Env) (R : Room) (s : State) (m : MethodId) (args : Array Value) (below : List Frame) (meth : Method) (c : Code) (cells slots mc ms : Nat) (B : Nat) (D : va_G) (aC : Nat → ClassId) (nL : Nat) (pc : Nat) (lv : List (Nat × Value)) (st0 rest : List Value) (M : zM) (post : Option Value → zM → Prop) (postT : Nat → zM → Prop) : Prop :=
  ∀ (H : Heap) (locs : List Loc) (ls : Array Slot), va_P D kcl (zcls B aC M) H → lv_has ls nL lv → va_S (zAb B) s.heap H locs → ∀ T : State, T.heap = H → Stand p l e R s m args below meth c T locs cells slots →
    ∃ (M2 : zM) (T2 : State) (L : List Loc), Stand p l e R s m args below meth c T2 (locs ++ L) (cells + mc) (slots + ms) ∧ va_P D kcl (zcls B aC M2) T2.heap ∧ va_S (zAb B) s.heap T2.heap (locs ++ L) ∧
      ((∃ v : Option Value, post v M2 ∧ ∀ tg, Steps p.tables e below (T2.setTop (F0 m (pc + 3) ls (v.toList ++ rest))) tg → Steps p.tables e below (T.setTop (F0 m pc ls st0)) tg) ∨
        ∃ (x k : Nat) (cell : Cell), postT k M2 ∧ T2.heap[x]? = some cell ∧ cell.vm.isStatics = false ∧ s.vm.findClass (exN k) = some cell.cls ∧ ∀ tg, Steps p.tables e below ((T2.setTop (F0 m pc ls rest)).pushFrame (.throwing x)) tg → Steps p.tables e below (T.setTop (F0 m pc ls st0)) tg)
theorem a_runVT (fx : zFx p s m args c B D aC aS nL cc own) {y : MethodName} {C : String} {b : ByteArray} {mx np : Nat} {ret : Option FieldType} {index k t N : Nat} {Tb : u_T} {rm : Room} {As : List Value} (cv : zCV y C b mx ret np) (hl : Cond.methodLink own index y ∈ tb)
    (hM : MetT l y (wo y b mx ret) rm (va_Pc (.ref (B + k) :: As) (zWl B D aC aS M)) (zQT B D aC post postT) mc ms (zAb B)) (hk : k < N0) (ht : tg k = t) (ht2 : t < 20) (hc : kcl[t]? = some (C, Tb, N)) (hn : As.length = np) (hst : st0 = As.reverse ++ .ref (B + k) :: rest) (hw : (rest.map fun v => v.category).sum ≤ 8)
    (hrc : rm.cells = mc) (hrs : rm.slots = ms) (hR : rm.frames + 1 ≤ R.frames ∧ 8 + (mx + 11) + rm.locals ≤ R.locals) (hd : decode cc pc = .ok (.invokevirtual index, 3)) (hf : cells + mc ≤ R.cells ∧ slots + ms ≤ R.slots) : zRunT p l e R s m args below meth c cells slots mc ms B D aC nL pc lv st0 rest M post postT := by
  intro H locs ls hP hlv hS T hT X
  subst hst
  obtain ⟨v1, v2, v3, v4, v5, v6, v7, v8⟩ := cv
  have hts := fx.2.2.2.2.1
  have hcode := hts _ v4
  obtain ⟨cellB, hcell, hobj, hcls⟩ := va_recv fx.2.2.2.2.2.1.1 hP hc ((zcls_at hk).trans (by rw [zcel_o ht ht2]))
  obtain ⟨mk, methM, hnamed, hmethM, hstM, habM⟩ := Cond.instanceMethod_spec (hts _ v1)
  obtain ⟨methM', cM, hmethM', -, -, -, -, -, -, hsigM⟩ := Cond.code_spec hnamed hcode
  cases hmethM.symm.trans hmethM'
  obtain ⟨c2, r2, m2, q1, q2, q3, q4, kP, hkP, hkPi⟩ := Cond.selects_spec (hts _ v2)
  cases hcls.symm.trans q1
  cases (State.methodFound?_of_named hnamed ⟨v6, v7⟩).symm.trans q2
  cases hnamed.symm.trans q3
  have hselP : selectMethod e.platform s.vm cellB.cls mk = .method mk := by rw [Launch.admits_selectMethod X.admits]; exact q4
  have hlen : As.length = methM.sig.parameters.length := by
    rw [hsigM] at v8
    exact hn.trans (Option.some.inj v8).symm
  obtain ⟨vm₁, X₁, hstep₁⟩ := X.invokevirtual fx.1 fx.2.2.2.1 (hts _ hl) hnamed hmethM hstM hkP hkPi ⟨v6, v7⟩ (a := B + k) (cell := cellB) (by rw [hT]; exact hcell)
    (fun z h => by rw [h] at hobj; cases hobj) hselP hmethM habM hkP hkPi (g := F0 m pc ls (As.reverse ++ .ref (B + k) :: rest)) rfl (argsL := As) (rest := rest) hlen rfl (by rw [fx.2.1]; exact hd)
  have hW1 : s.WarmedH (T.setVm vm₁).vm := X₁.warmed
  have hWl : zWl B D aC aS M (T.setVm vm₁) := zWl_at fx hP hS hT hW1
  obtain ⟨o, T2, t2, L, X2, hL, e1, e2, ⟨M2, hP2, hF2, hor⟩, hst⟩ := z_callT (bytes := b) (maxL := mx) (ret := ret) (W0 := 8) X₁ hM (g := F0 m pc ls rest) rfl (by show ls.size = _; rw [fx.2.2.1]; exact hlv.1) (by rw [fx.2.1]; exact hd) (lv_room hw) (X₁.named hnamed) (a := (Value.ref (B + k) :: As).toArray)
    hR.1 hR.2 hrc hrs hf.1 hf.2 (atoms_intro fun w hw => by
      rcases List.mem_cons.mp hw with h | h
      · rw [h]; exact word_at hW1 (z_good v4).2 hcode
      · exact word_at hW1 (z_good h).2 (hts w h)) (word_at hW1 (z_good v4).2 hcode) (by rw [v5]; exact word_at hW1 (z_good v3).2 (hts _ v3)) ⟨rfl, hWl.blind⟩
  have hF3 : H.size ≤ t2.heap.size ∧ ∀ q : Nat, q < H.size → ¬ zAb B q → t2.heap[q]? = H[q]? := by
    obtain ⟨g1, g2⟩ := hF2
    have e3 : ((T.setVm vm₁).calling (F0 m pc ls rest) mk (Value.ref (B + k) :: As).toArray).heap = H := hT
    rw [e3] at g1 g2
    exact ⟨g1, g2⟩
  have hS2 : va_S (zAb B) s.heap T2.heap (locs ++ L) := ⟨Nat.le_trans hS.1 (by rw [e1]; exact hF3.1), fun q h1 h2 => by rw [e1, hF3.2 q (Nat.lt_of_lt_of_le h1 hS.1) h2]; exact hS.2.1 q h1 h2, fun q hq => by
    rcases List.mem_append.mp hq with h | h
    · exact hS.2.2 q h
    · exact hL q h⟩
  refine ⟨M2, T2, L, X2, by rw [e1]; exact hP2, hS2, ?_⟩
  rcases hor with ⟨v, ho, hpo⟩ | ⟨x, kx, cell, ho, hpo, hx1, hx2, hx3⟩
  · rcases hst with ⟨v', ho', hs'⟩ | ⟨x', ho', -⟩
    · rw [ho] at ho'
      cases ho'
      exact Or.inl ⟨v, hpo, fun tg htg => hstep₁ _ fun acts => by rw [doInvoke_state]; exact hs'.trans htg⟩
    · rw [ho] at ho'
      cases ho'
  · rcases hst with ⟨v', ho', -⟩ | ⟨x', ho', hs'⟩
    · rw [ho] at ho'
      cases ho'
    · rw [ho] at ho'
      cases ho'
      have e4 : ((T.setVm vm₁).calling (F0 m pc ls rest) mk (Value.ref (B + k) :: As).toArray).vm = vm₁ := rfl
      rw [e4] at hx3
      have hal : s.vm.Alike vm₁ := hW1.alike
      rw [hal.findClass] at hx3
      exact Or.inr ⟨x, kx, cell, hpo, by rw [e1]; exact hx1, hx2, hx3, fun tg htg => hstep₁ _ fun acts => by rw [doInvoke_state]; exact hs'.trans htg⟩
/-- a call that may throw, in a method that catches nothing -/
theorem a_callTp {post2 : Option Value → zM → Prop} {postT2 : Nat → zM → Prop} (hlo : meth.locks = false) (hno : c.exceptionTable.isEmpty = true) (hr : zRunT p l e R s m args below meth c cells slots mc ms B D aC nL pc lv st0 rest M post postT)
    (k : ∀ (v : Option Value) (M2 : zM), post v M2 → zAt p l e R s m args below meth c (cells + mc) (slots + ms) (MQT below (zQT B D aC post2 postT2) args s (cells + mc) (slots + ms) (zAb B)) B D aC nL (pc + 3) lv (v.toList ++ rest) M2) (kt : ∀ (j : Nat) (M2 : zM), postT j M2 → postT2 j M2) :
    zAt p l e R s m args below meth c cells slots (MQT below (zQT B D aC post2 postT2) args s (cells + mc) (slots + ms) (zAb B)) B D aC nL pc lv st0 M := by
  intro H locs ls hP hl hS T hT X
  obtain ⟨M2, T2, L, X2, hP2, hS2, hor⟩ := hr H locs ls hP hl hS T hT X
  rcases hor with ⟨v, hpo, hst⟩ | ⟨x, j, cell, hpo, hx1, hx2, hx3, hst⟩
  · obtain ⟨t, a1, b1⟩ := k v M2 hpo T2.heap _ ls hP2 hl hS2 T2 rfl X2
    exact ⟨t, hst t a1, b1⟩
  · obtain ⟨w1, w2, w3, w4, w5⟩ := X2.leaveThrown x (g := F0 m pc ls rest) rfl rfl rfl (fun x hx => by rw [Array.isEmpty_iff] at hno; rw [hno] at hx; cases hx)
    exact ⟨_, hst _ w1, .threw x, w2, w3, ⟨M2, hP2, hS2.F rfl, Or.inr ⟨x, j, cell, rfl, kt j M2 hpo, hx1, hx2, hx3⟩⟩, w4, _, w5, hS2.2.2⟩
/-- a contract of a method that may throw is met, if the walk from its entry meets it -/
theorem z_metT {y : MethodName} {b : ByteArray} {mx : Nat} {ret : Option FieldType} {rm : Room} {as : List Value} {lv0 : List (Nat × Value)} {Qc : Array Value → State → Outcome → State → Prop} (hy : plainName y.cls = true) (ho : y.cls = own) (hlen : (lg_sl as).length ≤ mx) (hlv : lv_args 0 as = lv0)
    (body : ∀ p e s m below meth c, zFx p s m as.toArray c B D aC aS mx b own → meth.sig.returnType = ret → meth.locks = false → c.exceptionTable.isEmpty = true → zAt p l e rm s m as.toArray below meth c 0 0 (MQT below Qc as.toArray s mc ms (zAb B)) B D aC mx 0 lv0 [] M) : MetT l y (wo y b mx ret) rm (va_Pc as (zWl B D aC aS M)) Qc mc ms (zAb B) := by
  refine MetT.ofW (cc := b) (maxL := mx) (ret := ret) hy rfl ?_
  intro p e s m args below meth c s₁ BB hml hv
  obtain ⟨rfl, hP, hsz, hC⟩ := hv
  subst ho
  have hl := lv_entry as (n := mx) hlen
  rw [lg_entry_eq]
  rw [hlv] at hl
  have hts := atoms_spec (ws := wo y b mx ret) BB.pre
  exact body p e s m below meth c ⟨BB.exec, BB.bytes, hml, findClass_of_methodNamed BB.named, fun w hw => hts w (List.mem_cons_of_mem _ hw), hC, trivial, zcls_ns hP⟩ BB.returns BB.notSynchronized (BB.noHandlers (hts _ List.mem_cons_self)) s.heap [] _ hP hl va_S.rf
end THR2
section THR3
variable {p : Program} {l : Launch} {e : Env} {R : Room} {s : State} {m : MethodId} {args : Array Value} {below : List Frame} {meth : Method} {c : Code} {cells slots mc ms : Nat} {Q : State → Prop} {B : Nat} {D : va_G} {aC : Nat → ClassId} {aS : Nat → Nat} {nL : Nat} {cc : ByteArray} {own : String} {pc : Nat} {lv lv2 : List (Nat × Value)} {st rest st0 : List Value} {M : zM} {av : Array Value} {post : Option Value → zM → Prop} {postT : Nat → zM → Prop}
/-- one row of a handler table, its class resolved then and there -/
theorem z_go1 {u : State} {f : JFrame} {a : Addr} {x : ExceptionTableEntry} {t : List ExceptionTableEntry} {cx : ClassId} {vm' : Vm} {cell : Cell} {Qh : Handler → Pre} {E : CtlPost} {d : Bool} {acts : List Action} (hx : covers x f.pc = true) (h0 : x.catchType ≠ 0)
    (hg : (resolveClass f.method.cls x.catchType).Gives e.toSetting u.vm (.ok cx) vm') (hsz : vm'.classes.size ≤ u.vm.classes.size) (hcell : u.heap[a]? = some cell) (hobj : ∀ k, cell.vm ≠ .statics k) (hk : ∃ k, vm'.classes[cell.cls]? = some k) (hc : ∃ k, vm'.classes[cx]? = some k) :
    wp (findHandler.go f a (x :: t)) Qh E e d acts u ↔ if vm'.assignable cell.cls cx = true then Qh (.found x.handlerPc) d acts (u.setVm vm') else wp (findHandler.go f a t) Qh E e d acts (u.setVm vm') := by
  obtain ⟨ha, ht⟩ := hg.op (op := VmOp.resolveClass f.method.cls x.catchType) rfl
  simp only [covers] at hx
  have hsz2 : ((VmOp.resolveClass f.method.cls x.catchType).tables e u.vm).classes.size ≤ u.vm.classes.size := by rw [ht]; exact hsz
  cases hfit : vm'.assignable cell.cls cx <;>
    simp [findHandler.go, hx, h0, _root_.Jvm.W.vmOp_same _ hsz2, ha, ht, hcell, hobj, hk, hc, hfit, VmOp.dirties, VmOp.acts]
def pickH (kx : Nat) : List (Nat × Nat) → Option Nat
  | [] => none
  | h :: r => if h.2 = kx then some h.1 else if (kx, h.2) ∈ neL then pickH kx r else none
def okH (own : String) (pc : Nat) : List ExceptionTableEntry → List (Nat × Nat) → Prop
  | [], [] => True
  | x :: t, h :: r => covers x pc = true ∧ x.catchType ≠ 0 ∧ x.handlerPc = h.1 ∧ Cond.classLink own x.catchType (exN h.2) ∈ tb ∧ okH own pc t r
  | _, _ => False
theorem z_find (fx : zFx p s m args c B D aC aS nL cc own) (hpl : e.platform.magicAccessors = ({} : Platform).magicAccessors) {f : JFrame} (hf : f.method = m) {a : Addr} {kx : Nat} {cell : Cell} (hobj : cell.vm.isStatics = false) (hcls : s.vm.findClass (exN kx) = some cell.cls) : ∀ (tbl : List ExceptionTableEntry) (hs : List (Nat × Nat)) (hpc : Nat), okH own f.pc tbl hs → pickH kx hs = some hpc → ∀ u : State, s.WarmedH u.vm → u.heap[a]? = some cell →
    ∃ vm', s.WarmedH vm' ∧ ∀ (Qh : Handler → Pre) (E : CtlPost) (d : Bool) (acts : List Action), wp (findHandler.go f a tbl) Qh E e d acts u ↔ Qh (.found hpc) d acts (u.setVm vm') := by
  intro tbl
  induction tbl with
  | nil =>
    intro hs hpc hok hp
    cases hs with
    | nil => cases hp
    | cons h r => exact hok.elim
  | cons x t ih =>
    intro hs hpc hok hp u hW hcell
    cases hs with
    | nil => exact hok.elim
    | cons h r =>
      obtain ⟨o1, o2, o3, o4, o5⟩ := hok
      obtain ⟨cx, hfx, hcl⟩ := Cond.classLink_spec fx.2.2.2.1 (fx.2.2.2.2.1 _ o4) e.platform hpl
      obtain ⟨g1, g2, g3⟩ := State.classEntry (e := e) hW hcl
      rw [← hf] at g1 g2
      generalize u.vm.noted f.method.cls x.catchType (.cls cx) = vm1 at g1 g2
      have hsz : vm1.classes.size ≤ u.vm.classes.size := by
        have h1 := g2.alike
        have h2 := hW.alike
        exact Nat.le_trans (Vm.Alike.size_le h1) (Vm.Alike.size_le h2.symm)
      have hk : ∃ k, vm1.classes[cell.cls]? = some k := by
        obtain ⟨k, hk⟩ := Vm.classAt_of_findClass hcls
        obtain ⟨k', hk', -⟩ := g2.alike.2.2 _ _ hk
        exact ⟨k', hk'⟩
      have hc2 : ∃ k, vm1.classes[cx]? = some k := by
        obtain ⟨k, hk⟩ := Vm.classAt_of_findClass hfx
        obtain ⟨k', hk', -⟩ := g2.alike.2.2 _ _ hk
        exact ⟨k', hk'⟩
      have hob : ∀ k, cell.vm ≠ .statics k := fun k h => by rw [h] at hobj; cases hobj
      by_cases he : h.2 = kx
      · rw [pickH, if_pos he] at hp
        cases hp
        rw [he] at hfx
        have e1 : cx = cell.cls := Option.some.inj (hfx.symm.trans hcls)
        refine ⟨vm1, g2, fun Qh E d acts => ?_⟩
        rw [z_go1 o1 o2 g1 hsz hcell hob hk hc2, e1, if_pos (va_asg _ _), o3]
      · rw [pickH, if_neg he] at hp
        by_cases hn : (kx, h.2) ∈ neL
        · rw [if_pos hn] at hp
          obtain ⟨c1, c2, q1, q2, q3⟩ := fx.2.2.2.2.2.1.2.2.2.2.2.2.2.2.2.2.2.1 _ hn
          have e1 : c1 = cell.cls := Option.some.inj (q1.symm.trans hcls)
          have e2 : c2 = cx := Option.some.inj (q2.symm.trans hfx)
          subst e1
          subst e2
          obtain ⟨vm2, hW2, h2⟩ := ih r hpc o5 hp (u.setVm vm1) g2 hcell
          refine ⟨vm2, hW2, fun Qh E d acts => ?_⟩
          rw [z_go1 o1 o2 g1 hsz hcell hob hk hc2, if_neg (by rw [g2.alike.assignable, q3]; decide)]
          exact h2 Qh E d acts
        · rw [if_neg hn] at hp
          cases hp
/-- a call that may throw, in a method that catches what comes -/
theorem a_callTc (fx : zFx p s m args c B D aC aS nL cc own) (hr : zRunT p l e R s m args below meth c cells slots mc ms B D aC nL pc lv st0 rest M post postT) {hs : List (Nat × Nat)} (hok : okH own pc c.exceptionTable.toList hs)
    (k : ∀ (v : Option Value) (M2 : zM), post v M2 → zAt p l e R s m args below meth c (cells + mc) (slots + ms) Q B D aC nL (pc + 3) lv (v.toList ++ rest) M2)
    (kt : ∀ (j : Nat) (M2 : zM), postT j M2 → ∃ hpc, pickH j hs = some hpc ∧ ∀ x : Nat, zAt p l e R s m args below meth c (cells + mc) (slots + ms) Q B D aC nL hpc lv [.ref x] M2) :
    zAt p l e R s m args below meth c cells slots Q B D aC nL pc lv st0 M := by
  intro H locs ls hP hl hS T hT X
  obtain ⟨M2, T2, L, X2, hP2, hS2, hor⟩ := hr H locs ls hP hl hS T hT X
  rcases hor with ⟨v, hpo, hst⟩ | ⟨x, j, cell, hpo, hx1, hx2, hx3, hst⟩
  · obtain ⟨t, a1, b1⟩ := k v M2 hpo T2.heap _ ls hP2 hl hS2 T2 rfl X2
    exact ⟨t, hst t a1, b1⟩
  · obtain ⟨hpc, hp, kk⟩ := kt j M2 hpo
    have hpl : e.platform.magicAccessors = ({} : Platform).magicAccessors := by rw [X.admits.platform]
    have hu1 : (((T2.setTop (F0 m pc ls rest)).pushFrame (.throwing x))).vm = T2.vm := Stand.throwing_vm _ _ _
    have hu2 : (((T2.setTop (F0 m pc ls rest)).pushFrame (.throwing x))).heap = T2.heap := Stand.throwing_heap _ _ _
    obtain ⟨vm2, hW2, hfind⟩ := z_find (e := e) fx hpl (f := F0 m pc ls rest) rfl (a := x) hx2 hx3 c.exceptionTable.toList hs hpc hok hp ((T2.setTop (F0 m pc ls rest)).pushFrame (.throwing x)) (by rw [hu1]; exact X2.warmed) (by rw [hu2]; exact hx1)
    have X3 := X2.noted hW2
    obtain ⟨t, a1, b1⟩ := kk x T2.heap _ ls hP2 hl hS2 (T2.setVm vm2) rfl X3
    refine ⟨t, hst t ?_, b1⟩
    have hat : _root_.Jvm.At T2 (F0 m pc ls rest).method c below := X2.here
    obtain ⟨hgo, hw⟩ := hat.throwing x
    refine Steps.head hgo hw ?_
    have hmeth : ((T2.setTop (F0 m pc ls rest)).pushFrame (.throwing x)).vm.method? (F0 m pc ls rest).method = some meth := by rw [hu1]; exact X2.method'
    have hIs : (stepThrowing e ((T2.setTop (F0 m pc ls rest)).pushFrame (.throwing x)) x (.java (F0 m pc ls rest) :: T2.frames.tail)).Is ((((T2.setTop (F0 m pc ls rest)).pushFrame (.throwing x)).setVm vm2).setFrames (.java { (F0 m pc ls rest) with pc := hpc, stack := [.ref x] } :: T2.frames.tail)) [] := by
      simp only [stepThrowing, searchFrame, vmDo]
      generalize hr2 : Sem.go _ e false [] ((T2.setTop (F0 m pc ls rest)).pushFrame (.throwing x)) = res
      obtain ⟨as, rfl, ha⟩ := Sem.eq_ok_of hr2 (a := Handler.found hpc) (s' := ((T2.setTop (F0 m pc ls rest)).pushFrame (.throwing x)).setVm vm2) (acts' := []) (by
        simp [_root_.Jvm.W.findHandler_eq hmeth X2.code, hfind])
      exact ⟨rfl, ha⟩
    rw [stepThread_throwing (frames_entered hat.top _), hIs.1]
    obtain ⟨g₀, hg⟩ := Option.isSome_iff_exists.mp hat.top
    obtain ⟨r, hr3⟩ := State.topJava?_eq_some.mp hg
    have e1 : T2.frames.tail = r := by rw [hr3]; rfl
    have e2 : (T2.setVm vm2).setTop (F0 m hpc ls [.ref x]) = (T2.setVm vm2).setFrames (.java (F0 m hpc ls [.ref x]) :: r) := State.setTop_of_frames _ (show (T2.setVm vm2).frames = _ from hr3)
    rw [e2] at a1
    rw [e1]
    have e3 : (((T2.setTop (F0 m pc ls rest)).pushFrame (.throwing x)).setVm vm2).setFrames (.java (F0 m hpc ls [.ref x]) :: r) = (T2.setVm vm2).setFrames (.java (F0 m hpc ls [.ref x]) :: r) := by
      rw [State.pushFrame, State.setTop_of_frames _ hr3]
      show (((T2.setVm vm2).setFrames _).setFrames _).setFrames _ = _
      rw [State.setFrames_setFrames, State.setFrames_setFrames]
    show Steps p.tables e below ((((T2.setTop (F0 m pc ls rest)).pushFrame (.throwing x)).setVm vm2).setFrames (.java (F0 m hpc ls [.ref x]) :: r)) t
    rw [e3]
    exact a1
abbrev woW (y : MethodName) (b : ByteArray) (n : Nat) (r : Option FieldType) (hh : List (Nat × Nat × Nat × Nat)) : List Cond := Cond.codeWith y b n r hh :: tb
/-- a contract of a method with handlers is met, if the walk from its entry meets it -/
theorem z_metW {y : MethodName} {b : ByteArray} {mx : Nat} {ret : Option FieldType} {hh : List (Nat × Nat × Nat × Nat)} {rm : Room} {as : List Value} {lv0 : List (Nat × Value)} {Qc : Array Value → State → Outcome → State → Prop} (hy : plainName y.cls = true) (ho : y.cls = own) (hlen : (lg_sl as).length ≤ mx) (hlv : lv_args 0 as = lv0)
    (body : ∀ p e s m below meth c, zFx p s m as.toArray c B D aC aS mx b own → meth.sig.returnType = ret → meth.locks = false → c.exceptionTable.toList.map (fun h => (h.startPc, h.endPc, h.handlerPc, h.catchType)) = hh → zAt p l e rm s m as.toArray below meth c 0 0 (MQ below Qc as.toArray s mc ms (zAb B)) B D aC mx 0 lv0 [] M) : Met l y (woW y b mx ret hh) rm (va_Pc as (zWl B D aC aS M)) Qc mc ms (zAb B) := by
  refine va_MetW (cc := b) (maxL := mx) (ret := ret) (hh := hh) hy rfl ?_
  intro p e s m args below meth c s₁ BB hml hv
  obtain ⟨rfl, hP, hsz, hC⟩ := hv
  subst ho
  have hl := lv_entry as (n := mx) hlen
  rw [lg_entry_eq]
  rw [hlv] at hl
  have hts := atoms_spec (ws := woW y b mx ret hh) BB.pre
  obtain ⟨m9, meth9, c9, k1, k2, k3, k4, k5, k6, k7, k8, -⟩ := Cond.codeWith_spec (hts _ List.mem_cons_self)
  cases BB.named.symm.trans k1
  cases BB.method.symm.trans k2
  cases (Stand.of_body BB).code.symm.trans k3
  exact body p e s m below meth c ⟨BB.exec, BB.bytes, hml, findClass_of_methodNamed BB.named, fun w hw => hts w (List.mem_cons_of_mem _ hw), hC, trivial, zcls_ns hP⟩ BB.returns BB.notSynchronized k6 s.heap [] _ hP hl va_S.rf
def zCW (y : MethodName) (b : ByteArray) (n : Nat) (r : Option FieldType) (hh : List (Nat × Nat × Nat × Nat)) (np : Nat) : Prop := Cond.static y ∈ tb ∧ Cond.initialized y.cls ∈ tb ∧ Cond.codeWith y b n r hh ∈ tb ∧ (y.cls ≠ "java/lang/invoke/MethodHandle" ∧ y.cls ≠ "java/lang/invoke/VarHandle" ∧ (parseMethodDescriptor y.desc).map (fun d => d.parameters.length) = some np)
theorem a_runSW (fx : zFx p s m args c B D aC aS nL cc own) {y : MethodName} {b : ByteArray} {mx np : Nat} {ret : Option FieldType} {hh : List (Nat × Nat × Nat × Nat)} {index : Nat} {rm : Room} {As : List Value} {Qc : Array Value → State → Outcome → State → Prop} (cv : zCW y b mx ret hh np) (hl : Cond.methodLink own index y ∈ tb)
    (hM : Met l y (woW y b mx ret hh) rm (va_Pc As (zWl B D aC aS M)) Qc mc ms (zAb B)) (hn : As.length = np) (hst : st0 = As.reverse ++ rest) (hw : (rest.map fun v => v.category).sum ≤ 8)
    (hrc : rm.cells = mc) (hrs : rm.slots = ms) (hR : rm.frames + 1 ≤ R.frames ∧ 8 + (mx + 11) + rm.locals ≤ R.locals) (hd : decode cc pc = .ok (.invokestatic index, 3)) (hf : cells + mc ≤ R.cells ∧ slots + ms ≤ R.slots) : zRun p l e R s m args below meth c cells slots mc ms B D aC nL pc lv st0 rest M (Qc As.toArray) := by
  intro H locs ls hP hlv hS T hT X
  subst hst
  obtain ⟨v1, v2, v3, v6, v7, v8⟩ := cv
  have hts := fx.2.2.2.2.1
  obtain ⟨mk, methM, cM, hnamed, hmethM, -, -, -, -, -, -, hsigM⟩ := Cond.codeWith_spec (hts _ v3)
  have hstatic : methM.isStatic = true := Cond.static_spec hnamed hmethM (hts _ v1)
  obtain ⟨kP, hkP, -⟩ := className_of_methodNamed hnamed
  have hinitP : kP.init = .initialized := Cond.initialized_spec (findClass_of_methodNamed hnamed) hkP (hts _ v2)
  have hlen : As.length = methM.sig.parameters.length := by
    rw [hsigM] at v8
    exact hn.trans (Option.some.inj v8).symm
  have hK : Back l R p e below s args y 3 8 (PreOf R mc ms (va_Pc As (zWl B D aC aS M))) (PostOf Qc mc ms (zAb B)) := va_backW (hh := hh) (bytes := b) (maxL := mx) (ret := ret) hM (fun a U g mk q => ⟨q.1, q.2.blind⟩) hrc hrs hR.1 hR.2 (fun w hw a' U hW => by
      rcases List.mem_cons.mp hw with h | h
      · rw [h]; exact word_at hW (z_good v3).2 (hts _ v3)
      · exact word_at hW (z_good h).2 (hts w h)) List.mem_cons_self (fun a' U hW => word_at hW (z_good v2).2 (hts _ v2))
  obtain ⟨vm₁, X₁, hstep₁⟩ := X.invokestatic fx.1 fx.2.2.2.1 (hts _ hl) hnamed hmethM hstatic hkP hinitP ⟨v6, v7⟩ (g := F0 m pc ls (As.reverse ++ rest)) rfl (argsL := As) (rest := rest) hlen rfl (by rw [fx.2.1]; exact hd)
  obtain ⟨v, ⟨U', l2, c2, s2⟩, X', ⟨g', mk', t, L, e1, e2, hq, h1, hL, h2, h3⟩, hsteps⟩ := hK m meth c ⟨T.setVm vm₁, locs, cells, slots⟩ (F0 m pc ls rest) (.invokestatic index) mk As.toArray X₁ rfl (by show ls.size = _; rw [fx.2.2.1]; exact hlv.1) (by rw [fx.2.1]; exact hd) (lv_room hw) (X₁.named hnamed) ⟨hf.1, hf.2, rfl, zWl_at fx hP hS hT X₁.warmed⟩
  dsimp only [Pt.U, Pt.locs, Pt.cells, Pt.slots] at X' e1 e2 h1 h2 h3 hsteps
  subst h1; subst h2; subst h3
  exact ⟨v, (T.setVm vm₁).calling g' mk' As.toArray, t, U', L, hT, X', hL, e1, e2, hq, fun target h => hstep₁ _ fun acts => by rw [doInvoke_state]; exact hsteps.trans h⟩
def okHH (own : String) (pc : Nat) : List (Nat × Nat × Nat × Nat) → List (Nat × Nat) → Prop
  | [], [] => True
  | x :: t, h :: r => (decide (x.1 ≤ pc) && decide (pc < x.2.1)) = true ∧ x.2.2.2 ≠ 0 ∧ x.2.2.1 = h.1 ∧ Cond.classLink own x.2.2.2 (exN h.2) ∈ tb ∧ okHH own pc t r
  | _, _ => False
theorem okH_of {own : String} {pc : Nat} : ∀ (tbl : List ExceptionTableEntry) (hh : List (Nat × Nat × Nat × Nat)) (hs : List (Nat × Nat)), tbl.map (fun h => (h.startPc, h.endPc, h.handlerPc, h.catchType)) = hh → okHH own pc hh hs → okH own pc tbl hs := by
  intro tbl
  induction tbl with
  | nil =>
    intro hh hs h1 h2
    subst h1
    cases hs with
    | nil => trivial
    | cons a b => exact h2.elim
  | cons x t ih =>
    intro hh hs h1 h2
    subst h1
    cases hs with
    | nil => exact h2.elim
    | cons a b =>
      obtain ⟨q1, q2, q3, q4, q5⟩ := h2
      exact ⟨q1, q2, q3, q4, ih _ b rfl q5⟩
end THR3
