/-! MailChain's expander. -/
section EXP3
variable {M : zM} {q a r : Nat} {rs : List UInt8}
def DcI (M : zM) (q : Nat) (D : List (Nat × UInt8)) (p : List UInt8) (n : Nat) : Prop := ∀ (i : Nat), i < D.length → ∃ st : Nat, M.1 (q + 1) (257 + i) = ii st ∧ M.1 (q + 2) (257 + i) = ii (str D (257 + i)).length ∧ st < n ∧ st + (str D (257 + i)).length ≤ p.length ∧ cut p st (st + (str D (257 + i)).length) = str D (257 + i)
/-- what is right at a code's start, if the row is right -/
def XL (M : zM) (q g : Nat) (rs out : List UInt8) (nx w c pos : Nat) : Prop := ∀ p, rs = press g p → p.length ≤ 16000 → (out = p ∧ 24 + lenE (enc g p) ≤ pos) ∨ ∃ e, GLive g p e out ∧ nx = 257 + e.D.length ∧ w = e.w ∧ c = e.c ∧ pos = 24 + lenE e.E ∧ DcI M q e.D p out.length
/-- what is right behind a code -/
def XM (M : zM) (q g : Nat) (rs out : List UInt8) (nx w c pos : Nat) : Prop := ∀ p, rs = press g p → p.length ≤ 16000 → (out = p ∧ 24 + lenE (enc g p) ≤ pos) ∨ ∃ e s b t, GMid g p e s out b t ∧ nx = 257 + e.D.length ∧ w = e.w ∧ c = e.c ∧ pos = 24 + lenE e.E ∧ DcI M q e.D p out.length ∧ ∃ st : Nat, M.1 (q + 1) nx = ii st ∧ M.1 (q + 2) nx = ii (((str e.D s).length + 1 : Nat) : Int) ∧ st + (str e.D s).length = out.length ∧ cut p st out.length = str e.D s
theorem cut_pre {p out : List UInt8} {rest : List UInt8} (h : p = out ++ rest) {st n : Nat} (hn : n ≤ out.length) : cut p st n = cut out st n := by
  rw [h]
  exact cut_app hn
theorem s_expand {post : Int32 → zM → Prop} (ha : Rw M a rs) (hrs : rs.length ≤ 30000) (hl1 : ln (q + 1) = 16384) (hl2 : ln (q + 2) = 16384) (hlr : ln (r + 1) = 16000) (d : ∀ j, j ≤ 2 → q + j ≠ r ∧ q + j ≠ r + 1 ∧ q + j ≠ a ∧ q + j ≠ a + 1) (d1 : a ≠ r) (d2 : a ≠ r + 1) (d3 : a + 1 ≠ r)
    (k : ∀ (M' : zM) (out : List UInt8) (v : Int32), Only [q, q + 1, q + 2, r, r + 1] M M' → Rw M' r out → out.length ≤ 16000 → (v = 0 ∨ (v = 1 ∧ ∃ g : Nat, 9 ≤ g ∧ g ≤ 16 ∧ gt rs 2 = 128 + g)) → (∀ g p, 9 ≤ g → g ≤ 16 → rs = press g p → p.length ≤ 16000 → v = 1 ∧ out = p) → post v M') : Wp_Ex_expand q a r M post := by
  have d0 := d 0 (by omega)
  have d1' := d 1 (by omega)
  have d2' := d 2 (by omega)
  have hg0 := gt_rng rs 0
  have hg1 := gt_rng rs 1
  have hg2 := gt_rng rs 2
  have head : ∀ g p, 9 ≤ g → g ≤ 16 → rs = press g p → gt rs 0 = 31 ∧ gt rs 1 = 157 ∧ gt rs 2 = 128 + g := by
    intro g p h1 h2 h3
    have hl : 3 ≤ rs.length := by rw [h3, press_len]; omega
    have e0 : rs[0]? = some 31 := by rw [h3]; rfl
    have e1 : rs[1]? = some 157 := by rw [h3]; rfl
    have e2 : rs[2]? = some (UInt8.ofNat (128 + g)) := by rw [h3]; rfl
    refine ⟨?_, ?_, ?_⟩
    · rw [show (0 : Int) = ((0 : Nat) : Int) from rfl, gt_in (by omega)]
      rw [List.getElem?_eq_getElem (by omega)] at e0
      rw [Option.some.inj e0]; rfl
    · rw [show (1 : Int) = ((1 : Nat) : Int) from rfl, gt_in (by omega)]
      rw [List.getElem?_eq_getElem (by omega)] at e1
      rw [Option.some.inj e1]; rfl
    · rw [show (2 : Int) = ((2 : Nat) : Int) from rfl, gt_in (by omega)]
      rw [List.getElem?_eq_getElem (by omega)] at e2
      rw [Option.some.inj e2, UInt8.toNat_ofNat']
      omega
  unfold Wp_Ex_expand
  intro K59 K89 K110 K153 h59 h89 h110 h153
  refine s_wipe (fun M1 o1 _ R1 => ?_)
  have o1 : Only [q, q + 1, q + 2, r, r + 1] M M1 := o1.mono (by simp)
  have A1 : Rw M1 a rs := ha.only o1 (by simp; omega) (by simp; omega)
  show Wp_Ro_at a (ii 2) M1 _
  refine s_at A1 (by omega) (by omega) ?_
  rw [show (128 : Int32) = ii 128 from rfl, ii_sub]
  rintro M4 h4
  have o4 : Only [q, q + 1, q + 2, r, r + 1] M M4 := by
    rw [h4]
    exact o1.zI (by simp)
  have A4 : Rw M4 a rs := ha.only o4 (by simp; omega) (by simp; omega)
  have R4 : Rw M4 r [] := by
    rw [h4]
    exact R1.only (S := [q]) (Only.rf.zI (by simp)) (by simp; omega) (by simp; omega)
  have g2 : M4.1 q 2 = ii (gt rs 2 - 128) := by rw [h4, zI_g, if_pos ⟨rfl, rfl⟩]
  show Wp_Ro_at a (ii 0) M4 _
  refine s_at A4 (by omega) (by omega) ?_
  have bad : (¬ (gt rs 0 = 31 ∧ gt rs 1 = 157 ∧ 9 ≤ gt rs 2 - 128 ∧ gt rs 2 - 128 ≤ 16)) → post 0 M4 := fun hb => k M4 [] 0 o4 R4 (by simp) (Or.inl rfl) (fun g p h1 h2 h3 _ => by
    have := head g p h1 h2 h3
    omega)
  rw [show (31 : Int32) = ii 31 from rfl, ii_eq (by omega) (by omega) (by omega) (by omega)]
  refine ⟨fun z => bad (by omega), fun z0 => ?_⟩
  show Wp_Ro_at a (ii 1) M4 _
  refine s_at A4 (by omega) (by omega) ?_
  rw [show (157 : Int32) = ii 157 from rfl, ii_eq (by omega) (by omega) (by omega) (by omega)]
  refine ⟨fun z => bad (by omega), fun z1 => ?_⟩
  rw [g2]
  refine s_isWidth (by omega) (by omega) ?_
  by_cases hw : 9 ≤ gt rs 2 - 128 ∧ gt rs 2 - 128 ≤ 16
  · rw [if_pos hw]
    refine ⟨fun _ => ?_, fun z => absurd z (by decide)⟩
    obtain ⟨g, hg⟩ := Int.eq_ofNat_of_zero_le (show 0 ≤ gt rs 2 - 128 by omega)
    have hg9 : 9 ≤ g := by omega
    have hg16 : g ≤ 16 := by omega
    have h29 : 2 ^ 9 ≤ 2 ^ g := pow_le' hg9
    have hp16 := p16 hg16
    rw [hg] at g2
    have same : ∀ g' p, 9 ≤ g' → g' ≤ 16 → rs = press g' p → g' = g := fun g' p h1 h2 h3 => by
      have := (head g' p h1 h2 h3).2.2
      omega
    have okv : ∀ (M' : zM) (out : List UInt8), Only [q, q + 1, q + 2, r, r + 1] M M' → Rw M' r out → out.length ≤ 16000 → (∀ p, rs = press g p → p.length ≤ 16000 → out = p) → post 1 M' := fun M' out o R hl hq => k M' out 1 o R hl (Or.inr ⟨rfl, g, hg9, hg16, by omega⟩) (fun g' p h1 h2 h3 h4 => ⟨rfl, by
      have := same g' p h1 h2 h3
      subst this
      exact hq p h3 h4⟩)
    have nov : ∀ (M' : zM) (out : List UInt8), Only [q, q + 1, q + 2, r, r + 1] M M' → Rw M' r out → out.length ≤ 16000 → (∀ p, rs = press g p → p.length ≤ 16000 → False) → post 0 M' := fun M' out o R hl hq => k M' out 0 o R hl (Or.inl rfl) (fun g' p h1 h2 h3 h4 => by
      have := same g' p h1 h2 h3
      subst this
      exact (hq p h3 h4).elim)
    unfold Wp_Ex_begin
    rintro M5 h5 M6 h6 M7 h7 M8 h8
    have o8 : Only [q, q + 1, q + 2, r, r + 1] M M8 := by
      rw [h8, h7, h6, h5]
      exact (((o4.zI (by simp)).zI (by simp)).zI (by simp)).zI (by simp)
    have oq : Only [q] M4 M8 := by
      rw [h8, h7, h6, h5]
      exact (((Only.rf.zI (by simp)).zI (by simp)).zI (by simp)).zI (by simp)
    have R8 : Rw M8 r [] := R4.only oq (by simp; omega) (by simp; omega)
    have f82 : M8.1 q 2 = ii g := by rw [h8, zI_g, if_neg (by simp), h7, zI_g, if_neg (by simp), h6, zI_g, if_neg (by simp), h5, zI_g, if_neg (by simp)]; exact g2
    have f83 : M8.1 q 3 = ii ((257 : Nat) : Int) := by rw [h8, zI_g, if_neg (by simp), h7, zI_g, if_neg (by simp), h6, zI_g, if_neg (by simp), h5, zI_g, if_pos ⟨rfl, rfl⟩]; rfl
    have f84 : M8.1 q 4 = ii ((9 : Nat) : Int) := by rw [h8, zI_g, if_neg (by simp), h7, zI_g, if_neg (by simp), h6, zI_g, if_pos ⟨rfl, rfl⟩]; rfl
    have f85 : M8.1 q 5 = ii ((0 : Nat) : Int) := by rw [h8, zI_g, if_neg (by simp), h7, zI_g, if_pos ⟨rfl, rfl⟩]; rfl
    have f86 : M8.1 q 6 = ii ((3 : Nat) : Int) := by rw [h8, zI_g, if_pos ⟨rfl, rfl⟩]; rfl
    -- the loop
    suffices H : ∀ (m i : Nat) (M9 : zM) (out : List UInt8) (nx w c gs : Nat), i + m = 30000 → Only [q, q + 1, q + 2, r, r + 1] M M9 → Rw M9 r out → M9.1 q 2 = ii g → M9.1 q 3 = ii nx → M9.1 q 4 = ii w → M9.1 q 5 = ii c → M9.1 q 6 = ii gs → 257 ≤ nx → nx < 16384 → 9 ≤ w → w ≤ g → 9 * i + 24 ≤ 8 * gs + c * w → 8 * gs + c * w ≤ 8 * rs.length + 112 →
        ((nx = 257 → XL M9 q g rs out nx w c (8 * gs + c * w) → K59 1 (ii i) M9) ∧ (TbI M9 q (nx + 1) → XM M9 q g rs out nx w c (8 * gs + c * w) → K59 0 (ii i) M9)) by
      refine (H 30000 0 M8 [] 257 9 0 3 rfl o8 R8 f82 f83 f84 f85 f86 (by omega) (by omega) (by omega) hg9 (by omega) (by omega)).1 rfl (fun p hp hpl => ?_)
      cases p with
      | nil => exact Or.inl ⟨rfl, by show 24 + lenE [] ≤ _; simp [lenE]⟩
      | cons b t =>
        refine Or.inr ⟨enc0, ⟨enc0_ok hg9 hg16, DOk.nil, fun x hx => by have h : x ∈ ([] : List (Nat × Nat)) := hx; simp at h, Nat.zero_le _, b, t, rfl, rfl⟩, rfl, rfl, rfl, rfl, fun i hi => absurd hi (by show ¬ i < 0; omega)⟩
    intro m
    induction m with
    | zero =>
      intro i M9 out nx w c gs hi o9 R9 e2 e3 e4 e5 e6 n1 n2 w1 w2 p1 p2
      omega
    | succ m ih =>
      intro i M9 out nx w c gs hi o9 R9 e2 e3 e4 e5 e6 n1 n2 w1 w2 p1 p2
      have hol : out.length ≤ 16000 := by have := R9.2.1; omega
      have A9 : Rw M9 a rs := ha.only o9 (by simp; omega) (by simp; omega)
      -- a string's code comes
      have strs : ∀ (M10 : zM) (nx' : Nat), Only [q] M9 M10 → M10.1 q 2 = ii g → M10.1 q 3 = ii nx' → M10.1 q 4 = ii w → M10.1 q 5 = ii c → M10.1 q 6 = ii gs → 257 ≤ nx' → nx' ≤ 16384 → TbI M10 q nx' → XL M10 q g rs out nx' w c (8 * gs + c * w) → K110 (ii i) 0 M10 := by
        intro M10 nx' oA e2 e3 e4 e5 e6 n1' n2' tb xl
        have o10 : Only [q, q + 1, q + 2, r, r + 1] M M10 := o9.trans (oA.mono (by simp))
        have A10 : Rw M10 a rs := ha.only o10 (by simp; omega) (by simp; omega)
        have R10 : Rw M10 r out := R9.only oA (by simp; omega) (by simp; omega)
        refine h110 _ _ _ ?_
        refine s_readCode A10 (by omega) (by omega) (by omega) e2 e3 e4 e5 e6 w1 w2 hg16 (by omega) (by omega) (fun M11 w' c' gs' hw' o11 e4' e5' e6' w1' w2' q1 q2 q3 => ?_) (fun M11 w' c' gs' hw' o11 q2 q3 w1' => ?_)
        · have oB : Only [q] M10 M11 := o11.toO (by simp) (by simp)
          have o11' : Only [q, q + 1, q + 2, r, r + 1] M M11 := o10.trans (oB.mono (by simp))
          have R11 : Rw M11 r out := R10.only oB (by simp; omega) (by simp; omega)
          have hcl : rdC rs (8 * gs' + c' * w') w' < 65536 := Nat.lt_of_lt_of_le (rdC_lt _ _ _) (p16 (by omega))
          have f3 : M11.1 q 3 = ii nx' := by rw [o11.2.1 3 (by simp)]; exact e3
          have f2 : M11.1 q 2 = ii g := by rw [o11.2.1 2 (by simp)]; exact e2
          have tb11 : TbI M11 q nx' := fun j h1 h2 => by
            rw [oB.1 (q + 1) (by simp), oB.1 (q + 2) (by simp)]
            exact tb j h1 h2
          -- what the code must be
          have good : ∀ p, rs = press g p → p.length ≤ 16000 → ∃ e s, GLive g p e out ∧ nx' = 257 + e.D.length ∧ rdC rs (8 * gs' + c' * w') w' = s ∧ s < nx' ∧ s ≠ 256 ∧ w' = (emit g e s).w ∧ c' + 1 = (emit g e s).c ∧ 8 * gs' + c' * w' + w' = 24 + lenE (emit g e s).E ∧ DcI M10 q e.D p out.length ∧ (∃ rest, p = out ++ str e.D s ++ rest) ∧ ((out ++ str e.D s = p ∧ (emit g e s).E = enc g p) ∨ ∃ b t, GMid g p (emit g e s) s (out ++ str e.D s) b t) := by
            intro p hp hpl
            rcases xl p hp hpl with ⟨x1, x2⟩ | ⟨e, x1, x2, x3, x4, x5, x6⟩
            · have := press_end (g := g) (p := p)
              rw [← hp] at this
              omega
            · obtain ⟨s, s1, s2, s3, ⟨B, s4⟩, s5, s6⟩ := x1.step
              have hwd := wd_wid (g := g) (gs := gs) (e := e) (by rw [← x3, ← x4]; exact x5)
              rw [← x2, ← x3, ← x4, ← hw'] at hwd
              obtain ⟨y1, y2, y3⟩ := hwd
              have y1' : w' = (wid g e).w := y1
              have y2' : c' = (wid g e).c := y2
              have y3' : 8 * gs' + (wid g e).c * (wid g e).w = 24 + lenE (wid g e).E := y3
              have hr := code_read hg9 hg16 s4 s3 rfl
              refine ⟨e, s, x1, x2, ?_, by omega, s2, y1', by rw [y2']; rfl, ?_, x6, s5, s6⟩
              · rw [y1', y2', y3', hp]
                exact hr.1
              · show _ = 24 + lenE ((wid g e).E ++ [(s, (wid g e).w)])
                rw [lenE_snoc, y1', y2']
                omega
          have necode : ¬ ii ((rdC rs (8 * gs' + c' * w') w' : Nat) : Int) = -1 := by
            rw [show (-1 : Int32) = ii (-1) from rfl, ii_eq (by omega) (by omega) (by omega) (by omega)]
            omega
          refine ⟨fun _ => ⟨fun _ => ?_, fun z => absurd rfl z⟩, fun z => absurd z necode⟩
          generalize hcode : rdC rs (8 * gs' + c' * w') w' = code at *
          refine s_Ex_tell hl1 hl2 hlr R11 f3 n1' n2' hcl tb11 (fun j hj => ⟨(d j hj).1, (d j hj).2.1⟩) (fun why => ⟨fun z => absurd rfl z, fun _ => ?_⟩) (fun M12 out' sz o12 R12 l1 l2 l3 l4 t1 t2 t3 t4 t5 => ⟨fun _ => ?_, fun z => absurd z (by decide)⟩)
          · refine nov M11 out o11' R11 hol (fun p hp hpl => ?_)
            obtain ⟨e, s, x1, x2, x3, x4, x5, x6, x7, x8, x9, ⟨rest, x10⟩, x11⟩ := good p hp hpl
            subst x3
            have hpl2 : p.length = out.length + (str e.D code).length + rest.length := by rw [x10, List.length_append, List.length_append]
            have hsp := str_pos x1.2.1 (show code < 257 + e.D.length by omega)
            have hDl := x1.2.2.2.1
            obtain ⟨xx, tt, hxx, -⟩ := x1.2.2.2.2
            have hout : out.length < p.length := by rw [hxx]; simp
            rcases why with z | z | z | ⟨z1, z2, sz, z3, z5, z4⟩ | z
            · exact x5 z
            · omega
            · omega
            · obtain ⟨i', hi'⟩ : ∃ i', code = 257 + i' := ⟨code - 257, by omega⟩
              obtain ⟨st, y1, y2, y3, y4, y5⟩ := x9 i' (by omega)
              rw [oB.1 (q + 2) (by simp), hi', y2] at z3
              have hsl : (str e.D (257 + i')).length ≤ 16000 := by omega
              rw [hi'] at hpl2
              rw [ii_eq (by omega) (by omega) (by omega) (by omega)] at z3
              omega
            · omega
          · -- on behind the code
            refine h153 _ _ _ ⟨fun _ => ?_, fun z => absurd rfl z⟩
            rintro x rfl
            rw [show (1 : Int32) = ii 1 from rfl, ii_add, show ((i : Int) + 1) = ((i + 1 : Nat) : Int) by omega]
            have q12 : M12.1 q = M11.1 q := o12.1 q (by simp; omega)
            have hcw : (c' + 1) * w' = c' * w' + w' := Nat.succ_mul c' w'
            refine (ih (i + 1) M12 out' nx' w' (c' + 1) gs' (by omega) (o11'.trans (o12.mono (by simp))) R12 (by rw [q12]; exact f2) (by rw [q12]; exact f3) (by rw [q12]; exact e4') (by rw [q12]; exact e5') (by rw [q12]; exact e6') n1' l4 w1' w2' (by omega) (by omega)).2 ?_ ?_
            · intro j h1 h2
              by_cases c1 : j = nx'
              · subst c1
                exact ⟨out.length, sz + 1, t1, t2, hol, by omega, by omega⟩
              · rw [(t3 j c1).1, (t3 j c1).2]
                exact tb11 j h1 (by omega)
            · intro p hp hpl
              obtain ⟨e, s, x1, x2, x3, x4, x5, x6, x7, x8, x9, ⟨rest, x10⟩, x11⟩ := good p hp hpl
              subst x3
              have hpl2 : p.length = out.length + (str e.D code).length + rest.length := by rw [x10, List.length_append, List.length_append]
              -- what was told
              have told : out' = out ++ str e.D code ∧ sz = (str e.D code).length := by
                by_cases c1 : code < 256
                · obtain ⟨y1, y2⟩ := t4 c1
                  rw [str_byte e.D (by omega)]
                  exact ⟨y2, y1⟩
                · obtain ⟨i', hi'⟩ : ∃ i', code = 257 + i' := ⟨code - 257, by omega⟩
                  obtain ⟨st, y1, y2, y3, y4, y5⟩ := x9 i' (by omega)
                  obtain ⟨u1, u2, u3⟩ := t5 (by omega)
                  rw [oB.1 (q + 2) (by simp)] at u2
                  rw [oB.1 (q + 1) (by simp)] at u3
                  have hsz : sz = (str e.D code).length := by
                    rw [hi'] at u2 ⊢
                    rw [y2, ii_eq (by omega) (by rw [hi'] at hpl2; omega) (by omega) (by omega)] at u2
                    omega
                  refine ⟨u3 st (str e.D code) (by rw [hi']; exact y1) y3 hsz.symm (fun j hj => ?_), hsz⟩
                  have e1 : (out ++ str e.D code)[st + j]? = p[st + j]? := by
                    rw [x10]
                    exact (List.getElem?_append_left (by rw [List.length_append]; omega)).symm
                  rw [e1]
                  rw [← hi'] at y5 y4
                  rw [← y5]
                  unfold cut
                  rw [List.getElem?_drop, List.getElem?_take_of_lt (by omega)]
              obtain ⟨told1, told2⟩ := told
              have hDc : DcI M12 q e.D p out'.length := by
                intro i' hi'
                obtain ⟨st, y1, y2, y3, y4, y5⟩ := x9 i' hi'
                have hne : 257 + i' ≠ nx' := by omega
                refine ⟨st, ?_, ?_, by omega, y4, y5⟩
                · rw [(t3 _ hne).1, oB.1 (q + 1) (by simp)]; exact y1
                · rw [(t3 _ hne).2, oB.1 (q + 2) (by simp)]; exact y2
              rcases x11 with ⟨y1, y2⟩ | ⟨b, t, hm⟩
              · refine Or.inl ⟨by rw [told1]; exact y1, ?_⟩
                rw [y2] at x8
                omega
              · refine Or.inr ⟨emit g e code, code, b, t, by rw [told1]; exact hm, by rw [emit_D]; exact x2, x6, x7, by rw [hcw]; omega, by rw [emit_D]; exact hDc, out.length, t1, ?_, ?_, ?_⟩
                · rw [emit_D, t2, told2]
                · rw [emit_D]; omega
                · rw [emit_D, l1, told2, x10, cut_app (by rw [List.length_append]; exact Nat.le_refl _)]
                  unfold cut
                  rw [List.take_of_length_le (by rw [List.length_append]; exact Nat.le_refl _), List.drop_left]
        · -- no code is left
          have oB : Only [q] M10 M11 := o11.toO (by simp) (by simp)
          refine ⟨fun z => absurd rfl z, fun _ => okv M11 out (o10.trans (oB.mono (by simp))) (R10.only oB (by simp; omega) (by simp; omega)) hol (fun p hp hpl => ?_)⟩
          rcases xl p hp hpl with ⟨x1, x2⟩ | ⟨e, x1, x2, x3, x4, x5, x6⟩
          · exact x1
          · exfalso
            obtain ⟨s, s1, s2, s3, ⟨B, s4⟩, s5, s6⟩ := x1.step
            have hwd := wd_wid (g := g) (gs := gs) (e := e) (by rw [← x3, ← x4]; exact x5)
            rw [← x2, ← x3, ← x4, ← hw'] at hwd
            obtain ⟨y1, y2, y3⟩ := hwd
            have y1' : w' = (wid g e).w := y1
            have y2' : c' = (wid g e).c := y2
            have y3' : 8 * gs' + (wid g e).c * (wid g e).w = 24 + lenE (wid g e).E := y3
            have hr := (code_read hg9 hg16 s4 s3 rfl).2
            rw [← hp] at hr
            rw [y1', y2'] at q3
            omega
      refine ⟨fun n257 xl => ?_, fun tb xm => ?_⟩
      · refine h59 _ _ _ ⟨fun z => ?_, fun _ => ⟨fun _ => h89 _ _ _ _ ⟨fun _ => ?_, fun z => absurd z (by decide)⟩, fun z => absurd z (by decide)⟩⟩
        · rw [show (30000 : Int32) = ii 30000 from rfl, ii_le (by omega) (by omega) (by omega) (by omega)] at z
          omega
        · exact strs M9 nx Only.rf e2 e3 e4 e5 e6 n1 (by omega) (fun j h1 h2 => by omega) xl
      · refine h59 _ _ _ ⟨fun z => ?_, fun _ => ⟨fun z => absurd rfl z, fun _ => ?_⟩⟩
        · rw [show (30000 : Int32) = ii 30000 from rfl, ii_le (by omega) (by omega) (by omega) (by omega)] at z
          omega
        · have hcmp : (ii (nx : Int) < ii ((2 ^ g : Nat) : Int)) ↔ nx < 2 ^ g := by
            generalize 2 ^ g = pw at *
            rw [ii_lt (by omega) (by omega) (by omega) (by omega)]
            omega
          rw [e2, e3, one_shl hg16, hcmp]
          refine ⟨fun z => ?_, fun z => ?_⟩
          · refine h89 _ _ _ _ ⟨fun y => absurd rfl y, fun _ => ⟨fun y => absurd rfl y, fun _ => ?_⟩⟩
            rintro M10 h10
            rw [e3, show (1 : Int32) = ii 1 from rfl, ii_add, show ((nx : Int) + 1) = ((nx + 1 : Nat) : Int) by omega] at h10
            have oA : Only [q] M9 M10 := by rw [h10]; exact Only.rf.zI (by simp)
            refine strs M10 (nx + 1) oA (by rw [h10, zI_g, if_neg (by simp)]; exact e2) (by rw [h10, zI_g, if_pos ⟨rfl, rfl⟩]) (by rw [h10, zI_g, if_neg (by simp)]; exact e4) (by rw [h10, zI_g, if_neg (by simp)]; exact e5) (by rw [h10, zI_g, if_neg (by simp)]; exact e6) (by omega) (by omega) (fun j h1 h2 => by rw [oA.1 (q + 1) (by simp), oA.1 (q + 2) (by simp)]; exact tb j h1 h2) (fun p hp hpl => ?_)
            rcases xm p hp hpl with x | ⟨e, s, b, t, x1, x2, x3, x4, x5, x6, st, x7, x8, x9, x10⟩
            · exact Or.inl x
            · have hlv := x1.learn (by omega)
              refine Or.inr ⟨_, hlv, ?_, x3, x4, x5, fun i' hi' => ?_⟩
              · show nx + 1 = 257 + (e.D ++ [(s, b)]).length
                rw [List.length_append]
                simp
                omega
              · have hi2 : i' < e.D.length + 1 := by
                  have : i' < (e.D ++ [(s, b)]).length := hi'
                  simpa using this
                rw [oA.1 (q + 1) (by simp), oA.1 (q + 2) (by simp)]
                by_cases c1 : i' < e.D.length
                · obtain ⟨st', y1, y2, y3, y4, y5⟩ := x6 i' c1
                  have es : str (e.D ++ [(s, b)]) (257 + i') = str e.D (257 + i') := str_old (by omega)
                  show ∃ st : Nat, _ ∧ _ = ii (str (e.D ++ [(s, b)]) (257 + i')).length ∧ _ ∧ st + (str (e.D ++ [(s, b)]) (257 + i')).length ≤ _ ∧ cut p st (st + (str (e.D ++ [(s, b)]) (257 + i')).length) = str (e.D ++ [(s, b)]) (257 + i')
                  rw [es]
                  exact ⟨st', y1, y2, y3, y4, y5⟩
                · have hieq : i' = e.D.length := by omega
                  subst hieq
                  have es : str (e.D ++ [(s, b)]) (257 + e.D.length) = str e.D s ++ [b] := str_new e.D (s, b)
                  have hl : (str e.D s ++ [b]).length = (str e.D s).length + 1 := by simp
                  have hpp := x1.2.2.2.2.2.2.2.1
                  show ∃ st : Nat, _ ∧ _ = ii (str (e.D ++ [(s, b)]) (257 + e.D.length)).length ∧ _ ∧ st + (str (e.D ++ [(s, b)]) (257 + e.D.length)).length ≤ _ ∧ cut p st (st + (str (e.D ++ [(s, b)]) (257 + e.D.length)).length) = str (e.D ++ [(s, b)]) (257 + e.D.length)
                  rw [es, hl, ← x2]
                  have hsp := str_pos x1.2.1 x1.2.2.2.2.1
                  refine ⟨st, x7, x8, by omega, by rw [hpp]; simp; omega, ?_⟩
                  rw [show st + ((str e.D s).length + 1) = out.length + 1 by omega]
                  have hin : out.length < p.length := by rw [hpp]; simp
                  rw [cut_snoc (by omega) hin, x10]
                  congr 2
                  have : p[out.length]? = some b := by rw [hpp]; simp
                  rw [List.getElem?_eq_getElem hin] at this
                  exact Option.some.inj this
          · refine h89 _ _ _ _ ⟨fun y => absurd rfl y, fun _ => ⟨fun _ => ?_, fun y => absurd y (by decide)⟩⟩
            refine h110 _ _ _ ?_
            refine s_readCode A9 (by omega) (by omega) (by omega) e2 e3 e4 e5 e6 w1 w2 hg16 (by omega) (by omega) (fun M11 w' c' gs' hw' o11 e4' e5' e6' w1' w2' q1 q2 q3 => ?_) (fun M11 w' c' gs' hw' o11 q2 q3 w1' => ?_)
            · have oB : Only [q] M9 M11 := o11.toO (by simp) (by simp)
              have o11' : Only [q, q + 1, q + 2, r, r + 1] M M11 := o9.trans (oB.mono (by simp))
              have R11 : Rw M11 r out := R9.only oB (by simp; omega) (by simp; omega)
              have hcl : rdC rs (8 * gs' + c' * w') w' < 65536 := Nat.lt_of_lt_of_le (rdC_lt _ _ _) (p16 (by omega))
              have f2 : M11.1 q 2 = ii g := by rw [o11.2.1 2 (by simp)]; exact e2
              have good : ∀ p, rs = press g p → p.length ≤ 16000 → ∃ e s b t, GMid g p e s out b t ∧ rdC rs (8 * gs' + c' * w') w' = 256 ∧ w' = (emit g e 256).w ∧ c' + 1 = (emit g e 256).c ∧ 8 * gs' + c' * w' + w' = 24 + lenE (emit g e 256).E ∧ GLive g p ⟨[], 9, 0, (chg (emit g e 256) 9).E⟩ out := by
                intro p hp hpl
                rcases xm p hp hpl with ⟨x1, x2⟩ | ⟨e, s, b, t, x1, x2, x3, x4, x5, x6, st, x7, x8, x9, x10⟩
                · have := press_end (g := g) (p := p)
                  rw [← hp] at this
                  omega
                · obtain ⟨s3, ⟨B, s4⟩, s5⟩ := x1.clear (by omega)
                  have hwd := wd_wid (g := g) (gs := gs) (e := e) (by rw [← x3, ← x4]; exact x5)
                  rw [← x2, ← x3, ← x4, ← hw'] at hwd
                  obtain ⟨y1, y2, y3⟩ := hwd
                  have y1' : w' = (wid g e).w := y1
                  have y2' : c' = (wid g e).c := y2
                  have y3' : 8 * gs' + (wid g e).c * (wid g e).w = 24 + lenE (wid g e).E := y3
                  have hr := code_read hg9 hg16 s4 s3 rfl
                  refine ⟨e, s, b, t, x1, ?_, y1', by rw [y2']; rfl, ?_, s5⟩
                  · rw [y1', y2', y3', hp]
                    exact hr.1
                  · show _ = 24 + lenE ((wid g e).E ++ [(256, (wid g e).w)])
                    rw [lenE_snoc, y1', y2']
                    omega
              have necode : ¬ ii ((rdC rs (8 * gs' + c' * w') w' : Nat) : Int) = -1 := by
                rw [show (-1 : Int32) = ii (-1) from rfl, ii_eq (by omega) (by omega) (by omega) (by omega)]
                omega
              refine ⟨fun _ => ⟨fun y => absurd y (by decide), fun _ => ?_⟩, fun y => absurd y necode⟩
              rw [show (256 : Int32) = ii 256 from rfl, ii_eq (by omega) (by omega) (by omega) (by omega)]
              refine ⟨fun y => ?_, fun y => nov M11 out o11' R11 hol (fun p hp hpl => ?_)⟩
              · refine h153 _ _ _ ⟨fun y => absurd y (by decide), fun _ => ?_⟩
                unfold Wp_Ex_restart
                have hcw : (c' + 1) * w' = c' * w' + w' := Nat.succ_mul c' w'
                have hcb : (c' + 1) * 9 ≤ (c' + 1) * w' := Nat.mul_le_mul_left _ w1'
                show Wp_Ex_changeWidth q (ii ((9 : Nat) : Int)) M11 _
                refine s_Ex_changeWidth e4' e5' e6' (by omega) (fun M12 o12 e4'' e5'' e6'' => ?_)
                rintro M13 h13 x rfl
                rw [show (1 : Int32) = ii 1 from rfl, ii_add, show ((i : Int) + 1) = ((i + 1 : Nat) : Int) by omega]
                have oC : Only [q] M11 M13 := by
                  rw [h13]
                  exact (o12.toO (S' := [q]) (by simp) (by simp)).zI (by simp)
                have h1 : 8 * ((c' + 1 + 7) / 8 * w') = (c' + 1 + (8 - (c' + 1) % 8) % 8) * w' := by
                  rw [← Nat.mul_assoc]
                  congr 1
                  omega
                have h2 : (8 - (c' + 1) % 8) % 8 * w' ≤ 7 * 16 := Nat.mul_le_mul (by omega) (by omega)
                rw [Nat.add_mul] at h1
                have h3 : 8 * (gs' + (c' + 1 + 7) / 8 * w') = 8 * gs' + 8 * ((c' + 1 + 7) / 8 * w') := Nat.mul_add _ _ _
                refine (ih (i + 1) M13 out 257 9 0 (gs' + (c' + 1 + 7) / 8 * w') (by omega) (o11'.trans (oC.mono (by simp))) (R11.only oC (by simp; omega) (by simp; omega)) (by rw [h13, zI_g, if_neg (by simp), o12.2.1 2 (by simp)]; exact f2) (by rw [h13, zI_g, if_pos ⟨rfl, rfl⟩]; rfl) (by rw [h13, zI_g, if_neg (by simp)]; exact e4'') (by rw [h13, zI_g, if_neg (by simp)]; exact e5'') (by rw [h13, zI_g, if_neg (by simp)]; exact e6'') (by omega) (by omega) (by omega) hg9 (by omega) (by omega)).1 rfl (fun p hp hpl => ?_)
                obtain ⟨e, s, b, t, x1, x2, x3, x4, x5, x6⟩ := good p hp hpl
                refine Or.inr ⟨_, x6, rfl, rfl, rfl, ?_, fun i' hi' => absurd hi' (by show ¬ i' < 0; omega)⟩
                show _ = 24 + lenE ((emit g e 256).E ++ pads (emit g e 256))
                rw [lenE_app, lenE_pads, ← x3, ← x4]
                omega
              · obtain ⟨e, s, b, t, x1, x2, -⟩ := good p hp hpl
                omega
            · have oB : Only [q] M9 M11 := o11.toO (by simp) (by simp)
              refine ⟨fun y => absurd rfl y, fun _ => okv M11 out (o9.trans (oB.mono (by simp))) (R9.only oB (by simp; omega) (by simp; omega)) hol (fun p hp hpl => ?_)⟩
              rcases xm p hp hpl with ⟨x1, x2⟩ | ⟨e, s, b, t, x1, x2, x3, x4, x5, x6, st, x7, x8, x9, x10⟩
              · exact x1
              · exfalso
                obtain ⟨s3, ⟨B, s4⟩, s5⟩ := x1.clear (by omega)
                have hwd := wd_wid (g := g) (gs := gs) (e := e) (by rw [← x3, ← x4]; exact x5)
                rw [← x2, ← x3, ← x4, ← hw'] at hwd
                obtain ⟨y1, y2, y3⟩ := hwd
                have y1' : w' = (wid g e).w := y1
                have y2' : c' = (wid g e).c := y2
                have y3' : 8 * gs' + (wid g e).c * (wid g e).w = 24 + lenE (wid g e).E := y3
                have hr := (code_read hg9 hg16 s4 s3 rfl).2
                rw [← hp] at hr
                rw [y1', y2'] at q3
                omega
  · rw [if_neg hw]
    exact ⟨fun z => absurd rfl z, fun _ => bad (by omega)⟩
end EXP3
