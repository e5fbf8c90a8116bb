/-! The reference's expander. -/
theorem wid_wid {g : Nat} {e : Enc} (h : EncOk g e) : wid g (wid g e) = wid g e := by
  have h6 := h.2.2.2.2.2.1
  unfold wid
  by_cases q : 2 ^ e.w < 257 + e.D.length ∧ e.w < g
  · rw [if_pos q]
    show (if 2 ^ (e.w + 1) < 257 + e.D.length ∧ e.w + 1 < g then _ else _) = _
    rw [if_neg (by omega)]
  · rw [if_neg q, if_neg q]
theorem emit_wid {g s : Nat} {e : Enc} (h : EncOk g e) : emit g (wid g e) s = emit g e s := by
  unfold emit
  rw [wid_wid h]
theorem encL_wid {g : Nat} : ∀ (t : List UInt8) (e : Enc) (s : Nat), EncOk g e → encL g (wid g e) s t = encL g e s t
  | [], e, s, h => emit_wid h
  | b :: t, e, s, h => by
    show (match look (wid g e).D s b with | some c => encL g (wid g e) c t | none => encL g (learn g (emit g (wid g e) s) s b) b.toNat t) = (match look e.D s b with | some c => encL g e c t | none => encL g (learn g (emit g e s) s b) b.toNat t)
    rw [wid_D, emit_wid h]
    cases look e.D s b with
    | some c => exact encL_wid t e c h
    | none => rfl
theorem GLive.wid {g : Nat} {p : List UInt8} {e : Enc} {out : List UInt8} (h : GLive g p e out) : GLive g p (Jvm.Pilot.CMailChainLaw_law_r4861_288717.wid g e) out := by
  obtain ⟨h1, h2, h3, h4, x, t, h5, h6⟩ := h
  exact ⟨h1.wid, by rw [wid_D]; exact h2, h3.wid, by rw [wid_D]; exact h4, x, t, h5, by rw [encL_wid t e _ h1]; exact h6⟩
/-- a code that clears the table comes -/
def GClr (g : Nat) (p : List UInt8) (e : Enc) (out : List UInt8) : Prop := EncOk g e ∧ 256 < 2 ^ (wid g e).w ∧ (∃ B, enc g p = (wid g e).E ++ (256, (wid g e).w) :: B) ∧ GLive g p ⟨[], 9, 0, (chg (emit g e 256) 9).E⟩ out
theorem GClr.wid {g : Nat} {p : List UInt8} {e : Enc} {out : List UInt8} (h : GClr g p e out) : GClr g p (Jvm.Pilot.CMailChainLaw_law_r4861_288717.wid g e) out := by
  obtain ⟨h1, h2, h3, h4⟩ := h
  exact ⟨h1.wid, by rw [wid_wid h1]; exact h2, by rw [wid_wid h1]; exact h3, by rw [emit_wid h1]; exact h4⟩
section MEX2
variable {M : zM} {rs : List UInt8}
def XR (M : zM) (g : Nat) (rs out : List UInt8) (known : Nat) (former : Int) (made w c pos : Nat) : Prop := ∀ p, rs = press g p → p.length ≤ 16000 → (out = p ∧ 24 + lenE (enc g p) ≤ pos) ∨ (former = -1 ∧ ∃ e, GLive g p e out ∧ e.D = [] ∧ known = 257 ∧ made = 257 ∧ w = e.w ∧ c = e.c ∧ pos = 24 + lenE e.E) ∨ (∃ e s b t, GMid g p e s out b t ∧ former = s ∧ known = 257 + e.D.length ∧ DmI (M.1 (413 + 36)) (M.1 (413 + 35)) e.D ∧ w = e.w ∧ c = e.c ∧ pos = 24 + lenE e.E ∧ made = min (257 + e.D.length + 1) (2 ^ g))
def XW (M : zM) (g : Nat) (rs out : List UInt8) (known : Nat) (former : Int) (made w c pos : Nat) : Prop := ∀ p, rs = press g p → p.length ≤ 16000 → (out = p ∧ 24 + lenE (enc g p) ≤ pos) ∨ (∃ e, 257 + e.D.length = made ∧ w = e.w ∧ c = e.c ∧ pos = 24 + lenE e.E ∧ ((GLive g p e out ∧ ((former = -1 ∧ e.D = [] ∧ known = 257) ∨ (∃ (s : Nat) (b : UInt8) (D0 : List (Nat × UInt8)), former = (s : Int) ∧ e.D = D0 ++ [(s, b)] ∧ known = 257 + D0.length ∧ DmI (M.1 (413 + 36)) (M.1 (413 + 35)) D0 ∧ known < 2 ^ g ∧ ∃ t, p = out ++ b :: t))) ∨ GClr g p e out))
theorem XR.w {M : zM} {g known made w c pos : Nat} {rs out : List UInt8} {former : Int} (h : XR M g rs out known former made w c pos) : XW M g rs out known former made w c pos := by
  intro p hp hpl
  rcases h p hp hpl with x | ⟨x0, e, x1, x2, x3, x4, x5, x6, x7⟩ | ⟨e, s, b, t, x1, x2, x3, x4, x5, x6, x7, x8⟩
  · exact Or.inl x
  · exact Or.inr ⟨e, by rw [x2, x4]; rfl, x5, x6, x7, Or.inl ⟨x1, Or.inl ⟨x0, x2, x3⟩⟩⟩
  · by_cases hf : 2 ^ g ≤ 257 + e.D.length
    · have h5 := x1.1.2.2.2.2.1
      obtain ⟨y1, y2, y3⟩ := x1.clear hf
      exact Or.inr ⟨e, by omega, x5, x6, x7, Or.inr ⟨x1.1, y1, y2, y3⟩⟩
    · refine Or.inr ⟨⟨e.D ++ [(s, b)], e.w, e.c, e.E⟩, ?_, x5, x6, x7, Or.inl ⟨x1.learn hf, Or.inr ⟨s, b, e.D, x2, rfl, x3, x4, by omega, t, x1.2.2.2.2.2.2.2.1⟩⟩⟩
      show 257 + (e.D ++ [(s, b)]).length = made
      rw [List.length_append, x8]
      simp
      omega
/-- a change of width, as the reference does it -/
theorem padq (c w : Nat) (hc : c ≤ 400000) (hw : w ≤ 16) : ((8 - (ii (c : Int) - ii (c : Int) / 8 * 8)) - (8 - (ii (c : Int) - ii (c : Int) / 8 * 8)) / 8 * 8) * ii (w : Int) = ii (((8 - c % 8) % 8 * w : Nat) : Int) := by
  have e1 : ii (c : Int) - ii (c : Int) / 8 * 8 = ii ((c % 8 : Nat) : Int) := by
    rw [show (8 : Int32) = ii 8 from rfl, ii_div (by omega) (by omega) (by omega) (by omega), ii_mul, ii_sub]
    congr 1
    omega
  rw [e1, show (8 : Int32) = ii 8 from rfl, ii_sub, ii_div (by omega) (by omega) (by omega) (by omega), ii_mul, ii_sub, ii_mul]
  congr 1
  have : ((8 : Int) - ((c % 8 : Nat) : Int) - (8 - ((c % 8 : Nat) : Int)) / 8 * 8) = (((8 - c % 8) % 8 : Nat) : Int) := by omega
  rw [this]
  rfl
theorem s_Mo_expand {g : Nat} {post : Int32 → zM → Prop} (hR : Cw M 45 (413 + 31) rs) (hrs : rs.length ≤ 30000) (hrs3 : 3 ≤ rs.length) (hg9 : 9 ≤ g) (hg16 : g ≤ 16)
    (k : ∀ (M' : zM) (out : List UInt8) (v : Int32), OnlyR [47, 54, 55, 58] [413 + 32, 413 + 35, 413 + 36] M M' → Cw M' 47 (413 + 32) out → out.length ≤ 16000 → (v = 0 ∨ v = 1) → (∀ p, rs = press g p → p.length ≤ 16000 → v = 1 ∧ out = p) → post v M') : Wp_Mo_expand 413 (ii g) M post := by
  have l36 : ln (413 + 36) = 65537 := by decide +kernel
  have l35 : ln (413 + 35) = 65537 := by decide +kernel
  have hp16 := p16 hg16
  have h29 : 2 ^ 9 ≤ 2 ^ g := pow_le' hg9
  obtain ⟨G, hG⟩ : ∃ G, G = 2 ^ g := ⟨_, rfl⟩
  have hsh : (1 : Int32) <<< (ii (g : Int) &&& 31) = ii (G : Int) := by rw [one_shl hg16, hG]
  unfold Wp_Mo_expand
  intro K33 K52 K116 K239 K258 K272 K314 h33 h52 h116 h239 h258 h272 h314
  rw [hsh] at *
  rw [← hG] at hp16 h29
  have okv : ∀ (M' : zM) (out : List UInt8), OnlyR [47, 54, 55, 58] [413 + 32, 413 + 35, 413 + 36] M M' → Cw M' 47 (413 + 32) out → out.length ≤ 16000 → (∀ p, rs = press g p → p.length ≤ 16000 → out = p) → post 1 M' := fun M' out o R hl hq => k M' out 1 o R hl (Or.inr rfl) (fun p h1 h2 => ⟨rfl, hq p h1 h2⟩)
  have nov : ∀ (M' : zM) (out : List UInt8), OnlyR [47, 54, 55, 58] [413 + 32, 413 + 35, 413 + 36] M M' → Cw M' 47 (413 + 32) out → out.length ≤ 16000 → (∀ p, rs = press g p → p.length ≤ 16000 → False) → post 0 M' := fun M' out o R hl hq => k M' out 0 o R hl (Or.inl rfl) (fun p h1 h2 => (hq p h1 h2).elim)
  have keep : ∀ {M'}, OnlyR [47, 54, 55, 58] [413 + 32, 413 + 35, 413 + 36] M M' → Cw M' 45 (413 + 31) rs := fun o => hR.only o (by decide) (by decide) (by decide)
  rintro M1 h1 M2 h2 M3 h3 M4 h4
  have o4 : OnlyR [47, 54, 55, 58] [413 + 32, 413 + 35, 413 + 36] M M4 := by
    rw [h4, h3, h2, h1]
    exact (((OnlyR.rf.fld (by simp)).fld (by simp)).fld (by simp)).fld (by simp)
  have R4 : Cw M4 47 (413 + 32) [] := ⟨by rw [h4, zI_g, if_neg (by decide), h3, zI_g, if_neg (by decide), h2, zI_g, if_neg (by decide), h1, zI_g, if_pos ⟨rfl, rfl⟩]; rfl, by simp, fun i hi => absurd hi (by simp)⟩
  have f58 : M4.1 413 58 = ii ((24 : Nat) : Int) := by rw [h4, zI_g, if_neg (by decide), h3, zI_g, if_neg (by decide), h2, zI_g, if_pos ⟨rfl, rfl⟩]; rfl
  have f54 : M4.1 413 54 = ii ((9 : Nat) : Int) := by rw [h4, zI_g, if_neg (by decide), h3, zI_g, if_pos ⟨rfl, rfl⟩]; rfl
  have f55 : M4.1 413 55 = ii ((0 : Nat) : Int) := by rw [h4, zI_g, if_pos ⟨rfl, rfl⟩]; rfl
  suffices H : ∀ (m : Nat) (known : Nat) (former : Int) (made w c pos : Nat) (M9 : zM) (out : List UInt8), pos + m = 240000 + 3000 → OnlyR [47, 54, 55, 58] [413 + 32, 413 + 35, 413 + 36] M M9 → Cw M9 47 (413 + 32) out → out.length ≤ 16000 → M9.1 413 54 = ii w → M9.1 413 55 = ii c → M9.1 413 58 = ii pos → 257 ≤ known → known ≤ G → 257 ≤ made → made ≤ G → 9 ≤ w → w ≤ g → c ≤ pos → pos ≤ 8 * rs.length + 112 → (former = -1 ∨ (0 ≤ former ∧ former < known ∧ former ≠ 256)) → ChI (M9.1 (413 + 36)) known → XR M9 g rs out known former made w c pos → K33 (ii known) (ii former) (ii made) M9 by
    refine H (243000 - 24) 257 (-1) 257 9 0 24 M4 [] rfl o4 R4 (by simp) f54 f55 f58 (by omega) (by omega) (by omega) (by omega) (by omega) hg9 (by omega) (by omega) (Or.inl rfl) (fun c h1 h2 => by omega) (fun p hp hpl => ?_)
    cases p with
    | nil => exact Or.inl ⟨rfl, by show 24 + lenE [] ≤ _; simp [lenE]⟩
    | cons b t => exact Or.inr (Or.inl ⟨rfl, enc0, ⟨enc0_ok hg9 hg16, DOk.nil, fun x hx => by have h : x ∈ ([] : List (Nat × Nat)) := hx; simp at h, Nat.zero_le _, b, t, rfl, rfl⟩, rfl, rfl, rfl, rfl, rfl, rfl⟩)
  intro m
  induction m using Nat.strongRecOn with
  | ind m ih =>
    intro known former made w c pos M9 out hm o9 R9 hol e54 e55 e58 n1 n2 m1 m2 w1 w2 c1 p2 hf hch xr
    have A9 := keep o9
    have xw := xr.w
    refine h33 _ _ _ _ ?_
    rw [A9.1, e58, e54, show (8 : Int32) = ii 8 from rfl, ii_mul, ii_add, ii_lt (by omega) (by omega) (by omega) (by omega)]
    refine ⟨fun z => okv M9 out o9 R9 hol (fun p hp hpl => ?_), fun z => ?_⟩
    · rcases xw p hp hpl with ⟨x1, x2⟩ | ⟨e, x1, x2, x3, x4, x5⟩
      · exact x1
      · exfalso
        have hwE : e.w ≤ (wid g e).w ∧ lenE e.E ≤ lenE (wid g e).E := by
          refine ⟨?_, lenE_pre (wid_pre g e)⟩
          unfold wid
          split
          · show e.w ≤ e.w + 1; omega
          · exact Nat.le_refl _
        rcases x5 with ⟨x5, -⟩ | x5
        · obtain ⟨s, s1, s2, s3, ⟨B, s4⟩, -⟩ := x5.step
          have hr := (code_read hg9 hg16 s4 s3 rfl).2
          rw [← hp] at hr
          omega
        · obtain ⟨B, s4⟩ := x5.2.2.1
          have hr := (code_read hg9 hg16 s4 x5.2.1 rfl).2
          rw [← hp] at hr
          omega
    -- a code is read
    have final : ∀ (w c pos : Nat) (M10 : zM), w ≤ g → ¬ (2 ^ w < made ∧ w < g) → OnlyR [47, 54, 55, 58] [413 + 32, 413 + 35, 413 + 36] M M10 → Cw M10 47 (413 + 32) out → M10.1 413 54 = ii w → M10.1 413 55 = ii c → M10.1 413 58 = ii pos → 9 ≤ w → c ≤ pos → pos ≤ 242800 → 243000 ≤ pos + m → M10.1 (413 + 36) = M9.1 (413 + 36) → M10.1 (413 + 35) = M9.1 (413 + 35) → XW M9 g rs out known former made w c pos → K116 (ii known) (ii former) (ii made) M10 := by
      clear xr xw e54 e55 e58 w1 w2 c1 p2 z hm
      clear w c pos
      intro w c pos M10 w2 hwid o10 R10 e54 e55 e58 w1 c1 p2 hm q36 q35 xw
      have A10 := keep o10
      -- what the code is
      have good : ∀ p, rs = press g p → p.length ≤ 16000 → (out = p ∧ 24 + lenE (enc g p) ≤ pos) ∨ (∃ e v, 257 + e.D.length = made ∧ w = (emit g e v).w ∧ c + 1 = (emit g e v).c ∧ pos + w = 24 + lenE (emit g e v).E ∧ rdC rs pos w = v ∧ pos + w ≤ 8 * rs.length ∧ ((v = 256 ∧ GLive g p ⟨[], 9, 0, (chg (emit g e 256) 9).E⟩ out) ∨ (v ≠ 256 ∧ v < 257 + e.D.length ∧ DOk e.D ∧ e.D.length ≤ out.length ∧ (∃ rest, p = out ++ str e.D v ++ rest) ∧ ((out ++ str e.D v = p ∧ (emit g e v).E = enc g p) ∨ ∃ b t, GMid g p (emit g e v) v (out ++ str e.D v) b t) ∧ ((former = -1 ∧ e.D = [] ∧ known = 257) ∨ (∃ (s : Nat) (b : UInt8) (D0 : List (Nat × UInt8)), former = (s : Int) ∧ e.D = D0 ++ [(s, b)] ∧ known = 257 + D0.length ∧ DmI (M9.1 (413 + 36)) (M9.1 (413 + 35)) D0 ∧ known < 2 ^ g ∧ ∃ t, p = out ++ b :: t))))) := by
        intro p hp hpl
        rcases xw p hp hpl with x | ⟨e, x1, x2, x3, x4, x5⟩
        · exact Or.inl x
        · have hid : wid g e = e := by
            unfold wid
            rw [if_neg (by rw [x1, ← x2]; exact hwid)]
          have lens : ∀ v, (emit g e v).w = w ∧ (emit g e v).c = c + 1 ∧ lenE (emit g e v).E = lenE e.E + w := fun v => by
            unfold emit
            rw [hid, x2, x3]
            exact ⟨rfl, rfl, lenE_snoc _ _ _⟩
          rcases x5 with ⟨x5, x6⟩ | x5
          · obtain ⟨v, s1, s2, s3, ⟨B, s4⟩, s5, s6⟩ := x5.step
            rw [hid] at s3 s4
            have hr := code_read hg9 hg16 s4 s3 rfl
            rw [← hp, ← x4, ← x2] at hr
            obtain ⟨l1, l2, l3⟩ := lens v
            exact Or.inr ⟨e, v, x1, l1.symm, l2.symm, by rw [l3]; omega, hr.1, hr.2, Or.inr ⟨s2, s1, x5.2.1, x5.2.2.2.1, s5, s6, x6⟩⟩
          · obtain ⟨y1, y2, ⟨B, s4⟩, y4⟩ := x5
            rw [hid] at y2 s4
            have hr := code_read hg9 hg16 s4 y2 rfl
            rw [← hp, ← x4, ← x2] at hr
            obtain ⟨l1, l2, l3⟩ := lens 256
            exact Or.inr ⟨e, 256, x1, l1.symm, l2.symm, by rw [l3]; omega, hr.1, hr.2, Or.inl ⟨rfl, y4⟩⟩
      refine h116 _ _ _ _ ?_
      rw [A10.1, e58, e54, show (8 : Int32) = ii 8 from rfl, ii_mul, ii_add, ii_le (by omega) (by omega) (by omega) (by omega)]
      refine ⟨fun z => ?_, fun z => okv M10 out o10 R10 hol (fun p hp hpl => ?_)⟩
      rotate_left
      · rcases good p hp hpl with ⟨x1, x2⟩ | ⟨e, v, x1, x2, x3, x4, x5, x6, -⟩
        · exact x1
        · omega
      have hin : pos + w ≤ 8 * rs.length := by omega
      refine s_Mo_code A10 e58 (by omega) hin (by omega) (fun M11 o11 e58' => ?_)
      have hcl : rdC rs pos w < 65536 := Nat.lt_of_lt_of_le (rdC_lt _ _ _) (p16 (by omega))
      generalize hcode : rdC rs pos w = v at *
      rintro M12 h12
      have e55' : M11.1 413 55 = ii c := by rw [o11.2.1 55 (by decide)]; exact e55
      rw [e55', show (1 : Int32) = ii 1 from rfl, ii_add, show ((c : Int) + 1) = ((c + 1 : Nat) : Int) by omega] at h12
      have o12 : OnlyR [47, 54, 55, 58] [413 + 32, 413 + 35, 413 + 36] M M12 := by
        rw [h12]
        exact (o10.trans (o11.mono (by simp) (by simp))).fld (by simp)
      have a12 : ∀ kk, kk ≠ 413 → M12.1 kk = M10.1 kk := fun kk hk => by rw [h12, zI_o hk, o11.1 kk (by simp) hk]
      have g54 : M12.1 413 54 = ii w := by rw [h12, zI_g, if_neg (by decide), o11.2.1 54 (by decide)]; exact e54
      have g55 : M12.1 413 55 = ii ((c + 1 : Nat) : Int) := by rw [h12, zI_g, if_pos ⟨rfl, rfl⟩]
      have g58 : M12.1 413 58 = ii ((pos + w : Nat) : Int) := by rw [h12, zI_g, if_neg (by decide)]; exact e58'
      have R12 : Cw M12 47 (413 + 32) out := ⟨by rw [h12, zI_g, if_neg (by decide), o11.2.1 47 (by decide)]; exact R10.1, R10.2.1, fun i hi => by rw [a12 _ (by decide)]; exact R10.2.2 i hi⟩
      have q36' : M12.1 (413 + 36) = M9.1 (413 + 36) := (a12 _ (by decide)).trans q36
      have q35' : M12.1 (413 + 35) = M9.1 (413 + 35) := (a12 _ (by decide)).trans q35
      -- the good case, once the code is there
      have good2 : ∀ p, rs = press g p → p.length ≤ 16000 → ∃ e, 257 + e.D.length = made ∧ w = (emit g e v).w ∧ c + 1 = (emit g e v).c ∧ pos + w = 24 + lenE (emit g e v).E ∧ ((v = 256 ∧ GLive g p ⟨[], 9, 0, (chg (emit g e 256) 9).E⟩ out) ∨ (v ≠ 256 ∧ v < 257 + e.D.length ∧ DOk e.D ∧ e.D.length ≤ out.length ∧ (∃ rest, p = out ++ str e.D v ++ rest) ∧ ((out ++ str e.D v = p ∧ (emit g e v).E = enc g p) ∨ ∃ b t, GMid g p (emit g e v) v (out ++ str e.D v) b t) ∧ ((former = -1 ∧ e.D = [] ∧ known = 257) ∨ (∃ (s : Nat) (b : UInt8) (D0 : List (Nat × UInt8)), former = (s : Int) ∧ e.D = D0 ++ [(s, b)] ∧ known = 257 + D0.length ∧ DmI (M9.1 (413 + 36)) (M9.1 (413 + 35)) D0 ∧ known < 2 ^ g ∧ ∃ t, p = out ++ b :: t)))) := by
        intro p hp hpl
        rcases good p hp hpl with ⟨x1, x2⟩ | ⟨e, v', x1, x2, x3, x4, x5, x6, x7⟩
        · have := press_end (g := g) (p := p)
          rw [← hp] at this
          omega
        · subst x5
          exact ⟨e, x1, x2, x3, x4, x7⟩
      clear good
      rw [show (256 : Int32) = ii 256 from rfl, ii_eq (by omega) (by omega) (by omega) (by omega)]
      refine ⟨fun zc => ?_, fun zc => ?_⟩
      · -- a string's code
        have hlay : ∀ (M13 : zM) (known' : Nat), OnlyR [47, 54, 55, 58] [413 + 32, 413 + 35, 413 + 36] M M13 → Cw M13 47 (413 + 32) out → M13.1 413 54 = ii w → M13.1 413 55 = ii ((c + 1 : Nat) : Int) → M13.1 413 58 = ii ((pos + w : Nat) : Int) → 257 ≤ known' → known' ≤ G → v < known' → ChI (M13.1 (413 + 36)) known' → (∀ p, rs = press g p → p.length ≤ 16000 → ∃ e, 257 + e.D.length = made ∧ known' = 257 + e.D.length ∧ w = (emit g e v).w ∧ c + 1 = (emit g e v).c ∧ pos + w = 24 + lenE (emit g e v).E ∧ DOk e.D ∧ DmI (M13.1 (413 + 36)) (M13.1 (413 + 35)) e.D ∧ (∃ rest, p = out ++ str e.D v ++ rest) ∧ ((out ++ str e.D v = p ∧ (emit g e v).E = enc g p) ∨ ∃ b t, GMid g p (emit g e v) v (out ++ str e.D v) b t)) → K314 (ii known') (ii made) (ii v) M13 := by
          intro M13 known' o13 R13 i54 i55 i58 k1 k2 hv hch' hgd
          refine h314 _ _ _ _ ?_
          refine s_layString R13 hol hch' (by omega) (Or.inl hv) (by omega) (fun hbig => ⟨fun y => absurd rfl y, fun _ => nov M13 out o13 R13 hol (fun p hp hpl => ?_)⟩) (fun M14 o14 hsm R14 => ⟨fun _ => ?_, fun y => absurd y (by decide)⟩)
          · obtain ⟨e, y1, y2, y3, y4, y5, y6, y7, ⟨rest, y8⟩, y9⟩ := hgd p hp hpl
            rw [strM_str hch' (by omega) y6 y7 (by omega) v (by omega) (by omega)] at hbig
            have : p.length = out.length + (str e.D v).length + rest.length := by rw [y8, List.length_append, List.length_append]
            omega
          · have o14' := o13.trans (o14.mono (by simp) (by simp))
            have next : ∀ made' : Nat, made' = min (made + 1) G → K33 (ii known') (ii (v : Int)) (ii made') M14 := by
              intro made' hmd
              refine ih (243000 - (pos + w)) (by omega) known' v made' w (c + 1) (pos + w) M14 _ (by omega) o14' R14 (by rw [List.length_append]; exact hsm) (by rw [o14.2.1 54 (by decide)]; exact i54) (by rw [o14.2.1 55 (by decide)]; exact i55) (by rw [o14.2.1 58 (by decide)]; exact i58) k1 k2 (by omega) (by omega) w1 w2 (by omega) (by omega) (Or.inr ⟨by omega, by omega, by omega⟩) (by rw [o14.1 (413 + 36) (by decide) (by decide)]; exact hch') (fun p hp hpl => ?_)
              obtain ⟨e, y1, y2, y3, y4, y5, y6, y7, ⟨rest, y8⟩, y9⟩ := hgd p hp hpl
              rw [strM_str hch' (by omega) y6 y7 (by omega) v (by omega) (by omega)]
              rcases y9 with ⟨y9, y10⟩ | ⟨b, t, y9⟩
              · exact Or.inl ⟨y9, by rw [y10] at y5; omega⟩
              · refine Or.inr (Or.inr ⟨emit g e v, v, b, t, y9, rfl, by rw [emit_D]; exact y2, ?_, y3, y4, y5, by rw [emit_D, y1, hmd, hG]⟩)
                rw [emit_D, o14.1 (413 + 36) (by decide) (by decide), o14.1 (413 + 35) (by decide) (by decide)]
                exact y7
            rw [ii_le (by omega) (by omega) (by omega) (by omega)]
            refine ⟨fun y => next made (by omega), fun y => ?_⟩
            rintro x rfl
            rw [show (1 : Int32) = ii 1 from rfl, ii_add]
            exact next (made + 1) (by omega)
        -- a new string of the table
        have h272' : ∀ fresh : Int32, (v < known ∨ (v = known ∧ fresh ≠ 0)) → (fresh ≠ 0 → v = known ∧ 0 ≤ former ∧ known < G) → (257 ≤ v → 0 ≤ former) → K272 (ii known) (ii former) (ii made) (ii v) fresh M12 := by
          intro fresh hv hfr hfo
          refine h272 _ _ _ _ _ _ ?_
          rw [ii_nneg (by omega) (by omega), ii_le (by omega) (by omega) (by omega) (by omega)]
          have hch12 : ChI (M12.1 (413 + 36)) known := by rw [q36']; exact hch
          refine ⟨fun y => hlay M12 known o12 R12 g54 g55 g58 n1 n2 (by rcases hv with hv | hv; exact hv; have := hfr hv.2; omega) hch12 (fun p hp hpl => ?_), fun y => ⟨fun y2 => hlay M12 known o12 R12 g54 g55 g58 n1 n2 (by rcases hv with hv | hv; exact hv; have := hfr hv.2; omega) hch12 (fun p hp hpl => ?_), fun y2 => ⟨ii_in (by omega) (by omega) (by omega), ?_⟩⟩⟩
          · obtain ⟨e, x1, x2, x3, x4, x5⟩ := good2 p hp hpl
            rcases x5 with ⟨x5, -⟩ | ⟨x5, x6, x7, x8, x9, x10, x11⟩
            · omega
            · rcases x11 with ⟨u1, u2, u3⟩ | ⟨s, b, D0, u1, -⟩
              · refine ⟨e, x1, by rw [u2, u3]; rfl, x2, x3, x4, x7, ?_, x9, x10⟩
                rw [u2]
                intro i hi
                exact absurd hi (by simp)
              · omega
          · obtain ⟨e, x1, x2, x3, x4, x5⟩ := good2 p hp hpl
            rcases x5 with ⟨x5, -⟩ | ⟨x5, x6, x7, x8, x9, x10, x11⟩
            · omega
            · rcases x11 with ⟨u1, u2, u3⟩ | ⟨s, b, D0, u1, u2, u3, u4, u5, u6⟩
              · omega
              · rw [← hG] at u5
                omega
          · obtain ⟨fo, hfo2⟩ := Int.eq_ofNat_of_zero_le (show 0 ≤ former by omega)
            have hfk : fo < known ∧ fo ≠ 256 := by rcases hf with q | q <;> omega
            rw [ii_nat (by omega) (by omega), Int.toNat_natCast, hfo2]
            rintro M14 h14
            have b14 : ∀ kk j, ¬ (kk = 413 + 36 ∧ j = known) → M14.1 kk j = M12.1 kk j := fun kk j hk => by rw [h14, zI_g, if_neg hk]
            have ch14 : ChI (M14.1 (413 + 36)) (known + 1) := by
              intro cc h1 h2
              by_cases q : cc = known
              · subst q
                exact ⟨fo, by rw [h14, zI_g, if_pos ⟨rfl, rfl⟩], hfk.1, hfk.2⟩
              · rw [b14 _ _ (by omega)]
                exact hch12 cc h1 (by omega)
            -- the byte behind is laid
            have add : ∀ cc : Nat, cc < known → cc ≠ 256 → (∀ p, rs = press g p → p.length ≤ 16000 → ∀ e : Enc, DOk e.D → ∀ (s : Nat) (b : UInt8) (D0 : List (Nat × UInt8)), former = (s : Int) → e.D = D0 ++ [(s, b)] → known = 257 + D0.length → DmI (M9.1 (413 + 36)) (M9.1 (413 + 35)) D0 → (∃ t, p = out ++ b :: t) → (∃ rest, p = out ++ str e.D v ++ rest) → v < 257 + e.D.length → (str D0 cc).head? = some b) → Wp_Mo_firstByte 413 (ii cc) M14 (fun x16 M15 => (vp_in (ii (known : Int)) (ln (413 + 35)) ∧ (∀ M17 : zM, M17 = zI M15 (413 + 35) known x16 → (∀ x18 : Int32, x18 = ii (known : Int) + 1 → (K314 x18 (ii made) (ii v) M17))))) := by
              intro cc hcc hcc2 hhead
              refine s_firstByte ch14 (by omega) (Or.inl (by omega)) hcc2 (fun x hx hxh => ⟨ii_in (by omega) (by omega) (by omega), ?_⟩)
              rintro M17 h17 x18 rfl
              rw [show (1 : Int32) = ii 1 from rfl, ii_add, show ((known : Int) + 1) = ((known + 1 : Nat) : Int) by omega]
              have b17 : ∀ kk j, ¬ (kk = 413 + 35 ∧ j = known) → ¬ (kk = 413 + 36 ∧ j = known) → M17.1 kk j = M12.1 kk j := fun kk j hk hk2 => by rw [h17, zI_g, if_neg hk]; exact b14 kk j hk2
              have o17 : OnlyR [47, 54, 55, 58] [413 + 32, 413 + 35, 413 + 36] M M17 := by
                rw [h17, h14]
                exact (o12.arr (by simp) (by decide)).arr (by simp) (by decide)
              have e36 : M17.1 (413 + 36) = M14.1 (413 + 36) := by rw [h17, zI_o (by decide)]
              refine hlay M17 (known + 1) o17 ⟨by rw [b17 _ _ (by omega) (by omega)]; exact R12.1, R12.2.1, fun i hi => by rw [b17 _ _ (by omega) (by omega)]; exact R12.2.2 i hi⟩ (by rw [b17 _ _ (by omega) (by omega)]; exact g54) (by rw [b17 _ _ (by omega) (by omega)]; exact g55) (by rw [b17 _ _ (by omega) (by omega)]; exact g58) (by omega) (by omega) (by rcases hv with hv | hv <;> omega) (by rw [e36]; exact ch14) (fun p hp hpl => ?_)
              obtain ⟨e, x1, x2, x3, x4, x5⟩ := good2 p hp hpl
              rcases x5 with ⟨x5, -⟩ | ⟨x5, x6, x7, x8, x9, x10, x11⟩
              · omega
              · rcases x11 with ⟨u1, u2, u3⟩ | ⟨s, b, D0, u1, u2, u3, u4, u5, u6⟩
                · omega
                · have hel : e.D.length = D0.length + 1 := by rw [u2, List.length_append]; rfl
                  refine ⟨e, x1, by omega, x2, x3, x4, x7, ?_, x9, x10⟩
                  intro i hi
                  have hi2 : i < D0.length + 1 := by omega
                  have hD0 : DOk D0 := fun j hj => by
                    have := x7 j (by omega)
                    have e9 : e.D[j]'(by omega) = D0[j] := by
                      simp only [u2]
                      exact List.getElem_append_left hj
                    rw [e9] at this
                    exact this
                  by_cases q : i < D0.length
                  · have e9 : e.D[i] = D0[i] := by
                      simp only [u2]
                      exact List.getElem_append_left q
                    rw [e9, b17 _ _ (by omega) (by omega), b17 _ _ (by omega) (by omega), q36', q35']
                    exact u4 i q
                  · have hieq : i = D0.length := by omega
                    subst hieq
                    have e9 : e.D[D0.length] = (s, b) := by
                      simp only [u2]
                      rw [List.getElem_append_right (Nat.le_refl _)]
                      simp
                    rw [e9, e36, ← u3, h14, zI_g, if_pos ⟨rfl, rfl⟩, h17, zI_g, if_pos ⟨rfl, rfl⟩]
                    have hsf : s = fo := by omega
                    refine ⟨by rw [hsf], ?_⟩
                    have hdm : DmI (M14.1 (413 + 36)) (M14.1 (413 + 35)) D0 := fun j hj => by
                      rw [b14 _ _ (by omega), b14 _ _ (by omega), q36', q35']
                      exact u4 j hj
                    have hst := strM_str ch14 (by omega) hD0 hdm (by omega) cc (by omega) hcc2
                    rw [hst, hhead p hp hpl e x7 s b D0 u1 u2 u3 u4 u6 x9 x6] at hxh
                    have hxb := Option.some.inj hxh
                    rw [hxb, UInt8.toNat_ofNat', show x % 2 ^ 8 = x by omega]
            have hd : ∀ (p : List UInt8) (X rest t : List UInt8) (b : UInt8), p = out ++ X ++ rest → p = out ++ b :: t → 1 ≤ X.length → X.head? = some b := by
              intro p X rest t b h1 h2 h3
              rw [h1, List.append_assoc] at h2
              have h4 := List.append_cancel_left h2
              cases X with
              | nil => simp at h3
              | cons x X' =>
                rw [List.cons_append] at h4
                rw [(List.cons.inj h4).1]
                rfl
            refine ⟨fun yf => ?_, fun yf => ?_⟩
            · have hvk : v < known := by rcases hv with hv | hv; exact hv; exact absurd yf hv.2
              refine add v hvk (by omega) (fun p hp hpl e x7 s b D0 u1 u2 u3 u4 ⟨t, u6⟩ ⟨rest, x9⟩ x6 => ?_)
              have es : str e.D v = str D0 v := by rw [u2]; exact str_old (by omega)
              rw [← es]
              exact hd p _ rest t b x9 u6 (str_pos x7 x6)
            · obtain ⟨f1, f2, f3⟩ := hfr yf
              refine add fo hfk.1 hfk.2 (fun p hp hpl e x7 s b D0 u1 u2 u3 u4 ⟨t, u6⟩ ⟨rest, x9⟩ x6 => ?_)
              have hsf : s = fo := by omega
              subst hsf
              have es : str e.D v = str D0 s ++ [b] := by
                rw [u2, f1, u3]
                exact str_new D0 (s, b)
              have hD0 : DOk D0 := fun j hj => by
                have := x7 j (by rw [u2, List.length_append]; simp; omega)
                have e9 : e.D[j]'(by rw [u2, List.length_append]; simp; omega) = D0[j] := by
                  simp only [u2]
                  exact List.getElem_append_left hj
                rw [e9] at this
                exact this
              rw [es, List.append_assoc] at x9
              have h1 := hd p (str D0 s) ([b] ++ rest) t b (by rw [x9]; simp) u6 (str_pos hD0 (by omega))
              exact h1
        have h258' : ∀ fresh : Int32, (v < known ∨ (v = known ∧ fresh ≠ 0)) → (fresh ≠ 0 → v = known ∧ 0 ≤ former ∧ known < G) → K258 (ii known) (ii former) (ii made) (ii v) fresh M12 := by
          intro fresh hv hfr
          refine h258 _ _ _ _ _ _ ?_
          rw [show (257 : Int32) = ii 257 from rfl, ii_lt (by omega) (by omega) (by omega) (by omega), show (0 : Int32) = ii 0 from rfl, ii_le (by omega) (by omega) (by omega) (by omega)]
          refine ⟨fun y => h272' fresh hv hfr (fun q => by omega), fun y => ⟨fun y2 => h272' fresh hv hfr (fun _ => y2), fun y2 => nov M12 out o12 R12 hol (fun p hp hpl => ?_)⟩⟩
          obtain ⟨e, x1, x2, x3, x4, x5⟩ := good2 p hp hpl
          rcases x5 with ⟨x5, -⟩ | ⟨x5, x6, x7, x8, x9, x10, x11⟩
          · omega
          · rcases x11 with ⟨u1, u2, u3⟩ | ⟨s, b, D0, u1, -⟩
            · rw [u2] at x6
              simp only [List.length_nil] at x6
              omega
            · omega
        have h239' : ∀ fresh : Int32, (fresh = 0 → ¬ (v = known ∧ 0 ≤ former ∧ known < G)) → (fresh ≠ 0 → v = known ∧ 0 ≤ former ∧ known < G) → K239 (ii known) (ii former) (ii made) (ii v) fresh M12 := by
          intro fresh hf0 hfr
          have bad : (known < v ∨ (v = known ∧ fresh = 0)) → post 0 M12 := fun hb => nov M12 out o12 R12 hol (fun p hp hpl => by
            obtain ⟨e, x1, x2, x3, x4, x5⟩ := good2 p hp hpl
            rcases x5 with ⟨x5, -⟩ | ⟨x5, x6, x7, x8, x9, x10, x11⟩
            · omega
            · rcases x11 with ⟨u1, u2, u3⟩ | ⟨s, b, D0, u1, u2, u3, u4, u5, u6⟩
              · rw [u2] at x6
                simp only [List.length_nil] at x6
                omega
              · rw [← hG] at u5
                have hel : e.D.length = D0.length + 1 := by rw [u2, List.length_append]; rfl
                rcases hb with hb | ⟨hb1, hb2⟩
                · omega
                · exact hf0 hb2 ⟨hb1, by omega, u5⟩)
          refine h239 _ _ _ _ _ _ ?_
          rw [ii_lt (by omega) (by omega) (by omega) (by omega), ii_eq (by omega) (by omega) (by omega) (by omega)]
          refine ⟨fun y => bad (Or.inl (by omega)), fun y => ⟨fun y2 => h258' fresh (Or.inl (by omega)) hfr, fun y2 => ⟨fun y3 => bad (Or.inr ⟨by omega, y3⟩), fun y3 => h258' fresh (Or.inr ⟨by omega, y3⟩) hfr⟩⟩⟩
        rw [ii_eq (by omega) (by omega) (by omega) (by omega), ii_nneg (by omega) (by omega), ii_le (by omega) (by omega) (by omega) (by omega)]
        refine ⟨fun y => h239' 0 (fun _ q => by omega) (fun q => absurd rfl q), fun y => ⟨fun y2 => h239' 0 (fun _ q => by omega) (fun q => absurd rfl q), fun y2 => ⟨fun y3 => h239' 0 (fun _ q => by omega) (fun q => absurd rfl q), fun y3 => ?_⟩⟩⟩
        exact h239' 1 (fun q => absurd q (by decide)) (fun _ => ⟨by omega, by omega, by omega⟩)
      · -- the table is cleared
        rw [g54, g55, g58]
        rintro M13 h13 M14 h14 M15 h15
        rw [show ii 8 = (8 : Int32) from rfl, padq (c + 1) w (by omega) (by omega), ii_add] at h13
        have hpad : (8 - (c + 1) % 8) % 8 * w ≤ 7 * 16 := Nat.mul_le_mul (by omega) (by omega)
        have o15 : OnlyR [47, 54, 55, 58] [413 + 32, 413 + 35, 413 + 36] M M15 := by
          rw [h15, h14, h13]
          exact ((o12.fld (by simp)).fld (by simp)).fld (by simp)
        have a15 : ∀ kk, kk ≠ 413 → M15.1 kk = M12.1 kk := fun kk hk => by rw [h15, zI_o hk, h14, zI_o hk, h13, zI_o hk]
        have hc15 : M15.1 413 58 = ii ((pos + w + (8 - (c + 1) % 8) % 8 * w : Nat) : Int) := by
          rw [h15, zI_g, if_neg (by decide), h14, zI_g, if_neg (by decide), h13, zI_g, if_pos ⟨rfl, rfl⟩]
          rfl
        refine ih (243000 - (pos + w + (8 - (c + 1) % 8) % 8 * w)) (by omega) 257 (-1) 257 9 0 (pos + w + (8 - (c + 1) % 8) % 8 * w) M15 out (by omega) o15 ⟨by rw [h15, zI_g, if_neg (by decide), h14, zI_g, if_neg (by decide), h13, zI_g, if_neg (by decide)]; exact R12.1, R12.2.1, fun i hi => by rw [a15 _ (by decide)]; exact R12.2.2 i hi⟩ hol (by rw [h15, zI_g, if_pos ⟨rfl, rfl⟩]; rfl) (by rw [h15, zI_g, if_neg (by decide), h14, zI_g, if_pos ⟨rfl, rfl⟩]; rfl) hc15 (by omega) (by omega) (by omega) (by omega) (by omega) hg9 (by omega) (by omega) (Or.inl rfl) (fun cc h1 h2 => by omega) (fun p hp hpl => ?_)
        obtain ⟨e, x1, x2, x3, x4, x5⟩ := good2 p hp hpl
        have hv : v = 256 := by omega
        subst hv
        rcases x5 with ⟨-, x5⟩ | ⟨x5, -⟩
        · refine Or.inr (Or.inl ⟨rfl, _, x5, rfl, rfl, rfl, rfl, rfl, ?_⟩)
          show _ = 24 + lenE ((emit g e 256).E ++ pads (emit g e 256))
          rw [lenE_app, lenE_pads, ← x2, ← x3]
          omega
        · exact absurd rfl x5
    -- the width
    suffices HW : ∀ (d w c pos : Nat) (M10 : zM), w + d = g → OnlyR [47, 54, 55, 58] [413 + 32, 413 + 35, 413 + 36] M M10 → Cw M10 47 (413 + 32) out → M10.1 413 54 = ii w → M10.1 413 55 = ii c → M10.1 413 58 = ii pos → 9 ≤ w → c ≤ pos → pos + d * 112 ≤ 8 * rs.length + 112 + 16 * 112 → 243000 ≤ pos + m → M10.1 (413 + 36) = M9.1 (413 + 36) → M10.1 (413 + 35) = M9.1 (413 + 35) → XW M9 g rs out known former made w c pos → K52 (ii known) (ii former) (ii made) M10 from
      HW (g - w) w c pos M9 (by omega) o9 R9 e54 e55 e58 w1 c1 (by omega) (by omega) rfl rfl xw
    clear xr xw e54 e55 e58 w1 w2 c1 p2 z hm
    clear w c pos
    intro d
    induction d with
    | zero =>
      intro w c pos M10 hd o10 R10 e54 e55 e58 w1 c1 p2 hm q36 q35 xw
      have fin := final w c pos M10 (by omega) (by omega) o10 R10 e54 e55 e58 w1 c1 (by omega) hm q36 q35 xw
      refine h52 _ _ _ _ ⟨fun _ => fin, fun _ => ⟨fun _ => fin, fun y => absurd ?_ y⟩⟩
      rw [e54, ii_le (by omega) (by omega) (by omega) (by omega)]
      omega
    | succ d ihd =>
      intro w c pos M10 hd o10 R10 e54 e55 e58 w1 c1 p2 hm q36 q35 xw
      have hcmp : (ii (made : Int) ≤ ii ((2 ^ w : Nat) : Int)) ↔ made ≤ 2 ^ w := by
        have := p16 (w := w) (by omega)
        generalize 2 ^ w = pw at *
        rw [ii_le (by omega) (by omega) (by omega) (by omega)]
        omega
      refine h52 _ _ _ _ ?_
      rw [e54, one_shl (by omega), hcmp, ii_le (by omega) (by omega) (by omega) (by omega)]
      refine ⟨fun y => final w c pos M10 (by omega) (by omega) o10 R10 e54 e55 e58 w1 c1 (by omega) hm q36 q35 xw, fun y => ⟨fun y2 => final w c pos M10 (by omega) (by omega) o10 R10 e54 e55 e58 w1 c1 (by omega) hm q36 q35 xw, fun y2 => ?_⟩⟩
      rintro M13 h13 M14 h14 M15 h15
      rw [e55, e58, padq c w (by omega) (by omega), ii_add] at h13
      have hpad : (8 - c % 8) % 8 * w ≤ 7 * 16 := Nat.mul_le_mul (by omega) (by omega)
      have g54 : M14.1 413 54 = ii w := by rw [h14, zI_g, if_neg (by decide), h13, zI_g, if_neg (by decide)]; exact e54
      rw [g54, show (1 : Int32) = ii 1 from rfl, ii_add, show ((w : Int) + 1) = ((w + 1 : Nat) : Int) by omega] at h15
      have o15 : OnlyR [47, 54, 55, 58] [413 + 32, 413 + 35, 413 + 36] M M15 := by
        rw [h15, h14, h13]
        exact ((o10.fld (by simp)).fld (by simp)).fld (by simp)
      have a15 : ∀ kk, kk ≠ 413 → M15.1 kk = M10.1 kk := fun kk hk => by rw [h15, zI_o hk, h14, zI_o hk, h13, zI_o hk]
      have hd1 : (d + 1) * 112 = d * 112 + 112 := Nat.succ_mul d 112
      refine ihd (w + 1) 0 (pos + (8 - c % 8) % 8 * w) M15 (by omega) o15 ⟨by rw [h15, zI_g, if_neg (by decide), h14, zI_g, if_neg (by decide), h13, zI_g, if_neg (by decide)]; exact R10.1, R10.2.1, fun i hi => by rw [a15 _ (by decide)]; exact R10.2.2 i hi⟩ (by rw [h15, zI_g, if_pos ⟨rfl, rfl⟩]) (by rw [h15, zI_g, if_neg (by decide), h14, zI_g, if_pos ⟨rfl, rfl⟩]; rfl) (by rw [h15, zI_g, if_neg (by decide), h14, zI_g, if_neg (by decide), h13, zI_g, if_pos ⟨rfl, rfl⟩]; rfl) (by omega) (by omega) (by omega) (by omega) (by rw [a15 _ (by decide)]; exact q36) (by rw [a15 _ (by decide)]; exact q35) (fun p hp hpl => ?_)
      rcases xw p hp hpl with x | ⟨e, x1, x2, x3, x4, x5⟩
      · exact Or.inl ⟨x.1, by omega⟩
      · have hcw : wid g e = chg e (e.w + 1) := by
          unfold wid
          rw [if_pos (by rw [x1, ← x2]; omega)]
        refine Or.inr ⟨wid g e, by rw [wid_D]; exact x1, by rw [hcw, x2]; rfl, by rw [hcw]; rfl, ?_, ?_⟩
        · rw [hcw]
          show _ = 24 + lenE (e.E ++ pads e)
          rw [lenE_app, lenE_pads, ← x2, ← x3]
          omega
        · rcases x5 with ⟨x5, x6⟩ | x5
          · refine Or.inl ⟨x5.wid, ?_⟩
            rw [wid_D]
            exact x6
          · exact Or.inr x5.wid
end MEX2
