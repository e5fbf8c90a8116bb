/-! MailChain's squeezer. -/
/-- a chain of codes through an array, with its end -/
def Ch (nc : Nat → Int32) (nil : Int32) : Int32 → List Nat → Prop
  | v, [] => v = nil
  | v, c :: t => v = ii c ∧ Ch nc nil (nc c) t
/-- the dictionary in three arrays -/
def Dict (fc nc lb : Nat → Int32) (nil : Int32) (D : List (Nat × UInt8)) : Prop := (∀ s, s < 257 + D.length → Ch nc nil (fc s) (kids D s)) ∧ ∀ i, i < D.length → lb (257 + i) = ii (((D.getD i (0, 0)).2.toNat : Nat) : Int)
theorem Ch.same {nc nc' : Nat → Int32} {nil : Int32} : ∀ {l : List Nat} {v : Int32}, Ch nc nil v l → (∀ c ∈ l, nc' c = nc c) → Ch nc' nil v l
  | [], v, h, _ => h
  | c :: t, v, h, hs => ⟨h.1, by rw [hs c (by simp)]; exact h.2.same (fun x hx => hs x (by simp [hx]))⟩
theorem kids_new (D : List (Nat × UInt8)) (h : ∀ x ∈ D, x.1 < 257 + D.length) : kids D (257 + D.length) = [] := by
  have : ∀ (E : List (Nat × UInt8)) (n : Nat) (acc : List Nat) (s : Nat), (∀ x ∈ E, x.1 ≠ s) → kidsF s n E acc = acc := by
    intro E
    induction E with
    | nil => intro n acc s _; rfl
    | cons x t ih =>
      intro n acc s hx
      unfold kidsF
      rw [if_neg (hx x (by simp))]
      exact ih _ _ _ (fun y hy => hx y (by simp [hy]))
  exact this D 257 [] _ (fun x hx => by have := h x hx; omega)
theorem Dict.add {fc nc lb fc' nc' lb' : Nat → Int32} {nil : Int32} {D : List (Nat × UInt8)} {s : Nat} {b : UInt8} (h : Dict fc nc lb nil D) (hD : ∀ x ∈ D, x.1 < 257 + D.length) (hs : s < 257 + D.length)
    (h1 : fc' s = ii ((257 + D.length : Nat) : Int)) (h2 : fc' (257 + D.length) = nil) (h3 : ∀ k, k ≠ s → k < 257 + D.length → fc' k = fc k) (h4 : nc' (257 + D.length) = fc s) (h5 : ∀ k, k < 257 + D.length → nc' k = nc k) (h6 : lb' (257 + D.length) = ii ((b.toNat : Nat) : Int)) (h7 : ∀ k, k < 257 + D.length → lb' k = lb k) : Dict fc' nc' lb' nil (D ++ [(s, b)]) := by
  have old : ∀ t, t < 257 + D.length → Ch nc' nil (fc t) (kids D t) := fun t ht => (h.1 t ht).same (fun c hc => h5 c (kids_rng D t c hc).2)
  refine ⟨fun t ht => ?_, fun i hi => ?_⟩
  · simp only [List.length_append, List.length_cons, List.length_nil] at ht
    rw [kids_snoc]
    by_cases e : t = 257 + D.length
    · subst e
      rw [if_neg (by omega), kids_new D hD, h2]
      rfl
    · by_cases e2 : s = t
      · subst e2
        rw [if_pos rfl]
        refine ⟨h1, ?_⟩
        rw [h4]
        exact old s hs
      · rw [if_neg e2, h3 t (fun q => e2 q.symm) (by omega)]
        exact old t (by omega)
  · simp only [List.length_append, List.length_cons, List.length_nil] at hi
    by_cases e : i = D.length
    · subst e
      rw [h6]
      simp
    · rw [h7 _ (by omega), h.2 i (by omega)]
      congr 4
      simp [List.getD_eq_getElem?_getD, List.getElem?_append_left (show i < D.length by omega)]
theorem Dict.none {fc nc lb : Nat → Int32} {nil : Int32} (h : ∀ s, s < 257 → fc s = nil) : Dict fc nc lb nil [] := ⟨fun s hs => by rw [kids_nil]; exact h s (by simpa using hs), fun i hi => absurd hi (by simp)⟩
/-- the squeezer stands as the encoder does -/
def SqI (M : zM) (q r : Nat) (pre : List UInt8) (g : Nat) (e : Enc) : Prop := M.1 q 3 = ii g ∧ M.1 q 4 = ii ((257 + e.D.length : Nat) : Int) ∧ M.1 q 5 = ii e.w ∧ M.1 q 6 = ii e.c ∧ Bw M q r pre (numE e.E) (lenE e.E) ∧ Dict (M.1 (q + 1)) (M.1 (q + 2)) (M.1 (q + 3)) (-1) e.D ∧ EncOk g e
section SQ
variable {M : zM} {q r g : Nat} {pre : List UInt8} {e : Enc}
theorem SqI.upd {M' : zM} {e' : Enc} (h : SqI M q r pre g e) (ho : OnlyF q [5, 6, 7, 8] [r, r + 1] M M') (hD : e'.D = e.D) (h5 : M'.1 q 5 = ii e'.w) (h6 : M'.1 q 6 = ii e'.c) (hB : Bw M' q r pre (numE e'.E) (lenE e'.E)) (hok : EncOk g e') (hr : ∀ j, 1 ≤ j → j ≤ 3 → q + j ≠ r ∧ q + j ≠ r + 1) : SqI M' q r pre g e' := by
  have f : ∀ j, 1 ≤ j → j ≤ 3 → M'.1 (q + j) = M.1 (q + j) := fun j h1 h2 => ho.1 _ (by simp; exact hr j h1 h2) (by omega)
  refine ⟨by rw [ho.2.1 3 (by decide)]; exact h.1, by rw [ho.2.1 4 (by decide), hD]; exact h.2.1, h5, h6, hB, ?_, hok⟩
  rw [f 1 (by decide) (by decide), f 2 (by decide) (by decide), f 3 (by decide) (by decide), hD]
  exact h.2.2.2.2.2.1
theorem s_Sq_put1 {code : Nat} {post : zM → Prop} (h : SqI M q r pre g e) (hc : code < 2 ^ e.w) (hroom : pre.length + lenE (put1 e code).E / 8 ≤ ln (r + 1)) (hq : ∀ j, j ≤ 3 → q + j ≠ r ∧ q + j ≠ r + 1) (k : ∀ M', OnlyF q [5, 6, 7, 8] [r, r + 1] M M' → SqI M' q r pre g (put1 e code) → post M') : Wp_Sq_putBits q (ii code) r M post := by
  have hok := h.2.2.2.2.2.2
  have hlen : lenE (put1 e code).E = lenE e.E + e.w := lenE_snoc _ _ _
  have hnum : numE (put1 e code).E = numE e.E + code * 2 ^ lenE e.E := numE_snoc _ _ _
  refine s_Sq_putBits h.2.2.1 (by have := hok.2.1; have := hok.2.2.1; omega) hc h.2.2.2.2.1 (by rw [← hlen]; exact hroom) h.2.2.2.1 (hq 0 (by omega)).1 (hq 0 (by omega)).2 (fun M' ho h6 hB => ?_)
  have ho' := ho.mono (F' := [5, 6, 7, 8]) (S' := [r, r + 1]) (by simp) (by simp)
  refine k M' ho' (h.upd ho' rfl (by rw [ho.2.1 5 (by decide)]; exact h.2.2.1) h6 (by rw [hnum, hlen]; exact hB) ?_ (fun j _ h2 => hq j h2))
  obtain ⟨a1, a2, a3, a4, a5, a6, a7⟩ := hok
  exact ⟨a1, a2, a3, by show e.c + 1 ≤ _; rw [hlen]; omega, a5, a6, a7⟩
/-- i codes 0 more -/
def padI (e : Enc) (i : Nat) : Enc := ⟨e.D, e.w, e.c + i, e.E ++ List.replicate i (0, e.w)⟩
theorem padI_succ (e : Enc) (i : Nat) : put1 (padI e i) 0 = padI e (i + 1) := by
  show ((e.D, e.w, e.c + i + 1, (e.E ++ List.replicate i (0, e.w)) ++ [(0, e.w)]) : Enc) = (e.D, e.w, e.c + (i + 1), e.E ++ List.replicate (i + 1) (0, e.w))
  rw [List.append_assoc, List.replicate_succ', Nat.add_assoc]
theorem s_Sq_changeWidth {w' : Nat} {post : zM → Prop} (h : SqI M q r pre g e) (hroom : pre.length + lenE (chg e w').E / 8 ≤ ln (r + 1)) (hq : ∀ j, j ≤ 3 → q + j ≠ r ∧ q + j ≠ r + 1)
    (k : ∀ M', OnlyF q [5, 6, 7, 8] [r, r + 1] M M' → M'.1 q 5 = ii w' → M'.1 q 6 = ii ((0 : Nat) : Int) → Bw M' q r pre (numE (chg e w').E) (lenE (chg e w').E) → post M') : Wp_Sq_changeWidth q (ii w') r M post := by
  have hs := ln_small (r + 1)
  have hok := h.2.2.2.2.2.2
  have hcl := hok.2.2.2.1
  have hl0 : lenE (chg e w').E = lenE e.E + (8 - e.c % 8) % 8 * e.w := by
    show lenE (e.E ++ pads e) = _
    rw [lenE_app, lenE_pads]
  have hlr : ∀ i, i ≤ (8 - e.c % 8) % 8 → lenE (padI e i).E ≤ lenE (chg e w').E := fun i hi => by
    show lenE (e.E ++ List.replicate i (0, e.w)) ≤ _
    rw [lenE_app, lenE_rep, hl0]
    have := Nat.mul_le_mul_right e.w hi
    omega
  have hcb : e.c ≤ 600000 := by omega
  unfold Wp_Sq_changeWidth
  intro K hK
  rintro x rfl
  have hmiss : (-(M.1 q 6)) &&& 7 = ii (((8 - e.c % 8) % 8 : Nat) : Int) := by
    have h3 := ii_mask (-(e.c : Int)) 3 (by decide)
    rw [show (2 ^ 3 - 1 : Int) = 7 from rfl] at h3
    rw [h.2.2.2.1, ii_neg, show (7 : Int32) = ii 7 from rfl, h3, show ((2 : Int) ^ 3) = 8 from rfl]
    congr 1
    omega
  rw [hmiss]
  suffices H : ∀ (m i : Nat) (M1 : zM), i + m = (8 - e.c % 8) % 8 → OnlyF q [5, 6, 7, 8] [r, r + 1] M M1 → SqI M1 q r pre g (padI e i) → K (ii (((8 - e.c % 8) % 8 : Nat) : Int)) (ii (i : Int)) M1 by
    refine H ((8 - e.c % 8) % 8) 0 M (by omega) OnlyF.rf ?_
    have : padI e 0 = e := by simp [padI]
    rw [this]
    exact h
  intro m
  induction m with
  | zero =>
    intro i M1 hi ho hS
    have ei : i = (8 - e.c % 8) % 8 := by omega
    refine hK _ _ _ ⟨fun _ => ?_, fun q' => absurd (by rw [ii_le (by omega) (by omega) (by omega) (by omega)]; omega) q'⟩
    rintro M2 rfl M3 rfl
    have eE : (padI e i).E = (chg e w').E := by
      show e.E ++ List.replicate i (0, e.w) = e.E ++ pads e
      rw [ei]
      rfl
    have hB := hS.2.2.2.2.1
    rw [eE] at hB
    refine k _ ((ho.fld (by simp)).fld (by simp)) ?_ ?_ ⟨hB.1.only (S := [q]) ⟨fun a ha => ?_, rfl⟩ ?_ ?_, ?_, ?_, hB.2.2.2⟩
    · rw [zI_g, if_pos ⟨rfl, rfl⟩]
    · rw [zI_g, if_neg (by simp), zI_g, if_pos ⟨rfl, rfl⟩]
      rfl
    · have ha' : a ≠ q := by simpa using ha
      rw [zI_o ha', zI_o ha']
    · simpa using fun x => (hq 0 (by omega)).1 x.symm
    · simpa using fun x => (hq 0 (by omega)).2 x.symm
    · rw [zI_g, if_neg (by simp), zI_g, if_neg (by simp)]; exact hB.2.1
    · rw [zI_g, if_neg (by simp), zI_g, if_neg (by simp)]; exact hB.2.2.1
  | succ m ih =>
    intro i M1 hi ho hS
    refine hK _ _ _ ⟨fun q' => ?_, fun _ => ?_⟩
    · rw [ii_le (by omega) (by omega) (by omega) (by omega)] at q'
      omega
    · have hr2 : pre.length + lenE (put1 (padI e i) 0).E / 8 ≤ ln (r + 1) := by
        rw [padI_succ]
        have := hlr (i + 1) (by omega)
        omega
      refine s_Sq_put1 (code := 0) hS (Nat.two_pow_pos _) hr2 hq (fun M2 o2 S2 => ?_)
      rintro x rfl
      rw [show (1 : Int32) = ii 1 from rfl, ii_add]
      rw [padI_succ] at S2
      exact ih (i + 1) M2 (by omega) (ho.trans o2) S2
theorem s_Sq_putCode {code : Nat} {post : zM → Prop} (h : SqI M q r pre g e) (hc : code < 257 + e.D.length) (hroom : pre.length + lenE (emit g e code).E / 8 ≤ ln (r + 1)) (hq : ∀ j, j ≤ 3 → q + j ≠ r ∧ q + j ≠ r + 1) (k : ∀ M', OnlyF q [5, 6, 7, 8] [r, r + 1] M M' → SqI M' q r pre g (emit g e code) → post M') : Wp_Sq_putCode q (ii code) r M post := by
  obtain ⟨a1, a2, a3, a4, a5, a6, a7⟩ := h.2.2.2.2.2.2
  have hw16 : (2 : Nat) ^ e.w ≤ 65536 := pow_le' (b := 16) (by omega)
  have hg16 : (2 : Nat) ^ g ≤ 65536 := pow_le' (b := 16) (by omega)
  have hfit := emit_fit h.2.2.2.2.2.2 code
  unfold Wp_Sq_putCode
  have e1 : (1 : Int32) <<< (M.1 q 5 &&& 31) = ii ((2 ^ e.w : Nat) : Int) := by
    rw [h.2.2.1, show (31 : Int32) = ii 31 from rfl, ii_and31 (by omega) (by omega), show (1 : Int32) = ii 1 from rfl, ii_shl _ (by omega)]
    simp
  rw [e1, h.2.1, ii_le (by omega) (by omega) (by omega) (by omega), h.1, h.2.2.1, ii_le (by omega) (by omega) (by omega) (by omega)]
  have plain : ¬ (2 ^ e.w < 257 + e.D.length ∧ e.w < g) → Wp_Sq_putBits q (ii code) r M (fun M1 => post M1) := by
    intro hn
    have ew : emit g e code = put1 e code := by unfold emit wid; rw [if_neg hn]
    rw [ew] at hroom k hfit
    exact s_Sq_put1 h (Nat.lt_of_lt_of_le hc hfit) hroom hq k
  refine ⟨fun h1 => plain (by omega), fun h1 => ⟨fun h2 => plain (by omega), fun h2 => ?_⟩⟩
  have hy : 2 ^ e.w < 257 + e.D.length ∧ e.w < g := ⟨by omega, by omega⟩
  have ew : emit g e code = put1 (chg e (e.w + 1)) code := by unfold emit wid; rw [if_pos hy]
  rw [ew] at hroom k hfit
  have hl : lenE (chg e (e.w + 1)).E ≤ lenE (put1 (chg e (e.w + 1)) code).E := lenE_pre (List.prefix_append _ _)
  rw [show (1 : Int32) = ii 1 from rfl, ii_add, show ((e.w : Int) + 1) = ((e.w + 1 : Nat) : Int) by omega]
  refine s_Sq_changeWidth h (by omega) hq (fun M1 o1 f5 f6 hB1 => ?_)
  have hok1 : EncOk g (chg e (e.w + 1)) := ⟨by show 9 ≤ e.w + 1; omega, by show e.w + 1 ≤ g; omega, a3, Nat.zero_le _, a5, Nat.le_trans a6 (pow_le' (by show e.w + 1 ≤ e.w + 1 + 1; omega)), a7⟩
  have hS1 : SqI M1 q r pre g (chg e (e.w + 1)) := h.upd o1 rfl f5 f6 hB1 hok1 (fun j _ hj => hq j hj)
  exact s_Sq_put1 hS1 (Nat.lt_of_lt_of_le hc hfit) hroom hq (fun M2 o2 S2 => k M2 (o1.trans o2) S2)
end SQ
