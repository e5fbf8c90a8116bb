/-! Entries of MailChain's trees: bodies, entering, links. -/
theorem ins_get (x : En) (T : Tre) (j : Nat) : (ins x T)[j]? = if j < plc x.path T then T[j]? else if j = plc x.path T then some x else T[j - 1]? := by
  have hp := plc_le x.path T
  rw [ins_eq]
  by_cases c : j < plc x.path T
  · rw [if_pos c, List.getElem?_append_left (by rw [List.length_take]; omega), List.getElem?_take_of_lt c]
  · rw [if_neg c, List.getElem?_append_right (by rw [List.length_take]; omega), List.length_take, Nat.min_eq_left hp]
    by_cases c2 : j = plc x.path T
    · rw [if_pos c2, c2, Nat.sub_self]
      rfl
    · rw [if_neg c2]
      obtain ⟨d, hd⟩ : ∃ d, j - plc x.path T = d + 1 := ⟨j - plc x.path T - 1, by omega⟩
      rw [hd, List.getElem?_cons_succ, List.getElem?_drop]
      congr 1
      omega
theorem TrP.shift {M M' : zM} {t pl n : Nat} (h : TrP M t) (hp : pl ≤ n) (hn : n ≤ 40) (e : ∀ j, M'.2.2 (t + 1) j = shf (M.2.2 (t + 1)) pl n j) : TrP M' t := by
  have key : ∀ j, j < 41 → ∃ s, s < 41 ∧ M'.2.2 (t + 1) j = M.2.2 (t + 1) s ∧ ((j < pl ∧ s = j) ∨ (j = pl ∧ s = n) ∨ (pl < j ∧ j ≤ n ∧ s = j - 1) ∨ (n < j ∧ s = j)) := by
    intro j hj
    rw [e]
    unfold shf
    by_cases c : j < pl
    · rw [if_pos c]
      exact ⟨j, hj, rfl, by omega⟩
    · rw [if_neg c]
      by_cases c2 : j = pl
      · rw [if_pos c2]
        exact ⟨n, by omega, rfl, by omega⟩
      · rw [if_neg c2]
        by_cases c3 : j ≤ n
        · rw [if_pos c3]
          exact ⟨j - 1, by omega, rfl, by omega⟩
        · rw [if_neg c3]
          exact ⟨j, hj, rfl, by omega⟩
  refine ⟨fun j hj => ?_, fun i j hi hj q => ?_⟩
  · obtain ⟨s, hs, es, -⟩ := key j hj
    rw [es]
    exact h.1 s hs
  · obtain ⟨s, hs, es, cs⟩ := key i hi
    obtain ⟨u, hu, eu, cu⟩ := key j hj
    have := h.2 s u hs hu (by rw [← es, ← eu]; exact q)
    omega
theorem TrI.ins {M M' : zM} {t : Nat} {T : Tre} {x : En} {bd : List UInt8} (hP : TrP M t) (hlen : T.length < 40) (h2 : M'.1 t 2 = ii ((T.length + 1 : Nat) : Int)) (h3 : M'.1 t 3 = ii ((conts T + (if x.kind = 1 then x.body.length else 0) : Nat) : Int)) (hc : conts T + (if x.kind = 1 then x.body.length else 0) ≤ 6000) (he : ∀ j, M'.2.2 (t + 1) j = shf (M.2.2 (t + 1)) (plc x.path T) T.length j) (hb : Rw M' (t + 125) bd) (hbl : bd.length ≤ conts T + (if x.kind = 1 then x.body.length else 0) + 60 * (T.length + 1)) (hx : EnI M' (M.2.2 (t + 1) T.length) x bd) (hold : ∀ (j : Nat) (h : j < T.length), EnI M' (M.2.2 (t + 1) j) T[j] bd) : TrI M' t (ins x T) := by
  have hp := plc_le x.path T
  refine ⟨hP.shift hp (by omega) he, by rw [ins_len]; exact h2, by rw [conts_ins]; exact h3, by rw [ins_len]; omega, by rw [conts_ins]; exact hc, bd, hb, by rw [conts_ins, ins_len]; exact hbl, fun j hj => ?_⟩
  have hg := ins_get x T j
  rw [List.getElem?_eq_getElem hj] at hg
  rw [ins_len] at hj
  rw [he]
  unfold shf
  by_cases c : j < plc x.path T
  · rw [if_pos c, List.getElem?_eq_getElem (by omega)] at hg
    rw [if_pos c, Option.some.inj hg]
    exact hold j (by omega)
  · rw [if_neg c] at hg
    rw [if_neg c]
    by_cases c2 : j = plc x.path T
    · rw [if_pos c2] at hg
      rw [if_pos c2, Option.some.inj hg]
      exact hx
    · rw [if_neg c2, List.getElem?_eq_getElem (by omega)] at hg
      rw [if_neg c2, if_pos (by omega), Option.some.inj hg]
      exact hold (j - 1) (by omega)
def bodyOk (kd : Nat) (body : List UInt8) : Prop := (kd = 0 → body = []) ∧ (kd = 2 → 1 ≤ body.length ∧ body.length ≤ 60 ∧ (0 : UInt8) ∉ body)
theorem s_isTarget {M : zM} {a s n : Nat} {cs : List UInt8} {post : Int32 → zM → Prop} (h : Rw M a cs) (h1 : s ≤ n) (h2 : n ≤ cs.length) (k1 : (1 ≤ (cut cs s n).length ∧ (cut cs s n).length ≤ 60 ∧ (0 : UInt8) ∉ cut cs s n) → post 1 M) (k0 : ¬ (1 ≤ (cut cs s n).length ∧ (cut cs s n).length ≤ 60 ∧ (0 : UInt8) ∉ cut cs s n) → post 0 M) : Wp_Tr_isTarget a (ii s) (ii n) M post := by
  have hl := h.len
  have hcl : (cut cs s n).length = n - s := by rw [cut_len]; omega
  unfold Wp_Tr_isTarget
  intro K hK
  rw [ii_sub, show (1 : Int32) = ii 1 from rfl, show (60 : Int32) = ii 60 from rfl, ii_lt (by omega) (by omega) (by omega) (by omega), ii_le (by omega) (by omega) (by omega) (by omega)]
  refine ⟨fun q => k0 (by rw [hcl]; omega), fun q => ⟨fun q2 => ?_, fun q2 => k0 (by rw [hcl]; omega)⟩⟩
  suffices H : ∀ (m i : Nat), i + m = n → s ≤ i → (0 : UInt8) ∉ cut cs s i → K (ii (i : Int)) M from H (n - s) s (by omega) (Nat.le_refl _) (by rw [cut_nil cs (Nat.le_refl _)]; simp)
  intro m
  induction m with
  | zero =>
    intro i hi hs hz
    refine hK _ _ ⟨fun _ => k1 ⟨by omega, by omega, by rw [← hi]; exact hz⟩, fun z => absurd (by rw [ii_le (by omega) (by omega) (by omega) (by omega)]; omega) z⟩
  | succ m ih =>
    intro i hi hs hz
    have hin : i < cs.length := by omega
    refine hK _ _ ⟨fun z => ?_, fun _ => s_at h (by omega) (by omega) ?_⟩
    · rw [ii_le (by omega) (by omega) (by omega) (by omega)] at z
      omega
    · rw [gt_in hin, show (0 : Int32) = ii (((0 : UInt8).toNat : Nat) : Int) from rfl, gt46]
      refine ⟨fun z => ?_, fun z => k0 (fun y => y.2.2 ?_)⟩
      · rintro x rfl
        rw [show (1 : Int32) = ii 1 from rfl, ii_add]
        refine ih (i + 1) (by omega) (by omega) ?_
        rw [cut_snoc hs hin, List.mem_append]
        rintro (w | w)
        · exact hz w
        · exact z (List.mem_singleton.mp w).symm
      · unfold cut
        rw [List.mem_iff_getElem]
        refine ⟨i - s, by rw [List.length_drop, List.length_take]; omega, ?_⟩
        rw [List.getElem_drop, List.getElem_take]
        have e : s + (i - s) = i := by omega
        simp only [e]
        exact z
theorem s_isBody {M : zM} {a s n kd : Nat} {cs : List UInt8} {post : Int32 → zM → Prop} (h : Rw M a cs) (h1 : s ≤ n) (h2 : n ≤ cs.length) (hk : kd ≤ 2) (k1 : bodyOk kd (cut cs s n) → post 1 M) (k0 : ¬ bodyOk kd (cut cs s n) → post 0 M) : Wp_Tr_isBody (ii kd) a (ii s) (ii n) M post := by
  have hl := h.len
  have hcl : (cut cs s n).length = n - s := by rw [cut_len]; omega
  unfold Wp_Tr_isBody
  rw [show (0 : Int32) = ii 0 from rfl, show (1 : Int32) = ii 1 from rfl, ii_eq (by omega) (by omega) (by omega) (by omega), ii_eq (by omega) (by omega) (by omega) (by omega), ii_eq (by omega) (by omega) (by omega) (by omega)]
  refine ⟨fun q0 => ⟨fun q1 => k1 ⟨fun z => by omega, fun z => by omega⟩, fun q1 => ?_⟩, fun q0 => ⟨fun z => k0 (fun y => z ?_), fun z => k1 ⟨fun _ => ?_, fun y => by omega⟩⟩⟩
  · refine s_isTarget h h1 h2 (fun z => ⟨fun y => absurd y (by decide), fun _ => k1 ⟨fun y => by omega, fun _ => z⟩⟩) (fun z => ⟨fun _ => k0 (fun y => z (y.2 (by omega))), fun y => absurd rfl y⟩)
  · have := y.1 (by omega)
    rw [this] at hcl
    simp only [List.length_nil] at hcl
    omega
  · exact cut_nil cs (by omega)
def fldOk (kd m o g tm : Int) : Prop := 0 ≤ kd ∧ kd ≤ 2 ∧ 0 ≤ m ∧ m ≤ 4095 ∧ 0 ≤ o ∧ 0 ≤ g ∧ 0 ≤ tm
theorem s_hasSoundFields {M : zM} {d : Nat} {kd m o g tm : Int} {post : Int32 → zM → Prop} (e1 : M.1 d 1 = ii kd) (e2 : M.1 d 2 = ii m) (e3 : M.1 d 3 = ii o) (e4 : M.1 d 4 = ii g) (e5 : M.1 d 5 = ii tm) (r1 : R32 kd) (r2 : R32 m) (r3 : R32 o) (r4 : R32 g) (r5 : R32 tm) (k1 : fldOk kd m o g tm → post 1 M) (k0 : ¬ fldOk kd m o g tm → post 0 M) : Wp_En_hasSoundFields d M post := by
  unfold R32 at *
  unfold Wp_En_hasSoundFields
  rw [e1, e2, e3, e4, e5, ii_nneg r1.1 r1.2, ii_nneg r2.1 r2.2, ii_nneg r3.1 r3.2, ii_nneg r4.1 r4.2, ii_nneg r5.1 r5.2, show (2 : Int32) = ii 2 from rfl, show (4095 : Int32) = ii 4095 from rfl, ii_lt (by omega) (by omega) r1.1 r1.2, ii_lt (by omega) (by omega) r2.1 r2.2]
  unfold fldOk at *
  exact ⟨fun q => k0 (by omega), fun q1 => ⟨fun q => k0 (by omega), fun q2 => ⟨fun q => k0 (by omega), fun q3 => ⟨fun q => k0 (by omega), fun q4 => ⟨fun q => k0 (by omega), fun q5 => ⟨fun q => k0 (by omega), fun q6 => ⟨fun q => k0 (by omega), fun q7 => k1 (by omega)⟩⟩⟩⟩⟩⟩⟩
def newEn (p : List UInt8) (kd m o g tm : Int) (body : List UInt8) (fam : Nat) : En := (p, (kd.toNat, m.toNat, o.toNat, g.toNat, tm.toNat), body, fam)
/-- what is told of an entry, and the tree then -/
def AddR (T : Tre) (p : List UInt8) (kd m o g tm : Int) (body : List UInt8) (v : Nat) (T' : Tre) : Prop :=
  (v = 2 ∧ ¬ (fldOk kd m o g tm ∧ bodyOk kd.toNat body) ∧ T' = T) ∨
  ((fldOk kd m o g tm ∧ bodyOk kd.toNat body) ∧ InsR T p (if kd.toNat = 1 then body.length else 0) v ∧ (v ≠ 0 → T' = T) ∧ (v = 0 → T' = ins (newEn p kd m o g tm body T.length) T))
theorem InsR.le {T : Tre} {p : List UInt8} {m v : Nat} (h : InsR T p m v) : v ≤ 4 := by
  rcases h with h | h | h | h <;> omega
theorem InsR.z {T : Tre} {p : List UInt8} {m : Nat} (h : InsR T p m 0) : (pathOk [] p = true ∧ parentOk T p) ∧ (∀ e ∈ T, e.path ≠ p) ∧ T.length < 40 ∧ conts T + m ≤ 6000 := by
  rcases h with h | h | h | h
  · exact absurd h.1 (by decide)
  · exact absurd h.1 (by decide)
  · exact absurd h.1 (by decide)
  · exact h.2
theorem pathOk_ne {p : List UInt8} (h : pathOk [] p = true) : 1 ≤ p.length := by
  cases p with
  | nil => exact absurd h (by decide)
  | cons a t => simp
theorem s_Tr_enter {M : zM} {t a s n : Nat} {T : Tre} {p cs : List UInt8} {kd m o g tm : Int} {post : Int32 → zM → Prop} (hT : isT t) (h : TrI M t T) (hV : TOk T) (hR : Rw M (M.2.2 (t + 1) T.length + 1) p) (e1 : M.1 (M.2.2 (t + 1) T.length) 1 = ii kd) (e2 : M.1 (M.2.2 (t + 1) T.length) 2 = ii m) (e3 : M.1 (M.2.2 (t + 1) T.length) 3 = ii o) (e4 : M.1 (M.2.2 (t + 1) T.length) 4 = ii g) (e5 : M.1 (M.2.2 (t + 1) T.length) 5 = ii tm) (r1 : R32 kd) (r2 : R32 m) (r3 : R32 o) (r4 : R32 g) (r5 : R32 tm) (hA : Rw M a cs) (ha : a + 1 < t ∨ t + 127 ≤ a) (hsn : s ≤ n) (hn : n ≤ cs.length)
    (kk : ∀ (M' : zM) (v : Nat) (T' : Tre), AddR T p kd m o g tm (cut cs s n) v T' → FrT t M M' → TrI M' t T' → TOk T' → post (ii v) M') : Wp_Tr_enter t a (ii s) (ii n) M post := by
  have hl := h.2.2.2.1
  have f := hT.facts
  have hcl : (cut cs s n).length = n - s := by rw [cut_len]; omega
  have hcsl := hA.len
  have ed := ent_at hT h.1 (show T.length < 41 by omega)
  have hpl : p.length ≤ 60 := by have := hR.2.1; omega
  obtain ⟨bd, b1, b2, b3⟩ := h.2.2.2.2.2
  have hbd : bd.length ≤ 8400 := by have := b1.2.1; omega
  unfold Wp_Tr_enter
  refine s_Tr_draft hT h ⟨ed.1, ed.2.1, s_hasSoundFields e1 e2 e3 e4 e5 r1 r2 r3 r4 r5 (fun hf => ⟨fun z => absurd z (by decide), fun _ => ?_⟩) (fun hf => ⟨fun _ => kk M 2 T (Or.inl ⟨rfl, fun z => hf z.1, rfl⟩) FrT.rf h hV, fun z => absurd rfl z⟩)⟩
  have hf' := hf
  unfold fldOk at hf'
  obtain ⟨kn, hkn⟩ := Int.eq_ofNat_of_zero_le hf'.1
  have ekn : kd.toNat = kn := by omega
  rw [e1, hkn]
  refine s_isBody hA hsn hn (by omega) (fun hb => ⟨fun _ => ?_, fun z => absurd z (by decide)⟩) (fun hb => ⟨fun z => absurd rfl z, fun _ => kk M 2 T (Or.inl ⟨rfl, fun z => hb (by rw [← ekn]; exact z.2), rfl⟩) FrT.rf h hV⟩)
  rw [← ekn] at hb
  rw [b1.1]
  have c2 : ∀ (M' : zM), M'.1 t 2 = M.1 t 2 → M'.1 t 2 = ii T.length := fun M' e => by rw [e]; exact h.2.1
  rintro M7 hM7 M8 hM8 M9 hM9
  generalize hdd : M.2.2 (t + 1) T.length = d at *
  have g8 : M8.1 t 2 = ii T.length := by
    rw [hM8, zI_o (by omega), hM7, zI_o (by omega)]
    exact h.2.1
  rw [g8] at hM9
  rw [ii_sub, show ((n : Int) - s) = ((n - s : Nat) : Int) by omega] at hM8
  have o9 : Only [d] M M9 := by
    rw [hM9, hM8, hM7]
    exact ((Only.rf.zI (by simp)).zI (by simp)).zI (by simp)
  have gd : ∀ j, M9.1 d j = if j = 8 then ii T.length else if j = 7 then ii ((n - s : Nat) : Int) else if j = 6 then ii bd.length else M.1 d j := by
    intro j
    rw [hM9, zI_g]
    by_cases q : j = 8
    · rw [if_pos ⟨rfl, q⟩, if_pos q]
    · rw [if_neg (fun z => q z.2), if_neg q, hM8, zI_g]
      by_cases q2 : j = 7
      · rw [if_pos ⟨rfl, q2⟩, if_pos q2]
      · rw [if_neg (fun z => q2 z.2), if_neg q2, hM7, zI_g]
        by_cases q3 : j = 6
        · rw [if_pos ⟨rfl, q3⟩, if_pos q3]
        · rw [if_neg (fun z => q3 z.2), if_neg q3]
  have er : M9.2.2 = M.2.2 := by rw [o9.2]
  have dn : ∀ j, j < T.length → M.2.2 (t + 1) j ≠ d := fun j hj q => by
    have := h.1.2 j T.length (by omega) (by omega) (by rw [q, hdd])
    omega
  have dn3 : ∀ j, j < T.length → ∀ u, u ≤ 2 → M.2.2 (t + 1) j + u ≠ d := fun j hj u hu q => by
    obtain ⟨c, hc, ec⟩ := h.1.1 j (by omega)
    obtain ⟨c', hc', ec'⟩ := h.1.1 T.length (by omega)
    rw [hdd] at ec'
    have hne := dn j hj
    omega
  have E9 : ∀ (j : Nat) (hj : j < T.length), EnI M9 (M.2.2 (t + 1) j) T[j] bd := fun j hj => (b3 j hj).same (o9.1 _ (by simpa using dn j hj)) (o9.1 _ (by simpa using dn3 j hj 1 (by omega))) (o9.1 _ (by simpa using dn3 j hj 2 (by omega)))
  have I9 : TrI M9 t T := by
    refine ⟨h.1.same (by rw [er]), by rw [o9.1 t (by simp; omega)]; exact h.2.1, by rw [o9.1 t (by simp; omega)]; exact h.2.2.1, hl, h.2.2.2.2.1, bd, b1.only o9 (by simp; omega) (by simp; omega), b2, fun j hj => ?_⟩
    rw [er]
    exact E9 j hj
  have F9 : FrT t M M9 := o9.frT (fun k hk => by have : k = d := (by simpa using hk); omega)
  have R9 : Rw M9 (d + 1) p := hR.only o9 (by simp) (by simp <;> omega)
  have A9 : Rw M9 a cs := hA.frT F9 (by omega) (by omega)
  refine s_insertDraft (p := p) (kd := kn) (sz := n - s) hT I9 hV (by rw [er, hdd]; exact R9) (by rw [er, hdd, gd, if_neg (by decide), if_neg (by decide), if_neg (by decide), e1, hkn]) (by omega) (by rw [er, hdd, gd, if_neg (by decide), if_pos rfl]) (by omega) (fun v hv hv0 => ?_) (fun M10 hv F10 k10 n2 n3 r10 s10 => ?_)
  · refine ⟨fun _ => kk M9 v T (Or.inr ⟨⟨hf, hb⟩, by rw [ekn, hcl]; exact hv, fun _ => rfl, fun z => absurd z hv0⟩) F9 I9 hV, fun z => absurd z ?_⟩
    have := hv.le
    rw [show (0 : Int32) = ii 0 from rfl, ii_eq (by omega) (by omega) (by omega) (by omega)]
    omega
  · refine ⟨fun z => absurd rfl z, fun _ => ?_⟩
    have hz := hv.z
    have B10 : Rw M10 (t + 125) bd := ⟨by rw [k10 _ (by omega)]; exact (b1.only o9 (by simp; omega) (by simp; omega)).1, b1.2.1, fun i hi => by rw [k10 _ (by omega)]; exact (b1.only o9 (by simp; omega) (by simp; omega)).2.2 i hi⟩
    have A10 : Rw M10 a cs := A9.frT F10 (by omega) (by omega)
    have hcz : (if kn = 1 then n - s else 0) ≤ 6000 := by have := hz.2.2.2; omega
    have hsz : n - s ≤ (if kn = 1 then n - s else 0) + 60 := by
      by_cases q : kn = 1
      · rw [if_pos q]; omega
      · rw [if_neg q]
        by_cases q0 : kn = 0
        · have := hb.1 (by omega)
          rw [this] at hcl
          simp only [List.length_nil] at hcl
          omega
        · have := (hb.2 (by omega)).2.1
          omega
    refine s_putRange B10 A10 hsn hn (by omega) (fun M11 o11 R11 => ?_)
    have hx : newEn p kd m o g tm (cut cs s n) T.length = (p, (kd.toNat, m.toNat, o.toNat, g.toNat, tm.toNat), cut cs s n, T.length) := rfl
    have xk : (newEn p kd m o g tm (cut cs s n) T.length).kind = kn := ekn
    have xb : (newEn p kd m o g tm (cut cs s n) T.length).body = cut cs s n := rfl
    have xp : (newEn p kd m o g tm (cut cs s n) T.length).path = p := rfl
    have hmore : (if (newEn p kd m o g tm (cut cs s n) T.length).kind = 1 then (newEn p kd m o g tm (cut cs s n) T.length).body.length else 0) = (if kn = 1 then n - s else 0) := by rw [xk, xb, hcl]
    have F11 : FrT t M M11 := (F9.trans F10).trans (o11.frT (fun k hk => by have : k = t + 125 ∨ k = t + 125 + 1 := (by simpa using hk); omega))
    have q11 : ∀ k, k ≠ t → k < t + 125 → M11.1 k = M9.1 k := fun k h1 h2 => by rw [o11.1 k (by simp; omega), k10 k h1]
    refine kk M11 0 _ (Or.inr ⟨⟨hf, hb⟩, by rw [ekn, hcl]; exact hv, fun z => absurd rfl z, fun _ => rfl⟩) F11 ?_ ?_
    · refine TrI.ins (bd := bd ++ cut cs s n) h.1 hz.2.2.1 ?_ ?_ (by rw [hmore]; exact hz.2.2.2) ?_ R11 ?_ ?_ ?_
      · rw [o11.1 t (by simp <;> omega)]; exact n2
      · rw [o11.1 t (by simp <;> omega), hmore]; exact n3
      · intro j
        rw [show M11.2.2 = M10.2.2 by rw [o11.2], s10, er]
        rfl
      · rw [hmore, List.length_append, hcl]; omega
      · rw [hdd]
        have hE : EnI M9 d (newEn p kd m o g tm (cut cs s n) T.length) (bd ++ cut cs s n) := by
          refine ⟨R9, ?_, ?_, ?_, ?_, ?_, ?_, ?_, bd.length, ?_, by rw [List.length_append, xb]; exact Nat.le_refl _, ?_⟩
          · rw [xk, gd, if_neg (by decide), if_neg (by decide), if_neg (by decide), e1, hkn]
          · rw [gd, if_neg (by decide), if_neg (by decide), if_neg (by decide), e2]; congr 1; show m = ((m.toNat : Nat) : Int); omega
          · rw [gd, if_neg (by decide), if_neg (by decide), if_neg (by decide), e3]; congr 1; show o = ((o.toNat : Nat) : Int); omega
          · rw [gd, if_neg (by decide), if_neg (by decide), if_neg (by decide), e4]; congr 1; show g = ((g.toNat : Nat) : Int); omega
          · rw [gd, if_neg (by decide), if_neg (by decide), if_neg (by decide), e5]; congr 1; show tm = ((tm.toNat : Nat) : Int); omega
          · rw [gd, if_neg (by decide), if_pos rfl, xb, hcl]
          · rw [gd, if_pos rfl]; rfl
          · rw [gd, if_neg (by decide), if_neg (by decide), if_pos rfl]
          · rw [xb]
            unfold cut
            rw [List.take_of_length_le (by rw [List.length_append]; omega), List.drop_left]
        exact hE.same (q11 _ (by omega) (by omega)) (q11 _ (by omega) (by omega)) (q11 _ (by omega) (by omega))
      · intro j hj
        obtain ⟨c, hc, ec⟩ := h.1.1 j (by omega)
        exact ((E9 j hj).more).same (q11 _ (by omega) (by omega)) (q11 _ (by omega) (by omega)) (q11 _ (by omega) (by omega))
    · unfold R32 at *
      refine hV.ins ⟨by rw [xp]; exact pathOk_ne hz.1.1, by rw [xp]; exact hpl, by rw [xp]; exact hz.1.1, by rw [xk]; omega, by show m.toNat ≤ 4095; omega, by show o.toNat ≤ 2147483647; omega, by show g.toNat ≤ 2147483647; omega, by show tm.toNat ≤ 2147483647; omega, fun z => hb.1 (by rw [ekn, ← xk]; exact z), fun z => hb.2 (by rw [ekn, ← xk]; exact z)⟩ hz.1.2 hz.2.1 hz.2.2.1 (by rw [hmore]; exact hz.2.2.2) (Or.inl rfl)
