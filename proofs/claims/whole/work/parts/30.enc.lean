/-! The encoder, as mathematics: a dictionary of strings, codes with their widths. -/
def lenE : List (Nat × Nat) → Nat
  | [] => 0
  | x :: t => x.2 + lenE t
def numE : List (Nat × Nat) → Nat
  | [] => 0
  | x :: t => x.1 + 2 ^ x.2 * numE t
theorem lenE_app : ∀ a b : List (Nat × Nat), lenE (a ++ b) = lenE a + lenE b
  | [], b => by simp [lenE]
  | x :: t, b => by simp [lenE, lenE_app t b]; omega
theorem numE_app : ∀ a b : List (Nat × Nat), numE (a ++ b) = numE a + numE b * 2 ^ lenE a
  | [], b => by simp [lenE, numE]
  | x :: t, b => by
    simp only [List.cons_append, numE, lenE, numE_app t b, Nat.mul_add, Nat.pow_add]
    rw [Nat.add_assoc, Nat.mul_left_comm]
theorem lenE_snoc (E : List (Nat × Nat)) (v w : Nat) : lenE (E ++ [(v, w)]) = lenE E + w := by simp [lenE_app, lenE]
theorem numE_snoc (E : List (Nat × Nat)) (v w : Nat) : numE (E ++ [(v, w)]) = numE E + v * 2 ^ lenE E := by simp [numE_app, numE]
/-- the children of a string, the latest first: as codes -/
def kidsF (s : Nat) : Nat → List (Nat × UInt8) → List Nat → List Nat
  | _, [], acc => acc
  | n, x :: t, acc => kidsF s (n + 1) t (if x.1 = s then n :: acc else acc)
def kids (D : List (Nat × UInt8)) (s : Nat) : List Nat := kidsF s 257 D []
theorem kidsF_snoc (s : Nat) : ∀ (D : List (Nat × UInt8)) (n : Nat) (acc : List Nat) (p : Nat) (b : UInt8), kidsF s n (D ++ [(p, b)]) acc = if p = s then (n + D.length) :: kidsF s n D acc else kidsF s n D acc
  | [], n, acc, p, b => by simp [kidsF]
  | x :: t, n, acc, p, b => by
    simp only [List.cons_append, kidsF, kidsF_snoc s t, List.length_cons]
    rw [show n + 1 + t.length = n + (t.length + 1) by omega]
theorem kids_snoc (D : List (Nat × UInt8)) (p : Nat) (b : UInt8) (s : Nat) : kids (D ++ [(p, b)]) s = if p = s then (257 + D.length) :: kids D s else kids D s := kidsF_snoc s D 257 [] p b
theorem kids_nil (s : Nat) : kids [] s = [] := rfl
theorem kidsF_rng (s : Nat) : ∀ (D : List (Nat × UInt8)) (n : Nat) (acc : List Nat), (∀ c ∈ acc, 257 ≤ c ∧ c < n) → 257 ≤ n → ∀ c ∈ kidsF s n D acc, 257 ≤ c ∧ c < n + D.length
  | [], n, acc, h, _ => by simpa [kidsF] using h
  | x :: t, n, acc, h, hn => by
    intro c hc
    have := kidsF_rng s t (n + 1) (if x.1 = s then n :: acc else acc) (by
      intro c hc
      by_cases e : x.1 = s
      · rw [if_pos e] at hc
        rcases List.mem_cons.mp hc with h1 | h1
        · omega
        · have := h c h1; omega
      · rw [if_neg e] at hc
        have := h c hc; omega) (by omega) c hc
    simp only [List.length_cons]
    omega
theorem kids_rng (D : List (Nat × UInt8)) (s : Nat) : ∀ c ∈ kids D s, 257 ≤ c ∧ c < 257 + D.length := kidsF_rng s D 257 [] (by simp) (by omega)
/-- the byte that a string of the dictionary ends with -/
def lastOf (D : List (Nat × UInt8)) (c : Nat) : UInt8 := (D.getD (c - 257) (0, 0)).2
def look (D : List (Nat × UInt8)) (s : Nat) (b : UInt8) : Option Nat := (kids D s).find? (fun c => lastOf D c == b)
theorem look_rng {D : List (Nat × UInt8)} {s : Nat} {b : UInt8} {c : Nat} (h : look D s b = some c) : 257 ≤ c ∧ c < 257 + D.length := kids_rng D s c (List.mem_of_find?_eq_some h)
abbrev Enc : Type := List (Nat × UInt8) × Nat × Nat × List (Nat × Nat)
abbrev Enc.D (e : Enc) : List (Nat × UInt8) := e.1
abbrev Enc.w (e : Enc) : Nat := e.2.1
abbrev Enc.c (e : Enc) : Nat := e.2.2.1
abbrev Enc.E (e : Enc) : List (Nat × Nat) := e.2.2.2
def pads (e : Enc) : List (Nat × Nat) := List.replicate ((8 - e.c % 8) % 8) (0, e.w)
def chg (e : Enc) (w' : Nat) : Enc := ⟨e.D, w', 0, e.E ++ pads e⟩
def put1 (e : Enc) (code : Nat) : Enc := ⟨e.D, e.w, e.c + 1, e.E ++ [(code, e.w)]⟩
def wid (g : Nat) (e : Enc) : Enc := if 2 ^ e.w < 257 + e.D.length ∧ e.w < g then chg e (e.w + 1) else e
def emit (g : Nat) (e : Enc) (code : Nat) : Enc := put1 (wid g e) code
def learn (g : Nat) (e : Enc) (s : Nat) (b : UInt8) : Enc := if 2 ^ g ≤ 257 + e.D.length then ⟨[], 9, 0, (chg (emit g e 256) 9).E⟩ else ⟨e.D ++ [(s, b)], e.w, e.c, e.E⟩
def encL (g : Nat) : Enc → Nat → List UInt8 → Enc
  | e, s, [] => emit g e s
  | e, s, b :: t => match look e.D s b with
    | some c => encL g e c t
    | none => encL g (learn g (emit g e s) s b) b.toNat t
def enc0 : Enc := ⟨[], 9, 0, []⟩
def enc (g : Nat) : List UInt8 → List (Nat × Nat)
  | [] => []
  | b :: t => (encL g enc0 b.toNat t).E
def press (g : Nat) (bs : List UInt8) : List UInt8 := [31, 157, UInt8.ofNat (128 + g)] ++ bytesOf (numE (enc g bs)) ((lenE (enc g bs) + 7) / 8)
/-- what is sound of the encoder's state -/
def EncOk (g : Nat) (e : Enc) : Prop := 9 ≤ e.w ∧ e.w ≤ g ∧ g ≤ 16 ∧ e.c ≤ lenE e.E ∧ 257 + e.D.length ≤ 2 ^ g ∧ 257 + e.D.length ≤ 2 ^ (e.w + 1) ∧ ∀ x ∈ e.D, x.1 < 257 + e.D.length
theorem lenE_rep (n w : Nat) : lenE (List.replicate n (0, w)) = n * w := by
  induction n with
  | zero => simp [lenE]
  | succ n ih => rw [List.replicate_succ, lenE, ih, Nat.succ_mul]; omega
theorem lenE_pads (e : Enc) : lenE (pads e) = (8 - e.c % 8) % 8 * e.w := lenE_rep _ _
theorem EncOk.wid {g : Nat} {e : Enc} (h : EncOk g e) : EncOk g (wid g e) := by
  obtain ⟨h1, h2, h3, h4, h5, h6, h7⟩ := h
  unfold Jvm.Pilot.CMailChainLaw_law_r4861_288717.wid
  by_cases q : 2 ^ e.w < 257 + e.D.length ∧ e.w < g
  · rw [if_pos q]
    refine ⟨by show 9 ≤ e.w + 1; omega, by show e.w + 1 ≤ g; omega, h3, Nat.zero_le _, h5, ?_, h7⟩
    show 257 + e.D.length ≤ 2 ^ (e.w + 1 + 1)
    exact Nat.le_trans h6 (pow_le' (by omega))
  · rw [if_neg q]
    exact ⟨h1, h2, h3, h4, h5, h6, h7⟩
theorem wid_D (g : Nat) (e : Enc) : (wid g e).D = e.D := by
  unfold wid
  by_cases q : 2 ^ e.w < 257 + e.D.length ∧ e.w < g
  · rw [if_pos q]; rfl
  · rw [if_neg q]
theorem emit_D (g : Nat) (e : Enc) (c : Nat) : (emit g e c).D = e.D := wid_D g e
theorem EncOk.emit {g : Nat} {e : Enc} (h : EncOk g e) (code : Nat) : EncOk g (emit g e code) := by
  obtain ⟨h1, h2, h3, h4, h5, h6, h7⟩ := h.wid
  refine ⟨h1, h2, h3, ?_, h5, h6, h7⟩
  show (Jvm.Pilot.CMailChainLaw_law_r4861_288717.wid g e).c + 1 ≤ lenE ((Jvm.Pilot.CMailChainLaw_law_r4861_288717.wid g e).E ++ [(code, (Jvm.Pilot.CMailChainLaw_law_r4861_288717.wid g e).w)])
  rw [lenE_snoc]
  omega
/-- behind a code the strings are as many as the width tells -/
theorem emit_fit {g : Nat} {e : Enc} (h : EncOk g e) (c : Nat) : 257 + e.D.length ≤ 2 ^ (emit g e c).w := by
  obtain ⟨h1, h2, h3, h4, h5, h6, h7⟩ := h
  show 257 + e.D.length ≤ 2 ^ (wid g e).w
  unfold wid
  by_cases q : 2 ^ e.w < 257 + e.D.length ∧ e.w < g
  · rw [if_pos q]; exact h6
  · rw [if_neg q]
    by_cases q2 : e.w < g
    · omega
    · have : e.w = g := by omega
      rw [this]; exact h5
theorem EncOk.learn {g s : Nat} {e : Enc} {b : UInt8} (h : EncOk g e) (hf : 257 + e.D.length ≤ 2 ^ e.w) (hs : s < 257 + e.D.length) : EncOk g (learn g e s b) := by
  obtain ⟨h1, h2, h3, h4, h5, h6, h7⟩ := h
  unfold Jvm.Pilot.CMailChainLaw_law_r4861_288717.learn
  by_cases q : 2 ^ g ≤ 257 + e.D.length
  · rw [if_pos q]
    exact ⟨Nat.le_refl _, by show 9 ≤ g; omega, h3, Nat.zero_le _, by show 257 + 0 ≤ 2 ^ g; omega, by show 257 + 0 ≤ 2 ^ (9 + 1); decide, by intro x hx; cases hx⟩
  · rw [if_neg q]
    refine ⟨h1, h2, h3, h4, by show 257 + (e.D ++ [(s, b)]).length ≤ 2 ^ g; simp; omega, ?_, ?_⟩
    · show 257 + (e.D ++ [(s, b)]).length ≤ 2 ^ (e.w + 1)
      simp only [List.length_append, List.length_cons, List.length_nil]
      have : 2 ^ (e.w + 1) = 2 ^ e.w * 2 := Nat.pow_succ ..
      omega
    · intro x hx
      show x.1 < 257 + (e.D ++ [(s, b)]).length
      simp only [List.length_append, List.length_cons, List.length_nil]
      rcases List.mem_append.mp hx with h8 | h8
      · have := h7 x h8; omega
      · rw [List.mem_singleton.mp h8]; show s < _; omega
theorem enc0_ok {g : Nat} (h1 : 9 ≤ g) (h2 : g ≤ 16) : EncOk g enc0 := ⟨Nat.le_refl _, h1, h2, Nat.le_refl _, by
  have := pow_le' (a := 9) (b := g) h1
  show 257 + 0 ≤ 2 ^ g
  omega, by decide, by intro x hx; cases hx⟩
/-- what was emitted stays -/
theorem wid_pre (g : Nat) (e : Enc) : e.E <+: (wid g e).E := by
  unfold wid
  by_cases q : 2 ^ e.w < 257 + e.D.length ∧ e.w < g
  · rw [if_pos q]; exact List.prefix_append _ _
  · rw [if_neg q]; exact List.prefix_refl _
theorem emit_pre (g : Nat) (e : Enc) (c : Nat) : e.E <+: (emit g e c).E := (wid_pre g e).trans (List.prefix_append _ _)
theorem learn_pre (g : Nat) (e : Enc) (s : Nat) (b : UInt8) : e.E <+: (learn g e s b).E := by
  unfold learn
  by_cases q : 2 ^ g ≤ 257 + e.D.length
  · rw [if_pos q]; exact (emit_pre g e 256).trans (List.prefix_append _ _)
  · rw [if_neg q]; exact List.prefix_refl _
theorem encL_pre (g : Nat) : ∀ (t : List UInt8) (e : Enc) (s : Nat), (emit g e s).E <+: (encL g e s t).E ∨ e.E <+: (encL g e s t).E
  | [], e, s => Or.inl (List.prefix_refl _)
  | b :: t, e, s => by
    right
    unfold encL
    cases look e.D s b with
    | some c =>
      rcases encL_pre g t e c with h | h
      · exact (emit_pre g e c).trans h
      · exact h
    | none =>
      have h0 := (emit_pre g e s).trans (learn_pre g (emit g e s) s b)
      rcases encL_pre g t (learn g (emit g e s) s b) b.toNat with h | h
      · exact h0.trans ((emit_pre g _ _).trans h)
      · exact h0.trans h
theorem lenE_pre {a b : List (Nat × Nat)} (h : a <+: b) : lenE a ≤ lenE b := by
  obtain ⟨t, rfl⟩ := h
  rw [lenE_app]
  omega
