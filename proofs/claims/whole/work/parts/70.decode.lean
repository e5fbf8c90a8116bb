/-! Codes read back, as mathematics. -/
def strC (tb : List (List UInt8)) (c : Nat) : List UInt8 := if c < 257 then [UInt8.ofNat c] else tb.getD (c - 257) []
def tab (D : List (Nat × UInt8)) : List (List UInt8) := D.foldl (fun tb x => tb ++ [strC tb x.1 ++ [x.2]]) []
/-- the string that a code stands for -/
def str (D : List (Nat × UInt8)) (c : Nat) : List UInt8 := strC (tab D) c
theorem tab_snoc (D : List (Nat × UInt8)) (x : Nat × UInt8) : tab (D ++ [x]) = tab D ++ [str D x.1 ++ [x.2]] := by
  unfold tab str
  rw [List.foldl_append]
  rfl
theorem tab_len : ∀ (n : Nat) (D : List (Nat × UInt8)), D.length = n → (tab D).length = n
  | 0, D, h => by rw [List.eq_nil_of_length_eq_zero h]; rfl
  | n + 1, D, h => by
    have e : D = D.take n ++ [D[n]'(by omega)] := by
      rw [List.take_append_getElem (show n < D.length by omega), List.take_of_length_le (by omega)]
    rw [e, tab_snoc, List.length_append, tab_len n (D.take n) (by rw [List.length_take]; omega)]
    rfl
theorem str_old {D : List (Nat × UInt8)} {x : Nat × UInt8} {c : Nat} (h : c < 257 + D.length) : str (D ++ [x]) c = str D c := by
  unfold str strC
  by_cases c1 : c < 257
  · rw [if_pos c1, if_pos c1]
  · rw [if_neg c1, if_neg c1, tab_snoc, List.getD_eq_getElem?_getD, List.getElem?_append_left (by rw [tab_len _ D rfl]; omega), ← List.getD_eq_getElem?_getD]
theorem str_new (D : List (Nat × UInt8)) (x : Nat × UInt8) : str (D ++ [x]) (257 + D.length) = str D x.1 ++ [x.2] := by
  have hl := tab_len _ D rfl
  show strC (tab (D ++ [x])) (257 + D.length) = _
  unfold strC
  rw [if_neg (by omega), tab_snoc, List.getD_eq_getElem?_getD, List.getElem?_append_right (by omega), show 257 + D.length - 257 - (tab D).length = 0 by omega]
  rfl
theorem str_byte (D : List (Nat × UInt8)) {c : Nat} (h : c < 257) : str D c = [UInt8.ofNat c] := by
  unfold str strC
  rw [if_pos h]
def DOk (D : List (Nat × UInt8)) : Prop := ∀ (i : Nat) (h : i < D.length), D[i].1 < 257 + i ∧ D[i].1 ≠ 256
theorem DOk.nil : DOk [] := fun i h => absurd h (by simp)
theorem DOk.snoc {D : List (Nat × UInt8)} {x : Nat × UInt8} (h : DOk D) (h1 : x.1 < 257 + D.length) (h2 : x.1 ≠ 256) : DOk (D ++ [x]) := by
  intro i hi
  by_cases c : i < D.length
  · rw [List.getElem_append_left c]
    exact h i c
  · have : i = D.length := by simp at hi; omega
    subst this
    rw [List.getElem_append_right (Nat.le_refl _)]
    simp only [Nat.sub_self, List.getElem_cons_zero]
    exact ⟨h1, h2⟩
theorem str_take {D : List (Nat × UInt8)} (h : DOk D) : ∀ (n : Nat), n ≤ D.length → ∀ (i : Nat) (hi : i < D.length), i < n → str (D.take n) (257 + i) = str (D.take n) D[i].1 ++ [D[i].2]
  | 0, _, i, hi, hin => absurd hin (by omega)
  | n + 1, hn, i, hi, hin => by
    have hl : (D.take n).length = n := by rw [List.length_take]; omega
    rw [← List.take_append_getElem (show n < D.length by omega)]
    by_cases c : i < n
    · have h1 := (h i hi).1
      rw [str_old (by omega), str_old (by omega)]
      exact str_take h n (by omega) i hi c
    · have : i = n := by omega
      subst this
      have h1 := (h i hi).1
      have e := str_new (D.take i) D[i]
      rw [hl] at e
      rw [e, str_old (by omega)]
theorem str_at {D : List (Nat × UInt8)} (h : DOk D) {i : Nat} (hi : i < D.length) : str D (257 + i) = str D D[i].1 ++ [D[i].2] := by
  have := str_take h D.length (Nat.le_refl _) i hi hi
  rw [List.take_length] at this
  exact this
theorem kidsF_mem (s c : Nat) : ∀ (D : List (Nat × UInt8)) (n : Nat) (acc : List Nat), c ∈ kidsF s n D acc → c ∈ acc ∨ ∃ (i : Nat) (h : i < D.length), c = n + i ∧ D[i].1 = s
  | [], n, acc, h => Or.inl h
  | x :: t, n, acc, h => by
    rcases kidsF_mem s c t (n + 1) _ h with q | ⟨i, hi, e1, e2⟩
    · by_cases c1 : x.1 = s
      · rw [if_pos c1] at q
        rcases List.mem_cons.mp q with q | q
        · exact Or.inr ⟨0, by simp, by omega, c1⟩
        · exact Or.inl q
      · rw [if_neg c1] at q
        exact Or.inl q
    · exact Or.inr ⟨i + 1, by simpa using hi, by omega, e2⟩
theorem look_spec {D : List (Nat × UInt8)} {s : Nat} {b : UInt8} {c : Nat} (h : look D s b = some c) : ∃ (i : Nat) (hi : i < D.length), c = 257 + i ∧ D[i].1 = s ∧ D[i].2 = b := by
  unfold look at h
  have h1 := List.mem_of_find?_eq_some h
  have h2 := List.find?_some h
  rcases kidsF_mem s c D 257 [] h1 with q | ⟨i, hi, e1, e2⟩
  · simp at q
  · refine ⟨i, hi, e1, e2, ?_⟩
    have h3 : lastOf D c = b := by simpa using h2
    unfold lastOf at h3
    rw [e1, show 257 + i - 257 = i by omega] at h3
    have e9 : D.getD i (0, 0) = D[i] := by simp [hi]
    rw [e9] at h3
    exact h3
theorem enc_macro (g : Nat) (e : Enc) (hD : DOk e.D) : ∀ (t : List UInt8) (s : Nat), s < 257 + e.D.length → s ≠ 256 → ∃ (s' : Nat) (t1 t2 : List UInt8), s' < 257 + e.D.length ∧ s' ≠ 256 ∧ t = t1 ++ t2 ∧ str e.D s' = str e.D s ++ t1 ∧ ((t2 = [] ∧ encL g e s t = emit g e s') ∨ ∃ b t3, t2 = b :: t3 ∧ encL g e s t = encL g (learn g (emit g e s') s' b) b.toNat t3)
  | [], s, h1, h2 => ⟨s, [], [], h1, h2, rfl, by simp, Or.inl ⟨rfl, rfl⟩⟩
  | b :: t, s, h1, h2 => by
    cases hl : look e.D s b with
    | none =>
      refine ⟨s, [], b :: t, h1, h2, rfl, by simp, Or.inr ⟨b, t, rfl, ?_⟩⟩
      show (match look e.D s b with | some c => encL g e c t | none => encL g (learn g (emit g e s) s b) b.toNat t) = _
      rw [hl]
    | some c =>
      obtain ⟨i, hi, e1, e2, e3⟩ := look_spec hl
      obtain ⟨s', t1, t2, a1, a2, a3, a4, a5⟩ := enc_macro g e hD t c (by omega) (by omega)
      have es : encL g e s (b :: t) = encL g e c t := by
        show (match look e.D s b with | some c => encL g e c t | none => encL g (learn g (emit g e s) s b) b.toNat t) = _
        rw [hl]
      refine ⟨s', b :: t1, t2, a1, a2, by rw [a3]; rfl, ?_, ?_⟩
      · rw [a4, e1, str_at hD hi, e2, e3]
        simp
      · rw [es]
        exact a5
/-- values fit their widths -/
def FitE (E : List (Nat × Nat)) : Prop := ∀ x ∈ E, x.1 < 2 ^ x.2
theorem numE_lt : ∀ (E : List (Nat × Nat)), FitE E → numE E < 2 ^ lenE E
  | [], _ => by simp [numE, lenE]
  | x :: t, h => by
    have ih := numE_lt t (fun y hy => h y (List.mem_cons_of_mem _ hy))
    have hx := h x List.mem_cons_self
    show x.1 + 2 ^ x.2 * numE t < 2 ^ (x.2 + lenE t)
    rw [Nat.pow_add]
    have h1 : 2 ^ x.2 * numE t + 2 ^ x.2 ≤ 2 ^ x.2 * 2 ^ lenE t := by
      rw [← Nat.mul_succ]
      exact Nat.mul_le_mul_left _ ih
    omega
theorem FitE.app {A B : List (Nat × Nat)} (h1 : FitE A) (h2 : FitE B) : FitE (A ++ B) := fun x hx => by
  rcases List.mem_append.mp hx with q | q
  · exact h1 x q
  · exact h2 x q
theorem FitE.pads (e : Enc) : FitE (pads e) := fun x hx => by
  have := List.eq_of_mem_replicate hx
  rw [this]
  exact Nat.two_pow_pos _
theorem FitE.wid {g : Nat} {e : Enc} (h : FitE e.E) : FitE (wid g e).E := by
  unfold Jvm.Pilot.CMailChainLaw_law_r4861_288717.wid
  by_cases q : 2 ^ e.w < 257 + e.D.length ∧ e.w < g
  · rw [if_pos q]
    exact h.app (FitE.pads e)
  · rw [if_neg q]
    exact h
theorem FitE.emit {g s : Nat} {e : Enc} (h : FitE e.E) (ho : EncOk g e) (hs : s < 257 + e.D.length) : FitE (emit g e s).E := by
  have hf := emit_fit ho s
  refine FitE.app (A := (Jvm.Pilot.CMailChainLaw_law_r4861_288717.wid g e).E) h.wid (fun x hx => ?_)
  have := List.mem_singleton.mp hx
  rw [this]
  show s < 2 ^ (Jvm.Pilot.CMailChainLaw_law_r4861_288717.wid g e).w
  exact Nat.lt_of_lt_of_le hs hf
theorem chg_E (e : Enc) (w : Nat) : (chg e w).E = e.E ++ pads e := rfl
theorem read_code {A B : List (Nat × Nat)} {v w : Nat} (hA : FitE A) (hv : v < 2 ^ w) : numE (A ++ (v, w) :: B) / 2 ^ lenE A % 2 ^ w = v := by
  have h1 := numE_lt A hA
  rw [numE_app]
  show (numE A + (v + 2 ^ w * numE B) * 2 ^ lenE A) / 2 ^ lenE A % 2 ^ w = v
  rw [Nat.add_mul_div_right _ _ (Nat.two_pow_pos _), Nat.div_eq_of_lt h1, Nat.zero_add, Nat.add_mul_mod_self_left, Nat.mod_eq_of_lt hv]
/-- bytes as a number, the first the lowest -/
def numB : List UInt8 → Nat
  | [] => 0
  | b :: t => b.toNat + 256 * numB t
theorem numB_lt : ∀ l : List UInt8, numB l < 2 ^ (8 * l.length)
  | [] => by simp [numB]
  | b :: t => by
    have ih := numB_lt t
    have hb := UInt8.toNat_lt b
    show b.toNat + 256 * numB t < 2 ^ (8 * (t.length + 1))
    rw [show 8 * (t.length + 1) = 8 + 8 * t.length by omega, Nat.pow_add]
    omega
theorem numB_app : ∀ a b : List UInt8, numB (a ++ b) = numB a + numB b * 2 ^ (8 * a.length)
  | [], b => by simp [numB]
  | x :: t, b => by
    show x.toNat + 256 * numB (t ++ b) = x.toNat + 256 * numB t + numB b * 2 ^ (8 * (t.length + 1))
    rw [numB_app t b, show 8 * (t.length + 1) = 8 + 8 * t.length by omega, Nat.pow_add, Nat.mul_add, ← Nat.add_assoc]
    congr 1
    rw [← Nat.mul_assoc, Nat.mul_left_comm]
    rw [show (2 ^ 8 : Nat) = 256 from rfl, Nat.mul_assoc]
theorem numB_drop (l : List UInt8) (n : Nat) (h : n ≤ l.length) : numB (l.drop n) = numB l / 2 ^ (8 * n) := by
  have e := numB_app (l.take n) (l.drop n)
  rw [List.take_append_drop, List.length_take, Nat.min_eq_left h] at e
  have hl := numB_lt (l.take n)
  rw [List.length_take, Nat.min_eq_left h] at hl
  rw [e, Nat.add_mul_div_right _ _ (Nat.two_pow_pos _), Nat.div_eq_of_lt hl, Nat.zero_add]
theorem numB_bytesOf (N : Nat) : ∀ m, numB (bytesOf N m) = N % 2 ^ (8 * m)
  | 0 => by simp [bytesOf, numB, Nat.mod_one]
  | m + 1 => by
    rw [bytesOf_succ, numB_app, bytesOf_len, numB_bytesOf N m]
    show N % 2 ^ (8 * m) + ((UInt8.ofNat (N / 2 ^ (8 * m))).toNat + 256 * 0) * 2 ^ (8 * m) = _
    rw [UInt8.toNat_ofNat', show 8 * (m + 1) = 8 * m + 8 by omega, Nat.pow_add, Nat.mod_mul, Nat.mul_comm (2 ^ (8 * m))]
    rfl
/-- the code of w bits at a place -/
def rdC (r : List UInt8) (pos w : Nat) : Nat := numB r / 2 ^ pos % 2 ^ w
theorem rdC_lt (r : List UInt8) (pos w : Nat) : rdC r pos w < 2 ^ w := Nat.mod_lt _ (Nat.two_pow_pos _)
theorem press_num {g : Nat} {p : List UInt8} (hF : FitE (enc g p)) (pos w : Nat) : rdC (press g p) (24 + pos) w = numE (enc g p) / 2 ^ pos % 2 ^ w := by
  unfold rdC press
  have h1 := numE_lt _ hF
  have h2 : numE (enc g p) % 2 ^ (8 * ((lenE (enc g p) + 7) / 8)) = numE (enc g p) := by
    apply Nat.mod_eq_of_lt
    exact Nat.lt_of_lt_of_le h1 (pow_le' (by omega))
  have h3 : numB [31, 157, UInt8.ofNat (128 + g)] < 2 ^ 24 := numB_lt [31, 157, UInt8.ofNat (128 + g)]
  rw [numB_app, numB_bytesOf, h2, Nat.pow_add, ← Nat.div_div_eq_div_mul]
  show (numB [31, 157, UInt8.ofNat (128 + g)] + numE (enc g p) * 2 ^ 24) / 2 ^ 24 / 2 ^ pos % 2 ^ w = _
  rw [Nat.add_mul_div_right _ _ (Nat.two_pow_pos _), Nat.div_eq_of_lt h3, Nat.zero_add]
