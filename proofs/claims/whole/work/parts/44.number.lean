/-! Numbers behind words, as MailChain reads them. -/
def isDg (b : UInt8) : Bool := decide (48 ≤ b.toNat) && decide (b.toNat ≤ 57)
def dval (acc : Nat) (ds : List UInt8) : Nat := ds.foldl (fun a d => 10 * a + (d.toNat - 48)) acc
/-- at most f digits -/
def run : Nat → List UInt8 → List UInt8
  | 0, _ => []
  | _ + 1, [] => []
  | f + 1, b :: t => if isDg b then b :: run f t else []
theorem run_len : ∀ (f : Nat) (l : List UInt8), (run f l).length ≤ f
  | 0, _ => by simp [run]
  | f + 1, [] => by simp [run]
  | f + 1, b :: t => by
    unfold run
    have := run_len f t
    by_cases h : isDg b = true
    · rw [if_pos h]; simp; omega
    · rw [if_neg h]; simp
theorem run_pre : ∀ (f : Nat) (l : List UInt8), run f l <+: l
  | 0, l => List.nil_prefix
  | f + 1, [] => List.nil_prefix
  | f + 1, b :: t => by
    unfold run
    by_cases h : isDg b = true
    · rw [if_pos h]; exact List.cons_prefix_cons.mpr ⟨rfl, run_pre f t⟩
    · rw [if_neg h]; exact List.nil_prefix
theorem dval_lt : ∀ (ds : List UInt8) (acc : Nat), (∀ d ∈ ds, isDg d = true) → dval acc ds < (acc + 1) * 10 ^ ds.length
  | [], acc, _ => by simp [dval]
  | d :: t, acc, h => by
    have hd := h d (by simp)
    unfold isDg at hd
    simp at hd
    have := dval_lt t (10 * acc + (d.toNat - 48)) (fun x hx => h x (by simp [hx]))
    show dval (10 * acc + (d.toNat - 48)) t < _
    have e : (acc + 1) * 10 ^ (d :: t).length = (10 * acc + 10) * 10 ^ t.length := by
      rw [List.length_cons, Nat.pow_succ, Nat.mul_comm (10 ^ t.length), ← Nat.mul_assoc]
      congr 1
      omega
    rw [e]
    exact Nat.lt_of_lt_of_le this (Nat.mul_le_mul_right _ (by omega))
theorem run_dg : ∀ (f : Nat) (l : List UInt8), ∀ d ∈ run f l, isDg d = true
  | 0, l => by simp [run]
  | f + 1, [] => by simp [run]
  | f + 1, b :: t => by
    unfold run
    by_cases h : isDg b = true
    · rw [if_pos h]
      intro d hd
      rcases List.mem_cons.mp hd with e | e
      · rw [e]; exact h
      · exact run_dg f t d e
    · rw [if_neg h]; simp
/-- what number() says, and where it stops -/
def pnum (bs : List UInt8) (w : List UInt8) (most e : Nat) : Int × Nat :=
  if (bs.drop e).take w.length = w then
    (let ds := run 10 (bs.drop (e + w.length))
    (if ds.length = 0 ∨ (2 ≤ ds.length ∧ bs.getD (e + w.length) 0 = 48) ∨ most < dval 0 ds then (-1) else (dval 0 ds : Int), e + w.length + ds.length))
  else (-1, e)
theorem s_isDigit {M : zM} {x : Int} {post : Int32 → zM → Prop} (h1 : -1 ≤ x) (h2 : x ≤ 255) (k : post (if 48 ≤ x ∧ x ≤ 57 then 1 else 0) M) : Wp_Pl_isDigit (ii x) M post := by
  unfold Wp_Pl_isDigit
  rw [show (48 : Int32) = ii 48 from rfl, show (57 : Int32) = ii 57 from rfl, ii_lt (by omega) (by omega) (by decide) (by decide), ii_lt (by decide) (by decide) (by omega) (by omega)]
  refine ⟨fun c => ?_, fun c => ⟨fun c2 => ?_, fun c2 => ?_⟩⟩
  · rw [if_neg (by omega)] at k; exact k
  · rw [if_neg (by omega)] at k; exact k
  · rw [if_pos (by omega)] at k; exact k
theorem s_Pl_number {M : zM} {p a w most e : Nat} {bs : List UInt8} {post : Int64 → zM → Prop} (hw : w < 9) (h : Rw M a bs) (he : M.1 p 4 = ii e) (he2 : e ≤ 60000) (hm : most ≤ 4294967295) (d1 : a ≠ p) (d2 : a + 1 ≠ p)
    (k : ∀ M', OnlyF p [4] [] M M' → M'.1 p 4 = ii (((pnum bs (txt w) most e).2 : Nat) : Int) → post (ll (pnum bs (txt w) most e).1) M') : Wp_Pl_number p a w (ll most) M post := by
  have hl := h.len
  have hwl := txt_len w hw
  have keep : ∀ {M'}, OnlyF p [4] [] M M' → Rw M' a bs := fun ho => h.only (ho.toO (S' := [p]) (by simp) (by simp)) (by simpa using d1) (by simpa using d2)
  unfold Wp_Pl_number
  intro K38 K99 K126 h38 h99 h126
  rw [he]
  refine s_hasText hw h (by omega) (by omega) ?_
  rw [Int.toNat_natCast]
  by_cases ht : (bs.drop e).take (txt w).length = txt w
  · rw [if_pos ht]
    have hp : pnum bs (txt w) most e = (if (run 10 (bs.drop (e + (txt w).length))).length = 0 ∨ (2 ≤ (run 10 (bs.drop (e + (txt w).length))).length ∧ bs.getD (e + (txt w).length) 0 = 48) ∨ most < dval 0 (run 10 (bs.drop (e + (txt w).length))) then (-1) else (dval 0 (run 10 (bs.drop (e + (txt w).length))) : Int), e + (txt w).length + (run 10 (bs.drop (e + (txt w).length))).length) := by
      unfold pnum
      rw [if_pos ht]
    rw [hp] at k
    refine ⟨fun _ => s_strlen hw ?_, fun c => absurd c (by decide)⟩
    rintro M5 rfl x6 rfl
    rw [he, ii_add, show ((e : Int) + (txt w).length) = ((e + (txt w).length : Nat) : Int) by omega]
    generalize hq : e + (txt w).length = q at k
    have hqb : q ≤ 60086 := by omega
    have e5 : (zI M p 4 (ii (q : Int))).1 p 4 = ii (q : Int) := by rw [zI_g, if_pos ⟨rfl, rfl⟩]
    rw [e5]
    have hr10 := run_len 10 (bs.drop q)
    have hdl := dval_lt (run 10 (bs.drop q)) 0 (run_dg _ _)
    have hd10 : dval 0 (run 10 (bs.drop q)) < 10 ^ 10 := Nat.lt_of_lt_of_le hdl (by rw [Nat.zero_add, Nat.one_mul]; exact Nat.pow_le_pow_right (by decide) hr10)
    -- behind the digits
    have fin : ∀ M1, OnlyF p [4] [] M M1 → M1.1 p 4 = ii ((q + (run 10 (bs.drop q)).length : Nat) : Int) → K99 (ii (q : Int)) (ll (dval 0 (run 10 (bs.drop q)) : Int)) M1 := by
      intro M1 ho h4
      have hk := k M1 ho h4
      generalize hds : run 10 (bs.drop q) = ds at *
      have last : ∀ (z : Int32), ((2 ≤ ds.length ∧ bs.getD q 0 = 48) → z = 1) → (¬ (2 ≤ ds.length ∧ bs.getD q 0 = 48) → z = 0) → K126 (ii (q : Int)) (ll (dval 0 ds : Int)) z M1 := by
        intro z hz1 hz0
        refine h126 _ _ _ _ ?_
        rw [h4, ii_eq (by omega) (by omega) (by omega) (by omega)]
        refine ⟨fun c => ?_, fun c => ⟨fun c2 => ?_, fun c2 => ?_⟩⟩
        · rw [if_pos (Or.inl (by omega))] at hk
          exact hk
        · rw [if_pos (Or.inr (Or.inl (Classical.byContradiction (fun q => c2 (hz0 q)))))] at hk
          exact hk
        · have hnz : ¬ (2 ≤ ds.length ∧ bs.getD q 0 = 48) := fun q => by
            rw [hz1 q] at c2
            exact absurd c2 (by decide)
          rw [lg_cmp_le, ll_le (by omega) (by omega) (by omega) (by omega)]
          refine ⟨fun c3 => ?_, fun c3 => ?_⟩
          · rw [if_neg (fun q => by
              rcases q with q | q | q
              · omega
              · exact hnz q
              · omega)] at hk
            exact hk
          · rw [if_pos (Or.inr (Or.inr (by omega)))] at hk
            exact hk
      refine h99 _ _ _ ?_
      rw [h4, show (1 : Int32) = ii 1 from rfl, ii_add, ii_le (by omega) (by omega) (by omega) (by omega)]
      refine ⟨fun c => last 0 (fun q => by omega) (fun _ => rfl), fun c => s_at (keep ho) (by omega) (by omega) ?_⟩
      have hqin : q < bs.length := by
        have := (run_pre 10 (bs.drop q)).length_le
        rw [hds, List.length_drop] at this
        omega
      have hg : gt bs (q : Int) = (((bs.getD q 0).toNat : Nat) : Int) := by
        rw [gt_in hqin, List.getD_eq_getElem?_getD, List.getElem?_eq_getElem hqin]
        rfl
      rw [hg, show (48 : Int32) = ii 48 from rfl]
      have hb := UInt8.toNat_lt (bs.getD q 0)
      rw [ii_eq (by omega) (by omega) (by omega) (by omega)]
      refine ⟨fun c2 => last 0 (fun q => ?_) (fun _ => rfl), fun c2 => last 1 (fun _ => rfl) (fun q => absurd ⟨by omega, UInt8.toNat_inj.mp (by show _ = 48; omega)⟩ q)⟩
      rw [q.2] at c2
      exact absurd rfl c2
    -- the digits
    suffices H : ∀ (f i acc : Nat) (l : List UInt8) (M1 : zM), i + f = 10 → bs.drop (q + i) = l → OnlyF p [4] [] M M1 → M1.1 p 4 = ii ((q + i : Nat) : Int) → dval acc (run f l) = dval 0 (run 10 (bs.drop q)) → i + (run f l).length = (run 10 (bs.drop q)).length → acc < 10 ^ i → K38 (ii (q : Int)) (ll (acc : Int)) M1 by
      have := H 10 0 0 (bs.drop q) (zI M p 4 (ii (q : Int))) rfl rfl (OnlyF.rf.fld (by simp)) e5 rfl (by omega) (by decide)
      exact this
    intro f
    induction f with
    | zero =>
      intro i acc l M1 hi hd ho h4 hv hn ha
      have ei : i = 10 := by omega
      subst ei
      have hl0 : (run 10 (bs.drop q)).length = 10 := by rw [← hn]; rfl
      have hv0 : acc = dval 0 (run 10 (bs.drop q)) := hv
      refine h38 _ _ _ ⟨fun _ => ?_, fun c => ?_⟩
      · rw [hv0]
        exact fin M1 ho (by rw [h4, hl0])
      · rw [h4, show (10 : Int32) = ii 10 from rfl, ii_add, ii_le (by omega) (by omega) (by omega) (by omega)] at c
        omega
    | succ f ih =>
      intro i acc l M1 hi hd ho h4 hv hn ha
      have hai : acc < 10 ^ 9 := Nat.lt_of_lt_of_le ha (Nat.pow_le_pow_right (by decide) (by omega))
      have hR := keep ho
      have stop : run (f + 1) l = [] → K99 (ii (q : Int)) (ll (acc : Int)) M1 := by
        intro hr
        rw [hr] at hv hn
        have hv0 : acc = dval 0 (run 10 (bs.drop q)) := hv
        rw [hv0]
        refine fin M1 ho ?_
        rw [h4, ← hn]
        rfl
      refine h38 _ _ _ ⟨fun c => ?_, fun _ => ?_⟩
      · rw [h4, show (10 : Int32) = ii 10 from rfl, ii_add, ii_le (by omega) (by omega) (by omega) (by omega)] at c
        omega
      · rw [h4]
        refine s_at hR (by omega) (by omega) (s_isDigit (gt_rng _ _).1 (gt_rng _ _).2 ?_)
        cases l with
        | nil =>
          have hout : bs.length ≤ q + i := by
            have := congrArg List.length hd
            rw [List.length_drop] at this
            simp at this
            omega
          rw [gt_out (Or.inr (by omega)), if_neg (by omega)]
          exact ⟨fun _ => stop rfl, fun c => absurd rfl c⟩
        | cons b t =>
          have hin : q + i < bs.length := by
            have := congrArg List.length hd
            rw [List.length_drop] at this
            simp at this
            omega
          rw [List.drop_eq_getElem_cons hin] at hd
          have hb : bs[q + i] = b := (List.cons.inj hd).1
          have ht' : bs.drop (q + (i + 1)) = t := (List.cons.inj hd).2
          rw [gt_in hin, hb]
          have hb8 := UInt8.toNat_lt b
          by_cases hdg : isDg b = true
          · have hdg' := hdg
            unfold isDg at hdg'
            simp at hdg'
            rw [if_pos (by omega)]
            refine ⟨fun c => absurd c (by decide), fun _ => ?_⟩
            rw [h4]
            refine s_at hR (by omega) (by omega) ?_
            rw [gt_in hin, hb]
            rintro y rfl M2 rfl
            have er : run (f + 1) (b :: t) = b :: run f t := by
              show (if isDg b = true then b :: run f t else []) = _
              rw [if_pos hdg]
            rw [er] at hv hn
            rw [show (10 : Int64) = ll 10 from rfl, ll_mul, ll_of_ii (by omega) (by omega), ll_add, show (48 : Int64) = ll 48 from rfl, ll_sub, show ((10 * (acc : Int) + (b.toNat : Int)) - 48) = ((10 * acc + (b.toNat - 48) : Nat) : Int) by omega]
            refine ih (i + 1) _ t _ (by omega) ht' (ho.fld (by simp)) ?_ hv (by simp at hn; omega) (by rw [Nat.pow_succ]; omega)
            rw [zI_g, if_pos ⟨rfl, rfl⟩, h4, show (1 : Int32) = ii 1 from rfl, ii_add]
            rfl
          · have er : run (f + 1) (b :: t) = [] := by
              show (if isDg b = true then b :: run f t else []) = _
              rw [if_neg hdg]
            have hdg' : ¬ (48 ≤ b.toNat ∧ b.toNat ≤ 57) := fun c => hdg (by unfold isDg; simp; exact c)
            rw [if_neg (by omega)]
            exact ⟨fun _ => stop er, fun c => absurd rfl c⟩
  · rw [if_neg ht]
    have hp : pnum bs (txt w) most e = (-1, e) := by
      unfold pnum
      rw [if_neg ht]
    rw [hp] at k
    exact ⟨fun c => absurd rfl c, fun _ => k M OnlyF.rf he⟩
