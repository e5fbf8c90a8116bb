/-! The constructors: what they leave. -/
def clr (lo hi : Nat) (F : zFl) : zFl := fun k j => if lo ≤ k ∧ k < hi then false else F k j
def Fs (M : zM) (F : zFl) (k : Nat) : Prop := (∀ j, M.1 k j = 0) ∧ (∀ j, M.2.1 k j = 0) ∧ ∀ j, F k j = yR k j
theorem Fs.fr {M : zM} {F : zFl} {k : Nat} (h : Fs M F k) : yFr M F k := ⟨h.1, h.2.1, fun j q => by rw [h.2.2]; exact q⟩
theorem Fs.clr {M : zM} {F : zFl} {k lo hi : Nat} (h : Fs M F k) (hk : k < lo ∨ hi ≤ k) : Fs M (clr lo hi F) k := ⟨h.1, h.2.1, fun j => by
  show (if lo ≤ k ∧ k < hi then false else F k j) = _
  rw [if_neg (by omega)]
  exact h.2.2 j⟩
theorem Fs.ys {M : zM} {F : zFl} {k a j : Nat} (h : Fs M F k) (hk : k ≠ a) : Fs M (yset F a j) k := ⟨h.1, h.2.1, fun i => by
  show (if k = a ∧ i = j then false else F k i) = _
  rw [if_neg (fun q => hk q.1)]
  exact h.2.2 i⟩
theorem Fs.zI {M : zM} {F : zFl} {k a j : Nat} {v : Int32} (h : Fs M F k) (hk : k ≠ a) : Fs (zI M a j v) F k := ⟨fun i => by rw [zI_o hk]; exact h.1 i, h.2.1, h.2.2⟩
theorem Fs.zR {M : zM} {F : zFl} {k a j v : Nat} (h : Fs M F k) : Fs (zR M a j v) F k := ⟨h.1, h.2.1, h.2.2⟩
theorem zI_same {M : zM} {k j : Nat} {v : Int32} (h : M.1 k j = v) : zI M k j v = M := by
  have e : (zI M k j v).1 = M.1 := by
    funext a b
    rw [zI_g]
    by_cases c : a = k ∧ b = j
    · rw [if_pos c, c.1, c.2]; exact h.symm
    · rw [if_neg c]
  exact Prod.ext e rfl
theorem yR_obj {k t : Nat} (h : tg k = t) (ht : t < 20) (j : Nat) : yR k j = decide (2 ≤ ft t j) := by
  unfold yR
  rw [h, if_pos ht]
theorem yR_arr {k t : Nat} (h : tg k = t) (ht : 20 ≤ t) (h4 : t ≠ 24) (j : Nat) : yR k j = false := by
  unfold yR
  rw [h, if_neg (by omega)]
  simp [h4]
theorem clr_fin {F F' : zFl} {a hi : Nat} (h : ∀ k j, F' k j = if a ≤ k ∧ k < hi then false else F k j) : F' = clr a hi F := by
  funext k j
  exact h k j
theorem f_Ro {a : Nat} {i : Int32} {M : zM} {F : zFl} {post : Nat → zM → zFl → Prop} (t1 : tg a = 1) (t2 : tg (a + 1) = 20) (hl : ln (a + 1) = i.toNatClampNeg) (hn : ¬ i < 0) (hs : i.toNatClampNeg * 1 ≤ 536870912) (ha : Fs M F a) (hb : Fs M F (a + 1)) (k : post (a + 1 + 1) M (clr a (a + 2) F)) : Wf_Ro_init a i (a + 1) M F post := by
  unfold Wf_Ro_init
  refine ⟨by omega, by omega, t2, hl, hb.fr, by omega, by omega, hn, hs, by omega, t1, rfl, ?_⟩
  rintro F1 rfl
  refine ⟨by omega, t1, ?_⟩
  rintro M2 rfl
  rw [zI_same (ha.1 1)]
  have e : yset F a 0 = clr a (a + 2) F := clr_fin (fun k j => by
    unfold yset
    by_cases c0 : k = a
    · subst c0
      by_cases c1 : j = 0
      · rw [if_pos ⟨rfl, c1⟩, if_pos (by omega)]
      · rw [if_neg (by omega), if_pos (by omega), ha.2.2, yR_obj t1 (by omega)]
        match j, c1 with
        | 1, _ => rfl
        | n + 2, _ => rfl
    · rw [if_neg (by omega)]
      by_cases c1 : k = a + 1
      · subst c1
        rw [if_pos (by omega), hb.2.2, yR_arr t2 (by omega) (by omega)]
      · rw [if_neg (by omega)])
  rw [e]
  exact ⟨by omega, by omega, rfl, by omega, k⟩
theorem f_En {a : Nat} {M : zM} {F : zFl} {post : Nat → zM → zFl → Prop} (t0 : tg a = 2) (t1 : tg (a + 1) = 1) (t2 : tg (a + 2) = 20) (hl : ln (a + 2) = 60) (hN : a + 2 ≤ N0) (ha : Fs M F a) (hb : Fs M F (a + 1)) (hc : Fs M F (a + 2)) (k : post (a + 3) M (clr a (a + 3) F)) : Wf_En_init a (a + 1) M F post := by
  unfold Wf_En_init
  refine ⟨by omega, by omega, t1, hb.fr, by omega, by omega, by omega, by omega, hN, by omega, by omega, ?_⟩
  refine f_Ro t1 t2 (by rw [show a + 1 + 1 = a + 2 from rfl, hl]; decide) (by decide) (by decide) hb hc ?_
  refine ⟨by omega, t0, rfl, ?_⟩
  rintro F4 rfl
  have e : yset (clr (a + 1) (a + 1 + 2) F) a 0 = clr a (a + 3) F := clr_fin (fun k j => by
    unfold yset clr
    by_cases c0 : k = a
    · subst c0
      by_cases c1 : j = 0
      · rw [if_pos ⟨rfl, c1⟩, if_pos (by omega)]
      · rw [if_neg (by omega), if_neg (by omega), if_pos (by omega), ha.2.2, yR_obj t0 (by omega)]
        match j, c1 with
        | 1, _ => rfl
        | 2, _ => rfl
        | 3, _ => rfl
        | 4, _ => rfl
        | 5, _ => rfl
        | 6, _ => rfl
        | 7, _ => rfl
        | 8, _ => rfl
        | n + 9, _ => rfl
    · rw [if_neg (by omega)]
      by_cases c1 : a + 1 ≤ k ∧ k < a + 1 + 2
      · rw [if_pos c1, if_pos (by omega)]
      · rw [if_neg c1, if_neg (by omega)])
  rw [e]
  exact ⟨by omega, by omega, rfl, by omega, k⟩
def trF (a i : Nat) (F : zFl) : zFl := fun k j => if (k = a ∧ j = 0) ∨ (k = a + 1 ∧ j < i) ∨ (a + 2 ≤ k ∧ k < a + 2 + 3 * i) then false else F k j
def trM (a i : Nat) (M : zM) : zM := (M.1, M.2.1, fun k j => if k = a + 1 ∧ j < i then a + 2 + 3 * j else M.2.2 k j)
theorem t_facts {a : Nat} (h : isT a) : tg (a + 1) = 24 ∧ tg (a + 125) = 1 ∧ tg (a + 126) = 20 ∧ a + 127 ≤ N0 ∧ ∀ c, c < 41 → tg (a + 2 + 3 * c + 1) = 1 ∧ tg (a + 2 + 3 * c + 2) = 20 := by
  rcases h with rfl | rfl | rfl <;> exact ⟨by decide +kernel, by decide +kernel, by decide +kernel, by decide +kernel, by decide +kernel⟩
theorem f_Tr {a : Nat} {M : zM} {F : zFl} {post : Nat → zM → zFl → Prop} (h : isT a) (hf : ∀ k, a ≤ k → k < a + 127 → Fs M F k) (kk : post (a + 127) (trM a 41 M) (clr a (a + 127) F)) : Wf_Tr_init a (a + 1) M F post := by
  obtain ⟨l1, l126, ha0, t0, hc⟩ := h.facts
  obtain ⟨t1, t125, t126, hN, hc2⟩ := t_facts h
  unfold Wf_Tr_init
  intro K hK
  refine ⟨by omega, by omega, t1, l1, (hf (a + 1) (by omega) (by omega)).fr, by omega, by omega, by omega, t0, rfl, ?_⟩
  rintro F1 rfl
  have e0 : yset F a 0 = trF a 0 F := by
    funext k j
    unfold yset trF
    by_cases c : k = a ∧ j = 0
    · rw [if_pos c, if_pos (Or.inl c)]
    · rw [if_neg c, if_neg (by omega)]
  have m0 : M = trM a 0 M := by
    unfold trM
    refine Prod.ext rfl (Prod.ext rfl ?_)
    funext k j
    show M.2.2 k j = if k = a + 1 ∧ j < 0 then _ else _
    rw [if_neg (by omega)]
  rw [e0]
  have fs : ∀ (i k : Nat), a + 2 + 3 * i ≤ k → k < a + 127 → Fs (trM a i M) (trF a i F) k := fun i k h1 h2 => by
    have q := hf k (by omega) h2
    refine ⟨q.1, q.2.1, fun j => ?_⟩
    show (if _ then false else F k j) = _
    rw [if_neg (by omega)]
    exact q.2.2 j
  suffices H : ∀ (m i : Nat), i + m = 41 → K (ii i) (a + 2 + 3 * i) (1 + 3 * i) (41 + 71 * i) (trM a i M) (trF a i F) by
    have := H 41 0 rfl
    rw [← m0] at this
    exact this
  intro m
  induction m with
  | zero =>
    intro i hi
    have hi' : i = 41 := by omega
    subst hi'
    have z0 : trF a 41 F a 0 = false := by
      unfold trF
      rw [if_pos (Or.inl ⟨rfl, rfl⟩)]
    refine hK _ _ _ _ _ _ ⟨by omega, t0, z0, by omega, t1, fun _ => ?_, fun q => absurd (by rw [l1]; decide) q⟩
    refine ⟨by omega, by omega, t125, (fs 41 (a + 125) (by omega) (by omega)).fr, by omega, by omega, by omega, by omega, by unfold N0 at *; omega, by omega, by omega, ?_⟩
    refine f_Ro t125 t126 (by rw [show a + 2 + 3 * 41 + 1 = a + 125 + 1 from rfl, l126]; decide) (by decide) (by decide) (fs 41 (a + 125) (by omega) (by omega)) (fs 41 (a + 126) (by omega) (by omega)) ?_
    refine ⟨by omega, t0, rfl, ?_⟩
    rintro F5 rfl
    refine ⟨by omega, t0, ?_⟩
    rintro M6 rfl
    rw [zI_same (show (trM a 41 M).1 a 2 = 0 from (hf a (by omega) (by omega)).1 2)]
    refine ⟨by omega, t0, ?_⟩
    rintro M7 rfl
    rw [zI_same (show (trM a 41 M).1 a 3 = 0 from (hf a (by omega) (by omega)).1 3)]
    have e : yset (clr (a + 2 + 3 * 41) (a + 2 + 3 * 41 + 2) (trF a 41 F)) a 1 = clr a (a + 127) F := clr_fin (fun k j => by
      unfold yset clr trF
      by_cases c0 : k = a
      · subst c0
        by_cases c1 : j = 1
        · rw [if_pos ⟨rfl, c1⟩, if_pos (by omega)]
        · rw [if_neg (by omega), if_neg (by omega), if_pos (show k ≤ k ∧ k < k + 127 by omega)]
          by_cases c2 : j = 0
          · rw [if_pos (Or.inl ⟨rfl, c2⟩)]
          · rw [if_neg (by omega), (hf k (by omega) (by omega)).2.2, yR_obj t0 (by omega)]
            match j, c1, c2 with
            | 2, _, _ => rfl
            | 3, _, _ => rfl
            | n + 4, _, _ => rfl
      · rw [if_neg (by omega)]
        by_cases c1 : a + 2 + 3 * 41 ≤ k ∧ k < a + 2 + 3 * 41 + 2
        · rw [if_pos c1, if_pos (by omega)]
        · rw [if_neg c1]
          by_cases c2 : k = a + 1
          · subst c2
            rw [if_pos (show a ≤ a + 1 ∧ a + 1 < a + 127 by omega)]
            by_cases c3 : j < 41
            · rw [if_pos (Or.inr (Or.inl ⟨rfl, c3⟩))]
            · rw [if_neg (by omega), (hf (a + 1) (by omega) (by omega)).2.2]
              unfold yR
              rw [t1, l1, if_neg (by omega)]
              simp
              omega
          · by_cases c3 : a + 2 ≤ k ∧ k < a + 2 + 3 * 41
            · rw [if_pos (Or.inr (Or.inr c3)), if_pos (by omega)]
            · rw [if_neg (by omega), if_neg (by omega)])
    rw [e]
    exact ⟨by omega, by omega, rfl, by omega, kk⟩
  | succ m ih =>
    intro i hi
    have hi' : i < 41 := by omega
    have z0 : trF a i F a 0 = false := by
      unfold trF
      rw [if_pos (Or.inl ⟨rfl, rfl⟩)]
    have hlc := hc i hi'
    have hlc2 := hc2 i hi'
    refine hK _ _ _ _ _ _ ⟨by omega, t0, z0, by omega, t1, fun q => ?_, fun _ => ?_⟩
    · rw [l1, show Int32.ofNat 41 = ii 41 from rfl, ii_le (by omega) (by omega) (by omega) (by omega)] at q
      omega
    · refine ⟨by omega, t0, z0, by omega, by omega, hlc.2.1, (fs i (a + 2 + 3 * i) (by omega) (by omega)).fr, by omega, by omega, by omega, by omega, by unfold N0 at *; omega, by omega, by omega, ?_⟩
      refine f_En hlc.2.1 hlc2.1 hlc2.2 hlc.2.2 (by unfold N0 at *; omega) (fs i _ (by omega) (by omega)) (fs i _ (by omega) (by omega)) (fs i _ (by omega) (by omega)) ?_
      refine ⟨by omega, t1, by omega, hlc.2.1, ii_in (by omega) (by rw [l1]; omega) (by omega), ?_⟩
      rw [ii_nat (by omega) (by omega), Int.toNat_natCast]
      rintro M11 rfl F12 rfl x rfl
      rw [show (1 : Int32) = ii 1 from rfl, ii_add]
      have eM : zR (trM a i M) (a + 1) i (a + 2 + 3 * i) = trM a (i + 1) M := by
        refine Prod.ext rfl (Prod.ext rfl ?_)
        funext k j
        rw [zR_g]
        show (if k = a + 1 ∧ j = i then a + 2 + 3 * i else (if k = a + 1 ∧ j < i then a + 2 + 3 * j else M.2.2 k j)) = (if k = a + 1 ∧ j < i + 1 then a + 2 + 3 * j else M.2.2 k j)
        by_cases c : k = a + 1 ∧ j = i
        · rw [if_pos c, if_pos (by omega), c.2]
        · rw [if_neg c]
          by_cases c2 : k = a + 1 ∧ j < i
          · rw [if_pos c2, if_pos (by omega)]
          · rw [if_neg c2, if_neg (by omega)]
      have eF : yset (clr (a + 2 + 3 * i) (a + 2 + 3 * i + 3) (trF a i F)) (a + 1) i = trF a (i + 1) F := by
        funext k j
        unfold yset clr trF
        by_cases c : k = a + 1 ∧ j = i
        · rw [if_pos c, if_pos (by omega)]
        · rw [if_neg c]
          by_cases c1 : a + 2 + 3 * i ≤ k ∧ k < a + 2 + 3 * i + 3
          · rw [if_pos c1, if_pos (by omega)]
          · rw [if_neg c1]
            by_cases c2 : (k = a ∧ j = 0) ∨ (k = a + 1 ∧ j < i) ∨ (a + 2 ≤ k ∧ k < a + 2 + 3 * i)
            · rw [if_pos c2, if_pos (by omega)]
            · rw [if_neg c2, if_neg (by omega)]
      rw [eM, eF, show a + 2 + 3 * i + 3 = a + 2 + 3 * (i + 1) by omega, show 1 + 3 * i + 3 = 1 + 3 * (i + 1) by omega, show 41 + 71 * i + 71 = 41 + 71 * (i + 1) by omega]
      exact ih (i + 1) (by omega)
