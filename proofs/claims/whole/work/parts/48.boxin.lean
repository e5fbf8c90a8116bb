/-! The box, as mathematics, and MailChain's. -/
/-- all but these places is as it was -/
def Frm (S : List Nat) (M M' : zM) : Prop := ∀ k, k ∉ S → M'.1 k = M.1 k ∧ M'.2.1 k = M.2.1 k ∧ M'.2.2 k = M.2.2 k
theorem Frm.rf {S : List Nat} {M : zM} : Frm S M M := fun _ _ => ⟨rfl, rfl, rfl⟩
theorem Frm.trans {S : List Nat} {M M' M'' : zM} (h : Frm S M M') (h' : Frm S M' M'') : Frm S M M'' := fun k hk => ⟨(h' k hk).1.trans (h k hk).1, (h' k hk).2.1.trans (h k hk).2.1, (h' k hk).2.2.trans (h k hk).2.2⟩
theorem Frm.mono {S S' : List Nat} {M M' : zM} (h : Frm S M M') (hs : ∀ k, k ∈ S → k ∈ S') : Frm S' M M' := fun k hk => h k (fun q => hk (hs k q))
theorem Only.frm {S : List Nat} {M M' : zM} (h : Only S M M') : Frm S M M' := fun k hk => ⟨h.1 k hk, by rw [h.2], by rw [h.2]⟩
theorem OnlyP.frm {p : Nat} {M M' : zM} (h : OnlyP p M M') : Frm [p] M M' := fun k hk => ⟨h.1 k (by simpa using hk), h.2.1 k (by simpa using hk), by rw [h.2.2]⟩
theorem OnlyR.frm {F S : List Nat} {M M' : zM} (h : OnlyR F S M M') : Frm (413 :: S) M M' := fun k hk => ⟨h.1 k (fun q => hk (List.mem_cons_of_mem _ q)) (fun q => hk (by rw [q]; exact List.mem_cons_self)), by rw [h.2.2], by rw [h.2.2]⟩
theorem Rw.frm {S : List Nat} {M M' : zM} {r : Nat} {bs : List UInt8} (h : Rw M r bs) (ho : Frm S M M') (h1 : r ∉ S) (h2 : r + 1 ∉ S) : Rw M' r bs := ⟨by rw [(ho r h1).1]; exact h.1, h.2.1, fun i hi => by rw [(ho _ h2).1]; exact h.2.2 i hi⟩
abbrev Bx : Type := List (Nat × List UInt8)
def bxLook (k : Nat) : Bx → Option (List UInt8)
  | [] => none
  | e :: t => if e.1 = k then some e.2 else bxLook k t
def bxOff (k : Nat) : Bx → Nat
  | [] => 0
  | e :: t => if e.1 = k then 0 else e.2.length + bxOff k t
def bxAll : Bx → List UInt8
  | [] => []
  | e :: t => e.2 ++ bxAll t
def BxOk (of : Nat) (B : Bx) : Prop := (B.map (fun e => e.1)).Nodup ∧ (∀ e ∈ B, 1 ≤ e.1 ∧ e.1 ≤ of ∧ e.2.length ≤ 60000) ∧ of ≤ 999
theorem bxAll_snoc (j : Nat) (p : List UInt8) : ∀ B : Bx, bxAll (B ++ [(j, p)]) = bxAll B ++ p
  | [] => by simp [bxAll]
  | e :: t => by
    show e.2 ++ bxAll (t ++ [(j, p)]) = (e.2 ++ bxAll t) ++ p
    rw [bxAll_snoc j p t, List.append_assoc]
theorem bxLook_snoc (k j : Nat) (p : List UInt8) : ∀ B : Bx, bxLook k (B ++ [(j, p)]) = (match bxLook k B with | some q => some q | none => if j = k then some p else none)
  | [] => rfl
  | e :: t => by
    show (if e.1 = k then some e.2 else bxLook k (t ++ [(j, p)])) = match (if e.1 = k then some e.2 else bxLook k t) with | some q => some q | none => if j = k then some p else none
    by_cases h : e.1 = k
    · rw [if_pos h, if_pos h]
    · rw [if_neg h, if_neg h]
      exact bxLook_snoc k j p t
theorem bxOff_old (k j : Nat) (p q : List UInt8) : ∀ B : Bx, bxLook k B = some q → bxOff k (B ++ [(j, p)]) = bxOff k B
  | [], h => by cases h
  | e :: t, h => by
    show (if e.1 = k then 0 else e.2.length + bxOff k (t ++ [(j, p)])) = (if e.1 = k then 0 else e.2.length + bxOff k t)
    by_cases c : e.1 = k
    · rw [if_pos c, if_pos c]
    · rw [if_neg c, if_neg c, bxOff_old k j p q t (by
        have h' : (if e.1 = k then some e.2 else bxLook k t) = some q := h
        rw [if_neg c] at h'
        exact h')]
theorem bxOff_new (k : Nat) (p : List UInt8) : ∀ B : Bx, bxLook k B = none → bxOff k (B ++ [(k, p)]) = (bxAll B).length
  | [], h => by simp [bxOff, bxAll]
  | e :: t, h => by
    have h' : (if e.1 = k then some e.2 else bxLook k t) = none := h
    show (if e.1 = k then 0 else e.2.length + bxOff k (t ++ [(k, p)])) = (e.2 ++ bxAll t).length
    by_cases c : e.1 = k
    · rw [if_pos c] at h'
      cases h'
    · rw [if_neg c] at h'
      rw [if_neg c, bxOff_new k p t h', List.length_append]
theorem bxCut (k : Nat) (p : List UInt8) : ∀ B : Bx, bxLook k B = some p → bxOff k B + p.length ≤ (bxAll B).length ∧ cut (bxAll B) (bxOff k B) (bxOff k B + p.length) = p
  | [], h => by cases h
  | e :: t, h => by
    have h' : (if e.1 = k then some e.2 else bxLook k t) = some p := h
    show (if e.1 = k then 0 else e.2.length + bxOff k t) + p.length ≤ (e.2 ++ bxAll t).length ∧ cut (e.2 ++ bxAll t) (if e.1 = k then 0 else e.2.length + bxOff k t) ((if e.1 = k then 0 else e.2.length + bxOff k t) + p.length) = p
    by_cases c : e.1 = k
    · rw [if_pos c] at h'
      have h2 := Option.some.inj h'
      rw [if_pos c, ← h2]
      refine ⟨by simp, ?_⟩
      unfold cut
      simp
    · rw [if_neg c] at h'
      obtain ⟨i1, i2⟩ := bxCut k p t h'
      rw [if_neg c]
      refine ⟨by rw [List.length_append]; omega, ?_⟩
      rw [show e.2.length + bxOff k t + p.length = e.2.length + (bxOff k t + p.length) by omega]
      have i2' : (List.take (bxOff k t + p.length) (bxAll t)).drop (bxOff k t) = p := i2
      unfold cut
      rw [List.take_length_add_append, List.drop_length_add_append]
      exact i2'
theorem bxLook_none (k : Nat) : ∀ B : Bx, bxLook k B = none ↔ k ∉ B.map (fun e => e.1)
  | [] => by simp [bxLook]
  | e :: t => by
    show (if e.1 = k then some e.2 else bxLook k t) = none ↔ _
    have ih := bxLook_none k t
    by_cases c : e.1 = k
    · rw [if_pos c]
      simp [c]
    · rw [if_neg c, ih, List.map_cons, List.mem_cons]
      constructor
      · rintro h (h2 | h2)
        · exact c h2.symm
        · exact h h2
      · intro h h2
        exact h (Or.inr h2)
theorem bxLook_mem (k : Nat) (p : List UInt8) : ∀ B : Bx, bxLook k B = some p → (k, p) ∈ B
  | [], h => by cases h
  | e :: t, h => by
    have h' : (if e.1 = k then some e.2 else bxLook k t) = some p := h
    by_cases c : e.1 = k
    · rw [if_pos c] at h'
      have h2 := Option.some.inj h'
      rw [← c, ← h2]
      exact List.mem_cons_self
    · rw [if_neg c] at h'
      exact List.mem_cons_of_mem _ (bxLook_mem k p t h')
theorem pig : ∀ (n : Nat) (l : List Nat), l.Nodup → (∀ x ∈ l, 1 ≤ x ∧ x ≤ n) → l.length ≤ n ∧ (l.length = n ↔ ∀ k, 1 ≤ k → k ≤ n → k ∈ l)
  | 0, l, _, h => by
    have e : l = [] := by
      cases l with
      | nil => rfl
      | cons x t =>
        have := h x List.mem_cons_self
        omega
    rw [e]
    refine ⟨by simp, ⟨fun _ k h1 h2 => by omega, fun _ => rfl⟩⟩
  | n + 1, l, hn, h => by
    by_cases c : n + 1 ∈ l
    · have hl := List.length_erase_of_mem c
      have hp : 0 < l.length := List.length_pos_of_mem c
      obtain ⟨i1, i2⟩ := pig n (l.erase (n + 1)) (hn.erase _) (fun x hx => by
        have hx2 := (hn.mem_erase_iff).mp hx
        have := h x hx2.2
        have := hx2.1
        omega)
      refine ⟨by omega, ⟨fun e k h1 h2 => ?_, fun e => ?_⟩⟩
      · by_cases ck : k = n + 1
        · rw [ck]
          exact c
        · exact List.mem_of_mem_erase (i2.mp (by omega) k h1 (by omega))
      · have := i2.mpr (fun k h1 h2 => (hn.mem_erase_iff).mpr ⟨by omega, e k h1 (by omega)⟩)
        omega
    · obtain ⟨i1, i2⟩ := pig n l hn (fun x hx => by
        have := h x hx
        have : x ≠ n + 1 := fun q => c (by rw [← q]; exact hx)
        omega)
      refine ⟨by omega, ⟨fun e => by omega, fun e => absurd (e (n + 1) (by omega) (by omega)) c⟩⟩
theorem bxTot : ∀ (B : Bx), (∀ e ∈ B, e.2.length ≤ 60000) → (bxAll B).length ≤ 60000 * B.length
  | [], _ => by simp [bxAll]
  | e :: t, h => by
    have := bxTot t (fun x hx => h x (List.mem_cons_of_mem _ hx))
    have := h e List.mem_cons_self
    show (e.2 ++ bxAll t).length ≤ _
    rw [List.length_append, List.length_cons]
    omega
theorem BxOk.len {of : Nat} {B : Bx} (h : BxOk of B) : B.length ≤ of ∧ (bxAll B).length ≤ 60000000 ∧ (B.length = of ↔ ∀ k, 1 ≤ k → k ≤ of → bxLook k B ≠ none) := by
  obtain ⟨h1, h2, h3⟩ := h
  have hp := pig of (B.map (fun e => e.1)) h1 (fun x hx => by
    obtain ⟨e, he, rfl⟩ := List.mem_map.mp hx
    exact ⟨(h2 e he).1, (h2 e he).2.1⟩)
  rw [List.length_map] at hp
  have ht := bxTot B (fun e he => (h2 e he).2.2)
  refine ⟨hp.1, by omega, hp.2.trans ⟨fun q k a b c => (bxLook_none k B).mp c (q k a b), fun q k a b => Classical.byContradiction (fun c => q k a b ((bxLook_none k B).mpr c))⟩⟩
theorem BxOk.nil (of : Nat) (h : of ≤ 999) : BxOk of [] := ⟨List.nodup_nil, fun e he => absurd he (by simp), h⟩
theorem BxOk.snoc {of k : Nat} {B : Bx} {p : List UInt8} (h : BxOk of B) (hk : bxLook k B = none) (h1 : 1 ≤ k) (h2 : k ≤ of) (hp : p.length ≤ 60000) : BxOk of (B ++ [(k, p)]) := by
  obtain ⟨a1, a2, a3⟩ := h
  refine ⟨?_, fun e he => ?_, a3⟩
  · rw [List.map_append, List.map_cons, List.map_nil]
    refine List.nodup_append.mpr ⟨a1, by simp, fun a ha b hb => ?_⟩
    have hb' : b = k := by simpa using hb
    rw [hb']
    exact fun q => (bxLook_none k B).mp hk (by rw [← q]; exact ha)
  · rcases List.mem_append.mp he with he | he
    · exact a2 e he
    · have : e = (k, p) := by simpa using he
      rw [this]
      exact ⟨h1, h2, hp⟩
/-- MailChain's box at place a -/
def BoI (M : zM) (a of : Nat) (B : Bx) : Prop :=
  M.1 a 6 = ii B.length ∧ (B ≠ [] → M.1 a 4 = ii of) ∧ M.1 a 5 = ii (bxAll B).length ∧
  (∀ k, k < 1000 → M.1 (a + 4) k = match bxLook k B with | some p => ii p.length | none => -1) ∧
  (∀ k p, bxLook k B = some p → ∃ s : Nat, s ≤ 48000 ∧ M.1 (a + 3) k = ii s ∧ ((bxAll B).length ≤ 48000 → s = bxOff k B)) ∧
  (∃ rs, Rw M (a + 1) rs ∧ ((bxAll B).length ≤ 48000 → rs = bxAll B))
theorem BoI.frm {S : List Nat} {M M' : zM} {a of : Nat} {B : Bx} (h : BoI M a of B) (ho : Frm S M M') (hd : ∀ j, j ≤ 4 → a + j ∉ S) : BoI M' a of B := by
  obtain ⟨h1, h2, h3, h4, h5, rs, h6, h7⟩ := h
  have e0 := (ho a (hd 0 (by omega))).1
  have e3 := (ho (a + 3) (hd 3 (by omega))).1
  have e4 := (ho (a + 4) (hd 4 (by omega))).1
  refine ⟨by rw [e0]; exact h1, fun q => by rw [e0]; exact h2 q, by rw [e0]; exact h3, fun k hk => by rw [e4]; exact h4 k hk, fun k p hp => ?_, rs, h6.frm ho (hd 1 (by omega)) (hd 2 (by omega)), h7⟩
  rw [e3]
  exact h5 k p hp
theorem s_putRange_any {M : zM} {r a : Nat} {bs cs : List UInt8} {post : zM → Prop} {s e : Nat} (h : Rw M r bs) (ha : Rw M a cs) (hse : s ≤ e) (he : e ≤ 200000) (k : ∀ M' bs', Only [r, r + 1] M M' → Rw M' r bs' → (e ≤ cs.length → bs.length + (e - s) ≤ ln (r + 1) → bs' = bs ++ cut cs s e) → post M') : Wp_Ro_putRange r a (ii s) (ii e) M post := by
  by_cases c : e ≤ cs.length ∧ bs.length + (e - s) ≤ ln (r + 1)
  · exact s_putRange h ha hse c.1 c.2 (fun M' o R => k M' _ o R (fun _ _ => rfl))
  · have hl := h.len
    have hla := ha.len
    have hs := ln_small (r + 1)
    have hrl := h.2.1
    have p := k M bs Only.rf h (fun q1 q2 => absurd ⟨q1, q2⟩ c)
    unfold Wp_Ro_putRange
    rintro x1 rfl
    rw [ii_sub, show (0 : Int32) = ii 0 from rfl, ha.1, ii_lt (by omega) (by omega) (by omega) (by omega), ii_le (by omega) (by omega) (by omega) (by omega), ii_lt (by omega) (by omega) (by omega) (by omega)]
    refine ⟨fun _ => p, fun _ => ⟨fun _ => p, fun q => ⟨fun _ => p, fun q2 => s_room h ?_⟩⟩⟩
    rw [ii_lt (by omega) (by omega) (by omega) (by omega)]
    exact ⟨fun _ => p, fun q3 => by omega⟩
theorem cut_end (bs : List UInt8) (s : Nat) : cut bs s bs.length = bs.drop s := by simp [cut]
theorem s_Bo_keep {M : zM} {a r k of of' st : Nat} {B : Bx} {cs : List UInt8} {post : zM → Prop} (hl2 : ln (a + 1 + 1) = 48000) (hl3 : ln (a + 3) = 1000) (hl4 : ln (a + 4) = 1000) (h : BoI M a of B) (hok : BxOk of' (B ++ [(k, cs.drop st)])) (hk : bxLook k B = none) (hR : Rw M r cs) (hst : st ≤ cs.length) (hr : ∀ j, j ≤ 4 → a + j ≠ r ∧ a + j ≠ r + 1)
    (kk : ∀ M', Only [a, a + 1, a + 2, a + 3, a + 4] M M' → BoI M' a of' (B ++ [(k, cs.drop st)]) → post M') : Wp_Bo_keep a (ii k) (ii of') r (ii st) M post := by
  have hcl := hR.len
  obtain ⟨h1, h2, h3, h4, h5, rs, h6, h7⟩ := h
  have hrs : rs.length ≤ 48000 := by have := h6.2.1; omega
  have hkm := hok.2.1 (k, cs.drop st) (List.mem_append_right _ List.mem_cons_self)
  have hof := hok.2.2
  have hk999 : k ≤ 999 := by have := hkm.2.1; omega
  have htot := hok.len
  rw [bxAll_snoc, List.length_append, List.length_append, List.length_drop, List.length_cons, List.length_nil] at htot
  have r0 := hr 0 (by omega)
  have r1 := hr 1 (by omega)
  have r2 := hr 2 (by omega)
  have r3 := hr 3 (by omega)
  have r4 := hr 4 (by omega)
  unfold Wp_Bo_keep
  rintro M1 rfl
  refine ⟨ii_in (by omega) (by omega) (by omega), ?_⟩
  rintro M2 hM2
  refine ⟨ii_in (by omega) (by omega) (by omega), ?_⟩
  rintro M3 hM3
  rw [ii_nat (by omega) (by omega), Int.toNat_natCast] at hM2 hM3
  have f1 : (zI M a 4 (ii of')).1 (a + 1) 1 = ii rs.length := by rw [zI_o (by omega)]; exact h6.1
  rw [f1] at hM2
  have o2 : Only [a, a + 3, a + 4] M M2 := by
    rw [hM2]
    exact (Only.rf.zI (by simp)).zI (by simp)
  have R2 := hR.only o2 (by simp; omega) (by simp; omega)
  rw [R2.1, ii_sub, show ((cs.length : Int) - st) = ((cs.length - st : Nat) : Int) by omega] at hM3
  have o3 : Only [a, a + 3, a + 4] M M3 := by
    rw [hM3]
    exact o2.zI (by simp)
  have R3 := hR.only o3 (by simp; omega) (by simp; omega)
  have P3 := h6.only o3 (by simp) (by simp <;> omega)
  have g30 : ∀ j, M3.1 a j = if j = 4 then ii of' else M.1 a j := by
    intro j
    rw [hM3, zI_o (by omega), hM2, zI_o (by omega), zI_g]
    by_cases c : j = 4
    · rw [if_pos ⟨rfl, c⟩, if_pos c]
    · rw [if_neg (fun q => c q.2), if_neg c]
  have g33 : ∀ j, M3.1 (a + 3) j = if j = k then ii rs.length else M.1 (a + 3) j := by
    intro j
    rw [hM3, zI_o (by omega), hM2, zI_g]
    by_cases c : j = k
    · rw [if_pos ⟨rfl, c⟩, if_pos c]
    · rw [if_neg (fun q => c q.2), if_neg c, zI_o (by omega)]
  have g34 : ∀ j, M3.1 (a + 4) j = if j = k then ii ((cs.length - st : Nat) : Int) else M.1 (a + 4) j := by
    intro j
    rw [hM3, zI_g]
    by_cases c : j = k
    · rw [if_pos ⟨rfl, c⟩, if_pos c]
    · rw [if_neg (fun q => c q.2), if_neg c, hM2, zI_o (by omega), zI_o (by omega)]
  rw [R3.1]
  refine s_putRange_any P3 R3 (by omega) (by omega) (fun M4 bs' o4 R4 hfit => ?_)
  refine ⟨ii_in (by omega) (by omega) (by omega), ?_⟩
  rw [ii_nat (by omega) (by omega), Int.toNat_natCast]
  rintro M5 rfl M6 hM6
  have q0 : ∀ j, M4.1 a j = M3.1 a j := fun j => by rw [o4.1 a (by simp <;> omega)]
  have q4 : M4.1 (a + 4) = M3.1 (a + 4) := o4.1 (a + 4) (by simp)
  have q3 : M4.1 (a + 3) = M3.1 (a + 3) := o4.1 (a + 3) (by simp)
  rw [q4, g34, if_pos rfl, q0, g30, if_neg (by decide), h3, ii_add, zI_g, if_neg (by simp), q0, g30, if_neg (by decide), h1, show (1 : Int32) = ii 1 from rfl, ii_add] at hM6
  have oA : Only [a] M4 M6 := by
    rw [hM6]
    exact (Only.rf.zI (by simp)).zI (by simp)
  have oAll : Only [a, a + 1, a + 2, a + 3, a + 4] M M6 := ((o3.mono (by simp)).trans (o4.mono (by simp))).trans (oA.mono (by simp))
  have e6 : ∀ j, M6.1 a j = if j = 6 then ii ((B.length : Int) + 1) else if j = 5 then ii (((bxAll B).length : Int) + ((cs.length - st : Nat) : Int)) else if j = 4 then ii of' else M.1 a j := by
    intro j
    rw [hM6, zI_g]
    by_cases c : j = 6
    · rw [if_pos ⟨rfl, c⟩, if_pos c]
    · rw [if_neg (fun q => c q.2), if_neg c, zI_g]
      by_cases c2 : j = 5
      · rw [if_pos ⟨rfl, c2⟩, if_pos c2]
      · rw [if_neg (fun q => c2 q.2), if_neg c2, q0, g30]
  refine kk M6 oAll ⟨?_, fun _ => ?_, ?_, fun j hj => ?_, fun j p hp => ?_, bs', R4.only oA (by simp) (by simp <;> omega), ?_⟩
  · rw [e6, if_pos rfl, List.length_append, List.length_cons, List.length_nil]
    rfl
  · rw [e6, if_neg (by decide), if_neg (by decide), if_pos rfl]
  · rw [e6, if_neg (by decide), if_pos rfl, bxAll_snoc, List.length_append, List.length_drop]
    rfl
  · rw [oA.1 (a + 4) (by simp), q4, g34, bxLook_snoc]
    by_cases c : j = k
    · rw [if_pos c, c, hk]
      show _ = match (if k = k then some (cs.drop st) else none) with | some p => ii p.length | none => -1
      rw [if_pos rfl]
      show _ = ii ((cs.drop st).length : Int)
      rw [List.length_drop]
    · rw [if_neg c, h4 j hj]
      cases hl : bxLook j B with
      | some p => rfl
      | none =>
        show _ = match (if k = j then some (cs.drop st) else none) with | some p => ii p.length | none => -1
        rw [if_neg (fun q => c q.symm)]
  · rw [oA.1 (a + 3) (by simp), q3, g33, bxAll_snoc, List.length_append, List.length_drop]
    by_cases c : j = k
    · rw [if_pos c]
      refine ⟨rs.length, hrs, rfl, fun ht => ?_⟩
      rw [c, bxOff_new k _ B hk, h7 (by omega)]
    · rw [if_neg c]
      rw [bxLook_snoc] at hp
      cases hl : bxLook j B with
      | some p' =>
        obtain ⟨s, s1, s2, s3⟩ := h5 j p' hl
        refine ⟨s, s1, s2, fun ht => ?_⟩
        rw [bxOff_old j k _ p' B hl]
        exact s3 (by omega)
      | none =>
        rw [hl] at hp
        have hp' : (if k = j then some (cs.drop st) else none) = some p := hp
        rw [if_neg (fun q => c q.symm)] at hp'
        cases hp'
  · intro ht
    rw [bxAll_snoc, List.length_append, List.length_drop] at ht
    rw [bxAll_snoc, hfit (Nat.le_refl _) (by rw [h7 (by omega), hl2]; omega), h7 (by omega), cut_end]
