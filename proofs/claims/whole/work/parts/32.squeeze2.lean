theorem nodup_bound : ∀ (n : Nat) (l : List Nat), l.Nodup → (∀ x ∈ l, x < n) → l.length ≤ n
  | 0, l, _, h => by
    cases l with
    | nil => simp
    | cons x t => exact absurd (h x (by simp)) (by omega)
  | n + 1, l, hn, h => by
    by_cases hm : n ∈ l
    · have h1 := nodup_bound n (l.erase n) (hn.erase n) (fun x hx => by
        have := h x (List.mem_of_mem_erase hx)
        have hne : x ≠ n := fun e => by
          subst e
          exact hn.not_mem_erase hx
        omega)
      rw [List.length_erase_of_mem hm] at h1
      omega
    · have h1 := nodup_bound n l hn (fun x hx => by
        have := h x hx
        have hne : x ≠ n := fun e => hm (e ▸ hx)
        omega)
      omega
/-- no string goes on with the same byte twice -/
def Nd (D : List (Nat × UInt8)) : Prop := ∀ s, ((kids D s).map (fun c => (lastOf D c).toNat)).Nodup
theorem Nd.len {D : List (Nat × UInt8)} (h : Nd D) (s : Nat) : (kids D s).length ≤ 256 := by
  have := nodup_bound 256 _ (h s) (fun x hx => by
    obtain ⟨c, -, rfl⟩ := List.mem_map.mp hx
    exact UInt8.toNat_lt _)
  simpa using this
theorem lastOf_old {D : List (Nat × UInt8)} {x : Nat × UInt8} {c : Nat} (h1 : 257 ≤ c) (h2 : c < 257 + D.length) : lastOf (D ++ [x]) c = lastOf D c := by
  unfold lastOf
  rw [List.getD_eq_getElem?_getD, List.getD_eq_getElem?_getD, List.getElem?_append_left (by omega)]
theorem lastOf_new {D : List (Nat × UInt8)} {s : Nat} {b : UInt8} : lastOf (D ++ [(s, b)]) (257 + D.length) = b := by
  unfold lastOf
  rw [List.getD_eq_getElem?_getD, Nat.add_sub_cancel_left]
  simp
theorem Nd.add {D : List (Nat × UInt8)} {s : Nat} {b : UInt8} (h : Nd D) (hl : look D s b = none) : Nd (D ++ [(s, b)]) := by
  intro t
  have old : (kids D t).map (fun c => (lastOf (D ++ [(s, b)]) c).toNat) = (kids D t).map (fun c => (lastOf D c).toNat) := by
    apply List.map_congr_left
    intro c hc
    have := kids_rng D t c hc
    rw [lastOf_old this.1 this.2]
  rw [kids_snoc]
  by_cases e : s = t
  · subst e
    rw [if_pos rfl, List.map_cons, old, lastOf_new, List.nodup_cons]
    refine ⟨fun hm => ?_, h s⟩
    obtain ⟨c, hc, hcb⟩ := List.mem_map.mp hm
    have := List.find?_eq_none.mp hl c hc
    apply this
    rw [UInt8.toNat_inj.mp hcb]
    simp
  · rw [if_neg e, old]
    exact h t
theorem Nd.nil : Nd [] := fun s => by simp [kids_nil]
section SQ2
variable {M : zM} {q r g : Nat} {pre : List UInt8} {e : Enc}
theorem s_fillx {a s t : Nat} {v : Int32} {post : zM → Prop} (hst : s ≤ t) (ht : t ≤ ln a) (k : ∀ M', Only [a] M M' → (∀ i, M'.1 a i = if s ≤ i ∧ i < t then v else M.1 a i) → post M') : Wp_JArrays_fillx a (ii s) (ii t) v M post := by
  have hl := ln_small a
  unfold Wp_JArrays_fillx
  intro K hK
  unfold Wp_JArrays_rangeCheck
  rw [ii_ofNat, show (0 : Int32) = ii 0 from rfl, ii_le (by omega) (by omega) (by omega) (by omega), ii_le (by omega) (by omega) (by omega) (by omega), ii_le (by omega) (by omega) (by omega) (by omega)]
  refine ⟨fun _ => ⟨fun _ => ⟨fun _ => ?_, fun c => by omega⟩, fun c => by omega⟩, fun c => by omega⟩
  suffices H : ∀ (m i : Nat) (M1 : zM), i + m = t → s ≤ i → Only [a] M M1 → (∀ j, M1.1 a j = if s ≤ j ∧ j < i then v else M.1 a j) → K (ii (i : Int)) M1 by
    exact H (t - s) s M (by omega) (Nat.le_refl _) Only.rf (fun j => by rw [if_neg (by omega)])
  intro m
  induction m with
  | zero =>
    intro i M1 hi hs ho hv
    have ei : i = t := by omega
    subst ei
    exact hK _ _ ⟨fun _ => k M1 ho hv, fun c => absurd (by rw [ii_le (by omega) (by omega) (by omega) (by omega)]; omega) c⟩
  | succ m ih =>
    intro i M1 hi hs ho hv
    refine hK _ _ ⟨fun c => ?_, fun _ => ⟨ii_in (by omega) (by omega) (by omega), ?_⟩⟩
    · rw [ii_le (by omega) (by omega) (by omega) (by omega)] at c
      omega
    · rintro M2 rfl x rfl
      rw [show (1 : Int32) = ii 1 from rfl, ii_add]
      refine ih (i + 1) _ (by omega) (by omega) (ho.zI (by simp)) (fun j => ?_)
      rw [ii_nat (by omega) (by omega), Int.toNat_natCast, zI_g, hv]
      by_cases hj : j = i
      · subst hj
        rw [if_pos ⟨rfl, rfl⟩, if_pos (by omega)]
      · rw [if_neg (fun c => hj c.2)]
        by_cases h2 : s ≤ j ∧ j < i
        · rw [if_pos h2, if_pos (by omega)]
        · rw [if_neg h2, if_neg (by omega)]
theorem s_Sq_childOf {s : Nat} {b : UInt8} {post : Int32 → zM → Prop} (h : SqI M q r pre g e) (hnd : Nd e.D) (hs : s < 257 + e.D.length) (hl1 : ln (q + 1) = 16384) (hl2 : ln (q + 2) = 16384) (hl3 : ln (q + 3) = 16384) (hD : 257 + e.D.length ≤ 16384) (k : post (match look e.D s b with | some c => ii (c : Int) | none => -1) M) : Wp_Sq_childOf q (ii s) (ii ((b.toNat : Nat) : Int)) M post := by
  have hb := UInt8.toNat_lt b
  have hdict := h.2.2.2.2.2.1
  unfold Wp_Sq_childOf
  intro K hK
  rw [ii_nat (by omega) (by omega), Int.toNat_natCast]
  refine ⟨ii_in (by omega) (by omega) (by omega), ?_⟩
  rintro x rfl
  suffices H : ∀ (l : List Nat) (v : Int32) (i : Nat), Ch (M.1 (q + 2)) (-1) v l → (∀ c ∈ l, 257 ≤ c ∧ c < 257 + e.D.length) → i + l.length ≤ 256 → l.find? (fun c => lastOf e.D c == b) = look e.D s b → K v (ii (i : Int)) M by
    exact H _ _ 0 (hdict.1 s hs) (kids_rng e.D s) (by have := hnd.len s; omega) rfl
  intro l
  induction l with
  | nil =>
    intro v i hch _ hi hf
    have hv : v = -1 := hch
    subst hv
    rw [← hf] at k
    refine hK _ _ _ ⟨fun _ => k, fun _ => ⟨fun _ => k, fun c => absurd rfl c⟩⟩
  | cons c t ih =>
    intro v i hch hr hi hf
    have hc := hr c (by simp)
    have hv := hch.1
    subst hv
    simp only [List.length_cons] at hi
    refine hK _ _ _ ⟨fun c' => ?_, fun _ => ?_⟩
    · rw [show (256 : Int32) = ii 256 from rfl, ii_le (by omega) (by omega) (by omega) (by omega)] at c'
      omega
    · rw [show (-1 : Int32) = ii (-1) from rfl, ii_eq (by omega) (by omega) (by omega) (by omega), ii_nat (by omega) (by omega), Int.toNat_natCast]
      have hlb : M.1 (q + 3) c = ii (((lastOf e.D c).toNat : Nat) : Int) := by
        have := hdict.2 (c - 257) (by omega)
        rw [show 257 + (c - 257) = c by omega] at this
        exact this
      have hlb2 := UInt8.toNat_lt (lastOf e.D c)
      refine ⟨fun c' => by omega, fun _ => ⟨ii_in (by omega) (by omega) (by omega), ?_⟩⟩
      rw [hlb, ii_eq (by omega) (by omega) (by omega) (by omega)]
      refine ⟨fun c' => ?_, fun c' => ⟨ii_in (by omega) (by omega) (by omega), ?_⟩⟩
      · have hbe : lastOf e.D c = b := UInt8.toNat_inj.mp (by omega)
        rw [← hf, List.find?_cons_of_pos (by rw [hbe]; simp)] at k
        exact k
      · rintro x rfl y rfl
        rw [show (1 : Int32) = ii 1 from rfl, ii_add]
        refine ih _ (i + 1) hch.2 (fun z hz => hr z (by simp [hz])) (by omega) ?_
        rw [← hf, List.find?_cons_of_neg]
        simp only [beq_iff_eq]
        exact fun ce => c' (by rw [ce])
theorem OnlyF.toO {o : Nat} {F S S' : List Nat} {M M' : zM} (h : OnlyF o F S M M') (hs : ∀ k, k ∈ S → k ∈ S') (ho : o ∈ S') : Only S' M M' := ⟨fun k hk => h.1 k (fun c => hk (hs k c)) (fun c => hk (c ▸ ho)), h.2.2⟩
theorem s_Sq_forget {post : zM → Prop} (hl1 : ln (q + 1) = 16384) (k : ∀ M', OnlyF q [4] [q + 1] M M' → M'.1 q 4 = ii ((257 : Nat) : Int) → (∀ s, s < 257 → M'.1 (q + 1) s = -1) → post M') : Wp_Sq_forget q M post := by
  unfold Wp_Sq_forget
  rintro M1 rfl
  rw [show (257 : Int32) = ii ((257 : Nat) : Int) from rfl, show (0 : Int32) = ii ((0 : Nat) : Int) from rfl]
  refine s_fillx (by omega) (by omega) (fun M2 o2 hv => k M2 ?_ ?_ (fun s hs => ?_))
  · exact (OnlyF.rf.fld (by simp)).trans ((o2.toF (F := [4]) (by simp)).mono (by simp) (by simp))
  · rw [o2.1 q (by simp), zI_g, if_pos ⟨rfl, rfl⟩]
  · rw [hv, if_pos (by omega)]
theorem s_Sq_learn {s : Nat} {b : UInt8} {post : zM → Prop} (h : SqI M q r pre g e) (hf : 257 + e.D.length ≤ 2 ^ e.w) (hs : s < 257 + e.D.length) (hl1 : ln (q + 1) = 16384) (hl2 : ln (q + 2) = 16384) (hl3 : ln (q + 3) = 16384) (hD : 257 + e.D.length < 16384) (hroom : pre.length + lenE (learn g e s b).E / 8 ≤ ln (r + 1)) (hq : ∀ j, j ≤ 3 → q + j ≠ r ∧ q + j ≠ r + 1)
    (k : ∀ M', Only [q, q + 1, q + 2, q + 3, r, r + 1] M M' → SqI M' q r pre g (learn g e s b) → post M') : Wp_Sq_learn q (ii s) (ii ((b.toNat : Nat) : Int)) r M post := by
  have hok := h.2.2.2.2.2.2
  have hok' := hok.learn (b := b) hf hs
  obtain ⟨a1, a2, a3, a4, a5, a6, a7⟩ := hok
  have hg16 : (2 : Nat) ^ g ≤ 65536 := pow_le' (b := 16) (by omega)
  unfold Wp_Sq_learn
  have e1 : (1 : Int32) <<< (M.1 q 3 &&& 31) = ii ((2 ^ g : Nat) : Int) := by
    rw [h.1, show (31 : Int32) = ii 31 from rfl, ii_and31 (by omega) (by omega), show (1 : Int32) = ii 1 from rfl, ii_shl _ (by omega)]
    simp
  rw [e1, h.2.1, ii_lt (by omega) (by omega) (by omega) (by omega)]
  refine ⟨fun hlt => ?_, fun hge => ?_⟩
  · have el : learn g e s b = ⟨e.D ++ [(s, b)], e.w, e.c, e.E⟩ := by unfold learn; rw [if_neg (by omega)]
    rw [el] at k hok'
    rw [show (16384 : Int32) = ii 16384 from rfl, ii_le (by omega) (by omega) (by omega) (by omega)]
    refine ⟨fun c => by omega, fun _ => ⟨ii_in (by omega) (by omega) (by omega), ?_⟩⟩
    rintro M1 rfl
    have n1 : (zI M (q + 1) (ii ((257 + e.D.length : Nat) : Int)).toNatClampNeg (-1)).1 q 4 = ii ((257 + e.D.length : Nat) : Int) := by rw [zI_o (by omega)]; exact h.2.1
    rw [n1]
    refine ⟨ii_in (by omega) (by omega) (by omega), ?_⟩
    rintro M2 rfl
    have n2 : (zI (zI M (q + 1) (ii ((257 + e.D.length : Nat) : Int)).toNatClampNeg (-1)) (q + 3) (ii ((257 + e.D.length : Nat) : Int)).toNatClampNeg (ii ((b.toNat : Nat) : Int))).1 q 4 = ii ((257 + e.D.length : Nat) : Int) := by rw [zI_o (by omega)]; exact n1
    rw [n2]
    refine ⟨ii_in (by omega) (by omega) (by omega), ii_in (by omega) (by omega) (by omega), ?_⟩
    rintro M3 e3
    refine ⟨ii_in (by omega) (by omega) (by omega), ?_⟩
    rintro M4 e4 M5 e5
    rw [ii_nat (by omega) (by omega), ii_nat (by omega) (by omega), Int.toNat_natCast, Int.toNat_natCast] at e3
    rw [ii_nat (by omega) (by omega), Int.toNat_natCast] at e4
    have n3 : M3.1 q 4 = ii ((257 + e.D.length : Nat) : Int) := by rw [e3, zI_o (by omega), zI_o (by omega), zI_o (by omega)]; exact h.2.1
    rw [n3] at e4
    have n4 : M4.1 q 4 = ii ((257 + e.D.length : Nat) : Int) := by rw [e4, zI_o (by omega)]; exact n3
    rw [n4] at e5
    have ho : Only [q, q + 1, q + 2, q + 3, r, r + 1] M M5 := by
      rw [e5, e4, e3]
      exact ((((Only.rf.zI (by simp)).zI (by simp)).zI (by simp)).zI (by simp)).zI (by simp)
    have fq : ∀ j, j ≠ 4 → M5.1 q j = M.1 q j := fun j hj => by
      rw [e5, zI_g, if_neg (fun c => hj c.2), e4, zI_o (by omega), e3, zI_o (by omega), zI_o (by omega), zI_o (by omega)]
    have fr : M5.1 r = M.1 r := by
      have d1 := hq 0 (by omega); have d2 := hq 1 (by omega); have d3 := hq 2 (by omega); have d4 := hq 3 (by omega)
      rw [e5, zI_o (by omega), e4, zI_o (by omega), e3, zI_o (by omega), zI_o (by omega), zI_o (by omega)]
    have fr1 : M5.1 (r + 1) = M.1 (r + 1) := by
      have d1 := hq 0 (by omega); have d2 := hq 1 (by omega); have d3 := hq 2 (by omega); have d4 := hq 3 (by omega)
      rw [e5, zI_o (by omega), e4, zI_o (by omega), e3, zI_o (by omega), zI_o (by omega), zI_o (by omega)]
    have hB := h.2.2.2.2.1
    have g1 : ∀ j, M5.1 (q + 1) j = if j = s then ii ((257 + e.D.length : Nat) : Int) else if j = 257 + e.D.length then -1 else M.1 (q + 1) j := fun j => by
      rw [e5, zI_o (by omega), e4, zI_g]
      by_cases c1 : j = s
      · rw [if_pos ⟨rfl, c1⟩, if_pos c1]
      · rw [if_neg (fun c => c1 c.2), if_neg c1, e3, zI_o (by omega), zI_o (by omega), zI_g]
        by_cases c2 : j = 257 + e.D.length
        · rw [if_pos ⟨rfl, c2⟩, if_pos c2]
        · rw [if_neg (fun c => c2 c.2), if_neg c2]
    have g2 : ∀ j, M5.1 (q + 2) j = if j = 257 + e.D.length then M.1 (q + 1) s else M.1 (q + 2) j := fun j => by
      rw [e5, zI_o (by omega), e4, zI_o (by omega), e3, zI_g]
      by_cases c2 : j = 257 + e.D.length
      · rw [if_pos ⟨rfl, c2⟩, if_pos c2, zI_o (by omega), zI_g, if_neg (by omega)]
      · rw [if_neg (fun c => c2 c.2), if_neg c2, zI_o (by omega), zI_o (by omega)]
    have g3 : ∀ j, M5.1 (q + 3) j = if j = 257 + e.D.length then ii ((b.toNat : Nat) : Int) else M.1 (q + 3) j := fun j => by
      rw [e5, zI_o (by omega), e4, zI_o (by omega), e3, zI_o (by omega), zI_g]
      by_cases c2 : j = 257 + e.D.length
      · rw [if_pos ⟨rfl, c2⟩, if_pos c2]
      · rw [if_neg (fun c => c2 c.2), if_neg c2, zI_o (by omega)]
    refine k M5 ho ⟨by rw [fq 3 (by decide)]; exact h.1, ?_, by rw [fq 5 (by decide)]; exact h.2.2.1, by rw [fq 6 (by decide)]; exact h.2.2.2.1, ⟨⟨by rw [fr]; exact hB.1.1, hB.1.2.1, fun i hi => by rw [fr1]; exact hB.1.2.2 i hi⟩, by rw [fq 7 (by decide)]; exact hB.2.1, by rw [fq 8 (by decide)]; exact hB.2.2.1, hB.2.2.2⟩, ?_, hok'⟩
    · rw [e5, zI_g, if_pos ⟨rfl, rfl⟩, show (1 : Int32) = ii 1 from rfl, ii_add]
      show _ = ii ((257 + (e.D ++ [(s, b)]).length : Nat) : Int)
      simp only [List.length_append, List.length_cons, List.length_nil]
      congr 1
    · refine h.2.2.2.2.2.1.add a7 hs ?_ ?_ (fun j c1 c2 => ?_) ?_ (fun j c => ?_) ?_ (fun j c => ?_)
      · rw [g1, if_pos rfl]
      · rw [g1, if_neg (by omega), if_pos rfl]
      · rw [g1, if_neg c1, if_neg (by omega)]
      · rw [g2, if_pos rfl]
      · rw [g2, if_neg (by omega)]
      · rw [g3, if_pos rfl]
      · rw [g3, if_neg (by omega)]
  · have el : learn g e s b = ⟨[], 9, 0, (chg (emit g e 256) 9).E⟩ := by unfold learn; rw [if_pos (by omega)]
    rw [el] at k hok' hroom
    have hle : lenE (emit g e 256).E ≤ lenE (chg (emit g e 256) 9).E := lenE_pre (List.prefix_append _ _)
    have hroom' : pre.length + lenE (chg (emit g e 256) 9).E / 8 ≤ ln (r + 1) := hroom
    rw [show (256 : Int32) = ii ((256 : Nat) : Int) from rfl, show (9 : Int32) = ii ((9 : Nat) : Int) from rfl]
    refine s_Sq_putCode h (by omega) (by omega) hq (fun M1 o1 S1 => s_Sq_changeWidth (w' := 9) S1 hroom' hq (fun M2 o2 f5 f6 hB2 => s_Sq_forget hl1 (fun M3 o3 f4 f1 => ?_)))
    have dr : r ≠ q ∧ r ≠ q + 1 ∧ r + 1 ≠ q ∧ r + 1 ≠ q + 1 := by
      have d1 := hq 0 (by omega); have d2 := hq 1 (by omega)
      omega
    refine k M3 (((o1.toO (by simp) (by simp)).trans (o2.toO (by simp) (by simp))).trans (o3.toO (by simp) (by simp))) ⟨?_, f4, ?_, ?_, ⟨⟨?_, hB2.1.2.1, fun i hi => ?_⟩, ?_, ?_, hB2.2.2.2⟩, Dict.none f1, hok'⟩
    · rw [o3.2.1 3 (by decide), o2.2.1 3 (by decide)]; exact S1.1
    · rw [o3.2.1 5 (by decide)]; exact f5
    · rw [o3.2.1 6 (by decide)]; exact f6
    · rw [o3.1 r (by simp; omega) dr.1]; exact hB2.1.1
    · rw [o3.1 (r + 1) (by simp; omega) dr.2.2.1]; exact hB2.1.2.2 i hi
    · rw [o3.2.1 7 (by decide)]; exact hB2.2.1
    · rw [o3.2.1 8 (by decide)]; exact hB2.2.2.1
end SQ2
