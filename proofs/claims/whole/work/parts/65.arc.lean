/-! Archives, as mathematics, and as MailChain writes them. -/
def kd4 (k : Nat) : Nat := if k = 0 then 4 else if k = 1 then 8 else 10
def hdr (number kindMode o g links t psz rest : Nat) : List UInt8 := txt 7 ++ oct number 6 ++ oct kindMode 6 ++ oct o 6 ++ oct g 6 ++ oct links 6 ++ txt 8 ++ oct t 11 ++ oct (psz + 1) 6 ++ oct rest 11
def entA (T : Tre) (e : En) : List UInt8 := hdr (fstL e.fam T + 1) (kd4 e.kind * 2 ^ 12 + e.mode) e.own e.grp (cntL e.fam T) e.tim e.path.length e.body.length ++ e.path ++ [0] ++ e.body
def arcL (T : Tre) : Tre → List UInt8
  | [] => []
  | e :: t => entA T e ++ arcL T t
def arc (T : Tre) : List UInt8 := arcL T T ++ txt 6 ++ [0]
def smallT (T : Tre) : Prop := ∀ e ∈ T, e.own ≤ 262143 ∧ e.grp ≤ 262143
theorem arcL_app (T : Tre) : ∀ A B : Tre, arcL T (A ++ B) = arcL T A ++ arcL T B
  | [], B => rfl
  | e :: t, B => by
    show entA T e ++ arcL T (t ++ B) = (entA T e ++ arcL T t) ++ arcL T B
    rw [arcL_app T t B, List.append_assoc]
theorem txl2 : (txt 6).length = 86 ∧ (txt 7).length = 12 ∧ (txt 8).length = 6 := by decide +kernel
theorem hdr_len (a b c d e f g h : Nat) : (hdr a b c d e f g h).length = 76 := by
  obtain ⟨t6, t7, t8⟩ := txl2
  unfold hdr
  simp only [List.length_append, oct_len, t7, t8]
theorem entA_len (T : Tre) (e : En) : (entA T e).length = 77 + e.path.length + e.body.length := by
  unfold entA
  simp only [List.length_append, hdr_len, List.length_cons, List.length_nil]
  omega
theorem arcL_len (T : Tre) : ∀ S : Tre, (∀ e ∈ S, EOk e) → (arcL T S).length ≤ 197 * S.length + conts S
  | [], _ => by simp [arcL]
  | e :: t, h => by
    have ih := arcL_len T t (fun x hx => h x (List.mem_cons_of_mem _ hx))
    have he := h e List.mem_cons_self
    show (entA T e ++ arcL T t).length ≤ 197 * (e :: t).length + ((if e.kind = 1 then e.body.length else 0) + conts t)
    rw [List.length_append, entA_len, List.length_cons]
    have h60 := he.2.1
    by_cases c1 : e.kind = 1
    · rw [if_pos c1]; omega
    · rw [if_neg c1]
      by_cases c0 : e.kind = 0
      · have := he.2.2.2.2.2.2.2.2.1 c0
        rw [this]
        simp only [List.length_nil]
        omega
      · have hk := he.2.2.2.1
        have := (he.2.2.2.2.2.2.2.2.2 (by omega)).2.1
        omega
theorem arc_len {T : Tre} (h : TOk T) : (arc T).length ≤ 13967 ∧ 87 ≤ (arc T).length := by
  have := arcL_len T T h.2.2.1
  have h1 := h.1
  have h2 := h.2.2.2.1
  obtain ⟨t6, t7, t8⟩ := txl2
  unfold arc
  simp only [List.length_append, t6, List.length_cons, List.length_nil]
  omega
theorem arc_part {T : Tre} (h : TOk T) (i : Nat) : (arcL T (T.take i)).length + (arcL T (T.drop i)).length + 87 ≤ 13967 := by
  have := (arc_len h).1
  unfold arc at this
  rw [← List.take_append_drop i T] at this
  have e : arcL (List.take i T ++ List.drop i T) (List.take i T ++ List.drop i T) = arcL T (List.take i T) ++ arcL T (List.drop i T) := by rw [List.take_append_drop, ← arcL_app, List.take_append_drop]
  rw [e] at this
  obtain ⟨t6, t7, t8⟩ := txl2
  simp only [List.length_append, t6, List.length_cons, List.length_nil] at this
  omega
section ARC
variable {M : zM} {t r : Nat} {T : Tre} {bs : List UInt8}
theorem s_hasArchive {post : Int32 → zM → Prop} (hT : isT t) (h : TrI M t T) (hV : TOk T) (k1 : smallT T → post 1 M) (k0 : ¬ smallT T → post 0 M) : Wp_Tr_hasArchive t M post := by
  have hl := h.2.2.2.1
  have f := hT.facts
  obtain ⟨bd, b1, b2, b3⟩ := h.2.2.2.2.2
  unfold Wp_Tr_hasArchive
  intro K hK
  suffices H : ∀ (m i : Nat), i + m = T.length → (∀ (j : Nat) (hj : j < T.length), j < i → T[j].own ≤ 262143 ∧ T[j].grp ≤ 262143) → K (ii i) M from H _ 0 (Nat.zero_add _) (fun j _ hj => absurd hj (by omega))
  intro m
  induction m with
  | zero =>
    intro i hi hs
    refine hK _ _ ⟨fun _ => k1 (fun e he => ?_), fun z => absurd (by rw [h.2.1, ii_le (by omega) (by omega) (by omega) (by omega)]; omega) z⟩
    obtain ⟨j, hj, ej⟩ := List.getElem_of_mem he
    rw [← ej]
    exact hs j hj (by omega)
  | succ m ih =>
    intro i hi hs
    have hin : i < T.length := by omega
    have hE := hV.2.2.1 _ (List.getElem_mem hin)
    refine hK _ _ ⟨fun z => ?_, fun _ => ⟨ii_in (by omega) (by omega) (by omega), ?_⟩⟩
    · rw [h.2.1, ii_le (by omega) (by omega) (by omega) (by omega)] at z
      omega
    · rintro q rfl
      rw [ii_nat (by omega) (by omega), Int.toNat_natCast]
      have e := ent_at hT h.1 (show i < 41 by omega)
      have c3 := (b3 i hin).2.2.2.1
      have c4 := (b3 i hin).2.2.2.2.1
      have x1 := hE.2.2.2.2.2.1
      have x2 := hE.2.2.2.2.2.2.1
      rw [c3, c4, show (262143 : Int32) = ii 262143 from rfl, ii_lt (by omega) (by omega) (by omega) (by omega), ii_le (by omega) (by omega) (by omega) (by omega)]
      refine ⟨e.1, e.2.1, fun z => k0 (fun y => ?_), fun z => ⟨fun z2 => ?_, fun z2 => k0 (fun y => ?_)⟩⟩
      · have := y _ (List.getElem_mem hin)
        omega
      · rintro x rfl
        rw [show (1 : Int32) = ii 1 from rfl, ii_add]
        refine ih (i + 1) (by omega) (fun j hj hji => ?_)
        by_cases c : j = i
        · subst c; omega
        · exact hs j hj (by omega)
      · have := y _ (List.getElem_mem hin)
        omega
theorem s_kindDigits {k : Nat} {post : Int32 → zM → Prop} (hk : k ≤ 2) (kk : post (ii (kd4 k : Nat)) M) : Wp_Ar_kindDigits (ii k) M post := by
  unfold Wp_Ar_kindDigits
  unfold kd4 at kk
  rw [show (0 : Int32) = ii 0 from rfl, show (1 : Int32) = ii 1 from rfl, ii_eq (by omega) (by omega) (by omega) (by omega), ii_eq (by omega) (by omega) (by omega) (by omega)]
  refine ⟨fun q => ⟨fun q1 => ?_, fun q1 => ?_⟩, fun q => ?_⟩
  · rw [if_neg (by omega), if_neg (by omega)] at kk; exact kk
  · rw [if_neg (by omega), if_pos (by omega)] at kk; exact kk
  · rw [if_pos (by omega)] at kk; exact kk
theorem s_writeHeader {e num lk : Nat} {x : En} {bd : List UInt8} {post : zM → Prop} (hx : EOk x) (hb : x.body.length ≤ 8400) (hE : EnI M e x bd) (h : Rw M r bs) (hroom : bs.length + 76 ≤ ln (r + 1)) (hn : num ≤ 100) (hl : lk ≤ 100) (d : ∀ j, j ≤ 2 → e + j ≠ r ∧ e + j ≠ r + 1) (k : ∀ M', Only [r, r + 1] M M' → Rw M' r (bs ++ hdr num (kd4 x.kind * 2 ^ 12 + x.mode) x.own x.grp lk x.tim x.path.length x.body.length) → post M') : Wp_Ar_writeHeader e (ii num) (ii lk) r M post := by
  obtain ⟨t6, t7, t8⟩ := txl2
  obtain ⟨x1, x2, x3, x4, x5, x6, x7, x8, x9, x10⟩ := hx
  have keep : ∀ {M'}, Only [r, r + 1] M M' → EnI M' e x bd := fun o => hE.same (o.1 _ (by have := d 0 (by omega); simp; omega)) (o.1 _ (by have := d 1 (by omega); simp; omega)) (o.1 _ (by have := d 2 (by omega); simp; omega))
  have six : (6 : Int32) = ii ((6 : Nat) : Int) := rfl
  have elv : (11 : Int32) = ii ((11 : Nat) : Int) := rfl
  unfold Wp_Ar_writeHeader
  refine s_putText (by decide) h (by omega) (fun M1 o1 R1 => ?_)
  rw [six]
  refine s_putOctal (by omega) (by omega) R1 (by rw [List.length_append]; omega) (fun M2 o2 R2 => ?_)
  have o12 := o1.trans o2
  rw [(keep o12).2.1]
  refine s_kindDigits x4 ?_
  have hkd : kd4 x.kind ≤ 10 := by unfold kd4; split; omega; split <;> omega
  have ekm : (ii (kd4 x.kind : Nat) <<< (12 &&& 31)) ||| M2.1 e 2 = ii ((kd4 x.kind * 2 ^ 12 + x.mode : Nat) : Int) := by
    rw [(keep o12).2.2.1, show ((12 : Int32) &&& 31) = ii ((12 : Nat) : Int) from rfl, ii_shl _ (by omega)]
    have := ii_or_add (a := kd4 x.kind) (b := x.mode) (k := 12) (by omega)
    rw [← this]
    congr 1
  rw [ekm]
  refine s_putOctal (by omega) (by omega) R2 (by simp only [List.length_append, oct_len]; omega) (fun M3 o3 R3 => ?_)
  have o13 := o12.trans o3
  rw [(keep o13).2.2.2.1]
  refine s_putOctal (by omega) (by omega) R3 (by simp only [List.length_append, oct_len]; omega) (fun M4 o4 R4 => ?_)
  have o14 := o13.trans o4
  rw [(keep o14).2.2.2.2.1]
  refine s_putOctal (by omega) (by omega) R4 (by simp only [List.length_append, oct_len]; omega) (fun M5 o5 R5 => ?_)
  have o15 := o14.trans o5
  refine s_putOctal (by omega) (by omega) R5 (by simp only [List.length_append, oct_len]; omega) (fun M6 o6 R6 => ?_)
  have o16 := o15.trans o6
  refine s_putText (by decide) R6 (by simp only [List.length_append, oct_len]; omega) (fun M7 o7 R7 => ?_)
  have o17 := o16.trans o7
  rw [(keep o17).2.2.2.2.2.1, elv]
  refine s_putOctal (by omega) (by omega) R7 (by simp only [List.length_append, oct_len]; omega) (fun M8 o8 R8 => ?_)
  have o18 := o17.trans o8
  rw [(keep o18).1.1, show (1 : Int32) = ii 1 from rfl, ii_add, show ((x.path.length : Int) + 1) = ((x.path.length + 1 : Nat) : Int) by omega]
  refine s_putOctal (by omega) (by omega) R8 (by simp only [List.length_append, oct_len]; omega) (fun M9 o9 R9 => ?_)
  have o19 := o18.trans o9
  rw [(keep o19).2.2.2.2.2.2.1]
  refine s_putOctal (by omega) (by omega) R9 (by simp only [List.length_append, oct_len]; omega) (fun M10 o10 R10 => ?_)
  refine k M10 (o19.trans o10) ?_
  unfold hdr
  simpa only [List.append_assoc] using R10
/-- the archive that MailChain keeps: none if an owner or group is too great -/
def ArcR (T : Tre) (A : List UInt8) : Prop := (smallT T ∧ A = arc T) ∨ (¬ smallT T ∧ A = [])
theorem cntL_pos {T : Tre} {i : Nat} (hi : i < T.length) : cntL T[i].fam T ≤ 40 ∨ 40 < T.length := by
  have := cntL_le T[i].fam T
  omega
theorem s_Ar_write {post : zM → Prop} (hT : isT t) (h : TrI M t T) (hV : TOk T) (hroom : 13967 ≤ ln (r + 1)) (d : r + 1 < t ∨ t + 127 ≤ r) (k : ∀ M' A, Only [r, r + 1] M M' → ArcR T A → Rw M' r A → post M') : Wp_Ar_write t r M post := by
  obtain ⟨t6, t7, t8⟩ := txl2
  have hl := h.2.2.2.1
  have f := hT.facts
  have keep : ∀ {M'}, Only [r, r + 1] M M' → TrI M' t T := fun o => h.frm o.frm (fun k hk => by have : k = r ∨ k = r + 1 := (by simpa using hk); omega)
  unfold Wp_Ar_write
  intro K hK
  refine s_wipe (fun M1 o1 _ R1 => ?_)
  have o1 : Only [r, r + 1] M M1 := o1.mono (by simp)
  refine s_hasArchive hT (keep o1) hV (fun hs => ⟨fun _ => ?_, fun z => absurd z (by decide)⟩) (fun hs => ⟨fun z => absurd rfl z, fun _ => k M1 [] o1 (Or.inr ⟨hs, rfl⟩) R1⟩)
  suffices H : ∀ (m i : Nat) (M2 : zM), i + m = T.length → Only [r, r + 1] M M2 → Rw M2 r (arcL T (T.take i)) → K (ii i) M2 from H _ 0 M1 (Nat.zero_add _) o1 R1
  intro m
  induction m with
  | zero =>
    intro i M2 hi o2 R2
    have I2 := keep o2
    refine hK _ _ ⟨fun _ => ?_, fun z => absurd (by rw [I2.2.1, ii_le (by omega) (by omega) (by omega) (by omega)]; omega) z⟩
    have hp := arc_part hV i
    refine s_putText (by decide) R2 (by omega) (fun M3 o3 R3 => ?_)
    refine s_put R3 (by rw [List.length_append]; omega) (fun M4 o4 R4 => ?_)
    refine k M4 (arc T) ((o2.trans o3).trans o4) (Or.inl ⟨hs, rfl⟩) ?_
    rw [List.take_of_length_le (by omega), show b8 (0 : Int32) = 0 from rfl] at R4
    exact R4
  | succ m ih =>
    intro i M2 hi o2 R2
    have hin : i < T.length := by omega
    have I2 := keep o2
    have hp := arc_part hV i
    rw [List.drop_eq_getElem_cons hin] at hp
    have hp' : (arcL T (T.take i)).length + (entA T T[i] ++ arcL T (T.drop (i + 1))).length + 87 ≤ 13967 := hp
    rw [List.length_append, entA_len] at hp'
    have hE := hV.2.2.1 _ (List.getElem_mem hin)
    refine hK _ _ ⟨fun z => ?_, fun _ => ⟨ii_in (by omega) (by omega) (by omega), ?_⟩⟩
    · rw [I2.2.1, ii_le (by omega) (by omega) (by omega) (by omega)] at z
      omega
    · rintro q rfl
      rw [ii_nat (by omega) (by omega), Int.toNat_natCast]
      have e := ent_at hT I2.1 (show i < 41 by omega)
      refine ⟨e.1, e.2.1, s_firstLinkOf hT I2 hV hin (s_linksOf hT I2 hV hin ?_)⟩
      have hfi := fstL_le T[i].fam T i hin rfl
      have hci := cntL_le T[i].fam T
      rw [show (1 : Int32) = ii 1 from rfl, ii_add, show ((fstL T[i].fam T : Int) + 1) = ((fstL T[i].fam T + 1 : Nat) : Int) by omega]
      generalize hq : M2.2.2 (t + 1) i = q at *
      have en : ∀ {M'}, Only [r, r + 1] M M' → M'.2.2 (t + 1) i = q := fun o => by rw [← hq, o.2, o2.2]
      obtain ⟨bd, b1, b2, b3⟩ := I2.2.2.2.2.2
      have hbd : bd.length ≤ 8400 := by have := b1.2.1; omega
      have E2 := b3 i hin
      rw [hq] at E2
      have hbl : T[i].body.length ≤ 8400 := by obtain ⟨-, -, -, -, -, -, -, -, st, -, c2, -⟩ := E2; omega
      refine s_writeHeader hE hbl E2 R2 (by omega) (by omega) (by omega) (fun j hj => by omega) (fun M3 o3 R3 => ?_)
      have E3 : EnI M3 q T[i] bd := E2.same (o3.1 _ (by simp; omega)) (o3.1 _ (by simp; omega)) (o3.1 _ (by simp; omega))
      have B3 : Rw M3 (t + 125) bd := b1.only o3 (by simp; omega) (by simp; omega)
      rw [E3.1.1]
      show Wp_Ro_putRange r (q + 1) (ii ((0 : Nat) : Int)) (ii T[i].path.length) M3 _
      refine s_putRange R3 E3.1 (by omega) (Nat.le_refl _) (by rw [List.length_append, hdr_len]; omega) (fun M4 o4 R4 => ?_)
      refine s_put R4 (by simp only [List.length_append, hdr_len, cut_len]; omega) (fun M5 o5 R5 => ?_)
      have o35 := o4.trans o5
      have E5 : EnI M5 q T[i] bd := E3.same (o35.1 _ (by simp; omega)) (o35.1 _ (by simp; omega)) (o35.1 _ (by simp; omega))
      have B5 : Rw M5 (t + 125) bd := B3.only o35 (by simp; omega) (by simp; omega)
      obtain ⟨c1, c2, c3, c4, c5, c6, c7, c8, st, d1, d2, d3⟩ := E5
      rw [d1, c7, ii_add, show ((st : Int) + (T[i].body.length : Int)) = ((st + T[i].body.length : Nat) : Int) by omega]
      refine s_putRange R5 B5 (by omega) d2 (by simp only [List.length_append, hdr_len, cut_len, List.length_cons, List.length_nil]; omega) (fun M6 o6 R6 => ?_)
      rintro x rfl
      rw [ii_add]
      refine ih (i + 1) M6 (by omega) (((o2.trans o3).trans o35).trans o6) ?_
      rw [← List.take_append_getElem hin, arcL_app]
      have e1 : cut T[i].path 0 T[i].path.length = T[i].path := by rw [cut_end]; rfl
      rw [e1, d3, show b8 (0 : Int32) = 0 from rfl] at R6
      show Rw M6 r (arcL T (T.take i) ++ (entA T T[i] ++ []))
      unfold entA
      simpa only [List.append_assoc, List.append_nil] using R6
end ARC
