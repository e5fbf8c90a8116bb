/-! The reference reads an archive back. -/
theorem srt_snoc {R : Tre} {x : En} (h : Srt R) (hx : ∀ e ∈ R, cmpB e.path x.path < 0) : Srt (R ++ [x]) := by
  refine List.pairwise_append.mpr ⟨h, List.pairwise_singleton _ _, fun a ha b hb => ?_⟩
  rw [List.mem_singleton.mp hb]
  exact hx a ha
theorem last_lt {R : Tre} (h : Srt R) {p : List UInt8} (hl : ∀ h0 : R.length - 1 < R.length, cmpB R[R.length - 1].path p < 0) : ∀ e ∈ R, cmpB e.path p < 0 := by
  intro e he
  obtain ⟨j, hj, ej⟩ := List.getElem_of_mem he
  have h1 := hl (by omega)
  by_cases c : j = R.length - 1
  · rw [← ej]
    simp only [c]
    exact h1
  · rw [← ej]
    exact cmpB_trans _ _ _ (List.pairwise_iff_getElem.mp h j (R.length - 1) hj (by omega) (by omega)) h1
theorem plc_all {R : Tre} {p : List UInt8} (h : ∀ e ∈ R, cmpB e.path p < 0) : plc p R = R.length := plc_char p R R.length (Nat.le_refl _) (fun j hj _ => h _ (List.getElem_mem hj)) (fun h0 => by omega)
/-- what a right archive has at an entry's place -/
theorem ent_right {rs Z : List UInt8} {at_ : Nat} {T0 : Tre} {i : Nat} (hi : i < T0.length) (hV0 : TOk T0) (he : rs.drop at_ = entA T0 T0[i] ++ Z) : EOk T0[i] ∧ T0[i].body.length ≤ 6000 ∧ rs.drop at_ = hdr (fstL T0[i].fam T0 + 1) (kd4 T0[i].kind * 2 ^ 12 + T0[i].mode) T0[i].own T0[i].grp (cntL T0[i].fam T0) T0[i].tim T0[i].path.length T0[i].body.length ++ (T0[i].path ++ ([0] ++ (T0[i].body ++ Z))) ∧ at_ + 77 + T0[i].path.length + T0[i].body.length ≤ rs.length ∧ cut rs (at_ + 76) (at_ + 76 + T0[i].path.length) = T0[i].path ∧ cut rs (at_ + 77 + T0[i].path.length) (at_ + 77 + T0[i].path.length + T0[i].body.length) = T0[i].body := by
  have hE := hV0.2.2.1 _ (List.getElem_mem hi)
  have he2 : rs.drop at_ = hdr (fstL T0[i].fam T0 + 1) (kd4 T0[i].kind * 2 ^ 12 + T0[i].mode) T0[i].own T0[i].grp (cntL T0[i].fam T0) T0[i].tim T0[i].path.length T0[i].body.length ++ (T0[i].path ++ ([0] ++ (T0[i].body ++ Z))) := by
    rw [he]
    unfold entA
    simp only [List.append_assoc]
  have hbl : T0[i].body.length ≤ 6000 := by
    by_cases c1 : T0[i].kind = 1
    · have := conts_mem T0 _ (List.getElem_mem hi) c1
      have := hV0.2.2.2.1
      omega
    · by_cases c0 : T0[i].kind = 0
      · rw [hE.2.2.2.2.2.2.2.2.1 c0]; simp
      · have := hE.2.2.2.1
        have := (hE.2.2.2.2.2.2.2.2.2 (by omega)).2.1
        omega
  have hlen : at_ + 77 + T0[i].path.length + T0[i].body.length ≤ rs.length := by
    have := congrArg List.length he
    rw [List.length_drop, List.length_append, entA_len] at this
    omega
  have cutd : ∀ s n, cut rs (at_ + s) (at_ + s + n) = ((rs.drop at_).drop s).take n := by
    intro s n
    unfold cut
    rw [List.drop_drop, List.take_drop]
  refine ⟨hE, hbl, he2, hlen, ?_, ?_⟩
  · rw [cutd]
    exact seg he2 (hdr_len _ _ _ _ _ _ _ _) rfl
  · have e3 := cutd (77 + T0[i].path.length) T0[i].body.length
    rw [← Nat.add_assoc] at e3
    rw [e3]
    refine seg (A := hdr (fstL T0[i].fam T0 + 1) (kd4 T0[i].kind * 2 ^ 12 + T0[i].mode) T0[i].own T0[i].grp (cntL T0[i].fam T0) T0[i].tim T0[i].path.length T0[i].body.length ++ (T0[i].path ++ [0])) (C := Z) ?_ ?_ rfl
    · rw [he2]
      simp only [List.append_assoc]
    · simp only [List.length_append, hdr_len, List.length_cons, List.length_nil]
      omega
def rtIn (k j : Nat) : Prop := tIn 2 k j ∨ (k = 413 ∧ j = 24) ∨ k = 413 + 21
theorem s_readTree {M : zM} {tx : List UInt8} {post : Int32 → zM → Prop} (hT : Cw M 47 (413 + 32) tx) (htl : tx.length ≤ 16000)
    (kk : ∀ (M' : zM) (v : Int32), FrC rtIn M M' → (v = 0 ∨ (v = 1 ∧ ∃ T', TOk T' ∧ smallT T' ∧ RtI M' 2 T')) → (∀ T0, TOk T0 → smallT T0 → NFT T0 → tx = arc T0 → v = 1 ∧ RtI M' 2 T0) → post v M') : Wp_Mo_readTree 413 M post := by
  obtain ⟨l8, l9, l10, l11, l12, l13, l14, l15, l16, l17, l18, l19, l20, l21⟩ := l_ref
  have l32 : ln (413 + 32) = 56000 := by decide +kernel
  have z2c : ((2 : Int32)).toNatClampNeg = 2 := by decide
  have p6 : (8 : Nat) ^ 6 = 262144 := rfl
  have p11 : (8 : Nat) ^ 11 = 8589934592 := rfl
  have six : (6 : Int32) = ii ((6 : Nat) : Int) := rfl
  have elv : (11 : Int32) = ii ((11 : Nat) : Int) := rfl
  have keep : ∀ {M'}, FrC rtIn M M' → Cw M' 47 (413 + 32) tx := fun f => hT.frC f (by unfold rtIn tIn; omega) (fun i hi => by unfold rtIn tIn; omega)
  unfold Wp_Mo_readTree
  intro K16 K185 K221 K265 K291 K314 h16 h185 h221 h265 h291 h314
  rw [z2c]
  refine ⟨by unfold vp_in; rw [l8]; decide, ?_⟩
  rintro M1 h1
  refine ⟨by unfold vp_in; rw [l19]; decide, ?_⟩
  rintro M2 h2
  have f2 : FrC rtIn M M2 := by
    rw [h2, h1]
    exact (FrC.rf.zI (Or.inl (Or.inl ⟨rfl, rfl⟩))).zI (Or.inl (Or.inr (Or.inr (Or.inr (Or.inl ⟨rfl, rfl⟩)))))
  have I2 : RtI M2 2 [] := ⟨by rw [h2, zI_o (by decide), h1, zI_g, if_pos ⟨rfl, rfl⟩]; rfl, by decide, by decide, 0, by rw [h2, zI_g, if_pos ⟨rfl, rfl⟩]; rfl, by decide, fun i hi => absurd hi (by simp), fun i j hi => absurd hi (by simp)⟩
  suffices H : ∀ (m at_ : Nat) (M3 : zM) (R : Tre), at_ + m = 20000 → at_ ≤ tx.length → FrC rtIn M M3 → RtI M3 2 R → LnI M3 R → RV R → (∀ T0, TOk T0 → smallT T0 → NFT T0 → tx = arc T0 → ∃ i, i ≤ T0.length ∧ R = T0.take i ∧ tx.drop at_ = arcL T0 (T0.drop i) ++ (txt 6 ++ [0])) → K16 (ii at_) M3 from
    H 20000 0 M2 [] rfl (by omega) f2 I2 (fun i hi => absurd hi (by simp)) ⟨by decide, List.Pairwise.nil, fun e he => by simp at he, by decide, fun e he => by simp at he, fun e he => by simp at he⟩ (fun T0 _ _ _ he => ⟨0, by omega, rfl, by
      rw [he]
      unfold arc
      simp only [List.append_assoc]
      rfl⟩)
  intro m
  induction m using Nat.strongRecOn with
  | ind m ih =>
    intro at_ M3 R hm hat f3 I3 L3 hV hg
    have T3 := keep f3
    have hE := hV.2.2.1
    have hK2 : ∀ e ∈ R, e.kind ≤ 2 := fun e he => (hE e he).2.2.2.1
    have hl40 := hV.1
    have hcR := hV.2.2.2.1
    have off : ∀ n : Nat, n ≤ 100 → ii (at_ : Int) + ii (n : Int) = ii ((at_ + n : Nat) : Int) := fun n _ => by rw [ii_add]; rfl
    -- the end
    have fin : (∀ T0, TOk T0 → smallT T0 → NFT T0 → tx = arc T0 → R = T0) → Wp_Mo_areLinks 413 M3 (fun x4 M3 => (narrow .boolean (.int x4) = .int x4 ∧ post x4 M3)) := by
      intro hend
      refine s_areLinks I3 hE (fun hL => ⟨rfl, kk M3 1 f3 (Or.inr ⟨rfl, ?_⟩) (fun T0 a1 a2 a3 a4 => ⟨rfl, ?_⟩)⟩) (fun hL => ⟨rfl, kk M3 0 f3 (Or.inl rfl) (fun T0 a1 a2 a3 a4 => ?_)⟩)
      · obtain ⟨y1, y2, y3⟩ := nrmK_ok hV hL
        exact ⟨nrmK R, y1, y2, y3 I3⟩
      · rw [← hend T0 a1 a2 a3 a4]
        exact I3
      · exact absurd (by rw [hend T0 a1 a2 a3 a4]; exact LkOk.of a1) hL
    have no : ∀ M', FrC rtIn M M' → (∀ T0, TOk T0 → smallT T0 → NFT T0 → tx = arc T0 → False) → post 0 M' := fun M' f hn => kk M' 0 f (Or.inl rfl) (fun T0 a1 a2 a3 a4 => (hn T0 a1 a2 a3 a4).elim)
    -- an entry that is right
    have here : ∀ T0, TOk T0 → smallT T0 → NFT T0 → tx = arc T0 → R = T0 ∧ (tx.drop at_).take (txt 6).length = txt 6 ∨ ∃ (i : Nat) (hi : i < T0.length), R = T0.take i ∧ tx.drop at_ = entA T0 T0[i] ++ (arcL T0 (T0.drop (i + 1)) ++ (txt 6 ++ [0])) := by
      intro T0 a1 a2 a3 a4
      obtain ⟨i, g1, g2, g3⟩ := hg T0 a1 a2 a3 a4
      rcases Nat.lt_or_ge i T0.length with c | c
      · refine Or.inr ⟨i, c, g2, ?_⟩
        rw [g3, List.drop_eq_getElem_cons c]
        show (entA T0 T0[i] ++ arcL T0 (T0.drop (i + 1))) ++ _ = _
        rw [List.append_assoc]
      · have : i = T0.length := by omega
        refine Or.inl ⟨by rw [g2, this, List.take_length], ?_⟩
        rw [g3, this, List.drop_eq_nil_of_le (Nat.le_refl _)]
        show ([] ++ (txt 6 ++ [0])).take (txt 6).length = txt 6
        rw [List.nil_append, List.take_left]
    refine h16 _ _ ?_
    rw [T3.1, six, elv, z2c, show (76 : Int32) = ii ((76 : Nat) : Int) from rfl, show (12 : Int32) = ii ((12 : Nat) : Int) from rfl, show (59 : Int32) = ii ((59 : Nat) : Int) from rfl, show (65 : Int32) = ii ((65 : Nat) : Int) from rfl, show (18 : Int32) = ii ((18 : Nat) : Int) from rfl, show (48 : Int32) = ii ((48 : Nat) : Int) from rfl, off 76 (by omega), off 12 (by omega), off 59 (by omega), off 65 (by omega), off 18 (by omega), off 48 (by omega), ii_lt (by omega) (by omega) (by omega) (by omega)]
    refine ⟨fun z => fin (fun T0 a1 a2 a3 a4 => ?_), fun z => ?_⟩
    · rcases here T0 a1 a2 a3 a4 with ⟨q, -⟩ | ⟨i, hi, q1, q2⟩
      · exact q
      · have := (ent_right hi a1 q2).2.2.2.1
        omega
    refine s_octalAt T3 (by omega) (by omega) (by omega) (fun vn hvn gn en => ?_)
    rw [lg_cmp_eq, show (0 : Int64) = ll 0 from rfl, ll_eq (by omega) (by omega) (by omega) (by omega)]
    refine ⟨fun z2 => fin (fun T0 a1 a2 a3 a4 => ?_), fun z2 => ?_⟩
    · rcases here T0 a1 a2 a3 a4 with ⟨q, -⟩ | ⟨i, hi, q1, q2⟩
      · exact q
      · obtain ⟨r1, r2, r3, r4, r5, r6⟩ := ent_right hi a1 q2
        obtain ⟨w1, -⟩ := hdr_at r3
        have hfi := fstL_le T0[i].fam T0 i hi rfl
        have := a1.1
        have := gn _ (by omega) w1
        omega
    -- an entry is there
    have entry : ∀ T0, TOk T0 → smallT T0 → NFT T0 → tx = arc T0 → ∃ (i : Nat) (hi : i < T0.length), R = T0.take i ∧ tx.drop at_ = entA T0 T0[i] ++ (arcL T0 (T0.drop (i + 1)) ++ (txt 6 ++ [0])) := by
      intro T0 a1 a2 a3 a4
      rcases here T0 a1 a2 a3 a4 with ⟨-, q⟩ | q
      · exfalso
        have e1 : (tx.drop (at_ + 12)).take 6 = ((txt 6).drop 12).take 6 := by
          rw [← q, show tx.drop (at_ + 12) = (tx.drop at_).drop 12 by rw [List.drop_drop], txl2.1, List.drop_take, List.take_take]
          rfl
        have e2 : ((txt 6).drop 12).take 6 = oct 0 6 := by decide +kernel
        have := gn 0 (by omega) (e1.trans e2)
        omega
      · exact q
    refine s_octalAt T3 (by omega) (by omega) (by omega) (fun vp hvp gp _ => ?_)
    rintro x rfl
    rw [ll_to32, show (1 : Int32) = ii 1 from rfl, ii_sub]
    refine s_octalAt T3 (by omega) (by omega) (by omega) (fun vb hvb gb _ => ?_)
    have sizes : ∀ T0, TOk T0 → smallT T0 → NFT T0 → tx = arc T0 → ∃ (i : Nat) (hi : i < T0.length), R = T0.take i ∧ tx.drop at_ = entA T0 T0[i] ++ (arcL T0 (T0.drop (i + 1)) ++ (txt 6 ++ [0])) ∧ vp = T0[i].path.length + 1 ∧ vb = T0[i].body.length ∧ EOk T0[i] ∧ T0[i].body.length ≤ 6000 ∧ at_ + 77 + T0[i].path.length + T0[i].body.length ≤ tx.length ∧ i < 40 := by
      intro T0 a1 a2 a3 a4
      obtain ⟨i, hi, q1, q2⟩ := entry T0 a1 a2 a3 a4
      obtain ⟨r1, r2, r3, r4, r5, r6⟩ := ent_right hi a1 q2
      obtain ⟨w1, w2, w3, w4, w5, w6, w7⟩ := hdr_at r3
      have h60 := r1.2.1
      exact ⟨i, hi, q1, q2, gp _ (by omega) w6, gb _ (by omega) w7, r1, r2, r4, by have := a1.1; omega⟩
    rw [show (60 : Int32) = ii 60 from rfl, ii_lt (by omega) (by omega) (by omega) (by omega), ii_lt (by omega) (by omega) (by omega) (by omega), lg_cmp_gt, show (6000 : Int64) = ll 6000 from rfl, ll_lt (by omega) (by omega) (by omega) (by omega), ii_add, ii_add]
    refine ⟨fun z3 => no M3 f3 (fun T0 a1 a2 a3 a4 => ?_), fun z3 => ⟨fun z4 => no M3 f3 (fun T0 a1 a2 a3 a4 => ?_), fun z4 => ⟨fun z5 => no M3 f3 (fun T0 a1 a2 a3 a4 => ?_), fun z5 => ?_⟩⟩⟩
    · obtain ⟨i, hi, q1, q2, q3, q4, q5, q6, q7, q8⟩ := sizes T0 a1 a2 a3 a4
      have := q5.1
      omega
    · obtain ⟨i, hi, q1, q2, q3, q4, q5, q6, q7, q8⟩ := sizes T0 a1 a2 a3 a4
      have := q5.2.1
      omega
    · obtain ⟨i, hi, q1, q2, q3, q4, q5, q6, q7, q8⟩ := sizes T0 a1 a2 a3 a4
      omega
    obtain ⟨n, hn⟩ : ∃ n : Nat, (vp : Int) - 1 = n := ⟨vp - 1, by omega⟩
    rw [hn, T3.1, ll_of_ii (by omega) (by omega), ll_of_ii (by omega) (by omega), ll_add, lg_cmp_gt, ll_lt (by omega) (by omega) (by omega) (by omega)]
    refine ⟨fun z6 => no M3 f3 (fun T0 a1 a2 a3 a4 => ?_), fun z6 => ⟨by unfold vp_in; rw [l8]; decide, ?_⟩⟩
    · obtain ⟨i, hi, q1, q2, q3, q4, q5, q6, q7, q8⟩ := sizes T0 a1 a2 a3 a4
      omega
    have hin : at_ + 77 + n + vb ≤ tx.length := by omega
    rw [I3.1, show (40 : Int32) = ii 40 from rfl, ii_eq (by omega) (by omega) (by omega) (by omega)]
    refine ⟨fun z7 => ?_, fun z7 => no M3 f3 (fun T0 a1 a2 a3 a4 => ?_)⟩
    rotate_left
    · obtain ⟨i, hi, q1, q2, q3, q4, q5, q6, q7, q8⟩ := sizes T0 a1 a2 a3 a4
      have : R.length = i := by rw [q1, List.length_take]; omega
      omega
    -- the path
    have hcp : (cut tx (at_ + 76) (at_ + 76 + n)).length = n := by rw [cut_len]; omega
    refine s_look' hcp (s_look (by rw [hcp]; omega) (fun i hi => ?_) (by decide) (by decide) (fun M4 o4 P4 => ?_))
    · rw [hcp] at hi
      rw [T3.2.2 (at_ + 76 + i) (by omega)]
      congr 1
      have e9 : (cut tx (at_ + 76) (at_ + 76 + n))[i]? = tx[at_ + 76 + i]? := by
        unfold cut
        rw [List.getElem?_drop, List.getElem?_take_of_lt (by omega)]
      rw [List.getElem?_eq_getElem (by rw [hcp]; exact hi), List.getElem?_eq_getElem (by omega)] at e9
      exact (Option.some.inj e9).symm
    rw [List.take_of_length_le (by omega)] at P4
    generalize hpp : cut tx (at_ + 76) (at_ + 76 + n) = p at *
    have f34 : FrC (fun k j => (k = 413 ∧ j = 24) ∨ k = 413 + 21) M3 M4 := o4.frC.mono (fun k j q => by
      have : (k = 413 ∧ j = 24) ∨ (k = 413 + 21 ∧ k ≠ 413) := by simpa using q
      omega)
    have f4 : FrC rtIn M M4 := f3.trans (f34.mono (fun k j q => Or.inr q))
    have I4 : RtI M4 2 R := I3.frC f34 (fun k j q => by unfold tIn; omega)
    have L4 : LnI M4 R := fun i hi => by
      rw [f34.1 _ _ (by omega)]
      exact L3 i hi
    have T4 := keep f4
    refine s_octalAt T4 (by omega) (by omega) (by omega) (fun vk hvk gk _ => ?_)
    rintro x rfl
    rw [ll_to32]
    refine s_octalAt T4 (by omega) (by omega) (by omega) (fun vt hvt gt' _ => ?_)
    have ek : ii (vk : Int) >>> (ii ((12 : Nat) : Int) &&& 31) = ii ((vk / 4096 : Nat) : Int) := by
      rw [show (ii ((12 : Nat) : Int) &&& 31 : Int32) = ii ((12 : Nat) : Int) from rfl, ii_shr (by omega) (by omega) (by omega)]
      congr 1
    rw [ek]
    -- all of the entry, if it is right
    have whole : ∀ T0, TOk T0 → smallT T0 → NFT T0 → tx = arc T0 → ∃ (i : Nat) (hi : i < T0.length), R = T0.take i ∧ tx.drop at_ = entA T0 T0[i] ++ (arcL T0 (T0.drop (i + 1)) ++ (txt 6 ++ [0])) ∧ n = T0[i].path.length ∧ vb = T0[i].body.length ∧ EOk T0[i] ∧ p = T0[i].path ∧ cut tx (at_ + 77 + n) (at_ + 77 + n + vb) = T0[i].body ∧ vk = kd4 T0[i].kind * 4096 + T0[i].mode ∧ vt = T0[i].tim := by
      intro T0 a1 a2 a3 a4
      obtain ⟨i, hi, q1, q2, q3, q4, q5, q6, q7, q8⟩ := sizes T0 a1 a2 a3 a4
      obtain ⟨r1, r2, r3, r4, r5, r6⟩ := ent_right hi a1 q2
      obtain ⟨w1, w2, w3, w4, w5, w6, w7⟩ := hdr_at r3
      have hnn : n = T0[i].path.length := by omega
      have hk4 : kd4 T0[i].kind ≤ 10 := by unfold kd4; split; omega; split <;> omega
      have hmo := q5.2.2.2.2.1
      have htm := q5.2.2.2.2.2.2.2.1
      refine ⟨i, hi, q1, q2, hnn, q4, q5, by rw [← hpp, hnn]; exact r5, by rw [hnn, q4]; exact r6, gk _ (by omega) w2, gt' _ (by omega) w5⟩
    -- the kind
    suffices HK : ∀ kd : Nat, kd ≤ 2 → (∀ T0, TOk T0 → smallT T0 → NFT T0 → tx = arc T0 → ∀ (i : Nat) (hi : i < T0.length), vk = kd4 T0[i].kind * 4096 + T0[i].mode → T0[i].mode ≤ 4095 → T0[i].kind ≤ 2 → kd = T0[i].kind) → K185 (ii at_) (ii n) (ll vb) (ii vk) (ll vt) (ii kd) M4 by
      have kk4 : ∀ j : Nat, j ≤ 2 → kd4 j = (if j = 0 then 4 else if j = 1 then 8 else 10) := fun j _ => rfl
      rw [show (4 : Int32) = ii 4 from rfl, show (8 : Int32) = ii 8 from rfl, ii_eq (by omega) (by omega) (by omega) (by omega), ii_eq (by omega) (by omega) (by omega) (by omega)]
      refine ⟨fun y => ⟨fun y2 => HK 2 (by omega) (fun T0 _ _ _ _ i hi e1 e2 e3 => ?_), fun y2 => HK 1 (by omega) (fun T0 _ _ _ _ i hi e1 e2 e3 => ?_)⟩, fun y => HK 0 (by omega) (fun T0 _ _ _ _ i hi e1 e2 e3 => ?_)⟩
      all_goals
        rw [kk4 _ e3] at e1
        by_cases c0 : T0[i].kind = 0
        · rw [if_pos c0] at e1
          omega
        · rw [if_neg c0] at e1
          by_cases c1 : T0[i].kind = 1
          · rw [if_pos c1] at e1
            omega
          · rw [if_neg c1] at e1
            omega
    intro kd hkd hkdg
    -- the checks
    have checks : ∀ w : Int32, ((w = 0 ∧ ¬ (∀ e ∈ R, cmpB e.path p < 0)) ∨ (w = 1 ∧ ∀ e ∈ R, cmpB e.path p < 0)) → K221 (ii at_) (ii n) (ll vb) (ii vk) (ll vt) (ii kd) w M4 := by
      intro w hw
      have no4 := no M4 f4
      refine h221 _ _ _ _ _ _ _ _ ?_
      refine s_Mo_isPath P4 ?_
      by_cases hp : pathOk [] p = true
      rotate_left
      · rw [if_neg hp]
        refine ⟨fun _ => no4 (fun T0 a1 a2 a3 a4 => ?_), fun y => absurd rfl y⟩
        obtain ⟨i, hi, q1, q2, q3, q4, q5, q6, q7, q8, q9⟩ := whole T0 a1 a2 a3 a4
        exact hp (by rw [q6]; exact q5.2.2.1)
      rw [if_pos hp]
      refine ⟨fun y => absurd y (by decide), fun _ => ?_⟩
      show Wp_Mo_hasParent 413 (ii ((2 : Nat) : Int)) M4 _
      refine s_Mo_hasParent (by omega) P4 I4 hV.2.1 hK2 (fun hpa => ⟨fun y => absurd y (by decide), fun _ => ?_⟩) (fun hpa => ⟨fun _ => no4 (fun T0 a1 a2 a3 a4 => ?_), fun y => absurd rfl y⟩)
      rotate_left
      · obtain ⟨i, hi, q1, q2, q3, q4, q5, q6, q7, q8, q9⟩ := whole T0 a1 a2 a3 a4
        exact hpa (by rw [q6, q1]; exact parent_take a1 hi)
      refine ⟨fun y => no4 (fun T0 a1 a2 a3 a4 => ?_), fun y => ?_⟩
      · obtain ⟨i, hi, q1, q2, q3, q4, q5, q6, q7, q8, q9⟩ := whole T0 a1 a2 a3 a4
        rcases hw with hw | hw
        · apply hw.2
          intro e he
          rw [q1] at he
          obtain ⟨j, hj, hji, ej⟩ := take_mem he
          rw [← ej, q6]
          exact List.pairwise_iff_getElem.mp a1.2.1 j i hj hi hji
        · rw [hw.1] at y
          exact absurd y (by decide)
      have hlt : ∀ e ∈ R, cmpB e.path p < 0 := by
        rcases hw with hw | hw
        · exact absurd hw.1 y
        · exact hw.2
      rw [lg_cmp_le, show (2147483647 : Int64) = ll 2147483647 from rfl, ll_le (by omega) (by omega) (by omega) (by omega), lg_cmp_gt, show (0 : Int64) = ll 0 from rfl, ll_lt (by omega) (by omega) (by omega) (by omega), show (0 : Int32) = ii 0 from rfl, ii_eq (by omega) (by omega) (by omega) (by omega)]
      -- the entry is taken
      have take : vt ≤ 2147483647 → (kd = 0 → vb = 0) → (kd = 2 → 1 ≤ vb ∧ vb ≤ 60 ∧ (0 : UInt8) ∉ cut tx (at_ + 77 + n) (at_ + 77 + n + vb)) → (kd = 1 → conts R + vb ≤ 6000) → K314 (ii at_) (ii n) (ll vb) (ii vk) (ll vt) (ii kd) M4 := by
        intro t1 t2 t3 t4
        refine h314 _ _ _ _ _ _ _ ?_
        rw [ll_to32, ll_to32]
        have hcb : (cut tx (at_ + 77 + n) (at_ + 77 + n + vb)).length = vb := by rw [cut_len]; omega
        refine s_Mo_take (body := cut tx (at_ + 77 + n) (at_ + 77 + n + vb)) I4 L4 hV.2.1 P4 T4 htl (fun e he q => by have := hlt e he; rw [q, (cmpB_zero _ _).mpr rfl] at this; omega) (plc_all hlt) (by omega) hin rfl hkd (by omega) t1 (by rcases Nat.lt_or_ge kd 1 with c | c; right; have := t2 (by omega); omega; rcases Nat.lt_or_ge kd 2 with c' | c'; left; omega; right; have := t3 (by omega); omega) (by
          by_cases c : kd = 1
          · rw [if_pos c]; exact t4 c
          · rw [if_neg c]; omega) (fun post' M1 hc1 hk1 => s_octalAt hc1 (by omega) (by omega) (by omega) (fun v hv gv ev => hk1 v (by rw [ev, ← en]; omega) (by omega) (fun w h1 h2 => gv w (by omega) h2))) (fun M5 o g num ho hgr hn1 hn2 go gg gnn f5 I5 L5 => ?_)
        rintro x rfl
        have ex : ii (at_ : Int) + 76 + ii (n : Int) + 1 + ii (vb : Int) = ii ((at_ + 77 + n + vb : Nat) : Int) := by
          rw [show (76 : Int32) = ii 76 from rfl, show (1 : Int32) = ii 1 from rfl, ii_add, ii_add, ii_add, ii_add]
          congr 1
          omega
        rw [ex]
        generalize hx : newR p kd (vk % 4096) o g vt (cut tx (at_ + 77 + n) (at_ + 77 + n + vb)) num = x at I5 L5
        have xp : x.path = p := by rw [← hx]; rfl
        have xk : x.kind = kd := by rw [← hx]; rfl
        have xb : x.body = cut tx (at_ + 77 + n) (at_ + 77 + n + vb) := by rw [← hx]; rfl
        have xE : EOk x := by
          refine ⟨by rw [xp]; exact pathOk_ne hp, by rw [xp]; have := P4.2.1; omega, by rw [xp]; exact hp, by rw [xk]; exact hkd, ?_, ?_, ?_, ?_, fun c => ?_, fun c => ?_⟩
          · rw [← hx]; show vk % 4096 ≤ 4095; omega
          · rw [← hx]; show o ≤ 2147483647; omega
          · rw [← hx]; show g ≤ 2147483647; omega
          · rw [← hx]; exact t1
          · rw [xk] at c
            rw [xb]
            exact List.eq_nil_of_length_eq_zero (by rw [hcb]; exact t2 c)
          · rw [xk] at c
            rw [xb, hcb]
            exact t3 c
        refine ih (20000 - (at_ + 77 + n + vb)) (by omega) _ M5 (R ++ [x]) (by omega) hin (f4.trans (f5.mono (fun k j q => Or.inl q))) I5 L5 ⟨by rw [List.length_append, List.length_cons, List.length_nil]; omega, srt_snoc hV.2.1 (fun e he => by rw [xp]; exact hlt e he), fun e he => ?_, ?_, fun e he => ?_, fun e he => ?_⟩ (fun T0 a1 a2 a3 a4 => ?_)
        · rcases List.mem_append.mp he with q | q
          · exact hE e q
          · rw [List.mem_singleton.mp q]; exact xE
        · rw [conts_app]
          show conts R + ((if x.kind = 1 then x.body.length else 0) + 0) ≤ 6000
          rw [xk, xb, hcb]
          by_cases c : kd = 1
          · rw [if_pos c]; have := t4 c; omega
          · rw [if_neg c]; omega
        · rcases List.mem_append.mp he with q | q
          · exact (hV.2.2.2.2.1 e q).mono (fun y hy => List.mem_append_left _ hy)
          · rw [List.mem_singleton.mp q, xp]
            exact hpa.mono (fun y hy => List.mem_append_left _ hy)
        · rcases List.mem_append.mp he with q | q
          · exact hV.2.2.2.2.2 e q
          · rw [List.mem_singleton.mp q, ← hx]
            show o ≤ 262143 ∧ g ≤ 262143
            omega
        · obtain ⟨i, hi, q1, q2, q3, q4, q5, q6, q7, q8, q9⟩ := whole T0 a1 a2 a3 a4
          obtain ⟨r1, r2, r3, r4, r5, r6⟩ := ent_right hi a1 q2
          obtain ⟨w1, w2, w3, w4, w5, w6, w7⟩ := hdr_at r3
          have hsm := a2 _ (List.getElem_mem hi)
          have hfi := fstL_le T0[i].fam T0 i hi rfl
          have h40 := a1.1
          have e1 := go _ (by omega) w3
          have e2 := gg _ (by omega) w4
          have e3 := gnn _ (by omega) w1
          have hk := hkdg T0 a1 a2 a3 a4 i hi q8 q5.2.2.2.2.1 q5.2.2.2.1
          have hmo := q5.2.2.2.2.1
          refine ⟨i + 1, by omega, ?_, ?_⟩
          · rw [← List.take_append_getElem hi, ← q1]
            congr 2
            have hnf := a3 i hi
            rw [← hx]
            unfold newR
            have m1 : kd = T0[i].2.1.1 := hk
            have m2 : vk % 4096 = T0[i].2.1.2.1 := by show vk % 4096 = T0[i].mode; omega
            have m3 : o = T0[i].2.1.2.2.1 := e1
            have m4 : g = T0[i].2.1.2.2.2.1 := e2
            have m5 : vt = T0[i].2.1.2.2.2.2 := q9
            have m6 : num - 1 = T0[i].2.2.2 := by show num - 1 = T0[i].fam; omega
            rw [m1, m2, m3, m4, m5, m6, q6, q7]
            rfl
          · rw [show at_ + 77 + n + vb = at_ + (entA T0 T0[i]).length by rw [entA_len]; omega, ← List.drop_drop, q2, List.drop_left]
      have h291' : vt ≤ 2147483647 → (kd = 0 → vb = 0) → (kd = 2 → 1 ≤ vb ∧ vb ≤ 60 ∧ (0 : UInt8) ∉ cut tx (at_ + 77 + n) (at_ + 77 + n + vb)) → K291 (ii at_) (ii n) (ll vb) (ii vk) (ll vt) (ii kd) M4 := by
        intro t1 t2 t3
        refine h291 _ _ _ _ _ _ _ ?_
        rw [show (1 : Int32) = ii 1 from rfl, ii_eq (by omega) (by omega) (by omega) (by omega)]
        refine ⟨fun c => take t1 t2 t3 (fun q => by omega), fun c => ?_⟩
        show Wp_Mo_bytesOf 413 (ii ((2 : Nat) : Int)) M4 _
        refine s_bytesOf (by omega) I4 hK2 ?_
        rw [ll_of_ii (by omega) (by omega), ll_add, lg_cmp_le, show (6000 : Int64) = ll 6000 from rfl, ll_le (by omega) (by omega) (by omega) (by omega)]
        refine ⟨fun c2 => take t1 t2 t3 (fun _ => by omega), fun c2 => no4 (fun T0 a1 a2 a3 a4 => ?_)⟩
        obtain ⟨i, hi, q1, q2, q3, q4, q5, q6, q7, q8, q9⟩ := whole T0 a1 a2 a3 a4
        have hk := hkdg T0 a1 a2 a3 a4 i hi q8 q5.2.2.2.2.1 q5.2.2.2.1
        have := conts_take hi
        rw [if_pos (by omega), ← q1] at this
        have := a1.2.2.2.1
        omega
      have h265' : vt ≤ 2147483647 → (kd = 0 → vb = 0) → K265 (ii at_) (ii n) (ll vb) (ii vk) (ll vt) (ii kd) M4 := by
        intro t1 t2
        refine h265 _ _ _ _ _ _ _ ?_
        rw [show (2 : Int32) = ii 2 from rfl, ii_eq (by omega) (by omega) (by omega) (by omega), ll_to32]
        refine ⟨fun c => h291' t1 t2 (fun q => by omega), fun c => ?_⟩
        have ex : ii (at_ : Int) + 76 + ii (n : Int) + 1 = ii ((at_ + 77 + n : Nat) : Int) := by
          rw [show (76 : Int32) = ii 76 from rfl, show (1 : Int32) = ii 1 from rfl, ii_add, ii_add, ii_add]
          congr 1
          omega
        have hcb : (cut tx (at_ + 77 + n) (at_ + 77 + n + vb)).length = vb := by rw [cut_len]; omega
        have hbytes : ∀ (i : Nat) (h : i < (cut tx (at_ + 77 + n) (at_ + 77 + n + vb)).length), M4.1 (413 + 32) (at_ + 77 + n + i) = sb (cut tx (at_ + 77 + n) (at_ + 77 + n + vb))[i] := by
          intro i hi
          have hi2 : i < vb := by omega
          rw [T4.2.2 (at_ + 77 + n + i) (by omega)]
          congr 1
          have e9 : (cut tx (at_ + 77 + n) (at_ + 77 + n + vb))[i]? = tx[at_ + 77 + n + i]? := by
            unfold cut
            rw [List.getElem?_drop, List.getElem?_take_of_lt (by omega)]
          rw [List.getElem?_eq_getElem hi, List.getElem?_eq_getElem (by omega)] at e9
          exact (Option.some.inj e9).symm
        rw [ex]
        have hgoal : Wp_Mo_isTarget (413 + 32) (ii ((at_ + 77 + n : Nat) : Int)) (ii ((cut tx (at_ + 77 + n) (at_ + 77 + n + vb)).length : Int)) M4 (fun x29 M28 => ((x29 = 0 → (post 0 M28)) ∧ (¬ x29 = 0 → (K291 (ii at_) (ii n) (ll vb) (ii vk) (ll vt) (ii kd) M28)))) := by
          refine s_Mo_isTarget (by rw [hcb]; omega) hbytes (fun ht => ⟨fun y => absurd y (by decide), fun _ => h291' t1 t2 (fun _ => by rw [hcb] at ht; exact ht)⟩) (fun ht => ⟨fun _ => no4 (fun T0 a1 a2 a3 a4 => ?_), fun y => absurd rfl y⟩)
          obtain ⟨i, hi, q1, q2, q3, q4, q5, q6, q7, q8, q9⟩ := whole T0 a1 a2 a3 a4
          have hk := hkdg T0 a1 a2 a3 a4 i hi q8 q5.2.2.2.2.1 q5.2.2.2.1
          apply ht
          rw [q7]
          exact q5.2.2.2.2.2.2.2.2.2 (by omega)
        rw [hcb] at hgoal
        exact hgoal
      refine ⟨fun c => ⟨fun c0 => h265' (by omega) (fun q => by omega), fun c0 => ⟨fun c2 => no4 (fun T0 a1 a2 a3 a4 => ?_), fun c2 => h265' (by omega) (fun _ => by omega)⟩⟩, fun c => no4 (fun T0 a1 a2 a3 a4 => ?_)⟩
      · obtain ⟨i, hi, q1, q2, q3, q4, q5, q6, q7, q8, q9⟩ := whole T0 a1 a2 a3 a4
        have hk := hkdg T0 a1 a2 a3 a4 i hi q8 q5.2.2.2.2.1 q5.2.2.2.1
        have := q5.2.2.2.2.2.2.2.2.1 (by omega)
        rw [this] at q4
        simp only [List.length_nil] at q4
        omega
      · obtain ⟨i, hi, q1, q2, q3, q4, q5, q6, q7, q8, q9⟩ := whole T0 a1 a2 a3 a4
        have := q5.2.2.2.2.2.2.2.1
        omega
    refine h185 _ _ _ _ _ _ _ ⟨by unfold vp_in; rw [l8]; decide, ?_⟩
    rw [z2c, I4.1, show (0 : Int32) = ii 0 from rfl, ii_eq (by omega) (by omega) (by omega) (by omega)]
    refine ⟨fun c => checks 1 (Or.inr ⟨rfl, fun e he => ?_⟩), fun c => ⟨by unfold vp_in; rw [l8]; decide, ?_⟩⟩
    · rw [List.eq_nil_of_length_eq_zero (show R.length = 0 by omega)] at he
      simp at he
    · unfold Wp_Mo_at
      have es : (41 : Int32) * 2 + (ii (R.length : Int) - 1) = ii ((41 * 2 + (R.length - 1) : Nat) : Int) := by
        rw [show (1 : Int32) = ii 1 from rfl, ii_sub, show ((R.length : Int) - 1) = ((R.length - 1 : Nat) : Int) by omega]
        exact ei_at 2 _
      rw [es]
      have hnp : n = p.length := hcp.symm
      refine s_cmpE (u := 2) (by omega) P4 I4 (show R.length - 1 < R.length by omega) (show n ≤ p.length by omega) ?_
      have hc := cmpB_rng (R[R.length - 1]'(by omega)).path (p.take n)
      have hpl : (R[R.length - 1]'(by omega)).path.length ≤ 60 := (hE _ (List.getElem_mem _)).2.1
      rw [List.length_take] at hc
      have etk : p.take n = p := List.take_of_length_le (by omega)
      rw [etk] at hc ⊢
      rw [ii_le (by omega) (by omega) (by omega) (by omega)]
      refine ⟨fun y => checks 0 (Or.inl ⟨rfl, fun hq => ?_⟩), fun y => checks 1 (Or.inr ⟨rfl, last_lt hV.2.1 (fun _ => by omega)⟩)⟩
      have := hq _ (List.getElem_mem (show R.length - 1 < R.length by omega))
      omega
