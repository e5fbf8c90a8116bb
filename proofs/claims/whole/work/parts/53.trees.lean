/-! Trees, as mathematics; paths, as MailChain reads them. -/
abbrev En : Type := List UInt8 × (Nat × Nat × Nat × Nat × Nat) × List UInt8 × Nat
def En.path (e : En) : List UInt8 := e.1
def En.kind (e : En) : Nat := e.2.1.1
def En.mode (e : En) : Nat := e.2.1.2.1
def En.own (e : En) : Nat := e.2.1.2.2.1
def En.grp (e : En) : Nat := e.2.1.2.2.2.1
def En.tim (e : En) : Nat := e.2.1.2.2.2.2
def En.body (e : En) : List UInt8 := e.2.2.1
def En.fam (e : En) : Nat := e.2.2.2
abbrev Tre : Type := List En
def nameOk (s : List UInt8) : Bool := decide (s ≠ [] ∧ s ≠ [46] ∧ s ≠ [46, 46])
def pathOk : List UInt8 → List UInt8 → Bool
  | cur, [] => nameOk cur
  | cur, b :: t => if b = 0 then false else if b = 47 then nameOk cur && pathOk [] t else pathOk (cur ++ [b]) t
def lsl : Nat → Int → List UInt8 → Int
  | _, acc, [] => acc
  | i, acc, b :: t => lsl (i + 1) (if b = 47 then (i : Int) else acc) t
theorem lsl_rng : ∀ (l : List UInt8) (i : Nat) (acc : Int), -1 ≤ acc → acc < i → -1 ≤ lsl i acc l ∧ lsl i acc l < i + l.length ∨ l = []
  | [], i, acc, h1, h2 => Or.inr rfl
  | b :: t, i, acc, h1, h2 => by
    refine Or.inl ?_
    show -1 ≤ lsl (i + 1) (if b = 47 then (i : Int) else acc) t ∧ lsl (i + 1) (if b = 47 then (i : Int) else acc) t < i + ((b :: t).length : Int)
    have h : -1 ≤ (if b = 47 then (i : Int) else acc) ∧ (if b = 47 then (i : Int) else acc) < ((i + 1 : Nat) : Int) := by
      split <;> omega
    rw [List.length_cons]
    rcases lsl_rng t (i + 1) _ h.1 h.2 with q | q
    · omega
    · rw [q]
      show -1 ≤ (if b = 47 then (i : Int) else acc) ∧ (if b = 47 then (i : Int) else acc) < _
      simp only [List.length_nil]
      omega
def parS (p : List UInt8) : Int := lsl 0 (-1) p
theorem parS_rng (p : List UInt8) : -1 ≤ parS p ∧ parS p ≤ p.length := by
  unfold parS
  rcases lsl_rng p 0 (-1) (by omega) (by omega) with q | q
  · omega
  · rw [q]
    decide
def parentOk (T : Tre) (p : List UInt8) : Prop := parS p = -1 ∨ ∃ e ∈ T, e.path = p.take (parS p).toNat ∧ e.kind = 0
section NAMES
variable {M : zM} {e : Nat} {p : List UInt8}
theorem gt46 (b : UInt8) (n : UInt8) : ii (b.toNat : Int) = ii (n.toNat : Int) ↔ b = n := by
  have := UInt8.toNat_lt b
  have := UInt8.toNat_lt n
  rw [ii_eq (by omega) (by omega) (by omega) (by omega)]
  constructor
  · intro h
    exact UInt8.toNat_inj.mp (by omega)
  · intro h
    rw [h]
theorem getD_in {bs : List UInt8} {i : Nat} (h : i < bs.length) : bs.getD i 0 = bs[i] := by simp [h]
theorem s_isName {s n : Nat} {post : Int32 → zM → Prop} (h : Rw M (e + 1) p) (h1 : s ≤ n) (h2 : n ≤ p.length) (k : post (if nameOk (cut p s n) = true then 1 else 0) M) : Wp_En_isName e (ii s) (ii n) M post := by
  have hl := h.len
  unfold Wp_En_isName
  rintro x rfl
  rw [ii_sub, show (1 : Int32) = ii 1 from rfl, show (2 : Int32) = ii 2 from rfl, ii_eq (by omega) (by omega) (by omega) (by omega), ii_eq (by omega) (by omega) (by omega) (by omega), ii_le (by omega) (by omega) (by omega) (by omega), ii_add]
  refine ⟨fun q1 => ⟨fun q2 => ⟨fun q3 => ?_, fun q3 => ?_⟩, fun q2 => ?_⟩, fun q1 => ?_⟩
  · have e0 : cut p s n = [] := cut_nil p (by omega)
    rw [e0, if_neg (by decide)] at k
    exact k
  · have hc : (cut p s n).length = n - s := by rw [cut_len]; omega
    have : nameOk (cut p s n) = true := by
      unfold nameOk
      rw [decide_eq_true_iff]
      refine ⟨fun z => ?_, fun z => ?_, fun z => ?_⟩
      · rw [z] at hc; simp only [List.length_nil] at hc; omega
      · rw [z] at hc; simp only [List.length_cons, List.length_nil] at hc; omega
      · rw [z] at hc; simp only [List.length_cons, List.length_nil] at hc; omega
    rw [if_pos this] at k
    exact k
  · have ec : cut p s n = [p[s]'(by omega), p[s + 1]'(by omega)] := by
      rw [cut_cons (by omega) h2, cut_cons (by omega) h2, cut_nil p (by omega), getD_in (by omega), getD_in (by omega)]
    refine s_at h (by omega) (by omega) ?_
    rw [gt_in (show s < p.length by omega), show (46 : Int32) = ii (((46 : UInt8).toNat : Nat) : Int) from rfl, gt46]
    refine ⟨fun z => ?_, fun z => s_at h (by omega) (by omega) ?_⟩
    · have : nameOk (cut p s n) = true := by
        rw [ec]
        unfold nameOk
        rw [decide_eq_true_iff]
        exact ⟨by simp, by simp, fun y => z (List.cons.inj y).1⟩
      rw [if_pos this] at k
      exact k
    · rw [show ((s : Int) + 1) = ((s + 1 : Nat) : Int) by omega, gt_in (show s + 1 < p.length by omega), gt46]
      refine ⟨fun z2 => ?_, fun z2 => ?_⟩
      · have : ¬ nameOk (cut p s n) = true := by
          rw [ec, z, z2]
          decide
        rw [if_neg this] at k
        exact k
      · have : nameOk (cut p s n) = true := by
          rw [ec]
          unfold nameOk
          rw [decide_eq_true_iff]
          exact ⟨by simp, by simp, fun y => z2 (List.cons.inj (List.cons.inj y).2).1⟩
        rw [if_pos this] at k
        exact k
  · have ec : cut p s n = [p[s]'(by omega)] := by
      rw [cut_cons (by omega) h2, cut_nil p (by omega), getD_in (by omega)]
    refine s_at h (by omega) (by omega) ?_
    rw [gt_in (show s < p.length by omega), show (46 : Int32) = ii (((46 : UInt8).toNat : Nat) : Int) from rfl, gt46]
    refine ⟨fun z => ?_, fun z => ?_⟩
    · have : ¬ nameOk (cut p s n) = true := by
        rw [ec, z]
        decide
      rw [if_neg this] at k
      exact k
    · have : nameOk (cut p s n) = true := by
        rw [ec]
        unfold nameOk
        rw [decide_eq_true_iff]
        exact ⟨by simp, fun y => z (List.cons.inj y).1, by simp⟩
      rw [if_pos this] at k
      exact k
theorem cut_snoc {p : List UInt8} {s i : Nat} (h1 : s ≤ i) (h2 : i < p.length) : cut p s (i + 1) = cut p s i ++ [p[i]] := by
  unfold cut
  rw [← List.take_append_getElem h2, List.drop_append_of_le_length (by rw [List.length_take]; omega)]
theorem s_hasSoundPath {post : Int32 → zM → Prop} (h : Rw M (e + 1) p) (k : post (if pathOk [] p = true then 1 else 0) M) : Wp_En_hasSoundPath e M post := by
  have hl := h.len
  unfold Wp_En_hasSoundPath
  intro K4 K45 h4 h45
  suffices H : ∀ (m s i : Nat), i + m = p.length → s ≤ i → pathOk (cut p s i) (p.drop i) = pathOk [] p → K4 (ii s) (ii i) M from H _ 0 0 (Nat.zero_add _) (by omega) (by rw [cut_nil p (by omega)]; rfl)
  intro m
  induction m with
  | zero =>
    intro s i hi hs hp
    refine h4 _ _ _ ⟨fun _ => ?_, fun q => absurd (by rw [h.1, ii_le (by omega) (by omega) (by omega) (by omega)]; omega) q⟩
    rw [h.1]
    refine s_isName h (by omega) (by omega) ?_
    rw [List.drop_eq_nil_of_le (by omega), show i = p.length by omega] at hp
    have hp' : nameOk (cut p s p.length) = pathOk [] p := hp
    rw [hp']
    refine ⟨?_, k⟩
    by_cases c : pathOk [] p = true
    · rw [if_pos c]; rfl
    · rw [if_neg c]; rfl
  | succ m ih =>
    intro s i hi hs hp
    have hin : i < p.length := by omega
    rw [List.drop_eq_getElem_cons hin] at hp
    refine h4 _ _ _ ⟨fun q => ?_, fun _ => s_at h (by omega) (by omega) ?_⟩
    · rw [h.1, ii_le (by omega) (by omega) (by omega) (by omega)] at q
      omega
    · rw [gt_in hin, show (0 : Int32) = ii (((0 : UInt8).toNat : Nat) : Int) from rfl, show (47 : Int32) = ii (((47 : UInt8).toNat : Nat) : Int) from rfl, gt46, gt46]
      have hp' : (if p[i] = 0 then false else if p[i] = 47 then nameOk (cut p s i) && pathOk [] (p.drop (i + 1)) else pathOk (cut p s i ++ [p[i]]) (p.drop (i + 1))) = pathOk [] p := hp
      refine ⟨fun z => ?_, fun z => ?_⟩
      · rw [if_pos z] at hp'
        rw [← hp', if_neg (by decide)] at k
        exact k
      · rw [if_neg z] at hp'
        refine ⟨fun z2 => ?_, fun z2 => s_isName h hs (by omega) ?_⟩
        · rw [if_neg z2] at hp'
          refine h45 _ _ _ _ ⟨fun _ => ?_, fun q => absurd ((gt46 _ _).mp q) z2⟩
          rintro x rfl
          rw [show (1 : Int32) = ii 1 from rfl, ii_add]
          exact ih s (i + 1) (by omega) (by omega) (by rw [cut_snoc hs hin]; exact hp')
        · rw [if_pos z2] at hp'
          by_cases c : nameOk (cut p s i) = true
          · rw [if_pos c]
            refine ⟨fun _ => h45 _ _ _ _ ⟨fun q => absurd ((gt46 _ _).mpr z2) q, fun _ => ?_⟩, fun q => absurd q (by decide)⟩
            rintro x rfl y rfl
            rw [show (1 : Int32) = ii 1 from rfl, ii_add]
            refine ih (i + 1) (i + 1) (by omega) (by omega) ?_
            rw [cut_nil p (by omega)]
            rw [c, Bool.true_and] at hp'
            exact hp'
          · rw [if_neg c]
            refine ⟨fun q => absurd rfl q, fun _ => ?_⟩
            rw [Bool.eq_false_iff.mpr c, Bool.false_and] at hp'
            rw [← hp', if_neg (by decide)] at k
            exact k
theorem s_parentSize {post : Int32 → zM → Prop} (h : Rw M (e + 1) p) (k : post (ii (parS p)) M) : Wp_En_parentSize e M post := by
  have hl := h.len
  unfold Wp_En_parentSize
  intro K4 h4
  suffices H : ∀ (m i : Nat) (acc : Int), i + m = p.length → lsl i acc (p.drop i) = parS p → K4 (ii acc) (ii i) M from H _ 0 (-1) (Nat.zero_add _) rfl
  intro m
  induction m with
  | zero =>
    intro i acc hi hp
    refine h4 _ _ _ ⟨fun _ => ?_, fun q => absurd (by rw [h.1, ii_le (by omega) (by omega) (by omega) (by omega)]; omega) q⟩
    rw [List.drop_eq_nil_of_le (by omega)] at hp
    have hp' : acc = parS p := hp
    rw [hp']
    exact k
  | succ m ih =>
    intro i acc hi hp
    have hin : i < p.length := by omega
    rw [List.drop_eq_getElem_cons hin] at hp
    have hp' : lsl (i + 1) (if p[i] = 47 then (i : Int) else acc) (p.drop (i + 1)) = parS p := hp
    refine h4 _ _ _ ⟨fun q => ?_, fun _ => s_at h (by omega) (by omega) ?_⟩
    · rw [h.1, ii_le (by omega) (by omega) (by omega) (by omega)] at q
      omega
    · rw [gt_in hin, show (47 : Int32) = ii (((47 : UInt8).toNat : Nat) : Int) from rfl, gt46]
      refine ⟨fun z => ?_, fun z => ?_⟩
      · rintro x rfl
        rw [show (1 : Int32) = ii 1 from rfl, ii_add]
        rw [if_neg z] at hp'
        exact ih (i + 1) acc (by omega) hp'
      · rintro x rfl
        rw [show (1 : Int32) = ii 1 from rfl, ii_add]
        rw [if_pos z] at hp'
        exact ih (i + 1) i (by omega) hp'
end NAMES
/-! Trees in order. -/
def Srt (T : Tre) : Prop := List.Pairwise (fun a b : En => cmpB a.path b.path < 0) T
def plc (key : List UInt8) : Tre → Nat
  | [] => 0
  | e :: t => if cmpB e.path key < 0 then plc key t + 1 else 0
def ins (x : En) : Tre → Tre
  | [] => [x]
  | e :: t => if cmpB e.path x.path < 0 then e :: ins x t else x :: e :: t
theorem plc_le (key : List UInt8) : ∀ T : Tre, plc key T ≤ T.length
  | [] => by simp [plc]
  | e :: t => by
    show (if cmpB e.path key < 0 then plc key t + 1 else 0) ≤ _
    have := plc_le key t
    split
    · rw [List.length_cons]; omega
    · omega
theorem ins_eq (x : En) : ∀ T : Tre, ins x T = T.take (plc x.path T) ++ x :: T.drop (plc x.path T)
  | [] => rfl
  | e :: t => by
    show (if cmpB e.path x.path < 0 then e :: ins x t else x :: e :: t) = (e :: t).take (if cmpB e.path x.path < 0 then plc x.path t + 1 else 0) ++ x :: (e :: t).drop (if cmpB e.path x.path < 0 then plc x.path t + 1 else 0)
    by_cases c : cmpB e.path x.path < 0
    · rw [if_pos c, if_pos c, ins_eq x t]
      rfl
    · rw [if_neg c, if_neg c]
      rfl
theorem ins_mem (x y : En) (T : Tre) : y ∈ ins x T ↔ y = x ∨ y ∈ T := by
  rw [ins_eq, List.mem_append, List.mem_cons]
  have h : y ∈ T ↔ y ∈ T.take (plc x.path T) ∨ y ∈ T.drop (plc x.path T) := by
    rw [← List.mem_append, List.take_append_drop]
  rw [h]
  constructor
  · rintro (q | q | q)
    · exact Or.inr (Or.inl q)
    · exact Or.inl q
    · exact Or.inr (Or.inr q)
  · rintro (q | q | q)
    · exact Or.inr (Or.inl q)
    · exact Or.inl q
    · exact Or.inr (Or.inr q)
theorem ins_len (x : En) (T : Tre) : (ins x T).length = T.length + 1 := by
  have := plc_le x.path T
  rw [ins_eq, List.length_append, List.length_cons, List.length_take, List.length_drop]
  omega
theorem srt_ins (x : En) : ∀ T : Tre, Srt T → (∀ e ∈ T, e.path ≠ x.path) → Srt (ins x T)
  | [], _, _ => List.pairwise_singleton _ _
  | e :: t, h, hn => by
    obtain ⟨h1, h2⟩ := List.pairwise_cons.mp h
    show Srt (if cmpB e.path x.path < 0 then e :: ins x t else x :: e :: t)
    by_cases c : cmpB e.path x.path < 0
    · rw [if_pos c]
      refine List.pairwise_cons.mpr ⟨fun y hy => ?_, srt_ins x t h2 (fun y hy => hn y (List.mem_cons_of_mem _ hy))⟩
      rcases (ins_mem x y t).mp hy with q | q
      · rw [q]; exact c
      · exact h1 y q
    · rw [if_neg c]
      have hx : cmpB x.path e.path < 0 := by
        have hz : cmpB e.path x.path ≠ 0 := fun q => hn e List.mem_cons_self ((cmpB_zero e.path x.path).mp q)
        rw [cmpB_anti e.path x.path]
        omega
      refine List.pairwise_cons.mpr ⟨fun y hy => ?_, h⟩
      rcases List.mem_cons.mp hy with q | q
      · rw [q]; exact hx
      · exact cmpB_trans _ _ _ hx (h1 y q)
theorem srt_find (key : List UInt8) : ∀ (T : Tre), Srt T → ∀ e ∈ T, e.path = key → ∃ h : plc key T < T.length, T[plc key T] = e
  | [], _, e, he, _ => by simp at he
  | f :: t, hS, e, he, hk => by
    obtain ⟨h1, h2⟩ := List.pairwise_cons.mp hS
    rcases List.mem_cons.mp he with q | q
    · have e0 : plc key (f :: t) = 0 := by
        show (if cmpB f.path key < 0 then plc key t + 1 else 0) = 0
        rw [if_neg]
        rw [← q, hk, (cmpB_zero key key).mpr rfl]
        decide
      refine ⟨by rw [e0]; simp, ?_⟩
      simp only [e0]
      exact q.symm
    · have hlt := h1 e q
      rw [hk] at hlt
      obtain ⟨i1, i2⟩ := srt_find key t h2 e q hk
      have e0 : plc key (f :: t) = plc key t + 1 := by
        show (if cmpB f.path key < 0 then plc key t + 1 else 0) = _
        rw [if_pos hlt]
      refine ⟨by rw [e0, List.length_cons]; omega, ?_⟩
      simp only [e0, List.getElem_cons_succ]
      exact i2
def conts : Tre → Nat
  | [] => 0
  | e :: t => (if e.kind = 1 then e.body.length else 0) + conts t
theorem conts_app : ∀ (A B : Tre), conts (A ++ B) = conts A + conts B
  | [], B => by simp [conts]
  | e :: t, B => by
    show (if e.kind = 1 then e.body.length else 0) + conts (t ++ B) = (if e.kind = 1 then e.body.length else 0) + conts t + conts B
    rw [conts_app t B]
    omega
theorem conts_ins (x : En) (T : Tre) : conts (ins x T) = conts T + (if x.kind = 1 then x.body.length else 0) := by
  rw [ins_eq, conts_app]
  show _ + ((if x.kind = 1 then x.body.length else 0) + conts (T.drop (plc x.path T))) = _
  have : conts (T.take (plc x.path T)) + conts (T.drop (plc x.path T)) = conts T := by rw [← conts_app, List.take_append_drop]
  omega
theorem conts_mem : ∀ (T : Tre) (e : En), e ∈ T → e.kind = 1 → e.body.length ≤ conts T
  | [], e, h, _ => by simp at h
  | f :: t, e, h, hk => by
    show _ ≤ (if f.kind = 1 then f.body.length else 0) + conts t
    rcases List.mem_cons.mp h with q | q
    · rw [← q, if_pos hk]
      omega
    · have := conts_mem t e q hk
      omega

def EOk (e : En) : Prop := 1 ≤ e.path.length ∧ e.path.length ≤ 60 ∧ pathOk [] e.path = true ∧ e.kind ≤ 2 ∧ e.mode ≤ 4095 ∧ e.own ≤ 2147483647 ∧ e.grp ≤ 2147483647 ∧ e.tim ≤ 2147483647 ∧ (e.kind = 0 → e.body = []) ∧ (e.kind = 2 → 1 ≤ e.body.length ∧ e.body.length ≤ 60 ∧ (0 : UInt8) ∉ e.body)
/-- one is a link of the other -/
def lnk (a b : En) : Prop := a.kind = 1 ∧ a.2.1 = b.2.1 ∧ a.body = b.body
theorem lnk.symm {a b : En} (h : lnk a b) : lnk b a := ⟨by unfold En.kind; rw [← h.2.1]; exact h.1, h.2.1.symm, h.2.2.symm⟩
theorem lnk.trans {a b c : En} (h : lnk a b) (h' : lnk b c) : lnk a c := ⟨h.1, h.2.1.trans h'.2.1, h.2.2.trans h'.2.2⟩
def FamOk (T : Tre) : Prop := (∀ e ∈ T, e.fam < T.length) ∧ List.Pairwise (fun a b : En => a.fam = b.fam → lnk a b) T
def TOk (T : Tre) : Prop := T.length ≤ 40 ∧ Srt T ∧ (∀ e ∈ T, EOk e) ∧ conts T ≤ 6000 ∧ (∀ e ∈ T, parentOk T e.path) ∧ FamOk T
theorem TOk.nil : TOk [] := ⟨by decide, List.Pairwise.nil, fun e he => by simp at he, by decide, fun e he => by simp at he, fun e he => by simp at he, List.Pairwise.nil⟩
theorem pw_ins {R : En → En → Prop} (x : En) : ∀ T : Tre, List.Pairwise R T → (∀ y ∈ T, R y x ∧ R x y) → List.Pairwise R (ins x T)
  | [], _, _ => List.pairwise_singleton _ _
  | e :: t, h, hn => by
    obtain ⟨h1, h2⟩ := List.pairwise_cons.mp h
    show List.Pairwise R (if cmpB e.path x.path < 0 then e :: ins x t else x :: e :: t)
    by_cases c : cmpB e.path x.path < 0
    · rw [if_pos c]
      refine List.pairwise_cons.mpr ⟨fun y hy => ?_, pw_ins x t h2 (fun y hy => hn y (List.mem_cons_of_mem _ hy))⟩
      rcases (ins_mem x y t).mp hy with q | q
      · rw [q]; exact (hn e List.mem_cons_self).1
      · exact h1 y q
    · rw [if_neg c]
      exact List.pairwise_cons.mpr ⟨fun y hy => (hn y hy).2, h⟩
theorem parentOk.mono {T T' : Tre} {p : List UInt8} (h : parentOk T p) (hs : ∀ e ∈ T, e ∈ T') : parentOk T' p := by
  rcases h with h | ⟨e, h1, h2⟩
  · exact Or.inl h
  · exact Or.inr ⟨e, hs e h1, h2⟩
/-- an entry that may come in -/
theorem TOk.ins {T : Tre} {x : En} (h : TOk T) (hx : EOk x) (hp : parentOk T x.path) (hn : ∀ e ∈ T, e.path ≠ x.path) (hl : T.length < 40) (hc : conts T + (if x.kind = 1 then x.body.length else 0) ≤ 6000) (hf : x.fam = T.length ∨ ∃ f ∈ T, x.fam = f.fam ∧ lnk f x) : TOk (ins x T) := by
  obtain ⟨a1, a2, a3, a4, a5, a6, a7⟩ := h
  refine ⟨by rw [ins_len]; omega, srt_ins x T a2 hn, fun e he => ?_, by rw [conts_ins]; exact hc, fun e he => ?_, fun e he => ?_, pw_ins x T a7 (fun y hy => ?_)⟩
  · rcases (ins_mem x e T).mp he with q | q
    · rw [q]; exact hx
    · exact a3 e q
  · rcases (ins_mem x e T).mp he with q | q
    · rw [q]; exact hp.mono (fun e he => (ins_mem x e T).mpr (Or.inr he))
    · exact (a5 e q).mono (fun e he => (ins_mem x e T).mpr (Or.inr he))
  · rw [ins_len]
    rcases (ins_mem x e T).mp he with q | q
    · rw [q]
      rcases hf with z | ⟨f, f1, f2, f3⟩
      · omega
      · have := a6 f f1
        omega
    · have := a6 e q
      omega
  · have key : y.fam = x.fam → lnk y x := by
      intro z
      rcases hf with w | ⟨f, f1, f2, f3⟩
      · have := a6 y hy
        omega
      · by_cases c : y = f
        · rw [c]; exact f3
        · obtain ⟨i, hi, ei⟩ := List.getElem_of_mem hy
          obtain ⟨j, hj, ej⟩ := List.getElem_of_mem f1
          have hij : i ≠ j := fun q => by
            subst q
            exact c (ei.symm.trans ej)
          rcases Nat.lt_or_gt_of_ne hij with q | q
          · have := List.pairwise_iff_getElem.mp a7 i j hi hj q
            rw [ei, ej] at this
            exact (this (z.trans f2)).trans f3
          · have := List.pairwise_iff_getElem.mp a7 j i hj hi q
            rw [ei, ej] at this
            exact (this (z.trans f2).symm).symm.trans f3
    exact ⟨key, fun z => (key z.symm).symm⟩
