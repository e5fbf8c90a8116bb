/-- only this object's numbers and longs have changed -/
def OnlyP (p : Nat) (M M' : zM) : Prop := (∀ k, k ≠ p → M'.1 k = M.1 k) ∧ (∀ k, k ≠ p → M'.2.1 k = M.2.1 k) ∧ M'.2.2 = M.2.2
theorem OnlyP.rf {p : Nat} {M : zM} : OnlyP p M M := ⟨fun _ _ => rfl, fun _ _ => rfl, rfl⟩
theorem OnlyP.trans {p : Nat} {M M' M'' : zM} (h : OnlyP p M M') (h' : OnlyP p M' M'') : OnlyP p M M'' := ⟨fun k hk => (h'.1 k hk).trans (h.1 k hk), fun k hk => (h'.2.1 k hk).trans (h.2.1 k hk), h'.2.2.trans h.2.2⟩
theorem OnlyP.fld {p j : Nat} {v : Int32} {M M' : zM} (h : OnlyP p M M') : OnlyP p M (zI M' p j v) := ⟨fun k hk => (zI_o hk).trans (h.1 k hk), h.2.1, h.2.2⟩
theorem OnlyP.lng {p j : Nat} {v : Int64} {M M' : zM} (h : OnlyP p M M') : OnlyP p M (zL M' p j v) := ⟨h.1, fun k hk => (zL_o hk).trans (h.2.1 k hk), h.2.2⟩
theorem OnlyF.toP {p : Nat} {F : List Nat} {M M' : zM} (h : OnlyF p F [] M M') : OnlyP p M M' := ⟨fun k hk => h.1 k (by simp) hk, fun k hk => by rw [h.2.2], by rw [h.2.2]⟩
theorem Rw.onlyP {p : Nat} {M M' : zM} {r : Nat} {bs : List UInt8} (h : Rw M r bs) (ho : OnlyP p M M') (h1 : r ≠ p) (h2 : r + 1 ≠ p) : Rw M' r bs := ⟨by rw [ho.1 r h1]; exact h.1, h.2.1, fun i hi => by rw [ho.1 _ h2]; exact h.2.2 i hi⟩
theorem zL_g (M : zM) (k j : Nat) (v : Int64) (a b : Nat) : (zL M k j v).2.1 a b = if a = k ∧ b = j then v else M.2.1 a b := by
  show (if a = k then vp_updL (M.2.1 a) j v else M.2.1 a) b = _
  by_cases h : a = k
  · subst h
    rw [if_pos rfl]
    show (if b = j then v else M.2.1 a b) = _
    simp
  · rw [if_neg h, if_neg (fun q => h q.1)]
theorem pnum_rng (bs w : List UInt8) (most e : Nat) : -1 ≤ (pnum bs w most e).1 ∧ (pnum bs w most e).1 ≤ most ∧ (pnum bs w most e).2 ≤ e + w.length + 10 := by
  unfold pnum
  by_cases h : (bs.drop e).take w.length = w
  · rw [if_pos h]
    have hr := run_len 10 (bs.drop (e + w.length))
    refine ⟨?_, ?_, by show e + w.length + _ ≤ _; omega⟩
    · show -1 ≤ (if _ then _ else _)
      split <;> omega
    · show (if _ then _ else _) ≤ _
      split
      · omega
      · omega
  · rw [if_neg h]
    exact ⟨by show -1 ≤ -1; omega, by show -1 ≤ _; omega, by show e ≤ _; omega⟩
/-- a part's first line, as MailChain reads it: fine?, k, n, size, sum, bytes read -/
def plK (bs : List UInt8) : Int × Nat := pnum bs (txt 0) 999 0
def plN (bs : List UInt8) : Int × Nat := pnum bs (txt 1) 999 (plK bs).2
def plS (bs : List UInt8) : Int × Nat := pnum bs (txt 2) 48000 (plN bs).2
def plC (bs : List UInt8) : Int × Nat := pnum bs (txt 3) 4294967295 (plS bs).2
def plOk (bs : List UInt8) : Prop := gt bs ((plC bs).2 : Int) = 10 ∧ 1 ≤ (plK bs).1 ∧ (plK bs).1 ≤ (plN bs).1 ∧ (plS bs).1 ≠ -1 ∧ (plC bs).1 ≠ -1
theorem s_Pl_read {M : zM} {p a : Nat} {bs : List UInt8} {post : Int32 → zM → Prop} (h : Rw M a bs) (d1 : a ≠ p) (d2 : a + 1 ≠ p)
    (k : ∀ M' (v : Int32), OnlyP p M M' → M'.1 p 0 = ii (plK bs).1 → M'.1 p 1 = ii (plN bs).1 → M'.1 p 2 = ii (plS bs).1 → M'.2.1 p 3 = ll (plC bs).1 → M'.1 p 4 = ii (((plC bs).2 + 1 : Nat) : Int) → (plOk bs → v = 1) → (¬ plOk bs → v = 0) → post v M') : Wp_Pl_read p a M post := by
  obtain ⟨t0, t1, t2, t3⟩ := txl
  have r1 := pnum_rng bs (txt 0) 999 0
  have r2 := pnum_rng bs (txt 1) 999 (plK bs).2
  have r3 := pnum_rng bs (txt 2) 48000 (plN bs).2
  have r4 := pnum_rng bs (txt 3) 4294967295 (plS bs).2
  rw [show pnum bs (txt 0) 999 0 = plK bs from rfl] at r1
  rw [show pnum bs (txt 1) 999 (plK bs).2 = plN bs from rfl] at r2
  rw [show pnum bs (txt 2) 48000 (plN bs).2 = plS bs from rfl] at r3
  rw [show pnum bs (txt 3) 4294967295 (plS bs).2 = plC bs from rfl] at r4
  unfold Wp_Pl_read
  intro K hK
  rintro M1 rfl
  have o1 : OnlyP p M (zI M p 4 0) := OnlyP.rf.fld
  rw [show (999 : Int64) = ll ((999 : Nat) : Int) from rfl, show (48000 : Int64) = ll ((48000 : Nat) : Int) from rfl, show (4294967295 : Int64) = ll ((4294967295 : Nat) : Int) from rfl]
  refine s_Pl_number (e := 0) (by decide) (h.onlyP o1 d1 d2) (by rw [zI_g, if_pos ⟨rfl, rfl⟩]; rfl) (by omega) (by omega) d1 d2 (fun M2 f2 e2 => ?_)
  rintro M3 rfl
  rw [show pnum bs (txt 0) 999 0 = plK bs from rfl] at *
  rw [ll_to32]
  have o3 : OnlyP p M (zI M2 p 0 (ii (plK bs).1)) := (o1.trans f2.toP).fld
  refine s_Pl_number (e := (plK bs).2) (by decide) (h.onlyP o3 d1 d2) (by rw [zI_g, if_neg (by simp)]; exact e2) (by omega) (by omega) d1 d2 (fun M4 f4 e4 => ?_)
  rintro M5 rfl
  rw [show pnum bs (txt 1) 999 (plK bs).2 = plN bs from rfl] at *
  rw [ll_to32]
  have o5 : OnlyP p M (zI M4 p 1 (ii (plN bs).1)) := (o3.trans f4.toP).fld
  refine s_Pl_number (e := (plN bs).2) (by decide) (h.onlyP o5 d1 d2) (by rw [zI_g, if_neg (by simp)]; exact e4) (by omega) (by omega) d1 d2 (fun M6 f6 e6 => ?_)
  rintro M7 rfl
  rw [show pnum bs (txt 2) 48000 (plN bs).2 = plS bs from rfl] at *
  rw [ll_to32]
  have o7 : OnlyP p M (zI M6 p 2 (ii (plS bs).1)) := (o5.trans f6.toP).fld
  refine s_Pl_number (e := (plS bs).2) (by decide) (h.onlyP o7 d1 d2) (by rw [zI_g, if_neg (by simp)]; exact e6) (by omega) (by omega) d1 d2 (fun M8 f8 e8 => ?_)
  rintro M9 rfl
  rw [show pnum bs (txt 3) 4294967295 (plS bs).2 = plC bs from rfl] at *
  have o9 : OnlyP p M (zL M8 p 3 (ll (plC bs).1)) := (o7.trans f8.toP).lng
  have v4 : (zL M8 p 3 (ll (plC bs).1)).1 p 4 = ii (((plC bs).2 : Nat) : Int) := e8
  have v0 : M8.1 p 0 = ii (plK bs).1 := by
    rw [f8.2.1 0 (by decide), zI_g, if_neg (by simp), f6.2.1 0 (by decide), zI_g, if_neg (by simp), f4.2.1 0 (by decide), zI_g, if_pos ⟨rfl, rfl⟩]
  have v1 : M8.1 p 1 = ii (plN bs).1 := by
    rw [f8.2.1 1 (by decide), zI_g, if_neg (by simp), f6.2.1 1 (by decide), zI_g, if_pos ⟨rfl, rfl⟩]
  have v2 : M8.1 p 2 = ii (plS bs).1 := by
    rw [f8.2.1 2 (by decide), zI_g, if_pos ⟨rfl, rfl⟩]
  have v3 : (zL M8 p 3 (ll (plC bs).1)).2.1 p 3 = ll (plC bs).1 := by rw [zL_g, if_pos ⟨rfl, rfl⟩]
  rw [v4]
  refine s_at (h.onlyP o9 d1 d2) (by omega) (by omega) ?_
  generalize hM9 : zL M8 p 3 (ll (plC bs).1) = M9 at *
  have w0 : M9.1 = M8.1 := by rw [← hM9]; rfl
  have key : ∀ z : Int32, (gt bs ((plC bs).2 : Int) = 10 → z = 1) → (gt bs ((plC bs).2 : Int) ≠ 10 → z = 0) → K z M9 := by
    intro z hz1 hz0
    refine hK _ _ ?_
    rintro M10 rfl
    have q4 : (zI M9 p 4 (M9.1 p 4 + 1)).1 p 4 = ii (((plC bs).2 + 1 : Nat) : Int) := by
      rw [zI_g, if_pos ⟨rfl, rfl⟩, v4, show (1 : Int32) = ii 1 from rfl, ii_add]
      rfl
    have q0 : (zI M9 p 4 (M9.1 p 4 + 1)).1 p 0 = ii (plK bs).1 := by rw [zI_g, if_neg (by simp), w0]; exact v0
    have q1 : (zI M9 p 4 (M9.1 p 4 + 1)).1 p 1 = ii (plN bs).1 := by rw [zI_g, if_neg (by simp), w0]; exact v1
    have q2 : (zI M9 p 4 (M9.1 p 4 + 1)).1 p 2 = ii (plS bs).1 := by rw [zI_g, if_neg (by simp), w0]; exact v2
    have q3 : (zI M9 p 4 (M9.1 p 4 + 1)).2.1 p 3 = ll (plC bs).1 := v3
    have fin := fun v => k (zI M9 p 4 (M9.1 p 4 + 1)) v o9.fld q0 q1 q2 q3 q4
    have no : ¬ plOk bs → post 0 (zI M9 p 4 (M9.1 p 4 + 1)) := fun hn => fin 0 (fun c => absurd c hn) (fun _ => rfl)
    generalize zI M9 p 4 (M9.1 p 4 + 1) = M10 at q0 q1 q2 q3 q4 fin no ⊢
    rw [q0, q1, q2, q3, show (-1 : Int32) = ii (-1) from rfl, show (1 : Int32) = ii 1 from rfl, ii_lt (by omega) (by omega) (by decide) (by decide), ii_lt (by omega) (by omega) (by omega) (by omega), ii_eq (by omega) (by omega) (by decide) (by decide), lg_cmp_eq, show (-1 : Int64) = ll (-1) from rfl, ll_eq (by omega) (by omega) (by decide) (by decide)]
    refine ⟨fun c => no (fun ⟨c1, _⟩ => ?_), fun c => ⟨fun c2 => no (fun ⟨_, c3, _⟩ => by omega), fun c2 => ⟨fun c3 => no (fun ⟨_, _, c4, _⟩ => by omega), fun c3 => ⟨fun c4 => no (fun ⟨_, _, _, c5, _⟩ => c5 c4), fun c4 => ⟨fun c5 => no (fun ⟨_, _, _, _, c6⟩ => c6 c5), fun c5 => ?_⟩⟩⟩⟩⟩
    · rw [hz1 c1] at c
      exact absurd c (by decide)
    · have g10 : gt bs ((plC bs).2 : Int) = 10 := Classical.byContradiction (fun q => c (hz0 q))
      exact fin 1 (fun _ => rfl) (fun hn => absurd ⟨g10, by omega, by omega, c4, c5⟩ hn)
  have hg := gt_rng bs ((plC bs).2 : Int)
  rw [show (10 : Int32) = ii 10 from rfl, ii_eq (by omega) (by omega) (by decide) (by decide)]
  exact ⟨fun c => key 0 (fun q => absurd q c) (fun _ => rfl), fun c => key 1 (fun _ => rfl) (fun q => absurd c q)⟩
