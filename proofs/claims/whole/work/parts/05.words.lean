theorem tbc_1 (i : Nat) {w : Cond} (h : tables_1_1[i]? = some w) (hg : goodWord w = true) : w ∈ tb := tb_in (List.mem_append_right _ (List.mem_append_left _ (List.mem_of_getElem? h))) hg
theorem tbc_2 (i : Nat) {w : Cond} (h : tables_1_2[i]? = some w) (hg : goodWord w = true) : w ∈ tb := tb_in (List.mem_append_right _ (List.mem_append_right _ (List.mem_append_left _ (List.mem_of_getElem? h)))) hg
theorem tbc_3 (i : Nat) {w : Cond} (h : tables_1_3[i]? = some w) (hg : goodWord w = true) : w ∈ tb := tb_in (List.mem_append_right _ (List.mem_append_right _ (List.mem_append_right _ (List.mem_append_left _ (List.mem_of_getElem? h))))) hg
theorem tbc_4 (i : Nat) {w : Cond} (h : tables_1_4[i]? = some w) (hg : goodWord w = true) : w ∈ tb := tb_in (List.mem_append_right _ (List.mem_append_right _ (List.mem_append_right _ (List.mem_append_right _ (List.mem_append_left _ (List.mem_of_getElem? h)))))) hg
theorem tbc_5 (i : Nat) {w : Cond} (h : tables_1_5[i]? = some w) (hg : goodWord w = true) : w ∈ tb := tb_in (List.mem_append_right _ (List.mem_append_right _ (List.mem_append_right _ (List.mem_append_right _ (List.mem_append_right _ (List.mem_append_left _ (List.mem_of_getElem? h))))))) hg
theorem tbc_6 (i : Nat) {w : Cond} (h : tables_1_6[i]? = some w) (hg : goodWord w = true) : w ∈ tb := tb_in (List.mem_append_right _ (List.mem_append_right _ (List.mem_append_right _ (List.mem_append_right _ (List.mem_append_right _ (List.mem_append_right _ (List.mem_append_left _ (List.mem_of_getElem? h)))))))) hg
theorem tbc_7 (i : Nat) {w : Cond} (h : tables_1_7[i]? = some w) (hg : goodWord w = true) : w ∈ tb := tb_in (List.mem_append_right _ (List.mem_append_right _ (List.mem_append_right _ (List.mem_append_right _ (List.mem_append_right _ (List.mem_append_right _ (List.mem_append_right _ (List.mem_append_left _ (List.mem_of_getElem? h))))))))) hg
theorem tbc_8 (i : Nat) {w : Cond} (h : tables_1_8[i]? = some w) (hg : goodWord w = true) : w ∈ tb := tb_in (List.mem_append_right _ (List.mem_append_right _ (List.mem_append_right _ (List.mem_append_right _ (List.mem_append_right _ (List.mem_append_right _ (List.mem_append_right _ (List.mem_append_right _ (List.mem_of_getElem? h))))))))) hg
theorem uq_0 : ∀ {k : Nat}, k < N0 → tg k = 0 → k = 0 := by
  intro k h1 h2
  exact (by decide +kernel : ∀ k, k < N0 → tg k = 0 → k = 0) k h1 h2
theorem uq_4 : ∀ {k : Nat}, k < N0 → tg k = 4 → k = 386 := by
  intro k h1 h2
  exact (by decide +kernel : ∀ k, k < N0 → tg k = 4 → k = 386) k h1 h2
theorem uq_6 : ∀ {k : Nat}, k < N0 → tg k = 6 → k = 392 := by
  intro k h1 h2
  exact (by decide +kernel : ∀ k, k < N0 → tg k = 6 → k = 392) k h1 h2
theorem uq_7 : ∀ {k : Nat}, k < N0 → tg k = 7 → k = 398 := by
  intro k h1 h2
  exact (by decide +kernel : ∀ k, k < N0 → tg k = 7 → k = 398) k h1 h2
theorem uq_8 : ∀ {k : Nat}, k < N0 → tg k = 8 → k = 402 := by
  intro k h1 h2
  exact (by decide +kernel : ∀ k, k < N0 → tg k = 8 → k = 402) k h1 h2
theorem uq_9 : ∀ {k : Nat}, k < N0 → tg k = 9 → k = 413 := by
  intro k h1 h2
  exact (by decide +kernel : ∀ k, k < N0 → tg k = 9 → k = 413) k h1 h2
theorem lo_0_0 : ∀ {k : Nat}, k < N0 → tg k = 0 → k + 1 < N0 ∧ tg (k + 1) = 1 := by
  intro k h1 h2
  have e := uq_0 h1 h2
  subst e
  exact ⟨by decide +kernel, by decide +kernel⟩
theorem lo_0_1 : ∀ {k : Nat}, k < N0 → tg k = 0 → k + 3 < N0 ∧ tg (k + 3) = 3 := by
  intro k h1 h2
  have e := uq_0 h1 h2
  subst e
  exact ⟨by decide +kernel, by decide +kernel⟩
theorem lo_0_4 : ∀ {k : Nat}, k < N0 → tg k = 0 → k + 384 < N0 ∧ tg (k + 384) = 1 := by
  intro k h1 h2
  have e := uq_0 h1 h2
  subst e
  exact ⟨by decide +kernel, by decide +kernel⟩
theorem lo_0_7 : ∀ {k : Nat}, k < N0 → tg k = 0 → k + 392 < N0 ∧ tg (k + 392) = 6 := by
  intro k h1 h2
  have e := uq_0 h1 h2
  subst e
  exact ⟨by decide +kernel, by decide +kernel⟩
theorem lo_0_8 : ∀ {k : Nat}, k < N0 → tg k = 0 → k + 398 < N0 ∧ tg (k + 398) = 7 := by
  intro k h1 h2
  have e := uq_0 h1 h2
  subst e
  exact ⟨by decide +kernel, by decide +kernel⟩
theorem lo_0_9 : ∀ {k : Nat}, k < N0 → tg k = 0 → k + 402 < N0 ∧ tg (k + 402) = 8 := by
  intro k h1 h2
  have e := uq_0 h1 h2
  subst e
  exact ⟨by decide +kernel, by decide +kernel⟩
theorem lo_0_10 : ∀ {k : Nat}, k < N0 → tg k = 0 → k + 405 < N0 ∧ tg (k + 405) = 1 := by
  intro k h1 h2
  have e := uq_0 h1 h2
  subst e
  exact ⟨by decide +kernel, by decide +kernel⟩
theorem lo_0_11 : ∀ {k : Nat}, k < N0 → tg k = 0 → k + 407 < N0 ∧ tg (k + 407) = 1 := by
  intro k h1 h2
  have e := uq_0 h1 h2
  subst e
  exact ⟨by decide +kernel, by decide +kernel⟩
theorem lo_0_12 : ∀ {k : Nat}, k < N0 → tg k = 0 → k + 409 < N0 ∧ tg (k + 409) = 1 := by
  intro k h1 h2
  have e := uq_0 h1 h2
  subst e
  exact ⟨by decide +kernel, by decide +kernel⟩
theorem lo_0_13 : ∀ {k : Nat}, k < N0 → tg k = 0 → k + 411 < N0 ∧ tg (k + 411) = 1 := by
  intro k h1 h2
  have e := uq_0 h1 h2
  subst e
  exact ⟨by decide +kernel, by decide +kernel⟩
theorem lo_1_0 : ∀ {k : Nat}, k < N0 → tg k = 1 → k + 1 < N0 ∧ tg (k + 1) = 20 := by
  intro k h1 h2
  exact (by decide +kernel : ∀ k, k < N0 → tg k = 1 → k + 1 < N0 ∧ tg (k + 1) = 20) k h1 h2
theorem lo_2_0 : ∀ {k : Nat}, k < N0 → tg k = 2 → k + 1 < N0 ∧ tg (k + 1) = 1 := by
  intro k h1 h2
  exact (by decide +kernel : ∀ k, k < N0 → tg k = 2 → k + 1 < N0 ∧ tg (k + 1) = 1) k h1 h2
theorem lo_3_0 : ∀ {k : Nat}, k < N0 → tg k = 3 → k + 1 < N0 ∧ tg (k + 1) = 24 := by
  intro k h1 h2
  exact (by decide +kernel : ∀ k, k < N0 → tg k = 3 → k + 1 < N0 ∧ tg (k + 1) = 24) k h1 h2
theorem lo_3_1 : ∀ {k : Nat}, k < N0 → tg k = 3 → k + 125 < N0 ∧ tg (k + 125) = 1 := by
  intro k h1 h2
  exact (by decide +kernel : ∀ k, k < N0 → tg k = 3 → k + 125 < N0 ∧ tg (k + 125) = 1) k h1 h2
theorem lo_4_0 : ∀ {k : Nat}, k < N0 → tg k = 4 → k + 1 < N0 ∧ tg (k + 1) = 1 := by
  intro k h1 h2
  have e := uq_4 h1 h2
  subst e
  exact ⟨by decide +kernel, by decide +kernel⟩
theorem lo_4_1 : ∀ {k : Nat}, k < N0 → tg k = 4 → k + 3 < N0 ∧ tg (k + 3) = 1 := by
  intro k h1 h2
  have e := uq_4 h1 h2
  subst e
  exact ⟨by decide +kernel, by decide +kernel⟩
theorem lo_4_4 : ∀ {k : Nat}, k < N0 → tg k = 4 → k + 5 < N0 ∧ tg (k + 5) = 21 := by
  intro k h1 h2
  have e := uq_4 h1 h2
  subst e
  exact ⟨by decide +kernel, by decide +kernel⟩
theorem lo_6_0 : ∀ {k : Nat}, k < N0 → tg k = 6 → k + 1 < N0 ∧ tg (k + 1) = 1 := by
  intro k h1 h2
  have e := uq_6 h1 h2
  subst e
  exact ⟨by decide +kernel, by decide +kernel⟩
theorem lo_6_1 : ∀ {k : Nat}, k < N0 → tg k = 6 → k + 3 < N0 ∧ tg (k + 3) = 21 := by
  intro k h1 h2
  have e := uq_6 h1 h2
  subst e
  exact ⟨by decide +kernel, by decide +kernel⟩
theorem lo_6_2 : ∀ {k : Nat}, k < N0 → tg k = 6 → k + 4 < N0 ∧ tg (k + 4) = 21 := by
  intro k h1 h2
  have e := uq_6 h1 h2
  subst e
  exact ⟨by decide +kernel, by decide +kernel⟩
theorem lo_6_3 : ∀ {k : Nat}, k < N0 → tg k = 6 → k + 5 < N0 ∧ tg (k + 5) = 5 := by
  intro k h1 h2
  have e := uq_6 h1 h2
  subst e
  exact ⟨by decide +kernel, by decide +kernel⟩
theorem lo_7_0 : ∀ {k : Nat}, k < N0 → tg k = 7 → k + 1 < N0 ∧ tg (k + 1) = 21 := by
  intro k h1 h2
  have e := uq_7 h1 h2
  subst e
  exact ⟨by decide +kernel, by decide +kernel⟩
theorem lo_7_1 : ∀ {k : Nat}, k < N0 → tg k = 7 → k + 2 < N0 ∧ tg (k + 2) = 21 := by
  intro k h1 h2
  have e := uq_7 h1 h2
  subst e
  exact ⟨by decide +kernel, by decide +kernel⟩
theorem lo_7_2 : ∀ {k : Nat}, k < N0 → tg k = 7 → k + 3 < N0 ∧ tg (k + 3) = 21 := by
  intro k h1 h2
  have e := uq_7 h1 h2
  subst e
  exact ⟨by decide +kernel, by decide +kernel⟩
theorem lo_8_0 : ∀ {k : Nat}, k < N0 → tg k = 8 → k + 1 < N0 ∧ tg (k + 1) = 21 := by
  intro k h1 h2
  have e := uq_8 h1 h2
  subst e
  exact ⟨by decide +kernel, by decide +kernel⟩
theorem lo_8_1 : ∀ {k : Nat}, k < N0 → tg k = 8 → k + 2 < N0 ∧ tg (k + 2) = 21 := by
  intro k h1 h2
  have e := uq_8 h1 h2
  subst e
  exact ⟨by decide +kernel, by decide +kernel⟩
theorem lo_9_0 : ∀ {k : Nat}, k < N0 → tg k = 9 → k + 1 < N0 ∧ tg (k + 1) = 20 := by
  intro k h1 h2
  have e := uq_9 h1 h2
  subst e
  exact ⟨by decide +kernel, by decide +kernel⟩
theorem lo_9_1 : ∀ {k : Nat}, k < N0 → tg k = 9 → k + 2 < N0 ∧ tg (k + 2) = 20 := by
  intro k h1 h2
  have e := uq_9 h1 h2
  subst e
  exact ⟨by decide +kernel, by decide +kernel⟩
theorem lo_9_2 : ∀ {k : Nat}, k < N0 → tg k = 9 → k + 3 < N0 ∧ tg (k + 3) = 20 := by
  intro k h1 h2
  have e := uq_9 h1 h2
  subst e
  exact ⟨by decide +kernel, by decide +kernel⟩
theorem lo_9_3 : ∀ {k : Nat}, k < N0 → tg k = 9 → k + 4 < N0 ∧ tg (k + 4) = 20 := by
  intro k h1 h2
  have e := uq_9 h1 h2
  subst e
  exact ⟨by decide +kernel, by decide +kernel⟩
theorem lo_9_4 : ∀ {k : Nat}, k < N0 → tg k = 9 → k + 5 < N0 ∧ tg (k + 5) = 20 := by
  intro k h1 h2
  have e := uq_9 h1 h2
  subst e
  exact ⟨by decide +kernel, by decide +kernel⟩
theorem lo_9_5 : ∀ {k : Nat}, k < N0 → tg k = 9 → k + 6 < N0 ∧ tg (k + 6) = 20 := by
  intro k h1 h2
  have e := uq_9 h1 h2
  subst e
  exact ⟨by decide +kernel, by decide +kernel⟩
theorem lo_9_8 : ∀ {k : Nat}, k < N0 → tg k = 9 → k + 7 < N0 ∧ tg (k + 7) = 20 := by
  intro k h1 h2
  have e := uq_9 h1 h2
  subst e
  exact ⟨by decide +kernel, by decide +kernel⟩
theorem lo_9_9 : ∀ {k : Nat}, k < N0 → tg k = 9 → k + 8 < N0 ∧ tg (k + 8) = 21 := by
  intro k h1 h2
  have e := uq_9 h1 h2
  subst e
  exact ⟨by decide +kernel, by decide +kernel⟩
theorem lo_9_10 : ∀ {k : Nat}, k < N0 → tg k = 9 → k + 9 < N0 ∧ tg (k + 9) = 20 := by
  intro k h1 h2
  have e := uq_9 h1 h2
  subst e
  exact ⟨by decide +kernel, by decide +kernel⟩
theorem lo_9_11 : ∀ {k : Nat}, k < N0 → tg k = 9 → k + 10 < N0 ∧ tg (k + 10) = 21 := by
  intro k h1 h2
  have e := uq_9 h1 h2
  subst e
  exact ⟨by decide +kernel, by decide +kernel⟩
theorem lo_9_12 : ∀ {k : Nat}, k < N0 → tg k = 9 → k + 11 < N0 ∧ tg (k + 11) = 21 := by
  intro k h1 h2
  have e := uq_9 h1 h2
  subst e
  exact ⟨by decide +kernel, by decide +kernel⟩
theorem lo_9_13 : ∀ {k : Nat}, k < N0 → tg k = 9 → k + 12 < N0 ∧ tg (k + 12) = 21 := by
  intro k h1 h2
  have e := uq_9 h1 h2
  subst e
  exact ⟨by decide +kernel, by decide +kernel⟩
theorem lo_9_14 : ∀ {k : Nat}, k < N0 → tg k = 9 → k + 13 < N0 ∧ tg (k + 13) = 21 := by
  intro k h1 h2
  have e := uq_9 h1 h2
  subst e
  exact ⟨by decide +kernel, by decide +kernel⟩
theorem lo_9_15 : ∀ {k : Nat}, k < N0 → tg k = 9 → k + 14 < N0 ∧ tg (k + 14) = 21 := by
  intro k h1 h2
  have e := uq_9 h1 h2
  subst e
  exact ⟨by decide +kernel, by decide +kernel⟩
theorem lo_9_16 : ∀ {k : Nat}, k < N0 → tg k = 9 → k + 15 < N0 ∧ tg (k + 15) = 21 := by
  intro k h1 h2
  have e := uq_9 h1 h2
  subst e
  exact ⟨by decide +kernel, by decide +kernel⟩
theorem lo_9_17 : ∀ {k : Nat}, k < N0 → tg k = 9 → k + 16 < N0 ∧ tg (k + 16) = 21 := by
  intro k h1 h2
  have e := uq_9 h1 h2
  subst e
  exact ⟨by decide +kernel, by decide +kernel⟩
theorem lo_9_18 : ∀ {k : Nat}, k < N0 → tg k = 9 → k + 17 < N0 ∧ tg (k + 17) = 21 := by
  intro k h1 h2
  have e := uq_9 h1 h2
  subst e
  exact ⟨by decide +kernel, by decide +kernel⟩
theorem lo_9_19 : ∀ {k : Nat}, k < N0 → tg k = 9 → k + 18 < N0 ∧ tg (k + 18) = 21 := by
  intro k h1 h2
  have e := uq_9 h1 h2
  subst e
  exact ⟨by decide +kernel, by decide +kernel⟩
theorem lo_9_20 : ∀ {k : Nat}, k < N0 → tg k = 9 → k + 19 < N0 ∧ tg (k + 19) = 21 := by
  intro k h1 h2
  have e := uq_9 h1 h2
  subst e
  exact ⟨by decide +kernel, by decide +kernel⟩
theorem lo_9_21 : ∀ {k : Nat}, k < N0 → tg k = 9 → k + 20 < N0 ∧ tg (k + 20) = 20 := by
  intro k h1 h2
  have e := uq_9 h1 h2
  subst e
  exact ⟨by decide +kernel, by decide +kernel⟩
theorem lo_9_23 : ∀ {k : Nat}, k < N0 → tg k = 9 → k + 21 < N0 ∧ tg (k + 21) = 20 := by
  intro k h1 h2
  have e := uq_9 h1 h2
  subst e
  exact ⟨by decide +kernel, by decide +kernel⟩
theorem lo_9_26 : ∀ {k : Nat}, k < N0 → tg k = 9 → k + 22 < N0 ∧ tg (k + 22) = 20 := by
  intro k h1 h2
  have e := uq_9 h1 h2
  subst e
  exact ⟨by decide +kernel, by decide +kernel⟩
theorem lo_9_28 : ∀ {k : Nat}, k < N0 → tg k = 9 → k + 23 < N0 ∧ tg (k + 23) = 20 := by
  intro k h1 h2
  have e := uq_9 h1 h2
  subst e
  exact ⟨by decide +kernel, by decide +kernel⟩
theorem lo_9_30 : ∀ {k : Nat}, k < N0 → tg k = 9 → k + 24 < N0 ∧ tg (k + 24) = 20 := by
  intro k h1 h2
  have e := uq_9 h1 h2
  subst e
  exact ⟨by decide +kernel, by decide +kernel⟩
theorem lo_9_34 : ∀ {k : Nat}, k < N0 → tg k = 9 → k + 25 < N0 ∧ tg (k + 25) = 20 := by
  intro k h1 h2
  have e := uq_9 h1 h2
  subst e
  exact ⟨by decide +kernel, by decide +kernel⟩
theorem lo_9_36 : ∀ {k : Nat}, k < N0 → tg k = 9 → k + 26 < N0 ∧ tg (k + 26) = 20 := by
  intro k h1 h2
  have e := uq_9 h1 h2
  subst e
  exact ⟨by decide +kernel, by decide +kernel⟩
theorem lo_9_40 : ∀ {k : Nat}, k < N0 → tg k = 9 → k + 27 < N0 ∧ tg (k + 27) = 22 := by
  intro k h1 h2
  have e := uq_9 h1 h2
  subst e
  exact ⟨by decide +kernel, by decide +kernel⟩
theorem lo_9_41 : ∀ {k : Nat}, k < N0 → tg k = 9 → k + 28 < N0 ∧ tg (k + 28) = 21 := by
  intro k h1 h2
  have e := uq_9 h1 h2
  subst e
  exact ⟨by decide +kernel, by decide +kernel⟩
theorem lo_9_42 : ∀ {k : Nat}, k < N0 → tg k = 9 → k + 29 < N0 ∧ tg (k + 29) = 21 := by
  intro k h1 h2
  have e := uq_9 h1 h2
  subst e
  exact ⟨by decide +kernel, by decide +kernel⟩
theorem lo_9_44 : ∀ {k : Nat}, k < N0 → tg k = 9 → k + 30 < N0 ∧ tg (k + 30) = 20 := by
  intro k h1 h2
  have e := uq_9 h1 h2
  subst e
  exact ⟨by decide +kernel, by decide +kernel⟩
theorem lo_9_46 : ∀ {k : Nat}, k < N0 → tg k = 9 → k + 31 < N0 ∧ tg (k + 31) = 20 := by
  intro k h1 h2
  have e := uq_9 h1 h2
  subst e
  exact ⟨by decide +kernel, by decide +kernel⟩
theorem lo_9_48 : ∀ {k : Nat}, k < N0 → tg k = 9 → k + 32 < N0 ∧ tg (k + 32) = 20 := by
  intro k h1 h2
  have e := uq_9 h1 h2
  subst e
  exact ⟨by decide +kernel, by decide +kernel⟩
theorem lo_9_49 : ∀ {k : Nat}, k < N0 → tg k = 9 → k + 33 < N0 ∧ tg (k + 33) = 21 := by
  intro k h1 h2
  have e := uq_9 h1 h2
  subst e
  exact ⟨by decide +kernel, by decide +kernel⟩
theorem lo_9_50 : ∀ {k : Nat}, k < N0 → tg k = 9 → k + 34 < N0 ∧ tg (k + 34) = 21 := by
  intro k h1 h2
  have e := uq_9 h1 h2
  subst e
  exact ⟨by decide +kernel, by decide +kernel⟩
theorem lo_9_51 : ∀ {k : Nat}, k < N0 → tg k = 9 → k + 35 < N0 ∧ tg (k + 35) = 21 := by
  intro k h1 h2
  have e := uq_9 h1 h2
  subst e
  exact ⟨by decide +kernel, by decide +kernel⟩
theorem lo_9_52 : ∀ {k : Nat}, k < N0 → tg k = 9 → k + 36 < N0 ∧ tg (k + 36) = 21 := by
  intro k h1 h2
  have e := uq_9 h1 h2
  subst e
  exact ⟨by decide +kernel, by decide +kernel⟩
theorem lo_9_60 : ∀ {k : Nat}, k < N0 → tg k = 9 → k + 37 < N0 ∧ tg (k + 37) = 20 := by
  intro k h1 h2
  have e := uq_9 h1 h2
  subst e
  exact ⟨by decide +kernel, by decide +kernel⟩
theorem w_1 : Cond.initialized "MailChain" ∈ tb := tbc_1 1 rfl rfl
theorem w_2 : Cond.initialized "MailChain$Row" ∈ tb := tbc_1 2 rfl rfl
theorem w_3 : Cond.initialized "MailChain$Tree" ∈ tb := tbc_1 3 rfl rfl
theorem w_4 : Cond.initialized "MailChain$Entry" ∈ tb := tbc_1 4 rfl rfl
theorem w_5 : Cond.initialized "MailChain$Mail" ∈ tb := tbc_1 5 rfl rfl
theorem w_6 : Cond.initialized "MailChain$Box" ∈ tb := tbc_1 6 rfl rfl
theorem w_7 : Cond.initialized "java/util/Arrays" ∈ tb := tbc_1 7 rfl rfl
theorem w_8 : Cond.initialized "MailChain$PartLine" ∈ tb := tbc_1 8 rfl rfl
theorem w_9 : Cond.initialized "MailChain$Squeezer" ∈ tb := tbc_1 9 rfl rfl
theorem w_10 : Cond.initialized "MailChain$Expander" ∈ tb := tbc_1 10 rfl rfl
theorem w_11 : Cond.initialized "MailChainModel" ∈ tb := tbc_1 11 rfl rfl
theorem w_17 : Cond.initialized "java/lang/System" ∈ tb := tbc_1 17 rfl rfl
theorem w_20 : Cond.initialized "MailChain$Archive" ∈ tb := tbc_1 20 rfl rfl
theorem w_21 : Cond.initialized "java/lang/String" ∈ tb := tbc_1 21 rfl rfl
theorem w_22 : Cond.initialized "java/lang/StringLatin1" ∈ tb := tbc_1 22 rfl rfl
theorem w_23 : Cond.initialized "jdk/internal/util/Preconditions" ∈ tb := tbc_1 23 rfl rfl
theorem w_28 : Cond.initialized "java/lang/Math" ∈ tb := tbc_1 28 rfl rfl
theorem w_31 : Cond.initialized "MailChain$Spelling" ∈ tb := tbc_1 31 rfl rfl
theorem w_46 : Cond.fieldLink "MailChain$Row" 9 "MailChain$Row" "bytes" "[B" ∈ tb := tbc_1 46 rfl rfl
theorem w_47 : Cond.fieldLink "MailChain$Row" 15 "MailChain$Row" "size" "I" ∈ tb := tbc_1 47 rfl rfl
theorem w_78 : Cond.fieldLink "MailChain$Entry" 14 "MailChain$Entry" "path" "LMailChain$Row;" ∈ tb := tbc_1 78 rfl rfl
theorem w_82 : Cond.fieldLink "MailChain$Entry" 20 "MailChain$Entry" "kind" "I" ∈ tb := tbc_1 82 rfl rfl
theorem w_86 : Cond.fieldLink "MailChain$Entry" 24 "MailChain$Entry" "mode" "I" ∈ tb := tbc_1 86 rfl rfl
theorem w_90 : Cond.fieldLink "MailChain$Entry" 27 "MailChain$Entry" "owner" "I" ∈ tb := tbc_1 90 rfl rfl
theorem w_94 : Cond.fieldLink "MailChain$Entry" 30 "MailChain$Entry" "group" "I" ∈ tb := tbc_1 94 rfl rfl
theorem w_98 : Cond.fieldLink "MailChain$Entry" 33 "MailChain$Entry" "time" "I" ∈ tb := tbc_1 98 rfl rfl
theorem w_102 : Cond.fieldLink "MailChain$Entry" 36 "MailChain$Entry" "start" "I" ∈ tb := tbc_1 102 rfl rfl
theorem w_105 : Cond.fieldLink "MailChain$Entry" 39 "MailChain$Entry" "size" "I" ∈ tb := tbc_1 105 rfl rfl
theorem w_108 : Cond.fieldLink "MailChain$Entry" 42 "MailChain$Entry" "family" "I" ∈ tb := tbc_1 108 rfl rfl
theorem w_131 : Cond.fieldLink "MailChain$Tree" 11 "MailChain$Tree" "entries" "[LMailChain$Entry;" ∈ tb := tbc_1 131 rfl rfl
theorem w_133 : Cond.fieldLink "MailChain$Tree" 23 "MailChain$Tree" "bodies" "LMailChain$Row;" ∈ tb := tbc_1 133 rfl rfl
theorem w_135 : Cond.fieldLink "MailChain$Tree" 27 "MailChain$Tree" "count" "I" ∈ tb := tbc_1 135 rfl rfl
theorem w_138 : Cond.fieldLink "MailChain$Tree" 31 "MailChain$Tree" "contents" "I" ∈ tb := tbc_1 138 rfl rfl
theorem w_157 : Cond.fieldLink "MailChain$Mail" 14 "MailChain$Mail" "squeezed" "LMailChain$Row;" ∈ tb := tbc_1 157 rfl rfl
theorem w_159 : Cond.fieldLink "MailChain$Mail" 21 "MailChain$Mail" "text" "LMailChain$Row;" ∈ tb := tbc_1 159 rfl rfl
theorem w_161 : Cond.fieldLink "MailChain$Mail" 24 "MailChain$Mail" "count" "I" ∈ tb := tbc_1 161 rfl rfl
theorem w_163 : Cond.fieldLink "MailChain$Mail" 28 "MailChain$Mail" "length" "I" ∈ tb := tbc_1 163 rfl rfl
theorem w_164 : Cond.fieldLink "MailChain$Mail" 31 "MailChain$Mail" "sums" "[I" ∈ tb := tbc_1 164 rfl rfl
theorem w_184 : Cond.constant "MailChain$Box" 11 48000 ∈ tb := tbc_1 184 rfl rfl
theorem w_186 : Cond.methodLink "MailChain$Box" 28 y_JArrays_fill ∈ tb := tbc_1 186 rfl rfl
theorem w_187 : Cond.static y_JArrays_fill ∈ tb := tbc_1 187 rfl rfl
theorem w_188 : Cond.code y_JArrays_fill b_JArrays_fill 4 none ∈ tb := tbc_1 188 rfl rfl
theorem w_195 : Cond.fieldLink "MailChain$PartLine" 23 "MailChain$PartLine" "k" "I" ∈ tb := tbc_1 195 rfl rfl
theorem w_196 : Cond.fieldLink "MailChain$Box" 59 "MailChain$PartLine" "k" "I" ∈ tb := tbc_1 196 rfl rfl
theorem w_197 : Cond.fieldLink "MailChain$PartLine" 28 "MailChain$PartLine" "n" "I" ∈ tb := tbc_1 197 rfl rfl
theorem w_198 : Cond.fieldLink "MailChain$Box" 58 "MailChain$PartLine" "n" "I" ∈ tb := tbc_1 198 rfl rfl
theorem w_199 : Cond.fieldLink "MailChain$PartLine" 35 "MailChain$PartLine" "size" "I" ∈ tb := tbc_1 199 rfl rfl
theorem w_200 : Cond.fieldLink "MailChain$Box" 68 "MailChain$PartLine" "size" "I" ∈ tb := tbc_1 200 rfl rfl
theorem w_201 : Cond.fieldLink "MailChain$PartLine" 42 "MailChain$PartLine" "sum" "J" ∈ tb := tbc_1 201 rfl rfl
theorem w_202 : Cond.fieldLink "MailChain$Box" 75 "MailChain$PartLine" "sum" "J" ∈ tb := tbc_1 202 rfl rfl
theorem w_203 : Cond.fieldLink "MailChain$PartLine" 9 "MailChain$PartLine" "end" "I" ∈ tb := tbc_1 203 rfl rfl
theorem w_204 : Cond.fieldLink "MailChain$Box" 65 "MailChain$PartLine" "end" "I" ∈ tb := tbc_1 204 rfl rfl
theorem w_216 : Cond.fieldLink "MailChain$Box" 15 "MailChain$Box" "pieces" "LMailChain$Row;" ∈ tb := tbc_1 216 rfl rfl
theorem w_217 : Cond.fieldLink "MailChain$Box" 21 "MailChain$Box" "starts" "[I" ∈ tb := tbc_1 217 rfl rfl
theorem w_218 : Cond.fieldLink "MailChain$Box" 25 "MailChain$Box" "sizes" "[I" ∈ tb := tbc_1 218 rfl rfl
theorem w_219 : Cond.fieldLink "MailChain$Box" 37 "MailChain$Box" "line" "LMailChain$PartLine;" ∈ tb := tbc_1 219 rfl rfl
theorem w_220 : Cond.fieldLink "MailChain$Box" 41 "MailChain$Box" "n" "I" ∈ tb := tbc_1 220 rfl rfl
theorem w_221 : Cond.fieldLink "MailChain$Box" 45 "MailChain$Box" "bytes" "I" ∈ tb := tbc_1 221 rfl rfl
theorem w_222 : Cond.fieldLink "MailChain$Box" 48 "MailChain$Box" "count" "I" ∈ tb := tbc_1 222 rfl rfl
theorem w_223 : Cond.fieldLink "MailChain" 213 "MailChain$Box" "count" "I" ∈ tb := tbc_1 223 rfl rfl
theorem w_245 : Cond.fieldLink "MailChain$Squeezer" 9 "MailChain$Squeezer" "firstChild" "[I" ∈ tb := tbc_2 5 rfl rfl
theorem w_246 : Cond.fieldLink "MailChain$Squeezer" 15 "MailChain$Squeezer" "nextChild" "[I" ∈ tb := tbc_2 6 rfl rfl
theorem w_247 : Cond.fieldLink "MailChain$Squeezer" 18 "MailChain$Squeezer" "lastByte" "[I" ∈ tb := tbc_2 7 rfl rfl
theorem w_248 : Cond.fieldLink "MailChain$Squeezer" 59 "MailChain$Squeezer" "greatest" "I" ∈ tb := tbc_2 8 rfl rfl
theorem w_249 : Cond.fieldLink "MailChain$Squeezer" 71 "MailChain$Squeezer" "next" "I" ∈ tb := tbc_2 9 rfl rfl
theorem w_250 : Cond.fieldLink "MailChain$Squeezer" 62 "MailChain$Squeezer" "width" "I" ∈ tb := tbc_2 10 rfl rfl
theorem w_251 : Cond.fieldLink "MailChain$Squeezer" 65 "MailChain$Squeezer" "codesOfWidth" "I" ∈ tb := tbc_2 11 rfl rfl
theorem w_252 : Cond.fieldLink "MailChain$Squeezer" 56 "MailChain$Squeezer" "bits" "I" ∈ tb := tbc_2 12 rfl rfl
theorem w_253 : Cond.fieldLink "MailChain$Squeezer" 53 "MailChain$Squeezer" "bitCount" "I" ∈ tb := tbc_2 13 rfl rfl
theorem w_279 : Cond.fieldLink "MailChain$Expander" 9 "MailChain$Expander" "starts" "[I" ∈ tb := tbc_2 39 rfl rfl
theorem w_280 : Cond.fieldLink "MailChain$Expander" 15 "MailChain$Expander" "sizes" "[I" ∈ tb := tbc_2 40 rfl rfl
theorem w_281 : Cond.fieldLink "MailChain$Expander" 27 "MailChain$Expander" "greatest" "I" ∈ tb := tbc_2 41 rfl rfl
theorem w_282 : Cond.fieldLink "MailChain$Expander" 38 "MailChain$Expander" "next" "I" ∈ tb := tbc_2 42 rfl rfl
theorem w_283 : Cond.fieldLink "MailChain$Expander" 52 "MailChain$Expander" "width" "I" ∈ tb := tbc_2 43 rfl rfl
theorem w_284 : Cond.fieldLink "MailChain$Expander" 55 "MailChain$Expander" "codesOfWidth" "I" ∈ tb := tbc_2 44 rfl rfl
theorem w_285 : Cond.fieldLink "MailChain$Expander" 58 "MailChain$Expander" "groupStart" "I" ∈ tb := tbc_2 45 rfl rfl
theorem w_304 : Cond.fieldLink "MailChain" 14 "MailChain" "tape" "LMailChain$Row;" ∈ tb := tbc_2 64 rfl rfl
theorem w_305 : Cond.fieldLink "MailChain" 21 "MailChain" "mine" "LMailChain$Tree;" ∈ tb := tbc_2 65 rfl rfl
theorem w_306 : Cond.fieldLink "MailChain" 25 "MailChain" "yours" "LMailChain$Tree;" ∈ tb := tbc_2 66 rfl rfl
theorem w_307 : Cond.fieldLink "MailChain" 28 "MailChain" "draftOfYours" "LMailChain$Tree;" ∈ tb := tbc_2 67 rfl rfl
theorem w_308 : Cond.fieldLink "MailChain" 31 "MailChain" "archive" "LMailChain$Row;" ∈ tb := tbc_2 68 rfl rfl
theorem w_309 : Cond.fieldLink "MailChain" 34 "MailChain" "archiveIsFresh" "Z" ∈ tb := tbc_2 69 rfl rfl
theorem w_311 : Cond.fieldLink "MailChain" 48 "MailChain" "box" "LMailChain$Box;" ∈ tb := tbc_2 71 rfl rfl
theorem w_312 : Cond.fieldLink "MailChain" 55 "MailChain" "squeezer" "LMailChain$Squeezer;" ∈ tb := tbc_2 72 rfl rfl
theorem w_313 : Cond.fieldLink "MailChain" 62 "MailChain" "expander" "LMailChain$Expander;" ∈ tb := tbc_2 73 rfl rfl
theorem w_314 : Cond.fieldLink "MailChain" 66 "MailChain" "plain" "LMailChain$Row;" ∈ tb := tbc_2 74 rfl rfl
theorem w_315 : Cond.fieldLink "MailChain" 70 "MailChain" "squeezed" "LMailChain$Row;" ∈ tb := tbc_2 75 rfl rfl
theorem w_316 : Cond.fieldLink "MailChain" 74 "MailChain" "text" "LMailChain$Row;" ∈ tb := tbc_2 76 rfl rfl
theorem w_317 : Cond.fieldLink "MailChain" 78 "MailChain" "proof" "LMailChain$Row;" ∈ tb := tbc_2 77 rfl rfl
theorem w_351 : Cond.methodLink "MailChain" 156 y_Tr_wipe ∈ tb := tbc_2 111 rfl rfl
theorem w_352 : Cond.instanceMethod y_Tr_wipe ∈ tb := tbc_2 112 rfl rfl
theorem w_353 : Cond.selects "MailChain$Tree" y_Tr_wipe y_Tr_wipe ∈ tb := tbc_2 113 rfl rfl
theorem w_354 : Cond.code y_Tr_wipe b_Tr_wipe 1 none ∈ tb := tbc_2 114 rfl rfl
theorem w_355 : Cond.methodLink "MailChain$Tree" 34 y_Ro_wipe ∈ tb := tbc_2 115 rfl rfl
theorem w_356 : Cond.instanceMethod y_Ro_wipe ∈ tb := tbc_2 116 rfl rfl
theorem w_357 : Cond.selects "MailChain$Row" y_Ro_wipe y_Ro_wipe ∈ tb := tbc_2 117 rfl rfl
theorem w_358 : Cond.code y_Ro_wipe b_Ro_wipe 1 none ∈ tb := tbc_2 118 rfl rfl
theorem w_363 : Cond.methodLink "MailChain" 193 y_Ro_sum ∈ tb := tbc_2 123 rfl rfl
theorem w_364 : Cond.instanceMethod y_Ro_sum ∈ tb := tbc_2 124 rfl rfl
theorem w_365 : Cond.selects "MailChain$Row" y_Ro_sum y_Ro_sum ∈ tb := tbc_2 125 rfl rfl
theorem w_366 : Cond.code y_Ro_sum b_Ro_sum 5 (some FieldType.int) ∈ tb := tbc_2 126 rfl rfl
theorem w_367 : Cond.methodLink "MailChain$Row" 55 y_Ro_at ∈ tb := tbc_2 127 rfl rfl
theorem w_368 : Cond.instanceMethod y_Ro_at ∈ tb := tbc_2 128 rfl rfl
theorem w_369 : Cond.selects "MailChain$Row" y_Ro_at y_Ro_at ∈ tb := tbc_2 129 rfl rfl
theorem w_370 : Cond.code y_Ro_at b_Ro_at 2 (some FieldType.int) ∈ tb := tbc_2 130 rfl rfl
theorem w_371 : Cond.methodLink "MailChain$Row" 63 y_Ro_divide ∈ tb := tbc_2 131 rfl rfl
theorem w_372 : Cond.static y_Ro_divide ∈ tb := tbc_2 132 rfl rfl
theorem w_373 : Cond.code y_Ro_divide b_Ro_divide 3 (some FieldType.int) ∈ tb := tbc_2 133 rfl rfl
theorem w_374 : Cond.fieldLink "MailChain$Row" 67 "MailChain$Row" "REMAINDERS" "[I" ∈ tb := tbc_2 134 rfl rfl
theorem w_376 : Cond.methodLink "MailChain" 144 y_Ro_wipe ∈ tb := tbc_2 136 rfl rfl
theorem w_381 : Cond.methodLink "MailChain" 197 y_Bo_take ∈ tb := tbc_2 141 rfl rfl
theorem w_382 : Cond.instanceMethod y_Bo_take ∈ tb := tbc_2 142 rfl rfl
theorem w_383 : Cond.selects "MailChain$Box" y_Bo_take y_Bo_take ∈ tb := tbc_2 143 rfl rfl
theorem w_384 : Cond.code y_Bo_take b_Bo_take 2 (some FieldType.int) ∈ tb := tbc_2 144 rfl rfl
theorem w_385 : Cond.methodLink "MailChain$Box" 54 y_Pl_read ∈ tb := tbc_2 145 rfl rfl
theorem w_386 : Cond.instanceMethod y_Pl_read ∈ tb := tbc_2 146 rfl rfl
theorem w_387 : Cond.selects "MailChain$PartLine" y_Pl_read y_Pl_read ∈ tb := tbc_2 147 rfl rfl
theorem w_388 : Cond.code y_Pl_read b_Pl_read 3 (some FieldType.boolean) ∈ tb := tbc_2 148 rfl rfl
theorem w_390 : Cond.constantLong "MailChain$PartLine" 17 999 ∈ tb := tbc_2 150 rfl rfl
theorem w_391 : Cond.methodLink "MailChain$PartLine" 19 y_Pl_number ∈ tb := tbc_2 151 rfl rfl
theorem w_393 : Cond.instanceMethod y_Pl_number ∈ tb := tbc_2 153 rfl rfl
theorem w_394 : Cond.code y_Pl_number b_Pl_number 9 (some FieldType.long) ∈ tb := tbc_2 154 rfl rfl
theorem w_395 : Cond.methodLink "MailChain$PartLine" 54 y_Ro_hasText ∈ tb := tbc_2 155 rfl rfl
theorem w_396 : Cond.instanceMethod y_Ro_hasText ∈ tb := tbc_2 156 rfl rfl
theorem w_397 : Cond.selects "MailChain$Row" y_Ro_hasText y_Ro_hasText ∈ tb := tbc_2 157 rfl rfl
theorem w_398 : Cond.code y_Ro_hasText b_Ro_hasText 4 (some FieldType.boolean) ∈ tb := tbc_2 158 rfl rfl
theorem w_399 : Cond.methodLink "MailChain$Row" 40 y_JString_length ∈ tb := tbc_2 159 rfl rfl
theorem w_400 : Cond.instanceMethod y_JString_length ∈ tb := tbc_2 160 rfl rfl
theorem w_401 : Cond.selects "java/lang/String" y_JString_length y_JString_length ∈ tb := tbc_2 161 rfl rfl
theorem w_402 : Cond.code y_JString_length b_JString_length 1 (some FieldType.int) ∈ tb := tbc_2 162 rfl rfl
theorem w_403 : Cond.methodLink "java/lang/String" 335 y_JString_coder ∈ tb := tbc_2 163 rfl rfl
theorem w_404 : Cond.instanceMethod y_JString_coder ∈ tb := tbc_2 164 rfl rfl
theorem w_405 : Cond.selects "java/lang/String" y_JString_coder y_JString_coder ∈ tb := tbc_2 165 rfl rfl
theorem w_406 : Cond.code y_JString_coder b_JString_coder 1 (some FieldType.byte) ∈ tb := tbc_2 166 rfl rfl
theorem w_407 : Cond.fieldLink "java/lang/String" 38 "java/lang/String" "COMPACT_STRINGS" "Z" ∈ tb := tbc_2 167 rfl rfl
theorem w_409 : Cond.methodLink "MailChain$Row" 45 y_JString_charAt ∈ tb := tbc_2 169 rfl rfl
theorem w_410 : Cond.instanceMethod y_JString_charAt ∈ tb := tbc_2 170 rfl rfl
theorem w_411 : Cond.selects "java/lang/String" y_JString_charAt y_JString_charAt ∈ tb := tbc_2 171 rfl rfl
theorem w_412 : Cond.code y_JString_charAt b_JString_charAt 2 (some FieldType.char) ∈ tb := tbc_2 172 rfl rfl
theorem w_413 : Cond.methodLink "java/lang/String" 492 y_JString_isLatin1 ∈ tb := tbc_2 173 rfl rfl
theorem w_414 : Cond.instanceMethod y_JString_isLatin1 ∈ tb := tbc_2 174 rfl rfl
theorem w_415 : Cond.selects "java/lang/String" y_JString_isLatin1 y_JString_isLatin1 ∈ tb := tbc_2 175 rfl rfl
theorem w_416 : Cond.code y_JString_isLatin1 b_JString_isLatin1 1 (some FieldType.boolean) ∈ tb := tbc_2 176 rfl rfl
theorem w_417 : Cond.methodLink "java/lang/String" 495 y_JStringLatin1_charAt ∈ tb := tbc_2 177 rfl rfl
theorem w_418 : Cond.static y_JStringLatin1_charAt ∈ tb := tbc_2 178 rfl rfl
theorem w_419 : Cond.code y_JStringLatin1_charAt b_JStringLatin1_charAt 2 (some FieldType.char) ∈ tb := tbc_2 179 rfl rfl
theorem w_420 : Cond.methodLink "java/lang/StringLatin1" 9 y_JString_checkIndex ∈ tb := tbc_2 180 rfl rfl
theorem w_421 : Cond.static y_JString_checkIndex ∈ tb := tbc_2 181 rfl rfl
theorem w_422 : Cond.code y_JString_checkIndex b_JString_checkIndex 2 none ∈ tb := tbc_2 182 rfl rfl
theorem w_423 : Cond.fieldLink "java/lang/String" 1053 "jdk/internal/util/Preconditions" "SIOOBE_FORMATTER" "Ljava/util/function/BiFunction;" ∈ tb := tbc_2 183 rfl rfl
theorem w_425 : Cond.methodLink "java/lang/String" 1059 y_JPreconditions_checkIndex ∈ tb := tbc_2 185 rfl rfl
theorem w_426 : Cond.static y_JPreconditions_checkIndex ∈ tb := tbc_2 186 rfl rfl
theorem w_427 : Cond.code y_JPreconditions_checkIndex b_JPreconditions_checkIndex 3 (some FieldType.int) ∈ tb := tbc_2 187 rfl rfl
theorem w_447 : Cond.constantLong "MailChain$PartLine" 52 (-1) ∈ tb := tbc_2 207 rfl rfl
theorem w_448 : Cond.methodLink "MailChain$PartLine" 58 y_JString_length ∈ tb := tbc_2 208 rfl rfl
theorem w_449 : Cond.methodLink "MailChain$PartLine" 46 y_Ro_at ∈ tb := tbc_2 209 rfl rfl
theorem w_450 : Cond.methodLink "MailChain$PartLine" 64 y_Pl_isDigit ∈ tb := tbc_2 210 rfl rfl
theorem w_451 : Cond.static y_Pl_isDigit ∈ tb := tbc_2 211 rfl rfl
theorem w_452 : Cond.code y_Pl_isDigit b_Pl_isDigit 1 (some FieldType.boolean) ∈ tb := tbc_2 212 rfl rfl
theorem w_453 : Cond.constantLong "MailChain$PartLine" 68 10 ∈ tb := tbc_2 213 rfl rfl
theorem w_454 : Cond.constantLong "MailChain$PartLine" 70 48 ∈ tb := tbc_2 214 rfl rfl
theorem w_457 : Cond.constantLong "MailChain$PartLine" 33 48000 ∈ tb := tbc_2 217 rfl rfl
theorem w_459 : Cond.constantLong "MailChain$PartLine" 40 4294967295 ∈ tb := tbc_2 219 rfl rfl
theorem w_460 : Cond.methodLink "MailChain$Box" 69 y_Ro_sum ∈ tb := tbc_2 220 rfl rfl
theorem w_461 : Cond.constantLong "MailChain$Box" 73 4294967295 ∈ tb := tbc_2 221 rfl rfl
theorem w_462 : Cond.methodLink "MailChain$Box" 78 y_Bo_keep ∈ tb := tbc_2 222 rfl rfl
theorem w_463 : Cond.instanceMethod y_Bo_keep ∈ tb := tbc_2 223 rfl rfl
theorem w_464 : Cond.selects "MailChain$Box" y_Bo_keep y_Bo_keep ∈ tb := tbc_2 224 rfl rfl
theorem w_465 : Cond.code y_Bo_keep b_Bo_keep 5 none ∈ tb := tbc_2 225 rfl rfl
theorem w_466 : Cond.methodLink "MailChain$Box" 82 y_Ro_putRange ∈ tb := tbc_2 226 rfl rfl
theorem w_467 : Cond.instanceMethod y_Ro_putRange ∈ tb := tbc_2 227 rfl rfl
theorem w_468 : Cond.selects "MailChain$Row" y_Ro_putRange y_Ro_putRange ∈ tb := tbc_2 228 rfl rfl
theorem w_469 : Cond.code y_Ro_putRange b_Ro_putRange 5 none ∈ tb := tbc_2 229 rfl rfl
theorem w_470 : Cond.methodLink "MailChain$Row" 23 y_Ro_room ∈ tb := tbc_2 230 rfl rfl
theorem w_471 : Cond.instanceMethod y_Ro_room ∈ tb := tbc_2 231 rfl rfl
theorem w_472 : Cond.selects "MailChain$Row" y_Ro_room y_Ro_room ∈ tb := tbc_2 232 rfl rfl
theorem w_473 : Cond.code y_Ro_room b_Ro_room 1 (some FieldType.int) ∈ tb := tbc_2 233 rfl rfl
theorem w_474 : Cond.methodLink "MailChain$Row" 27 arraycopyName ∈ tb := tbc_2 234 rfl rfl
theorem w_475 : Cond.static arraycopyName ∈ tb := tbc_2 235 rfl rfl
theorem w_476 : Cond.native arraycopyName ∈ tb := tbc_2 236 rfl rfl
theorem w_481 : Cond.methodLink "MailChain" 205 y_Bo_wipe ∈ tb := tbc_3 1 rfl rfl
theorem w_482 : Cond.instanceMethod y_Bo_wipe ∈ tb := tbc_3 2 rfl rfl
theorem w_483 : Cond.selects "MailChain$Box" y_Bo_wipe y_Bo_wipe ∈ tb := tbc_3 3 rfl rfl
theorem w_484 : Cond.code y_Bo_wipe b_Bo_wipe 1 none ∈ tb := tbc_3 4 rfl rfl
theorem w_485 : Cond.methodLink "MailChain$Box" 51 y_Ro_wipe ∈ tb := tbc_3 5 rfl rfl
theorem w_490 : Cond.methodLink "MailChain" 214 y_Bo_isWhole ∈ tb := tbc_3 10 rfl rfl
theorem w_491 : Cond.instanceMethod y_Bo_isWhole ∈ tb := tbc_3 11 rfl rfl
theorem w_492 : Cond.selects "MailChain$Box" y_Bo_isWhole y_Bo_isWhole ∈ tb := tbc_3 12 rfl rfl
theorem w_493 : Cond.code y_Bo_isWhole b_Bo_isWhole 1 (some FieldType.boolean) ∈ tb := tbc_3 13 rfl rfl
theorem w_494 : Cond.methodLink "MailChain" 218 y_Bo_join ∈ tb := tbc_3 14 rfl rfl
theorem w_495 : Cond.instanceMethod y_Bo_join ∈ tb := tbc_3 15 rfl rfl
theorem w_496 : Cond.selects "MailChain$Box" y_Bo_join y_Bo_join ∈ tb := tbc_3 16 rfl rfl
theorem w_497 : Cond.code y_Bo_join b_Bo_join 3 (some FieldType.boolean) ∈ tb := tbc_3 17 rfl rfl
theorem w_498 : Cond.methodLink "MailChain" 222 y_Sp_read ∈ tb := tbc_3 18 rfl rfl
theorem w_499 : Cond.static y_Sp_read ∈ tb := tbc_3 19 rfl rfl
theorem w_500 : Cond.code y_Sp_read b_Sp_read 4 none ∈ tb := tbc_3 20 rfl rfl
theorem w_501 : Cond.methodLink "MailChain$Spelling" 9 y_Ro_wipe ∈ tb := tbc_3 21 rfl rfl
theorem w_503 : Cond.methodLink "MailChain$Spelling" 52 y_JString_length ∈ tb := tbc_3 23 rfl rfl
theorem w_504 : Cond.methodLink "MailChain$Spelling" 46 y_Ro_at ∈ tb := tbc_3 24 rfl rfl
theorem w_505 : Cond.methodLink "MailChain$Spelling" 58 y_Sp_sixOf ∈ tb := tbc_3 25 rfl rfl
theorem w_506 : Cond.static y_Sp_sixOf ∈ tb := tbc_3 26 rfl rfl
theorem w_507 : Cond.code y_Sp_sixOf b_Sp_sixOf 1 (some FieldType.int) ∈ tb := tbc_3 27 rfl rfl
theorem w_508 : Cond.methodLink "MailChain$Spelling" 61 y_Sp_readLine ∈ tb := tbc_3 28 rfl rfl
theorem w_509 : Cond.static y_Sp_readLine ∈ tb := tbc_3 29 rfl rfl
theorem w_510 : Cond.code y_Sp_readLine b_Sp_readLine 7 none ∈ tb := tbc_3 30 rfl rfl
theorem w_511 : Cond.methodLink "MailChain$Spelling" 42 y_Ro_put ∈ tb := tbc_3 31 rfl rfl
theorem w_512 : Cond.instanceMethod y_Ro_put ∈ tb := tbc_3 32 rfl rfl
theorem w_513 : Cond.selects "MailChain$Row" y_Ro_put y_Ro_put ∈ tb := tbc_3 33 rfl rfl
theorem w_514 : Cond.code y_Ro_put b_Ro_put 2 none ∈ tb := tbc_3 34 rfl rfl
theorem w_515 : Cond.methodLink "MailChain" 167 y_Sp_write ∈ tb := tbc_3 35 rfl rfl
theorem w_516 : Cond.static y_Sp_write ∈ tb := tbc_3 36 rfl rfl
theorem w_517 : Cond.code y_Sp_write b_Sp_write 3 none ∈ tb := tbc_3 37 rfl rfl
theorem w_518 : Cond.methodLink "MailChain$Spelling" 18 y_Ro_putText ∈ tb := tbc_3 38 rfl rfl
theorem w_519 : Cond.instanceMethod y_Ro_putText ∈ tb := tbc_3 39 rfl rfl
theorem w_520 : Cond.selects "MailChain$Row" y_Ro_putText y_Ro_putText ∈ tb := tbc_3 40 rfl rfl
theorem w_521 : Cond.code y_Ro_putText b_Ro_putText 3 none ∈ tb := tbc_3 41 rfl rfl
theorem w_522 : Cond.methodLink "MailChain$Row" 49 y_Ro_put ∈ tb := tbc_3 42 rfl rfl
theorem w_523 : Cond.methodLink "MailChain$Spelling" 26 Lib.Math.min.name ∈ tb := tbc_3 43 rfl rfl
theorem w_524 : Cond.static Lib.Math.min.name ∈ tb := tbc_3 44 rfl rfl
theorem w_525 : Cond.code Lib.Math.min.name Lib.Math.min.code 2 (some .int) ∈ tb := tbc_3 45 rfl rfl
theorem w_526 : Cond.methodLink "MailChain$Spelling" 32 y_Sp_writeLine ∈ tb := tbc_3 46 rfl rfl
theorem w_527 : Cond.static y_Sp_writeLine ∈ tb := tbc_3 47 rfl rfl
theorem w_528 : Cond.code y_Sp_writeLine b_Sp_writeLine 7 none ∈ tb := tbc_3 48 rfl rfl
theorem w_529 : Cond.methodLink "MailChain$Spelling" 38 y_Sp_letter ∈ tb := tbc_3 49 rfl rfl
theorem w_530 : Cond.static y_Sp_letter ∈ tb := tbc_3 50 rfl rfl
theorem w_531 : Cond.code y_Sp_letter b_Sp_letter 1 (some FieldType.int) ∈ tb := tbc_3 51 rfl rfl
theorem w_532 : Cond.methodLink "MailChain$Spelling" 49 Lib.Math.max.name ∈ tb := tbc_3 52 rfl rfl
theorem w_533 : Cond.static Lib.Math.max.name ∈ tb := tbc_3 53 rfl rfl
theorem w_534 : Cond.code Lib.Math.max.name Lib.Math.max.code 2 (some .int) ∈ tb := tbc_3 54 rfl rfl
theorem w_536 : Cond.methodLink "MailChain" 225 y_Ro_same ∈ tb := tbc_3 56 rfl rfl
theorem w_537 : Cond.instanceMethod y_Ro_same ∈ tb := tbc_3 57 rfl rfl
theorem w_538 : Cond.selects "MailChain$Row" y_Ro_same y_Ro_same ∈ tb := tbc_3 58 rfl rfl
theorem w_539 : Cond.code y_Ro_same b_Ro_same 2 (some FieldType.boolean) ∈ tb := tbc_3 59 rfl rfl
theorem w_540 : Cond.methodLink "MailChain$Row" 59 y_Ro_order ∈ tb := tbc_3 60 rfl rfl
theorem w_541 : Cond.instanceMethod y_Ro_order ∈ tb := tbc_3 61 rfl rfl
theorem w_542 : Cond.selects "MailChain$Row" y_Ro_order y_Ro_order ∈ tb := tbc_3 62 rfl rfl
theorem w_543 : Cond.code y_Ro_order b_Ro_order 5 (some FieldType.int) ∈ tb := tbc_3 63 rfl rfl
theorem w_544 : Cond.methodLink "MailChain" 228 y_Ex_expand ∈ tb := tbc_3 64 rfl rfl
theorem w_545 : Cond.instanceMethod y_Ex_expand ∈ tb := tbc_3 65 rfl rfl
theorem w_546 : Cond.selects "MailChain$Expander" y_Ex_expand y_Ex_expand ∈ tb := tbc_3 66 rfl rfl
theorem w_547 : Cond.code y_Ex_expand b_Ex_expand 7 (some FieldType.boolean) ∈ tb := tbc_3 67 rfl rfl
theorem w_548 : Cond.methodLink "MailChain$Expander" 18 y_Ro_wipe ∈ tb := tbc_3 68 rfl rfl
theorem w_549 : Cond.methodLink "MailChain$Expander" 23 y_Ro_at ∈ tb := tbc_3 69 rfl rfl
theorem w_551 : Cond.static y_Mc_isWidth ∈ tb := tbc_3 71 rfl rfl
theorem w_552 : Cond.code y_Mc_isWidth b_Mc_isWidth 1 (some FieldType.boolean) ∈ tb := tbc_3 72 rfl rfl
theorem w_553 : Cond.methodLink "MailChain$Expander" 35 y_Ex_begin ∈ tb := tbc_3 73 rfl rfl
theorem w_555 : Cond.instanceMethod y_Ex_begin ∈ tb := tbc_3 75 rfl rfl
theorem w_556 : Cond.code y_Ex_begin b_Ex_begin 1 none ∈ tb := tbc_3 76 rfl rfl
theorem w_557 : Cond.methodLink "MailChain$Expander" 41 y_Ex_readCode ∈ tb := tbc_3 77 rfl rfl
theorem w_559 : Cond.instanceMethod y_Ex_readCode ∈ tb := tbc_3 79 rfl rfl
theorem w_560 : Cond.code y_Ex_readCode b_Ex_readCode 5 (some FieldType.int) ∈ tb := tbc_3 80 rfl rfl
theorem w_561 : Cond.methodLink "MailChain$Expander" 61 y_Ex_changeWidth ∈ tb := tbc_3 81 rfl rfl
theorem w_563 : Cond.instanceMethod y_Ex_changeWidth ∈ tb := tbc_3 83 rfl rfl
theorem w_564 : Cond.code y_Ex_changeWidth b_Ex_changeWidth 2 none ∈ tb := tbc_3 84 rfl rfl
theorem w_565 : Cond.methodLink "MailChain$Expander" 68 Lib.Math.max.name ∈ tb := tbc_3 85 rfl rfl
theorem w_566 : Cond.methodLink "MailChain$Expander" 45 y_Ex_tell ∈ tb := tbc_3 86 rfl rfl
theorem w_568 : Cond.instanceMethod y_Ex_tell ∈ tb := tbc_3 88 rfl rfl
theorem w_569 : Cond.code y_Ex_tell b_Ex_tell 6 (some FieldType.boolean) ∈ tb := tbc_3 89 rfl rfl
theorem w_570 : Cond.methodLink "MailChain$Expander" 74 y_Ro_room ∈ tb := tbc_3 90 rfl rfl
theorem w_571 : Cond.methodLink "MailChain$Expander" 78 y_Ro_put ∈ tb := tbc_3 91 rfl rfl
theorem w_572 : Cond.methodLink "MailChain$Expander" 49 y_Ex_restart ∈ tb := tbc_3 92 rfl rfl
theorem w_574 : Cond.instanceMethod y_Ex_restart ∈ tb := tbc_3 94 rfl rfl
theorem w_575 : Cond.code y_Ex_restart b_Ex_restart 1 none ∈ tb := tbc_3 95 rfl rfl
theorem w_576 : Cond.methodLink "MailChain" 188 y_Ro_at ∈ tb := tbc_3 96 rfl rfl
theorem w_577 : Cond.methodLink "MailChain" 163 y_Sq_squeeze ∈ tb := tbc_3 97 rfl rfl
theorem w_578 : Cond.instanceMethod y_Sq_squeeze ∈ tb := tbc_3 98 rfl rfl
theorem w_579 : Cond.selects "MailChain$Squeezer" y_Sq_squeeze y_Sq_squeeze ∈ tb := tbc_3 99 rfl rfl
theorem w_580 : Cond.code y_Sq_squeeze b_Sq_squeeze 8 none ∈ tb := tbc_3 100 rfl rfl
theorem w_581 : Cond.methodLink "MailChain$Squeezer" 21 y_Ro_wipe ∈ tb := tbc_3 101 rfl rfl
theorem w_582 : Cond.methodLink "MailChain$Squeezer" 26 y_Ro_put ∈ tb := tbc_3 102 rfl rfl
theorem w_583 : Cond.methodLink "MailChain$Squeezer" 30 y_Sq_begin ∈ tb := tbc_3 103 rfl rfl
theorem w_585 : Cond.instanceMethod y_Sq_begin ∈ tb := tbc_3 105 rfl rfl
theorem w_586 : Cond.code y_Sq_begin b_Sq_begin 2 none ∈ tb := tbc_3 106 rfl rfl
theorem w_587 : Cond.methodLink "MailChain$Squeezer" 68 y_Sq_forget ∈ tb := tbc_3 107 rfl rfl
theorem w_589 : Cond.instanceMethod y_Sq_forget ∈ tb := tbc_3 109 rfl rfl
theorem w_590 : Cond.code y_Sq_forget b_Sq_forget 1 none ∈ tb := tbc_3 110 rfl rfl
theorem w_591 : Cond.methodLink "MailChain$Squeezer" 74 y_JArrays_fillx ∈ tb := tbc_3 111 rfl rfl
theorem w_592 : Cond.static y_JArrays_fillx ∈ tb := tbc_3 112 rfl rfl
theorem w_593 : Cond.code y_JArrays_fillx b_JArrays_fillx 5 none ∈ tb := tbc_3 113 rfl rfl
theorem w_594 : Cond.methodLink "java/util/Arrays" 13 y_JArrays_rangeCheck ∈ tb := tbc_3 114 rfl rfl
theorem w_595 : Cond.static y_JArrays_rangeCheck ∈ tb := tbc_3 115 rfl rfl
theorem w_596 : Cond.code y_JArrays_rangeCheck b_JArrays_rangeCheck 3 none ∈ tb := tbc_3 116 rfl rfl
theorem w_865 : Cond.fieldLink "java/lang/String" 9 "java/lang/String" "value" "[B" ∈ tb := tbc_4 145 rfl rfl
theorem w_866 : Cond.fieldLink "java/lang/String" 15 "java/lang/String" "coder" "B" ∈ tb := tbc_4 146 rfl rfl
theorem w_898 : Cond.methodLink "MailChain$Squeezer" 33 y_Ro_at ∈ tb := tbc_4 178 rfl rfl
theorem w_899 : Cond.methodLink "MailChain$Squeezer" 41 y_Sq_childOf ∈ tb := tbc_4 179 rfl rfl
theorem w_901 : Cond.instanceMethod y_Sq_childOf ∈ tb := tbc_4 181 rfl rfl
theorem w_902 : Cond.code y_Sq_childOf b_Sq_childOf 5 (some FieldType.int) ∈ tb := tbc_4 182 rfl rfl
theorem w_903 : Cond.methodLink "MailChain$Squeezer" 45 y_Sq_putCode ∈ tb := tbc_4 183 rfl rfl
theorem w_905 : Cond.instanceMethod y_Sq_putCode ∈ tb := tbc_4 185 rfl rfl
theorem w_906 : Cond.code y_Sq_putCode b_Sq_putCode 3 none ∈ tb := tbc_4 186 rfl rfl
theorem w_907 : Cond.methodLink "MailChain$Squeezer" 80 y_Sq_changeWidth ∈ tb := tbc_4 187 rfl rfl
theorem w_909 : Cond.instanceMethod y_Sq_changeWidth ∈ tb := tbc_4 189 rfl rfl
theorem w_910 : Cond.code y_Sq_changeWidth b_Sq_changeWidth 5 none ∈ tb := tbc_4 190 rfl rfl
theorem w_911 : Cond.methodLink "MailChain$Squeezer" 83 y_Sq_putBits ∈ tb := tbc_4 191 rfl rfl
theorem w_913 : Cond.instanceMethod y_Sq_putBits ∈ tb := tbc_4 193 rfl rfl
theorem w_914 : Cond.code y_Sq_putBits b_Sq_putBits 3 none ∈ tb := tbc_4 194 rfl rfl
theorem w_915 : Cond.methodLink "MailChain$Squeezer" 49 y_Sq_learn ∈ tb := tbc_4 195 rfl rfl
theorem w_917 : Cond.instanceMethod y_Sq_learn ∈ tb := tbc_4 197 rfl rfl
theorem w_918 : Cond.code y_Sq_learn b_Sq_learn 4 none ∈ tb := tbc_4 198 rfl rfl
theorem w_919 : Cond.methodLink "MailChain" 232 y_Ar_read ∈ tb := tbc_4 199 rfl rfl
theorem w_920 : Cond.static y_Ar_read ∈ tb := tbc_4 200 rfl rfl
theorem w_921 : Cond.code y_Ar_read b_Ar_read 4 (some FieldType.boolean) ∈ tb := tbc_4 201 rfl rfl
theorem w_922 : Cond.methodLink "MailChain$Archive" 97 y_Tr_wipe ∈ tb := tbc_4 202 rfl rfl
theorem w_924 : Cond.methodLink "MailChain$Archive" 98 y_Ro_hasText ∈ tb := tbc_4 204 rfl rfl
theorem w_925 : Cond.methodLink "MailChain$Archive" 102 y_Ar_readEntry ∈ tb := tbc_4 205 rfl rfl
theorem w_926 : Cond.static y_Ar_readEntry ∈ tb := tbc_4 206 rfl rfl
theorem w_927 : Cond.code y_Ar_readEntry b_Ar_readEntry 11 (some FieldType.int) ∈ tb := tbc_4 207 rfl rfl
theorem w_928 : Cond.methodLink "MailChain$Archive" 106 y_Ar_octal ∈ tb := tbc_4 208 rfl rfl
theorem w_929 : Cond.static y_Ar_octal ∈ tb := tbc_4 209 rfl rfl
theorem w_930 : Cond.code y_Ar_octal b_Ar_octal 7 (some FieldType.int) ∈ tb := tbc_4 210 rfl rfl
theorem w_931 : Cond.methodLink "MailChain$Archive" 130 y_Ro_at ∈ tb := tbc_4 211 rfl rfl
theorem w_932 : Cond.constantLong "MailChain$Archive" 133 8 ∈ tb := tbc_4 212 rfl rfl
theorem w_933 : Cond.constantLong "MailChain$Archive" 135 2147483647 ∈ tb := tbc_4 213 rfl rfl
theorem w_934 : Cond.methodLink "MailChain$Archive" 110 y_Tr_draft ∈ tb := tbc_4 214 rfl rfl
theorem w_935 : Cond.instanceMethod y_Tr_draft ∈ tb := tbc_4 215 rfl rfl
theorem w_936 : Cond.selects "MailChain$Tree" y_Tr_draft y_Tr_draft ∈ tb := tbc_4 216 rfl rfl
theorem w_937 : Cond.code y_Tr_draft b_Tr_draft 1 (some (FieldType.object "MailChain$Entry")) ∈ tb := tbc_4 217 rfl rfl
theorem w_938 : Cond.methodLink "MailChain$Archive" 114 y_Ro_copy ∈ tb := tbc_4 218 rfl rfl
theorem w_939 : Cond.instanceMethod y_Ro_copy ∈ tb := tbc_4 219 rfl rfl
theorem w_940 : Cond.selects "MailChain$Row" y_Ro_copy y_Ro_copy ∈ tb := tbc_4 220 rfl rfl
theorem w_941 : Cond.code y_Ro_copy b_Ro_copy 4 none ∈ tb := tbc_4 221 rfl rfl
theorem w_942 : Cond.methodLink "MailChain$Row" 33 y_Ro_wipe ∈ tb := tbc_4 222 rfl rfl
theorem w_943 : Cond.methodLink "MailChain$Row" 36 y_Ro_putRange ∈ tb := tbc_4 223 rfl rfl
theorem w_944 : Cond.methodLink "MailChain$Archive" 117 y_Ar_readFields ∈ tb := tbc_4 224 rfl rfl
theorem w_945 : Cond.static y_Ar_readFields ∈ tb := tbc_4 225 rfl rfl
theorem w_946 : Cond.code y_Ar_readFields b_Ar_readFields 4 none ∈ tb := tbc_4 226 rfl rfl
theorem w_947 : Cond.methodLink "MailChain$Archive" 127 y_Ar_kindOf ∈ tb := tbc_4 227 rfl rfl
theorem w_948 : Cond.static y_Ar_kindOf ∈ tb := tbc_4 228 rfl rfl
theorem w_949 : Cond.code y_Ar_kindOf b_Ar_kindOf 2 (some FieldType.int) ∈ tb := tbc_4 229 rfl rfl
theorem w_950 : Cond.methodLink "MailChain$Archive" 80 y_Ar_kindDigits ∈ tb := tbc_4 230 rfl rfl
theorem w_951 : Cond.static y_Ar_kindDigits ∈ tb := tbc_4 231 rfl rfl
theorem w_952 : Cond.code y_Ar_kindDigits b_Ar_kindDigits 1 (some FieldType.int) ∈ tb := tbc_4 232 rfl rfl
theorem w_953 : Cond.methodLink "MailChain$Archive" 121 y_Tr_enter ∈ tb := tbc_4 233 rfl rfl
theorem w_954 : Cond.instanceMethod y_Tr_enter ∈ tb := tbc_4 234 rfl rfl
theorem w_955 : Cond.selects "MailChain$Tree" y_Tr_enter y_Tr_enter ∈ tb := tbc_4 235 rfl rfl
theorem w_956 : Cond.code y_Tr_enter b_Tr_enter 6 (some FieldType.int) ∈ tb := tbc_4 236 rfl rfl
theorem w_957 : Cond.methodLink "MailChain$Tree" 37 y_Tr_draft ∈ tb := tbc_4 237 rfl rfl
theorem w_958 : Cond.methodLink "MailChain$Tree" 41 y_En_hasSoundFields ∈ tb := tbc_4 238 rfl rfl
theorem w_959 : Cond.instanceMethod y_En_hasSoundFields ∈ tb := tbc_4 239 rfl rfl
theorem w_960 : Cond.selects "MailChain$Entry" y_En_hasSoundFields y_En_hasSoundFields ∈ tb := tbc_5 0 rfl rfl
theorem w_961 : Cond.code y_En_hasSoundFields b_En_hasSoundFields 1 (some FieldType.boolean) ∈ tb := tbc_5 1 rfl rfl
theorem w_962 : Cond.methodLink "MailChain$Tree" 48 y_Tr_isBody ∈ tb := tbc_5 2 rfl rfl
theorem w_963 : Cond.static y_Tr_isBody ∈ tb := tbc_5 3 rfl rfl
theorem w_964 : Cond.code y_Tr_isBody b_Tr_isBody 4 (some FieldType.boolean) ∈ tb := tbc_5 4 rfl rfl
theorem w_965 : Cond.methodLink "MailChain$Tree" 78 y_Tr_isTarget ∈ tb := tbc_5 5 rfl rfl
theorem w_966 : Cond.static y_Tr_isTarget ∈ tb := tbc_5 6 rfl rfl
theorem w_967 : Cond.code y_Tr_isTarget b_Tr_isTarget 4 (some FieldType.boolean) ∈ tb := tbc_5 7 rfl rfl
theorem w_968 : Cond.methodLink "MailChain$Tree" 82 y_Ro_at ∈ tb := tbc_5 8 rfl rfl
theorem w_969 : Cond.methodLink "MailChain$Tree" 62 y_Tr_insertDraft ∈ tb := tbc_5 9 rfl rfl
theorem w_971 : Cond.instanceMethod y_Tr_insertDraft ∈ tb := tbc_5 11 rfl rfl
theorem w_972 : Cond.code y_Tr_insertDraft b_Tr_insertDraft 5 (some FieldType.int) ∈ tb := tbc_5 12 rfl rfl
theorem w_973 : Cond.methodLink "MailChain$Tree" 86 y_En_hasSoundPath ∈ tb := tbc_5 13 rfl rfl
theorem w_974 : Cond.instanceMethod y_En_hasSoundPath ∈ tb := tbc_5 14 rfl rfl
theorem w_975 : Cond.selects "MailChain$Entry" y_En_hasSoundPath y_En_hasSoundPath ∈ tb := tbc_5 15 rfl rfl
theorem w_976 : Cond.code y_En_hasSoundPath b_En_hasSoundPath 4 (some FieldType.boolean) ∈ tb := tbc_5 16 rfl rfl
theorem w_977 : Cond.methodLink "MailChain$Entry" 46 y_Ro_at ∈ tb := tbc_5 17 rfl rfl
theorem w_978 : Cond.methodLink "MailChain$Entry" 50 y_En_isName ∈ tb := tbc_5 18 rfl rfl
theorem w_980 : Cond.instanceMethod y_En_isName ∈ tb := tbc_5 20 rfl rfl
theorem w_981 : Cond.code y_En_isName b_En_isName 4 (some FieldType.boolean) ∈ tb := tbc_5 21 rfl rfl
theorem w_982 : Cond.methodLink "MailChain$Tree" 89 y_Tr_hasParentOf ∈ tb := tbc_5 22 rfl rfl
theorem w_984 : Cond.instanceMethod y_Tr_hasParentOf ∈ tb := tbc_5 24 rfl rfl
theorem w_985 : Cond.code y_Tr_hasParentOf b_Tr_hasParentOf 4 (some FieldType.boolean) ∈ tb := tbc_5 25 rfl rfl
theorem w_986 : Cond.methodLink "MailChain$Tree" 104 y_En_parentSize ∈ tb := tbc_5 26 rfl rfl
theorem w_987 : Cond.instanceMethod y_En_parentSize ∈ tb := tbc_5 27 rfl rfl
theorem w_988 : Cond.selects "MailChain$Entry" y_En_parentSize y_En_parentSize ∈ tb := tbc_5 28 rfl rfl
theorem w_989 : Cond.code y_En_parentSize b_En_parentSize 3 (some FieldType.int) ∈ tb := tbc_5 29 rfl rfl
theorem w_990 : Cond.methodLink "MailChain$Tree" 96 y_Tr_placeOf ∈ tb := tbc_5 30 rfl rfl
theorem w_992 : Cond.instanceMethod y_Tr_placeOf ∈ tb := tbc_5 32 rfl rfl
theorem w_993 : Cond.code y_Tr_placeOf b_Tr_placeOf 4 (some FieldType.int) ∈ tb := tbc_5 33 rfl rfl
theorem w_994 : Cond.methodLink "MailChain$Tree" 107 y_Ro_order ∈ tb := tbc_5 34 rfl rfl
theorem w_995 : Cond.methodLink "MailChain$Tree" 70 y_Tr_has ∈ tb := tbc_5 35 rfl rfl
theorem w_996 : Cond.instanceMethod y_Tr_has ∈ tb := tbc_5 36 rfl rfl
theorem w_997 : Cond.selects "MailChain$Tree" y_Tr_has y_Tr_has ∈ tb := tbc_5 37 rfl rfl
theorem w_998 : Cond.code y_Tr_has b_Tr_has 2 (some FieldType.boolean) ∈ tb := tbc_5 38 rfl rfl
theorem w_999 : Cond.methodLink "MailChain$Tree" 100 y_Ro_same ∈ tb := tbc_5 39 rfl rfl
theorem w_1000 : Cond.methodLink "MailChain$Tree" 66 y_Ro_putRange ∈ tb := tbc_5 40 rfl rfl
theorem w_1001 : Cond.methodLink "MailChain$Archive" 124 y_Tr_enterLink ∈ tb := tbc_5 41 rfl rfl
theorem w_1002 : Cond.instanceMethod y_Tr_enterLink ∈ tb := tbc_5 42 rfl rfl
theorem w_1003 : Cond.selects "MailChain$Tree" y_Tr_enterLink y_Tr_enterLink ∈ tb := tbc_5 43 rfl rfl
theorem w_1004 : Cond.code y_Tr_enterLink b_Tr_enterLink 2 (some FieldType.int) ∈ tb := tbc_5 44 rfl rfl
theorem w_1005 : Cond.methodLink "MailChain$Tree" 74 y_En_becomeLinkOf ∈ tb := tbc_5 45 rfl rfl
theorem w_1006 : Cond.instanceMethod y_En_becomeLinkOf ∈ tb := tbc_5 46 rfl rfl
theorem w_1007 : Cond.selects "MailChain$Entry" y_En_becomeLinkOf y_En_becomeLinkOf ∈ tb := tbc_5 47 rfl rfl
theorem w_1008 : Cond.code y_En_becomeLinkOf b_En_becomeLinkOf 2 none ∈ tb := tbc_5 48 rfl rfl
theorem w_1009 : Cond.methodLink "MailChain" 178 y_Ar_write ∈ tb := tbc_5 49 rfl rfl
theorem w_1010 : Cond.static y_Ar_write ∈ tb := tbc_5 50 rfl rfl
theorem w_1011 : Cond.code y_Ar_write b_Ar_write 4 none ∈ tb := tbc_5 51 rfl rfl
theorem w_1012 : Cond.methodLink "MailChain$Archive" 9 y_Ro_wipe ∈ tb := tbc_5 52 rfl rfl
theorem w_1013 : Cond.methodLink "MailChain$Archive" 14 y_Tr_hasArchive ∈ tb := tbc_5 53 rfl rfl
theorem w_1014 : Cond.instanceMethod y_Tr_hasArchive ∈ tb := tbc_5 54 rfl rfl
theorem w_1015 : Cond.selects "MailChain$Tree" y_Tr_hasArchive y_Tr_hasArchive ∈ tb := tbc_5 55 rfl rfl
theorem w_1016 : Cond.code y_Tr_hasArchive b_Tr_hasArchive 3 (some FieldType.boolean) ∈ tb := tbc_5 56 rfl rfl
theorem w_1017 : Cond.constant "MailChain$Tree" 113 262143 ∈ tb := tbc_5 57 rfl rfl
theorem w_1018 : Cond.methodLink "MailChain$Archive" 28 y_Tr_firstLinkOf ∈ tb := tbc_5 58 rfl rfl
theorem w_1019 : Cond.instanceMethod y_Tr_firstLinkOf ∈ tb := tbc_5 59 rfl rfl
theorem w_1020 : Cond.selects "MailChain$Tree" y_Tr_firstLinkOf y_Tr_firstLinkOf ∈ tb := tbc_5 60 rfl rfl
theorem w_1021 : Cond.code y_Tr_firstLinkOf b_Tr_firstLinkOf 3 (some FieldType.int) ∈ tb := tbc_5 61 rfl rfl
theorem w_1022 : Cond.methodLink "MailChain$Archive" 32 y_Tr_linksOf ∈ tb := tbc_5 62 rfl rfl
theorem w_1023 : Cond.instanceMethod y_Tr_linksOf ∈ tb := tbc_5 63 rfl rfl
theorem w_1024 : Cond.selects "MailChain$Tree" y_Tr_linksOf y_Tr_linksOf ∈ tb := tbc_5 64 rfl rfl
theorem w_1025 : Cond.code y_Tr_linksOf b_Tr_linksOf 4 (some FieldType.int) ∈ tb := tbc_5 65 rfl rfl
theorem w_1026 : Cond.methodLink "MailChain$Archive" 35 y_Ar_writeHeader ∈ tb := tbc_5 66 rfl rfl
theorem w_1027 : Cond.static y_Ar_writeHeader ∈ tb := tbc_5 67 rfl rfl
theorem w_1028 : Cond.code y_Ar_writeHeader b_Ar_writeHeader 4 none ∈ tb := tbc_5 68 rfl rfl
theorem w_1030 : Cond.methodLink "MailChain$Archive" 67 y_Ro_putText ∈ tb := tbc_5 70 rfl rfl
theorem w_1031 : Cond.methodLink "MailChain$Archive" 73 y_Ro_putOctal ∈ tb := tbc_5 71 rfl rfl
theorem w_1032 : Cond.instanceMethod y_Ro_putOctal ∈ tb := tbc_5 72 rfl rfl
theorem w_1033 : Cond.selects "MailChain$Row" y_Ro_putOctal y_Ro_putOctal ∈ tb := tbc_5 73 rfl rfl
theorem w_1034 : Cond.code y_Ro_putOctal b_Ro_putOctal 4 none ∈ tb := tbc_5 74 rfl rfl
theorem w_1036 : Cond.methodLink "MailChain$Archive" 50 y_Ro_putRange ∈ tb := tbc_5 76 rfl rfl
theorem w_1037 : Cond.methodLink "MailChain$Archive" 54 y_Ro_put ∈ tb := tbc_5 77 rfl rfl
theorem w_1038 : Cond.methodLink "MailChain" 235 y_Mc_swapYours ∈ tb := tbc_5 78 rfl rfl
theorem w_1040 : Cond.instanceMethod y_Mc_swapYours ∈ tb := tbc_5 80 rfl rfl
theorem w_1041 : Cond.code y_Mc_swapYours b_Mc_swapYours 2 none ∈ tb := tbc_5 81 rfl rfl
theorem w_1158 : Cond.methodLink "MailChain$Mail" 38 y_Ro_copy ∈ tb := tbc_5 198 rfl rfl
theorem w_1159 : Cond.methodLink "MailChain$Mail" 42 y_Ma_pieceEnd ∈ tb := tbc_5 199 rfl rfl
theorem w_1161 : Cond.instanceMethod y_Ma_pieceEnd ∈ tb := tbc_5 201 rfl rfl
theorem w_1162 : Cond.code y_Ma_pieceEnd b_Ma_pieceEnd 2 (some FieldType.int) ∈ tb := tbc_5 202 rfl rfl
theorem w_1163 : Cond.methodLink "MailChain$Mail" 83 Lib.Math.min.name ∈ tb := tbc_5 203 rfl rfl
theorem w_1164 : Cond.methodLink "MailChain$Mail" 46 y_Ro_sum ∈ tb := tbc_5 204 rfl rfl
theorem w_1173 : Cond.instanceMethod y_Ma_has ∈ tb := tbc_5 213 rfl rfl
theorem w_1174 : Cond.selects "MailChain$Mail" y_Ma_has y_Ma_has ∈ tb := tbc_5 214 rfl rfl
theorem w_1175 : Cond.code y_Ma_has b_Ma_has 2 (some FieldType.boolean) ∈ tb := tbc_5 215 rfl rfl
theorem w_1180 : Cond.methodLink "MailChain$Mail" 50 y_Ro_wipe ∈ tb := tbc_5 220 rfl rfl
theorem w_1181 : Cond.methodLink "MailChain$Mail" 53 y_Ma_has ∈ tb := tbc_5 221 rfl rfl
theorem w_1183 : Cond.methodLink "MailChain$Mail" 61 y_Ro_putText ∈ tb := tbc_5 223 rfl rfl
theorem w_1184 : Cond.methodLink "MailChain$Mail" 65 y_Ro_putDecimal ∈ tb := tbc_5 224 rfl rfl
theorem w_1185 : Cond.instanceMethod y_Ro_putDecimal ∈ tb := tbc_5 225 rfl rfl
theorem w_1186 : Cond.selects "MailChain$Row" y_Ro_putDecimal y_Ro_putDecimal ∈ tb := tbc_5 226 rfl rfl
theorem w_1187 : Cond.code y_Ro_putDecimal b_Ro_putDecimal 6 none ∈ tb := tbc_5 227 rfl rfl
theorem w_1188 : Cond.constantLong "MailChain$Row" 53 10 ∈ tb := tbc_5 228 rfl rfl
theorem w_1192 : Cond.constantLong "MailChain$Mail" 75 4294967295 ∈ tb := tbc_5 232 rfl rfl
theorem w_1193 : Cond.methodLink "MailChain$Mail" 77 y_Ro_put ∈ tb := tbc_5 233 rfl rfl
theorem w_1194 : Cond.methodLink "MailChain$Mail" 80 y_Ro_putRange ∈ tb := tbc_5 234 rfl rfl
theorem w_1196 : Cond.instanceMethod y_Ro_has ∈ tb := tbc_5 236 rfl rfl
theorem w_1197 : Cond.selects "MailChain$Row" y_Ro_has y_Ro_has ∈ tb := tbc_5 237 rfl rfl
theorem w_1198 : Cond.code y_Ro_has b_Ro_has 2 (some FieldType.boolean) ∈ tb := tbc_5 238 rfl rfl
theorem w_1217 : Cond.methodLink "MailChain$Row" 19 y_Ro_has ∈ tb := tbc_6 17 rfl rfl
theorem w_1241 : Cond.methodLink "MailChain$Tree" 123 y_Tr_firstLinkOf ∈ tb := tbc_6 41 rfl rfl
theorem w_1242 : Cond.methodLink "MailChain$Tree" 126 y_Tr_linksOf ∈ tb := tbc_6 42 rfl rfl
theorem w_1265 : Cond.constant "MailChainModel" 78 40000 ∈ tb := tbc_6 65 rfl rfl
theorem w_1269 : Cond.fieldLink "MailChainModel" 7 "MailChainModel" "trailerName" "[B" ∈ tb := tbc_6 69 rfl rfl
theorem w_1270 : Cond.fieldLink "MailChainModel" 13 "MailChainModel" "beginLine" "[B" ∈ tb := tbc_6 70 rfl rfl
theorem w_1271 : Cond.fieldLink "MailChainModel" 16 "MailChainModel" "partWord" "[B" ∈ tb := tbc_6 71 rfl rfl
theorem w_1272 : Cond.fieldLink "MailChainModel" 19 "MailChainModel" "ofWord" "[B" ∈ tb := tbc_6 72 rfl rfl
theorem w_1273 : Cond.fieldLink "MailChainModel" 22 "MailChainModel" "sizeWord" "[B" ∈ tb := tbc_6 73 rfl rfl
theorem w_1274 : Cond.fieldLink "MailChainModel" 25 "MailChainModel" "sumWord" "[B" ∈ tb := tbc_6 74 rfl rfl
theorem w_1275 : Cond.fieldLink "MailChainModel" 128 "MailChainModel" "thrown" "I" ∈ tb := tbc_6 75 rfl rfl
theorem w_1276 : Cond.fieldLink "MailChainModel" 132 "MailChainModel" "taped" "I" ∈ tb := tbc_6 76 rfl rfl
theorem w_1277 : Cond.fieldLink "MailChainModel" 28 "MailChainModel" "tape" "[B" ∈ tb := tbc_6 77 rfl rfl
theorem w_1278 : Cond.fieldLink "MailChainModel" 31 "MailChainModel" "count" "[I" ∈ tb := tbc_6 78 rfl rfl
theorem w_1279 : Cond.fieldLink "MailChainModel" 35 "MailChainModel" "paths" "[B" ∈ tb := tbc_6 79 rfl rfl
theorem w_1280 : Cond.fieldLink "MailChainModel" 38 "MailChainModel" "pathSize" "[I" ∈ tb := tbc_6 80 rfl rfl
theorem w_1281 : Cond.fieldLink "MailChainModel" 41 "MailChainModel" "kind" "[I" ∈ tb := tbc_6 81 rfl rfl
theorem w_1282 : Cond.fieldLink "MailChainModel" 44 "MailChainModel" "mode" "[I" ∈ tb := tbc_6 82 rfl rfl
theorem w_1283 : Cond.fieldLink "MailChainModel" 47 "MailChainModel" "owner" "[I" ∈ tb := tbc_6 83 rfl rfl
theorem w_1284 : Cond.fieldLink "MailChainModel" 50 "MailChainModel" "group" "[I" ∈ tb := tbc_6 84 rfl rfl
theorem w_1285 : Cond.fieldLink "MailChainModel" 53 "MailChainModel" "time" "[I" ∈ tb := tbc_6 85 rfl rfl
theorem w_1286 : Cond.fieldLink "MailChainModel" 56 "MailChainModel" "from" "[I" ∈ tb := tbc_6 86 rfl rfl
theorem w_1287 : Cond.fieldLink "MailChainModel" 59 "MailChainModel" "size" "[I" ∈ tb := tbc_6 87 rfl rfl
theorem w_1288 : Cond.fieldLink "MailChainModel" 62 "MailChainModel" "linked" "[I" ∈ tb := tbc_6 88 rfl rfl
theorem w_1289 : Cond.fieldLink "MailChainModel" 65 "MailChainModel" "used" "[I" ∈ tb := tbc_6 89 rfl rfl
theorem w_1290 : Cond.fieldLink "MailChainModel" 69 "MailChainModel" "contents" "[B" ∈ tb := tbc_6 90 rfl rfl
theorem w_1291 : Cond.fieldLink "MailChainModel" 182 "MailChainModel" "groups" "I" ∈ tb := tbc_6 91 rfl rfl
theorem w_1292 : Cond.fieldLink "MailChainModel" 72 "MailChainModel" "path" "[B" ∈ tb := tbc_6 92 rfl rfl
theorem w_1293 : Cond.fieldLink "MailChainModel" 135 "MailChainModel" "pathBytes" "I" ∈ tb := tbc_6 93 rfl rfl
theorem w_1294 : Cond.fieldLink "MailChainModel" 195 "MailChainModel" "archived" "I" ∈ tb := tbc_6 94 rfl rfl
theorem w_1295 : Cond.fieldLink "MailChainModel" 75 "MailChainModel" "archive" "[B" ∈ tb := tbc_6 95 rfl rfl
theorem w_1296 : Cond.fieldLink "MailChainModel" 232 "MailChainModel" "compressed" "I" ∈ tb := tbc_6 96 rfl rfl
theorem w_1297 : Cond.fieldLink "MailChainModel" 79 "MailChainModel" "compress" "[B" ∈ tb := tbc_6 97 rfl rfl
theorem w_1298 : Cond.fieldLink "MailChainModel" 274 "MailChainModel" "spelled" "I" ∈ tb := tbc_6 98 rfl rfl
theorem w_1299 : Cond.fieldLink "MailChainModel" 83 "MailChainModel" "spell" "[B" ∈ tb := tbc_6 99 rfl rfl
theorem w_1300 : Cond.fieldLink "MailChainModel" 305 "MailChainModel" "parts" "I" ∈ tb := tbc_6 100 rfl rfl
theorem w_1301 : Cond.fieldLink "MailChainModel" 308 "MailChainModel" "pieceSize" "I" ∈ tb := tbc_6 101 rfl rfl
theorem w_1302 : Cond.fieldLink "MailChainModel" 311 "MailChainModel" "packedSize" "I" ∈ tb := tbc_6 102 rfl rfl
theorem w_1303 : Cond.fieldLink "MailChainModel" 86 "MailChainModel" "packed" "[B" ∈ tb := tbc_6 103 rfl rfl
theorem w_1304 : Cond.fieldLink "MailChainModel" 314 "MailChainModel" "textSize" "I" ∈ tb := tbc_6 104 rfl rfl
theorem w_1305 : Cond.fieldLink "MailChainModel" 89 "MailChainModel" "text" "[B" ∈ tb := tbc_6 105 rfl rfl
theorem w_1306 : Cond.fieldLink "MailChainModel" 360 "MailChainModel" "boxOf" "I" ∈ tb := tbc_6 106 rfl rfl
theorem w_1307 : Cond.fieldLink "MailChainModel" 357 "MailChainModel" "boxParts" "I" ∈ tb := tbc_6 107 rfl rfl
theorem w_1308 : Cond.fieldLink "MailChainModel" 367 "MailChainModel" "boxBytes" "J" ∈ tb := tbc_6 108 rfl rfl
theorem w_1309 : Cond.fieldLink "MailChainModel" 92 "MailChainModel" "has" "[Z" ∈ tb := tbc_6 109 rfl rfl
theorem w_1310 : Cond.fieldLink "MailChainModel" 96 "MailChainModel" "boxSize" "[I" ∈ tb := tbc_6 110 rfl rfl
theorem w_1311 : Cond.fieldLink "MailChainModel" 99 "MailChainModel" "boxFrom" "[I" ∈ tb := tbc_6 111 rfl rfl
theorem w_1312 : Cond.fieldLink "MailChainModel" 371 "MailChainModel" "boxUsed" "I" ∈ tb := tbc_6 112 rfl rfl
theorem w_1313 : Cond.fieldLink "MailChainModel" 103 "MailChainModel" "box" "[B" ∈ tb := tbc_6 113 rfl rfl
theorem w_1314 : Cond.fieldLink "MailChainModel" 259 "MailChainModel" "readSize" "I" ∈ tb := tbc_6 114 rfl rfl
theorem w_1315 : Cond.fieldLink "MailChainModel" 106 "MailChainModel" "read" "[B" ∈ tb := tbc_6 115 rfl rfl
theorem w_1316 : Cond.fieldLink "MailChainModel" 262 "MailChainModel" "backSize" "I" ∈ tb := tbc_6 116 rfl rfl
theorem w_1317 : Cond.fieldLink "MailChainModel" 109 "MailChainModel" "back" "[B" ∈ tb := tbc_6 117 rfl rfl
theorem w_1318 : Cond.fieldLink "MailChainModel" 113 "MailChainModel" "child" "[I" ∈ tb := tbc_6 118 rfl rfl
theorem w_1319 : Cond.fieldLink "MailChainModel" 116 "MailChainModel" "beside" "[I" ∈ tb := tbc_6 119 rfl rfl
theorem w_1320 : Cond.fieldLink "MailChainModel" 119 "MailChainModel" "last" "[I" ∈ tb := tbc_6 120 rfl rfl
theorem w_1321 : Cond.fieldLink "MailChainModel" 122 "MailChainModel" "before" "[I" ∈ tb := tbc_6 121 rfl rfl
theorem w_1322 : Cond.fieldLink "MailChainModel" 222 "MailChainModel" "next" "I" ∈ tb := tbc_6 122 rfl rfl
theorem w_1323 : Cond.fieldLink "MailChainModel" 238 "MailChainModel" "width" "I" ∈ tb := tbc_6 123 rfl rfl
theorem w_1324 : Cond.fieldLink "MailChainModel" 235 "MailChainModel" "codes" "I" ∈ tb := tbc_6 124 rfl rfl
theorem w_1325 : Cond.fieldLink "MailChainModel" 226 "MailChainModel" "bits" "I" ∈ tb := tbc_6 125 rfl rfl
theorem w_1326 : Cond.fieldLink "MailChainModel" 229 "MailChainModel" "bitCount" "I" ∈ tb := tbc_6 126 rfl rfl
theorem w_1327 : Cond.fieldLink "MailChainModel" 256 "MailChainModel" "bitAt" "I" ∈ tb := tbc_6 127 rfl rfl
theorem w_1328 : Cond.fieldLink "MailChainModel" 322 "MailChainModel" "partSize" "I" ∈ tb := tbc_6 128 rfl rfl
theorem w_1329 : Cond.fieldLink "MailChainModel" 125 "MailChainModel" "one" "[B" ∈ tb := tbc_6 129 rfl rfl
theorem w_1330 : Cond.fieldLink "MailChainModel" 338 "MailChainModel" "head" "I" ∈ tb := tbc_6 130 rfl rfl
theorem w_1473 : Cond.methodLink "MailChainModel" 185 y_Mo_added ∈ tb := tbc_7 33 rfl rfl
theorem w_1475 : Cond.instanceMethod y_Mo_added ∈ tb := tbc_7 35 rfl rfl
theorem w_1476 : Cond.code y_Mo_added b_Mo_added 11 (some FieldType.int) ∈ tb := tbc_7 36 rfl rfl
theorem w_1477 : Cond.methodLink "MailChainModel" 156 y_Mo_isNumber ∈ tb := tbc_7 37 rfl rfl
theorem w_1478 : Cond.static y_Mo_isNumber ∈ tb := tbc_7 38 rfl rfl
theorem w_1479 : Cond.code y_Mo_isNumber b_Mo_isNumber 1 (some FieldType.boolean) ∈ tb := tbc_7 39 rfl rfl
theorem w_1480 : Cond.methodLink "MailChainModel" 160 y_Mo_look ∈ tb := tbc_7 40 rfl rfl
theorem w_1482 : Cond.instanceMethod y_Mo_look ∈ tb := tbc_7 42 rfl rfl
theorem w_1483 : Cond.code y_Mo_look b_Mo_look 5 none ∈ tb := tbc_7 43 rfl rfl
theorem w_1484 : Cond.methodLink "MailChainModel" 164 y_Mo_mayBe ∈ tb := tbc_7 44 rfl rfl
theorem w_1486 : Cond.instanceMethod y_Mo_mayBe ∈ tb := tbc_7 46 rfl rfl
theorem w_1487 : Cond.code y_Mo_mayBe b_Mo_mayBe 4 (some FieldType.boolean) ∈ tb := tbc_7 47 rfl rfl
theorem w_1488 : Cond.methodLink "MailChainModel" 152 y_Mo_isTarget ∈ tb := tbc_7 48 rfl rfl
theorem w_1489 : Cond.static y_Mo_isTarget ∈ tb := tbc_7 49 rfl rfl
theorem w_1490 : Cond.code y_Mo_isTarget b_Mo_isTarget 5 (some FieldType.boolean) ∈ tb := tbc_7 50 rfl rfl
theorem w_1491 : Cond.methodLink "MailChainModel" 168 y_Mo_isPath ∈ tb := tbc_7 51 rfl rfl
theorem w_1493 : Cond.instanceMethod y_Mo_isPath ∈ tb := tbc_7 53 rfl rfl
theorem w_1494 : Cond.code y_Mo_isPath b_Mo_isPath 7 (some FieldType.boolean) ∈ tb := tbc_7 54 rfl rfl
theorem w_1495 : Cond.methodLink "MailChainModel" 172 y_Mo_hasParent ∈ tb := tbc_7 55 rfl rfl
theorem w_1497 : Cond.instanceMethod y_Mo_hasParent ∈ tb := tbc_7 57 rfl rfl
theorem w_1498 : Cond.code y_Mo_hasParent b_Mo_hasParent 4 (some FieldType.boolean) ∈ tb := tbc_7 58 rfl rfl
theorem w_1499 : Cond.methodLink "MailChainModel" 145 y_Mo_find ∈ tb := tbc_7 59 rfl rfl
theorem w_1501 : Cond.instanceMethod y_Mo_find ∈ tb := tbc_7 61 rfl rfl
theorem w_1502 : Cond.code y_Mo_find b_Mo_find 5 (some FieldType.int) ∈ tb := tbc_7 62 rfl rfl
theorem w_1503 : Cond.methodLink "MailChainModel" 138 y_Mo_at ∈ tb := tbc_7 63 rfl rfl
theorem w_1504 : Cond.static y_Mo_at ∈ tb := tbc_7 64 rfl rfl
theorem w_1505 : Cond.code y_Mo_at b_Mo_at 2 (some FieldType.int) ∈ tb := tbc_7 65 rfl rfl
theorem w_1506 : Cond.methodLink "MailChainModel" 142 y_Mo_compare ∈ tb := tbc_7 66 rfl rfl
theorem w_1508 : Cond.instanceMethod y_Mo_compare ∈ tb := tbc_7 68 rfl rfl
theorem w_1509 : Cond.code y_Mo_compare b_Mo_compare 6 (some FieldType.int) ∈ tb := tbc_7 69 rfl rfl
theorem w_1510 : Cond.methodLink "MailChainModel" 175 y_Mo_bytesOf ∈ tb := tbc_7 70 rfl rfl
theorem w_1512 : Cond.instanceMethod y_Mo_bytesOf ∈ tb := tbc_7 72 rfl rfl
theorem w_1513 : Cond.code y_Mo_bytesOf b_Mo_bytesOf 4 (some FieldType.int) ∈ tb := tbc_7 73 rfl rfl
theorem w_1514 : Cond.methodLink "MailChainModel" 179 y_Mo_enter ∈ tb := tbc_7 74 rfl rfl
theorem w_1516 : Cond.instanceMethod y_Mo_enter ∈ tb := tbc_7 76 rfl rfl
theorem w_1517 : Cond.code y_Mo_enter b_Mo_enter 5 (some FieldType.int) ∈ tb := tbc_7 77 rfl rfl
theorem w_1518 : Cond.methodLink "MailChainModel" 148 y_Mo_copyEntry ∈ tb := tbc_7 78 rfl rfl
theorem w_1520 : Cond.instanceMethod y_Mo_copyEntry ∈ tb := tbc_7 80 rfl rfl
theorem w_1521 : Cond.code y_Mo_copyEntry b_Mo_copyEntry 4 none ∈ tb := tbc_7 81 rfl rfl
theorem w_1526 : Cond.methodLink "MailChainModel" 192 y_Mo_linkedNow ∈ tb := tbc_7 86 rfl rfl
theorem w_1528 : Cond.instanceMethod y_Mo_linkedNow ∈ tb := tbc_7 88 rfl rfl
theorem w_1529 : Cond.code y_Mo_linkedNow b_Mo_linkedNow 7 (some FieldType.int) ∈ tb := tbc_7 89 rfl rfl
theorem w_1530 : Cond.methodLink "MailChainModel" 189 y_Mo_copyAttributes ∈ tb := tbc_7 90 rfl rfl
theorem w_1532 : Cond.instanceMethod y_Mo_copyAttributes ∈ tb := tbc_7 92 rfl rfl
theorem w_1533 : Cond.code y_Mo_copyAttributes b_Mo_copyAttributes 3 none ∈ tb := tbc_7 93 rfl rfl
theorem w_1542 : Cond.methodLink "MailChainModel" 288 y_Mo_sumOf ∈ tb := tbc_7 102 rfl rfl
theorem w_1543 : Cond.static y_Mo_sumOf ∈ tb := tbc_7 103 rfl rfl
theorem w_1544 : Cond.code y_Mo_sumOf b_Mo_sumOf 5 (some FieldType.int) ∈ tb := tbc_7 104 rfl rfl
theorem w_1545 : Cond.methodLink "MailChainModel" 285 y_Mo_step ∈ tb := tbc_7 105 rfl rfl
theorem w_1546 : Cond.static y_Mo_step ∈ tb := tbc_7 106 rfl rfl
theorem w_1547 : Cond.code y_Mo_step b_Mo_step 4 (some FieldType.int) ∈ tb := tbc_7 107 rfl rfl
theorem w_1548 : Cond.constant "MailChainModel" 284 79764919 ∈ tb := tbc_7 108 rfl rfl
theorem w_1553 : Cond.methodLink "MailChainModel" 292 y_Mo_isLarge ∈ tb := tbc_7 113 rfl rfl
theorem w_1555 : Cond.instanceMethod y_Mo_isLarge ∈ tb := tbc_7 115 rfl rfl
theorem w_1556 : Cond.code y_Mo_isLarge b_Mo_isLarge 4 (some FieldType.boolean) ∈ tb := tbc_7 116 rfl rfl
theorem w_1557 : Cond.constant "MailChainModel" 221 262143 ∈ tb := tbc_7 117 rfl rfl
theorem w_1558 : Cond.methodLink "MailChainModel" 295 y_Mo_archiveOf ∈ tb := tbc_7 118 rfl rfl
theorem w_1560 : Cond.instanceMethod y_Mo_archiveOf ∈ tb := tbc_7 120 rfl rfl
theorem w_1561 : Cond.code y_Mo_archiveOf b_Mo_archiveOf 6 none ∈ tb := tbc_7 121 rfl rfl
theorem w_1562 : Cond.constant "MailChainModel" 209 32768 ∈ tb := tbc_7 122 rfl rfl
theorem w_1563 : Cond.constant "MailChainModel" 210 40960 ∈ tb := tbc_7 123 rfl rfl
theorem w_1564 : Cond.methodLink "MailChainModel" 206 y_Mo_firstOf ∈ tb := tbc_7 124 rfl rfl
theorem w_1566 : Cond.instanceMethod y_Mo_firstOf ∈ tb := tbc_7 126 rfl rfl
theorem w_1567 : Cond.code y_Mo_firstOf b_Mo_firstOf 7 (some FieldType.int) ∈ tb := tbc_7 127 rfl rfl
theorem w_1568 : Cond.methodLink "MailChainModel" 211 y_Mo_linksOf ∈ tb := tbc_7 128 rfl rfl
theorem w_1570 : Cond.instanceMethod y_Mo_linksOf ∈ tb := tbc_7 130 rfl rfl
theorem w_1571 : Cond.code y_Mo_linksOf b_Mo_linksOf 6 (some FieldType.int) ∈ tb := tbc_7 131 rfl rfl
theorem w_1572 : Cond.methodLink "MailChainModel" 214 y_Mo_header ∈ tb := tbc_7 132 rfl rfl
theorem w_1574 : Cond.instanceMethod y_Mo_header ∈ tb := tbc_7 134 rfl rfl
theorem w_1575 : Cond.code y_Mo_header b_Mo_header 9 none ∈ tb := tbc_7 135 rfl rfl
theorem w_1576 : Cond.constantLong "MailChainModel" 200 29127 ∈ tb := tbc_7 136 rfl rfl
theorem w_1577 : Cond.methodLink "MailChainModel" 202 y_Mo_octal ∈ tb := tbc_7 137 rfl rfl
theorem w_1579 : Cond.instanceMethod y_Mo_octal ∈ tb := tbc_7 139 rfl rfl
theorem w_1580 : Cond.code y_Mo_octal b_Mo_octal 5 none ∈ tb := tbc_7 140 rfl rfl
theorem w_1581 : Cond.constantLong "MailChainModel" 198 7 ∈ tb := tbc_7 141 rfl rfl
theorem w_1582 : Cond.methodLink "MailChainModel" 218 y_Mo_zero ∈ tb := tbc_7 142 rfl rfl
theorem w_1584 : Cond.instanceMethod y_Mo_zero ∈ tb := tbc_7 144 rfl rfl
theorem w_1585 : Cond.code y_Mo_zero b_Mo_zero 1 none ∈ tb := tbc_7 145 rfl rfl
theorem w_1586 : Cond.methodLink "MailChainModel" 298 y_Mo_compressRow ∈ tb := tbc_7 146 rfl rfl
theorem w_1588 : Cond.instanceMethod y_Mo_compressRow ∈ tb := tbc_7 148 rfl rfl
theorem w_1589 : Cond.code y_Mo_compressRow b_Mo_compressRow 7 none ∈ tb := tbc_7 149 rfl rfl
theorem w_1590 : Cond.methodLink "MailChainModel" 247 y_Mo_clearTable ∈ tb := tbc_7 150 rfl rfl
theorem w_1592 : Cond.instanceMethod y_Mo_clearTable ∈ tb := tbc_7 152 rfl rfl
theorem w_1593 : Cond.code y_Mo_clearTable b_Mo_clearTable 2 none ∈ tb := tbc_7 153 rfl rfl
theorem w_1594 : Cond.constant "MailChainModel" 225 65536 ∈ tb := tbc_7 154 rfl rfl
theorem w_1595 : Cond.methodLink "MailChainModel" 250 y_Mo_goOn ∈ tb := tbc_7 155 rfl rfl
theorem w_1597 : Cond.instanceMethod y_Mo_goOn ∈ tb := tbc_7 157 rfl rfl
theorem w_1598 : Cond.code y_Mo_goOn b_Mo_goOn 4 (some FieldType.int) ∈ tb := tbc_7 158 rfl rfl
theorem w_1599 : Cond.methodLink "MailChainModel" 253 y_Mo_putCode ∈ tb := tbc_7 159 rfl rfl
theorem w_1601 : Cond.instanceMethod y_Mo_putCode ∈ tb := tbc_7 161 rfl rfl
theorem w_1602 : Cond.code y_Mo_putCode b_Mo_putCode 3 none ∈ tb := tbc_7 162 rfl rfl
theorem w_1603 : Cond.methodLink "MailChainModel" 244 y_Mo_fill ∈ tb := tbc_7 163 rfl rfl
theorem w_1605 : Cond.instanceMethod y_Mo_fill ∈ tb := tbc_7 165 rfl rfl
theorem w_1606 : Cond.code y_Mo_fill b_Mo_fill 1 none ∈ tb := tbc_7 166 rfl rfl
theorem w_1607 : Cond.methodLink "MailChainModel" 241 y_Mo_putBits ∈ tb := tbc_7 167 rfl rfl
theorem w_1609 : Cond.instanceMethod y_Mo_putBits ∈ tb := tbc_7 169 rfl rfl
theorem w_1610 : Cond.code y_Mo_putBits b_Mo_putBits 4 none ∈ tb := tbc_7 170 rfl rfl
theorem w_1611 : Cond.methodLink "MailChainModel" 301 y_Mo_spellRow ∈ tb := tbc_7 171 rfl rfl
theorem w_1613 : Cond.instanceMethod y_Mo_spellRow ∈ tb := tbc_7 173 rfl rfl
theorem w_1614 : Cond.code y_Mo_spellRow b_Mo_spellRow 9 none ∈ tb := tbc_7 174 rfl rfl
theorem w_1615 : Cond.methodLink "MailChainModel" 277 y_Mo_lay ∈ tb := tbc_7 175 rfl rfl
theorem w_1617 : Cond.instanceMethod y_Mo_lay ∈ tb := tbc_7 177 rfl rfl
theorem w_1618 : Cond.code y_Mo_lay b_Mo_lay 2 none ∈ tb := tbc_7 178 rfl rfl
theorem w_1619 : Cond.methodLink "MailChainModel" 281 y_Mo_six ∈ tb := tbc_7 179 rfl rfl
theorem w_1621 : Cond.instanceMethod y_Mo_six ∈ tb := tbc_7 181 rfl rfl
theorem w_1622 : Cond.code y_Mo_six b_Mo_six 2 none ∈ tb := tbc_7 182 rfl rfl
theorem w_1627 : Cond.methodLink "MailChainModel" 335 y_Mo_writePart ∈ tb := tbc_7 187 rfl rfl
theorem w_1629 : Cond.instanceMethod y_Mo_writePart ∈ tb := tbc_7 189 rfl rfl
theorem w_1630 : Cond.code y_Mo_writePart b_Mo_writePart 5 none ∈ tb := tbc_7 190 rfl rfl
theorem w_1631 : Cond.methodLink "MailChainModel" 325 y_Mo_putWord ∈ tb := tbc_7 191 rfl rfl
theorem w_1633 : Cond.instanceMethod y_Mo_putWord ∈ tb := tbc_7 193 rfl rfl
theorem w_1634 : Cond.code y_Mo_putWord b_Mo_putWord 3 none ∈ tb := tbc_7 194 rfl rfl
theorem w_1635 : Cond.methodLink "MailChainModel" 317 y_Mo_putChar ∈ tb := tbc_7 195 rfl rfl
theorem w_1637 : Cond.instanceMethod y_Mo_putChar ∈ tb := tbc_7 197 rfl rfl
theorem w_1638 : Cond.code y_Mo_putChar b_Mo_putChar 2 none ∈ tb := tbc_7 198 rfl rfl
theorem w_1639 : Cond.methodLink "MailChainModel" 329 y_Mo_putDecimal ∈ tb := tbc_7 199 rfl rfl
theorem w_1641 : Cond.instanceMethod y_Mo_putDecimal ∈ tb := tbc_7 201 rfl rfl
theorem w_1642 : Cond.code y_Mo_putDecimal b_Mo_putDecimal 5 none ∈ tb := tbc_7 202 rfl rfl
theorem w_1643 : Cond.constantLong "MailChainModel" 320 10 ∈ tb := tbc_7 203 rfl rfl
theorem w_1644 : Cond.constantLong "MailChainModel" 333 4294967295 ∈ tb := tbc_7 204 rfl rfl
theorem w_1653 : Cond.methodLink "MailChainModel" 374 y_Mo_come ∈ tb := tbc_7 213 rfl rfl
theorem w_1655 : Cond.instanceMethod y_Mo_come ∈ tb := tbc_7 215 rfl rfl
theorem w_1656 : Cond.code y_Mo_come b_Mo_come 11 (some FieldType.int) ∈ tb := tbc_7 216 rfl rfl
theorem w_1657 : Cond.methodLink "MailChainModel" 345 y_Mo_word ∈ tb := tbc_7 217 rfl rfl
theorem w_1659 : Cond.instanceMethod y_Mo_word ∈ tb := tbc_7 219 rfl rfl
theorem w_1660 : Cond.code y_Mo_word b_Mo_word 4 (some FieldType.boolean) ∈ tb := tbc_7 220 rfl rfl
theorem w_1661 : Cond.methodLink "MailChainModel" 349 y_Mo_decimal ∈ tb := tbc_7 221 rfl rfl
theorem w_1663 : Cond.instanceMethod y_Mo_decimal ∈ tb := tbc_7 223 rfl rfl
theorem w_1664 : Cond.code y_Mo_decimal b_Mo_decimal 7 (some FieldType.long) ∈ tb := tbc_7 224 rfl rfl
theorem w_1665 : Cond.constantLong "MailChainModel" 341 48 ∈ tb := tbc_7 225 rfl rfl
theorem w_1666 : Cond.constantLong "MailChainModel" 343 (-1) ∈ tb := tbc_7 226 rfl rfl
theorem w_1667 : Cond.constantLong "MailChainModel" 353 48000 ∈ tb := tbc_7 227 rfl rfl
theorem w_1668 : Cond.constantLong "MailChainModel" 355 999 ∈ tb := tbc_7 228 rfl rfl
theorem w_1669 : Cond.methodLink "MailChainModel" 363 y_Mo_keep ∈ tb := tbc_7 229 rfl rfl
theorem w_1671 : Cond.instanceMethod y_Mo_keep ∈ tb := tbc_7 231 rfl rfl
theorem w_1672 : Cond.code y_Mo_keep b_Mo_keep 7 none ∈ tb := tbc_7 232 rfl rfl
theorem w_1681 : Cond.methodLink "MailChainModel" 378 y_Mo_emptyBox ∈ tb := tbc_8 1 rfl rfl
theorem w_1683 : Cond.instanceMethod y_Mo_emptyBox ∈ tb := tbc_8 3 rfl rfl
theorem w_1684 : Cond.code y_Mo_emptyBox b_Mo_emptyBox 2 none ∈ tb := tbc_8 4 rfl rfl
theorem w_1693 : Cond.methodLink "MailChainModel" 409 y_Mo_unpacked ∈ tb := tbc_8 13 rfl rfl
theorem w_1695 : Cond.instanceMethod y_Mo_unpacked ∈ tb := tbc_8 15 rfl rfl
theorem w_1696 : Cond.code y_Mo_unpacked b_Mo_unpacked 4 (some FieldType.int) ∈ tb := tbc_8 16 rfl rfl
theorem w_1697 : Cond.methodLink "MailChainModel" 396 y_Mo_unspell ∈ tb := tbc_8 17 rfl rfl
theorem w_1699 : Cond.instanceMethod y_Mo_unspell ∈ tb := tbc_8 19 rfl rfl
theorem w_1700 : Cond.code y_Mo_unspell b_Mo_unspell 7 none ∈ tb := tbc_8 20 rfl rfl
theorem w_1701 : Cond.methodLink "MailChainModel" 399 y_Mo_areSame ∈ tb := tbc_8 21 rfl rfl
theorem w_1702 : Cond.static y_Mo_areSame ∈ tb := tbc_8 22 rfl rfl
theorem w_1703 : Cond.code y_Mo_areSame b_Mo_areSame 6 (some FieldType.boolean) ∈ tb := tbc_8 23 rfl rfl
theorem w_1704 : Cond.methodLink "MailChainModel" 403 y_Mo_expand ∈ tb := tbc_8 24 rfl rfl
theorem w_1706 : Cond.instanceMethod y_Mo_expand ∈ tb := tbc_8 26 rfl rfl
theorem w_1707 : Cond.code y_Mo_expand b_Mo_expand 7 (some FieldType.boolean) ∈ tb := tbc_8 27 rfl rfl
theorem w_1708 : Cond.methodLink "MailChainModel" 265 y_Mo_code ∈ tb := tbc_8 28 rfl rfl
theorem w_1710 : Cond.instanceMethod y_Mo_code ∈ tb := tbc_8 30 rfl rfl
theorem w_1711 : Cond.code y_Mo_code b_Mo_code 5 (some FieldType.int) ∈ tb := tbc_8 31 rfl rfl
theorem w_1712 : Cond.methodLink "MailChainModel" 268 y_Mo_firstByte ∈ tb := tbc_8 32 rfl rfl
theorem w_1714 : Cond.instanceMethod y_Mo_firstByte ∈ tb := tbc_8 34 rfl rfl
theorem w_1715 : Cond.code y_Mo_firstByte b_Mo_firstByte 3 (some FieldType.int) ∈ tb := tbc_8 35 rfl rfl
theorem w_1716 : Cond.methodLink "MailChainModel" 271 y_Mo_layString ∈ tb := tbc_8 36 rfl rfl
theorem w_1718 : Cond.instanceMethod y_Mo_layString ∈ tb := tbc_8 38 rfl rfl
theorem w_1719 : Cond.code y_Mo_layString b_Mo_layString 5 (some FieldType.boolean) ∈ tb := tbc_8 39 rfl rfl
theorem w_1720 : Cond.methodLink "MailChainModel" 406 y_Mo_readTree ∈ tb := tbc_8 40 rfl rfl
theorem w_1722 : Cond.instanceMethod y_Mo_readTree ∈ tb := tbc_8 42 rfl rfl
theorem w_1723 : Cond.code y_Mo_readTree b_Mo_readTree 10 (some FieldType.boolean) ∈ tb := tbc_8 43 rfl rfl
theorem w_1724 : Cond.methodLink "MailChainModel" 381 y_Mo_octalAt ∈ tb := tbc_8 44 rfl rfl
theorem w_1726 : Cond.instanceMethod y_Mo_octalAt ∈ tb := tbc_8 46 rfl rfl
theorem w_1727 : Cond.code y_Mo_octalAt b_Mo_octalAt 6 (some FieldType.long) ∈ tb := tbc_8 47 rfl rfl
theorem w_1728 : Cond.constantLong "MailChainModel" 385 6000 ∈ tb := tbc_8 48 rfl rfl
theorem w_1729 : Cond.constantLong "MailChainModel" 387 2147483647 ∈ tb := tbc_8 49 rfl rfl
theorem w_1730 : Cond.methodLink "MailChainModel" 389 y_Mo_take ∈ tb := tbc_8 50 rfl rfl
theorem w_1732 : Cond.instanceMethod y_Mo_take ∈ tb := tbc_8 52 rfl rfl
theorem w_1733 : Cond.code y_Mo_take b_Mo_take 9 none ∈ tb := tbc_8 53 rfl rfl
theorem w_1734 : Cond.methodLink "MailChainModel" 393 y_Mo_areLinks ∈ tb := tbc_8 54 rfl rfl
theorem w_1736 : Cond.instanceMethod y_Mo_areLinks ∈ tb := tbc_8 56 rfl rfl
theorem w_1737 : Cond.code y_Mo_areLinks b_Mo_areLinks 6 (some FieldType.boolean) ∈ tb := tbc_8 57 rfl rfl
theorem ws_0 : Cond.selects "MailChain$PartLine" y_Pl_number y_Pl_number ∈ tb := tb_in (List.mem_append_left _ (List.mem_of_getElem? (i := 0) rfl)) rfl
theorem ws_1 : Cond.selects "MailChain$Expander" y_Ex_begin y_Ex_begin ∈ tb := tb_in (List.mem_append_left _ (List.mem_of_getElem? (i := 1) rfl)) rfl
theorem ws_2 : Cond.selects "MailChain$Expander" y_Ex_readCode y_Ex_readCode ∈ tb := tb_in (List.mem_append_left _ (List.mem_of_getElem? (i := 2) rfl)) rfl
theorem ws_3 : Cond.selects "MailChain$Expander" y_Ex_changeWidth y_Ex_changeWidth ∈ tb := tb_in (List.mem_append_left _ (List.mem_of_getElem? (i := 3) rfl)) rfl
theorem ws_4 : Cond.selects "MailChain$Expander" y_Ex_tell y_Ex_tell ∈ tb := tb_in (List.mem_append_left _ (List.mem_of_getElem? (i := 4) rfl)) rfl
theorem ws_5 : Cond.selects "MailChain$Expander" y_Ex_restart y_Ex_restart ∈ tb := tb_in (List.mem_append_left _ (List.mem_of_getElem? (i := 5) rfl)) rfl
theorem ws_6 : Cond.selects "MailChain$Squeezer" y_Sq_begin y_Sq_begin ∈ tb := tb_in (List.mem_append_left _ (List.mem_of_getElem? (i := 6) rfl)) rfl
theorem ws_7 : Cond.selects "MailChain$Squeezer" y_Sq_forget y_Sq_forget ∈ tb := tb_in (List.mem_append_left _ (List.mem_of_getElem? (i := 7) rfl)) rfl
theorem ws_9 : Cond.selects "MailChain$Squeezer" y_Sq_childOf y_Sq_childOf ∈ tb := tb_in (List.mem_append_left _ (List.mem_of_getElem? (i := 9) rfl)) rfl
theorem ws_10 : Cond.selects "MailChain$Squeezer" y_Sq_putCode y_Sq_putCode ∈ tb := tb_in (List.mem_append_left _ (List.mem_of_getElem? (i := 10) rfl)) rfl
theorem ws_11 : Cond.selects "MailChain$Squeezer" y_Sq_changeWidth y_Sq_changeWidth ∈ tb := tb_in (List.mem_append_left _ (List.mem_of_getElem? (i := 11) rfl)) rfl
theorem ws_12 : Cond.selects "MailChain$Squeezer" y_Sq_putBits y_Sq_putBits ∈ tb := tb_in (List.mem_append_left _ (List.mem_of_getElem? (i := 12) rfl)) rfl
theorem ws_13 : Cond.selects "MailChain$Squeezer" y_Sq_learn y_Sq_learn ∈ tb := tb_in (List.mem_append_left _ (List.mem_of_getElem? (i := 13) rfl)) rfl
theorem ws_14 : Cond.selects "MailChain$Tree" y_Tr_insertDraft y_Tr_insertDraft ∈ tb := tb_in (List.mem_append_left _ (List.mem_of_getElem? (i := 14) rfl)) rfl
theorem ws_15 : Cond.selects "MailChain$Entry" y_En_isName y_En_isName ∈ tb := tb_in (List.mem_append_left _ (List.mem_of_getElem? (i := 15) rfl)) rfl
theorem ws_16 : Cond.selects "MailChain$Tree" y_Tr_hasParentOf y_Tr_hasParentOf ∈ tb := tb_in (List.mem_append_left _ (List.mem_of_getElem? (i := 16) rfl)) rfl
theorem ws_17 : Cond.selects "MailChain$Tree" y_Tr_placeOf y_Tr_placeOf ∈ tb := tb_in (List.mem_append_left _ (List.mem_of_getElem? (i := 17) rfl)) rfl
theorem ws_18 : Cond.selects "MailChain" y_Mc_swapYours y_Mc_swapYours ∈ tb := tb_in (List.mem_append_left _ (List.mem_of_getElem? (i := 18) rfl)) rfl
theorem ws_21 : Cond.selects "MailChain$Mail" y_Ma_pieceEnd y_Ma_pieceEnd ∈ tb := tb_in (List.mem_append_left _ (List.mem_of_getElem? (i := 21) rfl)) rfl
theorem ws_23 : Cond.selects "MailChainModel" y_Mo_added y_Mo_added ∈ tb := tb_in (List.mem_append_left _ (List.mem_of_getElem? (i := 23) rfl)) rfl
theorem ws_24 : Cond.selects "MailChainModel" y_Mo_look y_Mo_look ∈ tb := tb_in (List.mem_append_left _ (List.mem_of_getElem? (i := 24) rfl)) rfl
theorem ws_25 : Cond.selects "MailChainModel" y_Mo_mayBe y_Mo_mayBe ∈ tb := tb_in (List.mem_append_left _ (List.mem_of_getElem? (i := 25) rfl)) rfl
theorem ws_26 : Cond.selects "MailChainModel" y_Mo_isPath y_Mo_isPath ∈ tb := tb_in (List.mem_append_left _ (List.mem_of_getElem? (i := 26) rfl)) rfl
theorem ws_27 : Cond.selects "MailChainModel" y_Mo_hasParent y_Mo_hasParent ∈ tb := tb_in (List.mem_append_left _ (List.mem_of_getElem? (i := 27) rfl)) rfl
theorem ws_28 : Cond.selects "MailChainModel" y_Mo_find y_Mo_find ∈ tb := tb_in (List.mem_append_left _ (List.mem_of_getElem? (i := 28) rfl)) rfl
theorem ws_29 : Cond.selects "MailChainModel" y_Mo_compare y_Mo_compare ∈ tb := tb_in (List.mem_append_left _ (List.mem_of_getElem? (i := 29) rfl)) rfl
theorem ws_30 : Cond.selects "MailChainModel" y_Mo_bytesOf y_Mo_bytesOf ∈ tb := tb_in (List.mem_append_left _ (List.mem_of_getElem? (i := 30) rfl)) rfl
theorem ws_31 : Cond.selects "MailChainModel" y_Mo_enter y_Mo_enter ∈ tb := tb_in (List.mem_append_left _ (List.mem_of_getElem? (i := 31) rfl)) rfl
theorem ws_32 : Cond.selects "MailChainModel" y_Mo_copyEntry y_Mo_copyEntry ∈ tb := tb_in (List.mem_append_left _ (List.mem_of_getElem? (i := 32) rfl)) rfl
theorem ws_33 : Cond.selects "MailChainModel" y_Mo_linkedNow y_Mo_linkedNow ∈ tb := tb_in (List.mem_append_left _ (List.mem_of_getElem? (i := 33) rfl)) rfl
theorem ws_34 : Cond.selects "MailChainModel" y_Mo_copyAttributes y_Mo_copyAttributes ∈ tb := tb_in (List.mem_append_left _ (List.mem_of_getElem? (i := 34) rfl)) rfl
theorem ws_35 : Cond.selects "MailChainModel" y_Mo_isLarge y_Mo_isLarge ∈ tb := tb_in (List.mem_append_left _ (List.mem_of_getElem? (i := 35) rfl)) rfl
theorem ws_36 : Cond.selects "MailChainModel" y_Mo_archiveOf y_Mo_archiveOf ∈ tb := tb_in (List.mem_append_left _ (List.mem_of_getElem? (i := 36) rfl)) rfl
theorem ws_37 : Cond.selects "MailChainModel" y_Mo_firstOf y_Mo_firstOf ∈ tb := tb_in (List.mem_append_left _ (List.mem_of_getElem? (i := 37) rfl)) rfl
theorem ws_38 : Cond.selects "MailChainModel" y_Mo_linksOf y_Mo_linksOf ∈ tb := tb_in (List.mem_append_left _ (List.mem_of_getElem? (i := 38) rfl)) rfl
theorem ws_39 : Cond.selects "MailChainModel" y_Mo_header y_Mo_header ∈ tb := tb_in (List.mem_append_left _ (List.mem_of_getElem? (i := 39) rfl)) rfl
theorem ws_40 : Cond.selects "MailChainModel" y_Mo_octal y_Mo_octal ∈ tb := tb_in (List.mem_append_left _ (List.mem_of_getElem? (i := 40) rfl)) rfl
theorem ws_41 : Cond.selects "MailChainModel" y_Mo_zero y_Mo_zero ∈ tb := tb_in (List.mem_append_left _ (List.mem_of_getElem? (i := 41) rfl)) rfl
theorem ws_42 : Cond.selects "MailChainModel" y_Mo_compressRow y_Mo_compressRow ∈ tb := tb_in (List.mem_append_left _ (List.mem_of_getElem? (i := 42) rfl)) rfl
theorem ws_43 : Cond.selects "MailChainModel" y_Mo_clearTable y_Mo_clearTable ∈ tb := tb_in (List.mem_append_left _ (List.mem_of_getElem? (i := 43) rfl)) rfl
theorem ws_44 : Cond.selects "MailChainModel" y_Mo_goOn y_Mo_goOn ∈ tb := tb_in (List.mem_append_left _ (List.mem_of_getElem? (i := 44) rfl)) rfl
theorem ws_45 : Cond.selects "MailChainModel" y_Mo_putCode y_Mo_putCode ∈ tb := tb_in (List.mem_append_left _ (List.mem_of_getElem? (i := 45) rfl)) rfl
theorem ws_46 : Cond.selects "MailChainModel" y_Mo_fill y_Mo_fill ∈ tb := tb_in (List.mem_append_left _ (List.mem_of_getElem? (i := 46) rfl)) rfl
theorem ws_47 : Cond.selects "MailChainModel" y_Mo_putBits y_Mo_putBits ∈ tb := tb_in (List.mem_append_left _ (List.mem_of_getElem? (i := 47) rfl)) rfl
theorem ws_48 : Cond.selects "MailChainModel" y_Mo_spellRow y_Mo_spellRow ∈ tb := tb_in (List.mem_append_left _ (List.mem_of_getElem? (i := 48) rfl)) rfl
theorem ws_49 : Cond.selects "MailChainModel" y_Mo_lay y_Mo_lay ∈ tb := tb_in (List.mem_append_left _ (List.mem_of_getElem? (i := 49) rfl)) rfl
theorem ws_50 : Cond.selects "MailChainModel" y_Mo_six y_Mo_six ∈ tb := tb_in (List.mem_append_left _ (List.mem_of_getElem? (i := 50) rfl)) rfl
theorem ws_51 : Cond.selects "MailChainModel" y_Mo_writePart y_Mo_writePart ∈ tb := tb_in (List.mem_append_left _ (List.mem_of_getElem? (i := 51) rfl)) rfl
theorem ws_52 : Cond.selects "MailChainModel" y_Mo_putWord y_Mo_putWord ∈ tb := tb_in (List.mem_append_left _ (List.mem_of_getElem? (i := 52) rfl)) rfl
theorem ws_53 : Cond.selects "MailChainModel" y_Mo_putChar y_Mo_putChar ∈ tb := tb_in (List.mem_append_left _ (List.mem_of_getElem? (i := 53) rfl)) rfl
theorem ws_54 : Cond.selects "MailChainModel" y_Mo_putDecimal y_Mo_putDecimal ∈ tb := tb_in (List.mem_append_left _ (List.mem_of_getElem? (i := 54) rfl)) rfl
theorem ws_55 : Cond.selects "MailChainModel" y_Mo_come y_Mo_come ∈ tb := tb_in (List.mem_append_left _ (List.mem_of_getElem? (i := 55) rfl)) rfl
theorem ws_56 : Cond.selects "MailChainModel" y_Mo_word y_Mo_word ∈ tb := tb_in (List.mem_append_left _ (List.mem_of_getElem? (i := 56) rfl)) rfl
theorem ws_57 : Cond.selects "MailChainModel" y_Mo_decimal y_Mo_decimal ∈ tb := tb_in (List.mem_append_left _ (List.mem_of_getElem? (i := 57) rfl)) rfl
theorem ws_58 : Cond.selects "MailChainModel" y_Mo_keep y_Mo_keep ∈ tb := tb_in (List.mem_append_left _ (List.mem_of_getElem? (i := 58) rfl)) rfl
theorem ws_59 : Cond.selects "MailChainModel" y_Mo_emptyBox y_Mo_emptyBox ∈ tb := tb_in (List.mem_append_left _ (List.mem_of_getElem? (i := 59) rfl)) rfl
theorem ws_60 : Cond.selects "MailChainModel" y_Mo_unpacked y_Mo_unpacked ∈ tb := tb_in (List.mem_append_left _ (List.mem_of_getElem? (i := 60) rfl)) rfl
theorem ws_61 : Cond.selects "MailChainModel" y_Mo_unspell y_Mo_unspell ∈ tb := tb_in (List.mem_append_left _ (List.mem_of_getElem? (i := 61) rfl)) rfl
theorem ws_62 : Cond.selects "MailChainModel" y_Mo_expand y_Mo_expand ∈ tb := tb_in (List.mem_append_left _ (List.mem_of_getElem? (i := 62) rfl)) rfl
theorem ws_63 : Cond.selects "MailChainModel" y_Mo_code y_Mo_code ∈ tb := tb_in (List.mem_append_left _ (List.mem_of_getElem? (i := 63) rfl)) rfl
theorem ws_64 : Cond.selects "MailChainModel" y_Mo_firstByte y_Mo_firstByte ∈ tb := tb_in (List.mem_append_left _ (List.mem_of_getElem? (i := 64) rfl)) rfl
theorem ws_65 : Cond.selects "MailChainModel" y_Mo_layString y_Mo_layString ∈ tb := tb_in (List.mem_append_left _ (List.mem_of_getElem? (i := 65) rfl)) rfl
theorem ws_66 : Cond.selects "MailChainModel" y_Mo_readTree y_Mo_readTree ∈ tb := tb_in (List.mem_append_left _ (List.mem_of_getElem? (i := 66) rfl)) rfl
theorem ws_67 : Cond.selects "MailChainModel" y_Mo_octalAt y_Mo_octalAt ∈ tb := tb_in (List.mem_append_left _ (List.mem_of_getElem? (i := 67) rfl)) rfl
theorem ws_68 : Cond.selects "MailChainModel" y_Mo_take y_Mo_take ∈ tb := tb_in (List.mem_append_left _ (List.mem_of_getElem? (i := 68) rfl)) rfl
theorem ws_69 : Cond.selects "MailChainModel" y_Mo_areLinks y_Mo_areLinks ∈ tb := tb_in (List.mem_append_left _ (List.mem_of_getElem? (i := 69) rfl)) rfl
theorem cv_JString_checkIndex : zCS y_JString_checkIndex b_JString_checkIndex 2 none 2 := ⟨w_421, w_21, w_422, by decide, by decide, by decide +kernel⟩
theorem cv_JPreconditions_checkIndex : zCS y_JPreconditions_checkIndex b_JPreconditions_checkIndex 3 (some FieldType.int) 3 := ⟨w_426, w_23, w_427, by decide, by decide, by decide +kernel⟩
theorem cv_JString_coder : zCV y_JString_coder "java/lang/String" b_JString_coder 1 (some FieldType.byte) 0 := ⟨w_404, w_405, w_21, w_406, rfl, by decide, by decide, by decide +kernel⟩
theorem cv_JString_isLatin1 : zCV y_JString_isLatin1 "java/lang/String" b_JString_isLatin1 1 (some FieldType.boolean) 0 := ⟨w_414, w_415, w_21, w_416, rfl, by decide, by decide, by decide +kernel⟩
theorem cv_JStringLatin1_charAt : zCS y_JStringLatin1_charAt b_JStringLatin1_charAt 2 (some FieldType.char) 2 := ⟨w_418, w_22, w_419, by decide, by decide, by decide +kernel⟩
theorem cv_JArrays_rangeCheck : zCS y_JArrays_rangeCheck b_JArrays_rangeCheck 3 none 3 := ⟨w_595, w_7, w_596, by decide, by decide, by decide +kernel⟩
theorem cv_Ro_has : zCV y_Ro_has "MailChain$Row" b_Ro_has 2 (some FieldType.boolean) 1 := ⟨w_1196, w_1197, w_2, w_1198, rfl, by decide, by decide, by decide +kernel⟩
theorem cv_Ro_room : zCV y_Ro_room "MailChain$Row" b_Ro_room 1 (some FieldType.int) 0 := ⟨w_471, w_472, w_2, w_473, rfl, by decide, by decide, by decide +kernel⟩
theorem cv_Ro_wipe : zCV y_Ro_wipe "MailChain$Row" b_Ro_wipe 1 none 0 := ⟨w_356, w_357, w_2, w_358, rfl, by decide, by decide, by decide +kernel⟩
theorem cv_Ro_putRange : zCV y_Ro_putRange "MailChain$Row" b_Ro_putRange 5 none 3 := ⟨w_467, w_468, w_2, w_469, rfl, by decide, by decide, by decide +kernel⟩
theorem cv_JString_length : zCV y_JString_length "java/lang/String" b_JString_length 1 (some FieldType.int) 0 := ⟨w_400, w_401, w_21, w_402, rfl, by decide, by decide, by decide +kernel⟩
theorem cv_JString_charAt : zCV y_JString_charAt "java/lang/String" b_JString_charAt 2 (some FieldType.char) 1 := ⟨w_410, w_411, w_21, w_412, rfl, by decide, by decide, by decide +kernel⟩
theorem cv_Ro_put : zCV y_Ro_put "MailChain$Row" b_Ro_put 2 none 1 := ⟨w_512, w_513, w_2, w_514, rfl, by decide, by decide, by decide +kernel⟩
theorem cv_Ro_at : zCV y_Ro_at "MailChain$Row" b_Ro_at 2 (some FieldType.int) 1 := ⟨w_368, w_369, w_2, w_370, rfl, by decide, by decide, by decide +kernel⟩
theorem cv_Ro_order : zCV y_Ro_order "MailChain$Row" b_Ro_order 5 (some FieldType.int) 2 := ⟨w_541, w_542, w_2, w_543, rfl, by decide, by decide, by decide +kernel⟩
theorem cv_Ro_divide : zCS y_Ro_divide b_Ro_divide 3 (some FieldType.int) 2 := ⟨w_372, w_2, w_373, by decide, by decide, by decide +kernel⟩
theorem cv_En_isName : zCV y_En_isName "MailChain$Entry" b_En_isName 4 (some FieldType.boolean) 2 := ⟨w_980, ws_15, w_4, w_981, rfl, by decide, by decide, by decide +kernel⟩
theorem cv_Tr_isTarget : zCS y_Tr_isTarget b_Tr_isTarget 4 (some FieldType.boolean) 3 := ⟨w_966, w_3, w_967, by decide, by decide, by decide +kernel⟩
theorem cv_En_parentSize : zCV y_En_parentSize "MailChain$Entry" b_En_parentSize 3 (some FieldType.int) 0 := ⟨w_987, w_988, w_4, w_989, rfl, by decide, by decide, by decide +kernel⟩
theorem cv_Tr_placeOf : zCV y_Tr_placeOf "MailChain$Tree" b_Tr_placeOf 4 (some FieldType.int) 2 := ⟨w_992, ws_17, w_3, w_993, rfl, by decide, by decide, by decide +kernel⟩
theorem cv_Tr_has : zCV y_Tr_has "MailChain$Tree" b_Tr_has 2 (some FieldType.boolean) 1 := ⟨w_996, w_997, w_3, w_998, rfl, by decide, by decide, by decide +kernel⟩
theorem cv_Tr_draft : zCV y_Tr_draft "MailChain$Tree" b_Tr_draft 1 (some (FieldType.object "MailChain$Entry")) 0 := ⟨w_935, w_936, w_3, w_937, rfl, by decide, by decide, by decide +kernel⟩
theorem cv_En_hasSoundPath : zCV y_En_hasSoundPath "MailChain$Entry" b_En_hasSoundPath 4 (some FieldType.boolean) 0 := ⟨w_974, w_975, w_4, w_976, rfl, by decide, by decide, by decide +kernel⟩
theorem cv_Tr_hasParentOf : zCV y_Tr_hasParentOf "MailChain$Tree" b_Tr_hasParentOf 4 (some FieldType.boolean) 1 := ⟨w_984, ws_16, w_3, w_985, rfl, by decide, by decide, by decide +kernel⟩
theorem cv_Ro_same : zCV y_Ro_same "MailChain$Row" b_Ro_same 2 (some FieldType.boolean) 1 := ⟨w_537, w_538, w_2, w_539, rfl, by decide, by decide, by decide +kernel⟩
theorem cv_En_hasSoundFields : zCV y_En_hasSoundFields "MailChain$Entry" b_En_hasSoundFields 1 (some FieldType.boolean) 0 := ⟨w_959, w_960, w_4, w_961, rfl, by decide, by decide, by decide +kernel⟩
theorem cv_Tr_isBody : zCS y_Tr_isBody b_Tr_isBody 4 (some FieldType.boolean) 4 := ⟨w_963, w_3, w_964, by decide, by decide, by decide +kernel⟩
theorem cv_Tr_insertDraft : zCV y_Tr_insertDraft "MailChain$Tree" b_Tr_insertDraft 5 (some FieldType.int) 0 := ⟨w_971, ws_14, w_3, w_972, rfl, by decide, by decide, by decide +kernel⟩
theorem cv_En_becomeLinkOf : zCV y_En_becomeLinkOf "MailChain$Entry" b_En_becomeLinkOf 2 none 1 := ⟨w_1006, w_1007, w_4, w_1008, rfl, by decide, by decide, by decide +kernel⟩
theorem cv_Tr_firstLinkOf : zCV y_Tr_firstLinkOf "MailChain$Tree" b_Tr_firstLinkOf 3 (some FieldType.int) 1 := ⟨w_1019, w_1020, w_3, w_1021, rfl, by decide, by decide, by decide +kernel⟩
theorem cv_Tr_linksOf : zCV y_Tr_linksOf "MailChain$Tree" b_Tr_linksOf 4 (some FieldType.int) 1 := ⟨w_1023, w_1024, w_3, w_1025, rfl, by decide, by decide, by decide +kernel⟩
theorem cv_Ro_copy : zCV y_Ro_copy "MailChain$Row" b_Ro_copy 4 none 3 := ⟨w_939, w_940, w_2, w_941, rfl, by decide, by decide, by decide +kernel⟩
theorem cv_Ma_pieceEnd : zCV y_Ma_pieceEnd "MailChain$Mail" b_Ma_pieceEnd 2 (some FieldType.int) 1 := ⟨w_1161, ws_21, w_5, w_1162, rfl, by decide, by decide, by decide +kernel⟩
theorem cv_Ro_sum : zCV y_Ro_sum "MailChain$Row" b_Ro_sum 5 (some FieldType.int) 2 := ⟨w_364, w_365, w_2, w_366, rfl, by decide, by decide, by decide +kernel⟩
theorem cv_Ma_has : zCV y_Ma_has "MailChain$Mail" b_Ma_has 2 (some FieldType.boolean) 1 := ⟨w_1173, w_1174, w_5, w_1175, rfl, by decide, by decide, by decide +kernel⟩
theorem cv_Ro_putText : zCV y_Ro_putText "MailChain$Row" b_Ro_putText 3 none 1 := ⟨w_519, w_520, w_2, w_521, rfl, by decide, by decide, by decide +kernel⟩
theorem cv_Ro_putDecimal : zCV y_Ro_putDecimal "MailChain$Row" b_Ro_putDecimal 6 none 1 := ⟨w_1185, w_1186, w_2, w_1187, rfl, by decide, by decide, by decide +kernel⟩
theorem cv_Ro_hasText : zCV y_Ro_hasText "MailChain$Row" b_Ro_hasText 4 (some FieldType.boolean) 2 := ⟨w_396, w_397, w_2, w_398, rfl, by decide, by decide, by decide +kernel⟩
theorem cv_Pl_isDigit : zCS y_Pl_isDigit b_Pl_isDigit 1 (some FieldType.boolean) 1 := ⟨w_451, w_8, w_452, by decide, by decide, by decide +kernel⟩
theorem cv_Pl_number : zCV y_Pl_number "MailChain$PartLine" b_Pl_number 9 (some FieldType.long) 3 := ⟨w_393, ws_0, w_8, w_394, rfl, by decide, by decide, by decide +kernel⟩
theorem cv_JArrays_fill : zCS y_JArrays_fill b_JArrays_fill 4 none 2 := ⟨w_187, w_7, w_188, by decide, by decide, by decide +kernel⟩
theorem cv_Pl_read : zCV y_Pl_read "MailChain$PartLine" b_Pl_read 3 (some FieldType.boolean) 1 := ⟨w_386, w_387, w_8, w_388, rfl, by decide, by decide, by decide +kernel⟩
theorem cv_Bo_keep : zCV y_Bo_keep "MailChain$Box" b_Bo_keep 5 none 4 := ⟨w_463, w_464, w_6, w_465, rfl, by decide, by decide, by decide +kernel⟩
theorem cv_JArrays_fillx : zCS y_JArrays_fillx b_JArrays_fillx 5 none 4 := ⟨w_592, w_7, w_593, by decide, by decide, by decide +kernel⟩
theorem cv_Sq_forget : zCV y_Sq_forget "MailChain$Squeezer" b_Sq_forget 1 none 0 := ⟨w_589, ws_7, w_9, w_590, rfl, by decide, by decide, by decide +kernel⟩
theorem cv_Sq_putBits : zCV y_Sq_putBits "MailChain$Squeezer" b_Sq_putBits 3 none 2 := ⟨w_913, ws_12, w_9, w_914, rfl, by decide, by decide, by decide +kernel⟩
theorem cv_Sq_changeWidth : zCV y_Sq_changeWidth "MailChain$Squeezer" b_Sq_changeWidth 5 none 2 := ⟨w_909, ws_11, w_9, w_910, rfl, by decide, by decide, by decide +kernel⟩
theorem cv_Sq_putCode : zCV y_Sq_putCode "MailChain$Squeezer" b_Sq_putCode 3 none 2 := ⟨w_905, ws_10, w_9, w_906, rfl, by decide, by decide, by decide +kernel⟩
theorem cv_Sq_begin : zCV y_Sq_begin "MailChain$Squeezer" b_Sq_begin 2 none 1 := ⟨w_585, ws_6, w_9, w_586, rfl, by decide, by decide, by decide +kernel⟩
theorem cv_Sq_childOf : zCV y_Sq_childOf "MailChain$Squeezer" b_Sq_childOf 5 (some FieldType.int) 2 := ⟨w_901, ws_9, w_9, w_902, rfl, by decide, by decide, by decide +kernel⟩
theorem cv_Sq_learn : zCV y_Sq_learn "MailChain$Squeezer" b_Sq_learn 4 none 3 := ⟨w_917, ws_13, w_9, w_918, rfl, by decide, by decide, by decide +kernel⟩
theorem cv_Ex_changeWidth : zCV y_Ex_changeWidth "MailChain$Expander" b_Ex_changeWidth 2 none 1 := ⟨w_563, ws_3, w_10, w_564, rfl, by decide, by decide, by decide +kernel⟩
theorem cv_Mc_isWidth : zCS y_Mc_isWidth b_Mc_isWidth 1 (some FieldType.boolean) 1 := ⟨w_551, w_1, w_552, by decide, by decide, by decide +kernel⟩
theorem cv_Ex_begin : zCV y_Ex_begin "MailChain$Expander" b_Ex_begin 1 none 0 := ⟨w_555, ws_1, w_10, w_556, rfl, by decide, by decide, by decide +kernel⟩
theorem cv_Ex_readCode : zCV y_Ex_readCode "MailChain$Expander" b_Ex_readCode 5 (some FieldType.int) 1 := ⟨w_559, ws_2, w_10, w_560, rfl, by decide, by decide, by decide +kernel⟩
theorem cv_Ex_tell : zCV y_Ex_tell "MailChain$Expander" b_Ex_tell 6 (some FieldType.boolean) 2 := ⟨w_568, ws_4, w_10, w_569, rfl, by decide, by decide, by decide +kernel⟩
theorem cv_Ex_restart : zCV y_Ex_restart "MailChain$Expander" b_Ex_restart 1 none 0 := ⟨w_574, ws_5, w_10, w_575, rfl, by decide, by decide, by decide +kernel⟩
theorem cv_Sp_letter : zCS y_Sp_letter b_Sp_letter 1 (some FieldType.int) 1 := ⟨w_530, w_31, w_531, by decide, by decide, by decide +kernel⟩
theorem cv_Sp_writeLine : zCS y_Sp_writeLine b_Sp_writeLine 7 none 4 := ⟨w_527, w_31, w_528, by decide, by decide, by decide +kernel⟩
theorem cv_Sp_sixOf : zCS y_Sp_sixOf b_Sp_sixOf 1 (some FieldType.int) 1 := ⟨w_506, w_31, w_507, by decide, by decide, by decide +kernel⟩
theorem cv_Sp_readLine : zCS y_Sp_readLine b_Sp_readLine 7 none 4 := ⟨w_509, w_31, w_510, by decide, by decide, by decide +kernel⟩
theorem cv_Ro_putOctal : zCV y_Ro_putOctal "MailChain$Row" b_Ro_putOctal 4 none 2 := ⟨w_1032, w_1033, w_2, w_1034, rfl, by decide, by decide, by decide +kernel⟩
theorem cv_Ar_kindDigits : zCS y_Ar_kindDigits b_Ar_kindDigits 1 (some FieldType.int) 1 := ⟨w_951, w_20, w_952, by decide, by decide, by decide +kernel⟩
theorem cv_Tr_hasArchive : zCV y_Tr_hasArchive "MailChain$Tree" b_Tr_hasArchive 3 (some FieldType.boolean) 0 := ⟨w_1014, w_1015, w_3, w_1016, rfl, by decide, by decide, by decide +kernel⟩
theorem cv_Ar_writeHeader : zCS y_Ar_writeHeader b_Ar_writeHeader 4 none 4 := ⟨w_1027, w_20, w_1028, by decide, by decide, by decide +kernel⟩
theorem cv_Ar_octal : zCS y_Ar_octal b_Ar_octal 7 (some FieldType.int) 3 := ⟨w_929, w_20, w_930, by decide, by decide, by decide +kernel⟩
theorem cv_Ar_kindOf : zCS y_Ar_kindOf b_Ar_kindOf 2 (some FieldType.int) 1 := ⟨w_948, w_20, w_949, by decide, by decide, by decide +kernel⟩
theorem cv_Ar_readFields : zCS y_Ar_readFields b_Ar_readFields 4 none 3 := ⟨w_945, w_20, w_946, by decide, by decide, by decide +kernel⟩
theorem cv_Tr_enterLink : zCV y_Tr_enterLink "MailChain$Tree" b_Tr_enterLink 2 (some FieldType.int) 1 := ⟨w_1002, w_1003, w_3, w_1004, rfl, by decide, by decide, by decide +kernel⟩
theorem cv_Tr_enter : zCV y_Tr_enter "MailChain$Tree" b_Tr_enter 6 (some FieldType.int) 3 := ⟨w_954, w_955, w_3, w_956, rfl, by decide, by decide, by decide +kernel⟩
theorem cv_Tr_wipe : zCV y_Tr_wipe "MailChain$Tree" b_Tr_wipe 1 none 0 := ⟨w_352, w_353, w_3, w_354, rfl, by decide, by decide, by decide +kernel⟩
theorem cv_Ar_readEntry : zCS y_Ar_readEntry b_Ar_readEntry 11 (some FieldType.int) 3 := ⟨w_926, w_20, w_927, by decide, by decide, by decide +kernel⟩
theorem cv_Ar_write : zCS y_Ar_write b_Ar_write 4 none 2 := ⟨w_1010, w_20, w_1011, by decide, by decide, by decide +kernel⟩
theorem cv_Bo_take : zCV y_Bo_take "MailChain$Box" b_Bo_take 2 (some FieldType.int) 1 := ⟨w_382, w_383, w_6, w_384, rfl, by decide, by decide, by decide +kernel⟩
theorem cv_Sq_squeeze : zCV y_Sq_squeeze "MailChain$Squeezer" b_Sq_squeeze 8 none 3 := ⟨w_578, w_579, w_9, w_580, rfl, by decide, by decide, by decide +kernel⟩
theorem cv_Sp_write : zCS y_Sp_write b_Sp_write 3 none 2 := ⟨w_516, w_31, w_517, by decide, by decide, by decide +kernel⟩
theorem cv_Bo_wipe : zCV y_Bo_wipe "MailChain$Box" b_Bo_wipe 1 none 0 := ⟨w_482, w_483, w_6, w_484, rfl, by decide, by decide, by decide +kernel⟩
theorem cv_Bo_isWhole : zCV y_Bo_isWhole "MailChain$Box" b_Bo_isWhole 1 (some FieldType.boolean) 0 := ⟨w_491, w_492, w_6, w_493, rfl, by decide, by decide, by decide +kernel⟩
theorem cv_Bo_join : zCV y_Bo_join "MailChain$Box" b_Bo_join 3 (some FieldType.boolean) 1 := ⟨w_495, w_496, w_6, w_497, rfl, by decide, by decide, by decide +kernel⟩
theorem cv_Sp_read : zCS y_Sp_read b_Sp_read 4 none 2 := ⟨w_499, w_31, w_500, by decide, by decide, by decide +kernel⟩
theorem cv_Ex_expand : zCV y_Ex_expand "MailChain$Expander" b_Ex_expand 7 (some FieldType.boolean) 2 := ⟨w_545, w_546, w_10, w_547, rfl, by decide, by decide, by decide +kernel⟩
theorem cv_Ar_read : zCS y_Ar_read b_Ar_read 4 (some FieldType.boolean) 2 := ⟨w_920, w_20, w_921, by decide, by decide, by decide +kernel⟩
theorem cv_Mc_swapYours : zCV y_Mc_swapYours "MailChain" b_Mc_swapYours 2 none 0 := ⟨w_1040, ws_18, w_1, w_1041, rfl, by decide, by decide, by decide +kernel⟩
theorem cv_Mo_at : zCS y_Mo_at b_Mo_at 2 (some FieldType.int) 2 := ⟨w_1504, w_11, w_1505, by decide, by decide, by decide +kernel⟩
theorem cv_Mo_compare : zCV y_Mo_compare "MailChainModel" b_Mo_compare 6 (some FieldType.int) 2 := ⟨w_1508, ws_29, w_11, w_1509, rfl, by decide, by decide, by decide +kernel⟩
theorem cv_Mo_find : zCV y_Mo_find "MailChainModel" b_Mo_find 5 (some FieldType.int) 2 := ⟨w_1501, ws_28, w_11, w_1502, rfl, by decide, by decide, by decide +kernel⟩
theorem cv_Mo_copyEntry : zCV y_Mo_copyEntry "MailChainModel" b_Mo_copyEntry 4 none 2 := ⟨w_1520, ws_32, w_11, w_1521, rfl, by decide, by decide, by decide +kernel⟩
theorem cv_Mo_isTarget : zCS y_Mo_isTarget b_Mo_isTarget 5 (some FieldType.boolean) 3 := ⟨w_1489, w_11, w_1490, by decide, by decide, by decide +kernel⟩
theorem cv_Mo_isNumber : zCS y_Mo_isNumber b_Mo_isNumber 1 (some FieldType.boolean) 1 := ⟨w_1478, w_11, w_1479, by decide, by decide, by decide +kernel⟩
theorem cv_Mo_look : zCV y_Mo_look "MailChainModel" b_Mo_look 5 none 3 := ⟨w_1482, ws_24, w_11, w_1483, rfl, by decide, by decide, by decide +kernel⟩
theorem cv_Mo_mayBe : zCV y_Mo_mayBe "MailChainModel" b_Mo_mayBe 4 (some FieldType.boolean) 2 := ⟨w_1486, ws_25, w_11, w_1487, rfl, by decide, by decide, by decide +kernel⟩
theorem cv_Mo_isPath : zCV y_Mo_isPath "MailChainModel" b_Mo_isPath 7 (some FieldType.boolean) 0 := ⟨w_1493, ws_26, w_11, w_1494, rfl, by decide, by decide, by decide +kernel⟩
theorem cv_Mo_hasParent : zCV y_Mo_hasParent "MailChainModel" b_Mo_hasParent 4 (some FieldType.boolean) 1 := ⟨w_1497, ws_27, w_11, w_1498, rfl, by decide, by decide, by decide +kernel⟩
theorem cv_Mo_bytesOf : zCV y_Mo_bytesOf "MailChainModel" b_Mo_bytesOf 4 (some FieldType.int) 1 := ⟨w_1512, ws_30, w_11, w_1513, rfl, by decide, by decide, by decide +kernel⟩
theorem cv_Mo_enter : zCV y_Mo_enter "MailChainModel" b_Mo_enter 5 (some FieldType.int) 1 := ⟨w_1516, ws_31, w_11, w_1517, rfl, by decide, by decide, by decide +kernel⟩
theorem cv_Mo_added : zCV y_Mo_added "MailChainModel" b_Mo_added 11 (some FieldType.int) 6 := ⟨w_1475, ws_23, w_11, w_1476, rfl, by decide, by decide, by decide +kernel⟩
theorem cv_Mo_copyAttributes : zCV y_Mo_copyAttributes "MailChainModel" b_Mo_copyAttributes 3 none 2 := ⟨w_1532, ws_34, w_11, w_1533, rfl, by decide, by decide, by decide +kernel⟩
theorem cv_Mo_linkedNow : zCV y_Mo_linkedNow "MailChainModel" b_Mo_linkedNow 7 (some FieldType.int) 1 := ⟨w_1528, ws_33, w_11, w_1529, rfl, by decide, by decide, by decide +kernel⟩
theorem cv_Mo_octal : zCV y_Mo_octal "MailChainModel" b_Mo_octal 5 none 2 := ⟨w_1579, ws_40, w_11, w_1580, rfl, by decide, by decide, by decide +kernel⟩
theorem cv_Mo_firstOf : zCV y_Mo_firstOf "MailChainModel" b_Mo_firstOf 7 (some FieldType.int) 2 := ⟨w_1566, ws_37, w_11, w_1567, rfl, by decide, by decide, by decide +kernel⟩
theorem cv_Mo_header : zCV y_Mo_header "MailChainModel" b_Mo_header 9 none 8 := ⟨w_1574, ws_39, w_11, w_1575, rfl, by decide, by decide, by decide +kernel⟩
theorem cv_Mo_zero : zCV y_Mo_zero "MailChainModel" b_Mo_zero 1 none 0 := ⟨w_1584, ws_41, w_11, w_1585, rfl, by decide, by decide, by decide +kernel⟩
theorem cv_Mo_linksOf : zCV y_Mo_linksOf "MailChainModel" b_Mo_linksOf 6 (some FieldType.int) 2 := ⟨w_1570, ws_38, w_11, w_1571, rfl, by decide, by decide, by decide +kernel⟩
theorem cv_Mo_putBits : zCV y_Mo_putBits "MailChainModel" b_Mo_putBits 4 none 2 := ⟨w_1609, ws_47, w_11, w_1610, rfl, by decide, by decide, by decide +kernel⟩
theorem cv_Mo_fill : zCV y_Mo_fill "MailChainModel" b_Mo_fill 1 none 0 := ⟨w_1605, ws_46, w_11, w_1606, rfl, by decide, by decide, by decide +kernel⟩
theorem cv_Mo_clearTable : zCV y_Mo_clearTable "MailChainModel" b_Mo_clearTable 2 none 0 := ⟨w_1592, ws_43, w_11, w_1593, rfl, by decide, by decide, by decide +kernel⟩
theorem cv_Mo_goOn : zCV y_Mo_goOn "MailChainModel" b_Mo_goOn 4 (some FieldType.int) 2 := ⟨w_1597, ws_44, w_11, w_1598, rfl, by decide, by decide, by decide +kernel⟩
theorem cv_Mo_putCode : zCV y_Mo_putCode "MailChainModel" b_Mo_putCode 3 none 2 := ⟨w_1601, ws_45, w_11, w_1602, rfl, by decide, by decide, by decide +kernel⟩
theorem cv_Mo_code : zCV y_Mo_code "MailChainModel" b_Mo_code 5 (some FieldType.int) 1 := ⟨w_1710, ws_63, w_11, w_1711, rfl, by decide, by decide, by decide +kernel⟩
theorem cv_Mo_firstByte : zCV y_Mo_firstByte "MailChainModel" b_Mo_firstByte 3 (some FieldType.int) 1 := ⟨w_1714, ws_64, w_11, w_1715, rfl, by decide, by decide, by decide +kernel⟩
theorem cv_Mo_layString : zCV y_Mo_layString "MailChainModel" b_Mo_layString 5 (some FieldType.boolean) 1 := ⟨w_1718, ws_65, w_11, w_1719, rfl, by decide, by decide, by decide +kernel⟩
theorem cv_Mo_lay : zCV y_Mo_lay "MailChainModel" b_Mo_lay 2 none 1 := ⟨w_1617, ws_49, w_11, w_1618, rfl, by decide, by decide, by decide +kernel⟩
theorem cv_Mo_six : zCV y_Mo_six "MailChainModel" b_Mo_six 2 none 1 := ⟨w_1621, ws_50, w_11, w_1622, rfl, by decide, by decide, by decide +kernel⟩
theorem cv_Mo_step : zCS y_Mo_step b_Mo_step 4 (some FieldType.int) 2 := ⟨w_1546, w_11, w_1547, by decide, by decide, by decide +kernel⟩
theorem cv_Mo_sumOf : zCS y_Mo_sumOf b_Mo_sumOf 5 (some FieldType.int) 3 := ⟨w_1543, w_11, w_1544, by decide, by decide, by decide +kernel⟩
theorem cv_Mo_isLarge : zCV y_Mo_isLarge "MailChainModel" b_Mo_isLarge 4 (some FieldType.boolean) 1 := ⟨w_1555, ws_35, w_11, w_1556, rfl, by decide, by decide, by decide +kernel⟩
theorem cv_Mo_archiveOf : zCV y_Mo_archiveOf "MailChainModel" b_Mo_archiveOf 6 none 1 := ⟨w_1560, ws_36, w_11, w_1561, rfl, by decide, by decide, by decide +kernel⟩
theorem cv_Mo_compressRow : zCV y_Mo_compressRow "MailChainModel" b_Mo_compressRow 7 none 3 := ⟨w_1588, ws_42, w_11, w_1589, rfl, by decide, by decide, by decide +kernel⟩
theorem cv_Mo_spellRow : zCV y_Mo_spellRow "MailChainModel" b_Mo_spellRow 9 none 2 := ⟨w_1613, ws_48, w_11, w_1614, rfl, by decide, by decide, by decide +kernel⟩
theorem cv_Mo_putChar : zCV y_Mo_putChar "MailChainModel" b_Mo_putChar 2 none 1 := ⟨w_1637, ws_53, w_11, w_1638, rfl, by decide, by decide, by decide +kernel⟩
theorem cv_Mo_putWord : zCV y_Mo_putWord "MailChainModel" b_Mo_putWord 3 none 1 := ⟨w_1633, ws_52, w_11, w_1634, rfl, by decide, by decide, by decide +kernel⟩
theorem cv_Mo_putDecimal : zCV y_Mo_putDecimal "MailChainModel" b_Mo_putDecimal 5 none 1 := ⟨w_1641, ws_54, w_11, w_1642, rfl, by decide, by decide, by decide +kernel⟩
theorem cv_Mo_writePart : zCV y_Mo_writePart "MailChainModel" b_Mo_writePart 5 none 1 := ⟨w_1629, ws_51, w_11, w_1630, rfl, by decide, by decide, by decide +kernel⟩
theorem cv_Mo_word : zCV y_Mo_word "MailChainModel" b_Mo_word 4 (some FieldType.boolean) 1 := ⟨w_1659, ws_56, w_11, w_1660, rfl, by decide, by decide, by decide +kernel⟩
theorem cv_Mo_decimal : zCV y_Mo_decimal "MailChainModel" b_Mo_decimal 7 (some FieldType.long) 1 := ⟨w_1663, ws_57, w_11, w_1664, rfl, by decide, by decide, by decide +kernel⟩
theorem cv_Mo_keep : zCV y_Mo_keep "MailChainModel" b_Mo_keep 7 none 5 := ⟨w_1671, ws_58, w_11, w_1672, rfl, by decide, by decide, by decide +kernel⟩
theorem cv_Mo_come : zCV y_Mo_come "MailChainModel" b_Mo_come 11 (some FieldType.int) 0 := ⟨w_1655, ws_55, w_11, w_1656, rfl, by decide, by decide, by decide +kernel⟩
theorem cv_Mo_emptyBox : zCV y_Mo_emptyBox "MailChainModel" b_Mo_emptyBox 2 none 0 := ⟨w_1683, ws_59, w_11, w_1684, rfl, by decide, by decide, by decide +kernel⟩
theorem cv_Mo_octalAt : zCV y_Mo_octalAt "MailChainModel" b_Mo_octalAt 6 (some FieldType.long) 2 := ⟨w_1726, ws_67, w_11, w_1727, rfl, by decide, by decide, by decide +kernel⟩
theorem cv_Mo_areLinks : zCV y_Mo_areLinks "MailChainModel" b_Mo_areLinks 6 (some FieldType.boolean) 0 := ⟨w_1736, ws_69, w_11, w_1737, rfl, by decide, by decide, by decide +kernel⟩
theorem cv_Mo_take : zCV y_Mo_take "MailChainModel" b_Mo_take 9 none 6 := ⟨w_1732, ws_68, w_11, w_1733, rfl, by decide, by decide, by decide +kernel⟩
theorem cv_Mo_unspell : zCV y_Mo_unspell "MailChainModel" b_Mo_unspell 7 none 0 := ⟨w_1699, ws_61, w_11, w_1700, rfl, by decide, by decide, by decide +kernel⟩
theorem cv_Mo_areSame : zCS y_Mo_areSame b_Mo_areSame 6 (some FieldType.boolean) 4 := ⟨w_1702, w_11, w_1703, by decide, by decide, by decide +kernel⟩
theorem cv_Mo_expand : zCV y_Mo_expand "MailChainModel" b_Mo_expand 7 (some FieldType.boolean) 1 := ⟨w_1706, ws_62, w_11, w_1707, rfl, by decide, by decide, by decide +kernel⟩
theorem cv_Mo_readTree : zCV y_Mo_readTree "MailChainModel" b_Mo_readTree 10 (some FieldType.boolean) 0 := ⟨w_1722, ws_66, w_11, w_1723, rfl, by decide, by decide, by decide +kernel⟩
theorem cv_Mo_unpacked : zCV y_Mo_unpacked "MailChainModel" b_Mo_unpacked 4 (some FieldType.int) 0 := ⟨w_1695, ws_60, w_11, w_1696, rfl, by decide, by decide, by decide +kernel⟩
