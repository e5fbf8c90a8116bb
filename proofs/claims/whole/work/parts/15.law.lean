theorem w_347 : Cond.methodLink "MailChainLaw" 83 y_Mc_clear ∈ tb := tbc_2 107 rfl rfl
theorem w_348 : Cond.instanceMethod y_Mc_clear ∈ tb := tbc_2 108 rfl rfl
theorem w_349 : Cond.selects "MailChain" y_Mc_clear y_Mc_clear ∈ tb := tbc_2 109 rfl rfl
theorem w_350 : Cond.code y_Mc_clear b_Mc_clear 2 (some FieldType.int) ∈ tb := tbc_2 110 rfl rfl
theorem w_359 : Cond.methodLink "MailChainLaw" 97 y_Mc_checksum ∈ tb := tbc_2 119 rfl rfl
theorem w_360 : Cond.instanceMethod y_Mc_checksum ∈ tb := tbc_2 120 rfl rfl
theorem w_361 : Cond.selects "MailChain" y_Mc_checksum y_Mc_checksum ∈ tb := tbc_2 121 rfl rfl
theorem w_362 : Cond.code y_Mc_checksum b_Mc_checksum 2 (some FieldType.int) ∈ tb := tbc_2 122 rfl rfl
theorem w_377 : Cond.methodLink "MailChainLaw" 101 y_Mc_receive ∈ tb := tbc_2 137 rfl rfl
theorem w_378 : Cond.instanceMethod y_Mc_receive ∈ tb := tbc_2 138 rfl rfl
theorem w_379 : Cond.selects "MailChain" y_Mc_receive y_Mc_receive ∈ tb := tbc_2 139 rfl rfl
theorem w_380 : Cond.code y_Mc_receive b_Mc_receive 2 (some FieldType.int) ∈ tb := tbc_2 140 rfl rfl
theorem w_477 : Cond.methodLink "MailChainLaw" 113 y_Mc_empty ∈ tb := tbc_2 237 rfl rfl
theorem w_478 : Cond.instanceMethod y_Mc_empty ∈ tb := tbc_2 238 rfl rfl
theorem w_479 : Cond.selects "MailChain" y_Mc_empty y_Mc_empty ∈ tb := tbc_2 239 rfl rfl
theorem w_480 : Cond.code y_Mc_empty b_Mc_empty 2 (some FieldType.int) ∈ tb := tbc_3 0 rfl rfl
theorem w_486 : Cond.methodLink "MailChainLaw" 117 y_Mc_unpack ∈ tb := tbc_3 6 rfl rfl
theorem w_487 : Cond.instanceMethod y_Mc_unpack ∈ tb := tbc_3 7 rfl rfl
theorem w_488 : Cond.selects "MailChain" y_Mc_unpack y_Mc_unpack ∈ tb := tbc_3 8 rfl rfl
theorem w_489 : Cond.code y_Mc_unpack b_Mc_unpack 1 (some FieldType.int) ∈ tb := tbc_3 9 rfl rfl
theorem w_1042 : Cond.methodLink "MailChainLaw" 62 y_La_type ∈ tb := tbc_5 82 rfl rfl
theorem w_1079 : Cond.methodLink "MailChainLaw" 72 y_La_again ∈ tb := tbc_5 119 rfl rfl
theorem w_1087 : Cond.methodLink "MailChainLaw" 76 y_La_add ∈ tb := tbc_5 127 rfl rfl
theorem w_1132 : Cond.methodLink "MailChainLaw" 80 y_La_link ∈ tb := tbc_5 172 rfl rfl
theorem w_1142 : Cond.methodLink "MailChainLaw" 87 y_La_pack ∈ tb := tbc_5 182 rfl rfl
theorem w_1165 : Cond.methodLink "MailChainLaw" 91 y_La_part ∈ tb := tbc_5 205 rfl rfl
theorem w_1199 : Cond.methodLink "MailChainLaw" 94 y_La_stage ∈ tb := tbc_5 239 rfl rfl
theorem w_1206 : Cond.methodLink "MailChainLaw" 105 y_La_pass ∈ tb := tbc_6 6 rfl rfl
theorem w_1218 : Cond.methodLink "MailChainLaw" 109 y_La_forge ∈ tb := tbc_6 18 rfl rfl
theorem w_1230 : Cond.methodLink "MailChainLaw" 121 y_La_about ∈ tb := tbc_6 30 rfl rfl
theorem w_1243 : Cond.methodLink "MailChainLaw" 124 y_La_byteOf ∈ tb := tbc_6 43 rfl rfl
theorem w_1457 : Cond.methodLink "MailChainLaw" 68 y_Mo_thrown ∈ tb := tbc_7 17 rfl rfl
theorem w_1458 : Cond.instanceMethod y_Mo_thrown ∈ tb := tbc_7 18 rfl rfl
theorem w_1459 : Cond.selects "MailChainModel" y_Mo_thrown y_Mo_thrown ∈ tb := tbc_7 19 rfl rfl
theorem w_1460 : Cond.code y_Mo_thrown b_Mo_thrown 1 (some FieldType.int) ∈ tb := tbc_7 20 rfl rfl
theorem w_1461 : Cond.methodLink "MailChainLaw" 67 y_Mo_type ∈ tb := tbc_7 21 rfl rfl
theorem w_1462 : Cond.instanceMethod y_Mo_type ∈ tb := tbc_7 22 rfl rfl
theorem w_1463 : Cond.selects "MailChainModel" y_Mo_type y_Mo_type ∈ tb := tbc_7 23 rfl rfl
theorem w_1464 : Cond.code y_Mo_type b_Mo_type 5 (some FieldType.int) ∈ tb := tbc_7 24 rfl rfl
theorem w_1465 : Cond.methodLink "MailChainLaw" 75 y_Mo_again ∈ tb := tbc_7 25 rfl rfl
theorem w_1466 : Cond.instanceMethod y_Mo_again ∈ tb := tbc_7 26 rfl rfl
theorem w_1467 : Cond.selects "MailChainModel" y_Mo_again y_Mo_again ∈ tb := tbc_7 27 rfl rfl
theorem w_1468 : Cond.code y_Mo_again b_Mo_again 4 (some FieldType.int) ∈ tb := tbc_7 28 rfl rfl
theorem w_1469 : Cond.methodLink "MailChainLaw" 79 y_Mo_add ∈ tb := tbc_7 29 rfl rfl
theorem w_1470 : Cond.instanceMethod y_Mo_add ∈ tb := tbc_7 30 rfl rfl
theorem w_1471 : Cond.selects "MailChainModel" y_Mo_add y_Mo_add ∈ tb := tbc_7 31 rfl rfl
theorem w_1472 : Cond.code y_Mo_add b_Mo_add 8 (some FieldType.int) ∈ tb := tbc_7 32 rfl rfl
theorem w_1522 : Cond.methodLink "MailChainLaw" 82 y_Mo_link ∈ tb := tbc_7 82 rfl rfl
theorem w_1523 : Cond.instanceMethod y_Mo_link ∈ tb := tbc_7 83 rfl rfl
theorem w_1524 : Cond.selects "MailChainModel" y_Mo_link y_Mo_link ∈ tb := tbc_7 84 rfl rfl
theorem w_1525 : Cond.code y_Mo_link b_Mo_link 3 (some FieldType.int) ∈ tb := tbc_7 85 rfl rfl
theorem w_1534 : Cond.methodLink "MailChainLaw" 86 y_Mo_clear ∈ tb := tbc_7 94 rfl rfl
theorem w_1535 : Cond.instanceMethod y_Mo_clear ∈ tb := tbc_7 95 rfl rfl
theorem w_1536 : Cond.selects "MailChainModel" y_Mo_clear y_Mo_clear ∈ tb := tbc_7 96 rfl rfl
theorem w_1537 : Cond.code y_Mo_clear b_Mo_clear 2 (some FieldType.int) ∈ tb := tbc_7 97 rfl rfl
theorem w_1538 : Cond.methodLink "MailChainLaw" 100 y_Mo_checksum ∈ tb := tbc_7 98 rfl rfl
theorem w_1539 : Cond.instanceMethod y_Mo_checksum ∈ tb := tbc_7 99 rfl rfl
theorem w_1540 : Cond.selects "MailChainModel" y_Mo_checksum y_Mo_checksum ∈ tb := tbc_7 100 rfl rfl
theorem w_1541 : Cond.code y_Mo_checksum b_Mo_checksum 2 (some FieldType.int) ∈ tb := tbc_7 101 rfl rfl
theorem w_1549 : Cond.methodLink "MailChainLaw" 90 y_Mo_pack ∈ tb := tbc_7 109 rfl rfl
theorem w_1550 : Cond.instanceMethod y_Mo_pack ∈ tb := tbc_7 110 rfl rfl
theorem w_1551 : Cond.selects "MailChainModel" y_Mo_pack y_Mo_pack ∈ tb := tbc_7 111 rfl rfl
theorem w_1552 : Cond.code y_Mo_pack b_Mo_pack 5 (some FieldType.int) ∈ tb := tbc_7 112 rfl rfl
theorem w_1623 : Cond.methodLink "MailChainLaw" 93 y_Mo_part ∈ tb := tbc_7 183 rfl rfl
theorem w_1624 : Cond.instanceMethod y_Mo_part ∈ tb := tbc_7 184 rfl rfl
theorem w_1625 : Cond.selects "MailChainModel" y_Mo_part y_Mo_part ∈ tb := tbc_7 185 rfl rfl
theorem w_1626 : Cond.code y_Mo_part b_Mo_part 3 (some FieldType.int) ∈ tb := tbc_7 186 rfl rfl
theorem w_1645 : Cond.methodLink "MailChainLaw" 96 y_Mo_stage ∈ tb := tbc_7 205 rfl rfl
theorem w_1646 : Cond.instanceMethod y_Mo_stage ∈ tb := tbc_7 206 rfl rfl
theorem w_1647 : Cond.selects "MailChainModel" y_Mo_stage y_Mo_stage ∈ tb := tbc_7 207 rfl rfl
theorem w_1648 : Cond.code y_Mo_stage b_Mo_stage 3 (some FieldType.int) ∈ tb := tbc_7 208 rfl rfl
theorem w_1649 : Cond.methodLink "MailChainLaw" 104 y_Mo_receive ∈ tb := tbc_7 209 rfl rfl
theorem w_1650 : Cond.instanceMethod y_Mo_receive ∈ tb := tbc_7 210 rfl rfl
theorem w_1651 : Cond.selects "MailChainModel" y_Mo_receive y_Mo_receive ∈ tb := tbc_7 211 rfl rfl
theorem w_1652 : Cond.code y_Mo_receive b_Mo_receive 2 (some FieldType.int) ∈ tb := tbc_7 212 rfl rfl
theorem w_1673 : Cond.methodLink "MailChainLaw" 108 y_Mo_pass ∈ tb := tbc_7 233 rfl rfl
theorem w_1674 : Cond.instanceMethod y_Mo_pass ∈ tb := tbc_7 234 rfl rfl
theorem w_1675 : Cond.selects "MailChainModel" y_Mo_pass y_Mo_pass ∈ tb := tbc_7 235 rfl rfl
theorem w_1676 : Cond.code y_Mo_pass b_Mo_pass 4 (some FieldType.int) ∈ tb := tbc_7 236 rfl rfl
theorem w_1677 : Cond.methodLink "MailChainLaw" 112 y_Mo_forge ∈ tb := tbc_7 237 rfl rfl
theorem w_1678 : Cond.instanceMethod y_Mo_forge ∈ tb := tbc_7 238 rfl rfl
theorem w_1679 : Cond.selects "MailChainModel" y_Mo_forge y_Mo_forge ∈ tb := tbc_7 239 rfl rfl
theorem w_1680 : Cond.code y_Mo_forge b_Mo_forge 3 none ∈ tb := tbc_8 0 rfl rfl
theorem w_1685 : Cond.methodLink "MailChainLaw" 116 y_Mo_empty ∈ tb := tbc_8 5 rfl rfl
theorem w_1686 : Cond.instanceMethod y_Mo_empty ∈ tb := tbc_8 6 rfl rfl
theorem w_1687 : Cond.selects "MailChainModel" y_Mo_empty y_Mo_empty ∈ tb := tbc_8 7 rfl rfl
theorem w_1688 : Cond.code y_Mo_empty b_Mo_empty 2 (some FieldType.int) ∈ tb := tbc_8 8 rfl rfl
theorem w_1689 : Cond.methodLink "MailChainLaw" 120 y_Mo_unpack ∈ tb := tbc_8 9 rfl rfl
theorem w_1690 : Cond.instanceMethod y_Mo_unpack ∈ tb := tbc_8 10 rfl rfl
theorem w_1691 : Cond.selects "MailChainModel" y_Mo_unpack y_Mo_unpack ∈ tb := tbc_8 11 rfl rfl
theorem w_1692 : Cond.code y_Mo_unpack b_Mo_unpack 3 (some FieldType.int) ∈ tb := tbc_8 12 rfl rfl
theorem w_1738 : Cond.methodLink "MailChainLaw" 123 y_Mo_about ∈ tb := tbc_8 58 rfl rfl
theorem w_1739 : Cond.instanceMethod y_Mo_about ∈ tb := tbc_8 59 rfl rfl
theorem w_1740 : Cond.selects "MailChainModel" y_Mo_about y_Mo_about ∈ tb := tbc_8 60 rfl rfl
theorem w_1741 : Cond.code y_Mo_about b_Mo_about 7 (some FieldType.int) ∈ tb := tbc_8 61 rfl rfl
theorem w_1742 : Cond.methodLink "MailChainLaw" 126 y_Mo_byteOf ∈ tb := tbc_8 62 rfl rfl
theorem w_1743 : Cond.instanceMethod y_Mo_byteOf ∈ tb := tbc_8 63 rfl rfl
theorem w_1744 : Cond.selects "MailChainModel" y_Mo_byteOf y_Mo_byteOf ∈ tb := tbc_8 64 rfl rfl
theorem w_1745 : Cond.code y_Mo_byteOf b_Mo_byteOf 8 (some FieldType.int) ∈ tb := tbc_8 65 rfl rfl
theorem w_1746 : Cond.constantLong "MailChainLaw" 60 4294967295 ∈ tb := tbc_8 66 rfl rfl
theorem cv_Mo_type : zCV y_Mo_type "MailChainModel" b_Mo_type 5 (some FieldType.int) 2 := ⟨w_1462, w_1463, w_11, w_1464, rfl, by decide, by decide, by decide +kernel⟩
theorem cv_Mo_thrown : zCV y_Mo_thrown "MailChainModel" b_Mo_thrown 1 (some FieldType.int) 0 := ⟨w_1458, w_1459, w_11, w_1460, rfl, by decide, by decide, by decide +kernel⟩
theorem cv_Mo_again : zCV y_Mo_again "MailChainModel" b_Mo_again 4 (some FieldType.int) 1 := ⟨w_1466, w_1467, w_11, w_1468, rfl, by decide, by decide, by decide +kernel⟩
theorem cv_Mo_add : zCV y_Mo_add "MailChainModel" b_Mo_add 8 (some FieldType.int) 6 := ⟨w_1470, w_1471, w_11, w_1472, rfl, by decide, by decide, by decide +kernel⟩
theorem cv_Mo_link : zCV y_Mo_link "MailChainModel" b_Mo_link 3 (some FieldType.int) 1 := ⟨w_1523, w_1524, w_11, w_1525, rfl, by decide, by decide, by decide +kernel⟩
theorem cv_Mc_clear : zCV y_Mc_clear "MailChain" b_Mc_clear 2 (some FieldType.int) 0 := ⟨w_348, w_349, w_1, w_350, rfl, by decide, by decide, by decide +kernel⟩
theorem cv_Mo_clear : zCV y_Mo_clear "MailChainModel" b_Mo_clear 2 (some FieldType.int) 0 := ⟨w_1535, w_1536, w_11, w_1537, rfl, by decide, by decide, by decide +kernel⟩
theorem cv_Mo_pack : zCV y_Mo_pack "MailChainModel" b_Mo_pack 5 (some FieldType.int) 2 := ⟨w_1550, w_1551, w_11, w_1552, rfl, by decide, by decide, by decide +kernel⟩
theorem cv_Mo_part : zCV y_Mo_part "MailChainModel" b_Mo_part 3 (some FieldType.int) 2 := ⟨w_1624, w_1625, w_11, w_1626, rfl, by decide, by decide, by decide +kernel⟩
theorem cv_Mo_stage : zCV y_Mo_stage "MailChainModel" b_Mo_stage 3 (some FieldType.int) 2 := ⟨w_1646, w_1647, w_11, w_1648, rfl, by decide, by decide, by decide +kernel⟩
theorem cv_Mc_checksum : zCV y_Mc_checksum "MailChain" b_Mc_checksum 2 (some FieldType.int) 0 := ⟨w_360, w_361, w_1, w_362, rfl, by decide, by decide, by decide +kernel⟩
theorem cv_Mo_checksum : zCV y_Mo_checksum "MailChainModel" b_Mo_checksum 2 (some FieldType.int) 0 := ⟨w_1539, w_1540, w_11, w_1541, rfl, by decide, by decide, by decide +kernel⟩
theorem cv_Mc_receive : zCV y_Mc_receive "MailChain" b_Mc_receive 2 (some FieldType.int) 0 := ⟨w_378, w_379, w_1, w_380, rfl, by decide, by decide, by decide +kernel⟩
theorem cv_Mo_receive : zCV y_Mo_receive "MailChainModel" b_Mo_receive 2 (some FieldType.int) 0 := ⟨w_1650, w_1651, w_11, w_1652, rfl, by decide, by decide, by decide +kernel⟩
theorem cv_Mo_pass : zCV y_Mo_pass "MailChainModel" b_Mo_pass 4 (some FieldType.int) 3 := ⟨w_1674, w_1675, w_11, w_1676, rfl, by decide, by decide, by decide +kernel⟩
theorem cv_Mo_forge : zCV y_Mo_forge "MailChainModel" b_Mo_forge 3 none 2 := ⟨w_1678, w_1679, w_11, w_1680, rfl, by decide, by decide, by decide +kernel⟩
theorem cv_Mc_empty : zCV y_Mc_empty "MailChain" b_Mc_empty 2 (some FieldType.int) 0 := ⟨w_478, w_479, w_1, w_480, rfl, by decide, by decide, by decide +kernel⟩
theorem cv_Mo_empty : zCV y_Mo_empty "MailChainModel" b_Mo_empty 2 (some FieldType.int) 0 := ⟨w_1686, w_1687, w_11, w_1688, rfl, by decide, by decide, by decide +kernel⟩
theorem cv_Mc_unpack : zCV y_Mc_unpack "MailChain" b_Mc_unpack 1 (some FieldType.int) 0 := ⟨w_487, w_488, w_1, w_489, rfl, by decide, by decide, by decide +kernel⟩
theorem cv_Mo_unpack : zCV y_Mo_unpack "MailChainModel" b_Mo_unpack 3 (some FieldType.int) 0 := ⟨w_1690, w_1691, w_11, w_1692, rfl, by decide, by decide, by decide +kernel⟩
theorem cv_Mo_about : zCV y_Mo_about "MailChainModel" b_Mo_about 7 (some FieldType.int) 3 := ⟨w_1739, w_1740, w_11, w_1741, rfl, by decide, by decide, by decide +kernel⟩
theorem cv_Mo_byteOf : zCV y_Mo_byteOf "MailChainModel" b_Mo_byteOf 8 (some FieldType.int) 3 := ⟨w_1743, w_1744, w_11, w_1745, rfl, by decide, by decide, by decide +kernel⟩
/-- the law behind its making of things -/
def Wp_La_law (L : Nat) (xs : Nat → Int32) (a1 a2 a3 cn sn : Nat) (M : zM) : Prop := ∀ K23 : Int32 → zM → Nat → Nat → Prop, (∀ (v4 : Int32) (M : zM) (cn sn : Nat), cn + 8 ≤ 601024 ∧ sn + 48 ≤ 7293033 ∧ ((((Int32.ofNat L) - 7) < v4 → (True)) ∧ (¬ ((Int32.ofNat L) - 7) < v4 → (vp_in v4 L ∧ ((((xs (v4).toNatClampNeg) &&& 15) = 0 → (vp_in (v4 + 1) L ∧ (vp_in (v4 + 2) L ∧ (vp_in (v4 + 3) L ∧ (Wp_La_type a1 (((((xs ((v4 + 1)).toNatClampNeg)).toInt64) <<< (((32 : Int32)).toInt64 &&& 63)) ||| ((((xs ((v4 + 2)).toNatClampNeg)).toInt64) &&& 4294967295)) (xs ((v4 + 3)).toNatClampNeg) a3 M (fun x2 M1 => (vp_in (v4 + 1) L ∧ (vp_in (v4 + 2) L ∧ (vp_in (v4 + 3) L ∧ (Wp_Mo_type a2 (((((xs ((v4 + 1)).toNatClampNeg)).toInt64) <<< (((32 : Int32)).toInt64 &&& 63)) ||| ((((xs ((v4 + 2)).toNatClampNeg)).toInt64) &&& 4294967295)) (xs ((v4 + 3)).toNatClampNeg) M1 (fun x4 M3 => (Wp_Mo_thrown a2 M3 (fun x6 M5 => ((x6 = x2 → ((¬ x2 = 0 → (∀ x7 : Int32, x7 = v4 + 7 → (K23 x7 M5 (cn + 1) (sn + 6)))) ∧ (x2 = 0 → (vp_in (0 : Int32) (ln a3) ∧ (((lg_cmp (M5.2.1 a3 ((0 : Int32)).toNatClampNeg) ((x4).toInt64)) = 0 → (∀ x8 : Int32, x8 = v4 + 7 → (K23 x8 M5 (cn + 1) (sn + 6)))) ∧ (¬ (lg_cmp (M5.2.1 a3 ((0 : Int32)).toNatClampNeg) ((x4).toInt64)) = 0 → (False))))))) ∧ (¬ x6 = x2 → (False)))))))))))))))) ∧ (((xs (v4).toNatClampNeg) &&& 15) = 1 → (vp_in (v4 + 1) L ∧ (Wp_La_again a1 (xs ((v4 + 1)).toNatClampNeg) a3 M (fun x10 M9 => (vp_in (v4 + 1) L ∧ (Wp_Mo_again a2 (xs ((v4 + 1)).toNatClampNeg) M9 (fun x12 M11 => (Wp_Mo_thrown a2 M11 (fun x14 M13 => ((x14 = x10 → ((¬ x10 = 0 → (∀ x15 : Int32, x15 = v4 + 7 → (K23 x15 M13 (cn + 1) (sn + 6)))) ∧ (x10 = 0 → (vp_in (0 : Int32) (ln a3) ∧ (((lg_cmp (M13.2.1 a3 ((0 : Int32)).toNatClampNeg) ((x12).toInt64)) = 0 → (∀ x16 : Int32, x16 = v4 + 7 → (K23 x16 M13 (cn + 1) (sn + 6)))) ∧ (¬ (lg_cmp (M13.2.1 a3 ((0 : Int32)).toNatClampNeg) ((x12).toInt64)) = 0 → (False))))))) ∧ (¬ x14 = x10 → (False)))))))))))) ∧ (((xs (v4).toNatClampNeg) &&& 15) = 2 → (vp_in (v4 + 1) L ∧ (vp_in (v4 + 2) L ∧ (vp_in (v4 + 3) L ∧ (vp_in (v4 + 4) L ∧ (vp_in (v4 + 5) L ∧ (vp_in (v4 + 6) L ∧ (Wp_La_add a1 (xs ((v4 + 1)).toNatClampNeg) (xs ((v4 + 2)).toNatClampNeg) (xs ((v4 + 3)).toNatClampNeg) (xs ((v4 + 4)).toNatClampNeg) (xs ((v4 + 5)).toNatClampNeg) (xs ((v4 + 6)).toNatClampNeg) a3 M (fun x18 M17 => (vp_in (v4 + 1) L ∧ (vp_in (v4 + 2) L ∧ (vp_in (v4 + 3) L ∧ (vp_in (v4 + 4) L ∧ (vp_in (v4 + 5) L ∧ (vp_in (v4 + 6) L ∧ (Wp_Mo_add a2 (xs ((v4 + 1)).toNatClampNeg) (xs ((v4 + 2)).toNatClampNeg) (xs ((v4 + 3)).toNatClampNeg) (xs ((v4 + 4)).toNatClampNeg) (xs ((v4 + 5)).toNatClampNeg) (xs ((v4 + 6)).toNatClampNeg) M17 (fun x20 M19 => (Wp_Mo_thrown a2 M19 (fun x22 M21 => ((x22 = x18 → ((¬ x18 = 0 → (∀ x23 : Int32, x23 = v4 + 7 → (K23 x23 M21 (cn + 1) (sn + 6)))) ∧ (x18 = 0 → (vp_in (0 : Int32) (ln a3) ∧ (((lg_cmp (M21.2.1 a3 ((0 : Int32)).toNatClampNeg) ((x20).toInt64)) = 0 → (∀ x24 : Int32, x24 = v4 + 7 → (K23 x24 M21 (cn + 1) (sn + 6)))) ∧ (¬ (lg_cmp (M21.2.1 a3 ((0 : Int32)).toNatClampNeg) ((x20).toInt64)) = 0 → (False))))))) ∧ (¬ x22 = x18 → (False)))))))))))))))))))))) ∧ (((xs (v4).toNatClampNeg) &&& 15) = 3 → (vp_in (v4 + 1) L ∧ (Wp_La_link a1 (xs ((v4 + 1)).toNatClampNeg) a3 M (fun x26 M25 => (vp_in (v4 + 1) L ∧ (Wp_Mo_link a2 (xs ((v4 + 1)).toNatClampNeg) M25 (fun x28 M27 => (Wp_Mo_thrown a2 M27 (fun x30 M29 => ((x30 = x26 → ((¬ x26 = 0 → (∀ x31 : Int32, x31 = v4 + 7 → (K23 x31 M29 (cn + 1) (sn + 6)))) ∧ (x26 = 0 → (vp_in (0 : Int32) (ln a3) ∧ (((lg_cmp (M29.2.1 a3 ((0 : Int32)).toNatClampNeg) ((x28).toInt64)) = 0 → (∀ x32 : Int32, x32 = v4 + 7 → (K23 x32 M29 (cn + 1) (sn + 6)))) ∧ (¬ (lg_cmp (M29.2.1 a3 ((0 : Int32)).toNatClampNeg) ((x28).toInt64)) = 0 → (False))))))) ∧ (¬ x30 = x26 → (False)))))))))))) ∧ (((xs (v4).toNatClampNeg) &&& 15) = 4 → (Wp_Mc_clear a1 M (fun x34 M33 => (Wp_Mo_clear a2 M33 (fun x36 M35 => ((x34 = x36 → (∀ x37 : Int32, x37 = v4 + 7 → (K23 x37 M35 cn sn))) ∧ (¬ x34 = x36 → (False)))))))) ∧ (((xs (v4).toNatClampNeg) &&& 15) = 5 → (vp_in (v4 + 1) L ∧ (vp_in (v4 + 2) L ∧ (Wp_La_pack a1 (xs ((v4 + 1)).toNatClampNeg) (xs ((v4 + 2)).toNatClampNeg) a3 M (fun x39 M38 => (vp_in (v4 + 1) L ∧ (vp_in (v4 + 2) L ∧ (Wp_Mo_pack a2 (xs ((v4 + 1)).toNatClampNeg) (xs ((v4 + 2)).toNatClampNeg) M38 (fun x41 M40 => (Wp_Mo_thrown a2 M40 (fun x43 M42 => ((x43 = x39 → ((¬ x39 = 0 → (∀ x44 : Int32, x44 = v4 + 7 → (K23 x44 M42 (cn + 1) (sn + 6)))) ∧ (x39 = 0 → (vp_in (0 : Int32) (ln a3) ∧ (((lg_cmp (M42.2.1 a3 ((0 : Int32)).toNatClampNeg) ((x41).toInt64)) = 0 → (∀ x45 : Int32, x45 = v4 + 7 → (K23 x45 M42 (cn + 1) (sn + 6)))) ∧ (¬ (lg_cmp (M42.2.1 a3 ((0 : Int32)).toNatClampNeg) ((x41).toInt64)) = 0 → (False))))))) ∧ (¬ x43 = x39 → (False)))))))))))))) ∧ (((xs (v4).toNatClampNeg) &&& 15) = 6 → (vp_in (v4 + 1) L ∧ (vp_in (v4 + 2) L ∧ (Wp_La_part a1 (xs ((v4 + 1)).toNatClampNeg) (xs ((v4 + 2)).toNatClampNeg) a3 M (fun x47 M46 => (vp_in (v4 + 1) L ∧ (vp_in (v4 + 2) L ∧ (Wp_Mo_part a2 (xs ((v4 + 1)).toNatClampNeg) (xs ((v4 + 2)).toNatClampNeg) M46 (fun x49 M48 => (Wp_Mo_thrown a2 M48 (fun x51 M50 => ((x51 = x47 → ((¬ x47 = 0 → (∀ x52 : Int32, x52 = v4 + 7 → (K23 x52 M50 (cn + 1) (sn + 6)))) ∧ (x47 = 0 → (vp_in (0 : Int32) (ln a3) ∧ (((lg_cmp (M50.2.1 a3 ((0 : Int32)).toNatClampNeg) ((x49).toInt64)) = 0 → (∀ x53 : Int32, x53 = v4 + 7 → (K23 x53 M50 (cn + 1) (sn + 6)))) ∧ (¬ (lg_cmp (M50.2.1 a3 ((0 : Int32)).toNatClampNeg) ((x49).toInt64)) = 0 → (False))))))) ∧ (¬ x51 = x47 → (False)))))))))))))) ∧ (((xs (v4).toNatClampNeg) &&& 15) = 7 → (vp_in (v4 + 1) L ∧ (vp_in (v4 + 2) L ∧ (Wp_La_stage a1 (xs ((v4 + 1)).toNatClampNeg) (xs ((v4 + 2)).toNatClampNeg) a3 M (fun x55 M54 => (vp_in (v4 + 1) L ∧ (vp_in (v4 + 2) L ∧ (Wp_Mo_stage a2 (xs ((v4 + 1)).toNatClampNeg) (xs ((v4 + 2)).toNatClampNeg) M54 (fun x57 M56 => (Wp_Mo_thrown a2 M56 (fun x59 M58 => ((x59 = x55 → ((¬ x55 = 0 → (∀ x60 : Int32, x60 = v4 + 7 → (K23 x60 M58 (cn + 1) (sn + 6)))) ∧ (x55 = 0 → (vp_in (0 : Int32) (ln a3) ∧ (((lg_cmp (M58.2.1 a3 ((0 : Int32)).toNatClampNeg) ((x57).toInt64)) = 0 → (∀ x61 : Int32, x61 = v4 + 7 → (K23 x61 M58 (cn + 1) (sn + 6)))) ∧ (¬ (lg_cmp (M58.2.1 a3 ((0 : Int32)).toNatClampNeg) ((x57).toInt64)) = 0 → (False))))))) ∧ (¬ x59 = x55 → (False)))))))))))))) ∧ (((xs (v4).toNatClampNeg) &&& 15) = 8 → (Wp_Mc_checksum a1 M (fun x63 M62 => (Wp_Mo_checksum a2 M62 (fun x65 M64 => ((x63 = x65 → (∀ x66 : Int32, x66 = v4 + 7 → (K23 x66 M64 cn sn))) ∧ (¬ x63 = x65 → (False)))))))) ∧ (((xs (v4).toNatClampNeg) &&& 15) = 9 → (Wp_Mc_receive a1 M (fun x68 M67 => (Wp_Mo_receive a2 M67 (fun x70 M69 => ((x68 = x70 → (∀ x71 : Int32, x71 = v4 + 7 → (K23 x71 M69 cn sn))) ∧ (¬ x68 = x70 → (False)))))))) ∧ (((xs (v4).toNatClampNeg) &&& 15) = 10 → (vp_in (v4 + 1) L ∧ (vp_in (v4 + 2) L ∧ (vp_in (v4 + 3) L ∧ (Wp_La_pass a1 (xs ((v4 + 1)).toNatClampNeg) (xs ((v4 + 2)).toNatClampNeg) (xs ((v4 + 3)).toNatClampNeg) a3 M (fun x73 M72 => (vp_in (v4 + 1) L ∧ (vp_in (v4 + 2) L ∧ (vp_in (v4 + 3) L ∧ (Wp_Mo_pass a2 (xs ((v4 + 1)).toNatClampNeg) (xs ((v4 + 2)).toNatClampNeg) (xs ((v4 + 3)).toNatClampNeg) M72 (fun x75 M74 => (Wp_Mo_thrown a2 M74 (fun x77 M76 => ((x77 = x73 → ((¬ x73 = 0 → (∀ x78 : Int32, x78 = v4 + 7 → (K23 x78 M76 (cn + 1) (sn + 6)))) ∧ (x73 = 0 → (vp_in (0 : Int32) (ln a3) ∧ (((lg_cmp (M76.2.1 a3 ((0 : Int32)).toNatClampNeg) ((x75).toInt64)) = 0 → (∀ x79 : Int32, x79 = v4 + 7 → (K23 x79 M76 (cn + 1) (sn + 6)))) ∧ (¬ (lg_cmp (M76.2.1 a3 ((0 : Int32)).toNatClampNeg) ((x75).toInt64)) = 0 → (False))))))) ∧ (¬ x77 = x73 → (False)))))))))))))))) ∧ (((xs (v4).toNatClampNeg) &&& 15) = 11 → (vp_in (v4 + 1) L ∧ (vp_in (v4 + 2) L ∧ (Wp_La_forge a1 (xs ((v4 + 1)).toNatClampNeg) (xs ((v4 + 2)).toNatClampNeg) M (fun x81 M80 => (vp_in (v4 + 1) L ∧ (vp_in (v4 + 2) L ∧ (Wp_Mo_forge a2 (xs ((v4 + 1)).toNatClampNeg) (xs ((v4 + 2)).toNatClampNeg) M80 (fun M82 => (Wp_Mo_thrown a2 M82 (fun x84 M83 => ((x84 = x81 → (∀ x85 : Int32, x85 = v4 + 7 → (K23 x85 M83 (cn + 1) (sn + 6)))) ∧ (¬ x84 = x81 → (False)))))))))))))) ∧ (((xs (v4).toNatClampNeg) &&& 15) = 12 → (Wp_Mc_empty a1 M (fun x87 M86 => (Wp_Mo_empty a2 M86 (fun x89 M88 => ((x87 = x89 → (∀ x90 : Int32, x90 = v4 + 7 → (K23 x90 M88 cn sn))) ∧ (¬ x87 = x89 → (False)))))))) ∧ (((xs (v4).toNatClampNeg) &&& 15) = 13 → (Wp_Mc_unpack a1 M (fun x92 M91 => (Wp_Mo_unpack a2 M91 (fun x94 M93 => ((x92 = x94 → (∀ x95 : Int32, x95 = v4 + 7 → (K23 x95 M93 cn sn))) ∧ (¬ x92 = x94 → (False)))))))) ∧ (((xs (v4).toNatClampNeg) &&& 15) = 14 → (vp_in (v4 + 1) L ∧ (vp_in (v4 + 2) L ∧ (vp_in (v4 + 3) L ∧ (Wp_La_about a1 (xs ((v4 + 1)).toNatClampNeg) (xs ((v4 + 2)).toNatClampNeg) (xs ((v4 + 3)).toNatClampNeg) a3 M (fun x97 M96 => (vp_in (v4 + 1) L ∧ (vp_in (v4 + 2) L ∧ (vp_in (v4 + 3) L ∧ (Wp_Mo_about a2 (xs ((v4 + 1)).toNatClampNeg) (xs ((v4 + 2)).toNatClampNeg) (xs ((v4 + 3)).toNatClampNeg) M96 (fun x99 M98 => (Wp_Mo_thrown a2 M98 (fun x101 M100 => ((x101 = x97 → ((¬ x97 = 0 → (∀ x102 : Int32, x102 = v4 + 7 → (K23 x102 M100 (cn + 1) (sn + 6)))) ∧ (x97 = 0 → (vp_in (0 : Int32) (ln a3) ∧ (((lg_cmp (M100.2.1 a3 ((0 : Int32)).toNatClampNeg) ((x99).toInt64)) = 0 → (∀ x103 : Int32, x103 = v4 + 7 → (K23 x103 M100 (cn + 1) (sn + 6)))) ∧ (¬ (lg_cmp (M100.2.1 a3 ((0 : Int32)).toNatClampNeg) ((x99).toInt64)) = 0 → (False))))))) ∧ (¬ x101 = x97 → (False)))))))))))))))) ∧ (((xs (v4).toNatClampNeg) &&& 15) = 15 → (vp_in (v4 + 1) L ∧ (vp_in (v4 + 2) L ∧ (vp_in (v4 + 3) L ∧ (Wp_La_byteOf a1 (xs ((v4 + 1)).toNatClampNeg) (xs ((v4 + 2)).toNatClampNeg) (xs ((v4 + 3)).toNatClampNeg) a3 M (fun x105 M104 => (vp_in (v4 + 1) L ∧ (vp_in (v4 + 2) L ∧ (vp_in (v4 + 3) L ∧ (Wp_Mo_byteOf a2 (xs ((v4 + 1)).toNatClampNeg) (xs ((v4 + 2)).toNatClampNeg) (xs ((v4 + 3)).toNatClampNeg) M104 (fun x107 M106 => (Wp_Mo_thrown a2 M106 (fun x109 M108 => ((x109 = x105 → ((¬ x105 = 0 → (∀ x110 : Int32, x110 = v4 + 7 → (K23 x110 M108 (cn + 1) (sn + 6)))) ∧ (x105 = 0 → (vp_in (0 : Int32) (ln a3) ∧ (((lg_cmp (M108.2.1 a3 ((0 : Int32)).toNatClampNeg) ((x107).toInt64)) = 0 → (∀ x111 : Int32, x111 = v4 + 7 → (K23 x111 M108 (cn + 1) (sn + 6)))) ∧ (¬ (lg_cmp (M108.2.1 a3 ((0 : Int32)).toNatClampNeg) ((x107).toInt64)) = 0 → (False))))))) ∧ (¬ x109 = x105 → (False)))))))))))))))) ∧ (¬ ((xs (v4).toNatClampNeg) &&& 15) = 0 → ¬ ((xs (v4).toNatClampNeg) &&& 15) = 1 → ¬ ((xs (v4).toNatClampNeg) &&& 15) = 2 → ¬ ((xs (v4).toNatClampNeg) &&& 15) = 3 → ¬ ((xs (v4).toNatClampNeg) &&& 15) = 4 → ¬ ((xs (v4).toNatClampNeg) &&& 15) = 5 → ¬ ((xs (v4).toNatClampNeg) &&& 15) = 6 → ¬ ((xs (v4).toNatClampNeg) &&& 15) = 7 → ¬ ((xs (v4).toNatClampNeg) &&& 15) = 8 → ¬ ((xs (v4).toNatClampNeg) &&& 15) = 9 → ¬ ((xs (v4).toNatClampNeg) &&& 15) = 10 → ¬ ((xs (v4).toNatClampNeg) &&& 15) = 11 → ¬ ((xs (v4).toNatClampNeg) &&& 15) = 12 → ¬ ((xs (v4).toNatClampNeg) &&& 15) = 13 → ¬ ((xs (v4).toNatClampNeg) &&& 15) = 14 → ¬ ((xs (v4).toNatClampNeg) &&& 15) = 15 → (∀ x112 : Int32, x112 = v4 + 7 → (K23 x112 M cn sn))))))) → K23 v4 M cn sn) → (K23 0 M cn sn)
theorem d_La_law_20 : decode code 20 = .ok (.iconst 0, 1) := by decide +kernel
theorem d_La_law_21 : decode code 21 = .ok (.istore 4, 2) := by decide +kernel
theorem d_La_law_23 : decode code 23 = .ok (.iload 4, 2) := by decide +kernel
theorem d_La_law_25 : decode code 25 = .ok (.aload_n 0, 1) := by decide +kernel
theorem d_La_law_26 : decode code 26 = .ok (.arraylength, 1) := by decide +kernel
theorem d_La_law_27 : decode code 27 = .ok (.bipush 7, 2) := by decide +kernel
theorem d_La_law_29 : decode code 29 = .ok (.isub, 1) := by decide +kernel
theorem d_La_law_30 : decode code 30 = .ok (.if_icmp .gt 983, 3) := by decide +kernel
theorem d_La_law_33 : decode code 33 = .ok (.aload_n 0, 1) := by decide +kernel
theorem d_La_law_34 : decode code 34 = .ok (.iload 4, 2) := by decide +kernel
theorem d_La_law_36 : decode code 36 = .ok (.iaload, 1) := by decide +kernel
theorem d_La_law_37 : decode code 37 = .ok (.bipush 15, 2) := by decide +kernel
theorem d_La_law_39 : decode code 39 = .ok (.iand, 1) := by decide +kernel
theorem d_La_law_40 : decode code 40 = .ok (.tableswitch 967 0 15 #[80, 180, 236, 354, 410, 423, 491, 559, 627, 640, 653, 733, 781, 794, 807, 887], 80) := by decide +kernel
theorem d_La_law_120 : decode code 120 = .ok (.aload_n 1, 1) := by decide +kernel
theorem d_La_law_121 : decode code 121 = .ok (.aload_n 0, 1) := by decide +kernel
theorem d_La_law_122 : decode code 122 = .ok (.iload 4, 2) := by decide +kernel
theorem d_La_law_124 : decode code 124 = .ok (.iconst 1, 1) := by decide +kernel
theorem d_La_law_125 : decode code 125 = .ok (.iadd, 1) := by decide +kernel
theorem d_La_law_126 : decode code 126 = .ok (.iaload, 1) := by decide +kernel
theorem d_La_law_127 : decode code 127 = .ok (.i2l, 1) := by decide +kernel
theorem d_La_law_128 : decode code 128 = .ok (.bipush 32, 2) := by decide +kernel
theorem d_La_law_130 : decode code 130 = .ok (.lshl, 1) := by decide +kernel
theorem d_La_law_131 : decode code 131 = .ok (.aload_n 0, 1) := by decide +kernel
theorem d_La_law_132 : decode code 132 = .ok (.iload 4, 2) := by decide +kernel
theorem d_La_law_134 : decode code 134 = .ok (.iconst 2, 1) := by decide +kernel
theorem d_La_law_135 : decode code 135 = .ok (.iadd, 1) := by decide +kernel
theorem d_La_law_136 : decode code 136 = .ok (.iaload, 1) := by decide +kernel
theorem d_La_law_137 : decode code 137 = .ok (.i2l, 1) := by decide +kernel
theorem d_La_law_138 : decode code 138 = .ok (.ldc2_w 60, 3) := by decide +kernel
theorem d_La_law_141 : decode code 141 = .ok (.land, 1) := by decide +kernel
theorem d_La_law_142 : decode code 142 = .ok (.lor, 1) := by decide +kernel
theorem d_La_law_143 : decode code 143 = .ok (.aload_n 0, 1) := by decide +kernel
theorem d_La_law_144 : decode code 144 = .ok (.iload 4, 2) := by decide +kernel
theorem d_La_law_146 : decode code 146 = .ok (.iconst 3, 1) := by decide +kernel
theorem d_La_law_147 : decode code 147 = .ok (.iadd, 1) := by decide +kernel
theorem d_La_law_148 : decode code 148 = .ok (.iaload, 1) := by decide +kernel
theorem d_La_law_149 : decode code 149 = .ok (.aload_n 3, 1) := by decide +kernel
theorem d_La_law_150 : decode code 150 = .ok (.invokestatic 62, 3) := by decide +kernel
theorem d_La_law_153 : decode code 153 = .ok (.istore 5, 2) := by decide +kernel
theorem d_La_law_155 : decode code 155 = .ok (.aload_n 2, 1) := by decide +kernel
theorem d_La_law_156 : decode code 156 = .ok (.aload_n 0, 1) := by decide +kernel
theorem d_La_law_157 : decode code 157 = .ok (.iload 4, 2) := by decide +kernel
theorem d_La_law_159 : decode code 159 = .ok (.iconst 1, 1) := by decide +kernel
theorem d_La_law_160 : decode code 160 = .ok (.iadd, 1) := by decide +kernel
theorem d_La_law_161 : decode code 161 = .ok (.iaload, 1) := by decide +kernel
theorem d_La_law_162 : decode code 162 = .ok (.i2l, 1) := by decide +kernel
theorem d_La_law_163 : decode code 163 = .ok (.bipush 32, 2) := by decide +kernel
theorem d_La_law_165 : decode code 165 = .ok (.lshl, 1) := by decide +kernel
theorem d_La_law_166 : decode code 166 = .ok (.aload_n 0, 1) := by decide +kernel
theorem d_La_law_167 : decode code 167 = .ok (.iload 4, 2) := by decide +kernel
theorem d_La_law_169 : decode code 169 = .ok (.iconst 2, 1) := by decide +kernel
theorem d_La_law_170 : decode code 170 = .ok (.iadd, 1) := by decide +kernel
theorem d_La_law_171 : decode code 171 = .ok (.iaload, 1) := by decide +kernel
theorem d_La_law_172 : decode code 172 = .ok (.i2l, 1) := by decide +kernel
theorem d_La_law_173 : decode code 173 = .ok (.ldc2_w 60, 3) := by decide +kernel
theorem d_La_law_176 : decode code 176 = .ok (.land, 1) := by decide +kernel
theorem d_La_law_177 : decode code 177 = .ok (.lor, 1) := by decide +kernel
theorem d_La_law_178 : decode code 178 = .ok (.aload_n 0, 1) := by decide +kernel
theorem d_La_law_179 : decode code 179 = .ok (.iload 4, 2) := by decide +kernel
theorem d_La_law_181 : decode code 181 = .ok (.iconst 3, 1) := by decide +kernel
theorem d_La_law_182 : decode code 182 = .ok (.iadd, 1) := by decide +kernel
theorem d_La_law_183 : decode code 183 = .ok (.iaload, 1) := by decide +kernel
theorem d_La_law_184 : decode code 184 = .ok (.invokevirtual 67, 3) := by decide +kernel
theorem d_La_law_187 : decode code 187 = .ok (.istore 6, 2) := by decide +kernel
theorem d_La_law_189 : decode code 189 = .ok (.aload_n 2, 1) := by decide +kernel
theorem d_La_law_190 : decode code 190 = .ok (.invokevirtual 68, 3) := by decide +kernel
theorem d_La_law_193 : decode code 193 = .ok (.iload 5, 2) := by decide +kernel
theorem d_La_law_195 : decode code 195 = .ok (.if_icmp .eq 5, 3) := by decide +kernel
theorem d_La_law_198 : decode code 198 = .ok (.iconst 0, 1) := by decide +kernel
theorem d_La_law_200 : decode code 200 = .ok (.iload 5, 2) := by decide +kernel
theorem d_La_law_202 : decode code 202 = .ok (.ifCond .ne 15, 3) := by decide +kernel
theorem d_La_law_205 : decode code 205 = .ok (.aload_n 3, 1) := by decide +kernel
theorem d_La_law_206 : decode code 206 = .ok (.iconst 0, 1) := by decide +kernel
theorem d_La_law_207 : decode code 207 = .ok (.laload, 1) := by decide +kernel
theorem d_La_law_208 : decode code 208 = .ok (.iload 6, 2) := by decide +kernel
theorem d_La_law_210 : decode code 210 = .ok (.i2l, 1) := by decide +kernel
theorem d_La_law_211 : decode code 211 = .ok (.lcmp, 1) := by decide +kernel
theorem d_La_law_212 : decode code 212 = .ok (.ifCond .eq 5, 3) := by decide +kernel
theorem d_La_law_215 : decode code 215 = .ok (.iconst 0, 1) := by decide +kernel
theorem d_La_law_217 : decode code 217 = .ok (.goto 790, 3) := by decide +kernel
theorem d_La_law_220 : decode code 220 = .ok (.aload_n 1, 1) := by decide +kernel
theorem d_La_law_221 : decode code 221 = .ok (.aload_n 0, 1) := by decide +kernel
theorem d_La_law_222 : decode code 222 = .ok (.iload 4, 2) := by decide +kernel
theorem d_La_law_224 : decode code 224 = .ok (.iconst 1, 1) := by decide +kernel
theorem d_La_law_225 : decode code 225 = .ok (.iadd, 1) := by decide +kernel
theorem d_La_law_226 : decode code 226 = .ok (.iaload, 1) := by decide +kernel
theorem d_La_law_227 : decode code 227 = .ok (.aload_n 3, 1) := by decide +kernel
theorem d_La_law_228 : decode code 228 = .ok (.invokestatic 72, 3) := by decide +kernel
theorem d_La_law_231 : decode code 231 = .ok (.istore 5, 2) := by decide +kernel
theorem d_La_law_233 : decode code 233 = .ok (.aload_n 2, 1) := by decide +kernel
theorem d_La_law_234 : decode code 234 = .ok (.aload_n 0, 1) := by decide +kernel
theorem d_La_law_235 : decode code 235 = .ok (.iload 4, 2) := by decide +kernel
theorem d_La_law_237 : decode code 237 = .ok (.iconst 1, 1) := by decide +kernel
theorem d_La_law_238 : decode code 238 = .ok (.iadd, 1) := by decide +kernel
theorem d_La_law_239 : decode code 239 = .ok (.iaload, 1) := by decide +kernel
theorem d_La_law_240 : decode code 240 = .ok (.invokevirtual 75, 3) := by decide +kernel
theorem d_La_law_243 : decode code 243 = .ok (.istore 6, 2) := by decide +kernel
theorem d_La_law_245 : decode code 245 = .ok (.aload_n 2, 1) := by decide +kernel
theorem d_La_law_246 : decode code 246 = .ok (.invokevirtual 68, 3) := by decide +kernel
theorem d_La_law_249 : decode code 249 = .ok (.iload 5, 2) := by decide +kernel
theorem d_La_law_251 : decode code 251 = .ok (.if_icmp .eq 5, 3) := by decide +kernel
theorem d_La_law_254 : decode code 254 = .ok (.iconst 0, 1) := by decide +kernel
theorem d_La_law_256 : decode code 256 = .ok (.iload 5, 2) := by decide +kernel
theorem d_La_law_258 : decode code 258 = .ok (.ifCond .ne 15, 3) := by decide +kernel
theorem d_La_law_261 : decode code 261 = .ok (.aload_n 3, 1) := by decide +kernel
theorem d_La_law_262 : decode code 262 = .ok (.iconst 0, 1) := by decide +kernel
theorem d_La_law_263 : decode code 263 = .ok (.laload, 1) := by decide +kernel
theorem d_La_law_264 : decode code 264 = .ok (.iload 6, 2) := by decide +kernel
theorem d_La_law_266 : decode code 266 = .ok (.i2l, 1) := by decide +kernel
theorem d_La_law_267 : decode code 267 = .ok (.lcmp, 1) := by decide +kernel
theorem d_La_law_268 : decode code 268 = .ok (.ifCond .eq 5, 3) := by decide +kernel
theorem d_La_law_271 : decode code 271 = .ok (.iconst 0, 1) := by decide +kernel
theorem d_La_law_273 : decode code 273 = .ok (.goto 734, 3) := by decide +kernel
theorem d_La_law_276 : decode code 276 = .ok (.aload_n 1, 1) := by decide +kernel
theorem d_La_law_277 : decode code 277 = .ok (.aload_n 0, 1) := by decide +kernel
theorem d_La_law_278 : decode code 278 = .ok (.iload 4, 2) := by decide +kernel
theorem d_La_law_280 : decode code 280 = .ok (.iconst 1, 1) := by decide +kernel
theorem d_La_law_281 : decode code 281 = .ok (.iadd, 1) := by decide +kernel
theorem d_La_law_282 : decode code 282 = .ok (.iaload, 1) := by decide +kernel
theorem d_La_law_283 : decode code 283 = .ok (.aload_n 0, 1) := by decide +kernel
theorem d_La_law_284 : decode code 284 = .ok (.iload 4, 2) := by decide +kernel
theorem d_La_law_286 : decode code 286 = .ok (.iconst 2, 1) := by decide +kernel
theorem d_La_law_287 : decode code 287 = .ok (.iadd, 1) := by decide +kernel
theorem d_La_law_288 : decode code 288 = .ok (.iaload, 1) := by decide +kernel
theorem d_La_law_289 : decode code 289 = .ok (.aload_n 0, 1) := by decide +kernel
theorem d_La_law_290 : decode code 290 = .ok (.iload 4, 2) := by decide +kernel
theorem d_La_law_292 : decode code 292 = .ok (.iconst 3, 1) := by decide +kernel
theorem d_La_law_293 : decode code 293 = .ok (.iadd, 1) := by decide +kernel
theorem d_La_law_294 : decode code 294 = .ok (.iaload, 1) := by decide +kernel
theorem d_La_law_295 : decode code 295 = .ok (.aload_n 0, 1) := by decide +kernel
theorem d_La_law_296 : decode code 296 = .ok (.iload 4, 2) := by decide +kernel
theorem d_La_law_298 : decode code 298 = .ok (.iconst 4, 1) := by decide +kernel
theorem d_La_law_299 : decode code 299 = .ok (.iadd, 1) := by decide +kernel
theorem d_La_law_300 : decode code 300 = .ok (.iaload, 1) := by decide +kernel
theorem d_La_law_301 : decode code 301 = .ok (.aload_n 0, 1) := by decide +kernel
theorem d_La_law_302 : decode code 302 = .ok (.iload 4, 2) := by decide +kernel
theorem d_La_law_304 : decode code 304 = .ok (.iconst 5, 1) := by decide +kernel
theorem d_La_law_305 : decode code 305 = .ok (.iadd, 1) := by decide +kernel
theorem d_La_law_306 : decode code 306 = .ok (.iaload, 1) := by decide +kernel
theorem d_La_law_307 : decode code 307 = .ok (.aload_n 0, 1) := by decide +kernel
theorem d_La_law_308 : decode code 308 = .ok (.iload 4, 2) := by decide +kernel
theorem d_La_law_310 : decode code 310 = .ok (.bipush 6, 2) := by decide +kernel
theorem d_La_law_312 : decode code 312 = .ok (.iadd, 1) := by decide +kernel
theorem d_La_law_313 : decode code 313 = .ok (.iaload, 1) := by decide +kernel
theorem d_La_law_314 : decode code 314 = .ok (.aload_n 3, 1) := by decide +kernel
theorem d_La_law_315 : decode code 315 = .ok (.invokestatic 76, 3) := by decide +kernel
theorem d_La_law_318 : decode code 318 = .ok (.istore 5, 2) := by decide +kernel
theorem d_La_law_320 : decode code 320 = .ok (.aload_n 2, 1) := by decide +kernel
theorem d_La_law_321 : decode code 321 = .ok (.aload_n 0, 1) := by decide +kernel
theorem d_La_law_322 : decode code 322 = .ok (.iload 4, 2) := by decide +kernel
theorem d_La_law_324 : decode code 324 = .ok (.iconst 1, 1) := by decide +kernel
theorem d_La_law_325 : decode code 325 = .ok (.iadd, 1) := by decide +kernel
theorem d_La_law_326 : decode code 326 = .ok (.iaload, 1) := by decide +kernel
theorem d_La_law_327 : decode code 327 = .ok (.aload_n 0, 1) := by decide +kernel
theorem d_La_law_328 : decode code 328 = .ok (.iload 4, 2) := by decide +kernel
theorem d_La_law_330 : decode code 330 = .ok (.iconst 2, 1) := by decide +kernel
theorem d_La_law_331 : decode code 331 = .ok (.iadd, 1) := by decide +kernel
theorem d_La_law_332 : decode code 332 = .ok (.iaload, 1) := by decide +kernel
theorem d_La_law_333 : decode code 333 = .ok (.aload_n 0, 1) := by decide +kernel
theorem d_La_law_334 : decode code 334 = .ok (.iload 4, 2) := by decide +kernel
theorem d_La_law_336 : decode code 336 = .ok (.iconst 3, 1) := by decide +kernel
theorem d_La_law_337 : decode code 337 = .ok (.iadd, 1) := by decide +kernel
theorem d_La_law_338 : decode code 338 = .ok (.iaload, 1) := by decide +kernel
theorem d_La_law_339 : decode code 339 = .ok (.aload_n 0, 1) := by decide +kernel
theorem d_La_law_340 : decode code 340 = .ok (.iload 4, 2) := by decide +kernel
theorem d_La_law_342 : decode code 342 = .ok (.iconst 4, 1) := by decide +kernel
theorem d_La_law_343 : decode code 343 = .ok (.iadd, 1) := by decide +kernel
theorem d_La_law_344 : decode code 344 = .ok (.iaload, 1) := by decide +kernel
theorem d_La_law_345 : decode code 345 = .ok (.aload_n 0, 1) := by decide +kernel
theorem d_La_law_346 : decode code 346 = .ok (.iload 4, 2) := by decide +kernel
theorem d_La_law_348 : decode code 348 = .ok (.iconst 5, 1) := by decide +kernel
theorem d_La_law_349 : decode code 349 = .ok (.iadd, 1) := by decide +kernel
theorem d_La_law_350 : decode code 350 = .ok (.iaload, 1) := by decide +kernel
theorem d_La_law_351 : decode code 351 = .ok (.aload_n 0, 1) := by decide +kernel
theorem d_La_law_352 : decode code 352 = .ok (.iload 4, 2) := by decide +kernel
theorem d_La_law_354 : decode code 354 = .ok (.bipush 6, 2) := by decide +kernel
theorem d_La_law_356 : decode code 356 = .ok (.iadd, 1) := by decide +kernel
theorem d_La_law_357 : decode code 357 = .ok (.iaload, 1) := by decide +kernel
theorem d_La_law_358 : decode code 358 = .ok (.invokevirtual 79, 3) := by decide +kernel
theorem d_La_law_361 : decode code 361 = .ok (.istore 6, 2) := by decide +kernel
theorem d_La_law_363 : decode code 363 = .ok (.aload_n 2, 1) := by decide +kernel
theorem d_La_law_364 : decode code 364 = .ok (.invokevirtual 68, 3) := by decide +kernel
theorem d_La_law_367 : decode code 367 = .ok (.iload 5, 2) := by decide +kernel
theorem d_La_law_369 : decode code 369 = .ok (.if_icmp .eq 5, 3) := by decide +kernel
theorem d_La_law_372 : decode code 372 = .ok (.iconst 0, 1) := by decide +kernel
theorem d_La_law_374 : decode code 374 = .ok (.iload 5, 2) := by decide +kernel
theorem d_La_law_376 : decode code 376 = .ok (.ifCond .ne 15, 3) := by decide +kernel
theorem d_La_law_379 : decode code 379 = .ok (.aload_n 3, 1) := by decide +kernel
theorem d_La_law_380 : decode code 380 = .ok (.iconst 0, 1) := by decide +kernel
theorem d_La_law_381 : decode code 381 = .ok (.laload, 1) := by decide +kernel
theorem d_La_law_382 : decode code 382 = .ok (.iload 6, 2) := by decide +kernel
theorem d_La_law_384 : decode code 384 = .ok (.i2l, 1) := by decide +kernel
theorem d_La_law_385 : decode code 385 = .ok (.lcmp, 1) := by decide +kernel
theorem d_La_law_386 : decode code 386 = .ok (.ifCond .eq 5, 3) := by decide +kernel
theorem d_La_law_389 : decode code 389 = .ok (.iconst 0, 1) := by decide +kernel
theorem d_La_law_391 : decode code 391 = .ok (.goto 616, 3) := by decide +kernel
theorem d_La_law_394 : decode code 394 = .ok (.aload_n 1, 1) := by decide +kernel
theorem d_La_law_395 : decode code 395 = .ok (.aload_n 0, 1) := by decide +kernel
theorem d_La_law_396 : decode code 396 = .ok (.iload 4, 2) := by decide +kernel
theorem d_La_law_398 : decode code 398 = .ok (.iconst 1, 1) := by decide +kernel
theorem d_La_law_399 : decode code 399 = .ok (.iadd, 1) := by decide +kernel
theorem d_La_law_400 : decode code 400 = .ok (.iaload, 1) := by decide +kernel
theorem d_La_law_401 : decode code 401 = .ok (.aload_n 3, 1) := by decide +kernel
theorem d_La_law_402 : decode code 402 = .ok (.invokestatic 80, 3) := by decide +kernel
theorem d_La_law_405 : decode code 405 = .ok (.istore 5, 2) := by decide +kernel
theorem d_La_law_407 : decode code 407 = .ok (.aload_n 2, 1) := by decide +kernel
theorem d_La_law_408 : decode code 408 = .ok (.aload_n 0, 1) := by decide +kernel
theorem d_La_law_409 : decode code 409 = .ok (.iload 4, 2) := by decide +kernel
theorem d_La_law_411 : decode code 411 = .ok (.iconst 1, 1) := by decide +kernel
theorem d_La_law_412 : decode code 412 = .ok (.iadd, 1) := by decide +kernel
theorem d_La_law_413 : decode code 413 = .ok (.iaload, 1) := by decide +kernel
theorem d_La_law_414 : decode code 414 = .ok (.invokevirtual 82, 3) := by decide +kernel
theorem d_La_law_417 : decode code 417 = .ok (.istore 6, 2) := by decide +kernel
theorem d_La_law_419 : decode code 419 = .ok (.aload_n 2, 1) := by decide +kernel
theorem d_La_law_420 : decode code 420 = .ok (.invokevirtual 68, 3) := by decide +kernel
theorem d_La_law_423 : decode code 423 = .ok (.iload 5, 2) := by decide +kernel
theorem d_La_law_425 : decode code 425 = .ok (.if_icmp .eq 5, 3) := by decide +kernel
theorem d_La_law_428 : decode code 428 = .ok (.iconst 0, 1) := by decide +kernel
theorem d_La_law_430 : decode code 430 = .ok (.iload 5, 2) := by decide +kernel
theorem d_La_law_432 : decode code 432 = .ok (.ifCond .ne 15, 3) := by decide +kernel
theorem d_La_law_435 : decode code 435 = .ok (.aload_n 3, 1) := by decide +kernel
theorem d_La_law_436 : decode code 436 = .ok (.iconst 0, 1) := by decide +kernel
theorem d_La_law_437 : decode code 437 = .ok (.laload, 1) := by decide +kernel
theorem d_La_law_438 : decode code 438 = .ok (.iload 6, 2) := by decide +kernel
theorem d_La_law_440 : decode code 440 = .ok (.i2l, 1) := by decide +kernel
theorem d_La_law_441 : decode code 441 = .ok (.lcmp, 1) := by decide +kernel
theorem d_La_law_442 : decode code 442 = .ok (.ifCond .eq 5, 3) := by decide +kernel
theorem d_La_law_445 : decode code 445 = .ok (.iconst 0, 1) := by decide +kernel
theorem d_La_law_447 : decode code 447 = .ok (.goto 560, 3) := by decide +kernel
theorem d_La_law_450 : decode code 450 = .ok (.aload_n 1, 1) := by decide +kernel
theorem d_La_law_451 : decode code 451 = .ok (.invokevirtual 83, 3) := by decide +kernel
theorem d_La_law_454 : decode code 454 = .ok (.aload_n 2, 1) := by decide +kernel
theorem d_La_law_455 : decode code 455 = .ok (.invokevirtual 86, 3) := by decide +kernel
theorem d_La_law_458 : decode code 458 = .ok (.if_icmp .eq 549, 3) := by decide +kernel
theorem d_La_law_461 : decode code 461 = .ok (.iconst 0, 1) := by decide +kernel
theorem d_La_law_463 : decode code 463 = .ok (.aload_n 1, 1) := by decide +kernel
theorem d_La_law_464 : decode code 464 = .ok (.aload_n 0, 1) := by decide +kernel
theorem d_La_law_465 : decode code 465 = .ok (.iload 4, 2) := by decide +kernel
theorem d_La_law_467 : decode code 467 = .ok (.iconst 1, 1) := by decide +kernel
theorem d_La_law_468 : decode code 468 = .ok (.iadd, 1) := by decide +kernel
theorem d_La_law_469 : decode code 469 = .ok (.iaload, 1) := by decide +kernel
theorem d_La_law_470 : decode code 470 = .ok (.aload_n 0, 1) := by decide +kernel
theorem d_La_law_471 : decode code 471 = .ok (.iload 4, 2) := by decide +kernel
theorem d_La_law_473 : decode code 473 = .ok (.iconst 2, 1) := by decide +kernel
theorem d_La_law_474 : decode code 474 = .ok (.iadd, 1) := by decide +kernel
theorem d_La_law_475 : decode code 475 = .ok (.iaload, 1) := by decide +kernel
theorem d_La_law_476 : decode code 476 = .ok (.aload_n 3, 1) := by decide +kernel
theorem d_La_law_477 : decode code 477 = .ok (.invokestatic 87, 3) := by decide +kernel
theorem d_La_law_480 : decode code 480 = .ok (.istore 5, 2) := by decide +kernel
theorem d_La_law_482 : decode code 482 = .ok (.aload_n 2, 1) := by decide +kernel
theorem d_La_law_483 : decode code 483 = .ok (.aload_n 0, 1) := by decide +kernel
theorem d_La_law_484 : decode code 484 = .ok (.iload 4, 2) := by decide +kernel
theorem d_La_law_486 : decode code 486 = .ok (.iconst 1, 1) := by decide +kernel
theorem d_La_law_487 : decode code 487 = .ok (.iadd, 1) := by decide +kernel
theorem d_La_law_488 : decode code 488 = .ok (.iaload, 1) := by decide +kernel
theorem d_La_law_489 : decode code 489 = .ok (.aload_n 0, 1) := by decide +kernel
theorem d_La_law_490 : decode code 490 = .ok (.iload 4, 2) := by decide +kernel
theorem d_La_law_492 : decode code 492 = .ok (.iconst 2, 1) := by decide +kernel
theorem d_La_law_493 : decode code 493 = .ok (.iadd, 1) := by decide +kernel
theorem d_La_law_494 : decode code 494 = .ok (.iaload, 1) := by decide +kernel
theorem d_La_law_495 : decode code 495 = .ok (.invokevirtual 90, 3) := by decide +kernel
theorem d_La_law_498 : decode code 498 = .ok (.istore 6, 2) := by decide +kernel
theorem d_La_law_500 : decode code 500 = .ok (.aload_n 2, 1) := by decide +kernel
theorem d_La_law_501 : decode code 501 = .ok (.invokevirtual 68, 3) := by decide +kernel
theorem d_La_law_504 : decode code 504 = .ok (.iload 5, 2) := by decide +kernel
theorem d_La_law_506 : decode code 506 = .ok (.if_icmp .eq 5, 3) := by decide +kernel
theorem d_La_law_509 : decode code 509 = .ok (.iconst 0, 1) := by decide +kernel
theorem d_La_law_511 : decode code 511 = .ok (.iload 5, 2) := by decide +kernel
theorem d_La_law_513 : decode code 513 = .ok (.ifCond .ne 15, 3) := by decide +kernel
theorem d_La_law_516 : decode code 516 = .ok (.aload_n 3, 1) := by decide +kernel
theorem d_La_law_517 : decode code 517 = .ok (.iconst 0, 1) := by decide +kernel
theorem d_La_law_518 : decode code 518 = .ok (.laload, 1) := by decide +kernel
theorem d_La_law_519 : decode code 519 = .ok (.iload 6, 2) := by decide +kernel
theorem d_La_law_521 : decode code 521 = .ok (.i2l, 1) := by decide +kernel
theorem d_La_law_522 : decode code 522 = .ok (.lcmp, 1) := by decide +kernel
theorem d_La_law_523 : decode code 523 = .ok (.ifCond .eq 5, 3) := by decide +kernel
theorem d_La_law_526 : decode code 526 = .ok (.iconst 0, 1) := by decide +kernel
theorem d_La_law_528 : decode code 528 = .ok (.goto 479, 3) := by decide +kernel
theorem d_La_law_531 : decode code 531 = .ok (.aload_n 1, 1) := by decide +kernel
theorem d_La_law_532 : decode code 532 = .ok (.aload_n 0, 1) := by decide +kernel
theorem d_La_law_533 : decode code 533 = .ok (.iload 4, 2) := by decide +kernel
theorem d_La_law_535 : decode code 535 = .ok (.iconst 1, 1) := by decide +kernel
theorem d_La_law_536 : decode code 536 = .ok (.iadd, 1) := by decide +kernel
theorem d_La_law_537 : decode code 537 = .ok (.iaload, 1) := by decide +kernel
theorem d_La_law_538 : decode code 538 = .ok (.aload_n 0, 1) := by decide +kernel
theorem d_La_law_539 : decode code 539 = .ok (.iload 4, 2) := by decide +kernel
theorem d_La_law_541 : decode code 541 = .ok (.iconst 2, 1) := by decide +kernel
theorem d_La_law_542 : decode code 542 = .ok (.iadd, 1) := by decide +kernel
theorem d_La_law_543 : decode code 543 = .ok (.iaload, 1) := by decide +kernel
theorem d_La_law_544 : decode code 544 = .ok (.aload_n 3, 1) := by decide +kernel
theorem d_La_law_545 : decode code 545 = .ok (.invokestatic 91, 3) := by decide +kernel
theorem d_La_law_548 : decode code 548 = .ok (.istore 5, 2) := by decide +kernel
theorem d_La_law_550 : decode code 550 = .ok (.aload_n 2, 1) := by decide +kernel
theorem d_La_law_551 : decode code 551 = .ok (.aload_n 0, 1) := by decide +kernel
theorem d_La_law_552 : decode code 552 = .ok (.iload 4, 2) := by decide +kernel
theorem d_La_law_554 : decode code 554 = .ok (.iconst 1, 1) := by decide +kernel
theorem d_La_law_555 : decode code 555 = .ok (.iadd, 1) := by decide +kernel
theorem d_La_law_556 : decode code 556 = .ok (.iaload, 1) := by decide +kernel
theorem d_La_law_557 : decode code 557 = .ok (.aload_n 0, 1) := by decide +kernel
theorem d_La_law_558 : decode code 558 = .ok (.iload 4, 2) := by decide +kernel
theorem d_La_law_560 : decode code 560 = .ok (.iconst 2, 1) := by decide +kernel
theorem d_La_law_561 : decode code 561 = .ok (.iadd, 1) := by decide +kernel
theorem d_La_law_562 : decode code 562 = .ok (.iaload, 1) := by decide +kernel
theorem d_La_law_563 : decode code 563 = .ok (.invokevirtual 93, 3) := by decide +kernel
theorem d_La_law_566 : decode code 566 = .ok (.istore 6, 2) := by decide +kernel
theorem d_La_law_568 : decode code 568 = .ok (.aload_n 2, 1) := by decide +kernel
theorem d_La_law_569 : decode code 569 = .ok (.invokevirtual 68, 3) := by decide +kernel
theorem d_La_law_572 : decode code 572 = .ok (.iload 5, 2) := by decide +kernel
theorem d_La_law_574 : decode code 574 = .ok (.if_icmp .eq 5, 3) := by decide +kernel
theorem d_La_law_577 : decode code 577 = .ok (.iconst 0, 1) := by decide +kernel
theorem d_La_law_579 : decode code 579 = .ok (.iload 5, 2) := by decide +kernel
theorem d_La_law_581 : decode code 581 = .ok (.ifCond .ne 15, 3) := by decide +kernel
theorem d_La_law_584 : decode code 584 = .ok (.aload_n 3, 1) := by decide +kernel
theorem d_La_law_585 : decode code 585 = .ok (.iconst 0, 1) := by decide +kernel
theorem d_La_law_586 : decode code 586 = .ok (.laload, 1) := by decide +kernel
theorem d_La_law_587 : decode code 587 = .ok (.iload 6, 2) := by decide +kernel
theorem d_La_law_589 : decode code 589 = .ok (.i2l, 1) := by decide +kernel
theorem d_La_law_590 : decode code 590 = .ok (.lcmp, 1) := by decide +kernel
theorem d_La_law_591 : decode code 591 = .ok (.ifCond .eq 5, 3) := by decide +kernel
theorem d_La_law_594 : decode code 594 = .ok (.iconst 0, 1) := by decide +kernel
theorem d_La_law_596 : decode code 596 = .ok (.goto 411, 3) := by decide +kernel
theorem d_La_law_599 : decode code 599 = .ok (.aload_n 1, 1) := by decide +kernel
theorem d_La_law_600 : decode code 600 = .ok (.aload_n 0, 1) := by decide +kernel
theorem d_La_law_601 : decode code 601 = .ok (.iload 4, 2) := by decide +kernel
theorem d_La_law_603 : decode code 603 = .ok (.iconst 1, 1) := by decide +kernel
theorem d_La_law_604 : decode code 604 = .ok (.iadd, 1) := by decide +kernel
theorem d_La_law_605 : decode code 605 = .ok (.iaload, 1) := by decide +kernel
theorem d_La_law_606 : decode code 606 = .ok (.aload_n 0, 1) := by decide +kernel
theorem d_La_law_607 : decode code 607 = .ok (.iload 4, 2) := by decide +kernel
theorem d_La_law_609 : decode code 609 = .ok (.iconst 2, 1) := by decide +kernel
theorem d_La_law_610 : decode code 610 = .ok (.iadd, 1) := by decide +kernel
theorem d_La_law_611 : decode code 611 = .ok (.iaload, 1) := by decide +kernel
theorem d_La_law_612 : decode code 612 = .ok (.aload_n 3, 1) := by decide +kernel
theorem d_La_law_613 : decode code 613 = .ok (.invokestatic 94, 3) := by decide +kernel
theorem d_La_law_616 : decode code 616 = .ok (.istore 5, 2) := by decide +kernel
theorem d_La_law_618 : decode code 618 = .ok (.aload_n 2, 1) := by decide +kernel
theorem d_La_law_619 : decode code 619 = .ok (.aload_n 0, 1) := by decide +kernel
theorem d_La_law_620 : decode code 620 = .ok (.iload 4, 2) := by decide +kernel
theorem d_La_law_622 : decode code 622 = .ok (.iconst 1, 1) := by decide +kernel
theorem d_La_law_623 : decode code 623 = .ok (.iadd, 1) := by decide +kernel
theorem d_La_law_624 : decode code 624 = .ok (.iaload, 1) := by decide +kernel
theorem d_La_law_625 : decode code 625 = .ok (.aload_n 0, 1) := by decide +kernel
theorem d_La_law_626 : decode code 626 = .ok (.iload 4, 2) := by decide +kernel
theorem d_La_law_628 : decode code 628 = .ok (.iconst 2, 1) := by decide +kernel
theorem d_La_law_629 : decode code 629 = .ok (.iadd, 1) := by decide +kernel
theorem d_La_law_630 : decode code 630 = .ok (.iaload, 1) := by decide +kernel
theorem d_La_law_631 : decode code 631 = .ok (.invokevirtual 96, 3) := by decide +kernel
theorem d_La_law_634 : decode code 634 = .ok (.istore 6, 2) := by decide +kernel
theorem d_La_law_636 : decode code 636 = .ok (.aload_n 2, 1) := by decide +kernel
theorem d_La_law_637 : decode code 637 = .ok (.invokevirtual 68, 3) := by decide +kernel
theorem d_La_law_640 : decode code 640 = .ok (.iload 5, 2) := by decide +kernel
theorem d_La_law_642 : decode code 642 = .ok (.if_icmp .eq 5, 3) := by decide +kernel
theorem d_La_law_645 : decode code 645 = .ok (.iconst 0, 1) := by decide +kernel
theorem d_La_law_647 : decode code 647 = .ok (.iload 5, 2) := by decide +kernel
theorem d_La_law_649 : decode code 649 = .ok (.ifCond .ne 15, 3) := by decide +kernel
theorem d_La_law_652 : decode code 652 = .ok (.aload_n 3, 1) := by decide +kernel
theorem d_La_law_653 : decode code 653 = .ok (.iconst 0, 1) := by decide +kernel
theorem d_La_law_654 : decode code 654 = .ok (.laload, 1) := by decide +kernel
theorem d_La_law_655 : decode code 655 = .ok (.iload 6, 2) := by decide +kernel
theorem d_La_law_657 : decode code 657 = .ok (.i2l, 1) := by decide +kernel
theorem d_La_law_658 : decode code 658 = .ok (.lcmp, 1) := by decide +kernel
theorem d_La_law_659 : decode code 659 = .ok (.ifCond .eq 5, 3) := by decide +kernel
theorem d_La_law_662 : decode code 662 = .ok (.iconst 0, 1) := by decide +kernel
theorem d_La_law_664 : decode code 664 = .ok (.goto 343, 3) := by decide +kernel
theorem d_La_law_667 : decode code 667 = .ok (.aload_n 1, 1) := by decide +kernel
theorem d_La_law_668 : decode code 668 = .ok (.invokevirtual 97, 3) := by decide +kernel
theorem d_La_law_671 : decode code 671 = .ok (.aload_n 2, 1) := by decide +kernel
theorem d_La_law_672 : decode code 672 = .ok (.invokevirtual 100, 3) := by decide +kernel
theorem d_La_law_675 : decode code 675 = .ok (.if_icmp .eq 332, 3) := by decide +kernel
theorem d_La_law_678 : decode code 678 = .ok (.iconst 0, 1) := by decide +kernel
theorem d_La_law_680 : decode code 680 = .ok (.aload_n 1, 1) := by decide +kernel
theorem d_La_law_681 : decode code 681 = .ok (.invokevirtual 101, 3) := by decide +kernel
theorem d_La_law_684 : decode code 684 = .ok (.aload_n 2, 1) := by decide +kernel
theorem d_La_law_685 : decode code 685 = .ok (.invokevirtual 104, 3) := by decide +kernel
theorem d_La_law_688 : decode code 688 = .ok (.if_icmp .eq 319, 3) := by decide +kernel
theorem d_La_law_691 : decode code 691 = .ok (.iconst 0, 1) := by decide +kernel
theorem d_La_law_693 : decode code 693 = .ok (.aload_n 1, 1) := by decide +kernel
theorem d_La_law_694 : decode code 694 = .ok (.aload_n 0, 1) := by decide +kernel
theorem d_La_law_695 : decode code 695 = .ok (.iload 4, 2) := by decide +kernel
theorem d_La_law_697 : decode code 697 = .ok (.iconst 1, 1) := by decide +kernel
theorem d_La_law_698 : decode code 698 = .ok (.iadd, 1) := by decide +kernel
theorem d_La_law_699 : decode code 699 = .ok (.iaload, 1) := by decide +kernel
theorem d_La_law_700 : decode code 700 = .ok (.aload_n 0, 1) := by decide +kernel
theorem d_La_law_701 : decode code 701 = .ok (.iload 4, 2) := by decide +kernel
theorem d_La_law_703 : decode code 703 = .ok (.iconst 2, 1) := by decide +kernel
theorem d_La_law_704 : decode code 704 = .ok (.iadd, 1) := by decide +kernel
theorem d_La_law_705 : decode code 705 = .ok (.iaload, 1) := by decide +kernel
theorem d_La_law_706 : decode code 706 = .ok (.aload_n 0, 1) := by decide +kernel
theorem d_La_law_707 : decode code 707 = .ok (.iload 4, 2) := by decide +kernel
theorem d_La_law_709 : decode code 709 = .ok (.iconst 3, 1) := by decide +kernel
theorem d_La_law_710 : decode code 710 = .ok (.iadd, 1) := by decide +kernel
theorem d_La_law_711 : decode code 711 = .ok (.iaload, 1) := by decide +kernel
theorem d_La_law_712 : decode code 712 = .ok (.aload_n 3, 1) := by decide +kernel
theorem d_La_law_713 : decode code 713 = .ok (.invokestatic 105, 3) := by decide +kernel
theorem d_La_law_716 : decode code 716 = .ok (.istore 5, 2) := by decide +kernel
theorem d_La_law_718 : decode code 718 = .ok (.aload_n 2, 1) := by decide +kernel
theorem d_La_law_719 : decode code 719 = .ok (.aload_n 0, 1) := by decide +kernel
theorem d_La_law_720 : decode code 720 = .ok (.iload 4, 2) := by decide +kernel
theorem d_La_law_722 : decode code 722 = .ok (.iconst 1, 1) := by decide +kernel
theorem d_La_law_723 : decode code 723 = .ok (.iadd, 1) := by decide +kernel
theorem d_La_law_724 : decode code 724 = .ok (.iaload, 1) := by decide +kernel
theorem d_La_law_725 : decode code 725 = .ok (.aload_n 0, 1) := by decide +kernel
theorem d_La_law_726 : decode code 726 = .ok (.iload 4, 2) := by decide +kernel
theorem d_La_law_728 : decode code 728 = .ok (.iconst 2, 1) := by decide +kernel
theorem d_La_law_729 : decode code 729 = .ok (.iadd, 1) := by decide +kernel
theorem d_La_law_730 : decode code 730 = .ok (.iaload, 1) := by decide +kernel
theorem d_La_law_731 : decode code 731 = .ok (.aload_n 0, 1) := by decide +kernel
theorem d_La_law_732 : decode code 732 = .ok (.iload 4, 2) := by decide +kernel
theorem d_La_law_734 : decode code 734 = .ok (.iconst 3, 1) := by decide +kernel
theorem d_La_law_735 : decode code 735 = .ok (.iadd, 1) := by decide +kernel
theorem d_La_law_736 : decode code 736 = .ok (.iaload, 1) := by decide +kernel
theorem d_La_law_737 : decode code 737 = .ok (.invokevirtual 108, 3) := by decide +kernel
theorem d_La_law_740 : decode code 740 = .ok (.istore 6, 2) := by decide +kernel
theorem d_La_law_742 : decode code 742 = .ok (.aload_n 2, 1) := by decide +kernel
theorem d_La_law_743 : decode code 743 = .ok (.invokevirtual 68, 3) := by decide +kernel
theorem d_La_law_746 : decode code 746 = .ok (.iload 5, 2) := by decide +kernel
theorem d_La_law_748 : decode code 748 = .ok (.if_icmp .eq 5, 3) := by decide +kernel
theorem d_La_law_751 : decode code 751 = .ok (.iconst 0, 1) := by decide +kernel
theorem d_La_law_753 : decode code 753 = .ok (.iload 5, 2) := by decide +kernel
theorem d_La_law_755 : decode code 755 = .ok (.ifCond .ne 15, 3) := by decide +kernel
theorem d_La_law_758 : decode code 758 = .ok (.aload_n 3, 1) := by decide +kernel
theorem d_La_law_759 : decode code 759 = .ok (.iconst 0, 1) := by decide +kernel
theorem d_La_law_760 : decode code 760 = .ok (.laload, 1) := by decide +kernel
theorem d_La_law_761 : decode code 761 = .ok (.iload 6, 2) := by decide +kernel
theorem d_La_law_763 : decode code 763 = .ok (.i2l, 1) := by decide +kernel
theorem d_La_law_764 : decode code 764 = .ok (.lcmp, 1) := by decide +kernel
theorem d_La_law_765 : decode code 765 = .ok (.ifCond .eq 5, 3) := by decide +kernel
theorem d_La_law_768 : decode code 768 = .ok (.iconst 0, 1) := by decide +kernel
theorem d_La_law_770 : decode code 770 = .ok (.goto 237, 3) := by decide +kernel
theorem d_La_law_773 : decode code 773 = .ok (.aload_n 1, 1) := by decide +kernel
theorem d_La_law_774 : decode code 774 = .ok (.aload_n 0, 1) := by decide +kernel
theorem d_La_law_775 : decode code 775 = .ok (.iload 4, 2) := by decide +kernel
theorem d_La_law_777 : decode code 777 = .ok (.iconst 1, 1) := by decide +kernel
theorem d_La_law_778 : decode code 778 = .ok (.iadd, 1) := by decide +kernel
theorem d_La_law_779 : decode code 779 = .ok (.iaload, 1) := by decide +kernel
theorem d_La_law_780 : decode code 780 = .ok (.aload_n 0, 1) := by decide +kernel
theorem d_La_law_781 : decode code 781 = .ok (.iload 4, 2) := by decide +kernel
theorem d_La_law_783 : decode code 783 = .ok (.iconst 2, 1) := by decide +kernel
theorem d_La_law_784 : decode code 784 = .ok (.iadd, 1) := by decide +kernel
theorem d_La_law_785 : decode code 785 = .ok (.iaload, 1) := by decide +kernel
theorem d_La_law_786 : decode code 786 = .ok (.invokestatic 109, 3) := by decide +kernel
theorem d_La_law_789 : decode code 789 = .ok (.istore 5, 2) := by decide +kernel
theorem d_La_law_791 : decode code 791 = .ok (.aload_n 2, 1) := by decide +kernel
theorem d_La_law_792 : decode code 792 = .ok (.aload_n 0, 1) := by decide +kernel
theorem d_La_law_793 : decode code 793 = .ok (.iload 4, 2) := by decide +kernel
theorem d_La_law_795 : decode code 795 = .ok (.iconst 1, 1) := by decide +kernel
theorem d_La_law_796 : decode code 796 = .ok (.iadd, 1) := by decide +kernel
theorem d_La_law_797 : decode code 797 = .ok (.iaload, 1) := by decide +kernel
theorem d_La_law_798 : decode code 798 = .ok (.aload_n 0, 1) := by decide +kernel
theorem d_La_law_799 : decode code 799 = .ok (.iload 4, 2) := by decide +kernel
theorem d_La_law_801 : decode code 801 = .ok (.iconst 2, 1) := by decide +kernel
theorem d_La_law_802 : decode code 802 = .ok (.iadd, 1) := by decide +kernel
theorem d_La_law_803 : decode code 803 = .ok (.iaload, 1) := by decide +kernel
theorem d_La_law_804 : decode code 804 = .ok (.invokevirtual 112, 3) := by decide +kernel
theorem d_La_law_807 : decode code 807 = .ok (.aload_n 2, 1) := by decide +kernel
theorem d_La_law_808 : decode code 808 = .ok (.invokevirtual 68, 3) := by decide +kernel
theorem d_La_law_811 : decode code 811 = .ok (.iload 5, 2) := by decide +kernel
theorem d_La_law_813 : decode code 813 = .ok (.if_icmp .eq 5, 3) := by decide +kernel
theorem d_La_law_816 : decode code 816 = .ok (.iconst 0, 1) := by decide +kernel
theorem d_La_law_818 : decode code 818 = .ok (.goto 189, 3) := by decide +kernel
theorem d_La_law_821 : decode code 821 = .ok (.aload_n 1, 1) := by decide +kernel
theorem d_La_law_822 : decode code 822 = .ok (.invokevirtual 113, 3) := by decide +kernel
theorem d_La_law_825 : decode code 825 = .ok (.aload_n 2, 1) := by decide +kernel
theorem d_La_law_826 : decode code 826 = .ok (.invokevirtual 116, 3) := by decide +kernel
theorem d_La_law_829 : decode code 829 = .ok (.if_icmp .eq 178, 3) := by decide +kernel
theorem d_La_law_832 : decode code 832 = .ok (.iconst 0, 1) := by decide +kernel
theorem d_La_law_834 : decode code 834 = .ok (.aload_n 1, 1) := by decide +kernel
theorem d_La_law_835 : decode code 835 = .ok (.invokevirtual 117, 3) := by decide +kernel
theorem d_La_law_838 : decode code 838 = .ok (.aload_n 2, 1) := by decide +kernel
theorem d_La_law_839 : decode code 839 = .ok (.invokevirtual 120, 3) := by decide +kernel
theorem d_La_law_842 : decode code 842 = .ok (.if_icmp .eq 165, 3) := by decide +kernel
theorem d_La_law_845 : decode code 845 = .ok (.iconst 0, 1) := by decide +kernel
theorem d_La_law_847 : decode code 847 = .ok (.aload_n 1, 1) := by decide +kernel
theorem d_La_law_848 : decode code 848 = .ok (.aload_n 0, 1) := by decide +kernel
theorem d_La_law_849 : decode code 849 = .ok (.iload 4, 2) := by decide +kernel
theorem d_La_law_851 : decode code 851 = .ok (.iconst 1, 1) := by decide +kernel
theorem d_La_law_852 : decode code 852 = .ok (.iadd, 1) := by decide +kernel
theorem d_La_law_853 : decode code 853 = .ok (.iaload, 1) := by decide +kernel
theorem d_La_law_854 : decode code 854 = .ok (.aload_n 0, 1) := by decide +kernel
theorem d_La_law_855 : decode code 855 = .ok (.iload 4, 2) := by decide +kernel
theorem d_La_law_857 : decode code 857 = .ok (.iconst 2, 1) := by decide +kernel
theorem d_La_law_858 : decode code 858 = .ok (.iadd, 1) := by decide +kernel
theorem d_La_law_859 : decode code 859 = .ok (.iaload, 1) := by decide +kernel
theorem d_La_law_860 : decode code 860 = .ok (.aload_n 0, 1) := by decide +kernel
theorem d_La_law_861 : decode code 861 = .ok (.iload 4, 2) := by decide +kernel
theorem d_La_law_863 : decode code 863 = .ok (.iconst 3, 1) := by decide +kernel
theorem d_La_law_864 : decode code 864 = .ok (.iadd, 1) := by decide +kernel
theorem d_La_law_865 : decode code 865 = .ok (.iaload, 1) := by decide +kernel
theorem d_La_law_866 : decode code 866 = .ok (.aload_n 3, 1) := by decide +kernel
theorem d_La_law_867 : decode code 867 = .ok (.invokestatic 121, 3) := by decide +kernel
theorem d_La_law_870 : decode code 870 = .ok (.istore 5, 2) := by decide +kernel
theorem d_La_law_872 : decode code 872 = .ok (.aload_n 2, 1) := by decide +kernel
theorem d_La_law_873 : decode code 873 = .ok (.aload_n 0, 1) := by decide +kernel
theorem d_La_law_874 : decode code 874 = .ok (.iload 4, 2) := by decide +kernel
theorem d_La_law_876 : decode code 876 = .ok (.iconst 1, 1) := by decide +kernel
theorem d_La_law_877 : decode code 877 = .ok (.iadd, 1) := by decide +kernel
theorem d_La_law_878 : decode code 878 = .ok (.iaload, 1) := by decide +kernel
theorem d_La_law_879 : decode code 879 = .ok (.aload_n 0, 1) := by decide +kernel
theorem d_La_law_880 : decode code 880 = .ok (.iload 4, 2) := by decide +kernel
theorem d_La_law_882 : decode code 882 = .ok (.iconst 2, 1) := by decide +kernel
theorem d_La_law_883 : decode code 883 = .ok (.iadd, 1) := by decide +kernel
theorem d_La_law_884 : decode code 884 = .ok (.iaload, 1) := by decide +kernel
theorem d_La_law_885 : decode code 885 = .ok (.aload_n 0, 1) := by decide +kernel
theorem d_La_law_886 : decode code 886 = .ok (.iload 4, 2) := by decide +kernel
theorem d_La_law_888 : decode code 888 = .ok (.iconst 3, 1) := by decide +kernel
theorem d_La_law_889 : decode code 889 = .ok (.iadd, 1) := by decide +kernel
theorem d_La_law_890 : decode code 890 = .ok (.iaload, 1) := by decide +kernel
theorem d_La_law_891 : decode code 891 = .ok (.invokevirtual 123, 3) := by decide +kernel
theorem d_La_law_894 : decode code 894 = .ok (.istore 6, 2) := by decide +kernel
theorem d_La_law_896 : decode code 896 = .ok (.aload_n 2, 1) := by decide +kernel
theorem d_La_law_897 : decode code 897 = .ok (.invokevirtual 68, 3) := by decide +kernel
theorem d_La_law_900 : decode code 900 = .ok (.iload 5, 2) := by decide +kernel
theorem d_La_law_902 : decode code 902 = .ok (.if_icmp .eq 5, 3) := by decide +kernel
theorem d_La_law_905 : decode code 905 = .ok (.iconst 0, 1) := by decide +kernel
theorem d_La_law_907 : decode code 907 = .ok (.iload 5, 2) := by decide +kernel
theorem d_La_law_909 : decode code 909 = .ok (.ifCond .ne 15, 3) := by decide +kernel
theorem d_La_law_912 : decode code 912 = .ok (.aload_n 3, 1) := by decide +kernel
theorem d_La_law_913 : decode code 913 = .ok (.iconst 0, 1) := by decide +kernel
theorem d_La_law_914 : decode code 914 = .ok (.laload, 1) := by decide +kernel
theorem d_La_law_915 : decode code 915 = .ok (.iload 6, 2) := by decide +kernel
theorem d_La_law_917 : decode code 917 = .ok (.i2l, 1) := by decide +kernel
theorem d_La_law_918 : decode code 918 = .ok (.lcmp, 1) := by decide +kernel
theorem d_La_law_919 : decode code 919 = .ok (.ifCond .eq 5, 3) := by decide +kernel
theorem d_La_law_922 : decode code 922 = .ok (.iconst 0, 1) := by decide +kernel
theorem d_La_law_924 : decode code 924 = .ok (.goto 83, 3) := by decide +kernel
theorem d_La_law_927 : decode code 927 = .ok (.aload_n 1, 1) := by decide +kernel
theorem d_La_law_928 : decode code 928 = .ok (.aload_n 0, 1) := by decide +kernel
theorem d_La_law_929 : decode code 929 = .ok (.iload 4, 2) := by decide +kernel
theorem d_La_law_931 : decode code 931 = .ok (.iconst 1, 1) := by decide +kernel
theorem d_La_law_932 : decode code 932 = .ok (.iadd, 1) := by decide +kernel
theorem d_La_law_933 : decode code 933 = .ok (.iaload, 1) := by decide +kernel
theorem d_La_law_934 : decode code 934 = .ok (.aload_n 0, 1) := by decide +kernel
theorem d_La_law_935 : decode code 935 = .ok (.iload 4, 2) := by decide +kernel
theorem d_La_law_937 : decode code 937 = .ok (.iconst 2, 1) := by decide +kernel
theorem d_La_law_938 : decode code 938 = .ok (.iadd, 1) := by decide +kernel
theorem d_La_law_939 : decode code 939 = .ok (.iaload, 1) := by decide +kernel
theorem d_La_law_940 : decode code 940 = .ok (.aload_n 0, 1) := by decide +kernel
theorem d_La_law_941 : decode code 941 = .ok (.iload 4, 2) := by decide +kernel
theorem d_La_law_943 : decode code 943 = .ok (.iconst 3, 1) := by decide +kernel
theorem d_La_law_944 : decode code 944 = .ok (.iadd, 1) := by decide +kernel
theorem d_La_law_945 : decode code 945 = .ok (.iaload, 1) := by decide +kernel
theorem d_La_law_946 : decode code 946 = .ok (.aload_n 3, 1) := by decide +kernel
theorem d_La_law_947 : decode code 947 = .ok (.invokestatic 124, 3) := by decide +kernel
theorem d_La_law_950 : decode code 950 = .ok (.istore 5, 2) := by decide +kernel
theorem d_La_law_952 : decode code 952 = .ok (.aload_n 2, 1) := by decide +kernel
theorem d_La_law_953 : decode code 953 = .ok (.aload_n 0, 1) := by decide +kernel
theorem d_La_law_954 : decode code 954 = .ok (.iload 4, 2) := by decide +kernel
theorem d_La_law_956 : decode code 956 = .ok (.iconst 1, 1) := by decide +kernel
theorem d_La_law_957 : decode code 957 = .ok (.iadd, 1) := by decide +kernel
theorem d_La_law_958 : decode code 958 = .ok (.iaload, 1) := by decide +kernel
theorem d_La_law_959 : decode code 959 = .ok (.aload_n 0, 1) := by decide +kernel
theorem d_La_law_960 : decode code 960 = .ok (.iload 4, 2) := by decide +kernel
theorem d_La_law_962 : decode code 962 = .ok (.iconst 2, 1) := by decide +kernel
theorem d_La_law_963 : decode code 963 = .ok (.iadd, 1) := by decide +kernel
theorem d_La_law_964 : decode code 964 = .ok (.iaload, 1) := by decide +kernel
theorem d_La_law_965 : decode code 965 = .ok (.aload_n 0, 1) := by decide +kernel
theorem d_La_law_966 : decode code 966 = .ok (.iload 4, 2) := by decide +kernel
theorem d_La_law_968 : decode code 968 = .ok (.iconst 3, 1) := by decide +kernel
theorem d_La_law_969 : decode code 969 = .ok (.iadd, 1) := by decide +kernel
theorem d_La_law_970 : decode code 970 = .ok (.iaload, 1) := by decide +kernel
theorem d_La_law_971 : decode code 971 = .ok (.invokevirtual 126, 3) := by decide +kernel
theorem d_La_law_974 : decode code 974 = .ok (.istore 6, 2) := by decide +kernel
theorem d_La_law_976 : decode code 976 = .ok (.aload_n 2, 1) := by decide +kernel
theorem d_La_law_977 : decode code 977 = .ok (.invokevirtual 68, 3) := by decide +kernel
theorem d_La_law_980 : decode code 980 = .ok (.iload 5, 2) := by decide +kernel
theorem d_La_law_982 : decode code 982 = .ok (.if_icmp .eq 5, 3) := by decide +kernel
theorem d_La_law_985 : decode code 985 = .ok (.iconst 0, 1) := by decide +kernel
theorem d_La_law_987 : decode code 987 = .ok (.iload 5, 2) := by decide +kernel
theorem d_La_law_989 : decode code 989 = .ok (.ifCond .ne 15, 3) := by decide +kernel
theorem d_La_law_992 : decode code 992 = .ok (.aload_n 3, 1) := by decide +kernel
theorem d_La_law_993 : decode code 993 = .ok (.iconst 0, 1) := by decide +kernel
theorem d_La_law_994 : decode code 994 = .ok (.laload, 1) := by decide +kernel
theorem d_La_law_995 : decode code 995 = .ok (.iload 6, 2) := by decide +kernel
theorem d_La_law_997 : decode code 997 = .ok (.i2l, 1) := by decide +kernel
theorem d_La_law_998 : decode code 998 = .ok (.lcmp, 1) := by decide +kernel
theorem d_La_law_999 : decode code 999 = .ok (.ifCond .eq 5, 3) := by decide +kernel
theorem d_La_law_1002 : decode code 1002 = .ok (.iconst 0, 1) := by decide +kernel
theorem d_La_law_1004 : decode code 1004 = .ok (.goto 3, 3) := by decide +kernel
theorem d_La_law_1007 : decode code 1007 = .ok (.iinc 4 7, 3) := by decide +kernel
theorem d_La_law_1010 : decode code 1010 = .ok (.goto (-987), 3) := by decide +kernel
theorem d_La_law_1013 : decode code 1013 = .ok (.iconst 1, 1) := by decide +kernel
theorem d_La_law_1014 : decode code 1014 = .ok (.ireturn, 1) := by decide +kernel
set_option maxRecDepth 100000 in
set_option maxHeartbeats 4000000 in
theorem Met_La_law {p : Program} {l : Launch} {e : Env} {s : State} {m : MethodId} {below : List Frame} {meth : Method} {c : Code} {b : Nat} {B : Nat} {D : va_G} {aC : Nat → ClassId} {aS : Nat → Nat} {L : Nat} {xs : Nat → Int32} {a1 a2 a3 cn sn : Nat} {M : zM} (hfl : l.flags = pinnedFlags ++ [noTraceFlag]) (fx : zFx p s m #[Value.ref b] c B D aC aS 7 code "MailChainLaw") (hB : s.heap.size = B) (hr : meth.sig.returnType = ret) (hlo : meth.locks = false) (hX : va_X b L xs s s.heap) (hbl : b < s.heap.size) (hk1 : a1 < N0) (ht1 : tg a1 = 0) (hk2 : a2 < N0) (ht2 : tg a2 = 9) (hk3 : a3 < N0) (ht3 : tg a3 = 23) (h : Wp_La_law L xs a1 a2 a3 cn sn M) : zAt p l e room_1 s m #[Value.ref b] below meth c cn sn (lw_Z below #[Value.ref b] s) B D aC 7 20 [(0, .ref b), (1, .ref (B + a1)), (2, .ref (B + a2)), (3, .ref (B + a3))] [] M := by
  have hbB : b < B := by rw [← hB]; exact hbl
  delta Wp_La_law at h
  have h := h (fun v4 M cn sn => zAt p l e room_1 s m #[Value.ref b] below meth c cn sn (lw_Z below #[Value.ref b] s) B D aC 7 23 [(0, .ref b), (1, .ref (B + a1)), (2, .ref (B + a2)), (3, .ref (B + a3)), (4, .int v4)] [] M)
  have h := h (by
    intro v4 M cn sn h
    obtain ⟨hcn, hsn, h⟩ := h
    refine a_iload fx 4 d_La_law_23 rfl ?_
    refine a_aload_n fx 0 d_La_law_25 rfl rfl ?_
    refine a_slenb fx hX hbl hbB d_La_law_26 ?_
    refine a_bipush (v := 7) fx d_La_law_27 rfl ?_
    refine a_isub fx d_La_law_29 ?_
    refine a_icmp_gt fx 1013 d_La_law_30 rfl (fun hc => ?_) (fun hc => ?_)
    · have h := h.1 hc
      refine a_iconst (v := 1) fx d_La_law_1013 rfl ?_
      exact a_true fx hB hr hlo (by omega) (by omega) d_La_law_1014
    · have h := h.2 hc
      refine a_aload_n fx 0 d_La_law_33 rfl rfl ?_
      refine a_iload fx 4 d_La_law_34 rfl ?_
      obtain ⟨hin, h⟩ := h
      refine a_sld fx hX hbl hbB hin d_La_law_36 ?_
      refine a_bipush (v := 15) fx d_La_law_37 rfl ?_
      refine a_iand fx d_La_law_39 ?_
      by_cases hc0 : ((xs (v4).toNatClampNeg) &&& 15) = 0
      · have h := h.1 hc0
        refine a_tabI fx 120 d_La_law_40 (by rw [hc0]; decide) (by rw [hc0]; decide) (by rw [hc0]; rfl) rfl ?_
        refine a_aload_n fx 1 d_La_law_120 rfl rfl ?_
        refine a_aload_n fx 0 d_La_law_121 rfl rfl ?_
        refine a_iload fx 4 d_La_law_122 rfl ?_
        refine a_iconst (v := 1) fx d_La_law_124 rfl ?_
        refine a_iadd fx d_La_law_125 ?_
        obtain ⟨hin, h⟩ := h
        refine a_sld fx hX hbl hbB hin d_La_law_126 ?_
        refine a_i2l fx d_La_law_127 ?_
        refine a_bipush (v := 32) fx d_La_law_128 rfl ?_
        refine a_lshl fx d_La_law_130 ?_
        refine a_aload_n fx 0 d_La_law_131 rfl rfl ?_
        refine a_iload fx 4 d_La_law_132 rfl ?_
        refine a_iconst (v := 2) fx d_La_law_134 rfl ?_
        refine a_iadd fx d_La_law_135 ?_
        obtain ⟨hin, h⟩ := h
        refine a_sld fx hX hbl hbB hin d_La_law_136 ?_
        refine a_i2l fx d_La_law_137 ?_
        refine a_ldc2 fx w_1746 d_La_law_138 ?_
        refine a_land fx d_La_law_141 ?_
        refine a_lor fx d_La_law_142 ?_
        refine a_aload_n fx 0 d_La_law_143 rfl rfl ?_
        refine a_iload fx 4 d_La_law_144 rfl ?_
        refine a_iconst (v := 3) fx d_La_law_146 rfl ?_
        refine a_iadd fx d_La_law_147 ?_
        obtain ⟨hin, h⟩ := h
        refine a_sld fx hX hbl hbB hin d_La_law_148 ?_
        refine a_aload_n fx 3 d_La_law_149 rfl rfl ?_
        refine a_calli (rest := []) (a_runSW (As := [.ref (B + a1), .long (((((xs ((v4 + 1)).toNatClampNeg)).toInt64) <<< (((32 : Int32)).toInt64 &&& 63)) ||| ((((xs ((v4 + 2)).toNatClampNeg)).toInt64) &&& 4294967295)), .int (xs ((v4 + 3)).toNatClampNeg), .ref (B + a3)]) fx cv_La_type w_1042 (Met_La_type l B D aC aS hfl (hk0 := hk1) (ht0 := ht1) (hk4 := hk3) (ht4 := ht3) h) rfl rfl (Nat.le_of_ble_eq_true rfl) rfl rfl ⟨Nat.le_of_ble_eq_true rfl, Nat.le_of_ble_eq_true rfl⟩ d_La_law_150 ⟨(show cn + 1 ≤ 601024 by omega), (show sn + 6 ≤ 7293033 by omega)⟩) (fun x2 M1 h => ?_)
        refine a_istore (lv2 := [(5, .int x2), (0, .ref b), (1, .ref (B + a1)), (2, .ref (B + a2)), (3, .ref (B + a3)), (4, .int v4)]) fx d_La_law_153 (by decide) rfl ?_
        refine a_aload_n fx 3 d_La_law_155 rfl rfl ?_
        refine a_aload_n fx 1 d_La_law_156 rfl rfl ?_
        refine a_iload fx 5 d_La_law_157 rfl ?_
        refine a_iconst (v := 1) fx d_La_law_159 rfl ?_
        refine a_iadd fx d_La_law_160 ?_
        obtain ⟨hin, h⟩ := h
        refine a_sld fx hX hbl hbB hin d_La_law_161 ?_
        refine a_i2l fx d_La_law_162 ?_
        refine a_bipush (v := 32) fx d_La_law_163 rfl ?_
        refine a_lshl fx d_La_law_165 ?_
        refine a_aload_n fx 1 d_La_law_166 rfl rfl ?_
        refine a_iload fx 5 d_La_law_167 rfl ?_
        refine a_iconst (v := 2) fx d_La_law_169 rfl ?_
        refine a_iadd fx d_La_law_170 ?_
        obtain ⟨hin, h⟩ := h
        refine a_sld fx hX hbl hbB hin d_La_law_171 ?_
        refine a_i2l fx d_La_law_172 ?_
        refine a_ldc2 fx w_1746 d_La_law_173 ?_
        refine a_land fx d_La_law_176 ?_
        refine a_lor fx d_La_law_177 ?_
        refine a_aload_n fx 1 d_La_law_178 rfl rfl ?_
        refine a_iload fx 5 d_La_law_179 rfl ?_
        refine a_iconst (v := 3) fx d_La_law_181 rfl ?_
        refine a_iadd fx d_La_law_182 ?_
        obtain ⟨hin, h⟩ := h
        refine a_sld fx hX hbl hbB hin d_La_law_183 ?_
        refine a_calli (rest := []) (a_runV (As := [.long (((((xs ((v4 + 1)).toNatClampNeg)).toInt64) <<< (((32 : Int32)).toInt64 &&& 63)) ||| ((((xs ((v4 + 2)).toNatClampNeg)).toInt64) &&& 4294967295)), .int (xs ((v4 + 3)).toNatClampNeg)]) fx cv_Mo_type w_1461 (Met_Mo_type l B D aC aS (hk0 := hk2) (ht0 := ht2) h) hk2 ht2 (by decide) rfl rfl rfl (Nat.le_of_ble_eq_true rfl) rfl rfl ⟨Nat.le_of_ble_eq_true rfl, Nat.le_of_ble_eq_true rfl⟩ d_La_law_184 ⟨(show (cn + 1) + 0 ≤ 601024 by omega), (show (sn + 6) + 0 ≤ 7293033 by omega)⟩) (fun x4 M3 h => ?_)
        refine a_istore (lv2 := [(6, .int x4), (5, .int x2), (0, .ref b), (1, .ref (B + a1)), (2, .ref (B + a2)), (3, .ref (B + a3)), (4, .int v4)]) fx d_La_law_187 (by decide) rfl ?_
        refine a_aload_n fx 4 d_La_law_189 rfl rfl ?_
        refine a_calli (rest := []) (a_runV (As := []) fx cv_Mo_thrown w_1457 (Met_Mo_thrown l B D aC aS (hk0 := hk2) (ht0 := ht2) h) hk2 ht2 (by decide) rfl rfl rfl (Nat.le_of_ble_eq_true rfl) rfl rfl ⟨Nat.le_of_ble_eq_true rfl, Nat.le_of_ble_eq_true rfl⟩ d_La_law_190 ⟨(show (cn + 1) + 0 ≤ 601024 by omega), (show (sn + 6) + 0 ≤ 7293033 by omega)⟩) (fun x6 M5 h => ?_)
        refine a_iload fx 1 d_La_law_193 rfl ?_
        refine a_icmp_eq fx 200 d_La_law_195 rfl (fun hc => ?_) (fun hc => ?_)
        · have h := h.1 hc
          refine a_iload fx 1 d_La_law_200 rfl ?_
          refine a_if_ne fx 217 d_La_law_202 rfl (fun hc => ?_) (fun hc => ?_)
          · have h := h.1 hc
            refine a_goto fx 1007 d_La_law_217 rfl ?_
            obtain ⟨x7, ex7⟩ : ∃ z : Int32, z = v4 + 7 := ⟨_, rfl⟩
            have h := h x7 ex7
            refine a_iinc (lv2 := [(4, .int x7), (6, .int x4), (5, .int x2), (0, .ref b), (1, .ref (B + a1)), (2, .ref (B + a2)), (3, .ref (B + a3))]) fx 6 d_La_law_1007 rfl ex7.symm (by decide) rfl ?_
            refine a_goto fx 23 d_La_law_1010 rfl ?_
            refine a_sub [3, 4, 5, 6, 0] rfl ?_
            exact h
          · have h := h.2 hc
            refine a_aload_n fx 5 d_La_law_205 rfl rfl ?_
            refine a_iconst (v := 0) fx d_La_law_206 rfl ?_
            obtain ⟨hin, h⟩ := h
            refine a_lald fx hk3 ht3 hin d_La_law_207 ?_
            refine a_iload fx 0 d_La_law_208 rfl ?_
            refine a_i2l fx d_La_law_210 ?_
            refine a_lcmp fx d_La_law_211 ?_
            refine a_if_eq fx 217 d_La_law_212 rfl (fun hc => ?_) (fun hc => ?_)
            · have h := h.1 hc
              refine a_goto fx 1007 d_La_law_217 rfl ?_
              obtain ⟨x8, ex8⟩ : ∃ z : Int32, z = v4 + 7 := ⟨_, rfl⟩
              have h := h x8 ex8
              refine a_iinc (lv2 := [(4, .int x8), (6, .int x4), (5, .int x2), (0, .ref b), (1, .ref (B + a1)), (2, .ref (B + a2)), (3, .ref (B + a3))]) fx 6 d_La_law_1007 rfl ex8.symm (by decide) rfl ?_
              refine a_goto fx 23 d_La_law_1010 rfl ?_
              refine a_sub [3, 4, 5, 6, 0] rfl ?_
              exact h
            · have h := h.2 hc
              refine a_iconst (v := 0) fx d_La_law_215 rfl ?_
              exact False.elim h
        · have h := h.2 hc
          refine a_iconst (v := 0) fx d_La_law_198 rfl ?_
          exact False.elim h
      have h := h.2
      by_cases hc1 : ((xs (v4).toNatClampNeg) &&& 15) = 1
      · have h := h.1 hc1
        refine a_tabI fx 220 d_La_law_40 (by rw [hc1]; decide) (by rw [hc1]; decide) (by rw [hc1]; rfl) rfl ?_
        refine a_aload_n fx 1 d_La_law_220 rfl rfl ?_
        refine a_aload_n fx 0 d_La_law_221 rfl rfl ?_
        refine a_iload fx 4 d_La_law_222 rfl ?_
        refine a_iconst (v := 1) fx d_La_law_224 rfl ?_
        refine a_iadd fx d_La_law_225 ?_
        obtain ⟨hin, h⟩ := h
        refine a_sld fx hX hbl hbB hin d_La_law_226 ?_
        refine a_aload_n fx 3 d_La_law_227 rfl rfl ?_
        refine a_calli (rest := []) (a_runSW (As := [.ref (B + a1), .int (xs ((v4 + 1)).toNatClampNeg), .ref (B + a3)]) fx cv_La_again w_1079 (Met_La_again l B D aC aS hfl (hk0 := hk1) (ht0 := ht1) (hk2 := hk3) (ht2 := ht3) h) rfl rfl (Nat.le_of_ble_eq_true rfl) rfl rfl ⟨Nat.le_of_ble_eq_true rfl, Nat.le_of_ble_eq_true rfl⟩ d_La_law_228 ⟨(show cn + 1 ≤ 601024 by omega), (show sn + 6 ≤ 7293033 by omega)⟩) (fun x10 M9 h => ?_)
        refine a_istore (lv2 := [(5, .int x10), (0, .ref b), (1, .ref (B + a1)), (2, .ref (B + a2)), (3, .ref (B + a3)), (4, .int v4)]) fx d_La_law_231 (by decide) rfl ?_
        refine a_aload_n fx 3 d_La_law_233 rfl rfl ?_
        refine a_aload_n fx 1 d_La_law_234 rfl rfl ?_
        refine a_iload fx 5 d_La_law_235 rfl ?_
        refine a_iconst (v := 1) fx d_La_law_237 rfl ?_
        refine a_iadd fx d_La_law_238 ?_
        obtain ⟨hin, h⟩ := h
        refine a_sld fx hX hbl hbB hin d_La_law_239 ?_
        refine a_calli (rest := []) (a_runV (As := [.int (xs ((v4 + 1)).toNatClampNeg)]) fx cv_Mo_again w_1465 (Met_Mo_again l B D aC aS (hk0 := hk2) (ht0 := ht2) h) hk2 ht2 (by decide) rfl rfl rfl (Nat.le_of_ble_eq_true rfl) rfl rfl ⟨Nat.le_of_ble_eq_true rfl, Nat.le_of_ble_eq_true rfl⟩ d_La_law_240 ⟨(show (cn + 1) + 0 ≤ 601024 by omega), (show (sn + 6) + 0 ≤ 7293033 by omega)⟩) (fun x12 M11 h => ?_)
        refine a_istore (lv2 := [(6, .int x12), (5, .int x10), (0, .ref b), (1, .ref (B + a1)), (2, .ref (B + a2)), (3, .ref (B + a3)), (4, .int v4)]) fx d_La_law_243 (by decide) rfl ?_
        refine a_aload_n fx 4 d_La_law_245 rfl rfl ?_
        refine a_calli (rest := []) (a_runV (As := []) fx cv_Mo_thrown w_1457 (Met_Mo_thrown l B D aC aS (hk0 := hk2) (ht0 := ht2) h) hk2 ht2 (by decide) rfl rfl rfl (Nat.le_of_ble_eq_true rfl) rfl rfl ⟨Nat.le_of_ble_eq_true rfl, Nat.le_of_ble_eq_true rfl⟩ d_La_law_246 ⟨(show (cn + 1) + 0 ≤ 601024 by omega), (show (sn + 6) + 0 ≤ 7293033 by omega)⟩) (fun x14 M13 h => ?_)
        refine a_iload fx 1 d_La_law_249 rfl ?_
        refine a_icmp_eq fx 256 d_La_law_251 rfl (fun hc => ?_) (fun hc => ?_)
        · have h := h.1 hc
          refine a_iload fx 1 d_La_law_256 rfl ?_
          refine a_if_ne fx 273 d_La_law_258 rfl (fun hc => ?_) (fun hc => ?_)
          · have h := h.1 hc
            refine a_goto fx 1007 d_La_law_273 rfl ?_
            obtain ⟨x15, ex15⟩ : ∃ z : Int32, z = v4 + 7 := ⟨_, rfl⟩
            have h := h x15 ex15
            refine a_iinc (lv2 := [(4, .int x15), (6, .int x12), (5, .int x10), (0, .ref b), (1, .ref (B + a1)), (2, .ref (B + a2)), (3, .ref (B + a3))]) fx 6 d_La_law_1007 rfl ex15.symm (by decide) rfl ?_
            refine a_goto fx 23 d_La_law_1010 rfl ?_
            refine a_sub [3, 4, 5, 6, 0] rfl ?_
            exact h
          · have h := h.2 hc
            refine a_aload_n fx 5 d_La_law_261 rfl rfl ?_
            refine a_iconst (v := 0) fx d_La_law_262 rfl ?_
            obtain ⟨hin, h⟩ := h
            refine a_lald fx hk3 ht3 hin d_La_law_263 ?_
            refine a_iload fx 0 d_La_law_264 rfl ?_
            refine a_i2l fx d_La_law_266 ?_
            refine a_lcmp fx d_La_law_267 ?_
            refine a_if_eq fx 273 d_La_law_268 rfl (fun hc => ?_) (fun hc => ?_)
            · have h := h.1 hc
              refine a_goto fx 1007 d_La_law_273 rfl ?_
              obtain ⟨x16, ex16⟩ : ∃ z : Int32, z = v4 + 7 := ⟨_, rfl⟩
              have h := h x16 ex16
              refine a_iinc (lv2 := [(4, .int x16), (6, .int x12), (5, .int x10), (0, .ref b), (1, .ref (B + a1)), (2, .ref (B + a2)), (3, .ref (B + a3))]) fx 6 d_La_law_1007 rfl ex16.symm (by decide) rfl ?_
              refine a_goto fx 23 d_La_law_1010 rfl ?_
              refine a_sub [3, 4, 5, 6, 0] rfl ?_
              exact h
            · have h := h.2 hc
              refine a_iconst (v := 0) fx d_La_law_271 rfl ?_
              exact False.elim h
        · have h := h.2 hc
          refine a_iconst (v := 0) fx d_La_law_254 rfl ?_
          exact False.elim h
      have h := h.2
      by_cases hc2 : ((xs (v4).toNatClampNeg) &&& 15) = 2
      · have h := h.1 hc2
        refine a_tabI fx 276 d_La_law_40 (by rw [hc2]; decide) (by rw [hc2]; decide) (by rw [hc2]; rfl) rfl ?_
        refine a_aload_n fx 1 d_La_law_276 rfl rfl ?_
        refine a_aload_n fx 0 d_La_law_277 rfl rfl ?_
        refine a_iload fx 4 d_La_law_278 rfl ?_
        refine a_iconst (v := 1) fx d_La_law_280 rfl ?_
        refine a_iadd fx d_La_law_281 ?_
        obtain ⟨hin, h⟩ := h
        refine a_sld fx hX hbl hbB hin d_La_law_282 ?_
        refine a_aload_n fx 0 d_La_law_283 rfl rfl ?_
        refine a_iload fx 4 d_La_law_284 rfl ?_
        refine a_iconst (v := 2) fx d_La_law_286 rfl ?_
        refine a_iadd fx d_La_law_287 ?_
        obtain ⟨hin, h⟩ := h
        refine a_sld fx hX hbl hbB hin d_La_law_288 ?_
        refine a_aload_n fx 0 d_La_law_289 rfl rfl ?_
        refine a_iload fx 4 d_La_law_290 rfl ?_
        refine a_iconst (v := 3) fx d_La_law_292 rfl ?_
        refine a_iadd fx d_La_law_293 ?_
        obtain ⟨hin, h⟩ := h
        refine a_sld fx hX hbl hbB hin d_La_law_294 ?_
        refine a_aload_n fx 0 d_La_law_295 rfl rfl ?_
        refine a_iload fx 4 d_La_law_296 rfl ?_
        refine a_iconst (v := 4) fx d_La_law_298 rfl ?_
        refine a_iadd fx d_La_law_299 ?_
        obtain ⟨hin, h⟩ := h
        refine a_sld fx hX hbl hbB hin d_La_law_300 ?_
        refine a_aload_n fx 0 d_La_law_301 rfl rfl ?_
        refine a_iload fx 4 d_La_law_302 rfl ?_
        refine a_iconst (v := 5) fx d_La_law_304 rfl ?_
        refine a_iadd fx d_La_law_305 ?_
        obtain ⟨hin, h⟩ := h
        refine a_sld fx hX hbl hbB hin d_La_law_306 ?_
        refine a_aload_n fx 0 d_La_law_307 rfl rfl ?_
        refine a_iload fx 4 d_La_law_308 rfl ?_
        refine a_bipush (v := 6) fx d_La_law_310 rfl ?_
        refine a_iadd fx d_La_law_312 ?_
        obtain ⟨hin, h⟩ := h
        refine a_sld fx hX hbl hbB hin d_La_law_313 ?_
        refine a_aload_n fx 3 d_La_law_314 rfl rfl ?_
        refine a_calli (rest := []) (a_runSW (As := [.ref (B + a1), .int (xs ((v4 + 1)).toNatClampNeg), .int (xs ((v4 + 2)).toNatClampNeg), .int (xs ((v4 + 3)).toNatClampNeg), .int (xs ((v4 + 4)).toNatClampNeg), .int (xs ((v4 + 5)).toNatClampNeg), .int (xs ((v4 + 6)).toNatClampNeg), .ref (B + a3)]) fx cv_La_add w_1087 (Met_La_add l B D aC aS hfl (hk0 := hk1) (ht0 := ht1) (hk7 := hk3) (ht7 := ht3) h) rfl rfl (Nat.le_of_ble_eq_true rfl) rfl rfl ⟨Nat.le_of_ble_eq_true rfl, Nat.le_of_ble_eq_true rfl⟩ d_La_law_315 ⟨(show cn + 1 ≤ 601024 by omega), (show sn + 6 ≤ 7293033 by omega)⟩) (fun x18 M17 h => ?_)
        refine a_istore (lv2 := [(5, .int x18), (0, .ref b), (1, .ref (B + a1)), (2, .ref (B + a2)), (3, .ref (B + a3)), (4, .int v4)]) fx d_La_law_318 (by decide) rfl ?_
        refine a_aload_n fx 3 d_La_law_320 rfl rfl ?_
        refine a_aload_n fx 1 d_La_law_321 rfl rfl ?_
        refine a_iload fx 5 d_La_law_322 rfl ?_
        refine a_iconst (v := 1) fx d_La_law_324 rfl ?_
        refine a_iadd fx d_La_law_325 ?_
        obtain ⟨hin, h⟩ := h
        refine a_sld fx hX hbl hbB hin d_La_law_326 ?_
        refine a_aload_n fx 1 d_La_law_327 rfl rfl ?_
        refine a_iload fx 5 d_La_law_328 rfl ?_
        refine a_iconst (v := 2) fx d_La_law_330 rfl ?_
        refine a_iadd fx d_La_law_331 ?_
        obtain ⟨hin, h⟩ := h
        refine a_sld fx hX hbl hbB hin d_La_law_332 ?_
        refine a_aload_n fx 1 d_La_law_333 rfl rfl ?_
        refine a_iload fx 5 d_La_law_334 rfl ?_
        refine a_iconst (v := 3) fx d_La_law_336 rfl ?_
        refine a_iadd fx d_La_law_337 ?_
        obtain ⟨hin, h⟩ := h
        refine a_sld fx hX hbl hbB hin d_La_law_338 ?_
        refine a_aload_n fx 1 d_La_law_339 rfl rfl ?_
        refine a_iload fx 5 d_La_law_340 rfl ?_
        refine a_iconst (v := 4) fx d_La_law_342 rfl ?_
        refine a_iadd fx d_La_law_343 ?_
        obtain ⟨hin, h⟩ := h
        refine a_sld fx hX hbl hbB hin d_La_law_344 ?_
        refine a_aload_n fx 1 d_La_law_345 rfl rfl ?_
        refine a_iload fx 5 d_La_law_346 rfl ?_
        refine a_iconst (v := 5) fx d_La_law_348 rfl ?_
        refine a_iadd fx d_La_law_349 ?_
        obtain ⟨hin, h⟩ := h
        refine a_sld fx hX hbl hbB hin d_La_law_350 ?_
        refine a_aload_n fx 1 d_La_law_351 rfl rfl ?_
        refine a_iload fx 5 d_La_law_352 rfl ?_
        refine a_bipush (v := 6) fx d_La_law_354 rfl ?_
        refine a_iadd fx d_La_law_356 ?_
        obtain ⟨hin, h⟩ := h
        refine a_sld fx hX hbl hbB hin d_La_law_357 ?_
        refine a_calli (rest := []) (a_runV (As := [.int (xs ((v4 + 1)).toNatClampNeg), .int (xs ((v4 + 2)).toNatClampNeg), .int (xs ((v4 + 3)).toNatClampNeg), .int (xs ((v4 + 4)).toNatClampNeg), .int (xs ((v4 + 5)).toNatClampNeg), .int (xs ((v4 + 6)).toNatClampNeg)]) fx cv_Mo_add w_1469 (Met_Mo_add l B D aC aS (hk0 := hk2) (ht0 := ht2) h) hk2 ht2 (by decide) rfl rfl rfl (Nat.le_of_ble_eq_true rfl) rfl rfl ⟨Nat.le_of_ble_eq_true rfl, Nat.le_of_ble_eq_true rfl⟩ d_La_law_358 ⟨(show (cn + 1) + 0 ≤ 601024 by omega), (show (sn + 6) + 0 ≤ 7293033 by omega)⟩) (fun x20 M19 h => ?_)
        refine a_istore (lv2 := [(6, .int x20), (5, .int x18), (0, .ref b), (1, .ref (B + a1)), (2, .ref (B + a2)), (3, .ref (B + a3)), (4, .int v4)]) fx d_La_law_361 (by decide) rfl ?_
        refine a_aload_n fx 4 d_La_law_363 rfl rfl ?_
        refine a_calli (rest := []) (a_runV (As := []) fx cv_Mo_thrown w_1457 (Met_Mo_thrown l B D aC aS (hk0 := hk2) (ht0 := ht2) h) hk2 ht2 (by decide) rfl rfl rfl (Nat.le_of_ble_eq_true rfl) rfl rfl ⟨Nat.le_of_ble_eq_true rfl, Nat.le_of_ble_eq_true rfl⟩ d_La_law_364 ⟨(show (cn + 1) + 0 ≤ 601024 by omega), (show (sn + 6) + 0 ≤ 7293033 by omega)⟩) (fun x22 M21 h => ?_)
        refine a_iload fx 1 d_La_law_367 rfl ?_
        refine a_icmp_eq fx 374 d_La_law_369 rfl (fun hc => ?_) (fun hc => ?_)
        · have h := h.1 hc
          refine a_iload fx 1 d_La_law_374 rfl ?_
          refine a_if_ne fx 391 d_La_law_376 rfl (fun hc => ?_) (fun hc => ?_)
          · have h := h.1 hc
            refine a_goto fx 1007 d_La_law_391 rfl ?_
            obtain ⟨x23, ex23⟩ : ∃ z : Int32, z = v4 + 7 := ⟨_, rfl⟩
            have h := h x23 ex23
            refine a_iinc (lv2 := [(4, .int x23), (6, .int x20), (5, .int x18), (0, .ref b), (1, .ref (B + a1)), (2, .ref (B + a2)), (3, .ref (B + a3))]) fx 6 d_La_law_1007 rfl ex23.symm (by decide) rfl ?_
            refine a_goto fx 23 d_La_law_1010 rfl ?_
            refine a_sub [3, 4, 5, 6, 0] rfl ?_
            exact h
          · have h := h.2 hc
            refine a_aload_n fx 5 d_La_law_379 rfl rfl ?_
            refine a_iconst (v := 0) fx d_La_law_380 rfl ?_
            obtain ⟨hin, h⟩ := h
            refine a_lald fx hk3 ht3 hin d_La_law_381 ?_
            refine a_iload fx 0 d_La_law_382 rfl ?_
            refine a_i2l fx d_La_law_384 ?_
            refine a_lcmp fx d_La_law_385 ?_
            refine a_if_eq fx 391 d_La_law_386 rfl (fun hc => ?_) (fun hc => ?_)
            · have h := h.1 hc
              refine a_goto fx 1007 d_La_law_391 rfl ?_
              obtain ⟨x24, ex24⟩ : ∃ z : Int32, z = v4 + 7 := ⟨_, rfl⟩
              have h := h x24 ex24
              refine a_iinc (lv2 := [(4, .int x24), (6, .int x20), (5, .int x18), (0, .ref b), (1, .ref (B + a1)), (2, .ref (B + a2)), (3, .ref (B + a3))]) fx 6 d_La_law_1007 rfl ex24.symm (by decide) rfl ?_
              refine a_goto fx 23 d_La_law_1010 rfl ?_
              refine a_sub [3, 4, 5, 6, 0] rfl ?_
              exact h
            · have h := h.2 hc
              refine a_iconst (v := 0) fx d_La_law_389 rfl ?_
              exact False.elim h
        · have h := h.2 hc
          refine a_iconst (v := 0) fx d_La_law_372 rfl ?_
          exact False.elim h
      have h := h.2
      by_cases hc3 : ((xs (v4).toNatClampNeg) &&& 15) = 3
      · have h := h.1 hc3
        refine a_tabI fx 394 d_La_law_40 (by rw [hc3]; decide) (by rw [hc3]; decide) (by rw [hc3]; rfl) rfl ?_
        refine a_aload_n fx 1 d_La_law_394 rfl rfl ?_
        refine a_aload_n fx 0 d_La_law_395 rfl rfl ?_
        refine a_iload fx 4 d_La_law_396 rfl ?_
        refine a_iconst (v := 1) fx d_La_law_398 rfl ?_
        refine a_iadd fx d_La_law_399 ?_
        obtain ⟨hin, h⟩ := h
        refine a_sld fx hX hbl hbB hin d_La_law_400 ?_
        refine a_aload_n fx 3 d_La_law_401 rfl rfl ?_
        refine a_calli (rest := []) (a_runSW (As := [.ref (B + a1), .int (xs ((v4 + 1)).toNatClampNeg), .ref (B + a3)]) fx cv_La_link w_1132 (Met_La_link l B D aC aS hfl (hk0 := hk1) (ht0 := ht1) (hk2 := hk3) (ht2 := ht3) h) rfl rfl (Nat.le_of_ble_eq_true rfl) rfl rfl ⟨Nat.le_of_ble_eq_true rfl, Nat.le_of_ble_eq_true rfl⟩ d_La_law_402 ⟨(show cn + 1 ≤ 601024 by omega), (show sn + 6 ≤ 7293033 by omega)⟩) (fun x26 M25 h => ?_)
        refine a_istore (lv2 := [(5, .int x26), (0, .ref b), (1, .ref (B + a1)), (2, .ref (B + a2)), (3, .ref (B + a3)), (4, .int v4)]) fx d_La_law_405 (by decide) rfl ?_
        refine a_aload_n fx 3 d_La_law_407 rfl rfl ?_
        refine a_aload_n fx 1 d_La_law_408 rfl rfl ?_
        refine a_iload fx 5 d_La_law_409 rfl ?_
        refine a_iconst (v := 1) fx d_La_law_411 rfl ?_
        refine a_iadd fx d_La_law_412 ?_
        obtain ⟨hin, h⟩ := h
        refine a_sld fx hX hbl hbB hin d_La_law_413 ?_
        refine a_calli (rest := []) (a_runV (As := [.int (xs ((v4 + 1)).toNatClampNeg)]) fx cv_Mo_link w_1522 (Met_Mo_link l B D aC aS (hk0 := hk2) (ht0 := ht2) h) hk2 ht2 (by decide) rfl rfl rfl (Nat.le_of_ble_eq_true rfl) rfl rfl ⟨Nat.le_of_ble_eq_true rfl, Nat.le_of_ble_eq_true rfl⟩ d_La_law_414 ⟨(show (cn + 1) + 0 ≤ 601024 by omega), (show (sn + 6) + 0 ≤ 7293033 by omega)⟩) (fun x28 M27 h => ?_)
        refine a_istore (lv2 := [(6, .int x28), (5, .int x26), (0, .ref b), (1, .ref (B + a1)), (2, .ref (B + a2)), (3, .ref (B + a3)), (4, .int v4)]) fx d_La_law_417 (by decide) rfl ?_
        refine a_aload_n fx 4 d_La_law_419 rfl rfl ?_
        refine a_calli (rest := []) (a_runV (As := []) fx cv_Mo_thrown w_1457 (Met_Mo_thrown l B D aC aS (hk0 := hk2) (ht0 := ht2) h) hk2 ht2 (by decide) rfl rfl rfl (Nat.le_of_ble_eq_true rfl) rfl rfl ⟨Nat.le_of_ble_eq_true rfl, Nat.le_of_ble_eq_true rfl⟩ d_La_law_420 ⟨(show (cn + 1) + 0 ≤ 601024 by omega), (show (sn + 6) + 0 ≤ 7293033 by omega)⟩) (fun x30 M29 h => ?_)
        refine a_iload fx 1 d_La_law_423 rfl ?_
        refine a_icmp_eq fx 430 d_La_law_425 rfl (fun hc => ?_) (fun hc => ?_)
        · have h := h.1 hc
          refine a_iload fx 1 d_La_law_430 rfl ?_
          refine a_if_ne fx 447 d_La_law_432 rfl (fun hc => ?_) (fun hc => ?_)
          · have h := h.1 hc
            refine a_goto fx 1007 d_La_law_447 rfl ?_
            obtain ⟨x31, ex31⟩ : ∃ z : Int32, z = v4 + 7 := ⟨_, rfl⟩
            have h := h x31 ex31
            refine a_iinc (lv2 := [(4, .int x31), (6, .int x28), (5, .int x26), (0, .ref b), (1, .ref (B + a1)), (2, .ref (B + a2)), (3, .ref (B + a3))]) fx 6 d_La_law_1007 rfl ex31.symm (by decide) rfl ?_
            refine a_goto fx 23 d_La_law_1010 rfl ?_
            refine a_sub [3, 4, 5, 6, 0] rfl ?_
            exact h
          · have h := h.2 hc
            refine a_aload_n fx 5 d_La_law_435 rfl rfl ?_
            refine a_iconst (v := 0) fx d_La_law_436 rfl ?_
            obtain ⟨hin, h⟩ := h
            refine a_lald fx hk3 ht3 hin d_La_law_437 ?_
            refine a_iload fx 0 d_La_law_438 rfl ?_
            refine a_i2l fx d_La_law_440 ?_
            refine a_lcmp fx d_La_law_441 ?_
            refine a_if_eq fx 447 d_La_law_442 rfl (fun hc => ?_) (fun hc => ?_)
            · have h := h.1 hc
              refine a_goto fx 1007 d_La_law_447 rfl ?_
              obtain ⟨x32, ex32⟩ : ∃ z : Int32, z = v4 + 7 := ⟨_, rfl⟩
              have h := h x32 ex32
              refine a_iinc (lv2 := [(4, .int x32), (6, .int x28), (5, .int x26), (0, .ref b), (1, .ref (B + a1)), (2, .ref (B + a2)), (3, .ref (B + a3))]) fx 6 d_La_law_1007 rfl ex32.symm (by decide) rfl ?_
              refine a_goto fx 23 d_La_law_1010 rfl ?_
              refine a_sub [3, 4, 5, 6, 0] rfl ?_
              exact h
            · have h := h.2 hc
              refine a_iconst (v := 0) fx d_La_law_445 rfl ?_
              exact False.elim h
        · have h := h.2 hc
          refine a_iconst (v := 0) fx d_La_law_428 rfl ?_
          exact False.elim h
      have h := h.2
      by_cases hc4 : ((xs (v4).toNatClampNeg) &&& 15) = 4
      · have h := h.1 hc4
        refine a_tabI fx 450 d_La_law_40 (by rw [hc4]; decide) (by rw [hc4]; decide) (by rw [hc4]; rfl) rfl ?_
        refine a_aload_n fx 1 d_La_law_450 rfl rfl ?_
        refine a_calli (rest := []) (a_runV (As := []) fx cv_Mc_clear w_347 (Met_Mc_clear l B D aC aS (hk0 := hk1) (ht0 := ht1) h) hk1 ht1 (by decide) rfl rfl rfl (Nat.le_of_ble_eq_true rfl) rfl rfl ⟨Nat.le_of_ble_eq_true rfl, Nat.le_of_ble_eq_true rfl⟩ d_La_law_451 ⟨(show cn + 0 ≤ 601024 by omega), (show sn + 0 ≤ 7293033 by omega)⟩) (fun x34 M33 h => ?_)
        refine a_aload_n fx 2 d_La_law_454 rfl rfl ?_
        refine a_calli (rest := [.int x34]) (a_runV (As := []) fx cv_Mo_clear w_1534 (Met_Mo_clear l B D aC aS (hk0 := hk2) (ht0 := ht2) h) hk2 ht2 (by decide) rfl rfl rfl (Nat.le_of_ble_eq_true rfl) rfl rfl ⟨Nat.le_of_ble_eq_true rfl, Nat.le_of_ble_eq_true rfl⟩ d_La_law_455 ⟨(show cn + 0 ≤ 601024 by omega), (show sn + 0 ≤ 7293033 by omega)⟩) (fun x36 M35 h => ?_)
        refine a_icmp_eq fx 1007 d_La_law_458 rfl (fun hc => ?_) (fun hc => ?_)
        · have h := h.1 hc
          obtain ⟨x37, ex37⟩ : ∃ z : Int32, z = v4 + 7 := ⟨_, rfl⟩
          have h := h x37 ex37
          refine a_iinc (lv2 := [(4, .int x37), (0, .ref b), (1, .ref (B + a1)), (2, .ref (B + a2)), (3, .ref (B + a3))]) fx 4 d_La_law_1007 rfl ex37.symm (by decide) rfl ?_
          refine a_goto fx 23 d_La_law_1010 rfl ?_
          refine a_sub [1, 2, 3, 4, 0] rfl ?_
          exact h
        · have h := h.2 hc
          refine a_iconst (v := 0) fx d_La_law_461 rfl ?_
          exact False.elim h
      have h := h.2
      by_cases hc5 : ((xs (v4).toNatClampNeg) &&& 15) = 5
      · have h := h.1 hc5
        refine a_tabI fx 463 d_La_law_40 (by rw [hc5]; decide) (by rw [hc5]; decide) (by rw [hc5]; rfl) rfl ?_
        refine a_aload_n fx 1 d_La_law_463 rfl rfl ?_
        refine a_aload_n fx 0 d_La_law_464 rfl rfl ?_
        refine a_iload fx 4 d_La_law_465 rfl ?_
        refine a_iconst (v := 1) fx d_La_law_467 rfl ?_
        refine a_iadd fx d_La_law_468 ?_
        obtain ⟨hin, h⟩ := h
        refine a_sld fx hX hbl hbB hin d_La_law_469 ?_
        refine a_aload_n fx 0 d_La_law_470 rfl rfl ?_
        refine a_iload fx 4 d_La_law_471 rfl ?_
        refine a_iconst (v := 2) fx d_La_law_473 rfl ?_
        refine a_iadd fx d_La_law_474 ?_
        obtain ⟨hin, h⟩ := h
        refine a_sld fx hX hbl hbB hin d_La_law_475 ?_
        refine a_aload_n fx 3 d_La_law_476 rfl rfl ?_
        refine a_calli (rest := []) (a_runSW (As := [.ref (B + a1), .int (xs ((v4 + 1)).toNatClampNeg), .int (xs ((v4 + 2)).toNatClampNeg), .ref (B + a3)]) fx cv_La_pack w_1142 (Met_La_pack l B D aC aS hfl (hk0 := hk1) (ht0 := ht1) (hk3 := hk3) (ht3 := ht3) h) rfl rfl (Nat.le_of_ble_eq_true rfl) rfl rfl ⟨Nat.le_of_ble_eq_true rfl, Nat.le_of_ble_eq_true rfl⟩ d_La_law_477 ⟨(show cn + 1 ≤ 601024 by omega), (show sn + 6 ≤ 7293033 by omega)⟩) (fun x39 M38 h => ?_)
        refine a_istore (lv2 := [(5, .int x39), (0, .ref b), (1, .ref (B + a1)), (2, .ref (B + a2)), (3, .ref (B + a3)), (4, .int v4)]) fx d_La_law_480 (by decide) rfl ?_
        refine a_aload_n fx 3 d_La_law_482 rfl rfl ?_
        refine a_aload_n fx 1 d_La_law_483 rfl rfl ?_
        refine a_iload fx 5 d_La_law_484 rfl ?_
        refine a_iconst (v := 1) fx d_La_law_486 rfl ?_
        refine a_iadd fx d_La_law_487 ?_
        obtain ⟨hin, h⟩ := h
        refine a_sld fx hX hbl hbB hin d_La_law_488 ?_
        refine a_aload_n fx 1 d_La_law_489 rfl rfl ?_
        refine a_iload fx 5 d_La_law_490 rfl ?_
        refine a_iconst (v := 2) fx d_La_law_492 rfl ?_
        refine a_iadd fx d_La_law_493 ?_
        obtain ⟨hin, h⟩ := h
        refine a_sld fx hX hbl hbB hin d_La_law_494 ?_
        refine a_calli (rest := []) (a_runV (As := [.int (xs ((v4 + 1)).toNatClampNeg), .int (xs ((v4 + 2)).toNatClampNeg)]) fx cv_Mo_pack w_1549 (Met_Mo_pack l B D aC aS (hk0 := hk2) (ht0 := ht2) h) hk2 ht2 (by decide) rfl rfl rfl (Nat.le_of_ble_eq_true rfl) rfl rfl ⟨Nat.le_of_ble_eq_true rfl, Nat.le_of_ble_eq_true rfl⟩ d_La_law_495 ⟨(show (cn + 1) + 0 ≤ 601024 by omega), (show (sn + 6) + 0 ≤ 7293033 by omega)⟩) (fun x41 M40 h => ?_)
        refine a_istore (lv2 := [(6, .int x41), (5, .int x39), (0, .ref b), (1, .ref (B + a1)), (2, .ref (B + a2)), (3, .ref (B + a3)), (4, .int v4)]) fx d_La_law_498 (by decide) rfl ?_
        refine a_aload_n fx 4 d_La_law_500 rfl rfl ?_
        refine a_calli (rest := []) (a_runV (As := []) fx cv_Mo_thrown w_1457 (Met_Mo_thrown l B D aC aS (hk0 := hk2) (ht0 := ht2) h) hk2 ht2 (by decide) rfl rfl rfl (Nat.le_of_ble_eq_true rfl) rfl rfl ⟨Nat.le_of_ble_eq_true rfl, Nat.le_of_ble_eq_true rfl⟩ d_La_law_501 ⟨(show (cn + 1) + 0 ≤ 601024 by omega), (show (sn + 6) + 0 ≤ 7293033 by omega)⟩) (fun x43 M42 h => ?_)
        refine a_iload fx 1 d_La_law_504 rfl ?_
        refine a_icmp_eq fx 511 d_La_law_506 rfl (fun hc => ?_) (fun hc => ?_)
        · have h := h.1 hc
          refine a_iload fx 1 d_La_law_511 rfl ?_
          refine a_if_ne fx 528 d_La_law_513 rfl (fun hc => ?_) (fun hc => ?_)
          · have h := h.1 hc
            refine a_goto fx 1007 d_La_law_528 rfl ?_
            obtain ⟨x44, ex44⟩ : ∃ z : Int32, z = v4 + 7 := ⟨_, rfl⟩
            have h := h x44 ex44
            refine a_iinc (lv2 := [(4, .int x44), (6, .int x41), (5, .int x39), (0, .ref b), (1, .ref (B + a1)), (2, .ref (B + a2)), (3, .ref (B + a3))]) fx 6 d_La_law_1007 rfl ex44.symm (by decide) rfl ?_
            refine a_goto fx 23 d_La_law_1010 rfl ?_
            refine a_sub [3, 4, 5, 6, 0] rfl ?_
            exact h
          · have h := h.2 hc
            refine a_aload_n fx 5 d_La_law_516 rfl rfl ?_
            refine a_iconst (v := 0) fx d_La_law_517 rfl ?_
            obtain ⟨hin, h⟩ := h
            refine a_lald fx hk3 ht3 hin d_La_law_518 ?_
            refine a_iload fx 0 d_La_law_519 rfl ?_
            refine a_i2l fx d_La_law_521 ?_
            refine a_lcmp fx d_La_law_522 ?_
            refine a_if_eq fx 528 d_La_law_523 rfl (fun hc => ?_) (fun hc => ?_)
            · have h := h.1 hc
              refine a_goto fx 1007 d_La_law_528 rfl ?_
              obtain ⟨x45, ex45⟩ : ∃ z : Int32, z = v4 + 7 := ⟨_, rfl⟩
              have h := h x45 ex45
              refine a_iinc (lv2 := [(4, .int x45), (6, .int x41), (5, .int x39), (0, .ref b), (1, .ref (B + a1)), (2, .ref (B + a2)), (3, .ref (B + a3))]) fx 6 d_La_law_1007 rfl ex45.symm (by decide) rfl ?_
              refine a_goto fx 23 d_La_law_1010 rfl ?_
              refine a_sub [3, 4, 5, 6, 0] rfl ?_
              exact h
            · have h := h.2 hc
              refine a_iconst (v := 0) fx d_La_law_526 rfl ?_
              exact False.elim h
        · have h := h.2 hc
          refine a_iconst (v := 0) fx d_La_law_509 rfl ?_
          exact False.elim h
      have h := h.2
      by_cases hc6 : ((xs (v4).toNatClampNeg) &&& 15) = 6
      · have h := h.1 hc6
        refine a_tabI fx 531 d_La_law_40 (by rw [hc6]; decide) (by rw [hc6]; decide) (by rw [hc6]; rfl) rfl ?_
        refine a_aload_n fx 1 d_La_law_531 rfl rfl ?_
        refine a_aload_n fx 0 d_La_law_532 rfl rfl ?_
        refine a_iload fx 4 d_La_law_533 rfl ?_
        refine a_iconst (v := 1) fx d_La_law_535 rfl ?_
        refine a_iadd fx d_La_law_536 ?_
        obtain ⟨hin, h⟩ := h
        refine a_sld fx hX hbl hbB hin d_La_law_537 ?_
        refine a_aload_n fx 0 d_La_law_538 rfl rfl ?_
        refine a_iload fx 4 d_La_law_539 rfl ?_
        refine a_iconst (v := 2) fx d_La_law_541 rfl ?_
        refine a_iadd fx d_La_law_542 ?_
        obtain ⟨hin, h⟩ := h
        refine a_sld fx hX hbl hbB hin d_La_law_543 ?_
        refine a_aload_n fx 3 d_La_law_544 rfl rfl ?_
        refine a_calli (rest := []) (a_runSW (As := [.ref (B + a1), .int (xs ((v4 + 1)).toNatClampNeg), .int (xs ((v4 + 2)).toNatClampNeg), .ref (B + a3)]) fx cv_La_part w_1165 (Met_La_part l B D aC aS hfl (hk0 := hk1) (ht0 := ht1) (hk3 := hk3) (ht3 := ht3) h) rfl rfl (Nat.le_of_ble_eq_true rfl) rfl rfl ⟨Nat.le_of_ble_eq_true rfl, Nat.le_of_ble_eq_true rfl⟩ d_La_law_545 ⟨(show cn + 1 ≤ 601024 by omega), (show sn + 6 ≤ 7293033 by omega)⟩) (fun x47 M46 h => ?_)
        refine a_istore (lv2 := [(5, .int x47), (0, .ref b), (1, .ref (B + a1)), (2, .ref (B + a2)), (3, .ref (B + a3)), (4, .int v4)]) fx d_La_law_548 (by decide) rfl ?_
        refine a_aload_n fx 3 d_La_law_550 rfl rfl ?_
        refine a_aload_n fx 1 d_La_law_551 rfl rfl ?_
        refine a_iload fx 5 d_La_law_552 rfl ?_
        refine a_iconst (v := 1) fx d_La_law_554 rfl ?_
        refine a_iadd fx d_La_law_555 ?_
        obtain ⟨hin, h⟩ := h
        refine a_sld fx hX hbl hbB hin d_La_law_556 ?_
        refine a_aload_n fx 1 d_La_law_557 rfl rfl ?_
        refine a_iload fx 5 d_La_law_558 rfl ?_
        refine a_iconst (v := 2) fx d_La_law_560 rfl ?_
        refine a_iadd fx d_La_law_561 ?_
        obtain ⟨hin, h⟩ := h
        refine a_sld fx hX hbl hbB hin d_La_law_562 ?_
        refine a_calli (rest := []) (a_runV (As := [.int (xs ((v4 + 1)).toNatClampNeg), .int (xs ((v4 + 2)).toNatClampNeg)]) fx cv_Mo_part w_1623 (Met_Mo_part l B D aC aS (hk0 := hk2) (ht0 := ht2) h) hk2 ht2 (by decide) rfl rfl rfl (Nat.le_of_ble_eq_true rfl) rfl rfl ⟨Nat.le_of_ble_eq_true rfl, Nat.le_of_ble_eq_true rfl⟩ d_La_law_563 ⟨(show (cn + 1) + 0 ≤ 601024 by omega), (show (sn + 6) + 0 ≤ 7293033 by omega)⟩) (fun x49 M48 h => ?_)
        refine a_istore (lv2 := [(6, .int x49), (5, .int x47), (0, .ref b), (1, .ref (B + a1)), (2, .ref (B + a2)), (3, .ref (B + a3)), (4, .int v4)]) fx d_La_law_566 (by decide) rfl ?_
        refine a_aload_n fx 4 d_La_law_568 rfl rfl ?_
        refine a_calli (rest := []) (a_runV (As := []) fx cv_Mo_thrown w_1457 (Met_Mo_thrown l B D aC aS (hk0 := hk2) (ht0 := ht2) h) hk2 ht2 (by decide) rfl rfl rfl (Nat.le_of_ble_eq_true rfl) rfl rfl ⟨Nat.le_of_ble_eq_true rfl, Nat.le_of_ble_eq_true rfl⟩ d_La_law_569 ⟨(show (cn + 1) + 0 ≤ 601024 by omega), (show (sn + 6) + 0 ≤ 7293033 by omega)⟩) (fun x51 M50 h => ?_)
        refine a_iload fx 1 d_La_law_572 rfl ?_
        refine a_icmp_eq fx 579 d_La_law_574 rfl (fun hc => ?_) (fun hc => ?_)
        · have h := h.1 hc
          refine a_iload fx 1 d_La_law_579 rfl ?_
          refine a_if_ne fx 596 d_La_law_581 rfl (fun hc => ?_) (fun hc => ?_)
          · have h := h.1 hc
            refine a_goto fx 1007 d_La_law_596 rfl ?_
            obtain ⟨x52, ex52⟩ : ∃ z : Int32, z = v4 + 7 := ⟨_, rfl⟩
            have h := h x52 ex52
            refine a_iinc (lv2 := [(4, .int x52), (6, .int x49), (5, .int x47), (0, .ref b), (1, .ref (B + a1)), (2, .ref (B + a2)), (3, .ref (B + a3))]) fx 6 d_La_law_1007 rfl ex52.symm (by decide) rfl ?_
            refine a_goto fx 23 d_La_law_1010 rfl ?_
            refine a_sub [3, 4, 5, 6, 0] rfl ?_
            exact h
          · have h := h.2 hc
            refine a_aload_n fx 5 d_La_law_584 rfl rfl ?_
            refine a_iconst (v := 0) fx d_La_law_585 rfl ?_
            obtain ⟨hin, h⟩ := h
            refine a_lald fx hk3 ht3 hin d_La_law_586 ?_
            refine a_iload fx 0 d_La_law_587 rfl ?_
            refine a_i2l fx d_La_law_589 ?_
            refine a_lcmp fx d_La_law_590 ?_
            refine a_if_eq fx 596 d_La_law_591 rfl (fun hc => ?_) (fun hc => ?_)
            · have h := h.1 hc
              refine a_goto fx 1007 d_La_law_596 rfl ?_
              obtain ⟨x53, ex53⟩ : ∃ z : Int32, z = v4 + 7 := ⟨_, rfl⟩
              have h := h x53 ex53
              refine a_iinc (lv2 := [(4, .int x53), (6, .int x49), (5, .int x47), (0, .ref b), (1, .ref (B + a1)), (2, .ref (B + a2)), (3, .ref (B + a3))]) fx 6 d_La_law_1007 rfl ex53.symm (by decide) rfl ?_
              refine a_goto fx 23 d_La_law_1010 rfl ?_
              refine a_sub [3, 4, 5, 6, 0] rfl ?_
              exact h
            · have h := h.2 hc
              refine a_iconst (v := 0) fx d_La_law_594 rfl ?_
              exact False.elim h
        · have h := h.2 hc
          refine a_iconst (v := 0) fx d_La_law_577 rfl ?_
          exact False.elim h
      have h := h.2
      by_cases hc7 : ((xs (v4).toNatClampNeg) &&& 15) = 7
      · have h := h.1 hc7
        refine a_tabI fx 599 d_La_law_40 (by rw [hc7]; decide) (by rw [hc7]; decide) (by rw [hc7]; rfl) rfl ?_
        refine a_aload_n fx 1 d_La_law_599 rfl rfl ?_
        refine a_aload_n fx 0 d_La_law_600 rfl rfl ?_
        refine a_iload fx 4 d_La_law_601 rfl ?_
        refine a_iconst (v := 1) fx d_La_law_603 rfl ?_
        refine a_iadd fx d_La_law_604 ?_
        obtain ⟨hin, h⟩ := h
        refine a_sld fx hX hbl hbB hin d_La_law_605 ?_
        refine a_aload_n fx 0 d_La_law_606 rfl rfl ?_
        refine a_iload fx 4 d_La_law_607 rfl ?_
        refine a_iconst (v := 2) fx d_La_law_609 rfl ?_
        refine a_iadd fx d_La_law_610 ?_
        obtain ⟨hin, h⟩ := h
        refine a_sld fx hX hbl hbB hin d_La_law_611 ?_
        refine a_aload_n fx 3 d_La_law_612 rfl rfl ?_
        refine a_calli (rest := []) (a_runSW (As := [.ref (B + a1), .int (xs ((v4 + 1)).toNatClampNeg), .int (xs ((v4 + 2)).toNatClampNeg), .ref (B + a3)]) fx cv_La_stage w_1199 (Met_La_stage l B D aC aS hfl (hk0 := hk1) (ht0 := ht1) (hk3 := hk3) (ht3 := ht3) h) rfl rfl (Nat.le_of_ble_eq_true rfl) rfl rfl ⟨Nat.le_of_ble_eq_true rfl, Nat.le_of_ble_eq_true rfl⟩ d_La_law_613 ⟨(show cn + 1 ≤ 601024 by omega), (show sn + 6 ≤ 7293033 by omega)⟩) (fun x55 M54 h => ?_)
        refine a_istore (lv2 := [(5, .int x55), (0, .ref b), (1, .ref (B + a1)), (2, .ref (B + a2)), (3, .ref (B + a3)), (4, .int v4)]) fx d_La_law_616 (by decide) rfl ?_
        refine a_aload_n fx 3 d_La_law_618 rfl rfl ?_
        refine a_aload_n fx 1 d_La_law_619 rfl rfl ?_
        refine a_iload fx 5 d_La_law_620 rfl ?_
        refine a_iconst (v := 1) fx d_La_law_622 rfl ?_
        refine a_iadd fx d_La_law_623 ?_
        obtain ⟨hin, h⟩ := h
        refine a_sld fx hX hbl hbB hin d_La_law_624 ?_
        refine a_aload_n fx 1 d_La_law_625 rfl rfl ?_
        refine a_iload fx 5 d_La_law_626 rfl ?_
        refine a_iconst (v := 2) fx d_La_law_628 rfl ?_
        refine a_iadd fx d_La_law_629 ?_
        obtain ⟨hin, h⟩ := h
        refine a_sld fx hX hbl hbB hin d_La_law_630 ?_
        refine a_calli (rest := []) (a_runV (As := [.int (xs ((v4 + 1)).toNatClampNeg), .int (xs ((v4 + 2)).toNatClampNeg)]) fx cv_Mo_stage w_1645 (Met_Mo_stage l B D aC aS (hk0 := hk2) (ht0 := ht2) h) hk2 ht2 (by decide) rfl rfl rfl (Nat.le_of_ble_eq_true rfl) rfl rfl ⟨Nat.le_of_ble_eq_true rfl, Nat.le_of_ble_eq_true rfl⟩ d_La_law_631 ⟨(show (cn + 1) + 0 ≤ 601024 by omega), (show (sn + 6) + 0 ≤ 7293033 by omega)⟩) (fun x57 M56 h => ?_)
        refine a_istore (lv2 := [(6, .int x57), (5, .int x55), (0, .ref b), (1, .ref (B + a1)), (2, .ref (B + a2)), (3, .ref (B + a3)), (4, .int v4)]) fx d_La_law_634 (by decide) rfl ?_
        refine a_aload_n fx 4 d_La_law_636 rfl rfl ?_
        refine a_calli (rest := []) (a_runV (As := []) fx cv_Mo_thrown w_1457 (Met_Mo_thrown l B D aC aS (hk0 := hk2) (ht0 := ht2) h) hk2 ht2 (by decide) rfl rfl rfl (Nat.le_of_ble_eq_true rfl) rfl rfl ⟨Nat.le_of_ble_eq_true rfl, Nat.le_of_ble_eq_true rfl⟩ d_La_law_637 ⟨(show (cn + 1) + 0 ≤ 601024 by omega), (show (sn + 6) + 0 ≤ 7293033 by omega)⟩) (fun x59 M58 h => ?_)
        refine a_iload fx 1 d_La_law_640 rfl ?_
        refine a_icmp_eq fx 647 d_La_law_642 rfl (fun hc => ?_) (fun hc => ?_)
        · have h := h.1 hc
          refine a_iload fx 1 d_La_law_647 rfl ?_
          refine a_if_ne fx 664 d_La_law_649 rfl (fun hc => ?_) (fun hc => ?_)
          · have h := h.1 hc
            refine a_goto fx 1007 d_La_law_664 rfl ?_
            obtain ⟨x60, ex60⟩ : ∃ z : Int32, z = v4 + 7 := ⟨_, rfl⟩
            have h := h x60 ex60
            refine a_iinc (lv2 := [(4, .int x60), (6, .int x57), (5, .int x55), (0, .ref b), (1, .ref (B + a1)), (2, .ref (B + a2)), (3, .ref (B + a3))]) fx 6 d_La_law_1007 rfl ex60.symm (by decide) rfl ?_
            refine a_goto fx 23 d_La_law_1010 rfl ?_
            refine a_sub [3, 4, 5, 6, 0] rfl ?_
            exact h
          · have h := h.2 hc
            refine a_aload_n fx 5 d_La_law_652 rfl rfl ?_
            refine a_iconst (v := 0) fx d_La_law_653 rfl ?_
            obtain ⟨hin, h⟩ := h
            refine a_lald fx hk3 ht3 hin d_La_law_654 ?_
            refine a_iload fx 0 d_La_law_655 rfl ?_
            refine a_i2l fx d_La_law_657 ?_
            refine a_lcmp fx d_La_law_658 ?_
            refine a_if_eq fx 664 d_La_law_659 rfl (fun hc => ?_) (fun hc => ?_)
            · have h := h.1 hc
              refine a_goto fx 1007 d_La_law_664 rfl ?_
              obtain ⟨x61, ex61⟩ : ∃ z : Int32, z = v4 + 7 := ⟨_, rfl⟩
              have h := h x61 ex61
              refine a_iinc (lv2 := [(4, .int x61), (6, .int x57), (5, .int x55), (0, .ref b), (1, .ref (B + a1)), (2, .ref (B + a2)), (3, .ref (B + a3))]) fx 6 d_La_law_1007 rfl ex61.symm (by decide) rfl ?_
              refine a_goto fx 23 d_La_law_1010 rfl ?_
              refine a_sub [3, 4, 5, 6, 0] rfl ?_
              exact h
            · have h := h.2 hc
              refine a_iconst (v := 0) fx d_La_law_662 rfl ?_
              exact False.elim h
        · have h := h.2 hc
          refine a_iconst (v := 0) fx d_La_law_645 rfl ?_
          exact False.elim h
      have h := h.2
      by_cases hc8 : ((xs (v4).toNatClampNeg) &&& 15) = 8
      · have h := h.1 hc8
        refine a_tabI fx 667 d_La_law_40 (by rw [hc8]; decide) (by rw [hc8]; decide) (by rw [hc8]; rfl) rfl ?_
        refine a_aload_n fx 1 d_La_law_667 rfl rfl ?_
        refine a_calli (rest := []) (a_runV (As := []) fx cv_Mc_checksum w_359 (Met_Mc_checksum l B D aC aS (hk0 := hk1) (ht0 := ht1) h) hk1 ht1 (by decide) rfl rfl rfl (Nat.le_of_ble_eq_true rfl) rfl rfl ⟨Nat.le_of_ble_eq_true rfl, Nat.le_of_ble_eq_true rfl⟩ d_La_law_668 ⟨(show cn + 0 ≤ 601024 by omega), (show sn + 0 ≤ 7293033 by omega)⟩) (fun x63 M62 h => ?_)
        refine a_aload_n fx 2 d_La_law_671 rfl rfl ?_
        refine a_calli (rest := [.int x63]) (a_runV (As := []) fx cv_Mo_checksum w_1538 (Met_Mo_checksum l B D aC aS (hk0 := hk2) (ht0 := ht2) h) hk2 ht2 (by decide) rfl rfl rfl (Nat.le_of_ble_eq_true rfl) rfl rfl ⟨Nat.le_of_ble_eq_true rfl, Nat.le_of_ble_eq_true rfl⟩ d_La_law_672 ⟨(show cn + 0 ≤ 601024 by omega), (show sn + 0 ≤ 7293033 by omega)⟩) (fun x65 M64 h => ?_)
        refine a_icmp_eq fx 1007 d_La_law_675 rfl (fun hc => ?_) (fun hc => ?_)
        · have h := h.1 hc
          obtain ⟨x66, ex66⟩ : ∃ z : Int32, z = v4 + 7 := ⟨_, rfl⟩
          have h := h x66 ex66
          refine a_iinc (lv2 := [(4, .int x66), (0, .ref b), (1, .ref (B + a1)), (2, .ref (B + a2)), (3, .ref (B + a3))]) fx 4 d_La_law_1007 rfl ex66.symm (by decide) rfl ?_
          refine a_goto fx 23 d_La_law_1010 rfl ?_
          refine a_sub [1, 2, 3, 4, 0] rfl ?_
          exact h
        · have h := h.2 hc
          refine a_iconst (v := 0) fx d_La_law_678 rfl ?_
          exact False.elim h
      have h := h.2
      by_cases hc9 : ((xs (v4).toNatClampNeg) &&& 15) = 9
      · have h := h.1 hc9
        refine a_tabI fx 680 d_La_law_40 (by rw [hc9]; decide) (by rw [hc9]; decide) (by rw [hc9]; rfl) rfl ?_
        refine a_aload_n fx 1 d_La_law_680 rfl rfl ?_
        refine a_calli (rest := []) (a_runV (As := []) fx cv_Mc_receive w_377 (Met_Mc_receive l B D aC aS (hk0 := hk1) (ht0 := ht1) h) hk1 ht1 (by decide) rfl rfl rfl (Nat.le_of_ble_eq_true rfl) rfl rfl ⟨Nat.le_of_ble_eq_true rfl, Nat.le_of_ble_eq_true rfl⟩ d_La_law_681 ⟨(show cn + 0 ≤ 601024 by omega), (show sn + 0 ≤ 7293033 by omega)⟩) (fun x68 M67 h => ?_)
        refine a_aload_n fx 2 d_La_law_684 rfl rfl ?_
        refine a_calli (rest := [.int x68]) (a_runV (As := []) fx cv_Mo_receive w_1649 (Met_Mo_receive l B D aC aS (hk0 := hk2) (ht0 := ht2) h) hk2 ht2 (by decide) rfl rfl rfl (Nat.le_of_ble_eq_true rfl) rfl rfl ⟨Nat.le_of_ble_eq_true rfl, Nat.le_of_ble_eq_true rfl⟩ d_La_law_685 ⟨(show cn + 0 ≤ 601024 by omega), (show sn + 0 ≤ 7293033 by omega)⟩) (fun x70 M69 h => ?_)
        refine a_icmp_eq fx 1007 d_La_law_688 rfl (fun hc => ?_) (fun hc => ?_)
        · have h := h.1 hc
          obtain ⟨x71, ex71⟩ : ∃ z : Int32, z = v4 + 7 := ⟨_, rfl⟩
          have h := h x71 ex71
          refine a_iinc (lv2 := [(4, .int x71), (0, .ref b), (1, .ref (B + a1)), (2, .ref (B + a2)), (3, .ref (B + a3))]) fx 4 d_La_law_1007 rfl ex71.symm (by decide) rfl ?_
          refine a_goto fx 23 d_La_law_1010 rfl ?_
          refine a_sub [1, 2, 3, 4, 0] rfl ?_
          exact h
        · have h := h.2 hc
          refine a_iconst (v := 0) fx d_La_law_691 rfl ?_
          exact False.elim h
      have h := h.2
      by_cases hc10 : ((xs (v4).toNatClampNeg) &&& 15) = 10
      · have h := h.1 hc10
        refine a_tabI fx 693 d_La_law_40 (by rw [hc10]; decide) (by rw [hc10]; decide) (by rw [hc10]; rfl) rfl ?_
        refine a_aload_n fx 1 d_La_law_693 rfl rfl ?_
        refine a_aload_n fx 0 d_La_law_694 rfl rfl ?_
        refine a_iload fx 4 d_La_law_695 rfl ?_
        refine a_iconst (v := 1) fx d_La_law_697 rfl ?_
        refine a_iadd fx d_La_law_698 ?_
        obtain ⟨hin, h⟩ := h
        refine a_sld fx hX hbl hbB hin d_La_law_699 ?_
        refine a_aload_n fx 0 d_La_law_700 rfl rfl ?_
        refine a_iload fx 4 d_La_law_701 rfl ?_
        refine a_iconst (v := 2) fx d_La_law_703 rfl ?_
        refine a_iadd fx d_La_law_704 ?_
        obtain ⟨hin, h⟩ := h
        refine a_sld fx hX hbl hbB hin d_La_law_705 ?_
        refine a_aload_n fx 0 d_La_law_706 rfl rfl ?_
        refine a_iload fx 4 d_La_law_707 rfl ?_
        refine a_iconst (v := 3) fx d_La_law_709 rfl ?_
        refine a_iadd fx d_La_law_710 ?_
        obtain ⟨hin, h⟩ := h
        refine a_sld fx hX hbl hbB hin d_La_law_711 ?_
        refine a_aload_n fx 3 d_La_law_712 rfl rfl ?_
        refine a_calli (rest := []) (a_runSW (As := [.ref (B + a1), .int (xs ((v4 + 1)).toNatClampNeg), .int (xs ((v4 + 2)).toNatClampNeg), .int (xs ((v4 + 3)).toNatClampNeg), .ref (B + a3)]) fx cv_La_pass w_1206 (Met_La_pass l B D aC aS hfl (hk0 := hk1) (ht0 := ht1) (hk4 := hk3) (ht4 := ht3) h) rfl rfl (Nat.le_of_ble_eq_true rfl) rfl rfl ⟨Nat.le_of_ble_eq_true rfl, Nat.le_of_ble_eq_true rfl⟩ d_La_law_713 ⟨(show cn + 1 ≤ 601024 by omega), (show sn + 6 ≤ 7293033 by omega)⟩) (fun x73 M72 h => ?_)
        refine a_istore (lv2 := [(5, .int x73), (0, .ref b), (1, .ref (B + a1)), (2, .ref (B + a2)), (3, .ref (B + a3)), (4, .int v4)]) fx d_La_law_716 (by decide) rfl ?_
        refine a_aload_n fx 3 d_La_law_718 rfl rfl ?_
        refine a_aload_n fx 1 d_La_law_719 rfl rfl ?_
        refine a_iload fx 5 d_La_law_720 rfl ?_
        refine a_iconst (v := 1) fx d_La_law_722 rfl ?_
        refine a_iadd fx d_La_law_723 ?_
        obtain ⟨hin, h⟩ := h
        refine a_sld fx hX hbl hbB hin d_La_law_724 ?_
        refine a_aload_n fx 1 d_La_law_725 rfl rfl ?_
        refine a_iload fx 5 d_La_law_726 rfl ?_
        refine a_iconst (v := 2) fx d_La_law_728 rfl ?_
        refine a_iadd fx d_La_law_729 ?_
        obtain ⟨hin, h⟩ := h
        refine a_sld fx hX hbl hbB hin d_La_law_730 ?_
        refine a_aload_n fx 1 d_La_law_731 rfl rfl ?_
        refine a_iload fx 5 d_La_law_732 rfl ?_
        refine a_iconst (v := 3) fx d_La_law_734 rfl ?_
        refine a_iadd fx d_La_law_735 ?_
        obtain ⟨hin, h⟩ := h
        refine a_sld fx hX hbl hbB hin d_La_law_736 ?_
        refine a_calli (rest := []) (a_runV (As := [.int (xs ((v4 + 1)).toNatClampNeg), .int (xs ((v4 + 2)).toNatClampNeg), .int (xs ((v4 + 3)).toNatClampNeg)]) fx cv_Mo_pass w_1673 (Met_Mo_pass l B D aC aS (hk0 := hk2) (ht0 := ht2) h) hk2 ht2 (by decide) rfl rfl rfl (Nat.le_of_ble_eq_true rfl) rfl rfl ⟨Nat.le_of_ble_eq_true rfl, Nat.le_of_ble_eq_true rfl⟩ d_La_law_737 ⟨(show (cn + 1) + 0 ≤ 601024 by omega), (show (sn + 6) + 0 ≤ 7293033 by omega)⟩) (fun x75 M74 h => ?_)
        refine a_istore (lv2 := [(6, .int x75), (5, .int x73), (0, .ref b), (1, .ref (B + a1)), (2, .ref (B + a2)), (3, .ref (B + a3)), (4, .int v4)]) fx d_La_law_740 (by decide) rfl ?_
        refine a_aload_n fx 4 d_La_law_742 rfl rfl ?_
        refine a_calli (rest := []) (a_runV (As := []) fx cv_Mo_thrown w_1457 (Met_Mo_thrown l B D aC aS (hk0 := hk2) (ht0 := ht2) h) hk2 ht2 (by decide) rfl rfl rfl (Nat.le_of_ble_eq_true rfl) rfl rfl ⟨Nat.le_of_ble_eq_true rfl, Nat.le_of_ble_eq_true rfl⟩ d_La_law_743 ⟨(show (cn + 1) + 0 ≤ 601024 by omega), (show (sn + 6) + 0 ≤ 7293033 by omega)⟩) (fun x77 M76 h => ?_)
        refine a_iload fx 1 d_La_law_746 rfl ?_
        refine a_icmp_eq fx 753 d_La_law_748 rfl (fun hc => ?_) (fun hc => ?_)
        · have h := h.1 hc
          refine a_iload fx 1 d_La_law_753 rfl ?_
          refine a_if_ne fx 770 d_La_law_755 rfl (fun hc => ?_) (fun hc => ?_)
          · have h := h.1 hc
            refine a_goto fx 1007 d_La_law_770 rfl ?_
            obtain ⟨x78, ex78⟩ : ∃ z : Int32, z = v4 + 7 := ⟨_, rfl⟩
            have h := h x78 ex78
            refine a_iinc (lv2 := [(4, .int x78), (6, .int x75), (5, .int x73), (0, .ref b), (1, .ref (B + a1)), (2, .ref (B + a2)), (3, .ref (B + a3))]) fx 6 d_La_law_1007 rfl ex78.symm (by decide) rfl ?_
            refine a_goto fx 23 d_La_law_1010 rfl ?_
            refine a_sub [3, 4, 5, 6, 0] rfl ?_
            exact h
          · have h := h.2 hc
            refine a_aload_n fx 5 d_La_law_758 rfl rfl ?_
            refine a_iconst (v := 0) fx d_La_law_759 rfl ?_
            obtain ⟨hin, h⟩ := h
            refine a_lald fx hk3 ht3 hin d_La_law_760 ?_
            refine a_iload fx 0 d_La_law_761 rfl ?_
            refine a_i2l fx d_La_law_763 ?_
            refine a_lcmp fx d_La_law_764 ?_
            refine a_if_eq fx 770 d_La_law_765 rfl (fun hc => ?_) (fun hc => ?_)
            · have h := h.1 hc
              refine a_goto fx 1007 d_La_law_770 rfl ?_
              obtain ⟨x79, ex79⟩ : ∃ z : Int32, z = v4 + 7 := ⟨_, rfl⟩
              have h := h x79 ex79
              refine a_iinc (lv2 := [(4, .int x79), (6, .int x75), (5, .int x73), (0, .ref b), (1, .ref (B + a1)), (2, .ref (B + a2)), (3, .ref (B + a3))]) fx 6 d_La_law_1007 rfl ex79.symm (by decide) rfl ?_
              refine a_goto fx 23 d_La_law_1010 rfl ?_
              refine a_sub [3, 4, 5, 6, 0] rfl ?_
              exact h
            · have h := h.2 hc
              refine a_iconst (v := 0) fx d_La_law_768 rfl ?_
              exact False.elim h
        · have h := h.2 hc
          refine a_iconst (v := 0) fx d_La_law_751 rfl ?_
          exact False.elim h
      have h := h.2
      by_cases hc11 : ((xs (v4).toNatClampNeg) &&& 15) = 11
      · have h := h.1 hc11
        refine a_tabI fx 773 d_La_law_40 (by rw [hc11]; decide) (by rw [hc11]; decide) (by rw [hc11]; rfl) rfl ?_
        refine a_aload_n fx 1 d_La_law_773 rfl rfl ?_
        refine a_aload_n fx 0 d_La_law_774 rfl rfl ?_
        refine a_iload fx 4 d_La_law_775 rfl ?_
        refine a_iconst (v := 1) fx d_La_law_777 rfl ?_
        refine a_iadd fx d_La_law_778 ?_
        obtain ⟨hin, h⟩ := h
        refine a_sld fx hX hbl hbB hin d_La_law_779 ?_
        refine a_aload_n fx 0 d_La_law_780 rfl rfl ?_
        refine a_iload fx 4 d_La_law_781 rfl ?_
        refine a_iconst (v := 2) fx d_La_law_783 rfl ?_
        refine a_iadd fx d_La_law_784 ?_
        obtain ⟨hin, h⟩ := h
        refine a_sld fx hX hbl hbB hin d_La_law_785 ?_
        refine a_calli (rest := []) (a_runSW (As := [.ref (B + a1), .int (xs ((v4 + 1)).toNatClampNeg), .int (xs ((v4 + 2)).toNatClampNeg)]) fx cv_La_forge w_1218 (Met_La_forge l B D aC aS hfl (hk0 := hk1) (ht0 := ht1) h) rfl rfl (Nat.le_of_ble_eq_true rfl) rfl rfl ⟨Nat.le_of_ble_eq_true rfl, Nat.le_of_ble_eq_true rfl⟩ d_La_law_786 ⟨(show cn + 1 ≤ 601024 by omega), (show sn + 6 ≤ 7293033 by omega)⟩) (fun x81 M80 h => ?_)
        refine a_istore (lv2 := [(5, .int x81), (0, .ref b), (1, .ref (B + a1)), (2, .ref (B + a2)), (3, .ref (B + a3)), (4, .int v4)]) fx d_La_law_789 (by decide) rfl ?_
        refine a_aload_n fx 3 d_La_law_791 rfl rfl ?_
        refine a_aload_n fx 1 d_La_law_792 rfl rfl ?_
        refine a_iload fx 5 d_La_law_793 rfl ?_
        refine a_iconst (v := 1) fx d_La_law_795 rfl ?_
        refine a_iadd fx d_La_law_796 ?_
        obtain ⟨hin, h⟩ := h
        refine a_sld fx hX hbl hbB hin d_La_law_797 ?_
        refine a_aload_n fx 1 d_La_law_798 rfl rfl ?_
        refine a_iload fx 5 d_La_law_799 rfl ?_
        refine a_iconst (v := 2) fx d_La_law_801 rfl ?_
        refine a_iadd fx d_La_law_802 ?_
        obtain ⟨hin, h⟩ := h
        refine a_sld fx hX hbl hbB hin d_La_law_803 ?_
        refine a_callv (rest := []) (a_runV (As := [.int (xs ((v4 + 1)).toNatClampNeg), .int (xs ((v4 + 2)).toNatClampNeg)]) fx cv_Mo_forge w_1677 (Met_Mo_forge l B D aC aS (hk0 := hk2) (ht0 := ht2) h) hk2 ht2 (by decide) rfl rfl rfl (Nat.le_of_ble_eq_true rfl) rfl rfl ⟨Nat.le_of_ble_eq_true rfl, Nat.le_of_ble_eq_true rfl⟩ d_La_law_804 ⟨(show (cn + 1) + 0 ≤ 601024 by omega), (show (sn + 6) + 0 ≤ 7293033 by omega)⟩) (fun M82 h => ?_)
        refine a_aload_n fx 3 d_La_law_807 rfl rfl ?_
        refine a_calli (rest := []) (a_runV (As := []) fx cv_Mo_thrown w_1457 (Met_Mo_thrown l B D aC aS (hk0 := hk2) (ht0 := ht2) h) hk2 ht2 (by decide) rfl rfl rfl (Nat.le_of_ble_eq_true rfl) rfl rfl ⟨Nat.le_of_ble_eq_true rfl, Nat.le_of_ble_eq_true rfl⟩ d_La_law_808 ⟨(show (cn + 1) + 0 ≤ 601024 by omega), (show (sn + 6) + 0 ≤ 7293033 by omega)⟩) (fun x84 M83 h => ?_)
        refine a_iload fx 0 d_La_law_811 rfl ?_
        refine a_icmp_eq fx 818 d_La_law_813 rfl (fun hc => ?_) (fun hc => ?_)
        · have h := h.1 hc
          refine a_goto fx 1007 d_La_law_818 rfl ?_
          obtain ⟨x85, ex85⟩ : ∃ z : Int32, z = v4 + 7 := ⟨_, rfl⟩
          have h := h x85 ex85
          refine a_iinc (lv2 := [(4, .int x85), (5, .int x81), (0, .ref b), (1, .ref (B + a1)), (2, .ref (B + a2)), (3, .ref (B + a3))]) fx 5 d_La_law_1007 rfl ex85.symm (by decide) rfl ?_
          refine a_goto fx 23 d_La_law_1010 rfl ?_
          refine a_sub [2, 3, 4, 5, 0] rfl ?_
          exact h
        · have h := h.2 hc
          refine a_iconst (v := 0) fx d_La_law_816 rfl ?_
          exact False.elim h
      have h := h.2
      by_cases hc12 : ((xs (v4).toNatClampNeg) &&& 15) = 12
      · have h := h.1 hc12
        refine a_tabI fx 821 d_La_law_40 (by rw [hc12]; decide) (by rw [hc12]; decide) (by rw [hc12]; rfl) rfl ?_
        refine a_aload_n fx 1 d_La_law_821 rfl rfl ?_
        refine a_calli (rest := []) (a_runV (As := []) fx cv_Mc_empty w_477 (Met_Mc_empty l B D aC aS (hk0 := hk1) (ht0 := ht1) h) hk1 ht1 (by decide) rfl rfl rfl (Nat.le_of_ble_eq_true rfl) rfl rfl ⟨Nat.le_of_ble_eq_true rfl, Nat.le_of_ble_eq_true rfl⟩ d_La_law_822 ⟨(show cn + 0 ≤ 601024 by omega), (show sn + 0 ≤ 7293033 by omega)⟩) (fun x87 M86 h => ?_)
        refine a_aload_n fx 2 d_La_law_825 rfl rfl ?_
        refine a_calli (rest := [.int x87]) (a_runV (As := []) fx cv_Mo_empty w_1685 (Met_Mo_empty l B D aC aS (hk0 := hk2) (ht0 := ht2) h) hk2 ht2 (by decide) rfl rfl rfl (Nat.le_of_ble_eq_true rfl) rfl rfl ⟨Nat.le_of_ble_eq_true rfl, Nat.le_of_ble_eq_true rfl⟩ d_La_law_826 ⟨(show cn + 0 ≤ 601024 by omega), (show sn + 0 ≤ 7293033 by omega)⟩) (fun x89 M88 h => ?_)
        refine a_icmp_eq fx 1007 d_La_law_829 rfl (fun hc => ?_) (fun hc => ?_)
        · have h := h.1 hc
          obtain ⟨x90, ex90⟩ : ∃ z : Int32, z = v4 + 7 := ⟨_, rfl⟩
          have h := h x90 ex90
          refine a_iinc (lv2 := [(4, .int x90), (0, .ref b), (1, .ref (B + a1)), (2, .ref (B + a2)), (3, .ref (B + a3))]) fx 4 d_La_law_1007 rfl ex90.symm (by decide) rfl ?_
          refine a_goto fx 23 d_La_law_1010 rfl ?_
          refine a_sub [1, 2, 3, 4, 0] rfl ?_
          exact h
        · have h := h.2 hc
          refine a_iconst (v := 0) fx d_La_law_832 rfl ?_
          exact False.elim h
      have h := h.2
      by_cases hc13 : ((xs (v4).toNatClampNeg) &&& 15) = 13
      · have h := h.1 hc13
        refine a_tabI fx 834 d_La_law_40 (by rw [hc13]; decide) (by rw [hc13]; decide) (by rw [hc13]; rfl) rfl ?_
        refine a_aload_n fx 1 d_La_law_834 rfl rfl ?_
        refine a_calli (rest := []) (a_runV (As := []) fx cv_Mc_unpack w_486 (Met_Mc_unpack l B D aC aS (hk0 := hk1) (ht0 := ht1) h) hk1 ht1 (by decide) rfl rfl rfl (Nat.le_of_ble_eq_true rfl) rfl rfl ⟨Nat.le_of_ble_eq_true rfl, Nat.le_of_ble_eq_true rfl⟩ d_La_law_835 ⟨(show cn + 0 ≤ 601024 by omega), (show sn + 0 ≤ 7293033 by omega)⟩) (fun x92 M91 h => ?_)
        refine a_aload_n fx 2 d_La_law_838 rfl rfl ?_
        refine a_calli (rest := [.int x92]) (a_runV (As := []) fx cv_Mo_unpack w_1689 (Met_Mo_unpack l B D aC aS (hk0 := hk2) (ht0 := ht2) h) hk2 ht2 (by decide) rfl rfl rfl (Nat.le_of_ble_eq_true rfl) rfl rfl ⟨Nat.le_of_ble_eq_true rfl, Nat.le_of_ble_eq_true rfl⟩ d_La_law_839 ⟨(show cn + 0 ≤ 601024 by omega), (show sn + 0 ≤ 7293033 by omega)⟩) (fun x94 M93 h => ?_)
        refine a_icmp_eq fx 1007 d_La_law_842 rfl (fun hc => ?_) (fun hc => ?_)
        · have h := h.1 hc
          obtain ⟨x95, ex95⟩ : ∃ z : Int32, z = v4 + 7 := ⟨_, rfl⟩
          have h := h x95 ex95
          refine a_iinc (lv2 := [(4, .int x95), (0, .ref b), (1, .ref (B + a1)), (2, .ref (B + a2)), (3, .ref (B + a3))]) fx 4 d_La_law_1007 rfl ex95.symm (by decide) rfl ?_
          refine a_goto fx 23 d_La_law_1010 rfl ?_
          refine a_sub [1, 2, 3, 4, 0] rfl ?_
          exact h
        · have h := h.2 hc
          refine a_iconst (v := 0) fx d_La_law_845 rfl ?_
          exact False.elim h
      have h := h.2
      by_cases hc14 : ((xs (v4).toNatClampNeg) &&& 15) = 14
      · have h := h.1 hc14
        refine a_tabI fx 847 d_La_law_40 (by rw [hc14]; decide) (by rw [hc14]; decide) (by rw [hc14]; rfl) rfl ?_
        refine a_aload_n fx 1 d_La_law_847 rfl rfl ?_
        refine a_aload_n fx 0 d_La_law_848 rfl rfl ?_
        refine a_iload fx 4 d_La_law_849 rfl ?_
        refine a_iconst (v := 1) fx d_La_law_851 rfl ?_
        refine a_iadd fx d_La_law_852 ?_
        obtain ⟨hin, h⟩ := h
        refine a_sld fx hX hbl hbB hin d_La_law_853 ?_
        refine a_aload_n fx 0 d_La_law_854 rfl rfl ?_
        refine a_iload fx 4 d_La_law_855 rfl ?_
        refine a_iconst (v := 2) fx d_La_law_857 rfl ?_
        refine a_iadd fx d_La_law_858 ?_
        obtain ⟨hin, h⟩ := h
        refine a_sld fx hX hbl hbB hin d_La_law_859 ?_
        refine a_aload_n fx 0 d_La_law_860 rfl rfl ?_
        refine a_iload fx 4 d_La_law_861 rfl ?_
        refine a_iconst (v := 3) fx d_La_law_863 rfl ?_
        refine a_iadd fx d_La_law_864 ?_
        obtain ⟨hin, h⟩ := h
        refine a_sld fx hX hbl hbB hin d_La_law_865 ?_
        refine a_aload_n fx 3 d_La_law_866 rfl rfl ?_
        refine a_calli (rest := []) (a_runSW (As := [.ref (B + a1), .int (xs ((v4 + 1)).toNatClampNeg), .int (xs ((v4 + 2)).toNatClampNeg), .int (xs ((v4 + 3)).toNatClampNeg), .ref (B + a3)]) fx cv_La_about w_1230 (Met_La_about l B D aC aS hfl (hk0 := hk1) (ht0 := ht1) (hk4 := hk3) (ht4 := ht3) h) rfl rfl (Nat.le_of_ble_eq_true rfl) rfl rfl ⟨Nat.le_of_ble_eq_true rfl, Nat.le_of_ble_eq_true rfl⟩ d_La_law_867 ⟨(show cn + 1 ≤ 601024 by omega), (show sn + 6 ≤ 7293033 by omega)⟩) (fun x97 M96 h => ?_)
        refine a_istore (lv2 := [(5, .int x97), (0, .ref b), (1, .ref (B + a1)), (2, .ref (B + a2)), (3, .ref (B + a3)), (4, .int v4)]) fx d_La_law_870 (by decide) rfl ?_
        refine a_aload_n fx 3 d_La_law_872 rfl rfl ?_
        refine a_aload_n fx 1 d_La_law_873 rfl rfl ?_
        refine a_iload fx 5 d_La_law_874 rfl ?_
        refine a_iconst (v := 1) fx d_La_law_876 rfl ?_
        refine a_iadd fx d_La_law_877 ?_
        obtain ⟨hin, h⟩ := h
        refine a_sld fx hX hbl hbB hin d_La_law_878 ?_
        refine a_aload_n fx 1 d_La_law_879 rfl rfl ?_
        refine a_iload fx 5 d_La_law_880 rfl ?_
        refine a_iconst (v := 2) fx d_La_law_882 rfl ?_
        refine a_iadd fx d_La_law_883 ?_
        obtain ⟨hin, h⟩ := h
        refine a_sld fx hX hbl hbB hin d_La_law_884 ?_
        refine a_aload_n fx 1 d_La_law_885 rfl rfl ?_
        refine a_iload fx 5 d_La_law_886 rfl ?_
        refine a_iconst (v := 3) fx d_La_law_888 rfl ?_
        refine a_iadd fx d_La_law_889 ?_
        obtain ⟨hin, h⟩ := h
        refine a_sld fx hX hbl hbB hin d_La_law_890 ?_
        refine a_calli (rest := []) (a_runV (As := [.int (xs ((v4 + 1)).toNatClampNeg), .int (xs ((v4 + 2)).toNatClampNeg), .int (xs ((v4 + 3)).toNatClampNeg)]) fx cv_Mo_about w_1738 (Met_Mo_about l B D aC aS (hk0 := hk2) (ht0 := ht2) h) hk2 ht2 (by decide) rfl rfl rfl (Nat.le_of_ble_eq_true rfl) rfl rfl ⟨Nat.le_of_ble_eq_true rfl, Nat.le_of_ble_eq_true rfl⟩ d_La_law_891 ⟨(show (cn + 1) + 0 ≤ 601024 by omega), (show (sn + 6) + 0 ≤ 7293033 by omega)⟩) (fun x99 M98 h => ?_)
        refine a_istore (lv2 := [(6, .int x99), (5, .int x97), (0, .ref b), (1, .ref (B + a1)), (2, .ref (B + a2)), (3, .ref (B + a3)), (4, .int v4)]) fx d_La_law_894 (by decide) rfl ?_
        refine a_aload_n fx 4 d_La_law_896 rfl rfl ?_
        refine a_calli (rest := []) (a_runV (As := []) fx cv_Mo_thrown w_1457 (Met_Mo_thrown l B D aC aS (hk0 := hk2) (ht0 := ht2) h) hk2 ht2 (by decide) rfl rfl rfl (Nat.le_of_ble_eq_true rfl) rfl rfl ⟨Nat.le_of_ble_eq_true rfl, Nat.le_of_ble_eq_true rfl⟩ d_La_law_897 ⟨(show (cn + 1) + 0 ≤ 601024 by omega), (show (sn + 6) + 0 ≤ 7293033 by omega)⟩) (fun x101 M100 h => ?_)
        refine a_iload fx 1 d_La_law_900 rfl ?_
        refine a_icmp_eq fx 907 d_La_law_902 rfl (fun hc => ?_) (fun hc => ?_)
        · have h := h.1 hc
          refine a_iload fx 1 d_La_law_907 rfl ?_
          refine a_if_ne fx 924 d_La_law_909 rfl (fun hc => ?_) (fun hc => ?_)
          · have h := h.1 hc
            refine a_goto fx 1007 d_La_law_924 rfl ?_
            obtain ⟨x102, ex102⟩ : ∃ z : Int32, z = v4 + 7 := ⟨_, rfl⟩
            have h := h x102 ex102
            refine a_iinc (lv2 := [(4, .int x102), (6, .int x99), (5, .int x97), (0, .ref b), (1, .ref (B + a1)), (2, .ref (B + a2)), (3, .ref (B + a3))]) fx 6 d_La_law_1007 rfl ex102.symm (by decide) rfl ?_
            refine a_goto fx 23 d_La_law_1010 rfl ?_
            refine a_sub [3, 4, 5, 6, 0] rfl ?_
            exact h
          · have h := h.2 hc
            refine a_aload_n fx 5 d_La_law_912 rfl rfl ?_
            refine a_iconst (v := 0) fx d_La_law_913 rfl ?_
            obtain ⟨hin, h⟩ := h
            refine a_lald fx hk3 ht3 hin d_La_law_914 ?_
            refine a_iload fx 0 d_La_law_915 rfl ?_
            refine a_i2l fx d_La_law_917 ?_
            refine a_lcmp fx d_La_law_918 ?_
            refine a_if_eq fx 924 d_La_law_919 rfl (fun hc => ?_) (fun hc => ?_)
            · have h := h.1 hc
              refine a_goto fx 1007 d_La_law_924 rfl ?_
              obtain ⟨x103, ex103⟩ : ∃ z : Int32, z = v4 + 7 := ⟨_, rfl⟩
              have h := h x103 ex103
              refine a_iinc (lv2 := [(4, .int x103), (6, .int x99), (5, .int x97), (0, .ref b), (1, .ref (B + a1)), (2, .ref (B + a2)), (3, .ref (B + a3))]) fx 6 d_La_law_1007 rfl ex103.symm (by decide) rfl ?_
              refine a_goto fx 23 d_La_law_1010 rfl ?_
              refine a_sub [3, 4, 5, 6, 0] rfl ?_
              exact h
            · have h := h.2 hc
              refine a_iconst (v := 0) fx d_La_law_922 rfl ?_
              exact False.elim h
        · have h := h.2 hc
          refine a_iconst (v := 0) fx d_La_law_905 rfl ?_
          exact False.elim h
      have h := h.2
      by_cases hc15 : ((xs (v4).toNatClampNeg) &&& 15) = 15
      · have h := h.1 hc15
        refine a_tabI fx 927 d_La_law_40 (by rw [hc15]; decide) (by rw [hc15]; decide) (by rw [hc15]; rfl) rfl ?_
        refine a_aload_n fx 1 d_La_law_927 rfl rfl ?_
        refine a_aload_n fx 0 d_La_law_928 rfl rfl ?_
        refine a_iload fx 4 d_La_law_929 rfl ?_
        refine a_iconst (v := 1) fx d_La_law_931 rfl ?_
        refine a_iadd fx d_La_law_932 ?_
        obtain ⟨hin, h⟩ := h
        refine a_sld fx hX hbl hbB hin d_La_law_933 ?_
        refine a_aload_n fx 0 d_La_law_934 rfl rfl ?_
        refine a_iload fx 4 d_La_law_935 rfl ?_
        refine a_iconst (v := 2) fx d_La_law_937 rfl ?_
        refine a_iadd fx d_La_law_938 ?_
        obtain ⟨hin, h⟩ := h
        refine a_sld fx hX hbl hbB hin d_La_law_939 ?_
        refine a_aload_n fx 0 d_La_law_940 rfl rfl ?_
        refine a_iload fx 4 d_La_law_941 rfl ?_
        refine a_iconst (v := 3) fx d_La_law_943 rfl ?_
        refine a_iadd fx d_La_law_944 ?_
        obtain ⟨hin, h⟩ := h
        refine a_sld fx hX hbl hbB hin d_La_law_945 ?_
        refine a_aload_n fx 3 d_La_law_946 rfl rfl ?_
        refine a_calli (rest := []) (a_runSW (As := [.ref (B + a1), .int (xs ((v4 + 1)).toNatClampNeg), .int (xs ((v4 + 2)).toNatClampNeg), .int (xs ((v4 + 3)).toNatClampNeg), .ref (B + a3)]) fx cv_La_byteOf w_1243 (Met_La_byteOf l B D aC aS hfl (hk0 := hk1) (ht0 := ht1) (hk4 := hk3) (ht4 := ht3) h) rfl rfl (Nat.le_of_ble_eq_true rfl) rfl rfl ⟨Nat.le_of_ble_eq_true rfl, Nat.le_of_ble_eq_true rfl⟩ d_La_law_947 ⟨(show cn + 1 ≤ 601024 by omega), (show sn + 6 ≤ 7293033 by omega)⟩) (fun x105 M104 h => ?_)
        refine a_istore (lv2 := [(5, .int x105), (0, .ref b), (1, .ref (B + a1)), (2, .ref (B + a2)), (3, .ref (B + a3)), (4, .int v4)]) fx d_La_law_950 (by decide) rfl ?_
        refine a_aload_n fx 3 d_La_law_952 rfl rfl ?_
        refine a_aload_n fx 1 d_La_law_953 rfl rfl ?_
        refine a_iload fx 5 d_La_law_954 rfl ?_
        refine a_iconst (v := 1) fx d_La_law_956 rfl ?_
        refine a_iadd fx d_La_law_957 ?_
        obtain ⟨hin, h⟩ := h
        refine a_sld fx hX hbl hbB hin d_La_law_958 ?_
        refine a_aload_n fx 1 d_La_law_959 rfl rfl ?_
        refine a_iload fx 5 d_La_law_960 rfl ?_
        refine a_iconst (v := 2) fx d_La_law_962 rfl ?_
        refine a_iadd fx d_La_law_963 ?_
        obtain ⟨hin, h⟩ := h
        refine a_sld fx hX hbl hbB hin d_La_law_964 ?_
        refine a_aload_n fx 1 d_La_law_965 rfl rfl ?_
        refine a_iload fx 5 d_La_law_966 rfl ?_
        refine a_iconst (v := 3) fx d_La_law_968 rfl ?_
        refine a_iadd fx d_La_law_969 ?_
        obtain ⟨hin, h⟩ := h
        refine a_sld fx hX hbl hbB hin d_La_law_970 ?_
        refine a_calli (rest := []) (a_runV (As := [.int (xs ((v4 + 1)).toNatClampNeg), .int (xs ((v4 + 2)).toNatClampNeg), .int (xs ((v4 + 3)).toNatClampNeg)]) fx cv_Mo_byteOf w_1742 (Met_Mo_byteOf l B D aC aS (hk0 := hk2) (ht0 := ht2) h) hk2 ht2 (by decide) rfl rfl rfl (Nat.le_of_ble_eq_true rfl) rfl rfl ⟨Nat.le_of_ble_eq_true rfl, Nat.le_of_ble_eq_true rfl⟩ d_La_law_971 ⟨(show (cn + 1) + 0 ≤ 601024 by omega), (show (sn + 6) + 0 ≤ 7293033 by omega)⟩) (fun x107 M106 h => ?_)
        refine a_istore (lv2 := [(6, .int x107), (5, .int x105), (0, .ref b), (1, .ref (B + a1)), (2, .ref (B + a2)), (3, .ref (B + a3)), (4, .int v4)]) fx d_La_law_974 (by decide) rfl ?_
        refine a_aload_n fx 4 d_La_law_976 rfl rfl ?_
        refine a_calli (rest := []) (a_runV (As := []) fx cv_Mo_thrown w_1457 (Met_Mo_thrown l B D aC aS (hk0 := hk2) (ht0 := ht2) h) hk2 ht2 (by decide) rfl rfl rfl (Nat.le_of_ble_eq_true rfl) rfl rfl ⟨Nat.le_of_ble_eq_true rfl, Nat.le_of_ble_eq_true rfl⟩ d_La_law_977 ⟨(show (cn + 1) + 0 ≤ 601024 by omega), (show (sn + 6) + 0 ≤ 7293033 by omega)⟩) (fun x109 M108 h => ?_)
        refine a_iload fx 1 d_La_law_980 rfl ?_
        refine a_icmp_eq fx 987 d_La_law_982 rfl (fun hc => ?_) (fun hc => ?_)
        · have h := h.1 hc
          refine a_iload fx 1 d_La_law_987 rfl ?_
          refine a_if_ne fx 1004 d_La_law_989 rfl (fun hc => ?_) (fun hc => ?_)
          · have h := h.1 hc
            refine a_goto fx 1007 d_La_law_1004 rfl ?_
            obtain ⟨x110, ex110⟩ : ∃ z : Int32, z = v4 + 7 := ⟨_, rfl⟩
            have h := h x110 ex110
            refine a_iinc (lv2 := [(4, .int x110), (6, .int x107), (5, .int x105), (0, .ref b), (1, .ref (B + a1)), (2, .ref (B + a2)), (3, .ref (B + a3))]) fx 6 d_La_law_1007 rfl ex110.symm (by decide) rfl ?_
            refine a_goto fx 23 d_La_law_1010 rfl ?_
            refine a_sub [3, 4, 5, 6, 0] rfl ?_
            exact h
          · have h := h.2 hc
            refine a_aload_n fx 5 d_La_law_992 rfl rfl ?_
            refine a_iconst (v := 0) fx d_La_law_993 rfl ?_
            obtain ⟨hin, h⟩ := h
            refine a_lald fx hk3 ht3 hin d_La_law_994 ?_
            refine a_iload fx 0 d_La_law_995 rfl ?_
            refine a_i2l fx d_La_law_997 ?_
            refine a_lcmp fx d_La_law_998 ?_
            refine a_if_eq fx 1004 d_La_law_999 rfl (fun hc => ?_) (fun hc => ?_)
            · have h := h.1 hc
              refine a_goto fx 1007 d_La_law_1004 rfl ?_
              obtain ⟨x111, ex111⟩ : ∃ z : Int32, z = v4 + 7 := ⟨_, rfl⟩
              have h := h x111 ex111
              refine a_iinc (lv2 := [(4, .int x111), (6, .int x107), (5, .int x105), (0, .ref b), (1, .ref (B + a1)), (2, .ref (B + a2)), (3, .ref (B + a3))]) fx 6 d_La_law_1007 rfl ex111.symm (by decide) rfl ?_
              refine a_goto fx 23 d_La_law_1010 rfl ?_
              refine a_sub [3, 4, 5, 6, 0] rfl ?_
              exact h
            · have h := h.2 hc
              refine a_iconst (v := 0) fx d_La_law_1002 rfl ?_
              exact False.elim h
        · have h := h.2 hc
          refine a_iconst (v := 0) fx d_La_law_985 rfl ?_
          exact False.elim h
      have h := h.2
      refine a_tabO fx 1007 d_La_law_40 (by have e0 : ¬ (((xs (v4).toNatClampNeg) &&& 15)).toInt = 0 := fun e => hc0 (Int32.toInt_inj.mp (e.trans (by decide : (0 : Int) = (0 : Int32).toInt))); have e1 : ¬ (((xs (v4).toNatClampNeg) &&& 15)).toInt = 1 := fun e => hc1 (Int32.toInt_inj.mp (e.trans (by decide : (1 : Int) = (1 : Int32).toInt))); have e2 : ¬ (((xs (v4).toNatClampNeg) &&& 15)).toInt = 2 := fun e => hc2 (Int32.toInt_inj.mp (e.trans (by decide : (2 : Int) = (2 : Int32).toInt))); have e3 : ¬ (((xs (v4).toNatClampNeg) &&& 15)).toInt = 3 := fun e => hc3 (Int32.toInt_inj.mp (e.trans (by decide : (3 : Int) = (3 : Int32).toInt))); have e4 : ¬ (((xs (v4).toNatClampNeg) &&& 15)).toInt = 4 := fun e => hc4 (Int32.toInt_inj.mp (e.trans (by decide : (4 : Int) = (4 : Int32).toInt))); have e5 : ¬ (((xs (v4).toNatClampNeg) &&& 15)).toInt = 5 := fun e => hc5 (Int32.toInt_inj.mp (e.trans (by decide : (5 : Int) = (5 : Int32).toInt))); have e6 : ¬ (((xs (v4).toNatClampNeg) &&& 15)).toInt = 6 := fun e => hc6 (Int32.toInt_inj.mp (e.trans (by decide : (6 : Int) = (6 : Int32).toInt))); have e7 : ¬ (((xs (v4).toNatClampNeg) &&& 15)).toInt = 7 := fun e => hc7 (Int32.toInt_inj.mp (e.trans (by decide : (7 : Int) = (7 : Int32).toInt))); have e8 : ¬ (((xs (v4).toNatClampNeg) &&& 15)).toInt = 8 := fun e => hc8 (Int32.toInt_inj.mp (e.trans (by decide : (8 : Int) = (8 : Int32).toInt))); have e9 : ¬ (((xs (v4).toNatClampNeg) &&& 15)).toInt = 9 := fun e => hc9 (Int32.toInt_inj.mp (e.trans (by decide : (9 : Int) = (9 : Int32).toInt))); have e10 : ¬ (((xs (v4).toNatClampNeg) &&& 15)).toInt = 10 := fun e => hc10 (Int32.toInt_inj.mp (e.trans (by decide : (10 : Int) = (10 : Int32).toInt))); have e11 : ¬ (((xs (v4).toNatClampNeg) &&& 15)).toInt = 11 := fun e => hc11 (Int32.toInt_inj.mp (e.trans (by decide : (11 : Int) = (11 : Int32).toInt))); have e12 : ¬ (((xs (v4).toNatClampNeg) &&& 15)).toInt = 12 := fun e => hc12 (Int32.toInt_inj.mp (e.trans (by decide : (12 : Int) = (12 : Int32).toInt))); have e13 : ¬ (((xs (v4).toNatClampNeg) &&& 15)).toInt = 13 := fun e => hc13 (Int32.toInt_inj.mp (e.trans (by decide : (13 : Int) = (13 : Int32).toInt))); have e14 : ¬ (((xs (v4).toNatClampNeg) &&& 15)).toInt = 14 := fun e => hc14 (Int32.toInt_inj.mp (e.trans (by decide : (14 : Int) = (14 : Int32).toInt))); have e15 : ¬ (((xs (v4).toNatClampNeg) &&& 15)).toInt = 15 := fun e => hc15 (Int32.toInt_inj.mp (e.trans (by decide : (15 : Int) = (15 : Int32).toInt))); omega) rfl ?_
      have h := h hc0 hc1 hc2 hc3 hc4 hc5 hc6 hc7 hc8 hc9 hc10 hc11 hc12 hc13 hc14 hc15
      obtain ⟨x112, ex112⟩ : ∃ z : Int32, z = v4 + 7 := ⟨_, rfl⟩
      have h := h x112 ex112
      refine a_iinc (lv2 := [(4, .int x112), (0, .ref b), (1, .ref (B + a1)), (2, .ref (B + a2)), (3, .ref (B + a3))]) fx 4 d_La_law_1007 rfl ex112.symm (by decide) rfl ?_
      refine a_goto fx 23 d_La_law_1010 rfl ?_
      refine a_sub [1, 2, 3, 4, 0] rfl ?_
      exact h)
  refine a_iconst (v := 0) fx d_La_law_20 rfl ?_
  refine a_istore (lv2 := [(4, .int 0), (0, .ref b), (1, .ref (B + a1)), (2, .ref (B + a2)), (3, .ref (B + a3))]) fx d_La_law_21 (by decide) rfl ?_
  refine a_sub [1, 2, 3, 4, 0] rfl ?_
  exact h
