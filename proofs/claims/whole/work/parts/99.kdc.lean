-- the law: bytes of its loop and entry, by wip/whole/gen106.py
theorem dl_0 : decode code 0 = .ok (.new 7, 3) := by decide +kernel
theorem dl_3 : decode code 3 = .ok (.dup, 1) := by decide +kernel
theorem dl_4 : decode code 4 = .ok (.invokespecial 9, 3) := by decide +kernel
theorem dl_7 : decode code 7 = .ok (.astore_n 1, 1) := by decide +kernel
theorem dl_8 : decode code 8 = .ok (.new 10, 3) := by decide +kernel
theorem dl_11 : decode code 11 = .ok (.dup, 1) := by decide +kernel
theorem dl_12 : decode code 12 = .ok (.invokespecial 12, 3) := by decide +kernel
theorem dl_15 : decode code 15 = .ok (.astore_n 2, 1) := by decide +kernel
theorem dl_16 : decode code 16 = .ok (.iconst 0, 1) := by decide +kernel
theorem dl_17 : decode code 17 = .ok (.istore_n 3, 1) := by decide +kernel
theorem dl_18 : decode code 18 = .ok (.iload_n 3, 1) := by decide +kernel
theorem dl_19 : decode code 19 = .ok (.aload_n 0, 1) := by decide +kernel
theorem dl_20 : decode code 20 = .ok (.arraylength, 1) := by decide +kernel
theorem dl_21 : decode code 21 = .ok (.bipush 6, 2) := by decide +kernel
theorem dl_23 : decode code 23 = .ok (.isub, 1) := by decide +kernel
theorem dl_24 : decode code 24 = .ok (.if_icmp .gt 1692, 3) := by decide +kernel
theorem dl_27 : decode code 27 = .ok (.aload_n 0, 1) := by decide +kernel
theorem dl_28 : decode code 28 = .ok (.iload_n 3, 1) := by decide +kernel
theorem dl_29 : decode code 29 = .ok (.iaload, 1) := by decide +kernel
theorem dl_30 : decode code 30 = .ok (.bipush 63, 2) := by decide +kernel
theorem dl_32 : decode code 32 = .ok (.iand, 1) := by decide +kernel
theorem dl_33 : decode code 33 = .ok (.tableswitch 1677 0 42 #[187, 210, 233, 276, 309, 342, 375, 418, 451, 484, 517, 550, 583, 626, 659, 692, 735, 768, 821, 864, 897, 950, 973, 996, 1029, 1062, 1095, 1128, 1171, 1184, 1207, 1230, 1263, 1286, 1329, 1352, 1385, 1428, 1501, 1535, 1598, 1631, 1654], 187) := by decide +kernel
theorem dl_1710 : decode code 1710 = .ok (.iinc 3 6, 3) := by decide +kernel
theorem dl_1713 : decode code 1713 = .ok (.goto (-1695), 3) := by decide +kernel
theorem dl_1716 : decode code 1716 = .ok (.iconst 1, 1) := by decide +kernel
theorem dl_1717 : decode code 1717 = .ok (.ireturn, 1) := by decide +kernel
def lofs : Array Int := #[187, 210, 233, 276, 309, 342, 375, 418, 451, 484, 517, 550, 583, 626, 659, 692, 735, 768, 821, 864, 897, 950, 973, 996, 1029, 1062, 1095, 1128, 1171, 1184, 1207, 1230, 1263, 1286, 1329, 1352, 1385, 1428, 1501, 1535, 1598, 1631, 1654]
theorem lof_all : (List.range 43).all (fun j => decide (lofs[j]? = some (((lci j).1 : Int) - 33))) = true := by decide +kernel
theorem lof {j : Nat} (h : j < 43) : lofs[j]? = some (((lci j).1 : Int) - 33) := of_decide_eq_true (List.all_eq_true.mp lof_all j (List.mem_range.mpr h))
