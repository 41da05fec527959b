-- the constructor of PostTurns$Moves, by wip/whole/gen101.py
theorem zck (k : Nat) (h : k ∈ [0, 3, 17, 23, 26, 35, 38, 41, 44, 45, 46, 49, 51]) : zchk k = true := List.all_eq_true.mp zchk_all k h
theorem zw_1_3 : Cond.initialized (cn 6) ∈ lw_tbl := lw_at_mem (j := 1) (k := 3) rfl
theorem zw_1_40 : Cond.methodLink (cn 4) 3 objectInit ∈ lw_tbl := lw_at_mem (j := 1) (k := 40) rfl
theorem zw_1_41 : Cond.classLink (cn 4) 9 (cn 6) ∈ lw_tbl := lw_at_mem (j := 1) (k := 41) rfl
theorem zw_1_42 : Cond.arrayOver (.object (cn 6)) ∈ lw_tbl := lw_at_mem (j := 1) (k := 42) rfl
theorem zw_1_43 : Cond.instantiable (cn 6) (vN 6) ∈ lw_tbl := lw_at_mem (j := 1) (k := 43) rfl
theorem zw_1_44 : Cond.methodLinkNest (cn 4) 59 yX6_init "PostTurns" ∈ lw_tbl := lw_at_mem (j := 1) (k := 44) rfl
theorem zw_1_45 : Cond.instanceMethod yX6_init ∈ lw_tbl := lw_at_mem (j := 1) (k := 45) rfl
theorem zw_1_46 : Cond.code yX6_init cX6_init 1 none ∈ lw_tbl := lw_at_mem (j := 1) (k := 46) rfl
theorem dz4_0 : decode cX4_init 0 = .ok (.aload_n 0, 1) := by decide +kernel
theorem dz4_1 : decode cX4_init 1 = .ok (.invokespecial 3, 3) := by decide +kernel
theorem dz4_4 : decode cX4_init 4 = .ok (.aload_n 0, 1) := by decide +kernel
theorem dz4_5 : decode cX4_init 5 = .ok (.bipush 40, 2) := by decide +kernel
theorem dz4_7 : decode cX4_init 7 = .ok (.anewarray 9, 3) := by decide +kernel
theorem dz4_10 : decode cX4_init 10 = .ok (.putfield 11, 3) := by decide +kernel
theorem dz4_13 : decode cX4_init 13 = .ok (.aload_n 0, 1) := by decide +kernel
theorem dz4_14 : decode cX4_init 14 = .ok (.bipush 40, 2) := by decide +kernel
theorem dz4_16 : decode cX4_init 16 = .ok (.newarray .int, 2) := by decide +kernel
theorem dz4_18 : decode cX4_init 18 = .ok (.putfield 17, 3) := by decide +kernel
theorem dz4_21 : decode cX4_init 21 = .ok (.aload_n 0, 1) := by decide +kernel
theorem dz4_22 : decode cX4_init 22 = .ok (.iconst 0, 1) := by decide +kernel
theorem dz4_23 : decode cX4_init 23 = .ok (.putfield 21, 3) := by decide +kernel
theorem dz4_26 : decode cX4_init 26 = .ok (.aload_n 0, 1) := by decide +kernel
theorem dz4_27 : decode cX4_init 27 = .ok (.bipush 40, 2) := by decide +kernel
theorem dz4_29 : decode cX4_init 29 = .ok (.newarray .int, 2) := by decide +kernel
theorem dz4_31 : decode cX4_init 31 = .ok (.putfield 25, 3) := by decide +kernel
theorem dz4_34 : decode cX4_init 34 = .ok (.aload_n 0, 1) := by decide +kernel
theorem dz4_35 : decode cX4_init 35 = .ok (.bipush 40, 2) := by decide +kernel
theorem dz4_37 : decode cX4_init 37 = .ok (.newarray .int, 2) := by decide +kernel
theorem dz4_39 : decode cX4_init 39 = .ok (.putfield 28, 3) := by decide +kernel
theorem dz4_42 : decode cX4_init 42 = .ok (.aload_n 0, 1) := by decide +kernel
theorem dz4_43 : decode cX4_init 43 = .ok (.bipush 40, 2) := by decide +kernel
theorem dz4_45 : decode cX4_init 45 = .ok (.newarray .int, 2) := by decide +kernel
theorem dz4_47 : decode cX4_init 47 = .ok (.putfield 31, 3) := by decide +kernel
theorem dz4_50 : decode cX4_init 50 = .ok (.aload_n 0, 1) := by decide +kernel
theorem dz4_51 : decode cX4_init 51 = .ok (.bipush 40, 2) := by decide +kernel
theorem dz4_53 : decode cX4_init 53 = .ok (.newarray .int, 2) := by decide +kernel
theorem dz4_55 : decode cX4_init 55 = .ok (.putfield 34, 3) := by decide +kernel
theorem dz4_58 : decode cX4_init 58 = .ok (.aload_n 0, 1) := by decide +kernel
theorem dz4_59 : decode cX4_init 59 = .ok (.bipush 40, 2) := by decide +kernel
theorem dz4_61 : decode cX4_init 61 = .ok (.newarray .int, 2) := by decide +kernel
theorem dz4_63 : decode cX4_init 63 = .ok (.putfield 37, 3) := by decide +kernel
theorem dz4_66 : decode cX4_init 66 = .ok (.aload_n 0, 1) := by decide +kernel
theorem dz4_67 : decode cX4_init 67 = .ok (.bipush 40, 2) := by decide +kernel
theorem dz4_69 : decode cX4_init 69 = .ok (.newarray .int, 2) := by decide +kernel
theorem dz4_71 : decode cX4_init 71 = .ok (.putfield 40, 3) := by decide +kernel
theorem dz4_74 : decode cX4_init 74 = .ok (.aload_n 0, 1) := by decide +kernel
theorem dz4_75 : decode cX4_init 75 = .ok (.bipush 40, 2) := by decide +kernel
theorem dz4_77 : decode cX4_init 77 = .ok (.newarray .int, 2) := by decide +kernel
theorem dz4_79 : decode cX4_init 79 = .ok (.putfield 43, 3) := by decide +kernel
theorem dz4_82 : decode cX4_init 82 = .ok (.aload_n 0, 1) := by decide +kernel
theorem dz4_83 : decode cX4_init 83 = .ok (.bipush 40, 2) := by decide +kernel
theorem dz4_85 : decode cX4_init 85 = .ok (.newarray .boolean, 2) := by decide +kernel
theorem dz4_87 : decode cX4_init 87 = .ok (.putfield 46, 3) := by decide +kernel
theorem dz4_90 : decode cX4_init 90 = .ok (.aload_n 0, 1) := by decide +kernel
theorem dz4_91 : decode cX4_init 91 = .ok (.bipush 48, 2) := by decide +kernel
theorem dz4_93 : decode cX4_init 93 = .ok (.newarray .int, 2) := by decide +kernel
theorem dz4_95 : decode cX4_init 95 = .ok (.putfield 50, 3) := by decide +kernel
theorem dz4_98 : decode cX4_init 98 = .ok (.aload_n 0, 1) := by decide +kernel
theorem dz4_99 : decode cX4_init 99 = .ok (.bipush 48, 2) := by decide +kernel
theorem dz4_101 : decode cX4_init 101 = .ok (.newarray .int, 2) := by decide +kernel
theorem dz4_103 : decode cX4_init 103 = .ok (.putfield 53, 3) := by decide +kernel
theorem dz4_106 : decode cX4_init 106 = .ok (.aload_n 0, 1) := by decide +kernel
theorem dz4_107 : decode cX4_init 107 = .ok (.bipush 48, 2) := by decide +kernel
theorem dz4_109 : decode cX4_init 109 = .ok (.newarray .boolean, 2) := by decide +kernel
theorem dz4_111 : decode cX4_init 111 = .ok (.putfield 56, 3) := by decide +kernel
theorem dz4_114 : decode cX4_init 114 = .ok (.iconst 0, 1) := by decide +kernel
theorem dz4_115 : decode cX4_init 115 = .ok (.istore_n 1, 1) := by decide +kernel
theorem dz4_116 : decode cX4_init 116 = .ok (.iload_n 1, 1) := by decide +kernel
theorem dz4_117 : decode cX4_init 117 = .ok (.bipush 40, 2) := by decide +kernel
theorem dz4_119 : decode cX4_init 119 = .ok (.if_icmp .ge 22, 3) := by decide +kernel
theorem dz4_122 : decode cX4_init 122 = .ok (.aload_n 0, 1) := by decide +kernel
theorem dz4_123 : decode cX4_init 123 = .ok (.getfield 11, 3) := by decide +kernel
theorem dz4_126 : decode cX4_init 126 = .ok (.iload_n 1, 1) := by decide +kernel
theorem dz4_127 : decode cX4_init 127 = .ok (.new 9, 3) := by decide +kernel
theorem dz4_130 : decode cX4_init 130 = .ok (.dup, 1) := by decide +kernel
theorem dz4_131 : decode cX4_init 131 = .ok (.invokespecial 59, 3) := by decide +kernel
theorem dz4_134 : decode cX4_init 134 = .ok (.aastore, 1) := by decide +kernel
theorem dz4_135 : decode cX4_init 135 = .ok (.iinc 1 1, 3) := by decide +kernel
theorem dz4_138 : decode cX4_init 138 = .ok (.goto (-22), 3) := by decide +kernel
theorem dz4_141 : decode cX4_init 141 = .ok (.return_, 1) := by decide +kernel
def zb4 (ca : Nat → ClassId) (a : Nat) : va_W := [(a, .inr (4, [.ref (a + 1), .ref (a + 2), .int (Int32.ofInt 0), .ref (a + 3), .ref (a + 4), .ref (a + 5), .ref (a + 6), .ref (a + 7), .ref (a + 8), .ref (a + 9), .ref (a + 10), .ref (a + 11), .ref (a + 12), .ref (a + 13)])), (a + 1, .inl (ca 7, 40, .inr (.inr (.inr (.inr fun _ => none))))), (a + 2, .inl (ca 0, zar 0 40)), (a + 3, .inl (ca 0, zar 0 40)), (a + 4, .inl (ca 0, zar 0 40)), (a + 5, .inl (ca 0, zar 0 40)), (a + 6, .inl (ca 0, zar 0 40)), (a + 7, .inl (ca 0, zar 0 40)), (a + 8, .inl (ca 0, zar 0 40)), (a + 9, .inl (ca 0, zar 0 40)), (a + 10, .inl (ca 1, zar 1 40)), (a + 11, .inl (ca 0, zar 0 48)), (a + 12, .inl (ca 0, zar 0 48)), (a + 13, .inl (ca 1, zar 1 48))]
def ze4 (ca : Nat → ClassId) (a : Nat) : va_W := [(a, .inr (4, [.ref (a + 1), .ref (a + 2), .int (Int32.ofInt 0), .ref (a + 3), .ref (a + 4), .ref (a + 5), .ref (a + 6), .ref (a + 7), .ref (a + 8), .ref (a + 9), .ref (a + 10), .ref (a + 11), .ref (a + 12), .ref (a + 13)])), (a + 1, .inl (ca 7, 40, .inr (.inr (.inr (.inr (fun j => if j < 40 then some (a + 14 + 3 * j) else none)))))), (a + 2, .inl (ca 0, zar 0 40)), (a + 3, .inl (ca 0, zar 0 40)), (a + 4, .inl (ca 0, zar 0 40)), (a + 5, .inl (ca 0, zar 0 40)), (a + 6, .inl (ca 0, zar 0 40)), (a + 7, .inl (ca 0, zar 0 40)), (a + 8, .inl (ca 0, zar 0 40)), (a + 9, .inl (ca 0, zar 0 40)), (a + 10, .inl (ca 1, zar 1 40)), (a + 11, .inl (ca 0, zar 0 48)), (a + 12, .inl (ca 0, zar 0 48)), (a + 13, .inl (ca 1, zar 1 48))]
def zf4 (ca : Nat → ClassId) (a : Nat) : va_W := (List.range 40).flatMap (fun q => zo6 ca (a + 14 + 3 * q))
def zo4 (ca : Nat → ClassId) (a : Nat) : va_W := ze4 ca a ++ zf4 ca a
set_option maxHeartbeats 4000000 in
set_option maxRecDepth 20000 in
theorem zc4 (l : Launch) (D : va_G) (ca : Nat → ClassId) (a : Nat) : Zct l D ca yX4_init cX4_init 2 2 32 133 3464 4 (zfs [some 4, some 5, none, some 6, some 7, some 8, some 9, some 10, some 11, some 12, some 13, some 14, some 15, some 16]) a (zo4 ca a) := by
  refine zct_of (own := 4) rfl rfl (by decide) (by decide) ?_
  intro p e s m args below meth c Q Z hml hret ls H hl hW
  have h0 := lv_at hl 0 rfl
  obtain ⟨hx, hb, ht, hown, hKt, hA, hmn, hAO⟩ := id Z
  refine lv_aload_n hx hb dz4_0 rfl h0 ?_
  refine W.objInit hx hb hown (ht _ zw_1_40 rfl) (ht _ zw_1_29 rfl) (ht _ zw_1_30 rfl) rfl (by rw [hml]; exact hl.1) rfl dz4_1 (Nat.le_of_ble_eq_true rfl) (Nat.le_of_ble_eq_true rfl) ?_
  refine W.eq (g2 := F0 m 4 ls []) rfl ?_
  refine z_q (v := nI 40) (N := 40) (j := 7) (C := cn 6) (ty := .object (cn 6)) Z h0 dz4_4 (zp_b hx hb dz4_5 (by decide +kernel)) rfl zw_1_41 zw_1_42 (nI_pos (by decide)) (nI_clamp (by decide)) (by decide) (Nat.le_of_ble_eq_true rfl) (Nat.le_of_ble_eq_true rfl) dz4_7 rfl (by decide) (Nat.le_of_ble_eq_true rfl) (fun _ => rfl) (by decide +kernel) dz4_10 hW (fun H locs hW => ?_)
  refine z_a (v := nI 40) (N := 40) (srt := 0) (ty := zty 0) Z h0 dz4_13 (zp_b hx hb dz4_14 (by decide +kernel)) (by decide) zw_1_100 (nI_pos (by decide)) (nI_clamp (by decide)) (by decide) (Nat.le_of_ble_eq_true rfl) (Nat.le_of_ble_eq_true rfl) dz4_16 rfl (by decide) (Nat.le_of_ble_eq_true rfl) (fun _ => rfl) (by decide +kernel) dz4_18 hW (fun H locs hW => ?_)
  refine z_i (v := Int32.ofInt 0) (ty := .int) Z h0 dz4_21 (zp_c hx hb dz4_22 rfl) rfl (by decide) (Nat.le_of_ble_eq_true rfl) (fun _ => rfl) (by decide +kernel) rfl rfl dz4_23 hW (fun H locs hW => ?_)
  refine z_a (v := nI 40) (N := 40) (srt := 0) (ty := zty 0) Z h0 dz4_26 (zp_b hx hb dz4_27 (by decide +kernel)) (by decide) zw_1_100 (nI_pos (by decide)) (nI_clamp (by decide)) (by decide) (Nat.le_of_ble_eq_true rfl) (Nat.le_of_ble_eq_true rfl) dz4_29 rfl (by decide) (Nat.le_of_ble_eq_true rfl) (fun _ => rfl) (by decide +kernel) dz4_31 hW (fun H locs hW => ?_)
  refine z_a (v := nI 40) (N := 40) (srt := 0) (ty := zty 0) Z h0 dz4_34 (zp_b hx hb dz4_35 (by decide +kernel)) (by decide) zw_1_100 (nI_pos (by decide)) (nI_clamp (by decide)) (by decide) (Nat.le_of_ble_eq_true rfl) (Nat.le_of_ble_eq_true rfl) dz4_37 rfl (by decide) (Nat.le_of_ble_eq_true rfl) (fun _ => rfl) (by decide +kernel) dz4_39 hW (fun H locs hW => ?_)
  refine z_a (v := nI 40) (N := 40) (srt := 0) (ty := zty 0) Z h0 dz4_42 (zp_b hx hb dz4_43 (by decide +kernel)) (by decide) zw_1_100 (nI_pos (by decide)) (nI_clamp (by decide)) (by decide) (Nat.le_of_ble_eq_true rfl) (Nat.le_of_ble_eq_true rfl) dz4_45 rfl (by decide) (Nat.le_of_ble_eq_true rfl) (fun _ => rfl) (by decide +kernel) dz4_47 hW (fun H locs hW => ?_)
  refine z_a (v := nI 40) (N := 40) (srt := 0) (ty := zty 0) Z h0 dz4_50 (zp_b hx hb dz4_51 (by decide +kernel)) (by decide) zw_1_100 (nI_pos (by decide)) (nI_clamp (by decide)) (by decide) (Nat.le_of_ble_eq_true rfl) (Nat.le_of_ble_eq_true rfl) dz4_53 rfl (by decide) (Nat.le_of_ble_eq_true rfl) (fun _ => rfl) (by decide +kernel) dz4_55 hW (fun H locs hW => ?_)
  refine z_a (v := nI 40) (N := 40) (srt := 0) (ty := zty 0) Z h0 dz4_58 (zp_b hx hb dz4_59 (by decide +kernel)) (by decide) zw_1_100 (nI_pos (by decide)) (nI_clamp (by decide)) (by decide) (Nat.le_of_ble_eq_true rfl) (Nat.le_of_ble_eq_true rfl) dz4_61 rfl (by decide) (Nat.le_of_ble_eq_true rfl) (fun _ => rfl) (by decide +kernel) dz4_63 hW (fun H locs hW => ?_)
  refine z_a (v := nI 40) (N := 40) (srt := 0) (ty := zty 0) Z h0 dz4_66 (zp_b hx hb dz4_67 (by decide +kernel)) (by decide) zw_1_100 (nI_pos (by decide)) (nI_clamp (by decide)) (by decide) (Nat.le_of_ble_eq_true rfl) (Nat.le_of_ble_eq_true rfl) dz4_69 rfl (by decide) (Nat.le_of_ble_eq_true rfl) (fun _ => rfl) (by decide +kernel) dz4_71 hW (fun H locs hW => ?_)
  refine z_a (v := nI 40) (N := 40) (srt := 0) (ty := zty 0) Z h0 dz4_74 (zp_b hx hb dz4_75 (by decide +kernel)) (by decide) zw_1_100 (nI_pos (by decide)) (nI_clamp (by decide)) (by decide) (Nat.le_of_ble_eq_true rfl) (Nat.le_of_ble_eq_true rfl) dz4_77 rfl (by decide) (Nat.le_of_ble_eq_true rfl) (fun _ => rfl) (by decide +kernel) dz4_79 hW (fun H locs hW => ?_)
  refine z_a (v := nI 40) (N := 40) (srt := 1) (ty := zty 1) Z h0 dz4_82 (zp_b hx hb dz4_83 (by decide +kernel)) (by decide) zw_1_101 (nI_pos (by decide)) (nI_clamp (by decide)) (by decide) (Nat.le_of_ble_eq_true rfl) (Nat.le_of_ble_eq_true rfl) dz4_85 rfl (by decide) (Nat.le_of_ble_eq_true rfl) (fun _ => rfl) (by decide +kernel) dz4_87 hW (fun H locs hW => ?_)
  refine z_a (v := nI 48) (N := 48) (srt := 0) (ty := zty 0) Z h0 dz4_90 (zp_b hx hb dz4_91 (by decide +kernel)) (by decide) zw_1_100 (nI_pos (by decide)) (nI_clamp (by decide)) (by decide) (Nat.le_of_ble_eq_true rfl) (Nat.le_of_ble_eq_true rfl) dz4_93 rfl (by decide) (Nat.le_of_ble_eq_true rfl) (fun _ => rfl) (by decide +kernel) dz4_95 hW (fun H locs hW => ?_)
  refine z_a (v := nI 48) (N := 48) (srt := 0) (ty := zty 0) Z h0 dz4_98 (zp_b hx hb dz4_99 (by decide +kernel)) (by decide) zw_1_100 (nI_pos (by decide)) (nI_clamp (by decide)) (by decide) (Nat.le_of_ble_eq_true rfl) (Nat.le_of_ble_eq_true rfl) dz4_101 rfl (by decide) (Nat.le_of_ble_eq_true rfl) (fun _ => rfl) (by decide +kernel) dz4_103 hW (fun H locs hW => ?_)
  refine z_a (v := nI 48) (N := 48) (srt := 1) (ty := zty 1) Z h0 dz4_106 (zp_b hx hb dz4_107 (by decide +kernel)) (by decide) zw_1_101 (nI_pos (by decide)) (nI_clamp (by decide)) (by decide) (Nat.le_of_ble_eq_true rfl) (Nat.le_of_ble_eq_true rfl) dz4_109 rfl (by decide) (Nat.le_of_ble_eq_true rfl) (fun _ => rfl) (by decide +kernel) dz4_111 hW (fun H locs hW => ?_)
  have hW : Wd D (fun q => a ≤ q) s.heap (zb4 ca a ++ []) H locs (a + 14) := by
    simp only [List.append_nil]
    exact hW
  refine lv_iconst (v := nI 0) hx hb dz4_114 (by decide +kernel) ?_
  refine lv_istore_n (lv' := [(1, .int (nI 0)), (0, .ref a)]) hx hb dz4_115 rfl hl (by decide) rfl (fun ls hl => ?_)
  have hW := Wd.ent (ws := zb4 ca a) (F := []) (st := 3) (qa := 1) (aA := a + 1) (ct := ca 7) (N := 40) (n0 := a + 14) (out := fun q => zo6 ca (a + 14 + 3 * q)) hW rfl
  refine z_loop (ws := zb4 ca a) (F := []) (rT := (some 6, [none, none, none, none, none, none, none, some 18, some 19, none, none], none, none, 40)) (N := 40) (st := 3) (n0 := a + 14) (vs := fun _ => _) (pc1 := 119) (pcx := 141) (out := fun q => zo6 ca (a + 14 + 3 * q)) (cells := 13) (slots := 544) Z hml (by decide) (by decide) dz4_116 (zp_b hx hb dz4_117 (by decide +kernel)) dz4_119 (by decide) dz4_122 dz4_123 dz4_126 dz4_127 dz4_130 dz4_131 dz4_134 dz4_135 dz4_138 (by decide) rfl (by decide) rfl rfl rfl (by decide) (zck 17 (by decide)) rfl rfl (by decide) zw_1_41 zw_1_43 zw_1_3 (fun q _ => zc6 l D ca _) (fun q _ => rfl) rfl rfl rfl rfl ⟨by decide, by decide, by decide +kernel⟩ (.inr ⟨_, zw_1_44⟩) zw_1_45 zw_1_46 ⟨Nat.le_of_ble_eq_true rfl, Nat.le_of_ble_eq_true rfl⟩ ⟨Nat.le_of_ble_eq_true rfl, Nat.le_of_ble_eq_true rfl⟩ (fun H locs ls hl hW => ?_) 40 0 rfl _ _ ls hl hW
  have hl := lv_sub hl [1] rfl
  have h0 := lv_at hl 0 rfl
  exact hret 141 ls H locs dz4_141 hW
