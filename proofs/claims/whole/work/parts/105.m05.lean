/-! Methods: a transformer for each, and that its bytes do it (laid by wip/whole/drive.py) -/
def y_Mo_shrinkOnce : MethodName := ⟨"PageLayouterModel", "shrinkOnce", "(I)Z"⟩
abbrev b_Mo_shrinkOnce : ByteArray := prog_10_method_31_code
abbrev n_Mo_shrinkOnce : Nat := 10
theorem y_Mo_shrinkOnce_ok : pl_MV 3 y_Mo_shrinkOnce b_Mo_shrinkOnce n_Mo_shrinkOnce (Option.some Jvm.ClassFile.FieldType.boolean) 1 := ⟨pl_mem 904 (by decide +kernel) (by decide +kernel), pl_mem 903 (by decide +kernel) (by decide +kernel), pl_mem 31 (by decide +kernel) (by decide +kernel), pl_mem 47 (by decide +kernel) (by decide +kernel), ⟨by decide, by decide, by decide +kernel⟩, _, rfl, rfl⟩
def D_Mo_shrinkOnce : List (Nat × Instr × Nat) := [(0, .aload_n 0, 1), (1, .iload_n 1, 1), (2, .invokevirtual 146, 3), (5, .lstore_n 2, 1), (6, .lconst 0, 1), (7, .lstore 4, 2), (9, .iload_n 1, 1), (10, .iconst 1, 1), (11, .iadd, 1), (12, .istore 6, 2), (14, .iload 6, 2), (16, .aload_n 0, 1), (17, .getfield 7, 3), (20, .if_icmp .ge 35, 3), (23, .aload_n 0, 1), (24, .iload 6, 2), (26, .iload_n 1, 1), (27, .invokevirtual 105, 3), (30, .ifCond .eq 15, 3), (33, .lload 4, 2), (35, .aload_n 0, 1), (36, .iload 6, 2), (38, .invokevirtual 150, 3), (41, .ladd, 1), (42, .goto 5, 3), (45, .lload 4, 2), (47, .lstore 4, 2), (49, .iinc 6 1, 3), (52, .goto (-38), 3), (55, .lload_n 2, 1), (56, .lconst 0, 1), (57, .lcmp, 1), (58, .ifCond .ge 10, 3), (61, .lload 4, 2), (63, .lconst 0, 1), (64, .lcmp, 1), (65, .ifCond .ne 5, 3), (68, .iconst 0, 1), (69, .ireturn, 1), (70, .iconst 0, 1), (71, .istore 6, 2), (73, .iload_n 1, 1), (74, .iconst 1, 1), (75, .iadd, 1), (76, .istore 7, 2), (78, .iload 7, 2), (80, .aload_n 0, 1), (81, .getfield 7, 3), (84, .if_icmp .ge 88, 3), (87, .aload_n 0, 1), (88, .iload 7, 2), (90, .iload_n 1, 1), (91, .invokevirtual 105, 3), (94, .ifCond .eq 72, 3), (97, .aload_n 0, 1), (98, .getfield 75, 3), (101, .iload 7, 2), (103, .baload, 1), (104, .ifCond .eq 62, 3), (107, .lload_n 2, 1), (108, .lneg, 1), (109, .aload_n 0, 1), (110, .iload 7, 2), (112, .invokevirtual 150, 3), (115, .lmul, 1), (116, .lload 4, 2), (118, .ldiv, 1), (119, .lstore 8, 2), (121, .aload_n 0, 1), (122, .getfield 54, 3), (125, .iload 7, 2), (127, .lload 8, 2), (129, .l2i, 1), (130, .iastore, 1), (131, .iload 6, 2), (133, .ifCond .ne 26, 3), (136, .aload_n 0, 1), (137, .getfield 45, 3), (140, .iload 7, 2), (142, .iaload, 1), (143, .i2l, 1), (144, .lload 8, 2), (146, .lsub, 1), (147, .aload_n 0, 1), (148, .getfield 39, 3), (151, .iload 7, 2), (153, .iaload, 1), (154, .i2l, 1), (155, .lcmp, 1), (156, .ifCond .ge 7, 3), (159, .iconst 1, 1), (160, .goto 4, 3), (163, .iconst 0, 1), (164, .istore 6, 2), (166, .iinc 7 1, 3), (169, .goto (-91), 3), (172, .lload_n 2, 1), (173, .lneg, 1), (174, .lstore 7, 2), (176, .iload_n 1, 1), (177, .iconst 1, 1), (178, .iadd, 1), (179, .istore 9, 2), (181, .iload 9, 2), (183, .aload_n 0, 1), (184, .getfield 7, 3), (187, .if_icmp .ge 151, 3), (190, .aload_n 0, 1), (191, .iload 9, 2), (193, .iload_n 1, 1), (194, .invokevirtual 105, 3), (197, .ifCond .eq 135, 3), (200, .aload_n 0, 1), (201, .getfield 75, 3), (204, .iload 9, 2), (206, .baload, 1), (207, .ifCond .eq 125, 3), (210, .iload 6, 2), (212, .ifCond .eq 80, 3), (215, .aload_n 0, 1), (216, .getfield 45, 3), (219, .iload 9, 2), (221, .iaload, 1), (222, .aload_n 0, 1), (223, .getfield 54, 3), (226, .iload 9, 2), (228, .iaload, 1), (229, .isub, 1), (230, .aload_n 0, 1), (231, .getfield 39, 3), (234, .iload 9, 2), (236, .iaload, 1), (237, .if_icmp .ge 55, 3), (240, .aload_n 0, 1), (241, .getfield 45, 3), (244, .iload 9, 2), (246, .aload_n 0, 1), (247, .getfield 39, 3), (250, .iload 9, 2), (252, .iaload, 1), (253, .aload_n 0, 1), (254, .getfield 45, 3), (257, .iload 9, 2), (259, .iaload, 1), (260, .if_icmp .ge 13, 3), (263, .aload_n 0, 1), (264, .getfield 39, 3), (267, .iload 9, 2), (269, .iaload, 1), (270, .goto 10, 3), (273, .aload_n 0, 1), (274, .getfield 45, 3), (277, .iload 9, 2), (279, .iaload, 1), (280, .iastore, 1), (281, .aload_n 0, 1), (282, .getfield 75, 3), (285, .iload 9, 2), (287, .iconst 0, 1), (288, .bastore, 1), (289, .goto 43, 3), (292, .iload 6, 2), (294, .ifCond .ne 38, 3), (297, .aload_n 0, 1), (298, .getfield 45, 3), (301, .iload 9, 2), (303, .aload_n 0, 1), (304, .getfield 45, 3), (307, .iload 9, 2), (309, .iaload, 1), (310, .aload_n 0, 1), (311, .getfield 54, 3), (314, .iload 9, 2), (316, .iaload, 1), (317, .isub, 1), (318, .iastore, 1), (319, .lload 7, 2), (321, .aload_n 0, 1), (322, .getfield 54, 3), (325, .iload 9, 2), (327, .iaload, 1), (328, .i2l, 1), (329, .lsub, 1), (330, .lstore 7, 2), (332, .iinc 9 1, 3), (335, .goto (-154), 3), (338, .iload_n 1, 1), (339, .iconst 1, 1), (340, .iadd, 1), (341, .istore 9, 2), (343, .iload 9, 2), (345, .aload_n 0, 1), (346, .getfield 7, 3), (349, .if_icmp .ge 75, 3), (352, .iload 6, 2), (354, .ifCond .ne 70, 3), (357, .lload 7, 2), (359, .lconst 0, 1), (360, .lcmp, 1), (361, .ifCond .le 63, 3), (364, .aload_n 0, 1), (365, .iload 9, 2), (367, .iload_n 1, 1), (368, .invokevirtual 105, 3), (371, .ifCond .eq 47, 3), (374, .aload_n 0, 1), (375, .getfield 75, 3), (378, .iload 9, 2), (380, .baload, 1), (381, .ifCond .eq 37, 3), (384, .aload_n 0, 1), (385, .getfield 45, 3), (388, .iload 9, 2), (390, .iaload, 1), (391, .aload_n 0, 1), (392, .getfield 39, 3), (395, .iload 9, 2), (397, .iaload, 1), (398, .if_icmp .le 20, 3), (401, .aload_n 0, 1), (402, .getfield 45, 3), (405, .iload 9, 2), (407, .dup2, 1), (408, .iaload, 1), (409, .iconst 1, 1), (410, .isub, 1), (411, .iastore, 1), (412, .lload 7, 2), (414, .lconst 1, 1), (415, .lsub, 1), (416, .lstore 7, 2), (418, .iinc 9 1, 3), (421, .goto (-78), 3), (424, .iload 6, 2), (426, .ireturn, 1)]
theorem dd_Mo_shrinkOnce : (D_Mo_shrinkOnce.all fun q => decide (decode b_Mo_shrinkOnce q.1 = .ok q.2)) = true := by decide +kernel
def t_Mo_shrinkOnce : pl_TR := fun P _ _ => s_seq (s_setl 2 (e_callV Value.long 3 t_Mo_leftOf n_Mo_leftOf (a_i (a_r a_nil (e_locr 0)) (e_loc 1)))) (s_seq (s_setl 4 (e_long 0)) (s_seq (s_seq (s_seti 6 (e_bin (fun x y : Int32 => x + y) (e_loc 1) (e_int 1))) (s_while (b_cmp .lt (e_loc 6) (e_geti 3 1 (e_locr 0))) (s_seq (s_setl 4 (e_if (b_zero .ne (e_callV Value.int 3 t_Mo_flows n_Mo_flows (a_i (a_i (a_r a_nil (e_locr 0)) (e_loc 6)) (e_loc 1)))) (e_bin (fun x y : Int64 => x + y) (e_locl 4) (e_callV Value.long 3 t_Mo_weight n_Mo_weight (a_i (a_r a_nil (e_locr 0)) (e_loc 6)))) (e_locl 4))) (s_inc 6 1)))) (s_seq (s_if (b_or (b_lcmp .ge (e_locl 2) (e_long 0)) (b_lcmp .eq (e_locl 4) (e_long 0))) (s_retz P (e_int 0))) (s_seq (s_seti 6 (e_int 0)) (s_seq (s_seq (s_seti 7 (e_bin (fun x y : Int32 => x + y) (e_loc 1) (e_int 1))) (s_while (b_cmp .lt (e_loc 7) (e_geti 3 1 (e_locr 0))) (s_seq (s_if (b_and (b_zero .ne (e_callV Value.int 3 t_Mo_flows n_Mo_flows (a_i (a_i (a_r a_nil (e_locr 0)) (e_loc 7)) (e_loc 1)))) (b_zero .ne (e_ald 2 (e_getr 3 23 (e_locr 0)) (e_loc 7)))) (s_seq (s_setl 8 (e_ldiv (e_bin (fun x y : Int64 => x * y) (e_un (fun x => -x) (e_locl 2)) (e_callV Value.long 3 t_Mo_weight n_Mo_weight (a_i (a_r a_nil (e_locr 0)) (e_loc 7)))) (e_locl 4))) (s_seq (s_iast (e_getr 3 16 (e_locr 0)) (e_loc 7) (e_un Int64.toInt32 (e_locl 8))) (s_seti 6 (e_if (b_or (b_zero .ne (e_loc 6)) (b_lcmp .lt (e_bin (fun x y : Int64 => x - y) (e_un Int32.toInt64 (e_ald 1 (e_getr 3 13 (e_locr 0)) (e_loc 7))) (e_locl 8)) (e_un Int32.toInt64 (e_ald 1 (e_getr 3 11 (e_locr 0)) (e_loc 7))))) (e_int 1) (e_int 0)))))) (s_inc 7 1)))) (s_seq (s_setl 7 (e_un (fun x => -x) (e_locl 2))) (s_seq (s_seq (s_seti 9 (e_bin (fun x y : Int32 => x + y) (e_loc 1) (e_int 1))) (s_while (b_cmp .lt (e_loc 9) (e_geti 3 1 (e_locr 0))) (s_seq (s_if (b_and (b_zero .ne (e_callV Value.int 3 t_Mo_flows n_Mo_flows (a_i (a_i (a_r a_nil (e_locr 0)) (e_loc 9)) (e_loc 1)))) (b_zero .ne (e_ald 2 (e_getr 3 23 (e_locr 0)) (e_loc 9)))) (s_ife (b_and (b_zero .ne (e_loc 6)) (b_cmp .lt (e_bin (fun x y : Int32 => x - y) (e_ald 1 (e_getr 3 13 (e_locr 0)) (e_loc 9)) (e_ald 1 (e_getr 3 16 (e_locr 0)) (e_loc 9))) (e_ald 1 (e_getr 3 11 (e_locr 0)) (e_loc 9)))) (s_seq (s_iast (e_getr 3 13 (e_locr 0)) (e_loc 9) (e_if (b_cmp .lt (e_ald 1 (e_getr 3 11 (e_locr 0)) (e_loc 9)) (e_ald 1 (e_getr 3 13 (e_locr 0)) (e_loc 9))) (e_ald 1 (e_getr 3 11 (e_locr 0)) (e_loc 9)) (e_ald 1 (e_getr 3 13 (e_locr 0)) (e_loc 9)))) (s_zast (e_getr 3 23 (e_locr 0)) (e_loc 9) (e_int 0))) (s_if (b_not (b_zero .ne (e_loc 6))) (s_seq (s_iast (e_getr 3 13 (e_locr 0)) (e_loc 9) (e_bin (fun x y : Int32 => x - y) (e_ald 1 (e_getr 3 13 (e_locr 0)) (e_loc 9)) (e_ald 1 (e_getr 3 16 (e_locr 0)) (e_loc 9)))) (s_setl 7 (e_bin (fun x y : Int64 => x - y) (e_locl 7) (e_un Int32.toInt64 (e_ald 1 (e_getr 3 16 (e_locr 0)) (e_loc 9))))))))) (s_inc 9 1)))) (s_seq (s_seq (s_seti 9 (e_bin (fun x y : Int32 => x + y) (e_loc 1) (e_int 1))) (s_while (b_and (b_and (b_cmp .lt (e_loc 9) (e_geti 3 1 (e_locr 0))) (b_not (b_zero .ne (e_loc 6)))) (b_lcmp .gt (e_locl 7) (e_long 0))) (s_seq (s_if (b_and (b_and (b_zero .ne (e_callV Value.int 3 t_Mo_flows n_Mo_flows (a_i (a_i (a_r a_nil (e_locr 0)) (e_loc 9)) (e_loc 1)))) (b_zero .ne (e_ald 2 (e_getr 3 23 (e_locr 0)) (e_loc 9)))) (b_cmp .gt (e_ald 1 (e_getr 3 13 (e_locr 0)) (e_loc 9)) (e_ald 1 (e_getr 3 11 (e_locr 0)) (e_loc 9)))) (s_seq (s_iupd (fun x y : Int32 => x - y) (e_getr 3 13 (e_locr 0)) (e_loc 9) (e_int 1)) (s_setl 7 (e_bin (fun x y : Int64 => x - y) (e_locl 7) (e_long 1))))) (s_inc 9 1)))) (s_retz P (e_loc 6))))))))))
theorem z_Mo_shrinkOnce (l : Launch) : pl_Ctr l y_Mo_shrinkOnce b_Mo_shrinkOnce n_Mo_shrinkOnce (Option.some Jvm.ClassFile.FieldType.boolean) 3 66 0 0 false t_Mo_shrinkOnce := pl_ctr_of (pe := 0) (by decide) (fun X Y P F Fm => by
  have F : pl_Fx X Y "PageLayouterModel" b_Mo_shrinkOnce := F
  have r_Mo_flows : 0 + 1 ≤ (pl_xR X).frames ∧ 8 + (n_Mo_flows + 11) + 0 ≤ (pl_xR X).locals := ⟨Nat.le_trans (by decide) Fm.2.2.2.2.2.1, Nat.le_trans (by decide) Fm.2.2.2.2.2.2.1⟩
  have r_Mo_leftOf : 2 + 1 ≤ (pl_xR X).frames ∧ 8 + (n_Mo_leftOf + 11) + 42 ≤ (pl_xR X).locals := ⟨Nat.le_trans (by decide) Fm.2.2.2.2.2.1, Nat.le_trans (by decide) Fm.2.2.2.2.2.2.1⟩
  have r_Mo_weight : 0 + 1 ≤ (pl_xR X).frames ∧ 8 + (n_Mo_weight + 11) + 0 ≤ (pl_xR X).locals := ⟨Nat.le_trans (by decide) Fm.2.2.2.2.2.1, Nat.le_trans (by decide) Fm.2.2.2.2.2.2.1⟩
  have hm : ∀ i, i < 10 → i < (pl_xc X).maxLocals := fun i h => by rw [Fm.2.2.2.1]; exact h
  have k0 : decode b_Mo_shrinkOnce 0 = .ok (.aload_n 0, 1) := pl_dc dd_Mo_shrinkOnce 0 (q := (0, .aload_n 0, 1)) rfl
  have k1 : decode b_Mo_shrinkOnce 1 = .ok (.iload_n 1, 1) := pl_dc dd_Mo_shrinkOnce 1 (q := (1, .iload_n 1, 1)) rfl
  have k2 : decode b_Mo_shrinkOnce 2 = .ok (.invokevirtual 146, 3) := pl_dc dd_Mo_shrinkOnce 2 (q := (2, .invokevirtual 146, 3)) rfl
  have k5 : decode b_Mo_shrinkOnce 5 = .ok (.lstore_n 2, 1) := pl_dc dd_Mo_shrinkOnce 3 (q := (5, .lstore_n 2, 1)) rfl
  have k6 : decode b_Mo_shrinkOnce 6 = .ok (.lconst 0, 1) := pl_dc dd_Mo_shrinkOnce 4 (q := (6, .lconst 0, 1)) rfl
  have k7 : decode b_Mo_shrinkOnce 7 = .ok (.lstore 4, 2) := pl_dc dd_Mo_shrinkOnce 5 (q := (7, .lstore 4, 2)) rfl
  have k9 : decode b_Mo_shrinkOnce 9 = .ok (.iload_n 1, 1) := pl_dc dd_Mo_shrinkOnce 6 (q := (9, .iload_n 1, 1)) rfl
  have k10 : decode b_Mo_shrinkOnce 10 = .ok (.iconst 1, 1) := pl_dc dd_Mo_shrinkOnce 7 (q := (10, .iconst 1, 1)) rfl
  have k11 : decode b_Mo_shrinkOnce 11 = .ok (.iadd, 1) := pl_dc dd_Mo_shrinkOnce 8 (q := (11, .iadd, 1)) rfl
  have k12 : decode b_Mo_shrinkOnce 12 = .ok (.istore 6, 2) := pl_dc dd_Mo_shrinkOnce 9 (q := (12, .istore 6, 2)) rfl
  have k14 : decode b_Mo_shrinkOnce 14 = .ok (.iload 6, 2) := pl_dc dd_Mo_shrinkOnce 10 (q := (14, .iload 6, 2)) rfl
  have k16 : decode b_Mo_shrinkOnce 16 = .ok (.aload_n 0, 1) := pl_dc dd_Mo_shrinkOnce 11 (q := (16, .aload_n 0, 1)) rfl
  have k17 : decode b_Mo_shrinkOnce 17 = .ok (.getfield 7, 3) := pl_dc dd_Mo_shrinkOnce 12 (q := (17, .getfield 7, 3)) rfl
  have k20 : decode b_Mo_shrinkOnce 20 = .ok (.if_icmp .ge 35, 3) := pl_dc dd_Mo_shrinkOnce 13 (q := (20, .if_icmp .ge 35, 3)) rfl
  have k23 : decode b_Mo_shrinkOnce 23 = .ok (.aload_n 0, 1) := pl_dc dd_Mo_shrinkOnce 14 (q := (23, .aload_n 0, 1)) rfl
  have k24 : decode b_Mo_shrinkOnce 24 = .ok (.iload 6, 2) := pl_dc dd_Mo_shrinkOnce 15 (q := (24, .iload 6, 2)) rfl
  have k26 : decode b_Mo_shrinkOnce 26 = .ok (.iload_n 1, 1) := pl_dc dd_Mo_shrinkOnce 16 (q := (26, .iload_n 1, 1)) rfl
  have k27 : decode b_Mo_shrinkOnce 27 = .ok (.invokevirtual 105, 3) := pl_dc dd_Mo_shrinkOnce 17 (q := (27, .invokevirtual 105, 3)) rfl
  have k30 : decode b_Mo_shrinkOnce 30 = .ok (.ifCond .eq 15, 3) := pl_dc dd_Mo_shrinkOnce 18 (q := (30, .ifCond .eq 15, 3)) rfl
  have k33 : decode b_Mo_shrinkOnce 33 = .ok (.lload 4, 2) := pl_dc dd_Mo_shrinkOnce 19 (q := (33, .lload 4, 2)) rfl
  have k35 : decode b_Mo_shrinkOnce 35 = .ok (.aload_n 0, 1) := pl_dc dd_Mo_shrinkOnce 20 (q := (35, .aload_n 0, 1)) rfl
  have k36 : decode b_Mo_shrinkOnce 36 = .ok (.iload 6, 2) := pl_dc dd_Mo_shrinkOnce 21 (q := (36, .iload 6, 2)) rfl
  have k38 : decode b_Mo_shrinkOnce 38 = .ok (.invokevirtual 150, 3) := pl_dc dd_Mo_shrinkOnce 22 (q := (38, .invokevirtual 150, 3)) rfl
  have k41 : decode b_Mo_shrinkOnce 41 = .ok (.ladd, 1) := pl_dc dd_Mo_shrinkOnce 23 (q := (41, .ladd, 1)) rfl
  have k42 : decode b_Mo_shrinkOnce 42 = .ok (.goto 5, 3) := pl_dc dd_Mo_shrinkOnce 24 (q := (42, .goto 5, 3)) rfl
  have k45 : decode b_Mo_shrinkOnce 45 = .ok (.lload 4, 2) := pl_dc dd_Mo_shrinkOnce 25 (q := (45, .lload 4, 2)) rfl
  have k47 : decode b_Mo_shrinkOnce 47 = .ok (.lstore 4, 2) := pl_dc dd_Mo_shrinkOnce 26 (q := (47, .lstore 4, 2)) rfl
  have k49 : decode b_Mo_shrinkOnce 49 = .ok (.iinc 6 1, 3) := pl_dc dd_Mo_shrinkOnce 27 (q := (49, .iinc 6 1, 3)) rfl
  have k52 : decode b_Mo_shrinkOnce 52 = .ok (.goto (-38), 3) := pl_dc dd_Mo_shrinkOnce 28 (q := (52, .goto (-38), 3)) rfl
  have k55 : decode b_Mo_shrinkOnce 55 = .ok (.lload_n 2, 1) := pl_dc dd_Mo_shrinkOnce 29 (q := (55, .lload_n 2, 1)) rfl
  have k56 : decode b_Mo_shrinkOnce 56 = .ok (.lconst 0, 1) := pl_dc dd_Mo_shrinkOnce 30 (q := (56, .lconst 0, 1)) rfl
  have k57 : decode b_Mo_shrinkOnce 57 = .ok (.lcmp, 1) := pl_dc dd_Mo_shrinkOnce 31 (q := (57, .lcmp, 1)) rfl
  have k58 : decode b_Mo_shrinkOnce 58 = .ok (.ifCond .ge 10, 3) := pl_dc dd_Mo_shrinkOnce 32 (q := (58, .ifCond .ge 10, 3)) rfl
  have k61 : decode b_Mo_shrinkOnce 61 = .ok (.lload 4, 2) := pl_dc dd_Mo_shrinkOnce 33 (q := (61, .lload 4, 2)) rfl
  have k63 : decode b_Mo_shrinkOnce 63 = .ok (.lconst 0, 1) := pl_dc dd_Mo_shrinkOnce 34 (q := (63, .lconst 0, 1)) rfl
  have k64 : decode b_Mo_shrinkOnce 64 = .ok (.lcmp, 1) := pl_dc dd_Mo_shrinkOnce 35 (q := (64, .lcmp, 1)) rfl
  have k65 : decode b_Mo_shrinkOnce 65 = .ok (.ifCond .ne 5, 3) := pl_dc dd_Mo_shrinkOnce 36 (q := (65, .ifCond .ne 5, 3)) rfl
  have k68 : decode b_Mo_shrinkOnce 68 = .ok (.iconst 0, 1) := pl_dc dd_Mo_shrinkOnce 37 (q := (68, .iconst 0, 1)) rfl
  have k69 : decode b_Mo_shrinkOnce 69 = .ok (.ireturn, 1) := pl_dc dd_Mo_shrinkOnce 38 (q := (69, .ireturn, 1)) rfl
  have k70 : decode b_Mo_shrinkOnce 70 = .ok (.iconst 0, 1) := pl_dc dd_Mo_shrinkOnce 39 (q := (70, .iconst 0, 1)) rfl
  have k71 : decode b_Mo_shrinkOnce 71 = .ok (.istore 6, 2) := pl_dc dd_Mo_shrinkOnce 40 (q := (71, .istore 6, 2)) rfl
  have k73 : decode b_Mo_shrinkOnce 73 = .ok (.iload_n 1, 1) := pl_dc dd_Mo_shrinkOnce 41 (q := (73, .iload_n 1, 1)) rfl
  have k74 : decode b_Mo_shrinkOnce 74 = .ok (.iconst 1, 1) := pl_dc dd_Mo_shrinkOnce 42 (q := (74, .iconst 1, 1)) rfl
  have k75 : decode b_Mo_shrinkOnce 75 = .ok (.iadd, 1) := pl_dc dd_Mo_shrinkOnce 43 (q := (75, .iadd, 1)) rfl
  have k76 : decode b_Mo_shrinkOnce 76 = .ok (.istore 7, 2) := pl_dc dd_Mo_shrinkOnce 44 (q := (76, .istore 7, 2)) rfl
  have k78 : decode b_Mo_shrinkOnce 78 = .ok (.iload 7, 2) := pl_dc dd_Mo_shrinkOnce 45 (q := (78, .iload 7, 2)) rfl
  have k80 : decode b_Mo_shrinkOnce 80 = .ok (.aload_n 0, 1) := pl_dc dd_Mo_shrinkOnce 46 (q := (80, .aload_n 0, 1)) rfl
  have k81 : decode b_Mo_shrinkOnce 81 = .ok (.getfield 7, 3) := pl_dc dd_Mo_shrinkOnce 47 (q := (81, .getfield 7, 3)) rfl
  have k84 : decode b_Mo_shrinkOnce 84 = .ok (.if_icmp .ge 88, 3) := pl_dc dd_Mo_shrinkOnce 48 (q := (84, .if_icmp .ge 88, 3)) rfl
  have k87 : decode b_Mo_shrinkOnce 87 = .ok (.aload_n 0, 1) := pl_dc dd_Mo_shrinkOnce 49 (q := (87, .aload_n 0, 1)) rfl
  have k88 : decode b_Mo_shrinkOnce 88 = .ok (.iload 7, 2) := pl_dc dd_Mo_shrinkOnce 50 (q := (88, .iload 7, 2)) rfl
  have k90 : decode b_Mo_shrinkOnce 90 = .ok (.iload_n 1, 1) := pl_dc dd_Mo_shrinkOnce 51 (q := (90, .iload_n 1, 1)) rfl
  have k91 : decode b_Mo_shrinkOnce 91 = .ok (.invokevirtual 105, 3) := pl_dc dd_Mo_shrinkOnce 52 (q := (91, .invokevirtual 105, 3)) rfl
  have k94 : decode b_Mo_shrinkOnce 94 = .ok (.ifCond .eq 72, 3) := pl_dc dd_Mo_shrinkOnce 53 (q := (94, .ifCond .eq 72, 3)) rfl
  have k97 : decode b_Mo_shrinkOnce 97 = .ok (.aload_n 0, 1) := pl_dc dd_Mo_shrinkOnce 54 (q := (97, .aload_n 0, 1)) rfl
  have k98 : decode b_Mo_shrinkOnce 98 = .ok (.getfield 75, 3) := pl_dc dd_Mo_shrinkOnce 55 (q := (98, .getfield 75, 3)) rfl
  have k101 : decode b_Mo_shrinkOnce 101 = .ok (.iload 7, 2) := pl_dc dd_Mo_shrinkOnce 56 (q := (101, .iload 7, 2)) rfl
  have k103 : decode b_Mo_shrinkOnce 103 = .ok (.baload, 1) := pl_dc dd_Mo_shrinkOnce 57 (q := (103, .baload, 1)) rfl
  have k104 : decode b_Mo_shrinkOnce 104 = .ok (.ifCond .eq 62, 3) := pl_dc dd_Mo_shrinkOnce 58 (q := (104, .ifCond .eq 62, 3)) rfl
  have k107 : decode b_Mo_shrinkOnce 107 = .ok (.lload_n 2, 1) := pl_dc dd_Mo_shrinkOnce 59 (q := (107, .lload_n 2, 1)) rfl
  have k108 : decode b_Mo_shrinkOnce 108 = .ok (.lneg, 1) := pl_dc dd_Mo_shrinkOnce 60 (q := (108, .lneg, 1)) rfl
  have k109 : decode b_Mo_shrinkOnce 109 = .ok (.aload_n 0, 1) := pl_dc dd_Mo_shrinkOnce 61 (q := (109, .aload_n 0, 1)) rfl
  have k110 : decode b_Mo_shrinkOnce 110 = .ok (.iload 7, 2) := pl_dc dd_Mo_shrinkOnce 62 (q := (110, .iload 7, 2)) rfl
  have k112 : decode b_Mo_shrinkOnce 112 = .ok (.invokevirtual 150, 3) := pl_dc dd_Mo_shrinkOnce 63 (q := (112, .invokevirtual 150, 3)) rfl
  have k115 : decode b_Mo_shrinkOnce 115 = .ok (.lmul, 1) := pl_dc dd_Mo_shrinkOnce 64 (q := (115, .lmul, 1)) rfl
  have k116 : decode b_Mo_shrinkOnce 116 = .ok (.lload 4, 2) := pl_dc dd_Mo_shrinkOnce 65 (q := (116, .lload 4, 2)) rfl
  have k118 : decode b_Mo_shrinkOnce 118 = .ok (.ldiv, 1) := pl_dc dd_Mo_shrinkOnce 66 (q := (118, .ldiv, 1)) rfl
  have k119 : decode b_Mo_shrinkOnce 119 = .ok (.lstore 8, 2) := pl_dc dd_Mo_shrinkOnce 67 (q := (119, .lstore 8, 2)) rfl
  have k121 : decode b_Mo_shrinkOnce 121 = .ok (.aload_n 0, 1) := pl_dc dd_Mo_shrinkOnce 68 (q := (121, .aload_n 0, 1)) rfl
  have k122 : decode b_Mo_shrinkOnce 122 = .ok (.getfield 54, 3) := pl_dc dd_Mo_shrinkOnce 69 (q := (122, .getfield 54, 3)) rfl
  have k125 : decode b_Mo_shrinkOnce 125 = .ok (.iload 7, 2) := pl_dc dd_Mo_shrinkOnce 70 (q := (125, .iload 7, 2)) rfl
  have k127 : decode b_Mo_shrinkOnce 127 = .ok (.lload 8, 2) := pl_dc dd_Mo_shrinkOnce 71 (q := (127, .lload 8, 2)) rfl
  have k129 : decode b_Mo_shrinkOnce 129 = .ok (.l2i, 1) := pl_dc dd_Mo_shrinkOnce 72 (q := (129, .l2i, 1)) rfl
  have k130 : decode b_Mo_shrinkOnce 130 = .ok (.iastore, 1) := pl_dc dd_Mo_shrinkOnce 73 (q := (130, .iastore, 1)) rfl
  have k131 : decode b_Mo_shrinkOnce 131 = .ok (.iload 6, 2) := pl_dc dd_Mo_shrinkOnce 74 (q := (131, .iload 6, 2)) rfl
  have k133 : decode b_Mo_shrinkOnce 133 = .ok (.ifCond .ne 26, 3) := pl_dc dd_Mo_shrinkOnce 75 (q := (133, .ifCond .ne 26, 3)) rfl
  have k136 : decode b_Mo_shrinkOnce 136 = .ok (.aload_n 0, 1) := pl_dc dd_Mo_shrinkOnce 76 (q := (136, .aload_n 0, 1)) rfl
  have k137 : decode b_Mo_shrinkOnce 137 = .ok (.getfield 45, 3) := pl_dc dd_Mo_shrinkOnce 77 (q := (137, .getfield 45, 3)) rfl
  have k140 : decode b_Mo_shrinkOnce 140 = .ok (.iload 7, 2) := pl_dc dd_Mo_shrinkOnce 78 (q := (140, .iload 7, 2)) rfl
  have k142 : decode b_Mo_shrinkOnce 142 = .ok (.iaload, 1) := pl_dc dd_Mo_shrinkOnce 79 (q := (142, .iaload, 1)) rfl
  have k143 : decode b_Mo_shrinkOnce 143 = .ok (.i2l, 1) := pl_dc dd_Mo_shrinkOnce 80 (q := (143, .i2l, 1)) rfl
  have k144 : decode b_Mo_shrinkOnce 144 = .ok (.lload 8, 2) := pl_dc dd_Mo_shrinkOnce 81 (q := (144, .lload 8, 2)) rfl
  have k146 : decode b_Mo_shrinkOnce 146 = .ok (.lsub, 1) := pl_dc dd_Mo_shrinkOnce 82 (q := (146, .lsub, 1)) rfl
  have k147 : decode b_Mo_shrinkOnce 147 = .ok (.aload_n 0, 1) := pl_dc dd_Mo_shrinkOnce 83 (q := (147, .aload_n 0, 1)) rfl
  have k148 : decode b_Mo_shrinkOnce 148 = .ok (.getfield 39, 3) := pl_dc dd_Mo_shrinkOnce 84 (q := (148, .getfield 39, 3)) rfl
  have k151 : decode b_Mo_shrinkOnce 151 = .ok (.iload 7, 2) := pl_dc dd_Mo_shrinkOnce 85 (q := (151, .iload 7, 2)) rfl
  have k153 : decode b_Mo_shrinkOnce 153 = .ok (.iaload, 1) := pl_dc dd_Mo_shrinkOnce 86 (q := (153, .iaload, 1)) rfl
  have k154 : decode b_Mo_shrinkOnce 154 = .ok (.i2l, 1) := pl_dc dd_Mo_shrinkOnce 87 (q := (154, .i2l, 1)) rfl
  have k155 : decode b_Mo_shrinkOnce 155 = .ok (.lcmp, 1) := pl_dc dd_Mo_shrinkOnce 88 (q := (155, .lcmp, 1)) rfl
  have k156 : decode b_Mo_shrinkOnce 156 = .ok (.ifCond .ge 7, 3) := pl_dc dd_Mo_shrinkOnce 89 (q := (156, .ifCond .ge 7, 3)) rfl
  have k159 : decode b_Mo_shrinkOnce 159 = .ok (.iconst 1, 1) := pl_dc dd_Mo_shrinkOnce 90 (q := (159, .iconst 1, 1)) rfl
  have k160 : decode b_Mo_shrinkOnce 160 = .ok (.goto 4, 3) := pl_dc dd_Mo_shrinkOnce 91 (q := (160, .goto 4, 3)) rfl
  have k163 : decode b_Mo_shrinkOnce 163 = .ok (.iconst 0, 1) := pl_dc dd_Mo_shrinkOnce 92 (q := (163, .iconst 0, 1)) rfl
  have k164 : decode b_Mo_shrinkOnce 164 = .ok (.istore 6, 2) := pl_dc dd_Mo_shrinkOnce 93 (q := (164, .istore 6, 2)) rfl
  have k166 : decode b_Mo_shrinkOnce 166 = .ok (.iinc 7 1, 3) := pl_dc dd_Mo_shrinkOnce 94 (q := (166, .iinc 7 1, 3)) rfl
  have k169 : decode b_Mo_shrinkOnce 169 = .ok (.goto (-91), 3) := pl_dc dd_Mo_shrinkOnce 95 (q := (169, .goto (-91), 3)) rfl
  have k172 : decode b_Mo_shrinkOnce 172 = .ok (.lload_n 2, 1) := pl_dc dd_Mo_shrinkOnce 96 (q := (172, .lload_n 2, 1)) rfl
  have k173 : decode b_Mo_shrinkOnce 173 = .ok (.lneg, 1) := pl_dc dd_Mo_shrinkOnce 97 (q := (173, .lneg, 1)) rfl
  have k174 : decode b_Mo_shrinkOnce 174 = .ok (.lstore 7, 2) := pl_dc dd_Mo_shrinkOnce 98 (q := (174, .lstore 7, 2)) rfl
  have k176 : decode b_Mo_shrinkOnce 176 = .ok (.iload_n 1, 1) := pl_dc dd_Mo_shrinkOnce 99 (q := (176, .iload_n 1, 1)) rfl
  have k177 : decode b_Mo_shrinkOnce 177 = .ok (.iconst 1, 1) := pl_dc dd_Mo_shrinkOnce 100 (q := (177, .iconst 1, 1)) rfl
  have k178 : decode b_Mo_shrinkOnce 178 = .ok (.iadd, 1) := pl_dc dd_Mo_shrinkOnce 101 (q := (178, .iadd, 1)) rfl
  have k179 : decode b_Mo_shrinkOnce 179 = .ok (.istore 9, 2) := pl_dc dd_Mo_shrinkOnce 102 (q := (179, .istore 9, 2)) rfl
  have k181 : decode b_Mo_shrinkOnce 181 = .ok (.iload 9, 2) := pl_dc dd_Mo_shrinkOnce 103 (q := (181, .iload 9, 2)) rfl
  have k183 : decode b_Mo_shrinkOnce 183 = .ok (.aload_n 0, 1) := pl_dc dd_Mo_shrinkOnce 104 (q := (183, .aload_n 0, 1)) rfl
  have k184 : decode b_Mo_shrinkOnce 184 = .ok (.getfield 7, 3) := pl_dc dd_Mo_shrinkOnce 105 (q := (184, .getfield 7, 3)) rfl
  have k187 : decode b_Mo_shrinkOnce 187 = .ok (.if_icmp .ge 151, 3) := pl_dc dd_Mo_shrinkOnce 106 (q := (187, .if_icmp .ge 151, 3)) rfl
  have k190 : decode b_Mo_shrinkOnce 190 = .ok (.aload_n 0, 1) := pl_dc dd_Mo_shrinkOnce 107 (q := (190, .aload_n 0, 1)) rfl
  have k191 : decode b_Mo_shrinkOnce 191 = .ok (.iload 9, 2) := pl_dc dd_Mo_shrinkOnce 108 (q := (191, .iload 9, 2)) rfl
  have k193 : decode b_Mo_shrinkOnce 193 = .ok (.iload_n 1, 1) := pl_dc dd_Mo_shrinkOnce 109 (q := (193, .iload_n 1, 1)) rfl
  have k194 : decode b_Mo_shrinkOnce 194 = .ok (.invokevirtual 105, 3) := pl_dc dd_Mo_shrinkOnce 110 (q := (194, .invokevirtual 105, 3)) rfl
  have k197 : decode b_Mo_shrinkOnce 197 = .ok (.ifCond .eq 135, 3) := pl_dc dd_Mo_shrinkOnce 111 (q := (197, .ifCond .eq 135, 3)) rfl
  have k200 : decode b_Mo_shrinkOnce 200 = .ok (.aload_n 0, 1) := pl_dc dd_Mo_shrinkOnce 112 (q := (200, .aload_n 0, 1)) rfl
  have k201 : decode b_Mo_shrinkOnce 201 = .ok (.getfield 75, 3) := pl_dc dd_Mo_shrinkOnce 113 (q := (201, .getfield 75, 3)) rfl
  have k204 : decode b_Mo_shrinkOnce 204 = .ok (.iload 9, 2) := pl_dc dd_Mo_shrinkOnce 114 (q := (204, .iload 9, 2)) rfl
  have k206 : decode b_Mo_shrinkOnce 206 = .ok (.baload, 1) := pl_dc dd_Mo_shrinkOnce 115 (q := (206, .baload, 1)) rfl
  have k207 : decode b_Mo_shrinkOnce 207 = .ok (.ifCond .eq 125, 3) := pl_dc dd_Mo_shrinkOnce 116 (q := (207, .ifCond .eq 125, 3)) rfl
  have k210 : decode b_Mo_shrinkOnce 210 = .ok (.iload 6, 2) := pl_dc dd_Mo_shrinkOnce 117 (q := (210, .iload 6, 2)) rfl
  have k212 : decode b_Mo_shrinkOnce 212 = .ok (.ifCond .eq 80, 3) := pl_dc dd_Mo_shrinkOnce 118 (q := (212, .ifCond .eq 80, 3)) rfl
  have k215 : decode b_Mo_shrinkOnce 215 = .ok (.aload_n 0, 1) := pl_dc dd_Mo_shrinkOnce 119 (q := (215, .aload_n 0, 1)) rfl
  have k216 : decode b_Mo_shrinkOnce 216 = .ok (.getfield 45, 3) := pl_dc dd_Mo_shrinkOnce 120 (q := (216, .getfield 45, 3)) rfl
  have k219 : decode b_Mo_shrinkOnce 219 = .ok (.iload 9, 2) := pl_dc dd_Mo_shrinkOnce 121 (q := (219, .iload 9, 2)) rfl
  have k221 : decode b_Mo_shrinkOnce 221 = .ok (.iaload, 1) := pl_dc dd_Mo_shrinkOnce 122 (q := (221, .iaload, 1)) rfl
  have k222 : decode b_Mo_shrinkOnce 222 = .ok (.aload_n 0, 1) := pl_dc dd_Mo_shrinkOnce 123 (q := (222, .aload_n 0, 1)) rfl
  have k223 : decode b_Mo_shrinkOnce 223 = .ok (.getfield 54, 3) := pl_dc dd_Mo_shrinkOnce 124 (q := (223, .getfield 54, 3)) rfl
  have k226 : decode b_Mo_shrinkOnce 226 = .ok (.iload 9, 2) := pl_dc dd_Mo_shrinkOnce 125 (q := (226, .iload 9, 2)) rfl
  have k228 : decode b_Mo_shrinkOnce 228 = .ok (.iaload, 1) := pl_dc dd_Mo_shrinkOnce 126 (q := (228, .iaload, 1)) rfl
  have k229 : decode b_Mo_shrinkOnce 229 = .ok (.isub, 1) := pl_dc dd_Mo_shrinkOnce 127 (q := (229, .isub, 1)) rfl
  have k230 : decode b_Mo_shrinkOnce 230 = .ok (.aload_n 0, 1) := pl_dc dd_Mo_shrinkOnce 128 (q := (230, .aload_n 0, 1)) rfl
  have k231 : decode b_Mo_shrinkOnce 231 = .ok (.getfield 39, 3) := pl_dc dd_Mo_shrinkOnce 129 (q := (231, .getfield 39, 3)) rfl
  have k234 : decode b_Mo_shrinkOnce 234 = .ok (.iload 9, 2) := pl_dc dd_Mo_shrinkOnce 130 (q := (234, .iload 9, 2)) rfl
  have k236 : decode b_Mo_shrinkOnce 236 = .ok (.iaload, 1) := pl_dc dd_Mo_shrinkOnce 131 (q := (236, .iaload, 1)) rfl
  have k237 : decode b_Mo_shrinkOnce 237 = .ok (.if_icmp .ge 55, 3) := pl_dc dd_Mo_shrinkOnce 132 (q := (237, .if_icmp .ge 55, 3)) rfl
  have k240 : decode b_Mo_shrinkOnce 240 = .ok (.aload_n 0, 1) := pl_dc dd_Mo_shrinkOnce 133 (q := (240, .aload_n 0, 1)) rfl
  have k241 : decode b_Mo_shrinkOnce 241 = .ok (.getfield 45, 3) := pl_dc dd_Mo_shrinkOnce 134 (q := (241, .getfield 45, 3)) rfl
  have k244 : decode b_Mo_shrinkOnce 244 = .ok (.iload 9, 2) := pl_dc dd_Mo_shrinkOnce 135 (q := (244, .iload 9, 2)) rfl
  have k246 : decode b_Mo_shrinkOnce 246 = .ok (.aload_n 0, 1) := pl_dc dd_Mo_shrinkOnce 136 (q := (246, .aload_n 0, 1)) rfl
  have k247 : decode b_Mo_shrinkOnce 247 = .ok (.getfield 39, 3) := pl_dc dd_Mo_shrinkOnce 137 (q := (247, .getfield 39, 3)) rfl
  have k250 : decode b_Mo_shrinkOnce 250 = .ok (.iload 9, 2) := pl_dc dd_Mo_shrinkOnce 138 (q := (250, .iload 9, 2)) rfl
  have k252 : decode b_Mo_shrinkOnce 252 = .ok (.iaload, 1) := pl_dc dd_Mo_shrinkOnce 139 (q := (252, .iaload, 1)) rfl
  have k253 : decode b_Mo_shrinkOnce 253 = .ok (.aload_n 0, 1) := pl_dc dd_Mo_shrinkOnce 140 (q := (253, .aload_n 0, 1)) rfl
  have k254 : decode b_Mo_shrinkOnce 254 = .ok (.getfield 45, 3) := pl_dc dd_Mo_shrinkOnce 141 (q := (254, .getfield 45, 3)) rfl
  have k257 : decode b_Mo_shrinkOnce 257 = .ok (.iload 9, 2) := pl_dc dd_Mo_shrinkOnce 142 (q := (257, .iload 9, 2)) rfl
  have k259 : decode b_Mo_shrinkOnce 259 = .ok (.iaload, 1) := pl_dc dd_Mo_shrinkOnce 143 (q := (259, .iaload, 1)) rfl
  have k260 : decode b_Mo_shrinkOnce 260 = .ok (.if_icmp .ge 13, 3) := pl_dc dd_Mo_shrinkOnce 144 (q := (260, .if_icmp .ge 13, 3)) rfl
  have k263 : decode b_Mo_shrinkOnce 263 = .ok (.aload_n 0, 1) := pl_dc dd_Mo_shrinkOnce 145 (q := (263, .aload_n 0, 1)) rfl
  have k264 : decode b_Mo_shrinkOnce 264 = .ok (.getfield 39, 3) := pl_dc dd_Mo_shrinkOnce 146 (q := (264, .getfield 39, 3)) rfl
  have k267 : decode b_Mo_shrinkOnce 267 = .ok (.iload 9, 2) := pl_dc dd_Mo_shrinkOnce 147 (q := (267, .iload 9, 2)) rfl
  have k269 : decode b_Mo_shrinkOnce 269 = .ok (.iaload, 1) := pl_dc dd_Mo_shrinkOnce 148 (q := (269, .iaload, 1)) rfl
  have k270 : decode b_Mo_shrinkOnce 270 = .ok (.goto 10, 3) := pl_dc dd_Mo_shrinkOnce 149 (q := (270, .goto 10, 3)) rfl
  have k273 : decode b_Mo_shrinkOnce 273 = .ok (.aload_n 0, 1) := pl_dc dd_Mo_shrinkOnce 150 (q := (273, .aload_n 0, 1)) rfl
  have k274 : decode b_Mo_shrinkOnce 274 = .ok (.getfield 45, 3) := pl_dc dd_Mo_shrinkOnce 151 (q := (274, .getfield 45, 3)) rfl
  have k277 : decode b_Mo_shrinkOnce 277 = .ok (.iload 9, 2) := pl_dc dd_Mo_shrinkOnce 152 (q := (277, .iload 9, 2)) rfl
  have k279 : decode b_Mo_shrinkOnce 279 = .ok (.iaload, 1) := pl_dc dd_Mo_shrinkOnce 153 (q := (279, .iaload, 1)) rfl
  have k280 : decode b_Mo_shrinkOnce 280 = .ok (.iastore, 1) := pl_dc dd_Mo_shrinkOnce 154 (q := (280, .iastore, 1)) rfl
  have k281 : decode b_Mo_shrinkOnce 281 = .ok (.aload_n 0, 1) := pl_dc dd_Mo_shrinkOnce 155 (q := (281, .aload_n 0, 1)) rfl
  have k282 : decode b_Mo_shrinkOnce 282 = .ok (.getfield 75, 3) := pl_dc dd_Mo_shrinkOnce 156 (q := (282, .getfield 75, 3)) rfl
  have k285 : decode b_Mo_shrinkOnce 285 = .ok (.iload 9, 2) := pl_dc dd_Mo_shrinkOnce 157 (q := (285, .iload 9, 2)) rfl
  have k287 : decode b_Mo_shrinkOnce 287 = .ok (.iconst 0, 1) := pl_dc dd_Mo_shrinkOnce 158 (q := (287, .iconst 0, 1)) rfl
  have k288 : decode b_Mo_shrinkOnce 288 = .ok (.bastore, 1) := pl_dc dd_Mo_shrinkOnce 159 (q := (288, .bastore, 1)) rfl
  have k289 : decode b_Mo_shrinkOnce 289 = .ok (.goto 43, 3) := pl_dc dd_Mo_shrinkOnce 160 (q := (289, .goto 43, 3)) rfl
  have k292 : decode b_Mo_shrinkOnce 292 = .ok (.iload 6, 2) := pl_dc dd_Mo_shrinkOnce 161 (q := (292, .iload 6, 2)) rfl
  have k294 : decode b_Mo_shrinkOnce 294 = .ok (.ifCond .ne 38, 3) := pl_dc dd_Mo_shrinkOnce 162 (q := (294, .ifCond .ne 38, 3)) rfl
  have k297 : decode b_Mo_shrinkOnce 297 = .ok (.aload_n 0, 1) := pl_dc dd_Mo_shrinkOnce 163 (q := (297, .aload_n 0, 1)) rfl
  have k298 : decode b_Mo_shrinkOnce 298 = .ok (.getfield 45, 3) := pl_dc dd_Mo_shrinkOnce 164 (q := (298, .getfield 45, 3)) rfl
  have k301 : decode b_Mo_shrinkOnce 301 = .ok (.iload 9, 2) := pl_dc dd_Mo_shrinkOnce 165 (q := (301, .iload 9, 2)) rfl
  have k303 : decode b_Mo_shrinkOnce 303 = .ok (.aload_n 0, 1) := pl_dc dd_Mo_shrinkOnce 166 (q := (303, .aload_n 0, 1)) rfl
  have k304 : decode b_Mo_shrinkOnce 304 = .ok (.getfield 45, 3) := pl_dc dd_Mo_shrinkOnce 167 (q := (304, .getfield 45, 3)) rfl
  have k307 : decode b_Mo_shrinkOnce 307 = .ok (.iload 9, 2) := pl_dc dd_Mo_shrinkOnce 168 (q := (307, .iload 9, 2)) rfl
  have k309 : decode b_Mo_shrinkOnce 309 = .ok (.iaload, 1) := pl_dc dd_Mo_shrinkOnce 169 (q := (309, .iaload, 1)) rfl
  have k310 : decode b_Mo_shrinkOnce 310 = .ok (.aload_n 0, 1) := pl_dc dd_Mo_shrinkOnce 170 (q := (310, .aload_n 0, 1)) rfl
  have k311 : decode b_Mo_shrinkOnce 311 = .ok (.getfield 54, 3) := pl_dc dd_Mo_shrinkOnce 171 (q := (311, .getfield 54, 3)) rfl
  have k314 : decode b_Mo_shrinkOnce 314 = .ok (.iload 9, 2) := pl_dc dd_Mo_shrinkOnce 172 (q := (314, .iload 9, 2)) rfl
  have k316 : decode b_Mo_shrinkOnce 316 = .ok (.iaload, 1) := pl_dc dd_Mo_shrinkOnce 173 (q := (316, .iaload, 1)) rfl
  have k317 : decode b_Mo_shrinkOnce 317 = .ok (.isub, 1) := pl_dc dd_Mo_shrinkOnce 174 (q := (317, .isub, 1)) rfl
  have k318 : decode b_Mo_shrinkOnce 318 = .ok (.iastore, 1) := pl_dc dd_Mo_shrinkOnce 175 (q := (318, .iastore, 1)) rfl
  have k319 : decode b_Mo_shrinkOnce 319 = .ok (.lload 7, 2) := pl_dc dd_Mo_shrinkOnce 176 (q := (319, .lload 7, 2)) rfl
  have k321 : decode b_Mo_shrinkOnce 321 = .ok (.aload_n 0, 1) := pl_dc dd_Mo_shrinkOnce 177 (q := (321, .aload_n 0, 1)) rfl
  have k322 : decode b_Mo_shrinkOnce 322 = .ok (.getfield 54, 3) := pl_dc dd_Mo_shrinkOnce 178 (q := (322, .getfield 54, 3)) rfl
  have k325 : decode b_Mo_shrinkOnce 325 = .ok (.iload 9, 2) := pl_dc dd_Mo_shrinkOnce 179 (q := (325, .iload 9, 2)) rfl
  have k327 : decode b_Mo_shrinkOnce 327 = .ok (.iaload, 1) := pl_dc dd_Mo_shrinkOnce 180 (q := (327, .iaload, 1)) rfl
  have k328 : decode b_Mo_shrinkOnce 328 = .ok (.i2l, 1) := pl_dc dd_Mo_shrinkOnce 181 (q := (328, .i2l, 1)) rfl
  have k329 : decode b_Mo_shrinkOnce 329 = .ok (.lsub, 1) := pl_dc dd_Mo_shrinkOnce 182 (q := (329, .lsub, 1)) rfl
  have k330 : decode b_Mo_shrinkOnce 330 = .ok (.lstore 7, 2) := pl_dc dd_Mo_shrinkOnce 183 (q := (330, .lstore 7, 2)) rfl
  have k332 : decode b_Mo_shrinkOnce 332 = .ok (.iinc 9 1, 3) := pl_dc dd_Mo_shrinkOnce 184 (q := (332, .iinc 9 1, 3)) rfl
  have k335 : decode b_Mo_shrinkOnce 335 = .ok (.goto (-154), 3) := pl_dc dd_Mo_shrinkOnce 185 (q := (335, .goto (-154), 3)) rfl
  have k338 : decode b_Mo_shrinkOnce 338 = .ok (.iload_n 1, 1) := pl_dc dd_Mo_shrinkOnce 186 (q := (338, .iload_n 1, 1)) rfl
  have k339 : decode b_Mo_shrinkOnce 339 = .ok (.iconst 1, 1) := pl_dc dd_Mo_shrinkOnce 187 (q := (339, .iconst 1, 1)) rfl
  have k340 : decode b_Mo_shrinkOnce 340 = .ok (.iadd, 1) := pl_dc dd_Mo_shrinkOnce 188 (q := (340, .iadd, 1)) rfl
  have k341 : decode b_Mo_shrinkOnce 341 = .ok (.istore 9, 2) := pl_dc dd_Mo_shrinkOnce 189 (q := (341, .istore 9, 2)) rfl
  have k343 : decode b_Mo_shrinkOnce 343 = .ok (.iload 9, 2) := pl_dc dd_Mo_shrinkOnce 190 (q := (343, .iload 9, 2)) rfl
  have k345 : decode b_Mo_shrinkOnce 345 = .ok (.aload_n 0, 1) := pl_dc dd_Mo_shrinkOnce 191 (q := (345, .aload_n 0, 1)) rfl
  have k346 : decode b_Mo_shrinkOnce 346 = .ok (.getfield 7, 3) := pl_dc dd_Mo_shrinkOnce 192 (q := (346, .getfield 7, 3)) rfl
  have k349 : decode b_Mo_shrinkOnce 349 = .ok (.if_icmp .ge 75, 3) := pl_dc dd_Mo_shrinkOnce 193 (q := (349, .if_icmp .ge 75, 3)) rfl
  have k352 : decode b_Mo_shrinkOnce 352 = .ok (.iload 6, 2) := pl_dc dd_Mo_shrinkOnce 194 (q := (352, .iload 6, 2)) rfl
  have k354 : decode b_Mo_shrinkOnce 354 = .ok (.ifCond .ne 70, 3) := pl_dc dd_Mo_shrinkOnce 195 (q := (354, .ifCond .ne 70, 3)) rfl
  have k357 : decode b_Mo_shrinkOnce 357 = .ok (.lload 7, 2) := pl_dc dd_Mo_shrinkOnce 196 (q := (357, .lload 7, 2)) rfl
  have k359 : decode b_Mo_shrinkOnce 359 = .ok (.lconst 0, 1) := pl_dc dd_Mo_shrinkOnce 197 (q := (359, .lconst 0, 1)) rfl
  have k360 : decode b_Mo_shrinkOnce 360 = .ok (.lcmp, 1) := pl_dc dd_Mo_shrinkOnce 198 (q := (360, .lcmp, 1)) rfl
  have k361 : decode b_Mo_shrinkOnce 361 = .ok (.ifCond .le 63, 3) := pl_dc dd_Mo_shrinkOnce 199 (q := (361, .ifCond .le 63, 3)) rfl
  have k364 : decode b_Mo_shrinkOnce 364 = .ok (.aload_n 0, 1) := pl_dc dd_Mo_shrinkOnce 200 (q := (364, .aload_n 0, 1)) rfl
  have k365 : decode b_Mo_shrinkOnce 365 = .ok (.iload 9, 2) := pl_dc dd_Mo_shrinkOnce 201 (q := (365, .iload 9, 2)) rfl
  have k367 : decode b_Mo_shrinkOnce 367 = .ok (.iload_n 1, 1) := pl_dc dd_Mo_shrinkOnce 202 (q := (367, .iload_n 1, 1)) rfl
  have k368 : decode b_Mo_shrinkOnce 368 = .ok (.invokevirtual 105, 3) := pl_dc dd_Mo_shrinkOnce 203 (q := (368, .invokevirtual 105, 3)) rfl
  have k371 : decode b_Mo_shrinkOnce 371 = .ok (.ifCond .eq 47, 3) := pl_dc dd_Mo_shrinkOnce 204 (q := (371, .ifCond .eq 47, 3)) rfl
  have k374 : decode b_Mo_shrinkOnce 374 = .ok (.aload_n 0, 1) := pl_dc dd_Mo_shrinkOnce 205 (q := (374, .aload_n 0, 1)) rfl
  have k375 : decode b_Mo_shrinkOnce 375 = .ok (.getfield 75, 3) := pl_dc dd_Mo_shrinkOnce 206 (q := (375, .getfield 75, 3)) rfl
  have k378 : decode b_Mo_shrinkOnce 378 = .ok (.iload 9, 2) := pl_dc dd_Mo_shrinkOnce 207 (q := (378, .iload 9, 2)) rfl
  have k380 : decode b_Mo_shrinkOnce 380 = .ok (.baload, 1) := pl_dc dd_Mo_shrinkOnce 208 (q := (380, .baload, 1)) rfl
  have k381 : decode b_Mo_shrinkOnce 381 = .ok (.ifCond .eq 37, 3) := pl_dc dd_Mo_shrinkOnce 209 (q := (381, .ifCond .eq 37, 3)) rfl
  have k384 : decode b_Mo_shrinkOnce 384 = .ok (.aload_n 0, 1) := pl_dc dd_Mo_shrinkOnce 210 (q := (384, .aload_n 0, 1)) rfl
  have k385 : decode b_Mo_shrinkOnce 385 = .ok (.getfield 45, 3) := pl_dc dd_Mo_shrinkOnce 211 (q := (385, .getfield 45, 3)) rfl
  have k388 : decode b_Mo_shrinkOnce 388 = .ok (.iload 9, 2) := pl_dc dd_Mo_shrinkOnce 212 (q := (388, .iload 9, 2)) rfl
  have k390 : decode b_Mo_shrinkOnce 390 = .ok (.iaload, 1) := pl_dc dd_Mo_shrinkOnce 213 (q := (390, .iaload, 1)) rfl
  have k391 : decode b_Mo_shrinkOnce 391 = .ok (.aload_n 0, 1) := pl_dc dd_Mo_shrinkOnce 214 (q := (391, .aload_n 0, 1)) rfl
  have k392 : decode b_Mo_shrinkOnce 392 = .ok (.getfield 39, 3) := pl_dc dd_Mo_shrinkOnce 215 (q := (392, .getfield 39, 3)) rfl
  have k395 : decode b_Mo_shrinkOnce 395 = .ok (.iload 9, 2) := pl_dc dd_Mo_shrinkOnce 216 (q := (395, .iload 9, 2)) rfl
  have k397 : decode b_Mo_shrinkOnce 397 = .ok (.iaload, 1) := pl_dc dd_Mo_shrinkOnce 217 (q := (397, .iaload, 1)) rfl
  have k398 : decode b_Mo_shrinkOnce 398 = .ok (.if_icmp .le 20, 3) := pl_dc dd_Mo_shrinkOnce 218 (q := (398, .if_icmp .le 20, 3)) rfl
  have k401 : decode b_Mo_shrinkOnce 401 = .ok (.aload_n 0, 1) := pl_dc dd_Mo_shrinkOnce 219 (q := (401, .aload_n 0, 1)) rfl
  have k402 : decode b_Mo_shrinkOnce 402 = .ok (.getfield 45, 3) := pl_dc dd_Mo_shrinkOnce 220 (q := (402, .getfield 45, 3)) rfl
  have k405 : decode b_Mo_shrinkOnce 405 = .ok (.iload 9, 2) := pl_dc dd_Mo_shrinkOnce 221 (q := (405, .iload 9, 2)) rfl
  have k407 : decode b_Mo_shrinkOnce 407 = .ok (.dup2, 1) := pl_dc dd_Mo_shrinkOnce 222 (q := (407, .dup2, 1)) rfl
  have k408 : decode b_Mo_shrinkOnce 408 = .ok (.iaload, 1) := pl_dc dd_Mo_shrinkOnce 223 (q := (408, .iaload, 1)) rfl
  have k409 : decode b_Mo_shrinkOnce 409 = .ok (.iconst 1, 1) := pl_dc dd_Mo_shrinkOnce 224 (q := (409, .iconst 1, 1)) rfl
  have k410 : decode b_Mo_shrinkOnce 410 = .ok (.isub, 1) := pl_dc dd_Mo_shrinkOnce 225 (q := (410, .isub, 1)) rfl
  have k411 : decode b_Mo_shrinkOnce 411 = .ok (.iastore, 1) := pl_dc dd_Mo_shrinkOnce 226 (q := (411, .iastore, 1)) rfl
  have k412 : decode b_Mo_shrinkOnce 412 = .ok (.lload 7, 2) := pl_dc dd_Mo_shrinkOnce 227 (q := (412, .lload 7, 2)) rfl
  have k414 : decode b_Mo_shrinkOnce 414 = .ok (.lconst 1, 1) := pl_dc dd_Mo_shrinkOnce 228 (q := (414, .lconst 1, 1)) rfl
  have k415 : decode b_Mo_shrinkOnce 415 = .ok (.lsub, 1) := pl_dc dd_Mo_shrinkOnce 229 (q := (415, .lsub, 1)) rfl
  have k416 : decode b_Mo_shrinkOnce 416 = .ok (.lstore 7, 2) := pl_dc dd_Mo_shrinkOnce 230 (q := (416, .lstore 7, 2)) rfl
  have k418 : decode b_Mo_shrinkOnce 418 = .ok (.iinc 9 1, 3) := pl_dc dd_Mo_shrinkOnce 231 (q := (418, .iinc 9 1, 3)) rfl
  have k421 : decode b_Mo_shrinkOnce 421 = .ok (.goto (-78), 3) := pl_dc dd_Mo_shrinkOnce 232 (q := (421, .goto (-78), 3)) rfl
  have k424 : decode b_Mo_shrinkOnce 424 = .ok (.iload 6, 2) := pl_dc dd_Mo_shrinkOnce 233 (q := (424, .iload 6, 2)) rfl
  have k426 : decode b_Mo_shrinkOnce 426 = .ok (.ireturn, 1) := pl_dc dd_Mo_shrinkOnce 234 (q := (426, .ireturn, 1)) rfl
  exact (d_seq (p1 := 6) (d_lstore_n (p1 := 5) F (c_callV (p1 := 2) F (a_i_ok (p1 := 1) (a_r_ok (p1 := 0) a_nil_ok (c_aload_n F k0 rfl)) (c_iload_n F k1 rfl)) (z_Mo_leftOf _) y_Mo_leftOf_ok lm_PageLayouterModel_146 k2 r_Mo_leftOf (by decide) (by decide)) k5 rfl (hm 3 (by decide))) (d_seq (p1 := 9) (d_lstore (p1 := 7) F (c_lconst F k6 (by decide)) k7 (hm 5 (by decide))) (d_seq (p1 := 55) (d_seq (p1 := 14) (d_istore (p1 := 12) F (c_bin 1 (p1 := 10) (p2 := 11) (c_iload_n F k9 rfl) (c_iconst F k10 (by decide)) pl_c1 (j_iadd F k11)) k12 (hm 6 (by decide))) (d_while (p1 := 23) (p2 := 52) F (b_cmp_t (p1 := 16) (p2 := 20) (pj := 55) F (c_iload F k14) (c_geti (p1 := 17) F 3 1 hg_3_1 (c_aload_n F k16 rfl) k17 lf_PageLayouterModel_7) k20 (by decide)) (d_seq (p1 := 49) (d_lstore (p1 := 47) F (c_if (p1 := 33) (p2 := 42) (p3 := 47) F (b_zero_t (p1 := 30) (pj := 45) F (c_callV (p1 := 27) F (a_i_ok (p1 := 26) (a_i_ok (p1 := 24) (a_r_ok (p1 := 23) a_nil_ok (c_aload_n F k23 rfl)) (c_iload F k24)) (c_iload_n F k26 rfl)) (z_Mo_flows _) y_Mo_flows_ok lm_PageLayouterModel_105 k27 r_Mo_flows (by decide) (by decide)) k30 (by decide)) (c_bin 2 (p1 := 35) (p2 := 41) (c_lload F k33) (c_callV (p1 := 38) F (a_i_ok (p1 := 36) (a_r_ok (p1 := 35) a_nil_ok (c_aload_n F k35 rfl)) (c_iload F k36)) (z_Mo_weight _) y_Mo_weight_ok lm_PageLayouterModel_150 k38 r_Mo_weight (by decide) (by decide)) pl_c2 (j_ladd F k41)) k42 (by decide) (c_lload F k45)) k47 (hm 5 (by decide))) (d_iinc F k49 (by decide) (hm 6 (by decide)))) k52 (by decide))) (d_seq (p1 := 70) (d_if (p1 := 68) (p2 := 70) (b_or_t (p1 := 61) (b_lcmp_f (p1 := 56) (p2 := 57) (pj := 68) F (c_lload_n F k55 rfl) (c_lconst F k56 (by decide)) k57 k58 (by decide)) (b_lcmp_t (p1 := 63) (p2 := 64) (pj := 70) F (c_lload F k61) (c_lconst F k63 (by decide)) k64 k65 (by decide))) (d_retz (p1 := 69) F Fm.2.1 Fm.2.2.1 (c_iconst F k68 (by decide)) k69)) (d_seq (p1 := 73) (d_istore (p1 := 71) F (c_iconst F k70 (by decide)) k71 (hm 6 (by decide))) (d_seq (p1 := 172) (d_seq (p1 := 78) (d_istore (p1 := 76) F (c_bin 1 (p1 := 74) (p2 := 75) (c_iload_n F k73 rfl) (c_iconst F k74 (by decide)) pl_c1 (j_iadd F k75)) k76 (hm 7 (by decide))) (d_while (p1 := 87) (p2 := 169) F (b_cmp_t (p1 := 80) (p2 := 84) (pj := 172) F (c_iload F k78) (c_geti (p1 := 81) F 3 1 hg_3_1 (c_aload_n F k80 rfl) k81 lf_PageLayouterModel_7) k84 (by decide)) (d_seq (p1 := 166) (d_if (p1 := 107) (p2 := 166) (b_and_t (p1 := 97) (b_zero_t (p1 := 94) (pj := 166) F (c_callV (p1 := 91) F (a_i_ok (p1 := 90) (a_i_ok (p1 := 88) (a_r_ok (p1 := 87) a_nil_ok (c_aload_n F k87 rfl)) (c_iload F k88)) (c_iload_n F k90 rfl)) (z_Mo_flows _) y_Mo_flows_ok lm_PageLayouterModel_105 k91 r_Mo_flows (by decide) (by decide)) k94 (by decide)) (b_zero_t (p1 := 104) (pj := 166) F (c_zald (p1 := 101) (p2 := 103) F (c_getr (p1 := 98) F 3 23 hg_3_23 (c_aload_n F k97 rfl) k98 lf_PageLayouterModel_75) (c_iload F k101) k103) k104 (by decide))) (d_seq (p1 := 121) (d_lstore (p1 := 119) F (c_ldiv (p1 := 116) (p2 := 118) F (c_bin 2 (p1 := 109) (p2 := 115) (c_un (p1 := 108) (c_lload_n F k107 rfl) (j_lneg F k108)) (c_callV (p1 := 112) F (a_i_ok (p1 := 110) (a_r_ok (p1 := 109) a_nil_ok (c_aload_n F k109 rfl)) (c_iload F k110)) (z_Mo_weight _) y_Mo_weight_ok lm_PageLayouterModel_150 k112 r_Mo_weight (by decide) (by decide)) pl_c2 (j_lmul F k115)) (c_lload F k116) k118) k119 (hm 9 (by decide))) (d_seq (p1 := 131) (d_iast (p1 := 125) (p2 := 127) (p3 := 130) F (c_getr (p1 := 122) F 3 16 hg_3_16 (c_aload_n F k121 rfl) k122 lf_PageLayouterModel_54) (c_iload F k125) (c_un (p1 := 129) (c_lload F k127) (j_l2i F k129)) k130) (d_istore (p1 := 164) F (c_if (p1 := 159) (p2 := 160) (p3 := 164) F (b_or_t (p1 := 136) (b_zero_f (p1 := 133) (pj := 159) F (c_iload F k131) k133 (by decide)) (b_lcmp_t (p1 := 147) (p2 := 155) (pj := 163) F (c_bin 2 (p1 := 144) (p2 := 146) (c_un (p1 := 143) (c_iald (p1 := 140) (p2 := 142) F (c_getr (p1 := 137) F 3 13 hg_3_13 (c_aload_n F k136 rfl) k137 lf_PageLayouterModel_45) (c_iload F k140) k142) (j_i2l F k143)) (c_lload F k144) pl_c2 (j_lsub F k146)) (c_un (p1 := 154) (c_iald (p1 := 151) (p2 := 153) F (c_getr (p1 := 148) F 3 11 hg_3_11 (c_aload_n F k147 rfl) k148 lf_PageLayouterModel_39) (c_iload F k151) k153) (j_i2l F k154)) k155 k156 (by decide))) (c_iconst F k159 (by decide)) k160 (by decide) (c_iconst F k163 (by decide))) k164 (hm 6 (by decide)))))) (d_iinc F k166 (by decide) (hm 7 (by decide)))) k169 (by decide))) (d_seq (p1 := 176) (d_lstore (p1 := 174) F (c_un (p1 := 173) (c_lload_n F k172 rfl) (j_lneg F k173)) k174 (hm 8 (by decide))) (d_seq (p1 := 338) (d_seq (p1 := 181) (d_istore (p1 := 179) F (c_bin 1 (p1 := 177) (p2 := 178) (c_iload_n F k176 rfl) (c_iconst F k177 (by decide)) pl_c1 (j_iadd F k178)) k179 (hm 9 (by decide))) (d_while (p1 := 190) (p2 := 335) F (b_cmp_t (p1 := 183) (p2 := 187) (pj := 338) F (c_iload F k181) (c_geti (p1 := 184) F 3 1 hg_3_1 (c_aload_n F k183 rfl) k184 lf_PageLayouterModel_7) k187 (by decide)) (d_seq (p1 := 332) (d_if (p1 := 210) (p2 := 332) (b_and_t (p1 := 200) (b_zero_t (p1 := 197) (pj := 332) F (c_callV (p1 := 194) F (a_i_ok (p1 := 193) (a_i_ok (p1 := 191) (a_r_ok (p1 := 190) a_nil_ok (c_aload_n F k190 rfl)) (c_iload F k191)) (c_iload_n F k193 rfl)) (z_Mo_flows _) y_Mo_flows_ok lm_PageLayouterModel_105 k194 r_Mo_flows (by decide) (by decide)) k197 (by decide)) (b_zero_t (p1 := 207) (pj := 332) F (c_zald (p1 := 204) (p2 := 206) F (c_getr (p1 := 201) F 3 23 hg_3_23 (c_aload_n F k200 rfl) k201 lf_PageLayouterModel_75) (c_iload F k204) k206) k207 (by decide))) (d_ife (p1 := 240) (p2 := 289) (p3 := 332) F (b_and_t (p1 := 215) (b_zero_t (p1 := 212) (pj := 292) F (c_iload F k210) k212 (by decide)) (b_cmp_t (p1 := 230) (p2 := 237) (pj := 292) F (c_bin 1 (p1 := 222) (p2 := 229) (c_iald (p1 := 219) (p2 := 221) F (c_getr (p1 := 216) F 3 13 hg_3_13 (c_aload_n F k215 rfl) k216 lf_PageLayouterModel_45) (c_iload F k219) k221) (c_iald (p1 := 226) (p2 := 228) F (c_getr (p1 := 223) F 3 16 hg_3_16 (c_aload_n F k222 rfl) k223 lf_PageLayouterModel_54) (c_iload F k226) k228) pl_c1 (j_isub F k229)) (c_iald (p1 := 234) (p2 := 236) F (c_getr (p1 := 231) F 3 11 hg_3_11 (c_aload_n F k230 rfl) k231 lf_PageLayouterModel_39) (c_iload F k234) k236) k237 (by decide))) (d_seq (p1 := 281) (d_iast (p1 := 244) (p2 := 246) (p3 := 280) F (c_getr (p1 := 241) F 3 13 hg_3_13 (c_aload_n F k240 rfl) k241 lf_PageLayouterModel_45) (c_iload F k244) (c_if (p1 := 263) (p2 := 270) (p3 := 280) F (b_cmp_t (p1 := 253) (p2 := 260) (pj := 273) F (c_iald (p1 := 250) (p2 := 252) F (c_getr (p1 := 247) F 3 11 hg_3_11 (c_aload_n F k246 rfl) k247 lf_PageLayouterModel_39) (c_iload F k250) k252) (c_iald (p1 := 257) (p2 := 259) F (c_getr (p1 := 254) F 3 13 hg_3_13 (c_aload_n F k253 rfl) k254 lf_PageLayouterModel_45) (c_iload F k257) k259) k260 (by decide)) (c_iald (p1 := 267) (p2 := 269) F (c_getr (p1 := 264) F 3 11 hg_3_11 (c_aload_n F k263 rfl) k264 lf_PageLayouterModel_39) (c_iload F k267) k269) k270 (by decide) (c_iald (p1 := 277) (p2 := 279) F (c_getr (p1 := 274) F 3 13 hg_3_13 (c_aload_n F k273 rfl) k274 lf_PageLayouterModel_45) (c_iload F k277) k279)) k280) (d_zast (p1 := 285) (p2 := 287) (p3 := 288) F (c_getr (p1 := 282) F 3 23 hg_3_23 (c_aload_n F k281 rfl) k282 lf_PageLayouterModel_75) (c_iload F k285) (c_iconst F k287 (by decide)) k288)) k289 (by decide) (d_if (p1 := 297) (p2 := 332) (b_not_t (b_zero_f (p1 := 294) (pj := 332) F (c_iload F k292) k294 (by decide))) (d_seq (p1 := 319) (d_iast (p1 := 301) (p2 := 303) (p3 := 318) F (c_getr (p1 := 298) F 3 13 hg_3_13 (c_aload_n F k297 rfl) k298 lf_PageLayouterModel_45) (c_iload F k301) (c_bin 1 (p1 := 310) (p2 := 317) (c_iald (p1 := 307) (p2 := 309) F (c_getr (p1 := 304) F 3 13 hg_3_13 (c_aload_n F k303 rfl) k304 lf_PageLayouterModel_45) (c_iload F k307) k309) (c_iald (p1 := 314) (p2 := 316) F (c_getr (p1 := 311) F 3 16 hg_3_16 (c_aload_n F k310 rfl) k311 lf_PageLayouterModel_54) (c_iload F k314) k316) pl_c1 (j_isub F k317)) k318) (d_lstore (p1 := 330) F (c_bin 2 (p1 := 321) (p2 := 329) (c_lload F k319) (c_un (p1 := 328) (c_iald (p1 := 325) (p2 := 327) F (c_getr (p1 := 322) F 3 16 hg_3_16 (c_aload_n F k321 rfl) k322 lf_PageLayouterModel_54) (c_iload F k325) k327) (j_i2l F k328)) pl_c2 (j_lsub F k329)) k330 (hm 8 (by decide))))))) (d_iinc F k332 (by decide) (hm 9 (by decide)))) k335 (by decide))) (d_seq (p1 := 424) (d_seq (p1 := 343) (d_istore (p1 := 341) F (c_bin 1 (p1 := 339) (p2 := 340) (c_iload_n F k338 rfl) (c_iconst F k339 (by decide)) pl_c1 (j_iadd F k340)) k341 (hm 9 (by decide))) (d_while (p1 := 364) (p2 := 421) F (b_and_t (p1 := 357) (b_and_t (p1 := 352) (b_cmp_t (p1 := 345) (p2 := 349) (pj := 424) F (c_iload F k343) (c_geti (p1 := 346) F 3 1 hg_3_1 (c_aload_n F k345 rfl) k346 lf_PageLayouterModel_7) k349 (by decide)) (b_not_t (b_zero_f (p1 := 354) (pj := 424) F (c_iload F k352) k354 (by decide)))) (b_lcmp_t (p1 := 359) (p2 := 360) (pj := 424) F (c_lload F k357) (c_lconst F k359 (by decide)) k360 k361 (by decide))) (d_seq (p1 := 418) (d_if (p1 := 401) (p2 := 418) (b_and_t (p1 := 384) (b_and_t (p1 := 374) (b_zero_t (p1 := 371) (pj := 418) F (c_callV (p1 := 368) F (a_i_ok (p1 := 367) (a_i_ok (p1 := 365) (a_r_ok (p1 := 364) a_nil_ok (c_aload_n F k364 rfl)) (c_iload F k365)) (c_iload_n F k367 rfl)) (z_Mo_flows _) y_Mo_flows_ok lm_PageLayouterModel_105 k368 r_Mo_flows (by decide) (by decide)) k371 (by decide)) (b_zero_t (p1 := 381) (pj := 418) F (c_zald (p1 := 378) (p2 := 380) F (c_getr (p1 := 375) F 3 23 hg_3_23 (c_aload_n F k374 rfl) k375 lf_PageLayouterModel_75) (c_iload F k378) k380) k381 (by decide))) (b_cmp_t (p1 := 391) (p2 := 398) (pj := 418) F (c_iald (p1 := 388) (p2 := 390) F (c_getr (p1 := 385) F 3 13 hg_3_13 (c_aload_n F k384 rfl) k385 lf_PageLayouterModel_45) (c_iload F k388) k390) (c_iald (p1 := 395) (p2 := 397) F (c_getr (p1 := 392) F 3 11 hg_3_11 (c_aload_n F k391 rfl) k392 lf_PageLayouterModel_39) (c_iload F k395) k397) k398 (by decide))) (d_seq (p1 := 412) (d_iupd (p1 := 405) (p2 := 407) (p3 := 410) F (c_getr (p1 := 402) F 3 13 hg_3_13 (c_aload_n F k401 rfl) k402 lf_PageLayouterModel_45) (c_iload F k405) k407 k408 (c_iconst F k409 (by decide)) (j_isub F k410) k411) (d_lstore (p1 := 416) F (c_bin 2 (p1 := 414) (p2 := 415) (c_lload F k412) (c_lconst F k414 (by decide)) pl_c2 (j_lsub F k415)) k416 (hm 8 (by decide))))) (d_iinc F k418 (by decide) (hm 9 (by decide)))) k421 (by decide))) (d_retz (p1 := 426) F Fm.2.1 Fm.2.2.1 (c_iload F k424) k426)))))))))))
def y_Mo_spreadFlex : MethodName := ⟨"PageLayouterModel", "spreadFlex", "(I)V"⟩
abbrev b_Mo_spreadFlex : ByteArray := prog_10_method_32_code
abbrev n_Mo_spreadFlex : Nat := 5
theorem y_Mo_spreadFlex_ok : pl_MV 3 y_Mo_spreadFlex b_Mo_spreadFlex n_Mo_spreadFlex (Option.none : Option Jvm.ClassFile.FieldType) 1 := ⟨pl_mem 888 (by decide +kernel) (by decide +kernel), pl_mem 887 (by decide +kernel) (by decide +kernel), pl_mem 27 (by decide +kernel) (by decide +kernel), pl_mem 47 (by decide +kernel) (by decide +kernel), ⟨by decide, by decide, by decide +kernel⟩, _, rfl, rfl⟩
def D_Mo_spreadFlex : List (Nat × Instr × Nat) := [(0, .iload_n 1, 1), (1, .iconst 1, 1), (2, .iadd, 1), (3, .istore_n 2, 1), (4, .iload_n 2, 1), (5, .aload_n 0, 1), (6, .getfield 7, 3), (9, .if_icmp .ge 71, 3), (12, .aload_n 0, 1), (13, .iload_n 2, 1), (14, .iload_n 1, 1), (15, .invokevirtual 105, 3), (18, .ifCond .eq 56, 3), (21, .aload_n 0, 1), (22, .getfield 45, 3), (25, .iload_n 2, 1), (26, .aload_n 0, 1), (27, .iload_n 2, 1), (28, .aload_n 0, 1), (29, .getfield 45, 3), (32, .iload_n 1, 1), (33, .iaload, 1), (34, .invokevirtual 153, 3), (37, .iastore, 1), (38, .aload_n 0, 1), (39, .getfield 75, 3), (42, .iload_n 2, 1), (43, .aload_n 0, 1), (44, .getfield 23, 3), (47, .bipush 12, 2), (49, .iload_n 2, 1), (50, .imul, 1), (51, .iconst 5, 1), (52, .iadd, 1), (53, .iaload, 1), (54, .i2l, 1), (55, .aload_n 0, 1), (56, .getfield 45, 3), (59, .iload_n 2, 1), (60, .iaload, 1), (61, .i2l, 1), (62, .lmul, 1), (63, .lconst 0, 1), (64, .lcmp, 1), (65, .ifCond .le 7, 3), (68, .iconst 1, 1), (69, .goto 4, 3), (72, .iconst 0, 1), (73, .bastore, 1), (74, .iinc 2 1, 3), (77, .goto (-73), 3), (80, .aload_n 0, 1), (81, .iload_n 1, 1), (82, .invokevirtual 146, 3), (85, .lstore_n 2, 1), (86, .lload_n 2, 1), (87, .lconst 0, 1), (88, .lcmp, 1), (89, .ifCond .le 9, 3), (92, .aload_n 0, 1), (93, .iload_n 1, 1), (94, .lload_n 2, 1), (95, .invokevirtual 156, 3), (98, .lload_n 2, 1), (99, .lconst 0, 1), (100, .lcmp, 1), (101, .ifCond .ge 7, 3), (104, .iconst 1, 1), (105, .goto 4, 3), (108, .iconst 0, 1), (109, .istore 4, 2), (111, .iload 4, 2), (113, .ifCond .eq 13, 3), (116, .aload_n 0, 1), (117, .iload_n 1, 1), (118, .invokevirtual 160, 3), (121, .istore 4, 2), (123, .goto (-12), 3), (126, .return_, 1)]
theorem dd_Mo_spreadFlex : (D_Mo_spreadFlex.all fun q => decide (decode b_Mo_spreadFlex q.1 = .ok q.2)) = true := by decide +kernel
def t_Mo_spreadFlex : pl_TR := fun P _ _ => s_seq (s_seq (s_seq (s_seti 2 (e_bin (fun x y : Int32 => x + y) (e_loc 1) (e_int 1))) (s_while (b_cmp .lt (e_loc 2) (e_geti 3 1 (e_locr 0))) (s_seq (s_if (b_zero .ne (e_callV Value.int 3 t_Mo_flows n_Mo_flows (a_i (a_i (a_r a_nil (e_locr 0)) (e_loc 2)) (e_loc 1)))) (s_seq (s_iast (e_getr 3 13 (e_locr 0)) (e_loc 2) (e_callV Value.int 3 t_Mo_basis n_Mo_basis (a_i (a_i (a_r a_nil (e_locr 0)) (e_loc 2)) (e_ald 1 (e_getr 3 13 (e_locr 0)) (e_loc 1))))) (s_zast (e_getr 3 23 (e_locr 0)) (e_loc 2) (e_if (b_lcmp .gt (e_bin (fun x y : Int64 => x * y) (e_un Int32.toInt64 (e_ald 1 (e_getr 3 6 (e_locr 0)) (e_bin (fun x y : Int32 => x + y) (e_bin (fun x y : Int32 => x * y) (e_int 12) (e_loc 2)) (e_int 5)))) (e_un Int32.toInt64 (e_ald 1 (e_getr 3 13 (e_locr 0)) (e_loc 2)))) (e_long 0)) (e_int 1) (e_int 0))))) (s_inc 2 1)))) (s_seq (s_setl 2 (e_callV Value.long 3 t_Mo_leftOf n_Mo_leftOf (a_i (a_r a_nil (e_locr 0)) (e_loc 1)))) (s_seq (s_if (b_lcmp .gt (e_locl 2) (e_long 0)) (s_callV 3 t_Mo_grow n_Mo_grow (a_l (a_i (a_r a_nil (e_locr 0)) (e_loc 1)) (e_locl 2)))) (s_seq (s_seti 4 (e_if (b_lcmp .lt (e_locl 2) (e_long 0)) (e_int 1) (e_int 0))) (s_while (b_zero .ne (e_loc 4)) (s_seti 4 (e_callV Value.int 3 t_Mo_shrinkOnce n_Mo_shrinkOnce (a_i (a_r a_nil (e_locr 0)) (e_loc 1))))))))) (s_retv P)
theorem z_Mo_spreadFlex (l : Launch) : pl_Ctr l y_Mo_spreadFlex b_Mo_spreadFlex n_Mo_spreadFlex (Option.none : Option Jvm.ClassFile.FieldType) 4 95 0 0 false t_Mo_spreadFlex := pl_ctr_of (pe := 0) (by decide) (fun X Y P F Fm => by
  have F : pl_Fx X Y "PageLayouterModel" b_Mo_spreadFlex := F
  have r_Mo_basis : 2 + 1 ≤ (pl_xR X).frames ∧ 8 + (n_Mo_basis + 11) + 42 ≤ (pl_xR X).locals := ⟨Nat.le_trans (by decide) Fm.2.2.2.2.2.1, Nat.le_trans (by decide) Fm.2.2.2.2.2.2.1⟩
  have r_Mo_flows : 0 + 1 ≤ (pl_xR X).frames ∧ 8 + (n_Mo_flows + 11) + 0 ≤ (pl_xR X).locals := ⟨Nat.le_trans (by decide) Fm.2.2.2.2.2.1, Nat.le_trans (by decide) Fm.2.2.2.2.2.2.1⟩
  have r_Mo_grow : 1 + 1 ≤ (pl_xR X).frames ∧ 8 + (n_Mo_grow + 11) + 22 ≤ (pl_xR X).locals := ⟨Nat.le_trans (by decide) Fm.2.2.2.2.2.1, Nat.le_trans (by decide) Fm.2.2.2.2.2.2.1⟩
  have r_Mo_leftOf : 2 + 1 ≤ (pl_xR X).frames ∧ 8 + (n_Mo_leftOf + 11) + 42 ≤ (pl_xR X).locals := ⟨Nat.le_trans (by decide) Fm.2.2.2.2.2.1, Nat.le_trans (by decide) Fm.2.2.2.2.2.2.1⟩
  have r_Mo_shrinkOnce : 3 + 1 ≤ (pl_xR X).frames ∧ 8 + (n_Mo_shrinkOnce + 11) + 66 ≤ (pl_xR X).locals := ⟨Nat.le_trans (by decide) Fm.2.2.2.2.2.1, Nat.le_trans (by decide) Fm.2.2.2.2.2.2.1⟩
  have hm : ∀ i, i < 5 → i < (pl_xc X).maxLocals := fun i h => by rw [Fm.2.2.2.1]; exact h
  have k0 : decode b_Mo_spreadFlex 0 = .ok (.iload_n 1, 1) := pl_dc dd_Mo_spreadFlex 0 (q := (0, .iload_n 1, 1)) rfl
  have k1 : decode b_Mo_spreadFlex 1 = .ok (.iconst 1, 1) := pl_dc dd_Mo_spreadFlex 1 (q := (1, .iconst 1, 1)) rfl
  have k2 : decode b_Mo_spreadFlex 2 = .ok (.iadd, 1) := pl_dc dd_Mo_spreadFlex 2 (q := (2, .iadd, 1)) rfl
  have k3 : decode b_Mo_spreadFlex 3 = .ok (.istore_n 2, 1) := pl_dc dd_Mo_spreadFlex 3 (q := (3, .istore_n 2, 1)) rfl
  have k4 : decode b_Mo_spreadFlex 4 = .ok (.iload_n 2, 1) := pl_dc dd_Mo_spreadFlex 4 (q := (4, .iload_n 2, 1)) rfl
  have k5 : decode b_Mo_spreadFlex 5 = .ok (.aload_n 0, 1) := pl_dc dd_Mo_spreadFlex 5 (q := (5, .aload_n 0, 1)) rfl
  have k6 : decode b_Mo_spreadFlex 6 = .ok (.getfield 7, 3) := pl_dc dd_Mo_spreadFlex 6 (q := (6, .getfield 7, 3)) rfl
  have k9 : decode b_Mo_spreadFlex 9 = .ok (.if_icmp .ge 71, 3) := pl_dc dd_Mo_spreadFlex 7 (q := (9, .if_icmp .ge 71, 3)) rfl
  have k12 : decode b_Mo_spreadFlex 12 = .ok (.aload_n 0, 1) := pl_dc dd_Mo_spreadFlex 8 (q := (12, .aload_n 0, 1)) rfl
  have k13 : decode b_Mo_spreadFlex 13 = .ok (.iload_n 2, 1) := pl_dc dd_Mo_spreadFlex 9 (q := (13, .iload_n 2, 1)) rfl
  have k14 : decode b_Mo_spreadFlex 14 = .ok (.iload_n 1, 1) := pl_dc dd_Mo_spreadFlex 10 (q := (14, .iload_n 1, 1)) rfl
  have k15 : decode b_Mo_spreadFlex 15 = .ok (.invokevirtual 105, 3) := pl_dc dd_Mo_spreadFlex 11 (q := (15, .invokevirtual 105, 3)) rfl
  have k18 : decode b_Mo_spreadFlex 18 = .ok (.ifCond .eq 56, 3) := pl_dc dd_Mo_spreadFlex 12 (q := (18, .ifCond .eq 56, 3)) rfl
  have k21 : decode b_Mo_spreadFlex 21 = .ok (.aload_n 0, 1) := pl_dc dd_Mo_spreadFlex 13 (q := (21, .aload_n 0, 1)) rfl
  have k22 : decode b_Mo_spreadFlex 22 = .ok (.getfield 45, 3) := pl_dc dd_Mo_spreadFlex 14 (q := (22, .getfield 45, 3)) rfl
  have k25 : decode b_Mo_spreadFlex 25 = .ok (.iload_n 2, 1) := pl_dc dd_Mo_spreadFlex 15 (q := (25, .iload_n 2, 1)) rfl
  have k26 : decode b_Mo_spreadFlex 26 = .ok (.aload_n 0, 1) := pl_dc dd_Mo_spreadFlex 16 (q := (26, .aload_n 0, 1)) rfl
  have k27 : decode b_Mo_spreadFlex 27 = .ok (.iload_n 2, 1) := pl_dc dd_Mo_spreadFlex 17 (q := (27, .iload_n 2, 1)) rfl
  have k28 : decode b_Mo_spreadFlex 28 = .ok (.aload_n 0, 1) := pl_dc dd_Mo_spreadFlex 18 (q := (28, .aload_n 0, 1)) rfl
  have k29 : decode b_Mo_spreadFlex 29 = .ok (.getfield 45, 3) := pl_dc dd_Mo_spreadFlex 19 (q := (29, .getfield 45, 3)) rfl
  have k32 : decode b_Mo_spreadFlex 32 = .ok (.iload_n 1, 1) := pl_dc dd_Mo_spreadFlex 20 (q := (32, .iload_n 1, 1)) rfl
  have k33 : decode b_Mo_spreadFlex 33 = .ok (.iaload, 1) := pl_dc dd_Mo_spreadFlex 21 (q := (33, .iaload, 1)) rfl
  have k34 : decode b_Mo_spreadFlex 34 = .ok (.invokevirtual 153, 3) := pl_dc dd_Mo_spreadFlex 22 (q := (34, .invokevirtual 153, 3)) rfl
  have k37 : decode b_Mo_spreadFlex 37 = .ok (.iastore, 1) := pl_dc dd_Mo_spreadFlex 23 (q := (37, .iastore, 1)) rfl
  have k38 : decode b_Mo_spreadFlex 38 = .ok (.aload_n 0, 1) := pl_dc dd_Mo_spreadFlex 24 (q := (38, .aload_n 0, 1)) rfl
  have k39 : decode b_Mo_spreadFlex 39 = .ok (.getfield 75, 3) := pl_dc dd_Mo_spreadFlex 25 (q := (39, .getfield 75, 3)) rfl
  have k42 : decode b_Mo_spreadFlex 42 = .ok (.iload_n 2, 1) := pl_dc dd_Mo_spreadFlex 26 (q := (42, .iload_n 2, 1)) rfl
  have k43 : decode b_Mo_spreadFlex 43 = .ok (.aload_n 0, 1) := pl_dc dd_Mo_spreadFlex 27 (q := (43, .aload_n 0, 1)) rfl
  have k44 : decode b_Mo_spreadFlex 44 = .ok (.getfield 23, 3) := pl_dc dd_Mo_spreadFlex 28 (q := (44, .getfield 23, 3)) rfl
  have k47 : decode b_Mo_spreadFlex 47 = .ok (.bipush 12, 2) := pl_dc dd_Mo_spreadFlex 29 (q := (47, .bipush 12, 2)) rfl
  have k49 : decode b_Mo_spreadFlex 49 = .ok (.iload_n 2, 1) := pl_dc dd_Mo_spreadFlex 30 (q := (49, .iload_n 2, 1)) rfl
  have k50 : decode b_Mo_spreadFlex 50 = .ok (.imul, 1) := pl_dc dd_Mo_spreadFlex 31 (q := (50, .imul, 1)) rfl
  have k51 : decode b_Mo_spreadFlex 51 = .ok (.iconst 5, 1) := pl_dc dd_Mo_spreadFlex 32 (q := (51, .iconst 5, 1)) rfl
  have k52 : decode b_Mo_spreadFlex 52 = .ok (.iadd, 1) := pl_dc dd_Mo_spreadFlex 33 (q := (52, .iadd, 1)) rfl
  have k53 : decode b_Mo_spreadFlex 53 = .ok (.iaload, 1) := pl_dc dd_Mo_spreadFlex 34 (q := (53, .iaload, 1)) rfl
  have k54 : decode b_Mo_spreadFlex 54 = .ok (.i2l, 1) := pl_dc dd_Mo_spreadFlex 35 (q := (54, .i2l, 1)) rfl
  have k55 : decode b_Mo_spreadFlex 55 = .ok (.aload_n 0, 1) := pl_dc dd_Mo_spreadFlex 36 (q := (55, .aload_n 0, 1)) rfl
  have k56 : decode b_Mo_spreadFlex 56 = .ok (.getfield 45, 3) := pl_dc dd_Mo_spreadFlex 37 (q := (56, .getfield 45, 3)) rfl
  have k59 : decode b_Mo_spreadFlex 59 = .ok (.iload_n 2, 1) := pl_dc dd_Mo_spreadFlex 38 (q := (59, .iload_n 2, 1)) rfl
  have k60 : decode b_Mo_spreadFlex 60 = .ok (.iaload, 1) := pl_dc dd_Mo_spreadFlex 39 (q := (60, .iaload, 1)) rfl
  have k61 : decode b_Mo_spreadFlex 61 = .ok (.i2l, 1) := pl_dc dd_Mo_spreadFlex 40 (q := (61, .i2l, 1)) rfl
  have k62 : decode b_Mo_spreadFlex 62 = .ok (.lmul, 1) := pl_dc dd_Mo_spreadFlex 41 (q := (62, .lmul, 1)) rfl
  have k63 : decode b_Mo_spreadFlex 63 = .ok (.lconst 0, 1) := pl_dc dd_Mo_spreadFlex 42 (q := (63, .lconst 0, 1)) rfl
  have k64 : decode b_Mo_spreadFlex 64 = .ok (.lcmp, 1) := pl_dc dd_Mo_spreadFlex 43 (q := (64, .lcmp, 1)) rfl
  have k65 : decode b_Mo_spreadFlex 65 = .ok (.ifCond .le 7, 3) := pl_dc dd_Mo_spreadFlex 44 (q := (65, .ifCond .le 7, 3)) rfl
  have k68 : decode b_Mo_spreadFlex 68 = .ok (.iconst 1, 1) := pl_dc dd_Mo_spreadFlex 45 (q := (68, .iconst 1, 1)) rfl
  have k69 : decode b_Mo_spreadFlex 69 = .ok (.goto 4, 3) := pl_dc dd_Mo_spreadFlex 46 (q := (69, .goto 4, 3)) rfl
  have k72 : decode b_Mo_spreadFlex 72 = .ok (.iconst 0, 1) := pl_dc dd_Mo_spreadFlex 47 (q := (72, .iconst 0, 1)) rfl
  have k73 : decode b_Mo_spreadFlex 73 = .ok (.bastore, 1) := pl_dc dd_Mo_spreadFlex 48 (q := (73, .bastore, 1)) rfl
  have k74 : decode b_Mo_spreadFlex 74 = .ok (.iinc 2 1, 3) := pl_dc dd_Mo_spreadFlex 49 (q := (74, .iinc 2 1, 3)) rfl
  have k77 : decode b_Mo_spreadFlex 77 = .ok (.goto (-73), 3) := pl_dc dd_Mo_spreadFlex 50 (q := (77, .goto (-73), 3)) rfl
  have k80 : decode b_Mo_spreadFlex 80 = .ok (.aload_n 0, 1) := pl_dc dd_Mo_spreadFlex 51 (q := (80, .aload_n 0, 1)) rfl
  have k81 : decode b_Mo_spreadFlex 81 = .ok (.iload_n 1, 1) := pl_dc dd_Mo_spreadFlex 52 (q := (81, .iload_n 1, 1)) rfl
  have k82 : decode b_Mo_spreadFlex 82 = .ok (.invokevirtual 146, 3) := pl_dc dd_Mo_spreadFlex 53 (q := (82, .invokevirtual 146, 3)) rfl
  have k85 : decode b_Mo_spreadFlex 85 = .ok (.lstore_n 2, 1) := pl_dc dd_Mo_spreadFlex 54 (q := (85, .lstore_n 2, 1)) rfl
  have k86 : decode b_Mo_spreadFlex 86 = .ok (.lload_n 2, 1) := pl_dc dd_Mo_spreadFlex 55 (q := (86, .lload_n 2, 1)) rfl
  have k87 : decode b_Mo_spreadFlex 87 = .ok (.lconst 0, 1) := pl_dc dd_Mo_spreadFlex 56 (q := (87, .lconst 0, 1)) rfl
  have k88 : decode b_Mo_spreadFlex 88 = .ok (.lcmp, 1) := pl_dc dd_Mo_spreadFlex 57 (q := (88, .lcmp, 1)) rfl
  have k89 : decode b_Mo_spreadFlex 89 = .ok (.ifCond .le 9, 3) := pl_dc dd_Mo_spreadFlex 58 (q := (89, .ifCond .le 9, 3)) rfl
  have k92 : decode b_Mo_spreadFlex 92 = .ok (.aload_n 0, 1) := pl_dc dd_Mo_spreadFlex 59 (q := (92, .aload_n 0, 1)) rfl
  have k93 : decode b_Mo_spreadFlex 93 = .ok (.iload_n 1, 1) := pl_dc dd_Mo_spreadFlex 60 (q := (93, .iload_n 1, 1)) rfl
  have k94 : decode b_Mo_spreadFlex 94 = .ok (.lload_n 2, 1) := pl_dc dd_Mo_spreadFlex 61 (q := (94, .lload_n 2, 1)) rfl
  have k95 : decode b_Mo_spreadFlex 95 = .ok (.invokevirtual 156, 3) := pl_dc dd_Mo_spreadFlex 62 (q := (95, .invokevirtual 156, 3)) rfl
  have k98 : decode b_Mo_spreadFlex 98 = .ok (.lload_n 2, 1) := pl_dc dd_Mo_spreadFlex 63 (q := (98, .lload_n 2, 1)) rfl
  have k99 : decode b_Mo_spreadFlex 99 = .ok (.lconst 0, 1) := pl_dc dd_Mo_spreadFlex 64 (q := (99, .lconst 0, 1)) rfl
  have k100 : decode b_Mo_spreadFlex 100 = .ok (.lcmp, 1) := pl_dc dd_Mo_spreadFlex 65 (q := (100, .lcmp, 1)) rfl
  have k101 : decode b_Mo_spreadFlex 101 = .ok (.ifCond .ge 7, 3) := pl_dc dd_Mo_spreadFlex 66 (q := (101, .ifCond .ge 7, 3)) rfl
  have k104 : decode b_Mo_spreadFlex 104 = .ok (.iconst 1, 1) := pl_dc dd_Mo_spreadFlex 67 (q := (104, .iconst 1, 1)) rfl
  have k105 : decode b_Mo_spreadFlex 105 = .ok (.goto 4, 3) := pl_dc dd_Mo_spreadFlex 68 (q := (105, .goto 4, 3)) rfl
  have k108 : decode b_Mo_spreadFlex 108 = .ok (.iconst 0, 1) := pl_dc dd_Mo_spreadFlex 69 (q := (108, .iconst 0, 1)) rfl
  have k109 : decode b_Mo_spreadFlex 109 = .ok (.istore 4, 2) := pl_dc dd_Mo_spreadFlex 70 (q := (109, .istore 4, 2)) rfl
  have k111 : decode b_Mo_spreadFlex 111 = .ok (.iload 4, 2) := pl_dc dd_Mo_spreadFlex 71 (q := (111, .iload 4, 2)) rfl
  have k113 : decode b_Mo_spreadFlex 113 = .ok (.ifCond .eq 13, 3) := pl_dc dd_Mo_spreadFlex 72 (q := (113, .ifCond .eq 13, 3)) rfl
  have k116 : decode b_Mo_spreadFlex 116 = .ok (.aload_n 0, 1) := pl_dc dd_Mo_spreadFlex 73 (q := (116, .aload_n 0, 1)) rfl
  have k117 : decode b_Mo_spreadFlex 117 = .ok (.iload_n 1, 1) := pl_dc dd_Mo_spreadFlex 74 (q := (117, .iload_n 1, 1)) rfl
  have k118 : decode b_Mo_spreadFlex 118 = .ok (.invokevirtual 160, 3) := pl_dc dd_Mo_spreadFlex 75 (q := (118, .invokevirtual 160, 3)) rfl
  have k121 : decode b_Mo_spreadFlex 121 = .ok (.istore 4, 2) := pl_dc dd_Mo_spreadFlex 76 (q := (121, .istore 4, 2)) rfl
  have k123 : decode b_Mo_spreadFlex 123 = .ok (.goto (-12), 3) := pl_dc dd_Mo_spreadFlex 77 (q := (123, .goto (-12), 3)) rfl
  have k126 : decode b_Mo_spreadFlex 126 = .ok (.return_, 1) := pl_dc dd_Mo_spreadFlex 78 (q := (126, .return_, 1)) rfl
  exact (d_seq (p1 := 126) (d_seq (p1 := 80) (d_seq (p1 := 4) (d_istore_n (p1 := 3) F (c_bin 1 (p1 := 1) (p2 := 2) (c_iload_n F k0 rfl) (c_iconst F k1 (by decide)) pl_c1 (j_iadd F k2)) k3 rfl (hm 2 (by decide))) (d_while (p1 := 12) (p2 := 77) F (b_cmp_t (p1 := 5) (p2 := 9) (pj := 80) F (c_iload_n F k4 rfl) (c_geti (p1 := 6) F 3 1 hg_3_1 (c_aload_n F k5 rfl) k6 lf_PageLayouterModel_7) k9 (by decide)) (d_seq (p1 := 74) (d_if (p1 := 21) (p2 := 74) (b_zero_t (p1 := 18) (pj := 74) F (c_callV (p1 := 15) F (a_i_ok (p1 := 14) (a_i_ok (p1 := 13) (a_r_ok (p1 := 12) a_nil_ok (c_aload_n F k12 rfl)) (c_iload_n F k13 rfl)) (c_iload_n F k14 rfl)) (z_Mo_flows _) y_Mo_flows_ok lm_PageLayouterModel_105 k15 r_Mo_flows (by decide) (by decide)) k18 (by decide)) (d_seq (p1 := 38) (d_iast (p1 := 25) (p2 := 26) (p3 := 37) F (c_getr (p1 := 22) F 3 13 hg_3_13 (c_aload_n F k21 rfl) k22 lf_PageLayouterModel_45) (c_iload_n F k25 rfl) (c_callV (p1 := 34) F (a_i_ok (p1 := 28) (a_i_ok (p1 := 27) (a_r_ok (p1 := 26) a_nil_ok (c_aload_n F k26 rfl)) (c_iload_n F k27 rfl)) (c_iald (p1 := 32) (p2 := 33) F (c_getr (p1 := 29) F 3 13 hg_3_13 (c_aload_n F k28 rfl) k29 lf_PageLayouterModel_45) (c_iload_n F k32 rfl) k33)) (z_Mo_basis _) y_Mo_basis_ok lm_PageLayouterModel_153 k34 r_Mo_basis (by decide) (by decide)) k37) (d_zast (p1 := 42) (p2 := 43) (p3 := 73) F (c_getr (p1 := 39) F 3 23 hg_3_23 (c_aload_n F k38 rfl) k39 lf_PageLayouterModel_75) (c_iload_n F k42 rfl) (c_if (p1 := 68) (p2 := 69) (p3 := 73) F (b_lcmp_t (p1 := 63) (p2 := 64) (pj := 72) F (c_bin 2 (p1 := 55) (p2 := 62) (c_un (p1 := 54) (c_iald (p1 := 47) (p2 := 53) F (c_getr (p1 := 44) F 3 6 hg_3_6 (c_aload_n F k43 rfl) k44 lf_PageLayouterModel_23) (c_bin 1 (p1 := 51) (p2 := 52) (c_bin 1 (p1 := 49) (p2 := 50) (c_bipush F k47 (by decide)) (c_iload_n F k49 rfl) pl_c1 (j_imul F k50)) (c_iconst F k51 (by decide)) pl_c1 (j_iadd F k52)) k53) (j_i2l F k54)) (c_un (p1 := 61) (c_iald (p1 := 59) (p2 := 60) F (c_getr (p1 := 56) F 3 13 hg_3_13 (c_aload_n F k55 rfl) k56 lf_PageLayouterModel_45) (c_iload_n F k59 rfl) k60) (j_i2l F k61)) pl_c2 (j_lmul F k62)) (c_lconst F k63 (by decide)) k64 k65 (by decide)) (c_iconst F k68 (by decide)) k69 (by decide) (c_iconst F k72 (by decide))) k73))) (d_iinc F k74 (by decide) (hm 2 (by decide)))) k77 (by decide))) (d_seq (p1 := 86) (d_lstore_n (p1 := 85) F (c_callV (p1 := 82) F (a_i_ok (p1 := 81) (a_r_ok (p1 := 80) a_nil_ok (c_aload_n F k80 rfl)) (c_iload_n F k81 rfl)) (z_Mo_leftOf _) y_Mo_leftOf_ok lm_PageLayouterModel_146 k82 r_Mo_leftOf (by decide) (by decide)) k85 rfl (hm 3 (by decide))) (d_seq (p1 := 98) (d_if (p1 := 92) (p2 := 98) (b_lcmp_t (p1 := 87) (p2 := 88) (pj := 98) F (c_lload_n F k86 rfl) (c_lconst F k87 (by decide)) k88 k89 (by decide)) (d_callV (p1 := 95) F (a_l_ok (p1 := 94) (a_i_ok (p1 := 93) (a_r_ok (p1 := 92) a_nil_ok (c_aload_n F k92 rfl)) (c_iload_n F k93 rfl)) (c_lload_n F k94 rfl)) (z_Mo_grow _) y_Mo_grow_ok lm_PageLayouterModel_156 k95 r_Mo_grow (by decide))) (d_seq (p1 := 111) (d_istore (p1 := 109) F (c_if (p1 := 104) (p2 := 105) (p3 := 109) F (b_lcmp_t (p1 := 99) (p2 := 100) (pj := 108) F (c_lload_n F k98 rfl) (c_lconst F k99 (by decide)) k100 k101 (by decide)) (c_iconst F k104 (by decide)) k105 (by decide) (c_iconst F k108 (by decide))) k109 (hm 4 (by decide))) (d_while (p1 := 116) (p2 := 123) F (b_zero_t (p1 := 113) (pj := 126) F (c_iload F k111) k113 (by decide)) (d_istore (p1 := 121) F (c_callV (p1 := 118) F (a_i_ok (p1 := 117) (a_r_ok (p1 := 116) a_nil_ok (c_aload_n F k116 rfl)) (c_iload_n F k117 rfl)) (z_Mo_shrinkOnce _) y_Mo_shrinkOnce_ok lm_PageLayouterModel_160 k118 r_Mo_shrinkOnce (by decide) (by decide)) k121 (hm 4 (by decide))) k123 (by decide)))))) (d_retv F Fm.2.1 Fm.2.2.1 k126)))
def y_Mo_spreadTable : MethodName := ⟨"PageLayouterModel", "spreadTable", "(I)V"⟩
abbrev b_Mo_spreadTable : ByteArray := prog_10_method_33_code
abbrev n_Mo_spreadTable : Nat := 14
theorem y_Mo_spreadTable_ok : pl_MV 3 y_Mo_spreadTable b_Mo_spreadTable n_Mo_spreadTable (Option.none : Option Jvm.ClassFile.FieldType) 1 := ⟨pl_mem 912 (by decide +kernel) (by decide +kernel), pl_mem 911 (by decide +kernel) (by decide +kernel), pl_mem 33 (by decide +kernel) (by decide +kernel), pl_mem 47 (by decide +kernel) (by decide +kernel), ⟨by decide, by decide, by decide +kernel⟩, _, rfl, rfl⟩
def D_Mo_spreadTable : List (Nat × Instr × Nat) := [(0, .aload_n 0, 1), (1, .iload_n 1, 1), (2, .invokevirtual 136, 3), (5, .aload_n 0, 1), (6, .getfield 63, 3), (9, .iload_n 1, 1), (10, .iaload, 1), (11, .istore_n 2, 1), (12, .lconst 0, 1), (13, .lstore_n 3, 1), (14, .lconst 0, 1), (15, .lstore 5, 2), (17, .iconst 0, 1), (18, .istore 7, 2), (20, .iload 7, 2), (22, .iload_n 2, 1), (23, .if_icmp .ge 33, 3), (26, .lload_n 3, 1), (27, .aload_n 0, 1), (28, .getfield 69, 3), (31, .iload 7, 2), (33, .iaload, 1), (34, .i2l, 1), (35, .ladd, 1), (36, .lstore_n 3, 1), (37, .lload 5, 2), (39, .aload_n 0, 1), (40, .getfield 72, 3), (43, .iload 7, 2), (45, .iaload, 1), (46, .i2l, 1), (47, .ladd, 1), (48, .lstore 5, 2), (50, .iinc 7 1, 3), (53, .goto (-33), 3), (56, .aload_n 0, 1), (57, .getfield 45, 3), (60, .iload_n 1, 1), (61, .iaload, 1), (62, .i2l, 1), (63, .lstore 7, 2), (65, .lload 7, 2), (67, .lstore 9, 2), (69, .iconst 0, 1), (70, .istore 11, 2), (72, .iload 11, 2), (74, .iload_n 2, 1), (75, .if_icmp .ge 105, 3), (78, .lload 5, 2), (80, .lload 7, 2), (82, .lcmp, 1), (83, .ifCond .gt 14, 3), (86, .aload_n 0, 1), (87, .getfield 72, 3), (90, .iload 11, 2), (92, .iaload, 1), (93, .i2l, 1), (94, .goto 56, 3), (97, .lload_n 3, 1), (98, .lload 7, 2), (100, .lcmp, 1), (101, .ifCond .lt 14, 3), (104, .aload_n 0, 1), (105, .getfield 69, 3), (108, .iload 11, 2), (110, .iaload, 1), (111, .i2l, 1), (112, .goto 38, 3), (115, .aload_n 0, 1), (116, .getfield 69, 3), (119, .iload 11, 2), (121, .iaload, 1), (122, .i2l, 1), (123, .aload_n 0, 1), (124, .getfield 72, 3), (127, .iload 11, 2), (129, .iaload, 1), (130, .aload_n 0, 1), (131, .getfield 69, 3), (134, .iload 11, 2), (136, .iaload, 1), (137, .isub, 1), (138, .i2l, 1), (139, .lload 7, 2), (141, .lload_n 3, 1), (142, .lsub, 1), (143, .lmul, 1), (144, .lload 5, 2), (146, .lload_n 3, 1), (147, .lsub, 1), (148, .ldiv, 1), (149, .ladd, 1), (150, .lstore 12, 2), (152, .aload_n 0, 1), (153, .getfield 66, 3), (156, .bipush 40, 2), (158, .iload_n 1, 1), (159, .imul, 1), (160, .iload 11, 2), (162, .iadd, 1), (163, .lload 12, 2), (165, .l2i, 1), (166, .iastore, 1), (167, .lload 9, 2), (169, .lload 12, 2), (171, .lsub, 1), (172, .lstore 9, 2), (174, .iinc 11 1, 3), (177, .goto (-105), 3), (180, .iconst 0, 1), (181, .istore 11, 2), (183, .iload 11, 2), (185, .iload_n 2, 1), (186, .if_icmp .ge 75, 3), (189, .lload_n 3, 1), (190, .lload 7, 2), (192, .lcmp, 1), (193, .ifCond .ge 68, 3), (196, .lload 5, 2), (198, .lload 7, 2), (200, .lcmp, 1), (201, .ifCond .le 60, 3), (204, .lload 9, 2), (206, .lconst 0, 1), (207, .lcmp, 1), (208, .ifCond .le 53, 3), (211, .aload_n 0, 1), (212, .getfield 66, 3), (215, .bipush 40, 2), (217, .iload_n 1, 1), (218, .imul, 1), (219, .iload 11, 2), (221, .iadd, 1), (222, .iaload, 1), (223, .aload_n 0, 1), (224, .getfield 72, 3), (227, .iload 11, 2), (229, .iaload, 1), (230, .if_icmp .ge 25, 3), (233, .aload_n 0, 1), (234, .getfield 66, 3), (237, .bipush 40, 2), (239, .iload_n 1, 1), (240, .imul, 1), (241, .iload 11, 2), (243, .iadd, 1), (244, .dup2, 1), (245, .iaload, 1), (246, .iconst 1, 1), (247, .iadd, 1), (248, .iastore, 1), (249, .lload 9, 2), (251, .lconst 1, 1), (252, .lsub, 1), (253, .lstore 9, 2), (255, .iinc 11 1, 3), (258, .goto (-75), 3), (261, .return_, 1)]
theorem dd_Mo_spreadTable : (D_Mo_spreadTable.all fun q => decide (decode b_Mo_spreadTable q.1 = .ok q.2)) = true := by decide +kernel
def t_Mo_spreadTable : pl_TR := fun P _ _ => s_seq (s_seq (s_callV 3 t_Mo_findColumns n_Mo_findColumns (a_i (a_r a_nil (e_locr 0)) (e_loc 1))) (s_seq (s_seti 2 (e_ald 1 (e_getr 3 19 (e_locr 0)) (e_loc 1))) (s_seq (s_setl 3 (e_long 0)) (s_seq (s_setl 5 (e_long 0)) (s_seq (s_seq (s_seti 7 (e_int 0)) (s_while (b_cmp .lt (e_loc 7) (e_loc 2)) (s_seq (s_seq (s_setl 3 (e_bin (fun x y : Int64 => x + y) (e_locl 3) (e_un Int32.toInt64 (e_ald 1 (e_getr 3 21 (e_locr 0)) (e_loc 7))))) (s_setl 5 (e_bin (fun x y : Int64 => x + y) (e_locl 5) (e_un Int32.toInt64 (e_ald 1 (e_getr 3 22 (e_locr 0)) (e_loc 7)))))) (s_inc 7 1)))) (s_seq (s_setl 7 (e_un Int32.toInt64 (e_ald 1 (e_getr 3 13 (e_locr 0)) (e_loc 1)))) (s_seq (s_setl 9 (e_locl 7)) (s_seq (s_seq (s_seti 11 (e_int 0)) (s_while (b_cmp .lt (e_loc 11) (e_loc 2)) (s_seq (s_seq (s_setl 12 (e_if (b_lcmp .le (e_locl 5) (e_locl 7)) (e_un Int32.toInt64 (e_ald 1 (e_getr 3 22 (e_locr 0)) (e_loc 11))) (e_if (b_lcmp .ge (e_locl 3) (e_locl 7)) (e_un Int32.toInt64 (e_ald 1 (e_getr 3 21 (e_locr 0)) (e_loc 11))) (e_bin (fun x y : Int64 => x + y) (e_un Int32.toInt64 (e_ald 1 (e_getr 3 21 (e_locr 0)) (e_loc 11))) (e_ldiv (e_bin (fun x y : Int64 => x * y) (e_un Int32.toInt64 (e_bin (fun x y : Int32 => x - y) (e_ald 1 (e_getr 3 22 (e_locr 0)) (e_loc 11)) (e_ald 1 (e_getr 3 21 (e_locr 0)) (e_loc 11)))) (e_bin (fun x y : Int64 => x - y) (e_locl 7) (e_locl 3))) (e_bin (fun x y : Int64 => x - y) (e_locl 5) (e_locl 3))))))) (s_seq (s_iast (e_getr 3 20 (e_locr 0)) (e_bin (fun x y : Int32 => x + y) (e_bin (fun x y : Int32 => x * y) (e_int 40) (e_loc 1)) (e_loc 11)) (e_un Int64.toInt32 (e_locl 12))) (s_setl 9 (e_bin (fun x y : Int64 => x - y) (e_locl 9) (e_locl 12))))) (s_inc 11 1)))) (s_seq (s_seti 11 (e_int 0)) (s_while (b_and (b_and (b_and (b_cmp .lt (e_loc 11) (e_loc 2)) (b_lcmp .lt (e_locl 3) (e_locl 7))) (b_lcmp .gt (e_locl 5) (e_locl 7))) (b_lcmp .gt (e_locl 9) (e_long 0))) (s_seq (s_if (b_cmp .lt (e_ald 1 (e_getr 3 20 (e_locr 0)) (e_bin (fun x y : Int32 => x + y) (e_bin (fun x y : Int32 => x * y) (e_int 40) (e_loc 1)) (e_loc 11))) (e_ald 1 (e_getr 3 22 (e_locr 0)) (e_loc 11))) (s_seq (s_iupd (fun x y : Int32 => x + y) (e_getr 3 20 (e_locr 0)) (e_bin (fun x y : Int32 => x + y) (e_bin (fun x y : Int32 => x * y) (e_int 40) (e_loc 1)) (e_loc 11)) (e_int 1)) (s_setl 9 (e_bin (fun x y : Int64 => x - y) (e_locl 9) (e_long 1))))) (s_inc 11 1)))))))))))) (s_retv P)
theorem z_Mo_spreadTable (l : Launch) : pl_Ctr l y_Mo_spreadTable b_Mo_spreadTable n_Mo_spreadTable (Option.none : Option Jvm.ClassFile.FieldType) 3 67 0 0 false t_Mo_spreadTable := pl_ctr_of (pe := 0) (by decide) (fun X Y P F Fm => by
  have F : pl_Fx X Y "PageLayouterModel" b_Mo_spreadTable := F
  have r_Mo_findColumns : 2 + 1 ≤ (pl_xR X).frames ∧ 8 + (n_Mo_findColumns + 11) + 42 ≤ (pl_xR X).locals := ⟨Nat.le_trans (by decide) Fm.2.2.2.2.2.1, Nat.le_trans (by decide) Fm.2.2.2.2.2.2.1⟩
  have hm : ∀ i, i < 14 → i < (pl_xc X).maxLocals := fun i h => by rw [Fm.2.2.2.1]; exact h
  have k0 : decode b_Mo_spreadTable 0 = .ok (.aload_n 0, 1) := pl_dc dd_Mo_spreadTable 0 (q := (0, .aload_n 0, 1)) rfl
  have k1 : decode b_Mo_spreadTable 1 = .ok (.iload_n 1, 1) := pl_dc dd_Mo_spreadTable 1 (q := (1, .iload_n 1, 1)) rfl
  have k2 : decode b_Mo_spreadTable 2 = .ok (.invokevirtual 136, 3) := pl_dc dd_Mo_spreadTable 2 (q := (2, .invokevirtual 136, 3)) rfl
  have k5 : decode b_Mo_spreadTable 5 = .ok (.aload_n 0, 1) := pl_dc dd_Mo_spreadTable 3 (q := (5, .aload_n 0, 1)) rfl
  have k6 : decode b_Mo_spreadTable 6 = .ok (.getfield 63, 3) := pl_dc dd_Mo_spreadTable 4 (q := (6, .getfield 63, 3)) rfl
  have k9 : decode b_Mo_spreadTable 9 = .ok (.iload_n 1, 1) := pl_dc dd_Mo_spreadTable 5 (q := (9, .iload_n 1, 1)) rfl
  have k10 : decode b_Mo_spreadTable 10 = .ok (.iaload, 1) := pl_dc dd_Mo_spreadTable 6 (q := (10, .iaload, 1)) rfl
  have k11 : decode b_Mo_spreadTable 11 = .ok (.istore_n 2, 1) := pl_dc dd_Mo_spreadTable 7 (q := (11, .istore_n 2, 1)) rfl
  have k12 : decode b_Mo_spreadTable 12 = .ok (.lconst 0, 1) := pl_dc dd_Mo_spreadTable 8 (q := (12, .lconst 0, 1)) rfl
  have k13 : decode b_Mo_spreadTable 13 = .ok (.lstore_n 3, 1) := pl_dc dd_Mo_spreadTable 9 (q := (13, .lstore_n 3, 1)) rfl
  have k14 : decode b_Mo_spreadTable 14 = .ok (.lconst 0, 1) := pl_dc dd_Mo_spreadTable 10 (q := (14, .lconst 0, 1)) rfl
  have k15 : decode b_Mo_spreadTable 15 = .ok (.lstore 5, 2) := pl_dc dd_Mo_spreadTable 11 (q := (15, .lstore 5, 2)) rfl
  have k17 : decode b_Mo_spreadTable 17 = .ok (.iconst 0, 1) := pl_dc dd_Mo_spreadTable 12 (q := (17, .iconst 0, 1)) rfl
  have k18 : decode b_Mo_spreadTable 18 = .ok (.istore 7, 2) := pl_dc dd_Mo_spreadTable 13 (q := (18, .istore 7, 2)) rfl
  have k20 : decode b_Mo_spreadTable 20 = .ok (.iload 7, 2) := pl_dc dd_Mo_spreadTable 14 (q := (20, .iload 7, 2)) rfl
  have k22 : decode b_Mo_spreadTable 22 = .ok (.iload_n 2, 1) := pl_dc dd_Mo_spreadTable 15 (q := (22, .iload_n 2, 1)) rfl
  have k23 : decode b_Mo_spreadTable 23 = .ok (.if_icmp .ge 33, 3) := pl_dc dd_Mo_spreadTable 16 (q := (23, .if_icmp .ge 33, 3)) rfl
  have k26 : decode b_Mo_spreadTable 26 = .ok (.lload_n 3, 1) := pl_dc dd_Mo_spreadTable 17 (q := (26, .lload_n 3, 1)) rfl
  have k27 : decode b_Mo_spreadTable 27 = .ok (.aload_n 0, 1) := pl_dc dd_Mo_spreadTable 18 (q := (27, .aload_n 0, 1)) rfl
  have k28 : decode b_Mo_spreadTable 28 = .ok (.getfield 69, 3) := pl_dc dd_Mo_spreadTable 19 (q := (28, .getfield 69, 3)) rfl
  have k31 : decode b_Mo_spreadTable 31 = .ok (.iload 7, 2) := pl_dc dd_Mo_spreadTable 20 (q := (31, .iload 7, 2)) rfl
  have k33 : decode b_Mo_spreadTable 33 = .ok (.iaload, 1) := pl_dc dd_Mo_spreadTable 21 (q := (33, .iaload, 1)) rfl
  have k34 : decode b_Mo_spreadTable 34 = .ok (.i2l, 1) := pl_dc dd_Mo_spreadTable 22 (q := (34, .i2l, 1)) rfl
  have k35 : decode b_Mo_spreadTable 35 = .ok (.ladd, 1) := pl_dc dd_Mo_spreadTable 23 (q := (35, .ladd, 1)) rfl
  have k36 : decode b_Mo_spreadTable 36 = .ok (.lstore_n 3, 1) := pl_dc dd_Mo_spreadTable 24 (q := (36, .lstore_n 3, 1)) rfl
  have k37 : decode b_Mo_spreadTable 37 = .ok (.lload 5, 2) := pl_dc dd_Mo_spreadTable 25 (q := (37, .lload 5, 2)) rfl
  have k39 : decode b_Mo_spreadTable 39 = .ok (.aload_n 0, 1) := pl_dc dd_Mo_spreadTable 26 (q := (39, .aload_n 0, 1)) rfl
  have k40 : decode b_Mo_spreadTable 40 = .ok (.getfield 72, 3) := pl_dc dd_Mo_spreadTable 27 (q := (40, .getfield 72, 3)) rfl
  have k43 : decode b_Mo_spreadTable 43 = .ok (.iload 7, 2) := pl_dc dd_Mo_spreadTable 28 (q := (43, .iload 7, 2)) rfl
  have k45 : decode b_Mo_spreadTable 45 = .ok (.iaload, 1) := pl_dc dd_Mo_spreadTable 29 (q := (45, .iaload, 1)) rfl
  have k46 : decode b_Mo_spreadTable 46 = .ok (.i2l, 1) := pl_dc dd_Mo_spreadTable 30 (q := (46, .i2l, 1)) rfl
  have k47 : decode b_Mo_spreadTable 47 = .ok (.ladd, 1) := pl_dc dd_Mo_spreadTable 31 (q := (47, .ladd, 1)) rfl
  have k48 : decode b_Mo_spreadTable 48 = .ok (.lstore 5, 2) := pl_dc dd_Mo_spreadTable 32 (q := (48, .lstore 5, 2)) rfl
  have k50 : decode b_Mo_spreadTable 50 = .ok (.iinc 7 1, 3) := pl_dc dd_Mo_spreadTable 33 (q := (50, .iinc 7 1, 3)) rfl
  have k53 : decode b_Mo_spreadTable 53 = .ok (.goto (-33), 3) := pl_dc dd_Mo_spreadTable 34 (q := (53, .goto (-33), 3)) rfl
  have k56 : decode b_Mo_spreadTable 56 = .ok (.aload_n 0, 1) := pl_dc dd_Mo_spreadTable 35 (q := (56, .aload_n 0, 1)) rfl
  have k57 : decode b_Mo_spreadTable 57 = .ok (.getfield 45, 3) := pl_dc dd_Mo_spreadTable 36 (q := (57, .getfield 45, 3)) rfl
  have k60 : decode b_Mo_spreadTable 60 = .ok (.iload_n 1, 1) := pl_dc dd_Mo_spreadTable 37 (q := (60, .iload_n 1, 1)) rfl
  have k61 : decode b_Mo_spreadTable 61 = .ok (.iaload, 1) := pl_dc dd_Mo_spreadTable 38 (q := (61, .iaload, 1)) rfl
  have k62 : decode b_Mo_spreadTable 62 = .ok (.i2l, 1) := pl_dc dd_Mo_spreadTable 39 (q := (62, .i2l, 1)) rfl
  have k63 : decode b_Mo_spreadTable 63 = .ok (.lstore 7, 2) := pl_dc dd_Mo_spreadTable 40 (q := (63, .lstore 7, 2)) rfl
  have k65 : decode b_Mo_spreadTable 65 = .ok (.lload 7, 2) := pl_dc dd_Mo_spreadTable 41 (q := (65, .lload 7, 2)) rfl
  have k67 : decode b_Mo_spreadTable 67 = .ok (.lstore 9, 2) := pl_dc dd_Mo_spreadTable 42 (q := (67, .lstore 9, 2)) rfl
  have k69 : decode b_Mo_spreadTable 69 = .ok (.iconst 0, 1) := pl_dc dd_Mo_spreadTable 43 (q := (69, .iconst 0, 1)) rfl
  have k70 : decode b_Mo_spreadTable 70 = .ok (.istore 11, 2) := pl_dc dd_Mo_spreadTable 44 (q := (70, .istore 11, 2)) rfl
  have k72 : decode b_Mo_spreadTable 72 = .ok (.iload 11, 2) := pl_dc dd_Mo_spreadTable 45 (q := (72, .iload 11, 2)) rfl
  have k74 : decode b_Mo_spreadTable 74 = .ok (.iload_n 2, 1) := pl_dc dd_Mo_spreadTable 46 (q := (74, .iload_n 2, 1)) rfl
  have k75 : decode b_Mo_spreadTable 75 = .ok (.if_icmp .ge 105, 3) := pl_dc dd_Mo_spreadTable 47 (q := (75, .if_icmp .ge 105, 3)) rfl
  have k78 : decode b_Mo_spreadTable 78 = .ok (.lload 5, 2) := pl_dc dd_Mo_spreadTable 48 (q := (78, .lload 5, 2)) rfl
  have k80 : decode b_Mo_spreadTable 80 = .ok (.lload 7, 2) := pl_dc dd_Mo_spreadTable 49 (q := (80, .lload 7, 2)) rfl
  have k82 : decode b_Mo_spreadTable 82 = .ok (.lcmp, 1) := pl_dc dd_Mo_spreadTable 50 (q := (82, .lcmp, 1)) rfl
  have k83 : decode b_Mo_spreadTable 83 = .ok (.ifCond .gt 14, 3) := pl_dc dd_Mo_spreadTable 51 (q := (83, .ifCond .gt 14, 3)) rfl
  have k86 : decode b_Mo_spreadTable 86 = .ok (.aload_n 0, 1) := pl_dc dd_Mo_spreadTable 52 (q := (86, .aload_n 0, 1)) rfl
  have k87 : decode b_Mo_spreadTable 87 = .ok (.getfield 72, 3) := pl_dc dd_Mo_spreadTable 53 (q := (87, .getfield 72, 3)) rfl
  have k90 : decode b_Mo_spreadTable 90 = .ok (.iload 11, 2) := pl_dc dd_Mo_spreadTable 54 (q := (90, .iload 11, 2)) rfl
  have k92 : decode b_Mo_spreadTable 92 = .ok (.iaload, 1) := pl_dc dd_Mo_spreadTable 55 (q := (92, .iaload, 1)) rfl
  have k93 : decode b_Mo_spreadTable 93 = .ok (.i2l, 1) := pl_dc dd_Mo_spreadTable 56 (q := (93, .i2l, 1)) rfl
  have k94 : decode b_Mo_spreadTable 94 = .ok (.goto 56, 3) := pl_dc dd_Mo_spreadTable 57 (q := (94, .goto 56, 3)) rfl
  have k97 : decode b_Mo_spreadTable 97 = .ok (.lload_n 3, 1) := pl_dc dd_Mo_spreadTable 58 (q := (97, .lload_n 3, 1)) rfl
  have k98 : decode b_Mo_spreadTable 98 = .ok (.lload 7, 2) := pl_dc dd_Mo_spreadTable 59 (q := (98, .lload 7, 2)) rfl
  have k100 : decode b_Mo_spreadTable 100 = .ok (.lcmp, 1) := pl_dc dd_Mo_spreadTable 60 (q := (100, .lcmp, 1)) rfl
  have k101 : decode b_Mo_spreadTable 101 = .ok (.ifCond .lt 14, 3) := pl_dc dd_Mo_spreadTable 61 (q := (101, .ifCond .lt 14, 3)) rfl
  have k104 : decode b_Mo_spreadTable 104 = .ok (.aload_n 0, 1) := pl_dc dd_Mo_spreadTable 62 (q := (104, .aload_n 0, 1)) rfl
  have k105 : decode b_Mo_spreadTable 105 = .ok (.getfield 69, 3) := pl_dc dd_Mo_spreadTable 63 (q := (105, .getfield 69, 3)) rfl
  have k108 : decode b_Mo_spreadTable 108 = .ok (.iload 11, 2) := pl_dc dd_Mo_spreadTable 64 (q := (108, .iload 11, 2)) rfl
  have k110 : decode b_Mo_spreadTable 110 = .ok (.iaload, 1) := pl_dc dd_Mo_spreadTable 65 (q := (110, .iaload, 1)) rfl
  have k111 : decode b_Mo_spreadTable 111 = .ok (.i2l, 1) := pl_dc dd_Mo_spreadTable 66 (q := (111, .i2l, 1)) rfl
  have k112 : decode b_Mo_spreadTable 112 = .ok (.goto 38, 3) := pl_dc dd_Mo_spreadTable 67 (q := (112, .goto 38, 3)) rfl
  have k115 : decode b_Mo_spreadTable 115 = .ok (.aload_n 0, 1) := pl_dc dd_Mo_spreadTable 68 (q := (115, .aload_n 0, 1)) rfl
  have k116 : decode b_Mo_spreadTable 116 = .ok (.getfield 69, 3) := pl_dc dd_Mo_spreadTable 69 (q := (116, .getfield 69, 3)) rfl
  have k119 : decode b_Mo_spreadTable 119 = .ok (.iload 11, 2) := pl_dc dd_Mo_spreadTable 70 (q := (119, .iload 11, 2)) rfl
  have k121 : decode b_Mo_spreadTable 121 = .ok (.iaload, 1) := pl_dc dd_Mo_spreadTable 71 (q := (121, .iaload, 1)) rfl
  have k122 : decode b_Mo_spreadTable 122 = .ok (.i2l, 1) := pl_dc dd_Mo_spreadTable 72 (q := (122, .i2l, 1)) rfl
  have k123 : decode b_Mo_spreadTable 123 = .ok (.aload_n 0, 1) := pl_dc dd_Mo_spreadTable 73 (q := (123, .aload_n 0, 1)) rfl
  have k124 : decode b_Mo_spreadTable 124 = .ok (.getfield 72, 3) := pl_dc dd_Mo_spreadTable 74 (q := (124, .getfield 72, 3)) rfl
  have k127 : decode b_Mo_spreadTable 127 = .ok (.iload 11, 2) := pl_dc dd_Mo_spreadTable 75 (q := (127, .iload 11, 2)) rfl
  have k129 : decode b_Mo_spreadTable 129 = .ok (.iaload, 1) := pl_dc dd_Mo_spreadTable 76 (q := (129, .iaload, 1)) rfl
  have k130 : decode b_Mo_spreadTable 130 = .ok (.aload_n 0, 1) := pl_dc dd_Mo_spreadTable 77 (q := (130, .aload_n 0, 1)) rfl
  have k131 : decode b_Mo_spreadTable 131 = .ok (.getfield 69, 3) := pl_dc dd_Mo_spreadTable 78 (q := (131, .getfield 69, 3)) rfl
  have k134 : decode b_Mo_spreadTable 134 = .ok (.iload 11, 2) := pl_dc dd_Mo_spreadTable 79 (q := (134, .iload 11, 2)) rfl
  have k136 : decode b_Mo_spreadTable 136 = .ok (.iaload, 1) := pl_dc dd_Mo_spreadTable 80 (q := (136, .iaload, 1)) rfl
  have k137 : decode b_Mo_spreadTable 137 = .ok (.isub, 1) := pl_dc dd_Mo_spreadTable 81 (q := (137, .isub, 1)) rfl
  have k138 : decode b_Mo_spreadTable 138 = .ok (.i2l, 1) := pl_dc dd_Mo_spreadTable 82 (q := (138, .i2l, 1)) rfl
  have k139 : decode b_Mo_spreadTable 139 = .ok (.lload 7, 2) := pl_dc dd_Mo_spreadTable 83 (q := (139, .lload 7, 2)) rfl
  have k141 : decode b_Mo_spreadTable 141 = .ok (.lload_n 3, 1) := pl_dc dd_Mo_spreadTable 84 (q := (141, .lload_n 3, 1)) rfl
  have k142 : decode b_Mo_spreadTable 142 = .ok (.lsub, 1) := pl_dc dd_Mo_spreadTable 85 (q := (142, .lsub, 1)) rfl
  have k143 : decode b_Mo_spreadTable 143 = .ok (.lmul, 1) := pl_dc dd_Mo_spreadTable 86 (q := (143, .lmul, 1)) rfl
  have k144 : decode b_Mo_spreadTable 144 = .ok (.lload 5, 2) := pl_dc dd_Mo_spreadTable 87 (q := (144, .lload 5, 2)) rfl
  have k146 : decode b_Mo_spreadTable 146 = .ok (.lload_n 3, 1) := pl_dc dd_Mo_spreadTable 88 (q := (146, .lload_n 3, 1)) rfl
  have k147 : decode b_Mo_spreadTable 147 = .ok (.lsub, 1) := pl_dc dd_Mo_spreadTable 89 (q := (147, .lsub, 1)) rfl
  have k148 : decode b_Mo_spreadTable 148 = .ok (.ldiv, 1) := pl_dc dd_Mo_spreadTable 90 (q := (148, .ldiv, 1)) rfl
  have k149 : decode b_Mo_spreadTable 149 = .ok (.ladd, 1) := pl_dc dd_Mo_spreadTable 91 (q := (149, .ladd, 1)) rfl
  have k150 : decode b_Mo_spreadTable 150 = .ok (.lstore 12, 2) := pl_dc dd_Mo_spreadTable 92 (q := (150, .lstore 12, 2)) rfl
  have k152 : decode b_Mo_spreadTable 152 = .ok (.aload_n 0, 1) := pl_dc dd_Mo_spreadTable 93 (q := (152, .aload_n 0, 1)) rfl
  have k153 : decode b_Mo_spreadTable 153 = .ok (.getfield 66, 3) := pl_dc dd_Mo_spreadTable 94 (q := (153, .getfield 66, 3)) rfl
  have k156 : decode b_Mo_spreadTable 156 = .ok (.bipush 40, 2) := pl_dc dd_Mo_spreadTable 95 (q := (156, .bipush 40, 2)) rfl
  have k158 : decode b_Mo_spreadTable 158 = .ok (.iload_n 1, 1) := pl_dc dd_Mo_spreadTable 96 (q := (158, .iload_n 1, 1)) rfl
  have k159 : decode b_Mo_spreadTable 159 = .ok (.imul, 1) := pl_dc dd_Mo_spreadTable 97 (q := (159, .imul, 1)) rfl
  have k160 : decode b_Mo_spreadTable 160 = .ok (.iload 11, 2) := pl_dc dd_Mo_spreadTable 98 (q := (160, .iload 11, 2)) rfl
  have k162 : decode b_Mo_spreadTable 162 = .ok (.iadd, 1) := pl_dc dd_Mo_spreadTable 99 (q := (162, .iadd, 1)) rfl
  have k163 : decode b_Mo_spreadTable 163 = .ok (.lload 12, 2) := pl_dc dd_Mo_spreadTable 100 (q := (163, .lload 12, 2)) rfl
  have k165 : decode b_Mo_spreadTable 165 = .ok (.l2i, 1) := pl_dc dd_Mo_spreadTable 101 (q := (165, .l2i, 1)) rfl
  have k166 : decode b_Mo_spreadTable 166 = .ok (.iastore, 1) := pl_dc dd_Mo_spreadTable 102 (q := (166, .iastore, 1)) rfl
  have k167 : decode b_Mo_spreadTable 167 = .ok (.lload 9, 2) := pl_dc dd_Mo_spreadTable 103 (q := (167, .lload 9, 2)) rfl
  have k169 : decode b_Mo_spreadTable 169 = .ok (.lload 12, 2) := pl_dc dd_Mo_spreadTable 104 (q := (169, .lload 12, 2)) rfl
  have k171 : decode b_Mo_spreadTable 171 = .ok (.lsub, 1) := pl_dc dd_Mo_spreadTable 105 (q := (171, .lsub, 1)) rfl
  have k172 : decode b_Mo_spreadTable 172 = .ok (.lstore 9, 2) := pl_dc dd_Mo_spreadTable 106 (q := (172, .lstore 9, 2)) rfl
  have k174 : decode b_Mo_spreadTable 174 = .ok (.iinc 11 1, 3) := pl_dc dd_Mo_spreadTable 107 (q := (174, .iinc 11 1, 3)) rfl
  have k177 : decode b_Mo_spreadTable 177 = .ok (.goto (-105), 3) := pl_dc dd_Mo_spreadTable 108 (q := (177, .goto (-105), 3)) rfl
  have k180 : decode b_Mo_spreadTable 180 = .ok (.iconst 0, 1) := pl_dc dd_Mo_spreadTable 109 (q := (180, .iconst 0, 1)) rfl
  have k181 : decode b_Mo_spreadTable 181 = .ok (.istore 11, 2) := pl_dc dd_Mo_spreadTable 110 (q := (181, .istore 11, 2)) rfl
  have k183 : decode b_Mo_spreadTable 183 = .ok (.iload 11, 2) := pl_dc dd_Mo_spreadTable 111 (q := (183, .iload 11, 2)) rfl
  have k185 : decode b_Mo_spreadTable 185 = .ok (.iload_n 2, 1) := pl_dc dd_Mo_spreadTable 112 (q := (185, .iload_n 2, 1)) rfl
  have k186 : decode b_Mo_spreadTable 186 = .ok (.if_icmp .ge 75, 3) := pl_dc dd_Mo_spreadTable 113 (q := (186, .if_icmp .ge 75, 3)) rfl
  have k189 : decode b_Mo_spreadTable 189 = .ok (.lload_n 3, 1) := pl_dc dd_Mo_spreadTable 114 (q := (189, .lload_n 3, 1)) rfl
  have k190 : decode b_Mo_spreadTable 190 = .ok (.lload 7, 2) := pl_dc dd_Mo_spreadTable 115 (q := (190, .lload 7, 2)) rfl
  have k192 : decode b_Mo_spreadTable 192 = .ok (.lcmp, 1) := pl_dc dd_Mo_spreadTable 116 (q := (192, .lcmp, 1)) rfl
  have k193 : decode b_Mo_spreadTable 193 = .ok (.ifCond .ge 68, 3) := pl_dc dd_Mo_spreadTable 117 (q := (193, .ifCond .ge 68, 3)) rfl
  have k196 : decode b_Mo_spreadTable 196 = .ok (.lload 5, 2) := pl_dc dd_Mo_spreadTable 118 (q := (196, .lload 5, 2)) rfl
  have k198 : decode b_Mo_spreadTable 198 = .ok (.lload 7, 2) := pl_dc dd_Mo_spreadTable 119 (q := (198, .lload 7, 2)) rfl
  have k200 : decode b_Mo_spreadTable 200 = .ok (.lcmp, 1) := pl_dc dd_Mo_spreadTable 120 (q := (200, .lcmp, 1)) rfl
  have k201 : decode b_Mo_spreadTable 201 = .ok (.ifCond .le 60, 3) := pl_dc dd_Mo_spreadTable 121 (q := (201, .ifCond .le 60, 3)) rfl
  have k204 : decode b_Mo_spreadTable 204 = .ok (.lload 9, 2) := pl_dc dd_Mo_spreadTable 122 (q := (204, .lload 9, 2)) rfl
  have k206 : decode b_Mo_spreadTable 206 = .ok (.lconst 0, 1) := pl_dc dd_Mo_spreadTable 123 (q := (206, .lconst 0, 1)) rfl
  have k207 : decode b_Mo_spreadTable 207 = .ok (.lcmp, 1) := pl_dc dd_Mo_spreadTable 124 (q := (207, .lcmp, 1)) rfl
  have k208 : decode b_Mo_spreadTable 208 = .ok (.ifCond .le 53, 3) := pl_dc dd_Mo_spreadTable 125 (q := (208, .ifCond .le 53, 3)) rfl
  have k211 : decode b_Mo_spreadTable 211 = .ok (.aload_n 0, 1) := pl_dc dd_Mo_spreadTable 126 (q := (211, .aload_n 0, 1)) rfl
  have k212 : decode b_Mo_spreadTable 212 = .ok (.getfield 66, 3) := pl_dc dd_Mo_spreadTable 127 (q := (212, .getfield 66, 3)) rfl
  have k215 : decode b_Mo_spreadTable 215 = .ok (.bipush 40, 2) := pl_dc dd_Mo_spreadTable 128 (q := (215, .bipush 40, 2)) rfl
  have k217 : decode b_Mo_spreadTable 217 = .ok (.iload_n 1, 1) := pl_dc dd_Mo_spreadTable 129 (q := (217, .iload_n 1, 1)) rfl
  have k218 : decode b_Mo_spreadTable 218 = .ok (.imul, 1) := pl_dc dd_Mo_spreadTable 130 (q := (218, .imul, 1)) rfl
  have k219 : decode b_Mo_spreadTable 219 = .ok (.iload 11, 2) := pl_dc dd_Mo_spreadTable 131 (q := (219, .iload 11, 2)) rfl
  have k221 : decode b_Mo_spreadTable 221 = .ok (.iadd, 1) := pl_dc dd_Mo_spreadTable 132 (q := (221, .iadd, 1)) rfl
  have k222 : decode b_Mo_spreadTable 222 = .ok (.iaload, 1) := pl_dc dd_Mo_spreadTable 133 (q := (222, .iaload, 1)) rfl
  have k223 : decode b_Mo_spreadTable 223 = .ok (.aload_n 0, 1) := pl_dc dd_Mo_spreadTable 134 (q := (223, .aload_n 0, 1)) rfl
  have k224 : decode b_Mo_spreadTable 224 = .ok (.getfield 72, 3) := pl_dc dd_Mo_spreadTable 135 (q := (224, .getfield 72, 3)) rfl
  have k227 : decode b_Mo_spreadTable 227 = .ok (.iload 11, 2) := pl_dc dd_Mo_spreadTable 136 (q := (227, .iload 11, 2)) rfl
  have k229 : decode b_Mo_spreadTable 229 = .ok (.iaload, 1) := pl_dc dd_Mo_spreadTable 137 (q := (229, .iaload, 1)) rfl
  have k230 : decode b_Mo_spreadTable 230 = .ok (.if_icmp .ge 25, 3) := pl_dc dd_Mo_spreadTable 138 (q := (230, .if_icmp .ge 25, 3)) rfl
  have k233 : decode b_Mo_spreadTable 233 = .ok (.aload_n 0, 1) := pl_dc dd_Mo_spreadTable 139 (q := (233, .aload_n 0, 1)) rfl
  have k234 : decode b_Mo_spreadTable 234 = .ok (.getfield 66, 3) := pl_dc dd_Mo_spreadTable 140 (q := (234, .getfield 66, 3)) rfl
  have k237 : decode b_Mo_spreadTable 237 = .ok (.bipush 40, 2) := pl_dc dd_Mo_spreadTable 141 (q := (237, .bipush 40, 2)) rfl
  have k239 : decode b_Mo_spreadTable 239 = .ok (.iload_n 1, 1) := pl_dc dd_Mo_spreadTable 142 (q := (239, .iload_n 1, 1)) rfl
  have k240 : decode b_Mo_spreadTable 240 = .ok (.imul, 1) := pl_dc dd_Mo_spreadTable 143 (q := (240, .imul, 1)) rfl
  have k241 : decode b_Mo_spreadTable 241 = .ok (.iload 11, 2) := pl_dc dd_Mo_spreadTable 144 (q := (241, .iload 11, 2)) rfl
  have k243 : decode b_Mo_spreadTable 243 = .ok (.iadd, 1) := pl_dc dd_Mo_spreadTable 145 (q := (243, .iadd, 1)) rfl
  have k244 : decode b_Mo_spreadTable 244 = .ok (.dup2, 1) := pl_dc dd_Mo_spreadTable 146 (q := (244, .dup2, 1)) rfl
  have k245 : decode b_Mo_spreadTable 245 = .ok (.iaload, 1) := pl_dc dd_Mo_spreadTable 147 (q := (245, .iaload, 1)) rfl
  have k246 : decode b_Mo_spreadTable 246 = .ok (.iconst 1, 1) := pl_dc dd_Mo_spreadTable 148 (q := (246, .iconst 1, 1)) rfl
  have k247 : decode b_Mo_spreadTable 247 = .ok (.iadd, 1) := pl_dc dd_Mo_spreadTable 149 (q := (247, .iadd, 1)) rfl
  have k248 : decode b_Mo_spreadTable 248 = .ok (.iastore, 1) := pl_dc dd_Mo_spreadTable 150 (q := (248, .iastore, 1)) rfl
  have k249 : decode b_Mo_spreadTable 249 = .ok (.lload 9, 2) := pl_dc dd_Mo_spreadTable 151 (q := (249, .lload 9, 2)) rfl
  have k251 : decode b_Mo_spreadTable 251 = .ok (.lconst 1, 1) := pl_dc dd_Mo_spreadTable 152 (q := (251, .lconst 1, 1)) rfl
  have k252 : decode b_Mo_spreadTable 252 = .ok (.lsub, 1) := pl_dc dd_Mo_spreadTable 153 (q := (252, .lsub, 1)) rfl
  have k253 : decode b_Mo_spreadTable 253 = .ok (.lstore 9, 2) := pl_dc dd_Mo_spreadTable 154 (q := (253, .lstore 9, 2)) rfl
  have k255 : decode b_Mo_spreadTable 255 = .ok (.iinc 11 1, 3) := pl_dc dd_Mo_spreadTable 155 (q := (255, .iinc 11 1, 3)) rfl
  have k258 : decode b_Mo_spreadTable 258 = .ok (.goto (-75), 3) := pl_dc dd_Mo_spreadTable 156 (q := (258, .goto (-75), 3)) rfl
  have k261 : decode b_Mo_spreadTable 261 = .ok (.return_, 1) := pl_dc dd_Mo_spreadTable 157 (q := (261, .return_, 1)) rfl
  exact (d_seq (p1 := 261) (d_seq (p1 := 5) (d_callV (p1 := 2) F (a_i_ok (p1 := 1) (a_r_ok (p1 := 0) a_nil_ok (c_aload_n F k0 rfl)) (c_iload_n F k1 rfl)) (z_Mo_findColumns _) y_Mo_findColumns_ok lm_PageLayouterModel_136 k2 r_Mo_findColumns (by decide)) (d_seq (p1 := 12) (d_istore_n (p1 := 11) F (c_iald (p1 := 9) (p2 := 10) F (c_getr (p1 := 6) F 3 19 hg_3_19 (c_aload_n F k5 rfl) k6 lf_PageLayouterModel_63) (c_iload_n F k9 rfl) k10) k11 rfl (hm 2 (by decide))) (d_seq (p1 := 14) (d_lstore_n (p1 := 13) F (c_lconst F k12 (by decide)) k13 rfl (hm 4 (by decide))) (d_seq (p1 := 17) (d_lstore (p1 := 15) F (c_lconst F k14 (by decide)) k15 (hm 6 (by decide))) (d_seq (p1 := 56) (d_seq (p1 := 20) (d_istore (p1 := 18) F (c_iconst F k17 (by decide)) k18 (hm 7 (by decide))) (d_while (p1 := 26) (p2 := 53) F (b_cmp_t (p1 := 22) (p2 := 23) (pj := 56) F (c_iload F k20) (c_iload_n F k22 rfl) k23 (by decide)) (d_seq (p1 := 50) (d_seq (p1 := 37) (d_lstore_n (p1 := 36) F (c_bin 2 (p1 := 27) (p2 := 35) (c_lload_n F k26 rfl) (c_un (p1 := 34) (c_iald (p1 := 31) (p2 := 33) F (c_getr (p1 := 28) F 3 21 hg_3_21 (c_aload_n F k27 rfl) k28 lf_PageLayouterModel_69) (c_iload F k31) k33) (j_i2l F k34)) pl_c2 (j_ladd F k35)) k36 rfl (hm 4 (by decide))) (d_lstore (p1 := 48) F (c_bin 2 (p1 := 39) (p2 := 47) (c_lload F k37) (c_un (p1 := 46) (c_iald (p1 := 43) (p2 := 45) F (c_getr (p1 := 40) F 3 22 hg_3_22 (c_aload_n F k39 rfl) k40 lf_PageLayouterModel_72) (c_iload F k43) k45) (j_i2l F k46)) pl_c2 (j_ladd F k47)) k48 (hm 6 (by decide)))) (d_iinc F k50 (by decide) (hm 7 (by decide)))) k53 (by decide))) (d_seq (p1 := 65) (d_lstore (p1 := 63) F (c_un (p1 := 62) (c_iald (p1 := 60) (p2 := 61) F (c_getr (p1 := 57) F 3 13 hg_3_13 (c_aload_n F k56 rfl) k57 lf_PageLayouterModel_45) (c_iload_n F k60 rfl) k61) (j_i2l F k62)) k63 (hm 8 (by decide))) (d_seq (p1 := 69) (d_lstore (p1 := 67) F (c_lload F k65) k67 (hm 10 (by decide))) (d_seq (p1 := 180) (d_seq (p1 := 72) (d_istore (p1 := 70) F (c_iconst F k69 (by decide)) k70 (hm 11 (by decide))) (d_while (p1 := 78) (p2 := 177) F (b_cmp_t (p1 := 74) (p2 := 75) (pj := 180) F (c_iload F k72) (c_iload_n F k74 rfl) k75 (by decide)) (d_seq (p1 := 174) (d_seq (p1 := 152) (d_lstore (p1 := 150) F (c_if (p1 := 86) (p2 := 94) (p3 := 150) F (b_lcmp_t (p1 := 80) (p2 := 82) (pj := 97) F (c_lload F k78) (c_lload F k80) k82 k83 (by decide)) (c_un (p1 := 93) (c_iald (p1 := 90) (p2 := 92) F (c_getr (p1 := 87) F 3 22 hg_3_22 (c_aload_n F k86 rfl) k87 lf_PageLayouterModel_72) (c_iload F k90) k92) (j_i2l F k93)) k94 (by decide) (c_if (p1 := 104) (p2 := 112) (p3 := 150) F (b_lcmp_t (p1 := 98) (p2 := 100) (pj := 115) F (c_lload_n F k97 rfl) (c_lload F k98) k100 k101 (by decide)) (c_un (p1 := 111) (c_iald (p1 := 108) (p2 := 110) F (c_getr (p1 := 105) F 3 21 hg_3_21 (c_aload_n F k104 rfl) k105 lf_PageLayouterModel_69) (c_iload F k108) k110) (j_i2l F k111)) k112 (by decide) (c_bin 2 (p1 := 123) (p2 := 149) (c_un (p1 := 122) (c_iald (p1 := 119) (p2 := 121) F (c_getr (p1 := 116) F 3 21 hg_3_21 (c_aload_n F k115 rfl) k116 lf_PageLayouterModel_69) (c_iload F k119) k121) (j_i2l F k122)) (c_ldiv (p1 := 144) (p2 := 148) F (c_bin 2 (p1 := 139) (p2 := 143) (c_un (p1 := 138) (c_bin 1 (p1 := 130) (p2 := 137) (c_iald (p1 := 127) (p2 := 129) F (c_getr (p1 := 124) F 3 22 hg_3_22 (c_aload_n F k123 rfl) k124 lf_PageLayouterModel_72) (c_iload F k127) k129) (c_iald (p1 := 134) (p2 := 136) F (c_getr (p1 := 131) F 3 21 hg_3_21 (c_aload_n F k130 rfl) k131 lf_PageLayouterModel_69) (c_iload F k134) k136) pl_c1 (j_isub F k137)) (j_i2l F k138)) (c_bin 2 (p1 := 141) (p2 := 142) (c_lload F k139) (c_lload_n F k141 rfl) pl_c2 (j_lsub F k142)) pl_c2 (j_lmul F k143)) (c_bin 2 (p1 := 146) (p2 := 147) (c_lload F k144) (c_lload_n F k146 rfl) pl_c2 (j_lsub F k147)) k148) pl_c2 (j_ladd F k149)))) k150 (hm 13 (by decide))) (d_seq (p1 := 167) (d_iast (p1 := 156) (p2 := 163) (p3 := 166) F (c_getr (p1 := 153) F 3 20 hg_3_20 (c_aload_n F k152 rfl) k153 lf_PageLayouterModel_66) (c_bin 1 (p1 := 160) (p2 := 162) (c_bin 1 (p1 := 158) (p2 := 159) (c_bipush F k156 (by decide)) (c_iload_n F k158 rfl) pl_c1 (j_imul F k159)) (c_iload F k160) pl_c1 (j_iadd F k162)) (c_un (p1 := 165) (c_lload F k163) (j_l2i F k165)) k166) (d_lstore (p1 := 172) F (c_bin 2 (p1 := 169) (p2 := 171) (c_lload F k167) (c_lload F k169) pl_c2 (j_lsub F k171)) k172 (hm 10 (by decide))))) (d_iinc F k174 (by decide) (hm 11 (by decide)))) k177 (by decide))) (d_seq (p1 := 183) (d_istore (p1 := 181) F (c_iconst F k180 (by decide)) k181 (hm 11 (by decide))) (d_while (p1 := 211) (p2 := 258) F (b_and_t (p1 := 204) (b_and_t (p1 := 196) (b_and_t (p1 := 189) (b_cmp_t (p1 := 185) (p2 := 186) (pj := 261) F (c_iload F k183) (c_iload_n F k185 rfl) k186 (by decide)) (b_lcmp_t (p1 := 190) (p2 := 192) (pj := 261) F (c_lload_n F k189 rfl) (c_lload F k190) k192 k193 (by decide))) (b_lcmp_t (p1 := 198) (p2 := 200) (pj := 261) F (c_lload F k196) (c_lload F k198) k200 k201 (by decide))) (b_lcmp_t (p1 := 206) (p2 := 207) (pj := 261) F (c_lload F k204) (c_lconst F k206 (by decide)) k207 k208 (by decide))) (d_seq (p1 := 255) (d_if (p1 := 233) (p2 := 255) (b_cmp_t (p1 := 223) (p2 := 230) (pj := 255) F (c_iald (p1 := 215) (p2 := 222) F (c_getr (p1 := 212) F 3 20 hg_3_20 (c_aload_n F k211 rfl) k212 lf_PageLayouterModel_66) (c_bin 1 (p1 := 219) (p2 := 221) (c_bin 1 (p1 := 217) (p2 := 218) (c_bipush F k215 (by decide)) (c_iload_n F k217 rfl) pl_c1 (j_imul F k218)) (c_iload F k219) pl_c1 (j_iadd F k221)) k222) (c_iald (p1 := 227) (p2 := 229) F (c_getr (p1 := 224) F 3 22 hg_3_22 (c_aload_n F k223 rfl) k224 lf_PageLayouterModel_72) (c_iload F k227) k229) k230 (by decide)) (d_seq (p1 := 249) (d_iupd (p1 := 237) (p2 := 244) (p3 := 247) F (c_getr (p1 := 234) F 3 20 hg_3_20 (c_aload_n F k233 rfl) k234 lf_PageLayouterModel_66) (c_bin 1 (p1 := 241) (p2 := 243) (c_bin 1 (p1 := 239) (p2 := 240) (c_bipush F k237 (by decide)) (c_iload_n F k239 rfl) pl_c1 (j_imul F k240)) (c_iload F k241) pl_c1 (j_iadd F k243)) k244 k245 (c_iconst F k246 (by decide)) (j_iadd F k247) k248) (d_lstore (p1 := 253) F (c_bin 2 (p1 := 251) (p2 := 252) (c_lload F k249) (c_lconst F k251 (by decide)) pl_c2 (j_lsub F k252)) k253 (hm 10 (by decide))))) (d_iinc F k255 (by decide) (hm 11 (by decide)))) k258 (by decide))))))))))) (d_retv F Fm.2.1 Fm.2.2.1 k261)))
def y_Mo_allColumns : MethodName := ⟨"PageLayouterModel", "allColumns", "(I)I"⟩
abbrev b_Mo_allColumns : ByteArray := prog_10_method_34_code
abbrev n_Mo_allColumns : Nat := 4
theorem y_Mo_allColumns_ok : pl_MV 3 y_Mo_allColumns b_Mo_allColumns n_Mo_allColumns (Option.some Jvm.ClassFile.FieldType.int) 1 := ⟨pl_mem 884 (by decide +kernel) (by decide +kernel), pl_mem 883 (by decide +kernel) (by decide +kernel), pl_mem 26 (by decide +kernel) (by decide +kernel), pl_mem 47 (by decide +kernel) (by decide +kernel), ⟨by decide, by decide, by decide +kernel⟩, _, rfl, rfl⟩
def D_Mo_allColumns : List (Nat × Instr × Nat) := [(0, .iconst 0, 1), (1, .istore_n 2, 1), (2, .iconst 0, 1), (3, .istore_n 3, 1), (4, .iload_n 3, 1), (5, .aload_n 0, 1), (6, .getfield 63, 3), (9, .iload_n 1, 1), (10, .iaload, 1), (11, .if_icmp .ge 23, 3), (14, .iload_n 2, 1), (15, .aload_n 0, 1), (16, .getfield 66, 3), (19, .bipush 40, 2), (21, .iload_n 1, 1), (22, .imul, 1), (23, .iload_n 3, 1), (24, .iadd, 1), (25, .iaload, 1), (26, .iadd, 1), (27, .istore_n 2, 1), (28, .iinc 3 1, 3), (31, .goto (-27), 3), (34, .iload_n 2, 1), (35, .ireturn, 1)]
theorem dd_Mo_allColumns : (D_Mo_allColumns.all fun q => decide (decode b_Mo_allColumns q.1 = .ok q.2)) = true := by decide +kernel
def t_Mo_allColumns : pl_TR := fun P _ _ => s_seq (s_seti 2 (e_int 0)) (s_seq (s_seq (s_seti 3 (e_int 0)) (s_while (b_cmp .lt (e_loc 3) (e_ald 1 (e_getr 3 19 (e_locr 0)) (e_loc 1))) (s_seq (s_seti 2 (e_bin (fun x y : Int32 => x + y) (e_loc 2) (e_ald 1 (e_getr 3 20 (e_locr 0)) (e_bin (fun x y : Int32 => x + y) (e_bin (fun x y : Int32 => x * y) (e_int 40) (e_loc 1)) (e_loc 3))))) (s_inc 3 1)))) (s_reti P (e_loc 2)))
theorem z_Mo_allColumns (l : Launch) : pl_Ctr l y_Mo_allColumns b_Mo_allColumns n_Mo_allColumns (Option.some Jvm.ClassFile.FieldType.int) 0 0 0 0 false t_Mo_allColumns := pl_ctr_of (pe := 0) (by decide) (fun X Y P F Fm => by
  have F : pl_Fx X Y "PageLayouterModel" b_Mo_allColumns := F
  have hm : ∀ i, i < 4 → i < (pl_xc X).maxLocals := fun i h => by rw [Fm.2.2.2.1]; exact h
  have k0 : decode b_Mo_allColumns 0 = .ok (.iconst 0, 1) := pl_dc dd_Mo_allColumns 0 (q := (0, .iconst 0, 1)) rfl
  have k1 : decode b_Mo_allColumns 1 = .ok (.istore_n 2, 1) := pl_dc dd_Mo_allColumns 1 (q := (1, .istore_n 2, 1)) rfl
  have k2 : decode b_Mo_allColumns 2 = .ok (.iconst 0, 1) := pl_dc dd_Mo_allColumns 2 (q := (2, .iconst 0, 1)) rfl
  have k3 : decode b_Mo_allColumns 3 = .ok (.istore_n 3, 1) := pl_dc dd_Mo_allColumns 3 (q := (3, .istore_n 3, 1)) rfl
  have k4 : decode b_Mo_allColumns 4 = .ok (.iload_n 3, 1) := pl_dc dd_Mo_allColumns 4 (q := (4, .iload_n 3, 1)) rfl
  have k5 : decode b_Mo_allColumns 5 = .ok (.aload_n 0, 1) := pl_dc dd_Mo_allColumns 5 (q := (5, .aload_n 0, 1)) rfl
  have k6 : decode b_Mo_allColumns 6 = .ok (.getfield 63, 3) := pl_dc dd_Mo_allColumns 6 (q := (6, .getfield 63, 3)) rfl
  have k9 : decode b_Mo_allColumns 9 = .ok (.iload_n 1, 1) := pl_dc dd_Mo_allColumns 7 (q := (9, .iload_n 1, 1)) rfl
  have k10 : decode b_Mo_allColumns 10 = .ok (.iaload, 1) := pl_dc dd_Mo_allColumns 8 (q := (10, .iaload, 1)) rfl
  have k11 : decode b_Mo_allColumns 11 = .ok (.if_icmp .ge 23, 3) := pl_dc dd_Mo_allColumns 9 (q := (11, .if_icmp .ge 23, 3)) rfl
  have k14 : decode b_Mo_allColumns 14 = .ok (.iload_n 2, 1) := pl_dc dd_Mo_allColumns 10 (q := (14, .iload_n 2, 1)) rfl
  have k15 : decode b_Mo_allColumns 15 = .ok (.aload_n 0, 1) := pl_dc dd_Mo_allColumns 11 (q := (15, .aload_n 0, 1)) rfl
  have k16 : decode b_Mo_allColumns 16 = .ok (.getfield 66, 3) := pl_dc dd_Mo_allColumns 12 (q := (16, .getfield 66, 3)) rfl
  have k19 : decode b_Mo_allColumns 19 = .ok (.bipush 40, 2) := pl_dc dd_Mo_allColumns 13 (q := (19, .bipush 40, 2)) rfl
  have k21 : decode b_Mo_allColumns 21 = .ok (.iload_n 1, 1) := pl_dc dd_Mo_allColumns 14 (q := (21, .iload_n 1, 1)) rfl
  have k22 : decode b_Mo_allColumns 22 = .ok (.imul, 1) := pl_dc dd_Mo_allColumns 15 (q := (22, .imul, 1)) rfl
  have k23 : decode b_Mo_allColumns 23 = .ok (.iload_n 3, 1) := pl_dc dd_Mo_allColumns 16 (q := (23, .iload_n 3, 1)) rfl
  have k24 : decode b_Mo_allColumns 24 = .ok (.iadd, 1) := pl_dc dd_Mo_allColumns 17 (q := (24, .iadd, 1)) rfl
  have k25 : decode b_Mo_allColumns 25 = .ok (.iaload, 1) := pl_dc dd_Mo_allColumns 18 (q := (25, .iaload, 1)) rfl
  have k26 : decode b_Mo_allColumns 26 = .ok (.iadd, 1) := pl_dc dd_Mo_allColumns 19 (q := (26, .iadd, 1)) rfl
  have k27 : decode b_Mo_allColumns 27 = .ok (.istore_n 2, 1) := pl_dc dd_Mo_allColumns 20 (q := (27, .istore_n 2, 1)) rfl
  have k28 : decode b_Mo_allColumns 28 = .ok (.iinc 3 1, 3) := pl_dc dd_Mo_allColumns 21 (q := (28, .iinc 3 1, 3)) rfl
  have k31 : decode b_Mo_allColumns 31 = .ok (.goto (-27), 3) := pl_dc dd_Mo_allColumns 22 (q := (31, .goto (-27), 3)) rfl
  have k34 : decode b_Mo_allColumns 34 = .ok (.iload_n 2, 1) := pl_dc dd_Mo_allColumns 23 (q := (34, .iload_n 2, 1)) rfl
  have k35 : decode b_Mo_allColumns 35 = .ok (.ireturn, 1) := pl_dc dd_Mo_allColumns 24 (q := (35, .ireturn, 1)) rfl
  exact (d_seq (p1 := 2) (d_istore_n (p1 := 1) F (c_iconst F k0 (by decide)) k1 rfl (hm 2 (by decide))) (d_seq (p1 := 34) (d_seq (p1 := 4) (d_istore_n (p1 := 3) F (c_iconst F k2 (by decide)) k3 rfl (hm 3 (by decide))) (d_while (p1 := 14) (p2 := 31) F (b_cmp_t (p1 := 5) (p2 := 11) (pj := 34) F (c_iload_n F k4 rfl) (c_iald (p1 := 9) (p2 := 10) F (c_getr (p1 := 6) F 3 19 hg_3_19 (c_aload_n F k5 rfl) k6 lf_PageLayouterModel_63) (c_iload_n F k9 rfl) k10) k11 (by decide)) (d_seq (p1 := 28) (d_istore_n (p1 := 27) F (c_bin 1 (p1 := 15) (p2 := 26) (c_iload_n F k14 rfl) (c_iald (p1 := 19) (p2 := 25) F (c_getr (p1 := 16) F 3 20 hg_3_20 (c_aload_n F k15 rfl) k16 lf_PageLayouterModel_66) (c_bin 1 (p1 := 23) (p2 := 24) (c_bin 1 (p1 := 21) (p2 := 22) (c_bipush F k19 (by decide)) (c_iload_n F k21 rfl) pl_c1 (j_imul F k22)) (c_iload_n F k23 rfl) pl_c1 (j_iadd F k24)) k25) pl_c1 (j_iadd F k26)) k27 rfl (hm 2 (by decide))) (d_iinc F k28 (by decide) (hm 3 (by decide)))) k31 (by decide))) (d_reti (p1 := 35) F Fm.2.1 Fm.2.2.1 (c_iload_n F k34 rfl) k35))))
def y_Mo_findWidths : MethodName := ⟨"PageLayouterModel", "findWidths", "(I)V"⟩
abbrev b_Mo_findWidths : ByteArray := prog_10_method_35_code
abbrev n_Mo_findWidths : Nat := 5
theorem y_Mo_findWidths_ok : pl_MV 3 y_Mo_findWidths b_Mo_findWidths n_Mo_findWidths (Option.none : Option Jvm.ClassFile.FieldType) 1 := ⟨pl_mem 873 (by decide +kernel) (by decide +kernel), pl_mem 872 (by decide +kernel) (by decide +kernel), pl_mem 24 (by decide +kernel) (by decide +kernel), pl_mem 47 (by decide +kernel) (by decide +kernel), ⟨by decide, by decide, by decide +kernel⟩, _, rfl, rfl⟩
def D_Mo_findWidths : List (Nat × Instr × Nat) := [(0, .iconst 0, 1), (1, .istore_n 2, 1), (2, .iload_n 2, 1), (3, .aload_n 0, 1), (4, .getfield 7, 3), (7, .if_icmp .ge 177, 3), (10, .aload_n 0, 1), (11, .getfield 13, 3), (14, .iload_n 2, 1), (15, .iaload, 1), (16, .istore_n 3, 1), (17, .iload_n 2, 1), (18, .ifCond .eq 21, 3), (21, .aload_n 0, 1), (22, .getfield 26, 3), (25, .iload_n 2, 1), (26, .baload, 1), (27, .ifCond .ne 12, 3), (30, .aload_n 0, 1), (31, .getfield 30, 3), (34, .iload_n 3, 1), (35, .iaload, 1), (36, .ifCond .ne 31, 3), (39, .aload_n 0, 1), (40, .getfield 45, 3), (43, .iload_n 2, 1), (44, .aload_n 0, 1), (45, .iload_n 2, 1), (46, .iload_n 2, 1), (47, .ifCond .ne 7, 3), (50, .iload_n 1, 1), (51, .goto 9, 3), (54, .aload_n 0, 1), (55, .getfield 45, 3), (58, .iload_n 3, 1), (59, .iaload, 1), (60, .invokevirtual 163, 3), (63, .iastore, 1), (64, .goto 84, 3), (67, .aload_n 0, 1), (68, .getfield 30, 3), (71, .iload_n 2, 1), (72, .iaload, 1), (73, .iconst 3, 1), (74, .if_icmp .ne 17, 3), (77, .aload_n 0, 1), (78, .getfield 45, 3), (81, .iload_n 2, 1), (82, .aload_n 0, 1), (83, .iload_n 3, 1), (84, .invokevirtual 166, 3), (87, .iastore, 1), (88, .goto 60, 3), (91, .aload_n 0, 1), (92, .getfield 33, 3), (95, .iload_n 2, 1), (96, .baload, 1), (97, .ifCond .eq 51, 3), (100, .aload_n 0, 1), (101, .getfield 66, 3), (104, .bipush 40, 2), (106, .aload_n 0, 1), (107, .getfield 13, 3), (110, .iload_n 3, 1), (111, .iaload, 1), (112, .imul, 1), (113, .aload_n 0, 1), (114, .getfield 36, 3), (117, .iload_n 2, 1), (118, .iaload, 1), (119, .iadd, 1), (120, .iaload, 1), (121, .iconst 2, 1), (122, .aload_n 0, 1), (123, .iload_n 2, 1), (124, .invokevirtual 112, 3), (127, .imul, 1), (128, .isub, 1), (129, .istore 4, 2), (131, .aload_n 0, 1), (132, .getfield 45, 3), (135, .iload_n 2, 1), (136, .iload 4, 2), (138, .ifCond .le 8, 3), (141, .iload 4, 2), (143, .goto 4, 3), (146, .iconst 0, 1), (147, .iastore, 1), (148, .aload_n 0, 1), (149, .getfield 30, 3), (152, .iload_n 2, 1), (153, .iaload, 1), (154, .iconst 1, 1), (155, .if_icmp .ne 8, 3), (158, .aload_n 0, 1), (159, .iload_n 2, 1), (160, .invokevirtual 169, 3), (163, .aload_n 0, 1), (164, .getfield 30, 3), (167, .iload_n 2, 1), (168, .iaload, 1), (169, .iconst 2, 1), (170, .if_icmp .ne 8, 3), (173, .aload_n 0, 1), (174, .iload_n 2, 1), (175, .invokevirtual 172, 3), (178, .iinc 2 1, 3), (181, .goto (-179), 3), (184, .return_, 1)]
theorem dd_Mo_findWidths : (D_Mo_findWidths.all fun q => decide (decode b_Mo_findWidths q.1 = .ok q.2)) = true := by decide +kernel
def t_Mo_findWidths : pl_TR := fun P _ _ => s_seq (s_seq (s_seti 2 (e_int 0)) (s_while (b_cmp .lt (e_loc 2) (e_geti 3 1 (e_locr 0))) (s_seq (s_seq (s_seti 3 (e_ald 1 (e_getr 3 3 (e_locr 0)) (e_loc 2))) (s_seq (s_ife (b_or (b_or (b_zero .eq (e_loc 2)) (b_zero .ne (e_ald 2 (e_getr 3 7 (e_locr 0)) (e_loc 2)))) (b_zero .eq (e_ald 1 (e_getr 3 8 (e_locr 0)) (e_loc 3)))) (s_iast (e_getr 3 13 (e_locr 0)) (e_loc 2) (e_callV Value.int 3 t_Mo_plainWidth n_Mo_plainWidth (a_i (a_i (a_r a_nil (e_locr 0)) (e_loc 2)) (e_if (b_zero .eq (e_loc 2)) (e_loc 1) (e_ald 1 (e_getr 3 13 (e_locr 0)) (e_loc 3)))))) (s_ife (b_cmp .eq (e_ald 1 (e_getr 3 8 (e_locr 0)) (e_loc 2)) (e_int 3)) (s_iast (e_getr 3 13 (e_locr 0)) (e_loc 2) (e_callV Value.int 3 t_Mo_allColumns n_Mo_allColumns (a_i (a_r a_nil (e_locr 0)) (e_loc 3)))) (s_if (b_zero .ne (e_ald 2 (e_getr 3 9 (e_locr 0)) (e_loc 2))) (s_seq (s_seti 4 (e_bin (fun x y : Int32 => x - y) (e_ald 1 (e_getr 3 20 (e_locr 0)) (e_bin (fun x y : Int32 => x + y) (e_bin (fun x y : Int32 => x * y) (e_int 40) (e_ald 1 (e_getr 3 3 (e_locr 0)) (e_loc 3))) (e_ald 1 (e_getr 3 10 (e_locr 0)) (e_loc 2)))) (e_bin (fun x y : Int32 => x * y) (e_int 2) (e_callV Value.int 3 t_Mo_padding n_Mo_padding (a_i (a_r a_nil (e_locr 0)) (e_loc 2)))))) (s_iast (e_getr 3 13 (e_locr 0)) (e_loc 2) (e_if (b_zero .gt (e_loc 4)) (e_loc 4) (e_int 0))))))) (s_seq (s_if (b_cmp .eq (e_ald 1 (e_getr 3 8 (e_locr 0)) (e_loc 2)) (e_int 1)) (s_callV 3 t_Mo_spreadFlex n_Mo_spreadFlex (a_i (a_r a_nil (e_locr 0)) (e_loc 2)))) (s_if (b_cmp .eq (e_ald 1 (e_getr 3 8 (e_locr 0)) (e_loc 2)) (e_int 2)) (s_callV 3 t_Mo_spreadTable n_Mo_spreadTable (a_i (a_r a_nil (e_locr 0)) (e_loc 2))))))) (s_inc 2 1)))) (s_retv P)
theorem z_Mo_findWidths (l : Launch) : pl_Ctr l y_Mo_findWidths b_Mo_findWidths n_Mo_findWidths (Option.none : Option Jvm.ClassFile.FieldType) 5 119 0 0 false t_Mo_findWidths := pl_ctr_of (pe := 0) (by decide) (fun X Y P F Fm => by
  have F : pl_Fx X Y "PageLayouterModel" b_Mo_findWidths := F
  have r_Mo_allColumns : 0 + 1 ≤ (pl_xR X).frames ∧ 8 + (n_Mo_allColumns + 11) + 0 ≤ (pl_xR X).locals := ⟨Nat.le_trans (by decide) Fm.2.2.2.2.2.1, Nat.le_trans (by decide) Fm.2.2.2.2.2.2.1⟩
  have r_Mo_padding : 0 + 1 ≤ (pl_xR X).frames ∧ 8 + (n_Mo_padding + 11) + 0 ≤ (pl_xR X).locals := ⟨Nat.le_trans (by decide) Fm.2.2.2.2.2.1, Nat.le_trans (by decide) Fm.2.2.2.2.2.2.1⟩
  have r_Mo_plainWidth : 2 + 1 ≤ (pl_xR X).frames ∧ 8 + (n_Mo_plainWidth + 11) + 42 ≤ (pl_xR X).locals := ⟨Nat.le_trans (by decide) Fm.2.2.2.2.2.1, Nat.le_trans (by decide) Fm.2.2.2.2.2.2.1⟩
  have r_Mo_spreadFlex : 4 + 1 ≤ (pl_xR X).frames ∧ 8 + (n_Mo_spreadFlex + 11) + 95 ≤ (pl_xR X).locals := ⟨Nat.le_trans (by decide) Fm.2.2.2.2.2.1, Nat.le_trans (by decide) Fm.2.2.2.2.2.2.1⟩
  have r_Mo_spreadTable : 3 + 1 ≤ (pl_xR X).frames ∧ 8 + (n_Mo_spreadTable + 11) + 67 ≤ (pl_xR X).locals := ⟨Nat.le_trans (by decide) Fm.2.2.2.2.2.1, Nat.le_trans (by decide) Fm.2.2.2.2.2.2.1⟩
  have hm : ∀ i, i < 5 → i < (pl_xc X).maxLocals := fun i h => by rw [Fm.2.2.2.1]; exact h
  have k0 : decode b_Mo_findWidths 0 = .ok (.iconst 0, 1) := pl_dc dd_Mo_findWidths 0 (q := (0, .iconst 0, 1)) rfl
  have k1 : decode b_Mo_findWidths 1 = .ok (.istore_n 2, 1) := pl_dc dd_Mo_findWidths 1 (q := (1, .istore_n 2, 1)) rfl
  have k2 : decode b_Mo_findWidths 2 = .ok (.iload_n 2, 1) := pl_dc dd_Mo_findWidths 2 (q := (2, .iload_n 2, 1)) rfl
  have k3 : decode b_Mo_findWidths 3 = .ok (.aload_n 0, 1) := pl_dc dd_Mo_findWidths 3 (q := (3, .aload_n 0, 1)) rfl
  have k4 : decode b_Mo_findWidths 4 = .ok (.getfield 7, 3) := pl_dc dd_Mo_findWidths 4 (q := (4, .getfield 7, 3)) rfl
  have k7 : decode b_Mo_findWidths 7 = .ok (.if_icmp .ge 177, 3) := pl_dc dd_Mo_findWidths 5 (q := (7, .if_icmp .ge 177, 3)) rfl
  have k10 : decode b_Mo_findWidths 10 = .ok (.aload_n 0, 1) := pl_dc dd_Mo_findWidths 6 (q := (10, .aload_n 0, 1)) rfl
  have k11 : decode b_Mo_findWidths 11 = .ok (.getfield 13, 3) := pl_dc dd_Mo_findWidths 7 (q := (11, .getfield 13, 3)) rfl
  have k14 : decode b_Mo_findWidths 14 = .ok (.iload_n 2, 1) := pl_dc dd_Mo_findWidths 8 (q := (14, .iload_n 2, 1)) rfl
  have k15 : decode b_Mo_findWidths 15 = .ok (.iaload, 1) := pl_dc dd_Mo_findWidths 9 (q := (15, .iaload, 1)) rfl
  have k16 : decode b_Mo_findWidths 16 = .ok (.istore_n 3, 1) := pl_dc dd_Mo_findWidths 10 (q := (16, .istore_n 3, 1)) rfl
  have k17 : decode b_Mo_findWidths 17 = .ok (.iload_n 2, 1) := pl_dc dd_Mo_findWidths 11 (q := (17, .iload_n 2, 1)) rfl
  have k18 : decode b_Mo_findWidths 18 = .ok (.ifCond .eq 21, 3) := pl_dc dd_Mo_findWidths 12 (q := (18, .ifCond .eq 21, 3)) rfl
  have k21 : decode b_Mo_findWidths 21 = .ok (.aload_n 0, 1) := pl_dc dd_Mo_findWidths 13 (q := (21, .aload_n 0, 1)) rfl
  have k22 : decode b_Mo_findWidths 22 = .ok (.getfield 26, 3) := pl_dc dd_Mo_findWidths 14 (q := (22, .getfield 26, 3)) rfl
  have k25 : decode b_Mo_findWidths 25 = .ok (.iload_n 2, 1) := pl_dc dd_Mo_findWidths 15 (q := (25, .iload_n 2, 1)) rfl
  have k26 : decode b_Mo_findWidths 26 = .ok (.baload, 1) := pl_dc dd_Mo_findWidths 16 (q := (26, .baload, 1)) rfl
  have k27 : decode b_Mo_findWidths 27 = .ok (.ifCond .ne 12, 3) := pl_dc dd_Mo_findWidths 17 (q := (27, .ifCond .ne 12, 3)) rfl
  have k30 : decode b_Mo_findWidths 30 = .ok (.aload_n 0, 1) := pl_dc dd_Mo_findWidths 18 (q := (30, .aload_n 0, 1)) rfl
  have k31 : decode b_Mo_findWidths 31 = .ok (.getfield 30, 3) := pl_dc dd_Mo_findWidths 19 (q := (31, .getfield 30, 3)) rfl
  have k34 : decode b_Mo_findWidths 34 = .ok (.iload_n 3, 1) := pl_dc dd_Mo_findWidths 20 (q := (34, .iload_n 3, 1)) rfl
  have k35 : decode b_Mo_findWidths 35 = .ok (.iaload, 1) := pl_dc dd_Mo_findWidths 21 (q := (35, .iaload, 1)) rfl
  have k36 : decode b_Mo_findWidths 36 = .ok (.ifCond .ne 31, 3) := pl_dc dd_Mo_findWidths 22 (q := (36, .ifCond .ne 31, 3)) rfl
  have k39 : decode b_Mo_findWidths 39 = .ok (.aload_n 0, 1) := pl_dc dd_Mo_findWidths 23 (q := (39, .aload_n 0, 1)) rfl
  have k40 : decode b_Mo_findWidths 40 = .ok (.getfield 45, 3) := pl_dc dd_Mo_findWidths 24 (q := (40, .getfield 45, 3)) rfl
  have k43 : decode b_Mo_findWidths 43 = .ok (.iload_n 2, 1) := pl_dc dd_Mo_findWidths 25 (q := (43, .iload_n 2, 1)) rfl
  have k44 : decode b_Mo_findWidths 44 = .ok (.aload_n 0, 1) := pl_dc dd_Mo_findWidths 26 (q := (44, .aload_n 0, 1)) rfl
  have k45 : decode b_Mo_findWidths 45 = .ok (.iload_n 2, 1) := pl_dc dd_Mo_findWidths 27 (q := (45, .iload_n 2, 1)) rfl
  have k46 : decode b_Mo_findWidths 46 = .ok (.iload_n 2, 1) := pl_dc dd_Mo_findWidths 28 (q := (46, .iload_n 2, 1)) rfl
  have k47 : decode b_Mo_findWidths 47 = .ok (.ifCond .ne 7, 3) := pl_dc dd_Mo_findWidths 29 (q := (47, .ifCond .ne 7, 3)) rfl
  have k50 : decode b_Mo_findWidths 50 = .ok (.iload_n 1, 1) := pl_dc dd_Mo_findWidths 30 (q := (50, .iload_n 1, 1)) rfl
  have k51 : decode b_Mo_findWidths 51 = .ok (.goto 9, 3) := pl_dc dd_Mo_findWidths 31 (q := (51, .goto 9, 3)) rfl
  have k54 : decode b_Mo_findWidths 54 = .ok (.aload_n 0, 1) := pl_dc dd_Mo_findWidths 32 (q := (54, .aload_n 0, 1)) rfl
  have k55 : decode b_Mo_findWidths 55 = .ok (.getfield 45, 3) := pl_dc dd_Mo_findWidths 33 (q := (55, .getfield 45, 3)) rfl
  have k58 : decode b_Mo_findWidths 58 = .ok (.iload_n 3, 1) := pl_dc dd_Mo_findWidths 34 (q := (58, .iload_n 3, 1)) rfl
  have k59 : decode b_Mo_findWidths 59 = .ok (.iaload, 1) := pl_dc dd_Mo_findWidths 35 (q := (59, .iaload, 1)) rfl
  have k60 : decode b_Mo_findWidths 60 = .ok (.invokevirtual 163, 3) := pl_dc dd_Mo_findWidths 36 (q := (60, .invokevirtual 163, 3)) rfl
  have k63 : decode b_Mo_findWidths 63 = .ok (.iastore, 1) := pl_dc dd_Mo_findWidths 37 (q := (63, .iastore, 1)) rfl
  have k64 : decode b_Mo_findWidths 64 = .ok (.goto 84, 3) := pl_dc dd_Mo_findWidths 38 (q := (64, .goto 84, 3)) rfl
  have k67 : decode b_Mo_findWidths 67 = .ok (.aload_n 0, 1) := pl_dc dd_Mo_findWidths 39 (q := (67, .aload_n 0, 1)) rfl
  have k68 : decode b_Mo_findWidths 68 = .ok (.getfield 30, 3) := pl_dc dd_Mo_findWidths 40 (q := (68, .getfield 30, 3)) rfl
  have k71 : decode b_Mo_findWidths 71 = .ok (.iload_n 2, 1) := pl_dc dd_Mo_findWidths 41 (q := (71, .iload_n 2, 1)) rfl
  have k72 : decode b_Mo_findWidths 72 = .ok (.iaload, 1) := pl_dc dd_Mo_findWidths 42 (q := (72, .iaload, 1)) rfl
  have k73 : decode b_Mo_findWidths 73 = .ok (.iconst 3, 1) := pl_dc dd_Mo_findWidths 43 (q := (73, .iconst 3, 1)) rfl
  have k74 : decode b_Mo_findWidths 74 = .ok (.if_icmp .ne 17, 3) := pl_dc dd_Mo_findWidths 44 (q := (74, .if_icmp .ne 17, 3)) rfl
  have k77 : decode b_Mo_findWidths 77 = .ok (.aload_n 0, 1) := pl_dc dd_Mo_findWidths 45 (q := (77, .aload_n 0, 1)) rfl
  have k78 : decode b_Mo_findWidths 78 = .ok (.getfield 45, 3) := pl_dc dd_Mo_findWidths 46 (q := (78, .getfield 45, 3)) rfl
  have k81 : decode b_Mo_findWidths 81 = .ok (.iload_n 2, 1) := pl_dc dd_Mo_findWidths 47 (q := (81, .iload_n 2, 1)) rfl
  have k82 : decode b_Mo_findWidths 82 = .ok (.aload_n 0, 1) := pl_dc dd_Mo_findWidths 48 (q := (82, .aload_n 0, 1)) rfl
  have k83 : decode b_Mo_findWidths 83 = .ok (.iload_n 3, 1) := pl_dc dd_Mo_findWidths 49 (q := (83, .iload_n 3, 1)) rfl
  have k84 : decode b_Mo_findWidths 84 = .ok (.invokevirtual 166, 3) := pl_dc dd_Mo_findWidths 50 (q := (84, .invokevirtual 166, 3)) rfl
  have k87 : decode b_Mo_findWidths 87 = .ok (.iastore, 1) := pl_dc dd_Mo_findWidths 51 (q := (87, .iastore, 1)) rfl
  have k88 : decode b_Mo_findWidths 88 = .ok (.goto 60, 3) := pl_dc dd_Mo_findWidths 52 (q := (88, .goto 60, 3)) rfl
  have k91 : decode b_Mo_findWidths 91 = .ok (.aload_n 0, 1) := pl_dc dd_Mo_findWidths 53 (q := (91, .aload_n 0, 1)) rfl
  have k92 : decode b_Mo_findWidths 92 = .ok (.getfield 33, 3) := pl_dc dd_Mo_findWidths 54 (q := (92, .getfield 33, 3)) rfl
  have k95 : decode b_Mo_findWidths 95 = .ok (.iload_n 2, 1) := pl_dc dd_Mo_findWidths 55 (q := (95, .iload_n 2, 1)) rfl
  have k96 : decode b_Mo_findWidths 96 = .ok (.baload, 1) := pl_dc dd_Mo_findWidths 56 (q := (96, .baload, 1)) rfl
  have k97 : decode b_Mo_findWidths 97 = .ok (.ifCond .eq 51, 3) := pl_dc dd_Mo_findWidths 57 (q := (97, .ifCond .eq 51, 3)) rfl
  have k100 : decode b_Mo_findWidths 100 = .ok (.aload_n 0, 1) := pl_dc dd_Mo_findWidths 58 (q := (100, .aload_n 0, 1)) rfl
  have k101 : decode b_Mo_findWidths 101 = .ok (.getfield 66, 3) := pl_dc dd_Mo_findWidths 59 (q := (101, .getfield 66, 3)) rfl
  have k104 : decode b_Mo_findWidths 104 = .ok (.bipush 40, 2) := pl_dc dd_Mo_findWidths 60 (q := (104, .bipush 40, 2)) rfl
  have k106 : decode b_Mo_findWidths 106 = .ok (.aload_n 0, 1) := pl_dc dd_Mo_findWidths 61 (q := (106, .aload_n 0, 1)) rfl
  have k107 : decode b_Mo_findWidths 107 = .ok (.getfield 13, 3) := pl_dc dd_Mo_findWidths 62 (q := (107, .getfield 13, 3)) rfl
  have k110 : decode b_Mo_findWidths 110 = .ok (.iload_n 3, 1) := pl_dc dd_Mo_findWidths 63 (q := (110, .iload_n 3, 1)) rfl
  have k111 : decode b_Mo_findWidths 111 = .ok (.iaload, 1) := pl_dc dd_Mo_findWidths 64 (q := (111, .iaload, 1)) rfl
  have k112 : decode b_Mo_findWidths 112 = .ok (.imul, 1) := pl_dc dd_Mo_findWidths 65 (q := (112, .imul, 1)) rfl
  have k113 : decode b_Mo_findWidths 113 = .ok (.aload_n 0, 1) := pl_dc dd_Mo_findWidths 66 (q := (113, .aload_n 0, 1)) rfl
  have k114 : decode b_Mo_findWidths 114 = .ok (.getfield 36, 3) := pl_dc dd_Mo_findWidths 67 (q := (114, .getfield 36, 3)) rfl
  have k117 : decode b_Mo_findWidths 117 = .ok (.iload_n 2, 1) := pl_dc dd_Mo_findWidths 68 (q := (117, .iload_n 2, 1)) rfl
  have k118 : decode b_Mo_findWidths 118 = .ok (.iaload, 1) := pl_dc dd_Mo_findWidths 69 (q := (118, .iaload, 1)) rfl
  have k119 : decode b_Mo_findWidths 119 = .ok (.iadd, 1) := pl_dc dd_Mo_findWidths 70 (q := (119, .iadd, 1)) rfl
  have k120 : decode b_Mo_findWidths 120 = .ok (.iaload, 1) := pl_dc dd_Mo_findWidths 71 (q := (120, .iaload, 1)) rfl
  have k121 : decode b_Mo_findWidths 121 = .ok (.iconst 2, 1) := pl_dc dd_Mo_findWidths 72 (q := (121, .iconst 2, 1)) rfl
  have k122 : decode b_Mo_findWidths 122 = .ok (.aload_n 0, 1) := pl_dc dd_Mo_findWidths 73 (q := (122, .aload_n 0, 1)) rfl
  have k123 : decode b_Mo_findWidths 123 = .ok (.iload_n 2, 1) := pl_dc dd_Mo_findWidths 74 (q := (123, .iload_n 2, 1)) rfl
  have k124 : decode b_Mo_findWidths 124 = .ok (.invokevirtual 112, 3) := pl_dc dd_Mo_findWidths 75 (q := (124, .invokevirtual 112, 3)) rfl
  have k127 : decode b_Mo_findWidths 127 = .ok (.imul, 1) := pl_dc dd_Mo_findWidths 76 (q := (127, .imul, 1)) rfl
  have k128 : decode b_Mo_findWidths 128 = .ok (.isub, 1) := pl_dc dd_Mo_findWidths 77 (q := (128, .isub, 1)) rfl
  have k129 : decode b_Mo_findWidths 129 = .ok (.istore 4, 2) := pl_dc dd_Mo_findWidths 78 (q := (129, .istore 4, 2)) rfl
  have k131 : decode b_Mo_findWidths 131 = .ok (.aload_n 0, 1) := pl_dc dd_Mo_findWidths 79 (q := (131, .aload_n 0, 1)) rfl
  have k132 : decode b_Mo_findWidths 132 = .ok (.getfield 45, 3) := pl_dc dd_Mo_findWidths 80 (q := (132, .getfield 45, 3)) rfl
  have k135 : decode b_Mo_findWidths 135 = .ok (.iload_n 2, 1) := pl_dc dd_Mo_findWidths 81 (q := (135, .iload_n 2, 1)) rfl
  have k136 : decode b_Mo_findWidths 136 = .ok (.iload 4, 2) := pl_dc dd_Mo_findWidths 82 (q := (136, .iload 4, 2)) rfl
  have k138 : decode b_Mo_findWidths 138 = .ok (.ifCond .le 8, 3) := pl_dc dd_Mo_findWidths 83 (q := (138, .ifCond .le 8, 3)) rfl
  have k141 : decode b_Mo_findWidths 141 = .ok (.iload 4, 2) := pl_dc dd_Mo_findWidths 84 (q := (141, .iload 4, 2)) rfl
  have k143 : decode b_Mo_findWidths 143 = .ok (.goto 4, 3) := pl_dc dd_Mo_findWidths 85 (q := (143, .goto 4, 3)) rfl
  have k146 : decode b_Mo_findWidths 146 = .ok (.iconst 0, 1) := pl_dc dd_Mo_findWidths 86 (q := (146, .iconst 0, 1)) rfl
  have k147 : decode b_Mo_findWidths 147 = .ok (.iastore, 1) := pl_dc dd_Mo_findWidths 87 (q := (147, .iastore, 1)) rfl
  have k148 : decode b_Mo_findWidths 148 = .ok (.aload_n 0, 1) := pl_dc dd_Mo_findWidths 88 (q := (148, .aload_n 0, 1)) rfl
  have k149 : decode b_Mo_findWidths 149 = .ok (.getfield 30, 3) := pl_dc dd_Mo_findWidths 89 (q := (149, .getfield 30, 3)) rfl
  have k152 : decode b_Mo_findWidths 152 = .ok (.iload_n 2, 1) := pl_dc dd_Mo_findWidths 90 (q := (152, .iload_n 2, 1)) rfl
  have k153 : decode b_Mo_findWidths 153 = .ok (.iaload, 1) := pl_dc dd_Mo_findWidths 91 (q := (153, .iaload, 1)) rfl
  have k154 : decode b_Mo_findWidths 154 = .ok (.iconst 1, 1) := pl_dc dd_Mo_findWidths 92 (q := (154, .iconst 1, 1)) rfl
  have k155 : decode b_Mo_findWidths 155 = .ok (.if_icmp .ne 8, 3) := pl_dc dd_Mo_findWidths 93 (q := (155, .if_icmp .ne 8, 3)) rfl
  have k158 : decode b_Mo_findWidths 158 = .ok (.aload_n 0, 1) := pl_dc dd_Mo_findWidths 94 (q := (158, .aload_n 0, 1)) rfl
  have k159 : decode b_Mo_findWidths 159 = .ok (.iload_n 2, 1) := pl_dc dd_Mo_findWidths 95 (q := (159, .iload_n 2, 1)) rfl
  have k160 : decode b_Mo_findWidths 160 = .ok (.invokevirtual 169, 3) := pl_dc dd_Mo_findWidths 96 (q := (160, .invokevirtual 169, 3)) rfl
  have k163 : decode b_Mo_findWidths 163 = .ok (.aload_n 0, 1) := pl_dc dd_Mo_findWidths 97 (q := (163, .aload_n 0, 1)) rfl
  have k164 : decode b_Mo_findWidths 164 = .ok (.getfield 30, 3) := pl_dc dd_Mo_findWidths 98 (q := (164, .getfield 30, 3)) rfl
  have k167 : decode b_Mo_findWidths 167 = .ok (.iload_n 2, 1) := pl_dc dd_Mo_findWidths 99 (q := (167, .iload_n 2, 1)) rfl
  have k168 : decode b_Mo_findWidths 168 = .ok (.iaload, 1) := pl_dc dd_Mo_findWidths 100 (q := (168, .iaload, 1)) rfl
  have k169 : decode b_Mo_findWidths 169 = .ok (.iconst 2, 1) := pl_dc dd_Mo_findWidths 101 (q := (169, .iconst 2, 1)) rfl
  have k170 : decode b_Mo_findWidths 170 = .ok (.if_icmp .ne 8, 3) := pl_dc dd_Mo_findWidths 102 (q := (170, .if_icmp .ne 8, 3)) rfl
  have k173 : decode b_Mo_findWidths 173 = .ok (.aload_n 0, 1) := pl_dc dd_Mo_findWidths 103 (q := (173, .aload_n 0, 1)) rfl
  have k174 : decode b_Mo_findWidths 174 = .ok (.iload_n 2, 1) := pl_dc dd_Mo_findWidths 104 (q := (174, .iload_n 2, 1)) rfl
  have k175 : decode b_Mo_findWidths 175 = .ok (.invokevirtual 172, 3) := pl_dc dd_Mo_findWidths 105 (q := (175, .invokevirtual 172, 3)) rfl
  have k178 : decode b_Mo_findWidths 178 = .ok (.iinc 2 1, 3) := pl_dc dd_Mo_findWidths 106 (q := (178, .iinc 2 1, 3)) rfl
  have k181 : decode b_Mo_findWidths 181 = .ok (.goto (-179), 3) := pl_dc dd_Mo_findWidths 107 (q := (181, .goto (-179), 3)) rfl
  have k184 : decode b_Mo_findWidths 184 = .ok (.return_, 1) := pl_dc dd_Mo_findWidths 108 (q := (184, .return_, 1)) rfl
  exact (d_seq (p1 := 184) (d_seq (p1 := 2) (d_istore_n (p1 := 1) F (c_iconst F k0 (by decide)) k1 rfl (hm 2 (by decide))) (d_while (p1 := 10) (p2 := 181) F (b_cmp_t (p1 := 3) (p2 := 7) (pj := 184) F (c_iload_n F k2 rfl) (c_geti (p1 := 4) F 3 1 hg_3_1 (c_aload_n F k3 rfl) k4 lf_PageLayouterModel_7) k7 (by decide)) (d_seq (p1 := 178) (d_seq (p1 := 17) (d_istore_n (p1 := 16) F (c_iald (p1 := 14) (p2 := 15) F (c_getr (p1 := 11) F 3 3 hg_3_3 (c_aload_n F k10 rfl) k11 lf_PageLayouterModel_13) (c_iload_n F k14 rfl) k15) k16 rfl (hm 3 (by decide))) (d_seq (p1 := 148) (d_ife (p1 := 39) (p2 := 64) (p3 := 148) F (b_or_t (p1 := 30) (b_or_f (p1 := 21) (b_zero_f (p1 := 18) (pj := 39) F (c_iload_n F k17 rfl) k18 (by decide)) (b_zero_f (p1 := 27) (pj := 39) F (c_zald (p1 := 25) (p2 := 26) F (c_getr (p1 := 22) F 3 7 hg_3_7 (c_aload_n F k21 rfl) k22 lf_PageLayouterModel_26) (c_iload_n F k25 rfl) k26) k27 (by decide))) (b_zero_t (p1 := 36) (pj := 67) F (c_iald (p1 := 34) (p2 := 35) F (c_getr (p1 := 31) F 3 8 hg_3_8 (c_aload_n F k30 rfl) k31 lf_PageLayouterModel_30) (c_iload_n F k34 rfl) k35) k36 (by decide))) (d_iast (p1 := 43) (p2 := 44) (p3 := 63) F (c_getr (p1 := 40) F 3 13 hg_3_13 (c_aload_n F k39 rfl) k40 lf_PageLayouterModel_45) (c_iload_n F k43 rfl) (c_callV (p1 := 60) F (a_i_ok (p1 := 46) (a_i_ok (p1 := 45) (a_r_ok (p1 := 44) a_nil_ok (c_aload_n F k44 rfl)) (c_iload_n F k45 rfl)) (c_if (p1 := 50) (p2 := 51) (p3 := 60) F (b_zero_t (p1 := 47) (pj := 54) F (c_iload_n F k46 rfl) k47 (by decide)) (c_iload_n F k50 rfl) k51 (by decide) (c_iald (p1 := 58) (p2 := 59) F (c_getr (p1 := 55) F 3 13 hg_3_13 (c_aload_n F k54 rfl) k55 lf_PageLayouterModel_45) (c_iload_n F k58 rfl) k59))) (z_Mo_plainWidth _) y_Mo_plainWidth_ok lm_PageLayouterModel_163 k60 r_Mo_plainWidth (by decide) (by decide)) k63) k64 (by decide) (d_ife (p1 := 77) (p2 := 88) (p3 := 148) F (b_cmp_t (p1 := 73) (p2 := 74) (pj := 91) F (c_iald (p1 := 71) (p2 := 72) F (c_getr (p1 := 68) F 3 8 hg_3_8 (c_aload_n F k67 rfl) k68 lf_PageLayouterModel_30) (c_iload_n F k71 rfl) k72) (c_iconst F k73 (by decide)) k74 (by decide)) (d_iast (p1 := 81) (p2 := 82) (p3 := 87) F (c_getr (p1 := 78) F 3 13 hg_3_13 (c_aload_n F k77 rfl) k78 lf_PageLayouterModel_45) (c_iload_n F k81 rfl) (c_callV (p1 := 84) F (a_i_ok (p1 := 83) (a_r_ok (p1 := 82) a_nil_ok (c_aload_n F k82 rfl)) (c_iload_n F k83 rfl)) (z_Mo_allColumns _) y_Mo_allColumns_ok lm_PageLayouterModel_166 k84 r_Mo_allColumns (by decide) (by decide)) k87) k88 (by decide) (d_if (p1 := 100) (p2 := 148) (b_zero_t (p1 := 97) (pj := 148) F (c_zald (p1 := 95) (p2 := 96) F (c_getr (p1 := 92) F 3 9 hg_3_9 (c_aload_n F k91 rfl) k92 lf_PageLayouterModel_33) (c_iload_n F k95 rfl) k96) k97 (by decide)) (d_seq (p1 := 131) (d_istore (p1 := 129) F (c_bin 1 (p1 := 121) (p2 := 128) (c_iald (p1 := 104) (p2 := 120) F (c_getr (p1 := 101) F 3 20 hg_3_20 (c_aload_n F k100 rfl) k101 lf_PageLayouterModel_66) (c_bin 1 (p1 := 113) (p2 := 119) (c_bin 1 (p1 := 106) (p2 := 112) (c_bipush F k104 (by decide)) (c_iald (p1 := 110) (p2 := 111) F (c_getr (p1 := 107) F 3 3 hg_3_3 (c_aload_n F k106 rfl) k107 lf_PageLayouterModel_13) (c_iload_n F k110 rfl) k111) pl_c1 (j_imul F k112)) (c_iald (p1 := 117) (p2 := 118) F (c_getr (p1 := 114) F 3 10 hg_3_10 (c_aload_n F k113 rfl) k114 lf_PageLayouterModel_36) (c_iload_n F k117 rfl) k118) pl_c1 (j_iadd F k119)) k120) (c_bin 1 (p1 := 122) (p2 := 127) (c_iconst F k121 (by decide)) (c_callV (p1 := 124) F (a_i_ok (p1 := 123) (a_r_ok (p1 := 122) a_nil_ok (c_aload_n F k122 rfl)) (c_iload_n F k123 rfl)) (z_Mo_padding _) y_Mo_padding_ok lm_PageLayouterModel_112 k124 r_Mo_padding (by decide) (by decide)) pl_c1 (j_imul F k127)) pl_c1 (j_isub F k128)) k129 (hm 4 (by decide))) (d_iast (p1 := 135) (p2 := 136) (p3 := 147) F (c_getr (p1 := 132) F 3 13 hg_3_13 (c_aload_n F k131 rfl) k132 lf_PageLayouterModel_45) (c_iload_n F k135 rfl) (c_if (p1 := 141) (p2 := 143) (p3 := 147) F (b_zero_t (p1 := 138) (pj := 146) F (c_iload F k136) k138 (by decide)) (c_iload F k141) k143 (by decide) (c_iconst F k146 (by decide))) k147))))) (d_seq (p1 := 163) (d_if (p1 := 158) (p2 := 163) (b_cmp_t (p1 := 154) (p2 := 155) (pj := 163) F (c_iald (p1 := 152) (p2 := 153) F (c_getr (p1 := 149) F 3 8 hg_3_8 (c_aload_n F k148 rfl) k149 lf_PageLayouterModel_30) (c_iload_n F k152 rfl) k153) (c_iconst F k154 (by decide)) k155 (by decide)) (d_callV (p1 := 160) F (a_i_ok (p1 := 159) (a_r_ok (p1 := 158) a_nil_ok (c_aload_n F k158 rfl)) (c_iload_n F k159 rfl)) (z_Mo_spreadFlex _) y_Mo_spreadFlex_ok lm_PageLayouterModel_169 k160 r_Mo_spreadFlex (by decide))) (d_if (p1 := 173) (p2 := 178) (b_cmp_t (p1 := 169) (p2 := 170) (pj := 178) F (c_iald (p1 := 167) (p2 := 168) F (c_getr (p1 := 164) F 3 8 hg_3_8 (c_aload_n F k163 rfl) k164 lf_PageLayouterModel_30) (c_iload_n F k167 rfl) k168) (c_iconst F k169 (by decide)) k170 (by decide)) (d_callV (p1 := 175) F (a_i_ok (p1 := 174) (a_r_ok (p1 := 173) a_nil_ok (c_aload_n F k173 rfl)) (c_iload_n F k174 rfl)) (z_Mo_spreadTable _) y_Mo_spreadTable_ok lm_PageLayouterModel_172 k175 r_Mo_spreadTable (by decide)))))) (d_iinc F k178 (by decide) (hm 2 (by decide)))) k181 (by decide))) (d_retv F Fm.2.1 Fm.2.2.1 k184)))
def y_Mo_findFixed : MethodName := ⟨"PageLayouterModel", "findFixed", "(I)V"⟩
abbrev b_Mo_findFixed : ByteArray := prog_10_method_36_code
abbrev n_Mo_findFixed : Nat := 5
theorem y_Mo_findFixed_ok : pl_MV 3 y_Mo_findFixed b_Mo_findFixed n_Mo_findFixed (Option.none : Option Jvm.ClassFile.FieldType) 1 := ⟨pl_mem 916 (by decide +kernel) (by decide +kernel), pl_mem 915 (by decide +kernel) (by decide +kernel), pl_mem 34 (by decide +kernel) (by decide +kernel), pl_mem 47 (by decide +kernel) (by decide +kernel), ⟨by decide, by decide, by decide +kernel⟩, _, rfl, rfl⟩
def D_Mo_findFixed : List (Nat × Instr × Nat) := [(0, .iconst 0, 1), (1, .istore_n 2, 1), (2, .iload_n 2, 1), (3, .aload_n 0, 1), (4, .getfield 7, 3), (7, .if_icmp .ge 78, 3), (10, .aload_n 0, 1), (11, .iload_n 2, 1), (12, .invokevirtual 175, 3), (15, .istore_n 3, 1), (16, .iload_n 2, 1), (17, .ifCond .ne 7, 3), (20, .iload_n 1, 1), (21, .goto 14, 3), (24, .aload_n 0, 1), (25, .getfield 51, 3), (28, .aload_n 0, 1), (29, .getfield 13, 3), (32, .iload_n 2, 1), (33, .iaload, 1), (34, .iaload, 1), (35, .istore 4, 2), (37, .aload_n 0, 1), (38, .getfield 51, 3), (41, .iload_n 2, 1), (42, .iload_n 3, 1), (43, .iconst (-1), 1), (44, .if_icmp .eq 14, 3), (47, .iload_n 3, 1), (48, .ldc 99, 2), (50, .if_icmp .lt 12, 3), (53, .iload 4, 2), (55, .ifCond .ge 7, 3), (58, .iconst (-1), 1), (59, .goto 19, 3), (62, .iload_n 3, 1), (63, .ldc 99, 2), (65, .if_icmp .lt 12, 3), (68, .iload_n 3, 1), (69, .iload 4, 2), (71, .invokestatic 142, 3), (74, .goto 4, 3), (77, .iload_n 3, 1), (78, .iastore, 1), (79, .iinc 2 1, 3), (82, .goto (-80), 3), (85, .return_, 1)]
theorem dd_Mo_findFixed : (D_Mo_findFixed.all fun q => decide (decode b_Mo_findFixed q.1 = .ok q.2)) = true := by decide +kernel
def t_Mo_findFixed : pl_TR := fun P _ _ => s_seq (s_seq (s_seti 2 (e_int 0)) (s_while (b_cmp .lt (e_loc 2) (e_geti 3 1 (e_locr 0))) (s_seq (s_seq (s_seti 3 (e_callV Value.int 3 t_Mo_heightOf n_Mo_heightOf (a_i (a_r a_nil (e_locr 0)) (e_loc 2)))) (s_seq (s_seti 4 (e_if (b_zero .eq (e_loc 2)) (e_loc 1) (e_ald 1 (e_getr 3 15 (e_locr 0)) (e_ald 1 (e_getr 3 3 (e_locr 0)) (e_loc 2))))) (s_iast (e_getr 3 15 (e_locr 0)) (e_loc 2) (e_if (b_or (b_cmp .eq (e_loc 3) (e_int (-1))) (b_and (b_cmp .ge (e_loc 3) (e_int 100000)) (b_zero .lt (e_loc 4)))) (e_int (-1)) (e_if (b_cmp .ge (e_loc 3) (e_int 100000)) (e_callS Value.int t_Mo_part n_Mo_part (a_i (a_i a_nil (e_loc 3)) (e_loc 4))) (e_loc 3)))))) (s_inc 2 1)))) (s_retv P)
theorem z_Mo_findFixed (l : Launch) : pl_Ctr l y_Mo_findFixed b_Mo_findFixed n_Mo_findFixed (Option.none : Option Jvm.ClassFile.FieldType) 1 21 0 0 false t_Mo_findFixed := pl_ctr_of (pe := 0) (by decide) (fun X Y P F Fm => by
  have F : pl_Fx X Y "PageLayouterModel" b_Mo_findFixed := F
  have r_Mo_heightOf : 0 + 1 ≤ (pl_xR X).frames ∧ 8 + (n_Mo_heightOf + 11) + 0 ≤ (pl_xR X).locals := ⟨Nat.le_trans (by decide) Fm.2.2.2.2.2.1, Nat.le_trans (by decide) Fm.2.2.2.2.2.2.1⟩
  have r_Mo_part : 0 + 1 ≤ (pl_xR X).frames ∧ 8 + (n_Mo_part + 11) + 0 ≤ (pl_xR X).locals := ⟨Nat.le_trans (by decide) Fm.2.2.2.2.2.1, Nat.le_trans (by decide) Fm.2.2.2.2.2.2.1⟩
  have hm : ∀ i, i < 5 → i < (pl_xc X).maxLocals := fun i h => by rw [Fm.2.2.2.1]; exact h
  have k0 : decode b_Mo_findFixed 0 = .ok (.iconst 0, 1) := pl_dc dd_Mo_findFixed 0 (q := (0, .iconst 0, 1)) rfl
  have k1 : decode b_Mo_findFixed 1 = .ok (.istore_n 2, 1) := pl_dc dd_Mo_findFixed 1 (q := (1, .istore_n 2, 1)) rfl
  have k2 : decode b_Mo_findFixed 2 = .ok (.iload_n 2, 1) := pl_dc dd_Mo_findFixed 2 (q := (2, .iload_n 2, 1)) rfl
  have k3 : decode b_Mo_findFixed 3 = .ok (.aload_n 0, 1) := pl_dc dd_Mo_findFixed 3 (q := (3, .aload_n 0, 1)) rfl
  have k4 : decode b_Mo_findFixed 4 = .ok (.getfield 7, 3) := pl_dc dd_Mo_findFixed 4 (q := (4, .getfield 7, 3)) rfl
  have k7 : decode b_Mo_findFixed 7 = .ok (.if_icmp .ge 78, 3) := pl_dc dd_Mo_findFixed 5 (q := (7, .if_icmp .ge 78, 3)) rfl
  have k10 : decode b_Mo_findFixed 10 = .ok (.aload_n 0, 1) := pl_dc dd_Mo_findFixed 6 (q := (10, .aload_n 0, 1)) rfl
  have k11 : decode b_Mo_findFixed 11 = .ok (.iload_n 2, 1) := pl_dc dd_Mo_findFixed 7 (q := (11, .iload_n 2, 1)) rfl
  have k12 : decode b_Mo_findFixed 12 = .ok (.invokevirtual 175, 3) := pl_dc dd_Mo_findFixed 8 (q := (12, .invokevirtual 175, 3)) rfl
  have k15 : decode b_Mo_findFixed 15 = .ok (.istore_n 3, 1) := pl_dc dd_Mo_findFixed 9 (q := (15, .istore_n 3, 1)) rfl
  have k16 : decode b_Mo_findFixed 16 = .ok (.iload_n 2, 1) := pl_dc dd_Mo_findFixed 10 (q := (16, .iload_n 2, 1)) rfl
  have k17 : decode b_Mo_findFixed 17 = .ok (.ifCond .ne 7, 3) := pl_dc dd_Mo_findFixed 11 (q := (17, .ifCond .ne 7, 3)) rfl
  have k20 : decode b_Mo_findFixed 20 = .ok (.iload_n 1, 1) := pl_dc dd_Mo_findFixed 12 (q := (20, .iload_n 1, 1)) rfl
  have k21 : decode b_Mo_findFixed 21 = .ok (.goto 14, 3) := pl_dc dd_Mo_findFixed 13 (q := (21, .goto 14, 3)) rfl
  have k24 : decode b_Mo_findFixed 24 = .ok (.aload_n 0, 1) := pl_dc dd_Mo_findFixed 14 (q := (24, .aload_n 0, 1)) rfl
  have k25 : decode b_Mo_findFixed 25 = .ok (.getfield 51, 3) := pl_dc dd_Mo_findFixed 15 (q := (25, .getfield 51, 3)) rfl
  have k28 : decode b_Mo_findFixed 28 = .ok (.aload_n 0, 1) := pl_dc dd_Mo_findFixed 16 (q := (28, .aload_n 0, 1)) rfl
  have k29 : decode b_Mo_findFixed 29 = .ok (.getfield 13, 3) := pl_dc dd_Mo_findFixed 17 (q := (29, .getfield 13, 3)) rfl
  have k32 : decode b_Mo_findFixed 32 = .ok (.iload_n 2, 1) := pl_dc dd_Mo_findFixed 18 (q := (32, .iload_n 2, 1)) rfl
  have k33 : decode b_Mo_findFixed 33 = .ok (.iaload, 1) := pl_dc dd_Mo_findFixed 19 (q := (33, .iaload, 1)) rfl
  have k34 : decode b_Mo_findFixed 34 = .ok (.iaload, 1) := pl_dc dd_Mo_findFixed 20 (q := (34, .iaload, 1)) rfl
  have k35 : decode b_Mo_findFixed 35 = .ok (.istore 4, 2) := pl_dc dd_Mo_findFixed 21 (q := (35, .istore 4, 2)) rfl
  have k37 : decode b_Mo_findFixed 37 = .ok (.aload_n 0, 1) := pl_dc dd_Mo_findFixed 22 (q := (37, .aload_n 0, 1)) rfl
  have k38 : decode b_Mo_findFixed 38 = .ok (.getfield 51, 3) := pl_dc dd_Mo_findFixed 23 (q := (38, .getfield 51, 3)) rfl
  have k41 : decode b_Mo_findFixed 41 = .ok (.iload_n 2, 1) := pl_dc dd_Mo_findFixed 24 (q := (41, .iload_n 2, 1)) rfl
  have k42 : decode b_Mo_findFixed 42 = .ok (.iload_n 3, 1) := pl_dc dd_Mo_findFixed 25 (q := (42, .iload_n 3, 1)) rfl
  have k43 : decode b_Mo_findFixed 43 = .ok (.iconst (-1), 1) := pl_dc dd_Mo_findFixed 26 (q := (43, .iconst (-1), 1)) rfl
  have k44 : decode b_Mo_findFixed 44 = .ok (.if_icmp .eq 14, 3) := pl_dc dd_Mo_findFixed 27 (q := (44, .if_icmp .eq 14, 3)) rfl
  have k47 : decode b_Mo_findFixed 47 = .ok (.iload_n 3, 1) := pl_dc dd_Mo_findFixed 28 (q := (47, .iload_n 3, 1)) rfl
  have k48 : decode b_Mo_findFixed 48 = .ok (.ldc 99, 2) := pl_dc dd_Mo_findFixed 29 (q := (48, .ldc 99, 2)) rfl
  have k50 : decode b_Mo_findFixed 50 = .ok (.if_icmp .lt 12, 3) := pl_dc dd_Mo_findFixed 30 (q := (50, .if_icmp .lt 12, 3)) rfl
  have k53 : decode b_Mo_findFixed 53 = .ok (.iload 4, 2) := pl_dc dd_Mo_findFixed 31 (q := (53, .iload 4, 2)) rfl
  have k55 : decode b_Mo_findFixed 55 = .ok (.ifCond .ge 7, 3) := pl_dc dd_Mo_findFixed 32 (q := (55, .ifCond .ge 7, 3)) rfl
  have k58 : decode b_Mo_findFixed 58 = .ok (.iconst (-1), 1) := pl_dc dd_Mo_findFixed 33 (q := (58, .iconst (-1), 1)) rfl
  have k59 : decode b_Mo_findFixed 59 = .ok (.goto 19, 3) := pl_dc dd_Mo_findFixed 34 (q := (59, .goto 19, 3)) rfl
  have k62 : decode b_Mo_findFixed 62 = .ok (.iload_n 3, 1) := pl_dc dd_Mo_findFixed 35 (q := (62, .iload_n 3, 1)) rfl
  have k63 : decode b_Mo_findFixed 63 = .ok (.ldc 99, 2) := pl_dc dd_Mo_findFixed 36 (q := (63, .ldc 99, 2)) rfl
  have k65 : decode b_Mo_findFixed 65 = .ok (.if_icmp .lt 12, 3) := pl_dc dd_Mo_findFixed 37 (q := (65, .if_icmp .lt 12, 3)) rfl
  have k68 : decode b_Mo_findFixed 68 = .ok (.iload_n 3, 1) := pl_dc dd_Mo_findFixed 38 (q := (68, .iload_n 3, 1)) rfl
  have k69 : decode b_Mo_findFixed 69 = .ok (.iload 4, 2) := pl_dc dd_Mo_findFixed 39 (q := (69, .iload 4, 2)) rfl
  have k71 : decode b_Mo_findFixed 71 = .ok (.invokestatic 142, 3) := pl_dc dd_Mo_findFixed 40 (q := (71, .invokestatic 142, 3)) rfl
  have k74 : decode b_Mo_findFixed 74 = .ok (.goto 4, 3) := pl_dc dd_Mo_findFixed 41 (q := (74, .goto 4, 3)) rfl
  have k77 : decode b_Mo_findFixed 77 = .ok (.iload_n 3, 1) := pl_dc dd_Mo_findFixed 42 (q := (77, .iload_n 3, 1)) rfl
  have k78 : decode b_Mo_findFixed 78 = .ok (.iastore, 1) := pl_dc dd_Mo_findFixed 43 (q := (78, .iastore, 1)) rfl
  have k79 : decode b_Mo_findFixed 79 = .ok (.iinc 2 1, 3) := pl_dc dd_Mo_findFixed 44 (q := (79, .iinc 2 1, 3)) rfl
  have k82 : decode b_Mo_findFixed 82 = .ok (.goto (-80), 3) := pl_dc dd_Mo_findFixed 45 (q := (82, .goto (-80), 3)) rfl
  have k85 : decode b_Mo_findFixed 85 = .ok (.return_, 1) := pl_dc dd_Mo_findFixed 46 (q := (85, .return_, 1)) rfl
  exact (d_seq (p1 := 85) (d_seq (p1 := 2) (d_istore_n (p1 := 1) F (c_iconst F k0 (by decide)) k1 rfl (hm 2 (by decide))) (d_while (p1 := 10) (p2 := 82) F (b_cmp_t (p1 := 3) (p2 := 7) (pj := 85) F (c_iload_n F k2 rfl) (c_geti (p1 := 4) F 3 1 hg_3_1 (c_aload_n F k3 rfl) k4 lf_PageLayouterModel_7) k7 (by decide)) (d_seq (p1 := 79) (d_seq (p1 := 16) (d_istore_n (p1 := 15) F (c_callV (p1 := 12) F (a_i_ok (p1 := 11) (a_r_ok (p1 := 10) a_nil_ok (c_aload_n F k10 rfl)) (c_iload_n F k11 rfl)) (z_Mo_heightOf _) y_Mo_heightOf_ok lm_PageLayouterModel_175 k12 r_Mo_heightOf (by decide) (by decide)) k15 rfl (hm 3 (by decide))) (d_seq (p1 := 37) (d_istore (p1 := 35) F (c_if (p1 := 20) (p2 := 21) (p3 := 35) F (b_zero_t (p1 := 17) (pj := 24) F (c_iload_n F k16 rfl) k17 (by decide)) (c_iload_n F k20 rfl) k21 (by decide) (c_iald (p1 := 28) (p2 := 34) F (c_getr (p1 := 25) F 3 15 hg_3_15 (c_aload_n F k24 rfl) k25 lf_PageLayouterModel_51) (c_iald (p1 := 32) (p2 := 33) F (c_getr (p1 := 29) F 3 3 hg_3_3 (c_aload_n F k28 rfl) k29 lf_PageLayouterModel_13) (c_iload_n F k32 rfl) k33) k34)) k35 (hm 4 (by decide))) (d_iast (p1 := 41) (p2 := 42) (p3 := 78) F (c_getr (p1 := 38) F 3 15 hg_3_15 (c_aload_n F k37 rfl) k38 lf_PageLayouterModel_51) (c_iload_n F k41 rfl) (c_if (p1 := 58) (p2 := 59) (p3 := 78) F (b_or_t (p1 := 47) (b_cmp_f (p1 := 43) (p2 := 44) (pj := 58) F (c_iload_n F k42 rfl) (c_iconst F k43 (by decide)) k44 (by decide)) (b_and_t (p1 := 53) (b_cmp_t (p1 := 48) (p2 := 50) (pj := 62) F (c_iload_n F k47 rfl) (c_ldc F lc_PageLayouterModel_99 k48) k50 (by decide)) (b_zero_t (p1 := 55) (pj := 62) F (c_iload F k53) k55 (by decide)))) (c_iconst F k58 (by decide)) k59 (by decide) (c_if (p1 := 68) (p2 := 74) (p3 := 78) F (b_cmp_t (p1 := 63) (p2 := 65) (pj := 77) F (c_iload_n F k62 rfl) (c_ldc F lc_PageLayouterModel_99 k63) k65 (by decide)) (c_callS (p1 := 71) F (a_i_ok (p1 := 69) (a_i_ok (p1 := 68) a_nil_ok (c_iload_n F k68 rfl)) (c_iload F k69)) (z_Mo_part _) y_Mo_part_ok lm_PageLayouterModel_142 k71 r_Mo_part (by decide) (by decide)) k74 (by decide) (c_iload_n F k77 rfl))) k78))) (d_iinc F k79 (by decide) (hm 2 (by decide)))) k82 (by decide))) (d_retv F Fm.2.1 Fm.2.2.1 k85)))
def y_Mo_lines : MethodName := ⟨"PageLayouterModel", "lines", "(I)I"⟩
abbrev b_Mo_lines : ByteArray := prog_10_method_37_code
abbrev n_Mo_lines : Nat := 4
theorem y_Mo_lines_ok : pl_MV 3 y_Mo_lines b_Mo_lines n_Mo_lines (Option.some Jvm.ClassFile.FieldType.int) 1 := ⟨pl_mem 936 (by decide +kernel) (by decide +kernel), pl_mem 935 (by decide +kernel) (by decide +kernel), pl_mem 39 (by decide +kernel) (by decide +kernel), pl_mem 47 (by decide +kernel) (by decide +kernel), ⟨by decide, by decide, by decide +kernel⟩, _, rfl, rfl⟩
def D_Mo_lines : List (Nat × Instr × Nat) := [(0, .aload_n 0, 1), (1, .getfield 23, 3), (4, .bipush 12, 2), (6, .iload_n 1, 1), (7, .imul, 1), (8, .bipush 6, 2), (10, .iadd, 1), (11, .iaload, 1), (12, .istore_n 2, 1), (13, .aload_n 0, 1), (14, .getfield 45, 3), (17, .iload_n 1, 1), (18, .iaload, 1), (19, .iconst 1, 1), (20, .iadd, 1), (21, .aload_n 0, 1), (22, .getfield 23, 3), (25, .bipush 12, 2), (27, .iload_n 1, 1), (28, .imul, 1), (29, .bipush 7, 2), (31, .iadd, 1), (32, .iaload, 1), (33, .iconst 1, 1), (34, .iadd, 1), (35, .idiv, 1), (36, .istore_n 3, 1), (37, .iload_n 3, 1), (38, .iconst 1, 1), (39, .if_icmp .ge 7, 3), (42, .iconst 1, 1), (43, .goto 4, 3), (46, .iload_n 3, 1), (47, .istore_n 3, 1), (48, .iload_n 2, 1), (49, .iload_n 3, 1), (50, .iadd, 1), (51, .iconst 1, 1), (52, .isub, 1), (53, .iload_n 3, 1), (54, .idiv, 1), (55, .ireturn, 1)]
theorem dd_Mo_lines : (D_Mo_lines.all fun q => decide (decode b_Mo_lines q.1 = .ok q.2)) = true := by decide +kernel
def t_Mo_lines : pl_TR := fun P _ _ => s_seq (s_seti 2 (e_ald 1 (e_getr 3 6 (e_locr 0)) (e_bin (fun x y : Int32 => x + y) (e_bin (fun x y : Int32 => x * y) (e_int 12) (e_loc 1)) (e_int 6)))) (s_seq (s_seti 3 (e_div (e_bin (fun x y : Int32 => x + y) (e_ald 1 (e_getr 3 13 (e_locr 0)) (e_loc 1)) (e_int 1)) (e_bin (fun x y : Int32 => x + y) (e_ald 1 (e_getr 3 6 (e_locr 0)) (e_bin (fun x y : Int32 => x + y) (e_bin (fun x y : Int32 => x * y) (e_int 12) (e_loc 1)) (e_int 7))) (e_int 1)))) (s_seq (s_seti 3 (e_if (b_cmp .lt (e_loc 3) (e_int 1)) (e_int 1) (e_loc 3))) (s_reti P (e_div (e_bin (fun x y : Int32 => x - y) (e_bin (fun x y : Int32 => x + y) (e_loc 2) (e_loc 3)) (e_int 1)) (e_loc 3)))))
theorem z_Mo_lines (l : Launch) : pl_Ctr l y_Mo_lines b_Mo_lines n_Mo_lines (Option.some Jvm.ClassFile.FieldType.int) 0 0 0 0 false t_Mo_lines := pl_ctr_of (pe := 0) (by decide) (fun X Y P F Fm => by
  have F : pl_Fx X Y "PageLayouterModel" b_Mo_lines := F
  have hm : ∀ i, i < 4 → i < (pl_xc X).maxLocals := fun i h => by rw [Fm.2.2.2.1]; exact h
  have k0 : decode b_Mo_lines 0 = .ok (.aload_n 0, 1) := pl_dc dd_Mo_lines 0 (q := (0, .aload_n 0, 1)) rfl
  have k1 : decode b_Mo_lines 1 = .ok (.getfield 23, 3) := pl_dc dd_Mo_lines 1 (q := (1, .getfield 23, 3)) rfl
  have k4 : decode b_Mo_lines 4 = .ok (.bipush 12, 2) := pl_dc dd_Mo_lines 2 (q := (4, .bipush 12, 2)) rfl
  have k6 : decode b_Mo_lines 6 = .ok (.iload_n 1, 1) := pl_dc dd_Mo_lines 3 (q := (6, .iload_n 1, 1)) rfl
  have k7 : decode b_Mo_lines 7 = .ok (.imul, 1) := pl_dc dd_Mo_lines 4 (q := (7, .imul, 1)) rfl
  have k8 : decode b_Mo_lines 8 = .ok (.bipush 6, 2) := pl_dc dd_Mo_lines 5 (q := (8, .bipush 6, 2)) rfl
  have k10 : decode b_Mo_lines 10 = .ok (.iadd, 1) := pl_dc dd_Mo_lines 6 (q := (10, .iadd, 1)) rfl
  have k11 : decode b_Mo_lines 11 = .ok (.iaload, 1) := pl_dc dd_Mo_lines 7 (q := (11, .iaload, 1)) rfl
  have k12 : decode b_Mo_lines 12 = .ok (.istore_n 2, 1) := pl_dc dd_Mo_lines 8 (q := (12, .istore_n 2, 1)) rfl
  have k13 : decode b_Mo_lines 13 = .ok (.aload_n 0, 1) := pl_dc dd_Mo_lines 9 (q := (13, .aload_n 0, 1)) rfl
  have k14 : decode b_Mo_lines 14 = .ok (.getfield 45, 3) := pl_dc dd_Mo_lines 10 (q := (14, .getfield 45, 3)) rfl
  have k17 : decode b_Mo_lines 17 = .ok (.iload_n 1, 1) := pl_dc dd_Mo_lines 11 (q := (17, .iload_n 1, 1)) rfl
  have k18 : decode b_Mo_lines 18 = .ok (.iaload, 1) := pl_dc dd_Mo_lines 12 (q := (18, .iaload, 1)) rfl
  have k19 : decode b_Mo_lines 19 = .ok (.iconst 1, 1) := pl_dc dd_Mo_lines 13 (q := (19, .iconst 1, 1)) rfl
  have k20 : decode b_Mo_lines 20 = .ok (.iadd, 1) := pl_dc dd_Mo_lines 14 (q := (20, .iadd, 1)) rfl
  have k21 : decode b_Mo_lines 21 = .ok (.aload_n 0, 1) := pl_dc dd_Mo_lines 15 (q := (21, .aload_n 0, 1)) rfl
  have k22 : decode b_Mo_lines 22 = .ok (.getfield 23, 3) := pl_dc dd_Mo_lines 16 (q := (22, .getfield 23, 3)) rfl
  have k25 : decode b_Mo_lines 25 = .ok (.bipush 12, 2) := pl_dc dd_Mo_lines 17 (q := (25, .bipush 12, 2)) rfl
  have k27 : decode b_Mo_lines 27 = .ok (.iload_n 1, 1) := pl_dc dd_Mo_lines 18 (q := (27, .iload_n 1, 1)) rfl
  have k28 : decode b_Mo_lines 28 = .ok (.imul, 1) := pl_dc dd_Mo_lines 19 (q := (28, .imul, 1)) rfl
  have k29 : decode b_Mo_lines 29 = .ok (.bipush 7, 2) := pl_dc dd_Mo_lines 20 (q := (29, .bipush 7, 2)) rfl
  have k31 : decode b_Mo_lines 31 = .ok (.iadd, 1) := pl_dc dd_Mo_lines 21 (q := (31, .iadd, 1)) rfl
  have k32 : decode b_Mo_lines 32 = .ok (.iaload, 1) := pl_dc dd_Mo_lines 22 (q := (32, .iaload, 1)) rfl
  have k33 : decode b_Mo_lines 33 = .ok (.iconst 1, 1) := pl_dc dd_Mo_lines 23 (q := (33, .iconst 1, 1)) rfl
  have k34 : decode b_Mo_lines 34 = .ok (.iadd, 1) := pl_dc dd_Mo_lines 24 (q := (34, .iadd, 1)) rfl
  have k35 : decode b_Mo_lines 35 = .ok (.idiv, 1) := pl_dc dd_Mo_lines 25 (q := (35, .idiv, 1)) rfl
  have k36 : decode b_Mo_lines 36 = .ok (.istore_n 3, 1) := pl_dc dd_Mo_lines 26 (q := (36, .istore_n 3, 1)) rfl
  have k37 : decode b_Mo_lines 37 = .ok (.iload_n 3, 1) := pl_dc dd_Mo_lines 27 (q := (37, .iload_n 3, 1)) rfl
  have k38 : decode b_Mo_lines 38 = .ok (.iconst 1, 1) := pl_dc dd_Mo_lines 28 (q := (38, .iconst 1, 1)) rfl
  have k39 : decode b_Mo_lines 39 = .ok (.if_icmp .ge 7, 3) := pl_dc dd_Mo_lines 29 (q := (39, .if_icmp .ge 7, 3)) rfl
  have k42 : decode b_Mo_lines 42 = .ok (.iconst 1, 1) := pl_dc dd_Mo_lines 30 (q := (42, .iconst 1, 1)) rfl
  have k43 : decode b_Mo_lines 43 = .ok (.goto 4, 3) := pl_dc dd_Mo_lines 31 (q := (43, .goto 4, 3)) rfl
  have k46 : decode b_Mo_lines 46 = .ok (.iload_n 3, 1) := pl_dc dd_Mo_lines 32 (q := (46, .iload_n 3, 1)) rfl
  have k47 : decode b_Mo_lines 47 = .ok (.istore_n 3, 1) := pl_dc dd_Mo_lines 33 (q := (47, .istore_n 3, 1)) rfl
  have k48 : decode b_Mo_lines 48 = .ok (.iload_n 2, 1) := pl_dc dd_Mo_lines 34 (q := (48, .iload_n 2, 1)) rfl
  have k49 : decode b_Mo_lines 49 = .ok (.iload_n 3, 1) := pl_dc dd_Mo_lines 35 (q := (49, .iload_n 3, 1)) rfl
  have k50 : decode b_Mo_lines 50 = .ok (.iadd, 1) := pl_dc dd_Mo_lines 36 (q := (50, .iadd, 1)) rfl
  have k51 : decode b_Mo_lines 51 = .ok (.iconst 1, 1) := pl_dc dd_Mo_lines 37 (q := (51, .iconst 1, 1)) rfl
  have k52 : decode b_Mo_lines 52 = .ok (.isub, 1) := pl_dc dd_Mo_lines 38 (q := (52, .isub, 1)) rfl
  have k53 : decode b_Mo_lines 53 = .ok (.iload_n 3, 1) := pl_dc dd_Mo_lines 39 (q := (53, .iload_n 3, 1)) rfl
  have k54 : decode b_Mo_lines 54 = .ok (.idiv, 1) := pl_dc dd_Mo_lines 40 (q := (54, .idiv, 1)) rfl
  have k55 : decode b_Mo_lines 55 = .ok (.ireturn, 1) := pl_dc dd_Mo_lines 41 (q := (55, .ireturn, 1)) rfl
  exact (d_seq (p1 := 13) (d_istore_n (p1 := 12) F (c_iald (p1 := 4) (p2 := 11) F (c_getr (p1 := 1) F 3 6 hg_3_6 (c_aload_n F k0 rfl) k1 lf_PageLayouterModel_23) (c_bin 1 (p1 := 8) (p2 := 10) (c_bin 1 (p1 := 6) (p2 := 7) (c_bipush F k4 (by decide)) (c_iload_n F k6 rfl) pl_c1 (j_imul F k7)) (c_bipush F k8 (by decide)) pl_c1 (j_iadd F k10)) k11) k12 rfl (hm 2 (by decide))) (d_seq (p1 := 37) (d_istore_n (p1 := 36) F (c_div (p1 := 21) (p2 := 35) F (c_bin 1 (p1 := 19) (p2 := 20) (c_iald (p1 := 17) (p2 := 18) F (c_getr (p1 := 14) F 3 13 hg_3_13 (c_aload_n F k13 rfl) k14 lf_PageLayouterModel_45) (c_iload_n F k17 rfl) k18) (c_iconst F k19 (by decide)) pl_c1 (j_iadd F k20)) (c_bin 1 (p1 := 33) (p2 := 34) (c_iald (p1 := 25) (p2 := 32) F (c_getr (p1 := 22) F 3 6 hg_3_6 (c_aload_n F k21 rfl) k22 lf_PageLayouterModel_23) (c_bin 1 (p1 := 29) (p2 := 31) (c_bin 1 (p1 := 27) (p2 := 28) (c_bipush F k25 (by decide)) (c_iload_n F k27 rfl) pl_c1 (j_imul F k28)) (c_bipush F k29 (by decide)) pl_c1 (j_iadd F k31)) k32) (c_iconst F k33 (by decide)) pl_c1 (j_iadd F k34)) k35) k36 rfl (hm 3 (by decide))) (d_seq (p1 := 48) (d_istore_n (p1 := 47) F (c_if (p1 := 42) (p2 := 43) (p3 := 47) F (b_cmp_t (p1 := 38) (p2 := 39) (pj := 46) F (c_iload_n F k37 rfl) (c_iconst F k38 (by decide)) k39 (by decide)) (c_iconst F k42 (by decide)) k43 (by decide) (c_iload_n F k46 rfl)) k47 rfl (hm 3 (by decide))) (d_reti (p1 := 55) F Fm.2.1 Fm.2.2.1 (c_div (p1 := 53) (p2 := 54) F (c_bin 1 (p1 := 51) (p2 := 52) (c_bin 1 (p1 := 49) (p2 := 50) (c_iload_n F k48 rfl) (c_iload_n F k49 rfl) pl_c1 (j_iadd F k50)) (c_iconst F k51 (by decide)) pl_c1 (j_isub F k52)) (c_iload_n F k53 rfl) k54) k55)))))
def y_Mo_stand : MethodName := ⟨"PageLayouterModel", "stand", "(I)I"⟩
abbrev b_Mo_stand : ByteArray := prog_10_method_38_code
abbrev n_Mo_stand : Nat := 6
theorem y_Mo_stand_ok : pl_MV 3 y_Mo_stand b_Mo_stand n_Mo_stand (Option.some Jvm.ClassFile.FieldType.int) 1 := ⟨pl_mem 932 (by decide +kernel) (by decide +kernel), pl_mem 931 (by decide +kernel) (by decide +kernel), pl_mem 38 (by decide +kernel) (by decide +kernel), pl_mem 47 (by decide +kernel) (by decide +kernel), ⟨by decide, by decide, by decide +kernel⟩, _, rfl, rfl⟩
def D_Mo_stand : List (Nat × Instr × Nat) := [(0, .iconst 0, 1), (1, .istore_n 2, 1), (2, .iconst 0, 1), (3, .istore_n 3, 1), (4, .iload_n 1, 1), (5, .iconst 1, 1), (6, .iadd, 1), (7, .istore 4, 2), (9, .iload 4, 2), (11, .aload_n 0, 1), (12, .getfield 7, 3), (15, .if_icmp .ge 72, 3), (18, .aload_n 0, 1), (19, .iload 4, 2), (21, .iload_n 1, 1), (22, .invokevirtual 105, 3), (25, .ifCond .eq 56, 3), (28, .aload_n 0, 1), (29, .iload 4, 2), (31, .invokevirtual 108, 3), (34, .istore 5, 2), (36, .iload_n 2, 1), (37, .iload 5, 2), (39, .iload_n 3, 1), (40, .if_icmp .le 8, 3), (43, .iload 5, 2), (45, .goto 4, 3), (48, .iload_n 3, 1), (49, .iadd, 1), (50, .istore_n 2, 1), (51, .aload_n 0, 1), (52, .getfield 54, 3), (55, .iload 4, 2), (57, .iload_n 2, 1), (58, .iastore, 1), (59, .iload_n 2, 1), (60, .aload_n 0, 1), (61, .getfield 48, 3), (64, .iload 4, 2), (66, .iaload, 1), (67, .iadd, 1), (68, .iconst 2, 1), (69, .aload_n 0, 1), (70, .iload 4, 2), (72, .invokevirtual 112, 3), (75, .imul, 1), (76, .iadd, 1), (77, .istore_n 2, 1), (78, .iload 5, 2), (80, .istore_n 3, 1), (81, .iinc 4 1, 3), (84, .goto (-75), 3), (87, .iload_n 2, 1), (88, .iload_n 3, 1), (89, .iadd, 1), (90, .ireturn, 1)]
theorem dd_Mo_stand : (D_Mo_stand.all fun q => decide (decode b_Mo_stand q.1 = .ok q.2)) = true := by decide +kernel
def t_Mo_stand : pl_TR := fun P _ _ => s_seq (s_seti 2 (e_int 0)) (s_seq (s_seti 3 (e_int 0)) (s_seq (s_seq (s_seti 4 (e_bin (fun x y : Int32 => x + y) (e_loc 1) (e_int 1))) (s_while (b_cmp .lt (e_loc 4) (e_geti 3 1 (e_locr 0))) (s_seq (s_if (b_zero .ne (e_callV Value.int 3 t_Mo_flows n_Mo_flows (a_i (a_i (a_r a_nil (e_locr 0)) (e_loc 4)) (e_loc 1)))) (s_seq (s_seti 5 (e_callV Value.int 3 t_Mo_margin n_Mo_margin (a_i (a_r a_nil (e_locr 0)) (e_loc 4)))) (s_seq (s_seti 2 (e_bin (fun x y : Int32 => x + y) (e_loc 2) (e_if (b_cmp .gt (e_loc 5) (e_loc 3)) (e_loc 5) (e_loc 3)))) (s_seq (s_iast (e_getr 3 16 (e_locr 0)) (e_loc 4) (e_loc 2)) (s_seq (s_seti 2 (e_bin (fun x y : Int32 => x + y) (e_bin (fun x y : Int32 => x + y) (e_loc 2) (e_ald 1 (e_getr 3 14 (e_locr 0)) (e_loc 4))) (e_bin (fun x y : Int32 => x * y) (e_int 2) (e_callV Value.int 3 t_Mo_padding n_Mo_padding (a_i (a_r a_nil (e_locr 0)) (e_loc 4)))))) (s_seti 3 (e_loc 5))))))) (s_inc 4 1)))) (s_reti P (e_bin (fun x y : Int32 => x + y) (e_loc 2) (e_loc 3)))))
theorem z_Mo_stand (l : Launch) : pl_Ctr l y_Mo_stand b_Mo_stand n_Mo_stand (Option.some Jvm.ClassFile.FieldType.int) 1 22 0 0 false t_Mo_stand := pl_ctr_of (pe := 0) (by decide) (fun X Y P F Fm => by
  have F : pl_Fx X Y "PageLayouterModel" b_Mo_stand := F
  have r_Mo_flows : 0 + 1 ≤ (pl_xR X).frames ∧ 8 + (n_Mo_flows + 11) + 0 ≤ (pl_xR X).locals := ⟨Nat.le_trans (by decide) Fm.2.2.2.2.2.1, Nat.le_trans (by decide) Fm.2.2.2.2.2.2.1⟩
  have r_Mo_margin : 0 + 1 ≤ (pl_xR X).frames ∧ 8 + (n_Mo_margin + 11) + 0 ≤ (pl_xR X).locals := ⟨Nat.le_trans (by decide) Fm.2.2.2.2.2.1, Nat.le_trans (by decide) Fm.2.2.2.2.2.2.1⟩
  have r_Mo_padding : 0 + 1 ≤ (pl_xR X).frames ∧ 8 + (n_Mo_padding + 11) + 0 ≤ (pl_xR X).locals := ⟨Nat.le_trans (by decide) Fm.2.2.2.2.2.1, Nat.le_trans (by decide) Fm.2.2.2.2.2.2.1⟩
  have hm : ∀ i, i < 6 → i < (pl_xc X).maxLocals := fun i h => by rw [Fm.2.2.2.1]; exact h
  have k0 : decode b_Mo_stand 0 = .ok (.iconst 0, 1) := pl_dc dd_Mo_stand 0 (q := (0, .iconst 0, 1)) rfl
  have k1 : decode b_Mo_stand 1 = .ok (.istore_n 2, 1) := pl_dc dd_Mo_stand 1 (q := (1, .istore_n 2, 1)) rfl
  have k2 : decode b_Mo_stand 2 = .ok (.iconst 0, 1) := pl_dc dd_Mo_stand 2 (q := (2, .iconst 0, 1)) rfl
  have k3 : decode b_Mo_stand 3 = .ok (.istore_n 3, 1) := pl_dc dd_Mo_stand 3 (q := (3, .istore_n 3, 1)) rfl
  have k4 : decode b_Mo_stand 4 = .ok (.iload_n 1, 1) := pl_dc dd_Mo_stand 4 (q := (4, .iload_n 1, 1)) rfl
  have k5 : decode b_Mo_stand 5 = .ok (.iconst 1, 1) := pl_dc dd_Mo_stand 5 (q := (5, .iconst 1, 1)) rfl
  have k6 : decode b_Mo_stand 6 = .ok (.iadd, 1) := pl_dc dd_Mo_stand 6 (q := (6, .iadd, 1)) rfl
  have k7 : decode b_Mo_stand 7 = .ok (.istore 4, 2) := pl_dc dd_Mo_stand 7 (q := (7, .istore 4, 2)) rfl
  have k9 : decode b_Mo_stand 9 = .ok (.iload 4, 2) := pl_dc dd_Mo_stand 8 (q := (9, .iload 4, 2)) rfl
  have k11 : decode b_Mo_stand 11 = .ok (.aload_n 0, 1) := pl_dc dd_Mo_stand 9 (q := (11, .aload_n 0, 1)) rfl
  have k12 : decode b_Mo_stand 12 = .ok (.getfield 7, 3) := pl_dc dd_Mo_stand 10 (q := (12, .getfield 7, 3)) rfl
  have k15 : decode b_Mo_stand 15 = .ok (.if_icmp .ge 72, 3) := pl_dc dd_Mo_stand 11 (q := (15, .if_icmp .ge 72, 3)) rfl
  have k18 : decode b_Mo_stand 18 = .ok (.aload_n 0, 1) := pl_dc dd_Mo_stand 12 (q := (18, .aload_n 0, 1)) rfl
  have k19 : decode b_Mo_stand 19 = .ok (.iload 4, 2) := pl_dc dd_Mo_stand 13 (q := (19, .iload 4, 2)) rfl
  have k21 : decode b_Mo_stand 21 = .ok (.iload_n 1, 1) := pl_dc dd_Mo_stand 14 (q := (21, .iload_n 1, 1)) rfl
  have k22 : decode b_Mo_stand 22 = .ok (.invokevirtual 105, 3) := pl_dc dd_Mo_stand 15 (q := (22, .invokevirtual 105, 3)) rfl
  have k25 : decode b_Mo_stand 25 = .ok (.ifCond .eq 56, 3) := pl_dc dd_Mo_stand 16 (q := (25, .ifCond .eq 56, 3)) rfl
  have k28 : decode b_Mo_stand 28 = .ok (.aload_n 0, 1) := pl_dc dd_Mo_stand 17 (q := (28, .aload_n 0, 1)) rfl
  have k29 : decode b_Mo_stand 29 = .ok (.iload 4, 2) := pl_dc dd_Mo_stand 18 (q := (29, .iload 4, 2)) rfl
  have k31 : decode b_Mo_stand 31 = .ok (.invokevirtual 108, 3) := pl_dc dd_Mo_stand 19 (q := (31, .invokevirtual 108, 3)) rfl
  have k34 : decode b_Mo_stand 34 = .ok (.istore 5, 2) := pl_dc dd_Mo_stand 20 (q := (34, .istore 5, 2)) rfl
  have k36 : decode b_Mo_stand 36 = .ok (.iload_n 2, 1) := pl_dc dd_Mo_stand 21 (q := (36, .iload_n 2, 1)) rfl
  have k37 : decode b_Mo_stand 37 = .ok (.iload 5, 2) := pl_dc dd_Mo_stand 22 (q := (37, .iload 5, 2)) rfl
  have k39 : decode b_Mo_stand 39 = .ok (.iload_n 3, 1) := pl_dc dd_Mo_stand 23 (q := (39, .iload_n 3, 1)) rfl
  have k40 : decode b_Mo_stand 40 = .ok (.if_icmp .le 8, 3) := pl_dc dd_Mo_stand 24 (q := (40, .if_icmp .le 8, 3)) rfl
  have k43 : decode b_Mo_stand 43 = .ok (.iload 5, 2) := pl_dc dd_Mo_stand 25 (q := (43, .iload 5, 2)) rfl
  have k45 : decode b_Mo_stand 45 = .ok (.goto 4, 3) := pl_dc dd_Mo_stand 26 (q := (45, .goto 4, 3)) rfl
  have k48 : decode b_Mo_stand 48 = .ok (.iload_n 3, 1) := pl_dc dd_Mo_stand 27 (q := (48, .iload_n 3, 1)) rfl
  have k49 : decode b_Mo_stand 49 = .ok (.iadd, 1) := pl_dc dd_Mo_stand 28 (q := (49, .iadd, 1)) rfl
  have k50 : decode b_Mo_stand 50 = .ok (.istore_n 2, 1) := pl_dc dd_Mo_stand 29 (q := (50, .istore_n 2, 1)) rfl
  have k51 : decode b_Mo_stand 51 = .ok (.aload_n 0, 1) := pl_dc dd_Mo_stand 30 (q := (51, .aload_n 0, 1)) rfl
  have k52 : decode b_Mo_stand 52 = .ok (.getfield 54, 3) := pl_dc dd_Mo_stand 31 (q := (52, .getfield 54, 3)) rfl
  have k55 : decode b_Mo_stand 55 = .ok (.iload 4, 2) := pl_dc dd_Mo_stand 32 (q := (55, .iload 4, 2)) rfl
  have k57 : decode b_Mo_stand 57 = .ok (.iload_n 2, 1) := pl_dc dd_Mo_stand 33 (q := (57, .iload_n 2, 1)) rfl
  have k58 : decode b_Mo_stand 58 = .ok (.iastore, 1) := pl_dc dd_Mo_stand 34 (q := (58, .iastore, 1)) rfl
  have k59 : decode b_Mo_stand 59 = .ok (.iload_n 2, 1) := pl_dc dd_Mo_stand 35 (q := (59, .iload_n 2, 1)) rfl
  have k60 : decode b_Mo_stand 60 = .ok (.aload_n 0, 1) := pl_dc dd_Mo_stand 36 (q := (60, .aload_n 0, 1)) rfl
  have k61 : decode b_Mo_stand 61 = .ok (.getfield 48, 3) := pl_dc dd_Mo_stand 37 (q := (61, .getfield 48, 3)) rfl
  have k64 : decode b_Mo_stand 64 = .ok (.iload 4, 2) := pl_dc dd_Mo_stand 38 (q := (64, .iload 4, 2)) rfl
  have k66 : decode b_Mo_stand 66 = .ok (.iaload, 1) := pl_dc dd_Mo_stand 39 (q := (66, .iaload, 1)) rfl
  have k67 : decode b_Mo_stand 67 = .ok (.iadd, 1) := pl_dc dd_Mo_stand 40 (q := (67, .iadd, 1)) rfl
  have k68 : decode b_Mo_stand 68 = .ok (.iconst 2, 1) := pl_dc dd_Mo_stand 41 (q := (68, .iconst 2, 1)) rfl
  have k69 : decode b_Mo_stand 69 = .ok (.aload_n 0, 1) := pl_dc dd_Mo_stand 42 (q := (69, .aload_n 0, 1)) rfl
  have k70 : decode b_Mo_stand 70 = .ok (.iload 4, 2) := pl_dc dd_Mo_stand 43 (q := (70, .iload 4, 2)) rfl
  have k72 : decode b_Mo_stand 72 = .ok (.invokevirtual 112, 3) := pl_dc dd_Mo_stand 44 (q := (72, .invokevirtual 112, 3)) rfl
  have k75 : decode b_Mo_stand 75 = .ok (.imul, 1) := pl_dc dd_Mo_stand 45 (q := (75, .imul, 1)) rfl
  have k76 : decode b_Mo_stand 76 = .ok (.iadd, 1) := pl_dc dd_Mo_stand 46 (q := (76, .iadd, 1)) rfl
  have k77 : decode b_Mo_stand 77 = .ok (.istore_n 2, 1) := pl_dc dd_Mo_stand 47 (q := (77, .istore_n 2, 1)) rfl
  have k78 : decode b_Mo_stand 78 = .ok (.iload 5, 2) := pl_dc dd_Mo_stand 48 (q := (78, .iload 5, 2)) rfl
  have k80 : decode b_Mo_stand 80 = .ok (.istore_n 3, 1) := pl_dc dd_Mo_stand 49 (q := (80, .istore_n 3, 1)) rfl
  have k81 : decode b_Mo_stand 81 = .ok (.iinc 4 1, 3) := pl_dc dd_Mo_stand 50 (q := (81, .iinc 4 1, 3)) rfl
  have k84 : decode b_Mo_stand 84 = .ok (.goto (-75), 3) := pl_dc dd_Mo_stand 51 (q := (84, .goto (-75), 3)) rfl
  have k87 : decode b_Mo_stand 87 = .ok (.iload_n 2, 1) := pl_dc dd_Mo_stand 52 (q := (87, .iload_n 2, 1)) rfl
  have k88 : decode b_Mo_stand 88 = .ok (.iload_n 3, 1) := pl_dc dd_Mo_stand 53 (q := (88, .iload_n 3, 1)) rfl
  have k89 : decode b_Mo_stand 89 = .ok (.iadd, 1) := pl_dc dd_Mo_stand 54 (q := (89, .iadd, 1)) rfl
  have k90 : decode b_Mo_stand 90 = .ok (.ireturn, 1) := pl_dc dd_Mo_stand 55 (q := (90, .ireturn, 1)) rfl
  exact (d_seq (p1 := 2) (d_istore_n (p1 := 1) F (c_iconst F k0 (by decide)) k1 rfl (hm 2 (by decide))) (d_seq (p1 := 4) (d_istore_n (p1 := 3) F (c_iconst F k2 (by decide)) k3 rfl (hm 3 (by decide))) (d_seq (p1 := 87) (d_seq (p1 := 9) (d_istore (p1 := 7) F (c_bin 1 (p1 := 5) (p2 := 6) (c_iload_n F k4 rfl) (c_iconst F k5 (by decide)) pl_c1 (j_iadd F k6)) k7 (hm 4 (by decide))) (d_while (p1 := 18) (p2 := 84) F (b_cmp_t (p1 := 11) (p2 := 15) (pj := 87) F (c_iload F k9) (c_geti (p1 := 12) F 3 1 hg_3_1 (c_aload_n F k11 rfl) k12 lf_PageLayouterModel_7) k15 (by decide)) (d_seq (p1 := 81) (d_if (p1 := 28) (p2 := 81) (b_zero_t (p1 := 25) (pj := 81) F (c_callV (p1 := 22) F (a_i_ok (p1 := 21) (a_i_ok (p1 := 19) (a_r_ok (p1 := 18) a_nil_ok (c_aload_n F k18 rfl)) (c_iload F k19)) (c_iload_n F k21 rfl)) (z_Mo_flows _) y_Mo_flows_ok lm_PageLayouterModel_105 k22 r_Mo_flows (by decide) (by decide)) k25 (by decide)) (d_seq (p1 := 36) (d_istore (p1 := 34) F (c_callV (p1 := 31) F (a_i_ok (p1 := 29) (a_r_ok (p1 := 28) a_nil_ok (c_aload_n F k28 rfl)) (c_iload F k29)) (z_Mo_margin _) y_Mo_margin_ok lm_PageLayouterModel_108 k31 r_Mo_margin (by decide) (by decide)) k34 (hm 5 (by decide))) (d_seq (p1 := 51) (d_istore_n (p1 := 50) F (c_bin 1 (p1 := 37) (p2 := 49) (c_iload_n F k36 rfl) (c_if (p1 := 43) (p2 := 45) (p3 := 49) F (b_cmp_t (p1 := 39) (p2 := 40) (pj := 48) F (c_iload F k37) (c_iload_n F k39 rfl) k40 (by decide)) (c_iload F k43) k45 (by decide) (c_iload_n F k48 rfl)) pl_c1 (j_iadd F k49)) k50 rfl (hm 2 (by decide))) (d_seq (p1 := 59) (d_iast (p1 := 55) (p2 := 57) (p3 := 58) F (c_getr (p1 := 52) F 3 16 hg_3_16 (c_aload_n F k51 rfl) k52 lf_PageLayouterModel_54) (c_iload F k55) (c_iload_n F k57 rfl) k58) (d_seq (p1 := 78) (d_istore_n (p1 := 77) F (c_bin 1 (p1 := 68) (p2 := 76) (c_bin 1 (p1 := 60) (p2 := 67) (c_iload_n F k59 rfl) (c_iald (p1 := 64) (p2 := 66) F (c_getr (p1 := 61) F 3 14 hg_3_14 (c_aload_n F k60 rfl) k61 lf_PageLayouterModel_48) (c_iload F k64) k66) pl_c1 (j_iadd F k67)) (c_bin 1 (p1 := 69) (p2 := 75) (c_iconst F k68 (by decide)) (c_callV (p1 := 72) F (a_i_ok (p1 := 70) (a_r_ok (p1 := 69) a_nil_ok (c_aload_n F k69 rfl)) (c_iload F k70)) (z_Mo_padding _) y_Mo_padding_ok lm_PageLayouterModel_112 k72 r_Mo_padding (by decide) (by decide)) pl_c1 (j_imul F k75)) pl_c1 (j_iadd F k76)) k77 rfl (hm 2 (by decide))) (d_istore_n (p1 := 80) F (c_iload F k78) k80 rfl (hm 3 (by decide)))))))) (d_iinc F k81 (by decide) (hm 4 (by decide)))) k84 (by decide))) (d_reti (p1 := 90) F Fm.2.1 Fm.2.2.1 (c_bin 1 (p1 := 88) (p2 := 89) (c_iload_n F k87 rfl) (c_iload_n F k88 rfl) pl_c1 (j_iadd F k89)) k90)))))
def y_Mo_byChildren : MethodName := ⟨"PageLayouterModel", "byChildren", "(I)I"⟩
abbrev b_Mo_byChildren : ByteArray := prog_10_method_39_code
abbrev n_Mo_byChildren : Nat := 5
theorem y_Mo_byChildren_ok : pl_MV 3 y_Mo_byChildren b_Mo_byChildren n_Mo_byChildren (Option.some Jvm.ClassFile.FieldType.int) 1 := ⟨pl_mem 928 (by decide +kernel) (by decide +kernel), pl_mem 927 (by decide +kernel) (by decide +kernel), pl_mem 37 (by decide +kernel) (by decide +kernel), pl_mem 47 (by decide +kernel) (by decide +kernel), ⟨by decide, by decide, by decide +kernel⟩, _, rfl, rfl⟩
def D_Mo_byChildren : List (Nat × Instr × Nat) := [(0, .aload_n 0, 1), (1, .getfield 30, 3), (4, .iload_n 1, 1), (5, .iaload, 1), (6, .ifCond .ne 9, 3), (9, .aload_n 0, 1), (10, .iload_n 1, 1), (11, .invokevirtual 178, 3), (14, .ireturn, 1), (15, .iconst 0, 1), (16, .istore_n 2, 1), (17, .iload_n 1, 1), (18, .iconst 1, 1), (19, .iadd, 1), (20, .istore_n 3, 1), (21, .iload_n 3, 1), (22, .aload_n 0, 1), (23, .getfield 7, 3), (26, .if_icmp .ge 87, 3), (29, .aload_n 0, 1), (30, .iload_n 3, 1), (31, .iload_n 1, 1), (32, .invokevirtual 105, 3), (35, .ifCond .eq 72, 3), (38, .aload_n 0, 1), (39, .getfield 48, 3), (42, .iload_n 3, 1), (43, .iaload, 1), (44, .aload_n 0, 1), (45, .iload_n 3, 1), (46, .invokevirtual 124, 3), (49, .iadd, 1), (50, .istore 4, 2), (52, .aload_n 0, 1), (53, .getfield 54, 3), (56, .iload_n 3, 1), (57, .aload_n 0, 1), (58, .getfield 30, 3), (61, .iload_n 1, 1), (62, .iaload, 1), (63, .iconst 2, 1), (64, .if_icmp .ne 7, 3), (67, .iload_n 2, 1), (68, .goto 8, 3), (71, .aload_n 0, 1), (72, .iload_n 3, 1), (73, .invokevirtual 108, 3), (76, .iastore, 1), (77, .aload_n 0, 1), (78, .getfield 30, 3), (81, .iload_n 1, 1), (82, .iaload, 1), (83, .iconst 2, 1), (84, .if_icmp .ne 10, 3), (87, .iload_n 2, 1), (88, .iload 4, 2), (90, .iadd, 1), (91, .goto 15, 3), (94, .iload 4, 2), (96, .iload_n 2, 1), (97, .if_icmp .le 8, 3), (100, .iload 4, 2), (102, .goto 4, 3), (105, .iload_n 2, 1), (106, .istore_n 2, 1), (107, .iinc 3 1, 3), (110, .goto (-89), 3), (113, .iload_n 2, 1), (114, .ireturn, 1)]
theorem dd_Mo_byChildren : (D_Mo_byChildren.all fun q => decide (decode b_Mo_byChildren q.1 = .ok q.2)) = true := by decide +kernel
def t_Mo_byChildren : pl_TR := fun P _ _ => s_seq (s_if (b_zero .eq (e_ald 1 (e_getr 3 8 (e_locr 0)) (e_loc 1))) (s_reti P (e_callV Value.int 3 t_Mo_stand n_Mo_stand (a_i (a_r a_nil (e_locr 0)) (e_loc 1))))) (s_seq (s_seti 2 (e_int 0)) (s_seq (s_seq (s_seti 3 (e_bin (fun x y : Int32 => x + y) (e_loc 1) (e_int 1))) (s_while (b_cmp .lt (e_loc 3) (e_geti 3 1 (e_locr 0))) (s_seq (s_if (b_zero .ne (e_callV Value.int 3 t_Mo_flows n_Mo_flows (a_i (a_i (a_r a_nil (e_locr 0)) (e_loc 3)) (e_loc 1)))) (s_seq (s_seti 4 (e_bin (fun x y : Int32 => x + y) (e_ald 1 (e_getr 3 14 (e_locr 0)) (e_loc 3)) (e_callV Value.int 3 t_Mo_around n_Mo_around (a_i (a_r a_nil (e_locr 0)) (e_loc 3))))) (s_seq (s_iast (e_getr 3 16 (e_locr 0)) (e_loc 3) (e_if (b_cmp .eq (e_ald 1 (e_getr 3 8 (e_locr 0)) (e_loc 1)) (e_int 2)) (e_loc 2) (e_callV Value.int 3 t_Mo_margin n_Mo_margin (a_i (a_r a_nil (e_locr 0)) (e_loc 3))))) (s_seti 2 (e_if (b_cmp .eq (e_ald 1 (e_getr 3 8 (e_locr 0)) (e_loc 1)) (e_int 2)) (e_bin (fun x y : Int32 => x + y) (e_loc 2) (e_loc 4)) (e_if (b_cmp .gt (e_loc 4) (e_loc 2)) (e_loc 4) (e_loc 2))))))) (s_inc 3 1)))) (s_reti P (e_loc 2))))
theorem z_Mo_byChildren (l : Launch) : pl_Ctr l y_Mo_byChildren b_Mo_byChildren n_Mo_byChildren (Option.some Jvm.ClassFile.FieldType.int) 2 47 0 0 false t_Mo_byChildren := pl_ctr_of (pe := 0) (by decide) (fun X Y P F Fm => by
  have F : pl_Fx X Y "PageLayouterModel" b_Mo_byChildren := F
  have r_Mo_around : 1 + 1 ≤ (pl_xR X).frames ∧ 8 + (n_Mo_around + 11) + 21 ≤ (pl_xR X).locals := ⟨Nat.le_trans (by decide) Fm.2.2.2.2.2.1, Nat.le_trans (by decide) Fm.2.2.2.2.2.2.1⟩
  have r_Mo_flows : 0 + 1 ≤ (pl_xR X).frames ∧ 8 + (n_Mo_flows + 11) + 0 ≤ (pl_xR X).locals := ⟨Nat.le_trans (by decide) Fm.2.2.2.2.2.1, Nat.le_trans (by decide) Fm.2.2.2.2.2.2.1⟩
  have r_Mo_margin : 0 + 1 ≤ (pl_xR X).frames ∧ 8 + (n_Mo_margin + 11) + 0 ≤ (pl_xR X).locals := ⟨Nat.le_trans (by decide) Fm.2.2.2.2.2.1, Nat.le_trans (by decide) Fm.2.2.2.2.2.2.1⟩
  have r_Mo_stand : 1 + 1 ≤ (pl_xR X).frames ∧ 8 + (n_Mo_stand + 11) + 22 ≤ (pl_xR X).locals := ⟨Nat.le_trans (by decide) Fm.2.2.2.2.2.1, Nat.le_trans (by decide) Fm.2.2.2.2.2.2.1⟩
  have hm : ∀ i, i < 5 → i < (pl_xc X).maxLocals := fun i h => by rw [Fm.2.2.2.1]; exact h
  have k0 : decode b_Mo_byChildren 0 = .ok (.aload_n 0, 1) := pl_dc dd_Mo_byChildren 0 (q := (0, .aload_n 0, 1)) rfl
  have k1 : decode b_Mo_byChildren 1 = .ok (.getfield 30, 3) := pl_dc dd_Mo_byChildren 1 (q := (1, .getfield 30, 3)) rfl
  have k4 : decode b_Mo_byChildren 4 = .ok (.iload_n 1, 1) := pl_dc dd_Mo_byChildren 2 (q := (4, .iload_n 1, 1)) rfl
  have k5 : decode b_Mo_byChildren 5 = .ok (.iaload, 1) := pl_dc dd_Mo_byChildren 3 (q := (5, .iaload, 1)) rfl
  have k6 : decode b_Mo_byChildren 6 = .ok (.ifCond .ne 9, 3) := pl_dc dd_Mo_byChildren 4 (q := (6, .ifCond .ne 9, 3)) rfl
  have k9 : decode b_Mo_byChildren 9 = .ok (.aload_n 0, 1) := pl_dc dd_Mo_byChildren 5 (q := (9, .aload_n 0, 1)) rfl
  have k10 : decode b_Mo_byChildren 10 = .ok (.iload_n 1, 1) := pl_dc dd_Mo_byChildren 6 (q := (10, .iload_n 1, 1)) rfl
  have k11 : decode b_Mo_byChildren 11 = .ok (.invokevirtual 178, 3) := pl_dc dd_Mo_byChildren 7 (q := (11, .invokevirtual 178, 3)) rfl
  have k14 : decode b_Mo_byChildren 14 = .ok (.ireturn, 1) := pl_dc dd_Mo_byChildren 8 (q := (14, .ireturn, 1)) rfl
  have k15 : decode b_Mo_byChildren 15 = .ok (.iconst 0, 1) := pl_dc dd_Mo_byChildren 9 (q := (15, .iconst 0, 1)) rfl
  have k16 : decode b_Mo_byChildren 16 = .ok (.istore_n 2, 1) := pl_dc dd_Mo_byChildren 10 (q := (16, .istore_n 2, 1)) rfl
  have k17 : decode b_Mo_byChildren 17 = .ok (.iload_n 1, 1) := pl_dc dd_Mo_byChildren 11 (q := (17, .iload_n 1, 1)) rfl
  have k18 : decode b_Mo_byChildren 18 = .ok (.iconst 1, 1) := pl_dc dd_Mo_byChildren 12 (q := (18, .iconst 1, 1)) rfl
  have k19 : decode b_Mo_byChildren 19 = .ok (.iadd, 1) := pl_dc dd_Mo_byChildren 13 (q := (19, .iadd, 1)) rfl
  have k20 : decode b_Mo_byChildren 20 = .ok (.istore_n 3, 1) := pl_dc dd_Mo_byChildren 14 (q := (20, .istore_n 3, 1)) rfl
  have k21 : decode b_Mo_byChildren 21 = .ok (.iload_n 3, 1) := pl_dc dd_Mo_byChildren 15 (q := (21, .iload_n 3, 1)) rfl
  have k22 : decode b_Mo_byChildren 22 = .ok (.aload_n 0, 1) := pl_dc dd_Mo_byChildren 16 (q := (22, .aload_n 0, 1)) rfl
  have k23 : decode b_Mo_byChildren 23 = .ok (.getfield 7, 3) := pl_dc dd_Mo_byChildren 17 (q := (23, .getfield 7, 3)) rfl
  have k26 : decode b_Mo_byChildren 26 = .ok (.if_icmp .ge 87, 3) := pl_dc dd_Mo_byChildren 18 (q := (26, .if_icmp .ge 87, 3)) rfl
  have k29 : decode b_Mo_byChildren 29 = .ok (.aload_n 0, 1) := pl_dc dd_Mo_byChildren 19 (q := (29, .aload_n 0, 1)) rfl
  have k30 : decode b_Mo_byChildren 30 = .ok (.iload_n 3, 1) := pl_dc dd_Mo_byChildren 20 (q := (30, .iload_n 3, 1)) rfl
  have k31 : decode b_Mo_byChildren 31 = .ok (.iload_n 1, 1) := pl_dc dd_Mo_byChildren 21 (q := (31, .iload_n 1, 1)) rfl
  have k32 : decode b_Mo_byChildren 32 = .ok (.invokevirtual 105, 3) := pl_dc dd_Mo_byChildren 22 (q := (32, .invokevirtual 105, 3)) rfl
  have k35 : decode b_Mo_byChildren 35 = .ok (.ifCond .eq 72, 3) := pl_dc dd_Mo_byChildren 23 (q := (35, .ifCond .eq 72, 3)) rfl
  have k38 : decode b_Mo_byChildren 38 = .ok (.aload_n 0, 1) := pl_dc dd_Mo_byChildren 24 (q := (38, .aload_n 0, 1)) rfl
  have k39 : decode b_Mo_byChildren 39 = .ok (.getfield 48, 3) := pl_dc dd_Mo_byChildren 25 (q := (39, .getfield 48, 3)) rfl
  have k42 : decode b_Mo_byChildren 42 = .ok (.iload_n 3, 1) := pl_dc dd_Mo_byChildren 26 (q := (42, .iload_n 3, 1)) rfl
  have k43 : decode b_Mo_byChildren 43 = .ok (.iaload, 1) := pl_dc dd_Mo_byChildren 27 (q := (43, .iaload, 1)) rfl
  have k44 : decode b_Mo_byChildren 44 = .ok (.aload_n 0, 1) := pl_dc dd_Mo_byChildren 28 (q := (44, .aload_n 0, 1)) rfl
  have k45 : decode b_Mo_byChildren 45 = .ok (.iload_n 3, 1) := pl_dc dd_Mo_byChildren 29 (q := (45, .iload_n 3, 1)) rfl
  have k46 : decode b_Mo_byChildren 46 = .ok (.invokevirtual 124, 3) := pl_dc dd_Mo_byChildren 30 (q := (46, .invokevirtual 124, 3)) rfl
  have k49 : decode b_Mo_byChildren 49 = .ok (.iadd, 1) := pl_dc dd_Mo_byChildren 31 (q := (49, .iadd, 1)) rfl
  have k50 : decode b_Mo_byChildren 50 = .ok (.istore 4, 2) := pl_dc dd_Mo_byChildren 32 (q := (50, .istore 4, 2)) rfl
  have k52 : decode b_Mo_byChildren 52 = .ok (.aload_n 0, 1) := pl_dc dd_Mo_byChildren 33 (q := (52, .aload_n 0, 1)) rfl
  have k53 : decode b_Mo_byChildren 53 = .ok (.getfield 54, 3) := pl_dc dd_Mo_byChildren 34 (q := (53, .getfield 54, 3)) rfl
  have k56 : decode b_Mo_byChildren 56 = .ok (.iload_n 3, 1) := pl_dc dd_Mo_byChildren 35 (q := (56, .iload_n 3, 1)) rfl
  have k57 : decode b_Mo_byChildren 57 = .ok (.aload_n 0, 1) := pl_dc dd_Mo_byChildren 36 (q := (57, .aload_n 0, 1)) rfl
  have k58 : decode b_Mo_byChildren 58 = .ok (.getfield 30, 3) := pl_dc dd_Mo_byChildren 37 (q := (58, .getfield 30, 3)) rfl
  have k61 : decode b_Mo_byChildren 61 = .ok (.iload_n 1, 1) := pl_dc dd_Mo_byChildren 38 (q := (61, .iload_n 1, 1)) rfl
  have k62 : decode b_Mo_byChildren 62 = .ok (.iaload, 1) := pl_dc dd_Mo_byChildren 39 (q := (62, .iaload, 1)) rfl
  have k63 : decode b_Mo_byChildren 63 = .ok (.iconst 2, 1) := pl_dc dd_Mo_byChildren 40 (q := (63, .iconst 2, 1)) rfl
  have k64 : decode b_Mo_byChildren 64 = .ok (.if_icmp .ne 7, 3) := pl_dc dd_Mo_byChildren 41 (q := (64, .if_icmp .ne 7, 3)) rfl
  have k67 : decode b_Mo_byChildren 67 = .ok (.iload_n 2, 1) := pl_dc dd_Mo_byChildren 42 (q := (67, .iload_n 2, 1)) rfl
  have k68 : decode b_Mo_byChildren 68 = .ok (.goto 8, 3) := pl_dc dd_Mo_byChildren 43 (q := (68, .goto 8, 3)) rfl
  have k71 : decode b_Mo_byChildren 71 = .ok (.aload_n 0, 1) := pl_dc dd_Mo_byChildren 44 (q := (71, .aload_n 0, 1)) rfl
  have k72 : decode b_Mo_byChildren 72 = .ok (.iload_n 3, 1) := pl_dc dd_Mo_byChildren 45 (q := (72, .iload_n 3, 1)) rfl
  have k73 : decode b_Mo_byChildren 73 = .ok (.invokevirtual 108, 3) := pl_dc dd_Mo_byChildren 46 (q := (73, .invokevirtual 108, 3)) rfl
  have k76 : decode b_Mo_byChildren 76 = .ok (.iastore, 1) := pl_dc dd_Mo_byChildren 47 (q := (76, .iastore, 1)) rfl
  have k77 : decode b_Mo_byChildren 77 = .ok (.aload_n 0, 1) := pl_dc dd_Mo_byChildren 48 (q := (77, .aload_n 0, 1)) rfl
  have k78 : decode b_Mo_byChildren 78 = .ok (.getfield 30, 3) := pl_dc dd_Mo_byChildren 49 (q := (78, .getfield 30, 3)) rfl
  have k81 : decode b_Mo_byChildren 81 = .ok (.iload_n 1, 1) := pl_dc dd_Mo_byChildren 50 (q := (81, .iload_n 1, 1)) rfl
  have k82 : decode b_Mo_byChildren 82 = .ok (.iaload, 1) := pl_dc dd_Mo_byChildren 51 (q := (82, .iaload, 1)) rfl
  have k83 : decode b_Mo_byChildren 83 = .ok (.iconst 2, 1) := pl_dc dd_Mo_byChildren 52 (q := (83, .iconst 2, 1)) rfl
  have k84 : decode b_Mo_byChildren 84 = .ok (.if_icmp .ne 10, 3) := pl_dc dd_Mo_byChildren 53 (q := (84, .if_icmp .ne 10, 3)) rfl
  have k87 : decode b_Mo_byChildren 87 = .ok (.iload_n 2, 1) := pl_dc dd_Mo_byChildren 54 (q := (87, .iload_n 2, 1)) rfl
  have k88 : decode b_Mo_byChildren 88 = .ok (.iload 4, 2) := pl_dc dd_Mo_byChildren 55 (q := (88, .iload 4, 2)) rfl
  have k90 : decode b_Mo_byChildren 90 = .ok (.iadd, 1) := pl_dc dd_Mo_byChildren 56 (q := (90, .iadd, 1)) rfl
  have k91 : decode b_Mo_byChildren 91 = .ok (.goto 15, 3) := pl_dc dd_Mo_byChildren 57 (q := (91, .goto 15, 3)) rfl
  have k94 : decode b_Mo_byChildren 94 = .ok (.iload 4, 2) := pl_dc dd_Mo_byChildren 58 (q := (94, .iload 4, 2)) rfl
  have k96 : decode b_Mo_byChildren 96 = .ok (.iload_n 2, 1) := pl_dc dd_Mo_byChildren 59 (q := (96, .iload_n 2, 1)) rfl
  have k97 : decode b_Mo_byChildren 97 = .ok (.if_icmp .le 8, 3) := pl_dc dd_Mo_byChildren 60 (q := (97, .if_icmp .le 8, 3)) rfl
  have k100 : decode b_Mo_byChildren 100 = .ok (.iload 4, 2) := pl_dc dd_Mo_byChildren 61 (q := (100, .iload 4, 2)) rfl
  have k102 : decode b_Mo_byChildren 102 = .ok (.goto 4, 3) := pl_dc dd_Mo_byChildren 62 (q := (102, .goto 4, 3)) rfl
  have k105 : decode b_Mo_byChildren 105 = .ok (.iload_n 2, 1) := pl_dc dd_Mo_byChildren 63 (q := (105, .iload_n 2, 1)) rfl
  have k106 : decode b_Mo_byChildren 106 = .ok (.istore_n 2, 1) := pl_dc dd_Mo_byChildren 64 (q := (106, .istore_n 2, 1)) rfl
  have k107 : decode b_Mo_byChildren 107 = .ok (.iinc 3 1, 3) := pl_dc dd_Mo_byChildren 65 (q := (107, .iinc 3 1, 3)) rfl
  have k110 : decode b_Mo_byChildren 110 = .ok (.goto (-89), 3) := pl_dc dd_Mo_byChildren 66 (q := (110, .goto (-89), 3)) rfl
  have k113 : decode b_Mo_byChildren 113 = .ok (.iload_n 2, 1) := pl_dc dd_Mo_byChildren 67 (q := (113, .iload_n 2, 1)) rfl
  have k114 : decode b_Mo_byChildren 114 = .ok (.ireturn, 1) := pl_dc dd_Mo_byChildren 68 (q := (114, .ireturn, 1)) rfl
  exact (d_seq (p1 := 15) (d_if (p1 := 9) (p2 := 15) (b_zero_t (p1 := 6) (pj := 15) F (c_iald (p1 := 4) (p2 := 5) F (c_getr (p1 := 1) F 3 8 hg_3_8 (c_aload_n F k0 rfl) k1 lf_PageLayouterModel_30) (c_iload_n F k4 rfl) k5) k6 (by decide)) (d_reti (p1 := 14) F Fm.2.1 Fm.2.2.1 (c_callV (p1 := 11) F (a_i_ok (p1 := 10) (a_r_ok (p1 := 9) a_nil_ok (c_aload_n F k9 rfl)) (c_iload_n F k10 rfl)) (z_Mo_stand _) y_Mo_stand_ok lm_PageLayouterModel_178 k11 r_Mo_stand (by decide) (by decide)) k14)) (d_seq (p1 := 17) (d_istore_n (p1 := 16) F (c_iconst F k15 (by decide)) k16 rfl (hm 2 (by decide))) (d_seq (p1 := 113) (d_seq (p1 := 21) (d_istore_n (p1 := 20) F (c_bin 1 (p1 := 18) (p2 := 19) (c_iload_n F k17 rfl) (c_iconst F k18 (by decide)) pl_c1 (j_iadd F k19)) k20 rfl (hm 3 (by decide))) (d_while (p1 := 29) (p2 := 110) F (b_cmp_t (p1 := 22) (p2 := 26) (pj := 113) F (c_iload_n F k21 rfl) (c_geti (p1 := 23) F 3 1 hg_3_1 (c_aload_n F k22 rfl) k23 lf_PageLayouterModel_7) k26 (by decide)) (d_seq (p1 := 107) (d_if (p1 := 38) (p2 := 107) (b_zero_t (p1 := 35) (pj := 107) F (c_callV (p1 := 32) F (a_i_ok (p1 := 31) (a_i_ok (p1 := 30) (a_r_ok (p1 := 29) a_nil_ok (c_aload_n F k29 rfl)) (c_iload_n F k30 rfl)) (c_iload_n F k31 rfl)) (z_Mo_flows _) y_Mo_flows_ok lm_PageLayouterModel_105 k32 r_Mo_flows (by decide) (by decide)) k35 (by decide)) (d_seq (p1 := 52) (d_istore (p1 := 50) F (c_bin 1 (p1 := 44) (p2 := 49) (c_iald (p1 := 42) (p2 := 43) F (c_getr (p1 := 39) F 3 14 hg_3_14 (c_aload_n F k38 rfl) k39 lf_PageLayouterModel_48) (c_iload_n F k42 rfl) k43) (c_callV (p1 := 46) F (a_i_ok (p1 := 45) (a_r_ok (p1 := 44) a_nil_ok (c_aload_n F k44 rfl)) (c_iload_n F k45 rfl)) (z_Mo_around _) y_Mo_around_ok lm_PageLayouterModel_124 k46 r_Mo_around (by decide) (by decide)) pl_c1 (j_iadd F k49)) k50 (hm 4 (by decide))) (d_seq (p1 := 77) (d_iast (p1 := 56) (p2 := 57) (p3 := 76) F (c_getr (p1 := 53) F 3 16 hg_3_16 (c_aload_n F k52 rfl) k53 lf_PageLayouterModel_54) (c_iload_n F k56 rfl) (c_if (p1 := 67) (p2 := 68) (p3 := 76) F (b_cmp_t (p1 := 63) (p2 := 64) (pj := 71) F (c_iald (p1 := 61) (p2 := 62) F (c_getr (p1 := 58) F 3 8 hg_3_8 (c_aload_n F k57 rfl) k58 lf_PageLayouterModel_30) (c_iload_n F k61 rfl) k62) (c_iconst F k63 (by decide)) k64 (by decide)) (c_iload_n F k67 rfl) k68 (by decide) (c_callV (p1 := 73) F (a_i_ok (p1 := 72) (a_r_ok (p1 := 71) a_nil_ok (c_aload_n F k71 rfl)) (c_iload_n F k72 rfl)) (z_Mo_margin _) y_Mo_margin_ok lm_PageLayouterModel_108 k73 r_Mo_margin (by decide) (by decide))) k76) (d_istore_n (p1 := 106) F (c_if (p1 := 87) (p2 := 91) (p3 := 106) F (b_cmp_t (p1 := 83) (p2 := 84) (pj := 94) F (c_iald (p1 := 81) (p2 := 82) F (c_getr (p1 := 78) F 3 8 hg_3_8 (c_aload_n F k77 rfl) k78 lf_PageLayouterModel_30) (c_iload_n F k81 rfl) k82) (c_iconst F k83 (by decide)) k84 (by decide)) (c_bin 1 (p1 := 88) (p2 := 90) (c_iload_n F k87 rfl) (c_iload F k88) pl_c1 (j_iadd F k90)) k91 (by decide) (c_if (p1 := 100) (p2 := 102) (p3 := 106) F (b_cmp_t (p1 := 96) (p2 := 97) (pj := 105) F (c_iload F k94) (c_iload_n F k96 rfl) k97 (by decide)) (c_iload F k100) k102 (by decide) (c_iload_n F k105 rfl))) k106 rfl (hm 2 (by decide)))))) (d_iinc F k107 (by decide) (hm 3 (by decide)))) k110 (by decide))) (d_reti (p1 := 114) F Fm.2.1 Fm.2.2.1 (c_iload_n F k113 rfl) k114)))))
def y_Mo_findHeights : MethodName := ⟨"PageLayouterModel", "findHeights", "()V"⟩
abbrev b_Mo_findHeights : ByteArray := prog_10_method_40_code
abbrev n_Mo_findHeights : Nat := 7
theorem y_Mo_findHeights_ok : pl_MV 3 y_Mo_findHeights b_Mo_findHeights n_Mo_findHeights (Option.none : Option Jvm.ClassFile.FieldType) 0 := ⟨pl_mem 924 (by decide +kernel) (by decide +kernel), pl_mem 923 (by decide +kernel) (by decide +kernel), pl_mem 36 (by decide +kernel) (by decide +kernel), pl_mem 47 (by decide +kernel) (by decide +kernel), ⟨by decide, by decide, by decide +kernel⟩, _, rfl, rfl⟩
def D_Mo_findHeights : List (Nat × Instr × Nat) := [(0, .aload_n 0, 1), (1, .getfield 7, 3), (4, .iconst 1, 1), (5, .isub, 1), (6, .istore_n 1, 1), (7, .iload_n 1, 1), (8, .ifCond .lt 166, 3), (11, .aload_n 0, 1), (12, .iload_n 1, 1), (13, .invokevirtual 133, 3), (16, .istore_n 2, 1), (17, .iload_n 2, 1), (18, .ifCond .eq 11, 3), (21, .aload_n 0, 1), (22, .iload_n 1, 1), (23, .invokevirtual 181, 3), (26, .goto 11, 3), (29, .bipush 10, 2), (31, .aload_n 0, 1), (32, .iload_n 1, 1), (33, .invokevirtual 184, 3), (36, .imul, 1), (37, .istore_n 3, 1), (38, .aload_n 0, 1), (39, .getfield 48, 3), (42, .iload_n 1, 1), (43, .aload_n 0, 1), (44, .getfield 51, 3), (47, .iload_n 1, 1), (48, .iaload, 1), (49, .ifCond .lt 12, 3), (52, .aload_n 0, 1), (53, .getfield 51, 3), (56, .iload_n 1, 1), (57, .iaload, 1), (58, .goto 4, 3), (61, .iload_n 3, 1), (62, .iastore, 1), (63, .iload_n 1, 1), (64, .iconst 1, 1), (65, .iadd, 1), (66, .istore 4, 2), (68, .iload 4, 2), (70, .aload_n 0, 1), (71, .getfield 7, 3), (74, .if_icmp .ge 94, 3), (77, .aload_n 0, 1), (78, .getfield 30, 3), (81, .iload_n 1, 1), (82, .iaload, 1), (83, .iconst 1, 1), (84, .if_icmp .eq 13, 3), (87, .aload_n 0, 1), (88, .getfield 30, 3), (91, .iload_n 1, 1), (92, .iaload, 1), (93, .iconst 3, 1), (94, .if_icmp .ne 7, 3), (97, .iconst 1, 1), (98, .goto 4, 3), (101, .iconst 0, 1), (102, .istore 5, 2), (104, .iload 5, 2), (106, .ifCond .eq 56, 3), (109, .aload_n 0, 1), (110, .iload 4, 2), (112, .iload_n 1, 1), (113, .invokevirtual 105, 3), (116, .ifCond .eq 46, 3), (119, .aload_n 0, 1), (120, .iload 4, 2), (122, .invokevirtual 175, 3), (125, .iconst (-1), 1), (126, .if_icmp .ne 36, 3), (129, .aload_n 0, 1), (130, .getfield 48, 3), (133, .iload_n 1, 1), (134, .iaload, 1), (135, .aload_n 0, 1), (136, .iload 4, 2), (138, .invokevirtual 124, 3), (141, .isub, 1), (142, .istore 6, 2), (144, .aload_n 0, 1), (145, .getfield 48, 3), (148, .iload 4, 2), (150, .iload 6, 2), (152, .ifCond .le 8, 3), (155, .iload 6, 2), (157, .goto 4, 3), (160, .iconst 0, 1), (161, .iastore, 1), (162, .iinc 4 1, 3), (165, .goto (-97), 3), (168, .iinc 1 (-1), 3), (171, .goto (-164), 3), (174, .return_, 1)]
theorem dd_Mo_findHeights : (D_Mo_findHeights.all fun q => decide (decode b_Mo_findHeights q.1 = .ok q.2)) = true := by decide +kernel
def t_Mo_findHeights : pl_TR := fun P _ _ => s_seq (s_seq (s_seti 1 (e_bin (fun x y : Int32 => x - y) (e_geti 3 1 (e_locr 0)) (e_int 1))) (s_while (b_zero .ge (e_loc 1)) (s_seq (s_seq (s_seti 2 (e_callV Value.int 3 t_Mo_hasFlow n_Mo_hasFlow (a_i (a_r a_nil (e_locr 0)) (e_loc 1)))) (s_seq (s_seti 3 (e_if (b_zero .ne (e_loc 2)) (e_callV Value.int 3 t_Mo_byChildren n_Mo_byChildren (a_i (a_r a_nil (e_locr 0)) (e_loc 1))) (e_bin (fun x y : Int32 => x * y) (e_int 10) (e_callV Value.int 3 t_Mo_lines n_Mo_lines (a_i (a_r a_nil (e_locr 0)) (e_loc 1)))))) (s_seq (s_iast (e_getr 3 14 (e_locr 0)) (e_loc 1) (e_if (b_zero .ge (e_ald 1 (e_getr 3 15 (e_locr 0)) (e_loc 1))) (e_ald 1 (e_getr 3 15 (e_locr 0)) (e_loc 1)) (e_loc 3))) (s_seq (s_seti 4 (e_bin (fun x y : Int32 => x + y) (e_loc 1) (e_int 1))) (s_while (b_cmp .lt (e_loc 4) (e_geti 3 1 (e_locr 0))) (s_seq (s_seq (s_seti 5 (e_if (b_or (b_cmp .eq (e_ald 1 (e_getr 3 8 (e_locr 0)) (e_loc 1)) (e_int 1)) (b_cmp .eq (e_ald 1 (e_getr 3 8 (e_locr 0)) (e_loc 1)) (e_int 3))) (e_int 1) (e_int 0))) (s_if (b_and (b_and (b_zero .ne (e_loc 5)) (b_zero .ne (e_callV Value.int 3 t_Mo_flows n_Mo_flows (a_i (a_i (a_r a_nil (e_locr 0)) (e_loc 4)) (e_loc 1))))) (b_cmp .eq (e_callV Value.int 3 t_Mo_heightOf n_Mo_heightOf (a_i (a_r a_nil (e_locr 0)) (e_loc 4))) (e_int (-1)))) (s_seq (s_seti 6 (e_bin (fun x y : Int32 => x - y) (e_ald 1 (e_getr 3 14 (e_locr 0)) (e_loc 1)) (e_callV Value.int 3 t_Mo_around n_Mo_around (a_i (a_r a_nil (e_locr 0)) (e_loc 4))))) (s_iast (e_getr 3 14 (e_locr 0)) (e_loc 4) (e_if (b_zero .gt (e_loc 6)) (e_loc 6) (e_int 0)))))) (s_inc 4 1))))))) (s_inc 1 (-1))))) (s_retv P)
theorem z_Mo_findHeights (l : Launch) : pl_Ctr l y_Mo_findHeights b_Mo_findHeights n_Mo_findHeights (Option.none : Option Jvm.ClassFile.FieldType) 3 71 0 0 false t_Mo_findHeights := pl_ctr_of (pe := 0) (by decide) (fun X Y P F Fm => by
  have F : pl_Fx X Y "PageLayouterModel" b_Mo_findHeights := F
  have r_Mo_around : 1 + 1 ≤ (pl_xR X).frames ∧ 8 + (n_Mo_around + 11) + 21 ≤ (pl_xR X).locals := ⟨Nat.le_trans (by decide) Fm.2.2.2.2.2.1, Nat.le_trans (by decide) Fm.2.2.2.2.2.2.1⟩
  have r_Mo_byChildren : 2 + 1 ≤ (pl_xR X).frames ∧ 8 + (n_Mo_byChildren + 11) + 47 ≤ (pl_xR X).locals := ⟨Nat.le_trans (by decide) Fm.2.2.2.2.2.1, Nat.le_trans (by decide) Fm.2.2.2.2.2.2.1⟩
  have r_Mo_flows : 0 + 1 ≤ (pl_xR X).frames ∧ 8 + (n_Mo_flows + 11) + 0 ≤ (pl_xR X).locals := ⟨Nat.le_trans (by decide) Fm.2.2.2.2.2.1, Nat.le_trans (by decide) Fm.2.2.2.2.2.2.1⟩
  have r_Mo_hasFlow : 1 + 1 ≤ (pl_xR X).frames ∧ 8 + (n_Mo_hasFlow + 11) + 22 ≤ (pl_xR X).locals := ⟨Nat.le_trans (by decide) Fm.2.2.2.2.2.1, Nat.le_trans (by decide) Fm.2.2.2.2.2.2.1⟩
  have r_Mo_heightOf : 0 + 1 ≤ (pl_xR X).frames ∧ 8 + (n_Mo_heightOf + 11) + 0 ≤ (pl_xR X).locals := ⟨Nat.le_trans (by decide) Fm.2.2.2.2.2.1, Nat.le_trans (by decide) Fm.2.2.2.2.2.2.1⟩
  have r_Mo_lines : 0 + 1 ≤ (pl_xR X).frames ∧ 8 + (n_Mo_lines + 11) + 0 ≤ (pl_xR X).locals := ⟨Nat.le_trans (by decide) Fm.2.2.2.2.2.1, Nat.le_trans (by decide) Fm.2.2.2.2.2.2.1⟩
  have hm : ∀ i, i < 7 → i < (pl_xc X).maxLocals := fun i h => by rw [Fm.2.2.2.1]; exact h
  have k0 : decode b_Mo_findHeights 0 = .ok (.aload_n 0, 1) := pl_dc dd_Mo_findHeights 0 (q := (0, .aload_n 0, 1)) rfl
  have k1 : decode b_Mo_findHeights 1 = .ok (.getfield 7, 3) := pl_dc dd_Mo_findHeights 1 (q := (1, .getfield 7, 3)) rfl
  have k4 : decode b_Mo_findHeights 4 = .ok (.iconst 1, 1) := pl_dc dd_Mo_findHeights 2 (q := (4, .iconst 1, 1)) rfl
  have k5 : decode b_Mo_findHeights 5 = .ok (.isub, 1) := pl_dc dd_Mo_findHeights 3 (q := (5, .isub, 1)) rfl
  have k6 : decode b_Mo_findHeights 6 = .ok (.istore_n 1, 1) := pl_dc dd_Mo_findHeights 4 (q := (6, .istore_n 1, 1)) rfl
  have k7 : decode b_Mo_findHeights 7 = .ok (.iload_n 1, 1) := pl_dc dd_Mo_findHeights 5 (q := (7, .iload_n 1, 1)) rfl
  have k8 : decode b_Mo_findHeights 8 = .ok (.ifCond .lt 166, 3) := pl_dc dd_Mo_findHeights 6 (q := (8, .ifCond .lt 166, 3)) rfl
  have k11 : decode b_Mo_findHeights 11 = .ok (.aload_n 0, 1) := pl_dc dd_Mo_findHeights 7 (q := (11, .aload_n 0, 1)) rfl
  have k12 : decode b_Mo_findHeights 12 = .ok (.iload_n 1, 1) := pl_dc dd_Mo_findHeights 8 (q := (12, .iload_n 1, 1)) rfl
  have k13 : decode b_Mo_findHeights 13 = .ok (.invokevirtual 133, 3) := pl_dc dd_Mo_findHeights 9 (q := (13, .invokevirtual 133, 3)) rfl
  have k16 : decode b_Mo_findHeights 16 = .ok (.istore_n 2, 1) := pl_dc dd_Mo_findHeights 10 (q := (16, .istore_n 2, 1)) rfl
  have k17 : decode b_Mo_findHeights 17 = .ok (.iload_n 2, 1) := pl_dc dd_Mo_findHeights 11 (q := (17, .iload_n 2, 1)) rfl
  have k18 : decode b_Mo_findHeights 18 = .ok (.ifCond .eq 11, 3) := pl_dc dd_Mo_findHeights 12 (q := (18, .ifCond .eq 11, 3)) rfl
  have k21 : decode b_Mo_findHeights 21 = .ok (.aload_n 0, 1) := pl_dc dd_Mo_findHeights 13 (q := (21, .aload_n 0, 1)) rfl
  have k22 : decode b_Mo_findHeights 22 = .ok (.iload_n 1, 1) := pl_dc dd_Mo_findHeights 14 (q := (22, .iload_n 1, 1)) rfl
  have k23 : decode b_Mo_findHeights 23 = .ok (.invokevirtual 181, 3) := pl_dc dd_Mo_findHeights 15 (q := (23, .invokevirtual 181, 3)) rfl
  have k26 : decode b_Mo_findHeights 26 = .ok (.goto 11, 3) := pl_dc dd_Mo_findHeights 16 (q := (26, .goto 11, 3)) rfl
  have k29 : decode b_Mo_findHeights 29 = .ok (.bipush 10, 2) := pl_dc dd_Mo_findHeights 17 (q := (29, .bipush 10, 2)) rfl
  have k31 : decode b_Mo_findHeights 31 = .ok (.aload_n 0, 1) := pl_dc dd_Mo_findHeights 18 (q := (31, .aload_n 0, 1)) rfl
  have k32 : decode b_Mo_findHeights 32 = .ok (.iload_n 1, 1) := pl_dc dd_Mo_findHeights 19 (q := (32, .iload_n 1, 1)) rfl
  have k33 : decode b_Mo_findHeights 33 = .ok (.invokevirtual 184, 3) := pl_dc dd_Mo_findHeights 20 (q := (33, .invokevirtual 184, 3)) rfl
  have k36 : decode b_Mo_findHeights 36 = .ok (.imul, 1) := pl_dc dd_Mo_findHeights 21 (q := (36, .imul, 1)) rfl
  have k37 : decode b_Mo_findHeights 37 = .ok (.istore_n 3, 1) := pl_dc dd_Mo_findHeights 22 (q := (37, .istore_n 3, 1)) rfl
  have k38 : decode b_Mo_findHeights 38 = .ok (.aload_n 0, 1) := pl_dc dd_Mo_findHeights 23 (q := (38, .aload_n 0, 1)) rfl
  have k39 : decode b_Mo_findHeights 39 = .ok (.getfield 48, 3) := pl_dc dd_Mo_findHeights 24 (q := (39, .getfield 48, 3)) rfl
  have k42 : decode b_Mo_findHeights 42 = .ok (.iload_n 1, 1) := pl_dc dd_Mo_findHeights 25 (q := (42, .iload_n 1, 1)) rfl
  have k43 : decode b_Mo_findHeights 43 = .ok (.aload_n 0, 1) := pl_dc dd_Mo_findHeights 26 (q := (43, .aload_n 0, 1)) rfl
  have k44 : decode b_Mo_findHeights 44 = .ok (.getfield 51, 3) := pl_dc dd_Mo_findHeights 27 (q := (44, .getfield 51, 3)) rfl
  have k47 : decode b_Mo_findHeights 47 = .ok (.iload_n 1, 1) := pl_dc dd_Mo_findHeights 28 (q := (47, .iload_n 1, 1)) rfl
  have k48 : decode b_Mo_findHeights 48 = .ok (.iaload, 1) := pl_dc dd_Mo_findHeights 29 (q := (48, .iaload, 1)) rfl
  have k49 : decode b_Mo_findHeights 49 = .ok (.ifCond .lt 12, 3) := pl_dc dd_Mo_findHeights 30 (q := (49, .ifCond .lt 12, 3)) rfl
  have k52 : decode b_Mo_findHeights 52 = .ok (.aload_n 0, 1) := pl_dc dd_Mo_findHeights 31 (q := (52, .aload_n 0, 1)) rfl
  have k53 : decode b_Mo_findHeights 53 = .ok (.getfield 51, 3) := pl_dc dd_Mo_findHeights 32 (q := (53, .getfield 51, 3)) rfl
  have k56 : decode b_Mo_findHeights 56 = .ok (.iload_n 1, 1) := pl_dc dd_Mo_findHeights 33 (q := (56, .iload_n 1, 1)) rfl
  have k57 : decode b_Mo_findHeights 57 = .ok (.iaload, 1) := pl_dc dd_Mo_findHeights 34 (q := (57, .iaload, 1)) rfl
  have k58 : decode b_Mo_findHeights 58 = .ok (.goto 4, 3) := pl_dc dd_Mo_findHeights 35 (q := (58, .goto 4, 3)) rfl
  have k61 : decode b_Mo_findHeights 61 = .ok (.iload_n 3, 1) := pl_dc dd_Mo_findHeights 36 (q := (61, .iload_n 3, 1)) rfl
  have k62 : decode b_Mo_findHeights 62 = .ok (.iastore, 1) := pl_dc dd_Mo_findHeights 37 (q := (62, .iastore, 1)) rfl
  have k63 : decode b_Mo_findHeights 63 = .ok (.iload_n 1, 1) := pl_dc dd_Mo_findHeights 38 (q := (63, .iload_n 1, 1)) rfl
  have k64 : decode b_Mo_findHeights 64 = .ok (.iconst 1, 1) := pl_dc dd_Mo_findHeights 39 (q := (64, .iconst 1, 1)) rfl
  have k65 : decode b_Mo_findHeights 65 = .ok (.iadd, 1) := pl_dc dd_Mo_findHeights 40 (q := (65, .iadd, 1)) rfl
  have k66 : decode b_Mo_findHeights 66 = .ok (.istore 4, 2) := pl_dc dd_Mo_findHeights 41 (q := (66, .istore 4, 2)) rfl
  have k68 : decode b_Mo_findHeights 68 = .ok (.iload 4, 2) := pl_dc dd_Mo_findHeights 42 (q := (68, .iload 4, 2)) rfl
  have k70 : decode b_Mo_findHeights 70 = .ok (.aload_n 0, 1) := pl_dc dd_Mo_findHeights 43 (q := (70, .aload_n 0, 1)) rfl
  have k71 : decode b_Mo_findHeights 71 = .ok (.getfield 7, 3) := pl_dc dd_Mo_findHeights 44 (q := (71, .getfield 7, 3)) rfl
  have k74 : decode b_Mo_findHeights 74 = .ok (.if_icmp .ge 94, 3) := pl_dc dd_Mo_findHeights 45 (q := (74, .if_icmp .ge 94, 3)) rfl
  have k77 : decode b_Mo_findHeights 77 = .ok (.aload_n 0, 1) := pl_dc dd_Mo_findHeights 46 (q := (77, .aload_n 0, 1)) rfl
  have k78 : decode b_Mo_findHeights 78 = .ok (.getfield 30, 3) := pl_dc dd_Mo_findHeights 47 (q := (78, .getfield 30, 3)) rfl
  have k81 : decode b_Mo_findHeights 81 = .ok (.iload_n 1, 1) := pl_dc dd_Mo_findHeights 48 (q := (81, .iload_n 1, 1)) rfl
  have k82 : decode b_Mo_findHeights 82 = .ok (.iaload, 1) := pl_dc dd_Mo_findHeights 49 (q := (82, .iaload, 1)) rfl
  have k83 : decode b_Mo_findHeights 83 = .ok (.iconst 1, 1) := pl_dc dd_Mo_findHeights 50 (q := (83, .iconst 1, 1)) rfl
  have k84 : decode b_Mo_findHeights 84 = .ok (.if_icmp .eq 13, 3) := pl_dc dd_Mo_findHeights 51 (q := (84, .if_icmp .eq 13, 3)) rfl
  have k87 : decode b_Mo_findHeights 87 = .ok (.aload_n 0, 1) := pl_dc dd_Mo_findHeights 52 (q := (87, .aload_n 0, 1)) rfl
  have k88 : decode b_Mo_findHeights 88 = .ok (.getfield 30, 3) := pl_dc dd_Mo_findHeights 53 (q := (88, .getfield 30, 3)) rfl
  have k91 : decode b_Mo_findHeights 91 = .ok (.iload_n 1, 1) := pl_dc dd_Mo_findHeights 54 (q := (91, .iload_n 1, 1)) rfl
  have k92 : decode b_Mo_findHeights 92 = .ok (.iaload, 1) := pl_dc dd_Mo_findHeights 55 (q := (92, .iaload, 1)) rfl
  have k93 : decode b_Mo_findHeights 93 = .ok (.iconst 3, 1) := pl_dc dd_Mo_findHeights 56 (q := (93, .iconst 3, 1)) rfl
  have k94 : decode b_Mo_findHeights 94 = .ok (.if_icmp .ne 7, 3) := pl_dc dd_Mo_findHeights 57 (q := (94, .if_icmp .ne 7, 3)) rfl
  have k97 : decode b_Mo_findHeights 97 = .ok (.iconst 1, 1) := pl_dc dd_Mo_findHeights 58 (q := (97, .iconst 1, 1)) rfl
  have k98 : decode b_Mo_findHeights 98 = .ok (.goto 4, 3) := pl_dc dd_Mo_findHeights 59 (q := (98, .goto 4, 3)) rfl
  have k101 : decode b_Mo_findHeights 101 = .ok (.iconst 0, 1) := pl_dc dd_Mo_findHeights 60 (q := (101, .iconst 0, 1)) rfl
  have k102 : decode b_Mo_findHeights 102 = .ok (.istore 5, 2) := pl_dc dd_Mo_findHeights 61 (q := (102, .istore 5, 2)) rfl
  have k104 : decode b_Mo_findHeights 104 = .ok (.iload 5, 2) := pl_dc dd_Mo_findHeights 62 (q := (104, .iload 5, 2)) rfl
  have k106 : decode b_Mo_findHeights 106 = .ok (.ifCond .eq 56, 3) := pl_dc dd_Mo_findHeights 63 (q := (106, .ifCond .eq 56, 3)) rfl
  have k109 : decode b_Mo_findHeights 109 = .ok (.aload_n 0, 1) := pl_dc dd_Mo_findHeights 64 (q := (109, .aload_n 0, 1)) rfl
  have k110 : decode b_Mo_findHeights 110 = .ok (.iload 4, 2) := pl_dc dd_Mo_findHeights 65 (q := (110, .iload 4, 2)) rfl
  have k112 : decode b_Mo_findHeights 112 = .ok (.iload_n 1, 1) := pl_dc dd_Mo_findHeights 66 (q := (112, .iload_n 1, 1)) rfl
  have k113 : decode b_Mo_findHeights 113 = .ok (.invokevirtual 105, 3) := pl_dc dd_Mo_findHeights 67 (q := (113, .invokevirtual 105, 3)) rfl
  have k116 : decode b_Mo_findHeights 116 = .ok (.ifCond .eq 46, 3) := pl_dc dd_Mo_findHeights 68 (q := (116, .ifCond .eq 46, 3)) rfl
  have k119 : decode b_Mo_findHeights 119 = .ok (.aload_n 0, 1) := pl_dc dd_Mo_findHeights 69 (q := (119, .aload_n 0, 1)) rfl
  have k120 : decode b_Mo_findHeights 120 = .ok (.iload 4, 2) := pl_dc dd_Mo_findHeights 70 (q := (120, .iload 4, 2)) rfl
  have k122 : decode b_Mo_findHeights 122 = .ok (.invokevirtual 175, 3) := pl_dc dd_Mo_findHeights 71 (q := (122, .invokevirtual 175, 3)) rfl
  have k125 : decode b_Mo_findHeights 125 = .ok (.iconst (-1), 1) := pl_dc dd_Mo_findHeights 72 (q := (125, .iconst (-1), 1)) rfl
  have k126 : decode b_Mo_findHeights 126 = .ok (.if_icmp .ne 36, 3) := pl_dc dd_Mo_findHeights 73 (q := (126, .if_icmp .ne 36, 3)) rfl
  have k129 : decode b_Mo_findHeights 129 = .ok (.aload_n 0, 1) := pl_dc dd_Mo_findHeights 74 (q := (129, .aload_n 0, 1)) rfl
  have k130 : decode b_Mo_findHeights 130 = .ok (.getfield 48, 3) := pl_dc dd_Mo_findHeights 75 (q := (130, .getfield 48, 3)) rfl
  have k133 : decode b_Mo_findHeights 133 = .ok (.iload_n 1, 1) := pl_dc dd_Mo_findHeights 76 (q := (133, .iload_n 1, 1)) rfl
  have k134 : decode b_Mo_findHeights 134 = .ok (.iaload, 1) := pl_dc dd_Mo_findHeights 77 (q := (134, .iaload, 1)) rfl
  have k135 : decode b_Mo_findHeights 135 = .ok (.aload_n 0, 1) := pl_dc dd_Mo_findHeights 78 (q := (135, .aload_n 0, 1)) rfl
  have k136 : decode b_Mo_findHeights 136 = .ok (.iload 4, 2) := pl_dc dd_Mo_findHeights 79 (q := (136, .iload 4, 2)) rfl
  have k138 : decode b_Mo_findHeights 138 = .ok (.invokevirtual 124, 3) := pl_dc dd_Mo_findHeights 80 (q := (138, .invokevirtual 124, 3)) rfl
  have k141 : decode b_Mo_findHeights 141 = .ok (.isub, 1) := pl_dc dd_Mo_findHeights 81 (q := (141, .isub, 1)) rfl
  have k142 : decode b_Mo_findHeights 142 = .ok (.istore 6, 2) := pl_dc dd_Mo_findHeights 82 (q := (142, .istore 6, 2)) rfl
  have k144 : decode b_Mo_findHeights 144 = .ok (.aload_n 0, 1) := pl_dc dd_Mo_findHeights 83 (q := (144, .aload_n 0, 1)) rfl
  have k145 : decode b_Mo_findHeights 145 = .ok (.getfield 48, 3) := pl_dc dd_Mo_findHeights 84 (q := (145, .getfield 48, 3)) rfl
  have k148 : decode b_Mo_findHeights 148 = .ok (.iload 4, 2) := pl_dc dd_Mo_findHeights 85 (q := (148, .iload 4, 2)) rfl
  have k150 : decode b_Mo_findHeights 150 = .ok (.iload 6, 2) := pl_dc dd_Mo_findHeights 86 (q := (150, .iload 6, 2)) rfl
  have k152 : decode b_Mo_findHeights 152 = .ok (.ifCond .le 8, 3) := pl_dc dd_Mo_findHeights 87 (q := (152, .ifCond .le 8, 3)) rfl
  have k155 : decode b_Mo_findHeights 155 = .ok (.iload 6, 2) := pl_dc dd_Mo_findHeights 88 (q := (155, .iload 6, 2)) rfl
  have k157 : decode b_Mo_findHeights 157 = .ok (.goto 4, 3) := pl_dc dd_Mo_findHeights 89 (q := (157, .goto 4, 3)) rfl
  have k160 : decode b_Mo_findHeights 160 = .ok (.iconst 0, 1) := pl_dc dd_Mo_findHeights 90 (q := (160, .iconst 0, 1)) rfl
  have k161 : decode b_Mo_findHeights 161 = .ok (.iastore, 1) := pl_dc dd_Mo_findHeights 91 (q := (161, .iastore, 1)) rfl
  have k162 : decode b_Mo_findHeights 162 = .ok (.iinc 4 1, 3) := pl_dc dd_Mo_findHeights 92 (q := (162, .iinc 4 1, 3)) rfl
  have k165 : decode b_Mo_findHeights 165 = .ok (.goto (-97), 3) := pl_dc dd_Mo_findHeights 93 (q := (165, .goto (-97), 3)) rfl
  have k168 : decode b_Mo_findHeights 168 = .ok (.iinc 1 (-1), 3) := pl_dc dd_Mo_findHeights 94 (q := (168, .iinc 1 (-1), 3)) rfl
  have k171 : decode b_Mo_findHeights 171 = .ok (.goto (-164), 3) := pl_dc dd_Mo_findHeights 95 (q := (171, .goto (-164), 3)) rfl
  have k174 : decode b_Mo_findHeights 174 = .ok (.return_, 1) := pl_dc dd_Mo_findHeights 96 (q := (174, .return_, 1)) rfl
  exact (d_seq (p1 := 174) (d_seq (p1 := 7) (d_istore_n (p1 := 6) F (c_bin 1 (p1 := 4) (p2 := 5) (c_geti (p1 := 1) F 3 1 hg_3_1 (c_aload_n F k0 rfl) k1 lf_PageLayouterModel_7) (c_iconst F k4 (by decide)) pl_c1 (j_isub F k5)) k6 rfl (hm 1 (by decide))) (d_while (p1 := 11) (p2 := 171) F (b_zero_t (p1 := 8) (pj := 174) F (c_iload_n F k7 rfl) k8 (by decide)) (d_seq (p1 := 168) (d_seq (p1 := 17) (d_istore_n (p1 := 16) F (c_callV (p1 := 13) F (a_i_ok (p1 := 12) (a_r_ok (p1 := 11) a_nil_ok (c_aload_n F k11 rfl)) (c_iload_n F k12 rfl)) (z_Mo_hasFlow _) y_Mo_hasFlow_ok lm_PageLayouterModel_133 k13 r_Mo_hasFlow (by decide) (by decide)) k16 rfl (hm 2 (by decide))) (d_seq (p1 := 38) (d_istore_n (p1 := 37) F (c_if (p1 := 21) (p2 := 26) (p3 := 37) F (b_zero_t (p1 := 18) (pj := 29) F (c_iload_n F k17 rfl) k18 (by decide)) (c_callV (p1 := 23) F (a_i_ok (p1 := 22) (a_r_ok (p1 := 21) a_nil_ok (c_aload_n F k21 rfl)) (c_iload_n F k22 rfl)) (z_Mo_byChildren _) y_Mo_byChildren_ok lm_PageLayouterModel_181 k23 r_Mo_byChildren (by decide) (by decide)) k26 (by decide) (c_bin 1 (p1 := 31) (p2 := 36) (c_bipush F k29 (by decide)) (c_callV (p1 := 33) F (a_i_ok (p1 := 32) (a_r_ok (p1 := 31) a_nil_ok (c_aload_n F k31 rfl)) (c_iload_n F k32 rfl)) (z_Mo_lines _) y_Mo_lines_ok lm_PageLayouterModel_184 k33 r_Mo_lines (by decide) (by decide)) pl_c1 (j_imul F k36))) k37 rfl (hm 3 (by decide))) (d_seq (p1 := 63) (d_iast (p1 := 42) (p2 := 43) (p3 := 62) F (c_getr (p1 := 39) F 3 14 hg_3_14 (c_aload_n F k38 rfl) k39 lf_PageLayouterModel_48) (c_iload_n F k42 rfl) (c_if (p1 := 52) (p2 := 58) (p3 := 62) F (b_zero_t (p1 := 49) (pj := 61) F (c_iald (p1 := 47) (p2 := 48) F (c_getr (p1 := 44) F 3 15 hg_3_15 (c_aload_n F k43 rfl) k44 lf_PageLayouterModel_51) (c_iload_n F k47 rfl) k48) k49 (by decide)) (c_iald (p1 := 56) (p2 := 57) F (c_getr (p1 := 53) F 3 15 hg_3_15 (c_aload_n F k52 rfl) k53 lf_PageLayouterModel_51) (c_iload_n F k56 rfl) k57) k58 (by decide) (c_iload_n F k61 rfl)) k62) (d_seq (p1 := 68) (d_istore (p1 := 66) F (c_bin 1 (p1 := 64) (p2 := 65) (c_iload_n F k63 rfl) (c_iconst F k64 (by decide)) pl_c1 (j_iadd F k65)) k66 (hm 4 (by decide))) (d_while (p1 := 77) (p2 := 165) F (b_cmp_t (p1 := 70) (p2 := 74) (pj := 168) F (c_iload F k68) (c_geti (p1 := 71) F 3 1 hg_3_1 (c_aload_n F k70 rfl) k71 lf_PageLayouterModel_7) k74 (by decide)) (d_seq (p1 := 162) (d_seq (p1 := 104) (d_istore (p1 := 102) F (c_if (p1 := 97) (p2 := 98) (p3 := 102) F (b_or_t (p1 := 87) (b_cmp_f (p1 := 83) (p2 := 84) (pj := 97) F (c_iald (p1 := 81) (p2 := 82) F (c_getr (p1 := 78) F 3 8 hg_3_8 (c_aload_n F k77 rfl) k78 lf_PageLayouterModel_30) (c_iload_n F k81 rfl) k82) (c_iconst F k83 (by decide)) k84 (by decide)) (b_cmp_t (p1 := 93) (p2 := 94) (pj := 101) F (c_iald (p1 := 91) (p2 := 92) F (c_getr (p1 := 88) F 3 8 hg_3_8 (c_aload_n F k87 rfl) k88 lf_PageLayouterModel_30) (c_iload_n F k91 rfl) k92) (c_iconst F k93 (by decide)) k94 (by decide))) (c_iconst F k97 (by decide)) k98 (by decide) (c_iconst F k101 (by decide))) k102 (hm 5 (by decide))) (d_if (p1 := 129) (p2 := 162) (b_and_t (p1 := 119) (b_and_t (p1 := 109) (b_zero_t (p1 := 106) (pj := 162) F (c_iload F k104) k106 (by decide)) (b_zero_t (p1 := 116) (pj := 162) F (c_callV (p1 := 113) F (a_i_ok (p1 := 112) (a_i_ok (p1 := 110) (a_r_ok (p1 := 109) a_nil_ok (c_aload_n F k109 rfl)) (c_iload F k110)) (c_iload_n F k112 rfl)) (z_Mo_flows _) y_Mo_flows_ok lm_PageLayouterModel_105 k113 r_Mo_flows (by decide) (by decide)) k116 (by decide))) (b_cmp_t (p1 := 125) (p2 := 126) (pj := 162) F (c_callV (p1 := 122) F (a_i_ok (p1 := 120) (a_r_ok (p1 := 119) a_nil_ok (c_aload_n F k119 rfl)) (c_iload F k120)) (z_Mo_heightOf _) y_Mo_heightOf_ok lm_PageLayouterModel_175 k122 r_Mo_heightOf (by decide) (by decide)) (c_iconst F k125 (by decide)) k126 (by decide))) (d_seq (p1 := 144) (d_istore (p1 := 142) F (c_bin 1 (p1 := 135) (p2 := 141) (c_iald (p1 := 133) (p2 := 134) F (c_getr (p1 := 130) F 3 14 hg_3_14 (c_aload_n F k129 rfl) k130 lf_PageLayouterModel_48) (c_iload_n F k133 rfl) k134) (c_callV (p1 := 138) F (a_i_ok (p1 := 136) (a_r_ok (p1 := 135) a_nil_ok (c_aload_n F k135 rfl)) (c_iload F k136)) (z_Mo_around _) y_Mo_around_ok lm_PageLayouterModel_124 k138 r_Mo_around (by decide) (by decide)) pl_c1 (j_isub F k141)) k142 (hm 6 (by decide))) (d_iast (p1 := 148) (p2 := 150) (p3 := 161) F (c_getr (p1 := 145) F 3 14 hg_3_14 (c_aload_n F k144 rfl) k145 lf_PageLayouterModel_48) (c_iload F k148) (c_if (p1 := 155) (p2 := 157) (p3 := 161) F (b_zero_t (p1 := 152) (pj := 160) F (c_iload F k150) k152 (by decide)) (c_iload F k155) k157 (by decide) (c_iconst F k160 (by decide))) k161)))) (d_iinc F k162 (by decide) (hm 4 (by decide)))) k165 (by decide)))))) (d_iinc F k168 (by decide) (hm 1 (by decide)))) k171 (by decide))) (d_retv F Fm.2.1 Fm.2.2.1 k174)))
def y_Mo_findPlaces : MethodName := ⟨"PageLayouterModel", "findPlaces", "()V"⟩
abbrev b_Mo_findPlaces : ByteArray := prog_10_method_41_code
abbrev n_Mo_findPlaces : Nat := 7
theorem y_Mo_findPlaces_ok : pl_MV 3 y_Mo_findPlaces b_Mo_findPlaces n_Mo_findPlaces (Option.none : Option Jvm.ClassFile.FieldType) 0 := ⟨pl_mem 940 (by decide +kernel) (by decide +kernel), pl_mem 939 (by decide +kernel) (by decide +kernel), pl_mem 40 (by decide +kernel) (by decide +kernel), pl_mem 47 (by decide +kernel) (by decide +kernel), ⟨by decide, by decide, by decide +kernel⟩, _, rfl, rfl⟩
def D_Mo_findPlaces : List (Nat × Instr × Nat) := [(0, .iconst 0, 1), (1, .istore_n 1, 1), (2, .iload_n 1, 1), (3, .aload_n 0, 1), (4, .getfield 7, 3), (7, .if_icmp .ge 250, 3), (10, .aload_n 0, 1), (11, .getfield 13, 3), (14, .iload_n 1, 1), (15, .iaload, 1), (16, .istore_n 2, 1), (17, .aload_n 0, 1), (18, .iload_n 1, 1), (19, .invokevirtual 108, 3), (22, .istore_n 3, 1), (23, .aload_n 0, 1), (24, .iload_n 1, 1), (25, .invokevirtual 108, 3), (28, .istore 4, 2), (30, .iload_n 1, 1), (31, .ifCond .le 179, 3), (34, .iload_n 3, 1), (35, .aload_n 0, 1), (36, .getfield 57, 3), (39, .iload_n 2, 1), (40, .iaload, 1), (41, .iadd, 1), (42, .aload_n 0, 1), (43, .iload_n 2, 1), (44, .invokevirtual 112, 3), (47, .iadd, 1), (48, .istore_n 3, 1), (49, .aload_n 0, 1), (50, .getfield 60, 3), (53, .iload_n 2, 1), (54, .iaload, 1), (55, .aload_n 0, 1), (56, .iload_n 2, 1), (57, .invokevirtual 112, 3), (60, .iadd, 1), (61, .aload_n 0, 1), (62, .getfield 26, 3), (65, .iload_n 1, 1), (66, .baload, 1), (67, .ifCond .eq 11, 3), (70, .aload_n 0, 1), (71, .iload_n 1, 1), (72, .invokevirtual 108, 3), (75, .goto 9, 3), (78, .aload_n 0, 1), (79, .getfield 54, 3), (82, .iload_n 1, 1), (83, .iaload, 1), (84, .iadd, 1), (85, .istore 4, 2), (87, .iload_n 2, 1), (88, .iconst 1, 1), (89, .iadd, 1), (90, .istore 5, 2), (92, .iload 5, 2), (94, .iload_n 1, 1), (95, .if_icmp .ge 115, 3), (98, .aload_n 0, 1), (99, .getfield 26, 3), (102, .iload_n 1, 1), (103, .baload, 1), (104, .ifCond .ne 17, 3), (107, .aload_n 0, 1), (108, .iload 5, 2), (110, .iload_n 2, 1), (111, .invokevirtual 105, 3), (114, .ifCond .eq 7, 3), (117, .iconst 1, 1), (118, .goto 4, 3), (121, .iconst 0, 1), (122, .istore 6, 2), (124, .iload 6, 2), (126, .ifCond .eq 32, 3), (129, .aload_n 0, 1), (130, .getfield 30, 3), (133, .iload_n 2, 1), (134, .iaload, 1), (135, .iconst 1, 1), (136, .if_icmp .ne 22, 3), (139, .iload_n 3, 1), (140, .aload_n 0, 1), (141, .getfield 45, 3), (144, .iload 5, 2), (146, .iaload, 1), (147, .iadd, 1), (148, .aload_n 0, 1), (149, .iload 5, 2), (151, .invokevirtual 124, 3), (154, .iadd, 1), (155, .goto 4, 3), (158, .iload_n 3, 1), (159, .istore_n 3, 1), (160, .iload 6, 2), (162, .ifCond .eq 40, 3), (165, .aload_n 0, 1), (166, .getfield 30, 3), (169, .iload_n 2, 1), (170, .iaload, 1), (171, .iconst 3, 1), (172, .if_icmp .ne 30, 3), (175, .iload_n 3, 1), (176, .aload_n 0, 1), (177, .getfield 66, 3), (180, .bipush 40, 2), (182, .aload_n 0, 1), (183, .getfield 13, 3), (186, .iload_n 2, 1), (187, .iaload, 1), (188, .imul, 1), (189, .aload_n 0, 1), (190, .getfield 36, 3), (193, .iload 5, 2), (195, .iaload, 1), (196, .iadd, 1), (197, .iaload, 1), (198, .iadd, 1), (199, .goto 4, 3), (202, .iload_n 3, 1), (203, .istore_n 3, 1), (204, .iinc 5 1, 3), (207, .goto (-115), 3), (210, .aload_n 0, 1), (211, .getfield 57, 3), (214, .iload_n 1, 1), (215, .iload_n 3, 1), (216, .aload_n 0, 1), (217, .getfield 23, 3), (220, .bipush 12, 2), (222, .iload_n 1, 1), (223, .imul, 1), (224, .bipush 10, 2), (226, .iadd, 1), (227, .iaload, 1), (228, .iadd, 1), (229, .iastore, 1), (230, .aload_n 0, 1), (231, .getfield 60, 3), (234, .iload_n 1, 1), (235, .iload 4, 2), (237, .aload_n 0, 1), (238, .getfield 23, 3), (241, .bipush 12, 2), (243, .iload_n 1, 1), (244, .imul, 1), (245, .bipush 11, 2), (247, .iadd, 1), (248, .iaload, 1), (249, .iadd, 1), (250, .iastore, 1), (251, .iinc 1 1, 3), (254, .goto (-252), 3), (257, .return_, 1)]
theorem dd_Mo_findPlaces : (D_Mo_findPlaces.all fun q => decide (decode b_Mo_findPlaces q.1 = .ok q.2)) = true := by decide +kernel
def t_Mo_findPlaces : pl_TR := fun P _ _ => s_seq (s_seq (s_seti 1 (e_int 0)) (s_while (b_cmp .lt (e_loc 1) (e_geti 3 1 (e_locr 0))) (s_seq (s_seq (s_seti 2 (e_ald 1 (e_getr 3 3 (e_locr 0)) (e_loc 1))) (s_seq (s_seti 3 (e_callV Value.int 3 t_Mo_margin n_Mo_margin (a_i (a_r a_nil (e_locr 0)) (e_loc 1)))) (s_seq (s_seti 4 (e_callV Value.int 3 t_Mo_margin n_Mo_margin (a_i (a_r a_nil (e_locr 0)) (e_loc 1)))) (s_seq (s_if (b_zero .gt (e_loc 1)) (s_seq (s_seti 3 (e_bin (fun x y : Int32 => x + y) (e_bin (fun x y : Int32 => x + y) (e_loc 3) (e_ald 1 (e_getr 3 17 (e_locr 0)) (e_loc 2))) (e_callV Value.int 3 t_Mo_padding n_Mo_padding (a_i (a_r a_nil (e_locr 0)) (e_loc 2))))) (s_seq (s_seti 4 (e_bin (fun x y : Int32 => x + y) (e_bin (fun x y : Int32 => x + y) (e_ald 1 (e_getr 3 18 (e_locr 0)) (e_loc 2)) (e_callV Value.int 3 t_Mo_padding n_Mo_padding (a_i (a_r a_nil (e_locr 0)) (e_loc 2)))) (e_if (b_zero .ne (e_ald 2 (e_getr 3 7 (e_locr 0)) (e_loc 1))) (e_callV Value.int 3 t_Mo_margin n_Mo_margin (a_i (a_r a_nil (e_locr 0)) (e_loc 1))) (e_ald 1 (e_getr 3 16 (e_locr 0)) (e_loc 1))))) (s_seq (s_seti 5 (e_bin (fun x y : Int32 => x + y) (e_loc 2) (e_int 1))) (s_while (b_cmp .lt (e_loc 5) (e_loc 1)) (s_seq (s_seq (s_seti 6 (e_if (b_and (b_not (b_zero .ne (e_ald 2 (e_getr 3 7 (e_locr 0)) (e_loc 1)))) (b_zero .ne (e_callV Value.int 3 t_Mo_flows n_Mo_flows (a_i (a_i (a_r a_nil (e_locr 0)) (e_loc 5)) (e_loc 2))))) (e_int 1) (e_int 0))) (s_seq (s_seti 3 (e_if (b_and (b_zero .ne (e_loc 6)) (b_cmp .eq (e_ald 1 (e_getr 3 8 (e_locr 0)) (e_loc 2)) (e_int 1))) (e_bin (fun x y : Int32 => x + y) (e_bin (fun x y : Int32 => x + y) (e_loc 3) (e_ald 1 (e_getr 3 13 (e_locr 0)) (e_loc 5))) (e_callV Value.int 3 t_Mo_around n_Mo_around (a_i (a_r a_nil (e_locr 0)) (e_loc 5)))) (e_loc 3))) (s_seti 3 (e_if (b_and (b_zero .ne (e_loc 6)) (b_cmp .eq (e_ald 1 (e_getr 3 8 (e_locr 0)) (e_loc 2)) (e_int 3))) (e_bin (fun x y : Int32 => x + y) (e_loc 3) (e_ald 1 (e_getr 3 20 (e_locr 0)) (e_bin (fun x y : Int32 => x + y) (e_bin (fun x y : Int32 => x * y) (e_int 40) (e_ald 1 (e_getr 3 3 (e_locr 0)) (e_loc 2))) (e_ald 1 (e_getr 3 10 (e_locr 0)) (e_loc 5))))) (e_loc 3))))) (s_inc 5 1))))))) (s_seq (s_iast (e_getr 3 17 (e_locr 0)) (e_loc 1) (e_bin (fun x y : Int32 => x + y) (e_loc 3) (e_ald 1 (e_getr 3 6 (e_locr 0)) (e_bin (fun x y : Int32 => x + y) (e_bin (fun x y : Int32 => x * y) (e_int 12) (e_loc 1)) (e_int 10))))) (s_iast (e_getr 3 18 (e_locr 0)) (e_loc 1) (e_bin (fun x y : Int32 => x + y) (e_loc 4) (e_ald 1 (e_getr 3 6 (e_locr 0)) (e_bin (fun x y : Int32 => x + y) (e_bin (fun x y : Int32 => x * y) (e_int 12) (e_loc 1)) (e_int 11)))))))))) (s_inc 1 1)))) (s_retv P)
theorem z_Mo_findPlaces (l : Launch) : pl_Ctr l y_Mo_findPlaces b_Mo_findPlaces n_Mo_findPlaces (Option.none : Option Jvm.ClassFile.FieldType) 2 42 0 0 false t_Mo_findPlaces := pl_ctr_of (pe := 0) (by decide) (fun X Y P F Fm => by
  have F : pl_Fx X Y "PageLayouterModel" b_Mo_findPlaces := F
  have r_Mo_around : 1 + 1 ≤ (pl_xR X).frames ∧ 8 + (n_Mo_around + 11) + 21 ≤ (pl_xR X).locals := ⟨Nat.le_trans (by decide) Fm.2.2.2.2.2.1, Nat.le_trans (by decide) Fm.2.2.2.2.2.2.1⟩
  have r_Mo_flows : 0 + 1 ≤ (pl_xR X).frames ∧ 8 + (n_Mo_flows + 11) + 0 ≤ (pl_xR X).locals := ⟨Nat.le_trans (by decide) Fm.2.2.2.2.2.1, Nat.le_trans (by decide) Fm.2.2.2.2.2.2.1⟩
  have r_Mo_margin : 0 + 1 ≤ (pl_xR X).frames ∧ 8 + (n_Mo_margin + 11) + 0 ≤ (pl_xR X).locals := ⟨Nat.le_trans (by decide) Fm.2.2.2.2.2.1, Nat.le_trans (by decide) Fm.2.2.2.2.2.2.1⟩
  have r_Mo_padding : 0 + 1 ≤ (pl_xR X).frames ∧ 8 + (n_Mo_padding + 11) + 0 ≤ (pl_xR X).locals := ⟨Nat.le_trans (by decide) Fm.2.2.2.2.2.1, Nat.le_trans (by decide) Fm.2.2.2.2.2.2.1⟩
  have hm : ∀ i, i < 7 → i < (pl_xc X).maxLocals := fun i h => by rw [Fm.2.2.2.1]; exact h
  have k0 : decode b_Mo_findPlaces 0 = .ok (.iconst 0, 1) := pl_dc dd_Mo_findPlaces 0 (q := (0, .iconst 0, 1)) rfl
  have k1 : decode b_Mo_findPlaces 1 = .ok (.istore_n 1, 1) := pl_dc dd_Mo_findPlaces 1 (q := (1, .istore_n 1, 1)) rfl
  have k2 : decode b_Mo_findPlaces 2 = .ok (.iload_n 1, 1) := pl_dc dd_Mo_findPlaces 2 (q := (2, .iload_n 1, 1)) rfl
  have k3 : decode b_Mo_findPlaces 3 = .ok (.aload_n 0, 1) := pl_dc dd_Mo_findPlaces 3 (q := (3, .aload_n 0, 1)) rfl
  have k4 : decode b_Mo_findPlaces 4 = .ok (.getfield 7, 3) := pl_dc dd_Mo_findPlaces 4 (q := (4, .getfield 7, 3)) rfl
  have k7 : decode b_Mo_findPlaces 7 = .ok (.if_icmp .ge 250, 3) := pl_dc dd_Mo_findPlaces 5 (q := (7, .if_icmp .ge 250, 3)) rfl
  have k10 : decode b_Mo_findPlaces 10 = .ok (.aload_n 0, 1) := pl_dc dd_Mo_findPlaces 6 (q := (10, .aload_n 0, 1)) rfl
  have k11 : decode b_Mo_findPlaces 11 = .ok (.getfield 13, 3) := pl_dc dd_Mo_findPlaces 7 (q := (11, .getfield 13, 3)) rfl
  have k14 : decode b_Mo_findPlaces 14 = .ok (.iload_n 1, 1) := pl_dc dd_Mo_findPlaces 8 (q := (14, .iload_n 1, 1)) rfl
  have k15 : decode b_Mo_findPlaces 15 = .ok (.iaload, 1) := pl_dc dd_Mo_findPlaces 9 (q := (15, .iaload, 1)) rfl
  have k16 : decode b_Mo_findPlaces 16 = .ok (.istore_n 2, 1) := pl_dc dd_Mo_findPlaces 10 (q := (16, .istore_n 2, 1)) rfl
  have k17 : decode b_Mo_findPlaces 17 = .ok (.aload_n 0, 1) := pl_dc dd_Mo_findPlaces 11 (q := (17, .aload_n 0, 1)) rfl
  have k18 : decode b_Mo_findPlaces 18 = .ok (.iload_n 1, 1) := pl_dc dd_Mo_findPlaces 12 (q := (18, .iload_n 1, 1)) rfl
  have k19 : decode b_Mo_findPlaces 19 = .ok (.invokevirtual 108, 3) := pl_dc dd_Mo_findPlaces 13 (q := (19, .invokevirtual 108, 3)) rfl
  have k22 : decode b_Mo_findPlaces 22 = .ok (.istore_n 3, 1) := pl_dc dd_Mo_findPlaces 14 (q := (22, .istore_n 3, 1)) rfl
  have k23 : decode b_Mo_findPlaces 23 = .ok (.aload_n 0, 1) := pl_dc dd_Mo_findPlaces 15 (q := (23, .aload_n 0, 1)) rfl
  have k24 : decode b_Mo_findPlaces 24 = .ok (.iload_n 1, 1) := pl_dc dd_Mo_findPlaces 16 (q := (24, .iload_n 1, 1)) rfl
  have k25 : decode b_Mo_findPlaces 25 = .ok (.invokevirtual 108, 3) := pl_dc dd_Mo_findPlaces 17 (q := (25, .invokevirtual 108, 3)) rfl
  have k28 : decode b_Mo_findPlaces 28 = .ok (.istore 4, 2) := pl_dc dd_Mo_findPlaces 18 (q := (28, .istore 4, 2)) rfl
  have k30 : decode b_Mo_findPlaces 30 = .ok (.iload_n 1, 1) := pl_dc dd_Mo_findPlaces 19 (q := (30, .iload_n 1, 1)) rfl
  have k31 : decode b_Mo_findPlaces 31 = .ok (.ifCond .le 179, 3) := pl_dc dd_Mo_findPlaces 20 (q := (31, .ifCond .le 179, 3)) rfl
  have k34 : decode b_Mo_findPlaces 34 = .ok (.iload_n 3, 1) := pl_dc dd_Mo_findPlaces 21 (q := (34, .iload_n 3, 1)) rfl
  have k35 : decode b_Mo_findPlaces 35 = .ok (.aload_n 0, 1) := pl_dc dd_Mo_findPlaces 22 (q := (35, .aload_n 0, 1)) rfl
  have k36 : decode b_Mo_findPlaces 36 = .ok (.getfield 57, 3) := pl_dc dd_Mo_findPlaces 23 (q := (36, .getfield 57, 3)) rfl
  have k39 : decode b_Mo_findPlaces 39 = .ok (.iload_n 2, 1) := pl_dc dd_Mo_findPlaces 24 (q := (39, .iload_n 2, 1)) rfl
  have k40 : decode b_Mo_findPlaces 40 = .ok (.iaload, 1) := pl_dc dd_Mo_findPlaces 25 (q := (40, .iaload, 1)) rfl
  have k41 : decode b_Mo_findPlaces 41 = .ok (.iadd, 1) := pl_dc dd_Mo_findPlaces 26 (q := (41, .iadd, 1)) rfl
  have k42 : decode b_Mo_findPlaces 42 = .ok (.aload_n 0, 1) := pl_dc dd_Mo_findPlaces 27 (q := (42, .aload_n 0, 1)) rfl
  have k43 : decode b_Mo_findPlaces 43 = .ok (.iload_n 2, 1) := pl_dc dd_Mo_findPlaces 28 (q := (43, .iload_n 2, 1)) rfl
  have k44 : decode b_Mo_findPlaces 44 = .ok (.invokevirtual 112, 3) := pl_dc dd_Mo_findPlaces 29 (q := (44, .invokevirtual 112, 3)) rfl
  have k47 : decode b_Mo_findPlaces 47 = .ok (.iadd, 1) := pl_dc dd_Mo_findPlaces 30 (q := (47, .iadd, 1)) rfl
  have k48 : decode b_Mo_findPlaces 48 = .ok (.istore_n 3, 1) := pl_dc dd_Mo_findPlaces 31 (q := (48, .istore_n 3, 1)) rfl
  have k49 : decode b_Mo_findPlaces 49 = .ok (.aload_n 0, 1) := pl_dc dd_Mo_findPlaces 32 (q := (49, .aload_n 0, 1)) rfl
  have k50 : decode b_Mo_findPlaces 50 = .ok (.getfield 60, 3) := pl_dc dd_Mo_findPlaces 33 (q := (50, .getfield 60, 3)) rfl
  have k53 : decode b_Mo_findPlaces 53 = .ok (.iload_n 2, 1) := pl_dc dd_Mo_findPlaces 34 (q := (53, .iload_n 2, 1)) rfl
  have k54 : decode b_Mo_findPlaces 54 = .ok (.iaload, 1) := pl_dc dd_Mo_findPlaces 35 (q := (54, .iaload, 1)) rfl
  have k55 : decode b_Mo_findPlaces 55 = .ok (.aload_n 0, 1) := pl_dc dd_Mo_findPlaces 36 (q := (55, .aload_n 0, 1)) rfl
  have k56 : decode b_Mo_findPlaces 56 = .ok (.iload_n 2, 1) := pl_dc dd_Mo_findPlaces 37 (q := (56, .iload_n 2, 1)) rfl
  have k57 : decode b_Mo_findPlaces 57 = .ok (.invokevirtual 112, 3) := pl_dc dd_Mo_findPlaces 38 (q := (57, .invokevirtual 112, 3)) rfl
  have k60 : decode b_Mo_findPlaces 60 = .ok (.iadd, 1) := pl_dc dd_Mo_findPlaces 39 (q := (60, .iadd, 1)) rfl
  have k61 : decode b_Mo_findPlaces 61 = .ok (.aload_n 0, 1) := pl_dc dd_Mo_findPlaces 40 (q := (61, .aload_n 0, 1)) rfl
  have k62 : decode b_Mo_findPlaces 62 = .ok (.getfield 26, 3) := pl_dc dd_Mo_findPlaces 41 (q := (62, .getfield 26, 3)) rfl
  have k65 : decode b_Mo_findPlaces 65 = .ok (.iload_n 1, 1) := pl_dc dd_Mo_findPlaces 42 (q := (65, .iload_n 1, 1)) rfl
  have k66 : decode b_Mo_findPlaces 66 = .ok (.baload, 1) := pl_dc dd_Mo_findPlaces 43 (q := (66, .baload, 1)) rfl
  have k67 : decode b_Mo_findPlaces 67 = .ok (.ifCond .eq 11, 3) := pl_dc dd_Mo_findPlaces 44 (q := (67, .ifCond .eq 11, 3)) rfl
  have k70 : decode b_Mo_findPlaces 70 = .ok (.aload_n 0, 1) := pl_dc dd_Mo_findPlaces 45 (q := (70, .aload_n 0, 1)) rfl
  have k71 : decode b_Mo_findPlaces 71 = .ok (.iload_n 1, 1) := pl_dc dd_Mo_findPlaces 46 (q := (71, .iload_n 1, 1)) rfl
  have k72 : decode b_Mo_findPlaces 72 = .ok (.invokevirtual 108, 3) := pl_dc dd_Mo_findPlaces 47 (q := (72, .invokevirtual 108, 3)) rfl
  have k75 : decode b_Mo_findPlaces 75 = .ok (.goto 9, 3) := pl_dc dd_Mo_findPlaces 48 (q := (75, .goto 9, 3)) rfl
  have k78 : decode b_Mo_findPlaces 78 = .ok (.aload_n 0, 1) := pl_dc dd_Mo_findPlaces 49 (q := (78, .aload_n 0, 1)) rfl
  have k79 : decode b_Mo_findPlaces 79 = .ok (.getfield 54, 3) := pl_dc dd_Mo_findPlaces 50 (q := (79, .getfield 54, 3)) rfl
  have k82 : decode b_Mo_findPlaces 82 = .ok (.iload_n 1, 1) := pl_dc dd_Mo_findPlaces 51 (q := (82, .iload_n 1, 1)) rfl
  have k83 : decode b_Mo_findPlaces 83 = .ok (.iaload, 1) := pl_dc dd_Mo_findPlaces 52 (q := (83, .iaload, 1)) rfl
  have k84 : decode b_Mo_findPlaces 84 = .ok (.iadd, 1) := pl_dc dd_Mo_findPlaces 53 (q := (84, .iadd, 1)) rfl
  have k85 : decode b_Mo_findPlaces 85 = .ok (.istore 4, 2) := pl_dc dd_Mo_findPlaces 54 (q := (85, .istore 4, 2)) rfl
  have k87 : decode b_Mo_findPlaces 87 = .ok (.iload_n 2, 1) := pl_dc dd_Mo_findPlaces 55 (q := (87, .iload_n 2, 1)) rfl
  have k88 : decode b_Mo_findPlaces 88 = .ok (.iconst 1, 1) := pl_dc dd_Mo_findPlaces 56 (q := (88, .iconst 1, 1)) rfl
  have k89 : decode b_Mo_findPlaces 89 = .ok (.iadd, 1) := pl_dc dd_Mo_findPlaces 57 (q := (89, .iadd, 1)) rfl
  have k90 : decode b_Mo_findPlaces 90 = .ok (.istore 5, 2) := pl_dc dd_Mo_findPlaces 58 (q := (90, .istore 5, 2)) rfl
  have k92 : decode b_Mo_findPlaces 92 = .ok (.iload 5, 2) := pl_dc dd_Mo_findPlaces 59 (q := (92, .iload 5, 2)) rfl
  have k94 : decode b_Mo_findPlaces 94 = .ok (.iload_n 1, 1) := pl_dc dd_Mo_findPlaces 60 (q := (94, .iload_n 1, 1)) rfl
  have k95 : decode b_Mo_findPlaces 95 = .ok (.if_icmp .ge 115, 3) := pl_dc dd_Mo_findPlaces 61 (q := (95, .if_icmp .ge 115, 3)) rfl
  have k98 : decode b_Mo_findPlaces 98 = .ok (.aload_n 0, 1) := pl_dc dd_Mo_findPlaces 62 (q := (98, .aload_n 0, 1)) rfl
  have k99 : decode b_Mo_findPlaces 99 = .ok (.getfield 26, 3) := pl_dc dd_Mo_findPlaces 63 (q := (99, .getfield 26, 3)) rfl
  have k102 : decode b_Mo_findPlaces 102 = .ok (.iload_n 1, 1) := pl_dc dd_Mo_findPlaces 64 (q := (102, .iload_n 1, 1)) rfl
  have k103 : decode b_Mo_findPlaces 103 = .ok (.baload, 1) := pl_dc dd_Mo_findPlaces 65 (q := (103, .baload, 1)) rfl
  have k104 : decode b_Mo_findPlaces 104 = .ok (.ifCond .ne 17, 3) := pl_dc dd_Mo_findPlaces 66 (q := (104, .ifCond .ne 17, 3)) rfl
  have k107 : decode b_Mo_findPlaces 107 = .ok (.aload_n 0, 1) := pl_dc dd_Mo_findPlaces 67 (q := (107, .aload_n 0, 1)) rfl
  have k108 : decode b_Mo_findPlaces 108 = .ok (.iload 5, 2) := pl_dc dd_Mo_findPlaces 68 (q := (108, .iload 5, 2)) rfl
  have k110 : decode b_Mo_findPlaces 110 = .ok (.iload_n 2, 1) := pl_dc dd_Mo_findPlaces 69 (q := (110, .iload_n 2, 1)) rfl
  have k111 : decode b_Mo_findPlaces 111 = .ok (.invokevirtual 105, 3) := pl_dc dd_Mo_findPlaces 70 (q := (111, .invokevirtual 105, 3)) rfl
  have k114 : decode b_Mo_findPlaces 114 = .ok (.ifCond .eq 7, 3) := pl_dc dd_Mo_findPlaces 71 (q := (114, .ifCond .eq 7, 3)) rfl
  have k117 : decode b_Mo_findPlaces 117 = .ok (.iconst 1, 1) := pl_dc dd_Mo_findPlaces 72 (q := (117, .iconst 1, 1)) rfl
  have k118 : decode b_Mo_findPlaces 118 = .ok (.goto 4, 3) := pl_dc dd_Mo_findPlaces 73 (q := (118, .goto 4, 3)) rfl
  have k121 : decode b_Mo_findPlaces 121 = .ok (.iconst 0, 1) := pl_dc dd_Mo_findPlaces 74 (q := (121, .iconst 0, 1)) rfl
  have k122 : decode b_Mo_findPlaces 122 = .ok (.istore 6, 2) := pl_dc dd_Mo_findPlaces 75 (q := (122, .istore 6, 2)) rfl
  have k124 : decode b_Mo_findPlaces 124 = .ok (.iload 6, 2) := pl_dc dd_Mo_findPlaces 76 (q := (124, .iload 6, 2)) rfl
  have k126 : decode b_Mo_findPlaces 126 = .ok (.ifCond .eq 32, 3) := pl_dc dd_Mo_findPlaces 77 (q := (126, .ifCond .eq 32, 3)) rfl
  have k129 : decode b_Mo_findPlaces 129 = .ok (.aload_n 0, 1) := pl_dc dd_Mo_findPlaces 78 (q := (129, .aload_n 0, 1)) rfl
  have k130 : decode b_Mo_findPlaces 130 = .ok (.getfield 30, 3) := pl_dc dd_Mo_findPlaces 79 (q := (130, .getfield 30, 3)) rfl
  have k133 : decode b_Mo_findPlaces 133 = .ok (.iload_n 2, 1) := pl_dc dd_Mo_findPlaces 80 (q := (133, .iload_n 2, 1)) rfl
  have k134 : decode b_Mo_findPlaces 134 = .ok (.iaload, 1) := pl_dc dd_Mo_findPlaces 81 (q := (134, .iaload, 1)) rfl
  have k135 : decode b_Mo_findPlaces 135 = .ok (.iconst 1, 1) := pl_dc dd_Mo_findPlaces 82 (q := (135, .iconst 1, 1)) rfl
  have k136 : decode b_Mo_findPlaces 136 = .ok (.if_icmp .ne 22, 3) := pl_dc dd_Mo_findPlaces 83 (q := (136, .if_icmp .ne 22, 3)) rfl
  have k139 : decode b_Mo_findPlaces 139 = .ok (.iload_n 3, 1) := pl_dc dd_Mo_findPlaces 84 (q := (139, .iload_n 3, 1)) rfl
  have k140 : decode b_Mo_findPlaces 140 = .ok (.aload_n 0, 1) := pl_dc dd_Mo_findPlaces 85 (q := (140, .aload_n 0, 1)) rfl
  have k141 : decode b_Mo_findPlaces 141 = .ok (.getfield 45, 3) := pl_dc dd_Mo_findPlaces 86 (q := (141, .getfield 45, 3)) rfl
  have k144 : decode b_Mo_findPlaces 144 = .ok (.iload 5, 2) := pl_dc dd_Mo_findPlaces 87 (q := (144, .iload 5, 2)) rfl
  have k146 : decode b_Mo_findPlaces 146 = .ok (.iaload, 1) := pl_dc dd_Mo_findPlaces 88 (q := (146, .iaload, 1)) rfl
  have k147 : decode b_Mo_findPlaces 147 = .ok (.iadd, 1) := pl_dc dd_Mo_findPlaces 89 (q := (147, .iadd, 1)) rfl
  have k148 : decode b_Mo_findPlaces 148 = .ok (.aload_n 0, 1) := pl_dc dd_Mo_findPlaces 90 (q := (148, .aload_n 0, 1)) rfl
  have k149 : decode b_Mo_findPlaces 149 = .ok (.iload 5, 2) := pl_dc dd_Mo_findPlaces 91 (q := (149, .iload 5, 2)) rfl
  have k151 : decode b_Mo_findPlaces 151 = .ok (.invokevirtual 124, 3) := pl_dc dd_Mo_findPlaces 92 (q := (151, .invokevirtual 124, 3)) rfl
  have k154 : decode b_Mo_findPlaces 154 = .ok (.iadd, 1) := pl_dc dd_Mo_findPlaces 93 (q := (154, .iadd, 1)) rfl
  have k155 : decode b_Mo_findPlaces 155 = .ok (.goto 4, 3) := pl_dc dd_Mo_findPlaces 94 (q := (155, .goto 4, 3)) rfl
  have k158 : decode b_Mo_findPlaces 158 = .ok (.iload_n 3, 1) := pl_dc dd_Mo_findPlaces 95 (q := (158, .iload_n 3, 1)) rfl
  have k159 : decode b_Mo_findPlaces 159 = .ok (.istore_n 3, 1) := pl_dc dd_Mo_findPlaces 96 (q := (159, .istore_n 3, 1)) rfl
  have k160 : decode b_Mo_findPlaces 160 = .ok (.iload 6, 2) := pl_dc dd_Mo_findPlaces 97 (q := (160, .iload 6, 2)) rfl
  have k162 : decode b_Mo_findPlaces 162 = .ok (.ifCond .eq 40, 3) := pl_dc dd_Mo_findPlaces 98 (q := (162, .ifCond .eq 40, 3)) rfl
  have k165 : decode b_Mo_findPlaces 165 = .ok (.aload_n 0, 1) := pl_dc dd_Mo_findPlaces 99 (q := (165, .aload_n 0, 1)) rfl
  have k166 : decode b_Mo_findPlaces 166 = .ok (.getfield 30, 3) := pl_dc dd_Mo_findPlaces 100 (q := (166, .getfield 30, 3)) rfl
  have k169 : decode b_Mo_findPlaces 169 = .ok (.iload_n 2, 1) := pl_dc dd_Mo_findPlaces 101 (q := (169, .iload_n 2, 1)) rfl
  have k170 : decode b_Mo_findPlaces 170 = .ok (.iaload, 1) := pl_dc dd_Mo_findPlaces 102 (q := (170, .iaload, 1)) rfl
  have k171 : decode b_Mo_findPlaces 171 = .ok (.iconst 3, 1) := pl_dc dd_Mo_findPlaces 103 (q := (171, .iconst 3, 1)) rfl
  have k172 : decode b_Mo_findPlaces 172 = .ok (.if_icmp .ne 30, 3) := pl_dc dd_Mo_findPlaces 104 (q := (172, .if_icmp .ne 30, 3)) rfl
  have k175 : decode b_Mo_findPlaces 175 = .ok (.iload_n 3, 1) := pl_dc dd_Mo_findPlaces 105 (q := (175, .iload_n 3, 1)) rfl
  have k176 : decode b_Mo_findPlaces 176 = .ok (.aload_n 0, 1) := pl_dc dd_Mo_findPlaces 106 (q := (176, .aload_n 0, 1)) rfl
  have k177 : decode b_Mo_findPlaces 177 = .ok (.getfield 66, 3) := pl_dc dd_Mo_findPlaces 107 (q := (177, .getfield 66, 3)) rfl
  have k180 : decode b_Mo_findPlaces 180 = .ok (.bipush 40, 2) := pl_dc dd_Mo_findPlaces 108 (q := (180, .bipush 40, 2)) rfl
  have k182 : decode b_Mo_findPlaces 182 = .ok (.aload_n 0, 1) := pl_dc dd_Mo_findPlaces 109 (q := (182, .aload_n 0, 1)) rfl
  have k183 : decode b_Mo_findPlaces 183 = .ok (.getfield 13, 3) := pl_dc dd_Mo_findPlaces 110 (q := (183, .getfield 13, 3)) rfl
  have k186 : decode b_Mo_findPlaces 186 = .ok (.iload_n 2, 1) := pl_dc dd_Mo_findPlaces 111 (q := (186, .iload_n 2, 1)) rfl
  have k187 : decode b_Mo_findPlaces 187 = .ok (.iaload, 1) := pl_dc dd_Mo_findPlaces 112 (q := (187, .iaload, 1)) rfl
  have k188 : decode b_Mo_findPlaces 188 = .ok (.imul, 1) := pl_dc dd_Mo_findPlaces 113 (q := (188, .imul, 1)) rfl
  have k189 : decode b_Mo_findPlaces 189 = .ok (.aload_n 0, 1) := pl_dc dd_Mo_findPlaces 114 (q := (189, .aload_n 0, 1)) rfl
  have k190 : decode b_Mo_findPlaces 190 = .ok (.getfield 36, 3) := pl_dc dd_Mo_findPlaces 115 (q := (190, .getfield 36, 3)) rfl
  have k193 : decode b_Mo_findPlaces 193 = .ok (.iload 5, 2) := pl_dc dd_Mo_findPlaces 116 (q := (193, .iload 5, 2)) rfl
  have k195 : decode b_Mo_findPlaces 195 = .ok (.iaload, 1) := pl_dc dd_Mo_findPlaces 117 (q := (195, .iaload, 1)) rfl
  have k196 : decode b_Mo_findPlaces 196 = .ok (.iadd, 1) := pl_dc dd_Mo_findPlaces 118 (q := (196, .iadd, 1)) rfl
  have k197 : decode b_Mo_findPlaces 197 = .ok (.iaload, 1) := pl_dc dd_Mo_findPlaces 119 (q := (197, .iaload, 1)) rfl
  have k198 : decode b_Mo_findPlaces 198 = .ok (.iadd, 1) := pl_dc dd_Mo_findPlaces 120 (q := (198, .iadd, 1)) rfl
  have k199 : decode b_Mo_findPlaces 199 = .ok (.goto 4, 3) := pl_dc dd_Mo_findPlaces 121 (q := (199, .goto 4, 3)) rfl
  have k202 : decode b_Mo_findPlaces 202 = .ok (.iload_n 3, 1) := pl_dc dd_Mo_findPlaces 122 (q := (202, .iload_n 3, 1)) rfl
  have k203 : decode b_Mo_findPlaces 203 = .ok (.istore_n 3, 1) := pl_dc dd_Mo_findPlaces 123 (q := (203, .istore_n 3, 1)) rfl
  have k204 : decode b_Mo_findPlaces 204 = .ok (.iinc 5 1, 3) := pl_dc dd_Mo_findPlaces 124 (q := (204, .iinc 5 1, 3)) rfl
  have k207 : decode b_Mo_findPlaces 207 = .ok (.goto (-115), 3) := pl_dc dd_Mo_findPlaces 125 (q := (207, .goto (-115), 3)) rfl
  have k210 : decode b_Mo_findPlaces 210 = .ok (.aload_n 0, 1) := pl_dc dd_Mo_findPlaces 126 (q := (210, .aload_n 0, 1)) rfl
  have k211 : decode b_Mo_findPlaces 211 = .ok (.getfield 57, 3) := pl_dc dd_Mo_findPlaces 127 (q := (211, .getfield 57, 3)) rfl
  have k214 : decode b_Mo_findPlaces 214 = .ok (.iload_n 1, 1) := pl_dc dd_Mo_findPlaces 128 (q := (214, .iload_n 1, 1)) rfl
  have k215 : decode b_Mo_findPlaces 215 = .ok (.iload_n 3, 1) := pl_dc dd_Mo_findPlaces 129 (q := (215, .iload_n 3, 1)) rfl
  have k216 : decode b_Mo_findPlaces 216 = .ok (.aload_n 0, 1) := pl_dc dd_Mo_findPlaces 130 (q := (216, .aload_n 0, 1)) rfl
  have k217 : decode b_Mo_findPlaces 217 = .ok (.getfield 23, 3) := pl_dc dd_Mo_findPlaces 131 (q := (217, .getfield 23, 3)) rfl
  have k220 : decode b_Mo_findPlaces 220 = .ok (.bipush 12, 2) := pl_dc dd_Mo_findPlaces 132 (q := (220, .bipush 12, 2)) rfl
  have k222 : decode b_Mo_findPlaces 222 = .ok (.iload_n 1, 1) := pl_dc dd_Mo_findPlaces 133 (q := (222, .iload_n 1, 1)) rfl
  have k223 : decode b_Mo_findPlaces 223 = .ok (.imul, 1) := pl_dc dd_Mo_findPlaces 134 (q := (223, .imul, 1)) rfl
  have k224 : decode b_Mo_findPlaces 224 = .ok (.bipush 10, 2) := pl_dc dd_Mo_findPlaces 135 (q := (224, .bipush 10, 2)) rfl
  have k226 : decode b_Mo_findPlaces 226 = .ok (.iadd, 1) := pl_dc dd_Mo_findPlaces 136 (q := (226, .iadd, 1)) rfl
  have k227 : decode b_Mo_findPlaces 227 = .ok (.iaload, 1) := pl_dc dd_Mo_findPlaces 137 (q := (227, .iaload, 1)) rfl
  have k228 : decode b_Mo_findPlaces 228 = .ok (.iadd, 1) := pl_dc dd_Mo_findPlaces 138 (q := (228, .iadd, 1)) rfl
  have k229 : decode b_Mo_findPlaces 229 = .ok (.iastore, 1) := pl_dc dd_Mo_findPlaces 139 (q := (229, .iastore, 1)) rfl
  have k230 : decode b_Mo_findPlaces 230 = .ok (.aload_n 0, 1) := pl_dc dd_Mo_findPlaces 140 (q := (230, .aload_n 0, 1)) rfl
  have k231 : decode b_Mo_findPlaces 231 = .ok (.getfield 60, 3) := pl_dc dd_Mo_findPlaces 141 (q := (231, .getfield 60, 3)) rfl
  have k234 : decode b_Mo_findPlaces 234 = .ok (.iload_n 1, 1) := pl_dc dd_Mo_findPlaces 142 (q := (234, .iload_n 1, 1)) rfl
  have k235 : decode b_Mo_findPlaces 235 = .ok (.iload 4, 2) := pl_dc dd_Mo_findPlaces 143 (q := (235, .iload 4, 2)) rfl
  have k237 : decode b_Mo_findPlaces 237 = .ok (.aload_n 0, 1) := pl_dc dd_Mo_findPlaces 144 (q := (237, .aload_n 0, 1)) rfl
  have k238 : decode b_Mo_findPlaces 238 = .ok (.getfield 23, 3) := pl_dc dd_Mo_findPlaces 145 (q := (238, .getfield 23, 3)) rfl
  have k241 : decode b_Mo_findPlaces 241 = .ok (.bipush 12, 2) := pl_dc dd_Mo_findPlaces 146 (q := (241, .bipush 12, 2)) rfl
  have k243 : decode b_Mo_findPlaces 243 = .ok (.iload_n 1, 1) := pl_dc dd_Mo_findPlaces 147 (q := (243, .iload_n 1, 1)) rfl
  have k244 : decode b_Mo_findPlaces 244 = .ok (.imul, 1) := pl_dc dd_Mo_findPlaces 148 (q := (244, .imul, 1)) rfl
  have k245 : decode b_Mo_findPlaces 245 = .ok (.bipush 11, 2) := pl_dc dd_Mo_findPlaces 149 (q := (245, .bipush 11, 2)) rfl
  have k247 : decode b_Mo_findPlaces 247 = .ok (.iadd, 1) := pl_dc dd_Mo_findPlaces 150 (q := (247, .iadd, 1)) rfl
  have k248 : decode b_Mo_findPlaces 248 = .ok (.iaload, 1) := pl_dc dd_Mo_findPlaces 151 (q := (248, .iaload, 1)) rfl
  have k249 : decode b_Mo_findPlaces 249 = .ok (.iadd, 1) := pl_dc dd_Mo_findPlaces 152 (q := (249, .iadd, 1)) rfl
  have k250 : decode b_Mo_findPlaces 250 = .ok (.iastore, 1) := pl_dc dd_Mo_findPlaces 153 (q := (250, .iastore, 1)) rfl
  have k251 : decode b_Mo_findPlaces 251 = .ok (.iinc 1 1, 3) := pl_dc dd_Mo_findPlaces 154 (q := (251, .iinc 1 1, 3)) rfl
  have k254 : decode b_Mo_findPlaces 254 = .ok (.goto (-252), 3) := pl_dc dd_Mo_findPlaces 155 (q := (254, .goto (-252), 3)) rfl
  have k257 : decode b_Mo_findPlaces 257 = .ok (.return_, 1) := pl_dc dd_Mo_findPlaces 156 (q := (257, .return_, 1)) rfl
  exact (d_seq (p1 := 257) (d_seq (p1 := 2) (d_istore_n (p1 := 1) F (c_iconst F k0 (by decide)) k1 rfl (hm 1 (by decide))) (d_while (p1 := 10) (p2 := 254) F (b_cmp_t (p1 := 3) (p2 := 7) (pj := 257) F (c_iload_n F k2 rfl) (c_geti (p1 := 4) F 3 1 hg_3_1 (c_aload_n F k3 rfl) k4 lf_PageLayouterModel_7) k7 (by decide)) (d_seq (p1 := 251) (d_seq (p1 := 17) (d_istore_n (p1 := 16) F (c_iald (p1 := 14) (p2 := 15) F (c_getr (p1 := 11) F 3 3 hg_3_3 (c_aload_n F k10 rfl) k11 lf_PageLayouterModel_13) (c_iload_n F k14 rfl) k15) k16 rfl (hm 2 (by decide))) (d_seq (p1 := 23) (d_istore_n (p1 := 22) F (c_callV (p1 := 19) F (a_i_ok (p1 := 18) (a_r_ok (p1 := 17) a_nil_ok (c_aload_n F k17 rfl)) (c_iload_n F k18 rfl)) (z_Mo_margin _) y_Mo_margin_ok lm_PageLayouterModel_108 k19 r_Mo_margin (by decide) (by decide)) k22 rfl (hm 3 (by decide))) (d_seq (p1 := 30) (d_istore (p1 := 28) F (c_callV (p1 := 25) F (a_i_ok (p1 := 24) (a_r_ok (p1 := 23) a_nil_ok (c_aload_n F k23 rfl)) (c_iload_n F k24 rfl)) (z_Mo_margin _) y_Mo_margin_ok lm_PageLayouterModel_108 k25 r_Mo_margin (by decide) (by decide)) k28 (hm 4 (by decide))) (d_seq (p1 := 210) (d_if (p1 := 34) (p2 := 210) (b_zero_t (p1 := 31) (pj := 210) F (c_iload_n F k30 rfl) k31 (by decide)) (d_seq (p1 := 49) (d_istore_n (p1 := 48) F (c_bin 1 (p1 := 42) (p2 := 47) (c_bin 1 (p1 := 35) (p2 := 41) (c_iload_n F k34 rfl) (c_iald (p1 := 39) (p2 := 40) F (c_getr (p1 := 36) F 3 17 hg_3_17 (c_aload_n F k35 rfl) k36 lf_PageLayouterModel_57) (c_iload_n F k39 rfl) k40) pl_c1 (j_iadd F k41)) (c_callV (p1 := 44) F (a_i_ok (p1 := 43) (a_r_ok (p1 := 42) a_nil_ok (c_aload_n F k42 rfl)) (c_iload_n F k43 rfl)) (z_Mo_padding _) y_Mo_padding_ok lm_PageLayouterModel_112 k44 r_Mo_padding (by decide) (by decide)) pl_c1 (j_iadd F k47)) k48 rfl (hm 3 (by decide))) (d_seq (p1 := 87) (d_istore (p1 := 85) F (c_bin 1 (p1 := 61) (p2 := 84) (c_bin 1 (p1 := 55) (p2 := 60) (c_iald (p1 := 53) (p2 := 54) F (c_getr (p1 := 50) F 3 18 hg_3_18 (c_aload_n F k49 rfl) k50 lf_PageLayouterModel_60) (c_iload_n F k53 rfl) k54) (c_callV (p1 := 57) F (a_i_ok (p1 := 56) (a_r_ok (p1 := 55) a_nil_ok (c_aload_n F k55 rfl)) (c_iload_n F k56 rfl)) (z_Mo_padding _) y_Mo_padding_ok lm_PageLayouterModel_112 k57 r_Mo_padding (by decide) (by decide)) pl_c1 (j_iadd F k60)) (c_if (p1 := 70) (p2 := 75) (p3 := 84) F (b_zero_t (p1 := 67) (pj := 78) F (c_zald (p1 := 65) (p2 := 66) F (c_getr (p1 := 62) F 3 7 hg_3_7 (c_aload_n F k61 rfl) k62 lf_PageLayouterModel_26) (c_iload_n F k65 rfl) k66) k67 (by decide)) (c_callV (p1 := 72) F (a_i_ok (p1 := 71) (a_r_ok (p1 := 70) a_nil_ok (c_aload_n F k70 rfl)) (c_iload_n F k71 rfl)) (z_Mo_margin _) y_Mo_margin_ok lm_PageLayouterModel_108 k72 r_Mo_margin (by decide) (by decide)) k75 (by decide) (c_iald (p1 := 82) (p2 := 83) F (c_getr (p1 := 79) F 3 16 hg_3_16 (c_aload_n F k78 rfl) k79 lf_PageLayouterModel_54) (c_iload_n F k82 rfl) k83)) pl_c1 (j_iadd F k84)) k85 (hm 4 (by decide))) (d_seq (p1 := 92) (d_istore (p1 := 90) F (c_bin 1 (p1 := 88) (p2 := 89) (c_iload_n F k87 rfl) (c_iconst F k88 (by decide)) pl_c1 (j_iadd F k89)) k90 (hm 5 (by decide))) (d_while (p1 := 98) (p2 := 207) F (b_cmp_t (p1 := 94) (p2 := 95) (pj := 210) F (c_iload F k92) (c_iload_n F k94 rfl) k95 (by decide)) (d_seq (p1 := 204) (d_seq (p1 := 124) (d_istore (p1 := 122) F (c_if (p1 := 117) (p2 := 118) (p3 := 122) F (b_and_t (p1 := 107) (b_not_t (b_zero_f (p1 := 104) (pj := 121) F (c_zald (p1 := 102) (p2 := 103) F (c_getr (p1 := 99) F 3 7 hg_3_7 (c_aload_n F k98 rfl) k99 lf_PageLayouterModel_26) (c_iload_n F k102 rfl) k103) k104 (by decide))) (b_zero_t (p1 := 114) (pj := 121) F (c_callV (p1 := 111) F (a_i_ok (p1 := 110) (a_i_ok (p1 := 108) (a_r_ok (p1 := 107) a_nil_ok (c_aload_n F k107 rfl)) (c_iload F k108)) (c_iload_n F k110 rfl)) (z_Mo_flows _) y_Mo_flows_ok lm_PageLayouterModel_105 k111 r_Mo_flows (by decide) (by decide)) k114 (by decide))) (c_iconst F k117 (by decide)) k118 (by decide) (c_iconst F k121 (by decide))) k122 (hm 6 (by decide))) (d_seq (p1 := 160) (d_istore_n (p1 := 159) F (c_if (p1 := 139) (p2 := 155) (p3 := 159) F (b_and_t (p1 := 129) (b_zero_t (p1 := 126) (pj := 158) F (c_iload F k124) k126 (by decide)) (b_cmp_t (p1 := 135) (p2 := 136) (pj := 158) F (c_iald (p1 := 133) (p2 := 134) F (c_getr (p1 := 130) F 3 8 hg_3_8 (c_aload_n F k129 rfl) k130 lf_PageLayouterModel_30) (c_iload_n F k133 rfl) k134) (c_iconst F k135 (by decide)) k136 (by decide))) (c_bin 1 (p1 := 148) (p2 := 154) (c_bin 1 (p1 := 140) (p2 := 147) (c_iload_n F k139 rfl) (c_iald (p1 := 144) (p2 := 146) F (c_getr (p1 := 141) F 3 13 hg_3_13 (c_aload_n F k140 rfl) k141 lf_PageLayouterModel_45) (c_iload F k144) k146) pl_c1 (j_iadd F k147)) (c_callV (p1 := 151) F (a_i_ok (p1 := 149) (a_r_ok (p1 := 148) a_nil_ok (c_aload_n F k148 rfl)) (c_iload F k149)) (z_Mo_around _) y_Mo_around_ok lm_PageLayouterModel_124 k151 r_Mo_around (by decide) (by decide)) pl_c1 (j_iadd F k154)) k155 (by decide) (c_iload_n F k158 rfl)) k159 rfl (hm 3 (by decide))) (d_istore_n (p1 := 203) F (c_if (p1 := 175) (p2 := 199) (p3 := 203) F (b_and_t (p1 := 165) (b_zero_t (p1 := 162) (pj := 202) F (c_iload F k160) k162 (by decide)) (b_cmp_t (p1 := 171) (p2 := 172) (pj := 202) F (c_iald (p1 := 169) (p2 := 170) F (c_getr (p1 := 166) F 3 8 hg_3_8 (c_aload_n F k165 rfl) k166 lf_PageLayouterModel_30) (c_iload_n F k169 rfl) k170) (c_iconst F k171 (by decide)) k172 (by decide))) (c_bin 1 (p1 := 176) (p2 := 198) (c_iload_n F k175 rfl) (c_iald (p1 := 180) (p2 := 197) F (c_getr (p1 := 177) F 3 20 hg_3_20 (c_aload_n F k176 rfl) k177 lf_PageLayouterModel_66) (c_bin 1 (p1 := 189) (p2 := 196) (c_bin 1 (p1 := 182) (p2 := 188) (c_bipush F k180 (by decide)) (c_iald (p1 := 186) (p2 := 187) F (c_getr (p1 := 183) F 3 3 hg_3_3 (c_aload_n F k182 rfl) k183 lf_PageLayouterModel_13) (c_iload_n F k186 rfl) k187) pl_c1 (j_imul F k188)) (c_iald (p1 := 193) (p2 := 195) F (c_getr (p1 := 190) F 3 10 hg_3_10 (c_aload_n F k189 rfl) k190 lf_PageLayouterModel_36) (c_iload F k193) k195) pl_c1 (j_iadd F k196)) k197) pl_c1 (j_iadd F k198)) k199 (by decide) (c_iload_n F k202 rfl)) k203 rfl (hm 3 (by decide))))) (d_iinc F k204 (by decide) (hm 5 (by decide)))) k207 (by decide)))))) (d_seq (p1 := 230) (d_iast (p1 := 214) (p2 := 215) (p3 := 229) F (c_getr (p1 := 211) F 3 17 hg_3_17 (c_aload_n F k210 rfl) k211 lf_PageLayouterModel_57) (c_iload_n F k214 rfl) (c_bin 1 (p1 := 216) (p2 := 228) (c_iload_n F k215 rfl) (c_iald (p1 := 220) (p2 := 227) F (c_getr (p1 := 217) F 3 6 hg_3_6 (c_aload_n F k216 rfl) k217 lf_PageLayouterModel_23) (c_bin 1 (p1 := 224) (p2 := 226) (c_bin 1 (p1 := 222) (p2 := 223) (c_bipush F k220 (by decide)) (c_iload_n F k222 rfl) pl_c1 (j_imul F k223)) (c_bipush F k224 (by decide)) pl_c1 (j_iadd F k226)) k227) pl_c1 (j_iadd F k228)) k229) (d_iast (p1 := 234) (p2 := 235) (p3 := 250) F (c_getr (p1 := 231) F 3 18 hg_3_18 (c_aload_n F k230 rfl) k231 lf_PageLayouterModel_60) (c_iload_n F k234 rfl) (c_bin 1 (p1 := 237) (p2 := 249) (c_iload F k235) (c_iald (p1 := 241) (p2 := 248) F (c_getr (p1 := 238) F 3 6 hg_3_6 (c_aload_n F k237 rfl) k238 lf_PageLayouterModel_23) (c_bin 1 (p1 := 245) (p2 := 247) (c_bin 1 (p1 := 243) (p2 := 244) (c_bipush F k241 (by decide)) (c_iload_n F k243 rfl) pl_c1 (j_imul F k244)) (c_bipush F k245 (by decide)) pl_c1 (j_iadd F k247)) k248) pl_c1 (j_iadd F k249)) k250)))))) (d_iinc F k251 (by decide) (hm 1 (by decide)))) k254 (by decide))) (d_retv F Fm.2.1 Fm.2.2.1 k257)))
def y_Mo_layout : MethodName := ⟨"PageLayouterModel", "layout", "(II)I"⟩
abbrev b_Mo_layout : ByteArray := prog_10_method_42_code
abbrev n_Mo_layout : Nat := 3
theorem y_Mo_layout_ok : pl_MV 3 y_Mo_layout b_Mo_layout n_Mo_layout (Option.some Jvm.ClassFile.FieldType.int) 2 := ⟨pl_mem 869 (by decide +kernel) (by decide +kernel), pl_mem 867 (by decide +kernel) (by decide +kernel), pl_mem 868 (by decide +kernel) (by decide +kernel), pl_mem 47 (by decide +kernel) (by decide +kernel), ⟨by decide, by decide, by decide +kernel⟩, _, rfl, rfl⟩
def D_Mo_layout : List (Nat × Instr × Nat) := [(0, .aload_n 0, 1), (1, .iload_n 1, 1), (2, .ifCond .lt 21, 3), (5, .iload_n 1, 1), (6, .sipush 5000, 3), (9, .if_icmp .gt 14, 3), (12, .iload_n 2, 1), (13, .ifCond .lt 10, 3), (16, .iload_n 2, 1), (17, .sipush 5000, 3), (20, .if_icmp .le 7, 3), (23, .iconst 1, 1), (24, .goto 4, 3), (27, .iconst 0, 1), (28, .putfield 88, 3), (31, .aload_n 0, 1), (32, .getfield 88, 3), (35, .ifCond .le 5, 3), (38, .iconst 0, 1), (39, .ireturn, 1), (40, .aload_n 0, 1), (41, .invokevirtual 139, 3), (44, .aload_n 0, 1), (45, .iload_n 1, 1), (46, .invokevirtual 187, 3), (49, .aload_n 0, 1), (50, .iload_n 2, 1), (51, .invokevirtual 190, 3), (54, .aload_n 0, 1), (55, .invokevirtual 193, 3), (58, .aload_n 0, 1), (59, .invokevirtual 196, 3), (62, .aload_n 0, 1), (63, .iconst 1, 1), (64, .putfield 91, 3), (67, .aload_n 0, 1), (68, .getfield 48, 3), (71, .iconst 0, 1), (72, .iaload, 1), (73, .aload_n 0, 1), (74, .iconst 0, 1), (75, .invokevirtual 124, 3), (78, .iadd, 1), (79, .ireturn, 1)]
theorem dd_Mo_layout : (D_Mo_layout.all fun q => decide (decode b_Mo_layout q.1 = .ok q.2)) = true := by decide +kernel
def t_Mo_layout : pl_TR := fun P _ _ => s_seq (s_puti 3 0 (e_locr 0) (e_if (b_or (b_or (b_or (b_zero .lt (e_loc 1)) (b_cmp .gt (e_loc 1) (e_int 5000))) (b_zero .lt (e_loc 2))) (b_cmp .gt (e_loc 2) (e_int 5000))) (e_int 1) (e_int 0))) (s_seq (s_if (b_zero .gt (e_geti 3 0 (e_locr 0))) (s_reti P (e_int 0))) (s_seq (s_callV 3 t_Mo_findCores n_Mo_findCores (a_r a_nil (e_locr 0))) (s_seq (s_callV 3 t_Mo_findWidths n_Mo_findWidths (a_i (a_r a_nil (e_locr 0)) (e_loc 1))) (s_seq (s_callV 3 t_Mo_findFixed n_Mo_findFixed (a_i (a_r a_nil (e_locr 0)) (e_loc 2))) (s_seq (s_callV 3 t_Mo_findHeights n_Mo_findHeights (a_r a_nil (e_locr 0))) (s_seq (s_callV 3 t_Mo_findPlaces n_Mo_findPlaces (a_r a_nil (e_locr 0))) (s_seq (s_putz 3 2 (e_locr 0) (e_int 1)) (s_reti P (e_bin (fun x y : Int32 => x + y) (e_ald 1 (e_getr 3 14 (e_locr 0)) (e_int 0)) (e_callV Value.int 3 t_Mo_around n_Mo_around (a_i (a_r a_nil (e_locr 0)) (e_int 0))))))))))))
theorem z_Mo_layout (l : Launch) : pl_Ctr l y_Mo_layout b_Mo_layout n_Mo_layout (Option.some Jvm.ClassFile.FieldType.int) 6 143 0 0 false t_Mo_layout := pl_ctr_of (pe := 0) (by decide) (fun X Y P F Fm => by
  have F : pl_Fx X Y "PageLayouterModel" b_Mo_layout := F
  have r_Mo_around : 1 + 1 ≤ (pl_xR X).frames ∧ 8 + (n_Mo_around + 11) + 21 ≤ (pl_xR X).locals := ⟨Nat.le_trans (by decide) Fm.2.2.2.2.2.1, Nat.le_trans (by decide) Fm.2.2.2.2.2.2.1⟩
  have r_Mo_findCores : 3 + 1 ≤ (pl_xR X).frames ∧ 8 + (n_Mo_findCores + 11) + 67 ≤ (pl_xR X).locals := ⟨Nat.le_trans (by decide) Fm.2.2.2.2.2.1, Nat.le_trans (by decide) Fm.2.2.2.2.2.2.1⟩
  have r_Mo_findFixed : 1 + 1 ≤ (pl_xR X).frames ∧ 8 + (n_Mo_findFixed + 11) + 21 ≤ (pl_xR X).locals := ⟨Nat.le_trans (by decide) Fm.2.2.2.2.2.1, Nat.le_trans (by decide) Fm.2.2.2.2.2.2.1⟩
  have r_Mo_findHeights : 3 + 1 ≤ (pl_xR X).frames ∧ 8 + (n_Mo_findHeights + 11) + 71 ≤ (pl_xR X).locals := ⟨Nat.le_trans (by decide) Fm.2.2.2.2.2.1, Nat.le_trans (by decide) Fm.2.2.2.2.2.2.1⟩
  have r_Mo_findPlaces : 2 + 1 ≤ (pl_xR X).frames ∧ 8 + (n_Mo_findPlaces + 11) + 42 ≤ (pl_xR X).locals := ⟨Nat.le_trans (by decide) Fm.2.2.2.2.2.1, Nat.le_trans (by decide) Fm.2.2.2.2.2.2.1⟩
  have r_Mo_findWidths : 5 + 1 ≤ (pl_xR X).frames ∧ 8 + (n_Mo_findWidths + 11) + 119 ≤ (pl_xR X).locals := ⟨Nat.le_trans (by decide) Fm.2.2.2.2.2.1, Nat.le_trans (by decide) Fm.2.2.2.2.2.2.1⟩
  have k0 : decode b_Mo_layout 0 = .ok (.aload_n 0, 1) := pl_dc dd_Mo_layout 0 (q := (0, .aload_n 0, 1)) rfl
  have k1 : decode b_Mo_layout 1 = .ok (.iload_n 1, 1) := pl_dc dd_Mo_layout 1 (q := (1, .iload_n 1, 1)) rfl
  have k2 : decode b_Mo_layout 2 = .ok (.ifCond .lt 21, 3) := pl_dc dd_Mo_layout 2 (q := (2, .ifCond .lt 21, 3)) rfl
  have k5 : decode b_Mo_layout 5 = .ok (.iload_n 1, 1) := pl_dc dd_Mo_layout 3 (q := (5, .iload_n 1, 1)) rfl
  have k6 : decode b_Mo_layout 6 = .ok (.sipush 5000, 3) := pl_dc dd_Mo_layout 4 (q := (6, .sipush 5000, 3)) rfl
  have k9 : decode b_Mo_layout 9 = .ok (.if_icmp .gt 14, 3) := pl_dc dd_Mo_layout 5 (q := (9, .if_icmp .gt 14, 3)) rfl
  have k12 : decode b_Mo_layout 12 = .ok (.iload_n 2, 1) := pl_dc dd_Mo_layout 6 (q := (12, .iload_n 2, 1)) rfl
  have k13 : decode b_Mo_layout 13 = .ok (.ifCond .lt 10, 3) := pl_dc dd_Mo_layout 7 (q := (13, .ifCond .lt 10, 3)) rfl
  have k16 : decode b_Mo_layout 16 = .ok (.iload_n 2, 1) := pl_dc dd_Mo_layout 8 (q := (16, .iload_n 2, 1)) rfl
  have k17 : decode b_Mo_layout 17 = .ok (.sipush 5000, 3) := pl_dc dd_Mo_layout 9 (q := (17, .sipush 5000, 3)) rfl
  have k20 : decode b_Mo_layout 20 = .ok (.if_icmp .le 7, 3) := pl_dc dd_Mo_layout 10 (q := (20, .if_icmp .le 7, 3)) rfl
  have k23 : decode b_Mo_layout 23 = .ok (.iconst 1, 1) := pl_dc dd_Mo_layout 11 (q := (23, .iconst 1, 1)) rfl
  have k24 : decode b_Mo_layout 24 = .ok (.goto 4, 3) := pl_dc dd_Mo_layout 12 (q := (24, .goto 4, 3)) rfl
  have k27 : decode b_Mo_layout 27 = .ok (.iconst 0, 1) := pl_dc dd_Mo_layout 13 (q := (27, .iconst 0, 1)) rfl
  have k28 : decode b_Mo_layout 28 = .ok (.putfield 88, 3) := pl_dc dd_Mo_layout 14 (q := (28, .putfield 88, 3)) rfl
  have k31 : decode b_Mo_layout 31 = .ok (.aload_n 0, 1) := pl_dc dd_Mo_layout 15 (q := (31, .aload_n 0, 1)) rfl
  have k32 : decode b_Mo_layout 32 = .ok (.getfield 88, 3) := pl_dc dd_Mo_layout 16 (q := (32, .getfield 88, 3)) rfl
  have k35 : decode b_Mo_layout 35 = .ok (.ifCond .le 5, 3) := pl_dc dd_Mo_layout 17 (q := (35, .ifCond .le 5, 3)) rfl
  have k38 : decode b_Mo_layout 38 = .ok (.iconst 0, 1) := pl_dc dd_Mo_layout 18 (q := (38, .iconst 0, 1)) rfl
  have k39 : decode b_Mo_layout 39 = .ok (.ireturn, 1) := pl_dc dd_Mo_layout 19 (q := (39, .ireturn, 1)) rfl
  have k40 : decode b_Mo_layout 40 = .ok (.aload_n 0, 1) := pl_dc dd_Mo_layout 20 (q := (40, .aload_n 0, 1)) rfl
  have k41 : decode b_Mo_layout 41 = .ok (.invokevirtual 139, 3) := pl_dc dd_Mo_layout 21 (q := (41, .invokevirtual 139, 3)) rfl
  have k44 : decode b_Mo_layout 44 = .ok (.aload_n 0, 1) := pl_dc dd_Mo_layout 22 (q := (44, .aload_n 0, 1)) rfl
  have k45 : decode b_Mo_layout 45 = .ok (.iload_n 1, 1) := pl_dc dd_Mo_layout 23 (q := (45, .iload_n 1, 1)) rfl
  have k46 : decode b_Mo_layout 46 = .ok (.invokevirtual 187, 3) := pl_dc dd_Mo_layout 24 (q := (46, .invokevirtual 187, 3)) rfl
  have k49 : decode b_Mo_layout 49 = .ok (.aload_n 0, 1) := pl_dc dd_Mo_layout 25 (q := (49, .aload_n 0, 1)) rfl
  have k50 : decode b_Mo_layout 50 = .ok (.iload_n 2, 1) := pl_dc dd_Mo_layout 26 (q := (50, .iload_n 2, 1)) rfl
  have k51 : decode b_Mo_layout 51 = .ok (.invokevirtual 190, 3) := pl_dc dd_Mo_layout 27 (q := (51, .invokevirtual 190, 3)) rfl
  have k54 : decode b_Mo_layout 54 = .ok (.aload_n 0, 1) := pl_dc dd_Mo_layout 28 (q := (54, .aload_n 0, 1)) rfl
  have k55 : decode b_Mo_layout 55 = .ok (.invokevirtual 193, 3) := pl_dc dd_Mo_layout 29 (q := (55, .invokevirtual 193, 3)) rfl
  have k58 : decode b_Mo_layout 58 = .ok (.aload_n 0, 1) := pl_dc dd_Mo_layout 30 (q := (58, .aload_n 0, 1)) rfl
  have k59 : decode b_Mo_layout 59 = .ok (.invokevirtual 196, 3) := pl_dc dd_Mo_layout 31 (q := (59, .invokevirtual 196, 3)) rfl
  have k62 : decode b_Mo_layout 62 = .ok (.aload_n 0, 1) := pl_dc dd_Mo_layout 32 (q := (62, .aload_n 0, 1)) rfl
  have k63 : decode b_Mo_layout 63 = .ok (.iconst 1, 1) := pl_dc dd_Mo_layout 33 (q := (63, .iconst 1, 1)) rfl
  have k64 : decode b_Mo_layout 64 = .ok (.putfield 91, 3) := pl_dc dd_Mo_layout 34 (q := (64, .putfield 91, 3)) rfl
  have k67 : decode b_Mo_layout 67 = .ok (.aload_n 0, 1) := pl_dc dd_Mo_layout 35 (q := (67, .aload_n 0, 1)) rfl
  have k68 : decode b_Mo_layout 68 = .ok (.getfield 48, 3) := pl_dc dd_Mo_layout 36 (q := (68, .getfield 48, 3)) rfl
  have k71 : decode b_Mo_layout 71 = .ok (.iconst 0, 1) := pl_dc dd_Mo_layout 37 (q := (71, .iconst 0, 1)) rfl
  have k72 : decode b_Mo_layout 72 = .ok (.iaload, 1) := pl_dc dd_Mo_layout 38 (q := (72, .iaload, 1)) rfl
  have k73 : decode b_Mo_layout 73 = .ok (.aload_n 0, 1) := pl_dc dd_Mo_layout 39 (q := (73, .aload_n 0, 1)) rfl
  have k74 : decode b_Mo_layout 74 = .ok (.iconst 0, 1) := pl_dc dd_Mo_layout 40 (q := (74, .iconst 0, 1)) rfl
  have k75 : decode b_Mo_layout 75 = .ok (.invokevirtual 124, 3) := pl_dc dd_Mo_layout 41 (q := (75, .invokevirtual 124, 3)) rfl
  have k78 : decode b_Mo_layout 78 = .ok (.iadd, 1) := pl_dc dd_Mo_layout 42 (q := (78, .iadd, 1)) rfl
  have k79 : decode b_Mo_layout 79 = .ok (.ireturn, 1) := pl_dc dd_Mo_layout 43 (q := (79, .ireturn, 1)) rfl
  exact (d_seq (p1 := 31) (d_puti (p1 := 1) (p2 := 28) F 3 0 hp_3_0 (c_aload_n F k0 rfl) (c_if (p1 := 23) (p2 := 24) (p3 := 28) F (b_or_t (p1 := 16) (b_or_f (p1 := 12) (b_or_f (p1 := 5) (b_zero_f (p1 := 2) (pj := 23) F (c_iload_n F k1 rfl) k2 (by decide)) (b_cmp_f (p1 := 6) (p2 := 9) (pj := 23) F (c_iload_n F k5 rfl) (c_sipush F k6 (by decide)) k9 (by decide))) (b_zero_f (p1 := 13) (pj := 23) F (c_iload_n F k12 rfl) k13 (by decide))) (b_cmp_t (p1 := 17) (p2 := 20) (pj := 27) F (c_iload_n F k16 rfl) (c_sipush F k17 (by decide)) k20 (by decide))) (c_iconst F k23 (by decide)) k24 (by decide) (c_iconst F k27 (by decide))) k28 lf_PageLayouterModel_88) (d_seq (p1 := 40) (d_if (p1 := 38) (p2 := 40) (b_zero_t (p1 := 35) (pj := 40) F (c_geti (p1 := 32) F 3 0 hg_3_0 (c_aload_n F k31 rfl) k32 lf_PageLayouterModel_88) k35 (by decide)) (d_reti (p1 := 39) F Fm.2.1 Fm.2.2.1 (c_iconst F k38 (by decide)) k39)) (d_seq (p1 := 44) (d_callV (p1 := 41) F (a_r_ok (p1 := 40) a_nil_ok (c_aload_n F k40 rfl)) (z_Mo_findCores _) y_Mo_findCores_ok lm_PageLayouterModel_139 k41 r_Mo_findCores (by decide)) (d_seq (p1 := 49) (d_callV (p1 := 46) F (a_i_ok (p1 := 45) (a_r_ok (p1 := 44) a_nil_ok (c_aload_n F k44 rfl)) (c_iload_n F k45 rfl)) (z_Mo_findWidths _) y_Mo_findWidths_ok lm_PageLayouterModel_187 k46 r_Mo_findWidths (by decide)) (d_seq (p1 := 54) (d_callV (p1 := 51) F (a_i_ok (p1 := 50) (a_r_ok (p1 := 49) a_nil_ok (c_aload_n F k49 rfl)) (c_iload_n F k50 rfl)) (z_Mo_findFixed _) y_Mo_findFixed_ok lm_PageLayouterModel_190 k51 r_Mo_findFixed (by decide)) (d_seq (p1 := 58) (d_callV (p1 := 55) F (a_r_ok (p1 := 54) a_nil_ok (c_aload_n F k54 rfl)) (z_Mo_findHeights _) y_Mo_findHeights_ok lm_PageLayouterModel_193 k55 r_Mo_findHeights (by decide)) (d_seq (p1 := 62) (d_callV (p1 := 59) F (a_r_ok (p1 := 58) a_nil_ok (c_aload_n F k58 rfl)) (z_Mo_findPlaces _) y_Mo_findPlaces_ok lm_PageLayouterModel_196 k59 r_Mo_findPlaces (by decide)) (d_seq (p1 := 67) (d_putz (p1 := 63) (p2 := 64) F 3 2 hp_3_2 (c_aload_n F k62 rfl) (c_iconst F k63 (by decide)) k64 lf_PageLayouterModel_91) (d_reti (p1 := 79) F Fm.2.1 Fm.2.2.1 (c_bin 1 (p1 := 73) (p2 := 78) (c_iald (p1 := 71) (p2 := 72) F (c_getr (p1 := 68) F 3 14 hg_3_14 (c_aload_n F k67 rfl) k68 lf_PageLayouterModel_48) (c_iconst F k71 (by decide)) k72) (c_callV (p1 := 75) F (a_i_ok (p1 := 74) (a_r_ok (p1 := 73) a_nil_ok (c_aload_n F k73 rfl)) (c_iconst F k74 (by decide))) (z_Mo_around _) y_Mo_around_ok lm_PageLayouterModel_124 k75 r_Mo_around (by decide) (by decide)) pl_c1 (j_iadd F k78)) k79))))))))))
def y_Mo_frame : MethodName := ⟨"PageLayouterModel", "frame", "(II)I"⟩
abbrev b_Mo_frame : ByteArray := prog_10_method_43_code
abbrev n_Mo_frame : Nat := 4
theorem y_Mo_frame_ok : pl_MV 3 y_Mo_frame b_Mo_frame n_Mo_frame (Option.some Jvm.ClassFile.FieldType.int) 2 := ⟨pl_mem 944 (by decide +kernel) (by decide +kernel), pl_mem 942 (by decide +kernel) (by decide +kernel), pl_mem 943 (by decide +kernel) (by decide +kernel), pl_mem 47 (by decide +kernel) (by decide +kernel), ⟨by decide, by decide, by decide +kernel⟩, _, rfl, rfl⟩
def D_Mo_frame : List (Nat × Instr × Nat) := [(0, .aload_n 0, 1), (1, .aload_n 0, 1), (2, .iload_n 1, 1), (3, .invokevirtual 95, 3), (6, .ifCond .ne 7, 3), (9, .iconst 1, 1), (10, .goto 28, 3), (13, .iload_n 2, 1), (14, .ifCond .lt 8, 3), (17, .iload_n 2, 1), (18, .iconst 3, 1), (19, .if_icmp .le 7, 3), (22, .iconst 2, 1), (23, .goto 15, 3), (26, .aload_n 0, 1), (27, .getfield 91, 3), (30, .ifCond .eq 7, 3), (33, .iconst 0, 1), (34, .goto 4, 3), (37, .iconst 3, 1), (38, .putfield 88, 3), (41, .aload_n 0, 1), (42, .getfield 88, 3), (45, .ifCond .le 5, 3), (48, .iconst 0, 1), (49, .ireturn, 1), (50, .iconst 2, 1), (51, .aload_n 0, 1), (52, .iload_n 1, 1), (53, .invokevirtual 112, 3), (56, .imul, 1), (57, .istore_n 3, 1), (58, .iload_n 2, 1), (59, .ifCond .ne 12, 3), (62, .aload_n 0, 1), (63, .getfield 57, 3), (66, .iload_n 1, 1), (67, .iaload, 1), (68, .goto 41, 3), (71, .iload_n 2, 1), (72, .iconst 1, 1), (73, .if_icmp .ne 12, 3), (76, .aload_n 0, 1), (77, .getfield 60, 3), (80, .iload_n 1, 1), (81, .iaload, 1), (82, .goto 27, 3), (85, .iload_n 2, 1), (86, .iconst 2, 1), (87, .if_icmp .ne 14, 3), (90, .aload_n 0, 1), (91, .getfield 45, 3), (94, .iload_n 1, 1), (95, .iaload, 1), (96, .iload_n 3, 1), (97, .iadd, 1), (98, .goto 11, 3), (101, .aload_n 0, 1), (102, .getfield 48, 3), (105, .iload_n 1, 1), (106, .iaload, 1), (107, .iload_n 3, 1), (108, .iadd, 1), (109, .ireturn, 1)]
theorem dd_Mo_frame : (D_Mo_frame.all fun q => decide (decode b_Mo_frame q.1 = .ok q.2)) = true := by decide +kernel
def t_Mo_frame : pl_TR := fun P _ _ => s_seq (s_puti 3 0 (e_locr 0) (e_if (b_not (b_zero .ne (e_callV Value.int 3 t_Mo_isBox n_Mo_isBox (a_i (a_r a_nil (e_locr 0)) (e_loc 1))))) (e_int 1) (e_if (b_or (b_zero .lt (e_loc 2)) (b_cmp .gt (e_loc 2) (e_int 3))) (e_int 2) (e_if (b_zero .ne (e_geti 3 2 (e_locr 0))) (e_int 0) (e_int 3))))) (s_seq (s_if (b_zero .gt (e_geti 3 0 (e_locr 0))) (s_reti P (e_int 0))) (s_seq (s_seti 3 (e_bin (fun x y : Int32 => x * y) (e_int 2) (e_callV Value.int 3 t_Mo_padding n_Mo_padding (a_i (a_r a_nil (e_locr 0)) (e_loc 1))))) (s_reti P (e_if (b_zero .eq (e_loc 2)) (e_ald 1 (e_getr 3 17 (e_locr 0)) (e_loc 1)) (e_if (b_cmp .eq (e_loc 2) (e_int 1)) (e_ald 1 (e_getr 3 18 (e_locr 0)) (e_loc 1)) (e_if (b_cmp .eq (e_loc 2) (e_int 2)) (e_bin (fun x y : Int32 => x + y) (e_ald 1 (e_getr 3 13 (e_locr 0)) (e_loc 1)) (e_loc 3)) (e_bin (fun x y : Int32 => x + y) (e_ald 1 (e_getr 3 14 (e_locr 0)) (e_loc 1)) (e_loc 3))))))))
theorem z_Mo_frame (l : Launch) : pl_Ctr l y_Mo_frame b_Mo_frame n_Mo_frame (Option.some Jvm.ClassFile.FieldType.int) 1 21 0 0 false t_Mo_frame := pl_ctr_of (pe := 0) (by decide) (fun X Y P F Fm => by
  have F : pl_Fx X Y "PageLayouterModel" b_Mo_frame := F
  have r_Mo_isBox : 0 + 1 ≤ (pl_xR X).frames ∧ 8 + (n_Mo_isBox + 11) + 0 ≤ (pl_xR X).locals := ⟨Nat.le_trans (by decide) Fm.2.2.2.2.2.1, Nat.le_trans (by decide) Fm.2.2.2.2.2.2.1⟩
  have r_Mo_padding : 0 + 1 ≤ (pl_xR X).frames ∧ 8 + (n_Mo_padding + 11) + 0 ≤ (pl_xR X).locals := ⟨Nat.le_trans (by decide) Fm.2.2.2.2.2.1, Nat.le_trans (by decide) Fm.2.2.2.2.2.2.1⟩
  have hm : ∀ i, i < 4 → i < (pl_xc X).maxLocals := fun i h => by rw [Fm.2.2.2.1]; exact h
  have k0 : decode b_Mo_frame 0 = .ok (.aload_n 0, 1) := pl_dc dd_Mo_frame 0 (q := (0, .aload_n 0, 1)) rfl
  have k1 : decode b_Mo_frame 1 = .ok (.aload_n 0, 1) := pl_dc dd_Mo_frame 1 (q := (1, .aload_n 0, 1)) rfl
  have k2 : decode b_Mo_frame 2 = .ok (.iload_n 1, 1) := pl_dc dd_Mo_frame 2 (q := (2, .iload_n 1, 1)) rfl
  have k3 : decode b_Mo_frame 3 = .ok (.invokevirtual 95, 3) := pl_dc dd_Mo_frame 3 (q := (3, .invokevirtual 95, 3)) rfl
  have k6 : decode b_Mo_frame 6 = .ok (.ifCond .ne 7, 3) := pl_dc dd_Mo_frame 4 (q := (6, .ifCond .ne 7, 3)) rfl
  have k9 : decode b_Mo_frame 9 = .ok (.iconst 1, 1) := pl_dc dd_Mo_frame 5 (q := (9, .iconst 1, 1)) rfl
  have k10 : decode b_Mo_frame 10 = .ok (.goto 28, 3) := pl_dc dd_Mo_frame 6 (q := (10, .goto 28, 3)) rfl
  have k13 : decode b_Mo_frame 13 = .ok (.iload_n 2, 1) := pl_dc dd_Mo_frame 7 (q := (13, .iload_n 2, 1)) rfl
  have k14 : decode b_Mo_frame 14 = .ok (.ifCond .lt 8, 3) := pl_dc dd_Mo_frame 8 (q := (14, .ifCond .lt 8, 3)) rfl
  have k17 : decode b_Mo_frame 17 = .ok (.iload_n 2, 1) := pl_dc dd_Mo_frame 9 (q := (17, .iload_n 2, 1)) rfl
  have k18 : decode b_Mo_frame 18 = .ok (.iconst 3, 1) := pl_dc dd_Mo_frame 10 (q := (18, .iconst 3, 1)) rfl
  have k19 : decode b_Mo_frame 19 = .ok (.if_icmp .le 7, 3) := pl_dc dd_Mo_frame 11 (q := (19, .if_icmp .le 7, 3)) rfl
  have k22 : decode b_Mo_frame 22 = .ok (.iconst 2, 1) := pl_dc dd_Mo_frame 12 (q := (22, .iconst 2, 1)) rfl
  have k23 : decode b_Mo_frame 23 = .ok (.goto 15, 3) := pl_dc dd_Mo_frame 13 (q := (23, .goto 15, 3)) rfl
  have k26 : decode b_Mo_frame 26 = .ok (.aload_n 0, 1) := pl_dc dd_Mo_frame 14 (q := (26, .aload_n 0, 1)) rfl
  have k27 : decode b_Mo_frame 27 = .ok (.getfield 91, 3) := pl_dc dd_Mo_frame 15 (q := (27, .getfield 91, 3)) rfl
  have k30 : decode b_Mo_frame 30 = .ok (.ifCond .eq 7, 3) := pl_dc dd_Mo_frame 16 (q := (30, .ifCond .eq 7, 3)) rfl
  have k33 : decode b_Mo_frame 33 = .ok (.iconst 0, 1) := pl_dc dd_Mo_frame 17 (q := (33, .iconst 0, 1)) rfl
  have k34 : decode b_Mo_frame 34 = .ok (.goto 4, 3) := pl_dc dd_Mo_frame 18 (q := (34, .goto 4, 3)) rfl
  have k37 : decode b_Mo_frame 37 = .ok (.iconst 3, 1) := pl_dc dd_Mo_frame 19 (q := (37, .iconst 3, 1)) rfl
  have k38 : decode b_Mo_frame 38 = .ok (.putfield 88, 3) := pl_dc dd_Mo_frame 20 (q := (38, .putfield 88, 3)) rfl
  have k41 : decode b_Mo_frame 41 = .ok (.aload_n 0, 1) := pl_dc dd_Mo_frame 21 (q := (41, .aload_n 0, 1)) rfl
  have k42 : decode b_Mo_frame 42 = .ok (.getfield 88, 3) := pl_dc dd_Mo_frame 22 (q := (42, .getfield 88, 3)) rfl
  have k45 : decode b_Mo_frame 45 = .ok (.ifCond .le 5, 3) := pl_dc dd_Mo_frame 23 (q := (45, .ifCond .le 5, 3)) rfl
  have k48 : decode b_Mo_frame 48 = .ok (.iconst 0, 1) := pl_dc dd_Mo_frame 24 (q := (48, .iconst 0, 1)) rfl
  have k49 : decode b_Mo_frame 49 = .ok (.ireturn, 1) := pl_dc dd_Mo_frame 25 (q := (49, .ireturn, 1)) rfl
  have k50 : decode b_Mo_frame 50 = .ok (.iconst 2, 1) := pl_dc dd_Mo_frame 26 (q := (50, .iconst 2, 1)) rfl
  have k51 : decode b_Mo_frame 51 = .ok (.aload_n 0, 1) := pl_dc dd_Mo_frame 27 (q := (51, .aload_n 0, 1)) rfl
  have k52 : decode b_Mo_frame 52 = .ok (.iload_n 1, 1) := pl_dc dd_Mo_frame 28 (q := (52, .iload_n 1, 1)) rfl
  have k53 : decode b_Mo_frame 53 = .ok (.invokevirtual 112, 3) := pl_dc dd_Mo_frame 29 (q := (53, .invokevirtual 112, 3)) rfl
  have k56 : decode b_Mo_frame 56 = .ok (.imul, 1) := pl_dc dd_Mo_frame 30 (q := (56, .imul, 1)) rfl
  have k57 : decode b_Mo_frame 57 = .ok (.istore_n 3, 1) := pl_dc dd_Mo_frame 31 (q := (57, .istore_n 3, 1)) rfl
  have k58 : decode b_Mo_frame 58 = .ok (.iload_n 2, 1) := pl_dc dd_Mo_frame 32 (q := (58, .iload_n 2, 1)) rfl
  have k59 : decode b_Mo_frame 59 = .ok (.ifCond .ne 12, 3) := pl_dc dd_Mo_frame 33 (q := (59, .ifCond .ne 12, 3)) rfl
  have k62 : decode b_Mo_frame 62 = .ok (.aload_n 0, 1) := pl_dc dd_Mo_frame 34 (q := (62, .aload_n 0, 1)) rfl
  have k63 : decode b_Mo_frame 63 = .ok (.getfield 57, 3) := pl_dc dd_Mo_frame 35 (q := (63, .getfield 57, 3)) rfl
  have k66 : decode b_Mo_frame 66 = .ok (.iload_n 1, 1) := pl_dc dd_Mo_frame 36 (q := (66, .iload_n 1, 1)) rfl
  have k67 : decode b_Mo_frame 67 = .ok (.iaload, 1) := pl_dc dd_Mo_frame 37 (q := (67, .iaload, 1)) rfl
  have k68 : decode b_Mo_frame 68 = .ok (.goto 41, 3) := pl_dc dd_Mo_frame 38 (q := (68, .goto 41, 3)) rfl
  have k71 : decode b_Mo_frame 71 = .ok (.iload_n 2, 1) := pl_dc dd_Mo_frame 39 (q := (71, .iload_n 2, 1)) rfl
  have k72 : decode b_Mo_frame 72 = .ok (.iconst 1, 1) := pl_dc dd_Mo_frame 40 (q := (72, .iconst 1, 1)) rfl
  have k73 : decode b_Mo_frame 73 = .ok (.if_icmp .ne 12, 3) := pl_dc dd_Mo_frame 41 (q := (73, .if_icmp .ne 12, 3)) rfl
  have k76 : decode b_Mo_frame 76 = .ok (.aload_n 0, 1) := pl_dc dd_Mo_frame 42 (q := (76, .aload_n 0, 1)) rfl
  have k77 : decode b_Mo_frame 77 = .ok (.getfield 60, 3) := pl_dc dd_Mo_frame 43 (q := (77, .getfield 60, 3)) rfl
  have k80 : decode b_Mo_frame 80 = .ok (.iload_n 1, 1) := pl_dc dd_Mo_frame 44 (q := (80, .iload_n 1, 1)) rfl
  have k81 : decode b_Mo_frame 81 = .ok (.iaload, 1) := pl_dc dd_Mo_frame 45 (q := (81, .iaload, 1)) rfl
  have k82 : decode b_Mo_frame 82 = .ok (.goto 27, 3) := pl_dc dd_Mo_frame 46 (q := (82, .goto 27, 3)) rfl
  have k85 : decode b_Mo_frame 85 = .ok (.iload_n 2, 1) := pl_dc dd_Mo_frame 47 (q := (85, .iload_n 2, 1)) rfl
  have k86 : decode b_Mo_frame 86 = .ok (.iconst 2, 1) := pl_dc dd_Mo_frame 48 (q := (86, .iconst 2, 1)) rfl
  have k87 : decode b_Mo_frame 87 = .ok (.if_icmp .ne 14, 3) := pl_dc dd_Mo_frame 49 (q := (87, .if_icmp .ne 14, 3)) rfl
  have k90 : decode b_Mo_frame 90 = .ok (.aload_n 0, 1) := pl_dc dd_Mo_frame 50 (q := (90, .aload_n 0, 1)) rfl
  have k91 : decode b_Mo_frame 91 = .ok (.getfield 45, 3) := pl_dc dd_Mo_frame 51 (q := (91, .getfield 45, 3)) rfl
  have k94 : decode b_Mo_frame 94 = .ok (.iload_n 1, 1) := pl_dc dd_Mo_frame 52 (q := (94, .iload_n 1, 1)) rfl
  have k95 : decode b_Mo_frame 95 = .ok (.iaload, 1) := pl_dc dd_Mo_frame 53 (q := (95, .iaload, 1)) rfl
  have k96 : decode b_Mo_frame 96 = .ok (.iload_n 3, 1) := pl_dc dd_Mo_frame 54 (q := (96, .iload_n 3, 1)) rfl
  have k97 : decode b_Mo_frame 97 = .ok (.iadd, 1) := pl_dc dd_Mo_frame 55 (q := (97, .iadd, 1)) rfl
  have k98 : decode b_Mo_frame 98 = .ok (.goto 11, 3) := pl_dc dd_Mo_frame 56 (q := (98, .goto 11, 3)) rfl
  have k101 : decode b_Mo_frame 101 = .ok (.aload_n 0, 1) := pl_dc dd_Mo_frame 57 (q := (101, .aload_n 0, 1)) rfl
  have k102 : decode b_Mo_frame 102 = .ok (.getfield 48, 3) := pl_dc dd_Mo_frame 58 (q := (102, .getfield 48, 3)) rfl
  have k105 : decode b_Mo_frame 105 = .ok (.iload_n 1, 1) := pl_dc dd_Mo_frame 59 (q := (105, .iload_n 1, 1)) rfl
  have k106 : decode b_Mo_frame 106 = .ok (.iaload, 1) := pl_dc dd_Mo_frame 60 (q := (106, .iaload, 1)) rfl
  have k107 : decode b_Mo_frame 107 = .ok (.iload_n 3, 1) := pl_dc dd_Mo_frame 61 (q := (107, .iload_n 3, 1)) rfl
  have k108 : decode b_Mo_frame 108 = .ok (.iadd, 1) := pl_dc dd_Mo_frame 62 (q := (108, .iadd, 1)) rfl
  have k109 : decode b_Mo_frame 109 = .ok (.ireturn, 1) := pl_dc dd_Mo_frame 63 (q := (109, .ireturn, 1)) rfl
  exact (d_seq (p1 := 41) (d_puti (p1 := 1) (p2 := 38) F 3 0 hp_3_0 (c_aload_n F k0 rfl) (c_if (p1 := 9) (p2 := 10) (p3 := 38) F (b_not_t (b_zero_f (p1 := 6) (pj := 13) F (c_callV (p1 := 3) F (a_i_ok (p1 := 2) (a_r_ok (p1 := 1) a_nil_ok (c_aload_n F k1 rfl)) (c_iload_n F k2 rfl)) (z_Mo_isBox _) y_Mo_isBox_ok lm_PageLayouterModel_95 k3 r_Mo_isBox (by decide) (by decide)) k6 (by decide))) (c_iconst F k9 (by decide)) k10 (by decide) (c_if (p1 := 22) (p2 := 23) (p3 := 38) F (b_or_t (p1 := 17) (b_zero_f (p1 := 14) (pj := 22) F (c_iload_n F k13 rfl) k14 (by decide)) (b_cmp_t (p1 := 18) (p2 := 19) (pj := 26) F (c_iload_n F k17 rfl) (c_iconst F k18 (by decide)) k19 (by decide))) (c_iconst F k22 (by decide)) k23 (by decide) (c_if (p1 := 33) (p2 := 34) (p3 := 38) F (b_zero_t (p1 := 30) (pj := 37) F (c_geti (p1 := 27) F 3 2 hg_3_2 (c_aload_n F k26 rfl) k27 lf_PageLayouterModel_91) k30 (by decide)) (c_iconst F k33 (by decide)) k34 (by decide) (c_iconst F k37 (by decide))))) k38 lf_PageLayouterModel_88) (d_seq (p1 := 50) (d_if (p1 := 48) (p2 := 50) (b_zero_t (p1 := 45) (pj := 50) F (c_geti (p1 := 42) F 3 0 hg_3_0 (c_aload_n F k41 rfl) k42 lf_PageLayouterModel_88) k45 (by decide)) (d_reti (p1 := 49) F Fm.2.1 Fm.2.2.1 (c_iconst F k48 (by decide)) k49)) (d_seq (p1 := 58) (d_istore_n (p1 := 57) F (c_bin 1 (p1 := 51) (p2 := 56) (c_iconst F k50 (by decide)) (c_callV (p1 := 53) F (a_i_ok (p1 := 52) (a_r_ok (p1 := 51) a_nil_ok (c_aload_n F k51 rfl)) (c_iload_n F k52 rfl)) (z_Mo_padding _) y_Mo_padding_ok lm_PageLayouterModel_112 k53 r_Mo_padding (by decide) (by decide)) pl_c1 (j_imul F k56)) k57 rfl (hm 3 (by decide))) (d_reti (p1 := 109) F Fm.2.1 Fm.2.2.1 (c_if (p1 := 62) (p2 := 68) (p3 := 109) F (b_zero_t (p1 := 59) (pj := 71) F (c_iload_n F k58 rfl) k59 (by decide)) (c_iald (p1 := 66) (p2 := 67) F (c_getr (p1 := 63) F 3 17 hg_3_17 (c_aload_n F k62 rfl) k63 lf_PageLayouterModel_57) (c_iload_n F k66 rfl) k67) k68 (by decide) (c_if (p1 := 76) (p2 := 82) (p3 := 109) F (b_cmp_t (p1 := 72) (p2 := 73) (pj := 85) F (c_iload_n F k71 rfl) (c_iconst F k72 (by decide)) k73 (by decide)) (c_iald (p1 := 80) (p2 := 81) F (c_getr (p1 := 77) F 3 18 hg_3_18 (c_aload_n F k76 rfl) k77 lf_PageLayouterModel_60) (c_iload_n F k80 rfl) k81) k82 (by decide) (c_if (p1 := 90) (p2 := 98) (p3 := 109) F (b_cmp_t (p1 := 86) (p2 := 87) (pj := 101) F (c_iload_n F k85 rfl) (c_iconst F k86 (by decide)) k87 (by decide)) (c_bin 1 (p1 := 96) (p2 := 97) (c_iald (p1 := 94) (p2 := 95) F (c_getr (p1 := 91) F 3 13 hg_3_13 (c_aload_n F k90 rfl) k91 lf_PageLayouterModel_45) (c_iload_n F k94 rfl) k95) (c_iload_n F k96 rfl) pl_c1 (j_iadd F k97)) k98 (by decide) (c_bin 1 (p1 := 107) (p2 := 108) (c_iald (p1 := 105) (p2 := 106) F (c_getr (p1 := 102) F 3 14 hg_3_14 (c_aload_n F k101 rfl) k102 lf_PageLayouterModel_48) (c_iload_n F k105 rfl) k106) (c_iload_n F k107 rfl) pl_c1 (j_iadd F k108))))) k109)))))
def y_Mo_column : MethodName := ⟨"PageLayouterModel", "column", "(II)I"⟩
abbrev b_Mo_column : ByteArray := prog_10_method_44_code
abbrev n_Mo_column : Nat := 3
theorem y_Mo_column_ok : pl_MV 3 y_Mo_column b_Mo_column n_Mo_column (Option.some Jvm.ClassFile.FieldType.int) 2 := ⟨pl_mem 948 (by decide +kernel) (by decide +kernel), pl_mem 946 (by decide +kernel) (by decide +kernel), pl_mem 947 (by decide +kernel) (by decide +kernel), pl_mem 47 (by decide +kernel) (by decide +kernel), ⟨by decide, by decide, by decide +kernel⟩, _, rfl, rfl⟩
def D_Mo_column : List (Nat × Instr × Nat) := [(0, .aload_n 0, 1), (1, .aload_n 0, 1), (2, .iload_n 1, 1), (3, .invokevirtual 95, 3), (6, .ifCond .ne 7, 3), (9, .iconst 1, 1), (10, .goto 4, 3), (13, .iconst 0, 1), (14, .putfield 88, 3), (17, .aload_n 0, 1), (18, .getfield 88, 3), (21, .ifCond .ne 55, 3), (24, .aload_n 0, 1), (25, .invokevirtual 130, 3), (28, .aload_n 0, 1), (29, .aload_n 0, 1), (30, .getfield 30, 3), (33, .iload_n 1, 1), (34, .iaload, 1), (35, .iconst 2, 1), (36, .if_icmp .eq 7, 3), (39, .iconst 2, 1), (40, .goto 33, 3), (43, .aload_n 0, 1), (44, .getfield 91, 3), (47, .ifCond .ne 7, 3), (50, .iconst 3, 1), (51, .goto 22, 3), (54, .iload_n 2, 1), (55, .ifCond .lt 13, 3), (58, .iload_n 2, 1), (59, .aload_n 0, 1), (60, .getfield 63, 3), (63, .iload_n 1, 1), (64, .iaload, 1), (65, .if_icmp .lt 7, 3), (68, .iconst 1, 1), (69, .goto 4, 3), (72, .iconst 0, 1), (73, .putfield 88, 3), (76, .aload_n 0, 1), (77, .getfield 88, 3), (80, .ifCond .le 7, 3), (83, .iconst 0, 1), (84, .goto 14, 3), (87, .aload_n 0, 1), (88, .getfield 66, 3), (91, .bipush 40, 2), (93, .iload_n 1, 1), (94, .imul, 1), (95, .iload_n 2, 1), (96, .iadd, 1), (97, .iaload, 1), (98, .ireturn, 1)]
theorem dd_Mo_column : (D_Mo_column.all fun q => decide (decode b_Mo_column q.1 = .ok q.2)) = true := by decide +kernel
def t_Mo_column : pl_TR := fun P _ _ => s_seq (s_puti 3 0 (e_locr 0) (e_if (b_not (b_zero .ne (e_callV Value.int 3 t_Mo_isBox n_Mo_isBox (a_i (a_r a_nil (e_locr 0)) (e_loc 1))))) (e_int 1) (e_int 0))) (s_seq (s_if (b_zero .eq (e_geti 3 0 (e_locr 0))) (s_seq (s_callV 3 t_Mo_findRoles n_Mo_findRoles (a_r a_nil (e_locr 0))) (s_puti 3 0 (e_locr 0) (e_if (b_cmp .ne (e_ald 1 (e_getr 3 8 (e_locr 0)) (e_loc 1)) (e_int 2)) (e_int 2) (e_if (b_not (b_zero .ne (e_geti 3 2 (e_locr 0)))) (e_int 3) (e_if (b_or (b_zero .lt (e_loc 2)) (b_cmp .ge (e_loc 2) (e_ald 1 (e_getr 3 19 (e_locr 0)) (e_loc 1)))) (e_int 1) (e_int 0))))))) (s_reti P (e_if (b_zero .gt (e_geti 3 0 (e_locr 0))) (e_int 0) (e_ald 1 (e_getr 3 20 (e_locr 0)) (e_bin (fun x y : Int32 => x + y) (e_bin (fun x y : Int32 => x * y) (e_int 40) (e_loc 1)) (e_loc 2))))))
theorem z_Mo_column (l : Launch) : pl_Ctr l y_Mo_column b_Mo_column n_Mo_column (Option.some Jvm.ClassFile.FieldType.int) 2 46 0 0 false t_Mo_column := pl_ctr_of (pe := 0) (by decide) (fun X Y P F Fm => by
  have F : pl_Fx X Y "PageLayouterModel" b_Mo_column := F
  have r_Mo_findRoles : 1 + 1 ≤ (pl_xR X).frames ∧ 8 + (n_Mo_findRoles + 11) + 22 ≤ (pl_xR X).locals := ⟨Nat.le_trans (by decide) Fm.2.2.2.2.2.1, Nat.le_trans (by decide) Fm.2.2.2.2.2.2.1⟩
  have r_Mo_isBox : 0 + 1 ≤ (pl_xR X).frames ∧ 8 + (n_Mo_isBox + 11) + 0 ≤ (pl_xR X).locals := ⟨Nat.le_trans (by decide) Fm.2.2.2.2.2.1, Nat.le_trans (by decide) Fm.2.2.2.2.2.2.1⟩
  have k0 : decode b_Mo_column 0 = .ok (.aload_n 0, 1) := pl_dc dd_Mo_column 0 (q := (0, .aload_n 0, 1)) rfl
  have k1 : decode b_Mo_column 1 = .ok (.aload_n 0, 1) := pl_dc dd_Mo_column 1 (q := (1, .aload_n 0, 1)) rfl
  have k2 : decode b_Mo_column 2 = .ok (.iload_n 1, 1) := pl_dc dd_Mo_column 2 (q := (2, .iload_n 1, 1)) rfl
  have k3 : decode b_Mo_column 3 = .ok (.invokevirtual 95, 3) := pl_dc dd_Mo_column 3 (q := (3, .invokevirtual 95, 3)) rfl
  have k6 : decode b_Mo_column 6 = .ok (.ifCond .ne 7, 3) := pl_dc dd_Mo_column 4 (q := (6, .ifCond .ne 7, 3)) rfl
  have k9 : decode b_Mo_column 9 = .ok (.iconst 1, 1) := pl_dc dd_Mo_column 5 (q := (9, .iconst 1, 1)) rfl
  have k10 : decode b_Mo_column 10 = .ok (.goto 4, 3) := pl_dc dd_Mo_column 6 (q := (10, .goto 4, 3)) rfl
  have k13 : decode b_Mo_column 13 = .ok (.iconst 0, 1) := pl_dc dd_Mo_column 7 (q := (13, .iconst 0, 1)) rfl
  have k14 : decode b_Mo_column 14 = .ok (.putfield 88, 3) := pl_dc dd_Mo_column 8 (q := (14, .putfield 88, 3)) rfl
  have k17 : decode b_Mo_column 17 = .ok (.aload_n 0, 1) := pl_dc dd_Mo_column 9 (q := (17, .aload_n 0, 1)) rfl
  have k18 : decode b_Mo_column 18 = .ok (.getfield 88, 3) := pl_dc dd_Mo_column 10 (q := (18, .getfield 88, 3)) rfl
  have k21 : decode b_Mo_column 21 = .ok (.ifCond .ne 55, 3) := pl_dc dd_Mo_column 11 (q := (21, .ifCond .ne 55, 3)) rfl
  have k24 : decode b_Mo_column 24 = .ok (.aload_n 0, 1) := pl_dc dd_Mo_column 12 (q := (24, .aload_n 0, 1)) rfl
  have k25 : decode b_Mo_column 25 = .ok (.invokevirtual 130, 3) := pl_dc dd_Mo_column 13 (q := (25, .invokevirtual 130, 3)) rfl
  have k28 : decode b_Mo_column 28 = .ok (.aload_n 0, 1) := pl_dc dd_Mo_column 14 (q := (28, .aload_n 0, 1)) rfl
  have k29 : decode b_Mo_column 29 = .ok (.aload_n 0, 1) := pl_dc dd_Mo_column 15 (q := (29, .aload_n 0, 1)) rfl
  have k30 : decode b_Mo_column 30 = .ok (.getfield 30, 3) := pl_dc dd_Mo_column 16 (q := (30, .getfield 30, 3)) rfl
  have k33 : decode b_Mo_column 33 = .ok (.iload_n 1, 1) := pl_dc dd_Mo_column 17 (q := (33, .iload_n 1, 1)) rfl
  have k34 : decode b_Mo_column 34 = .ok (.iaload, 1) := pl_dc dd_Mo_column 18 (q := (34, .iaload, 1)) rfl
  have k35 : decode b_Mo_column 35 = .ok (.iconst 2, 1) := pl_dc dd_Mo_column 19 (q := (35, .iconst 2, 1)) rfl
  have k36 : decode b_Mo_column 36 = .ok (.if_icmp .eq 7, 3) := pl_dc dd_Mo_column 20 (q := (36, .if_icmp .eq 7, 3)) rfl
  have k39 : decode b_Mo_column 39 = .ok (.iconst 2, 1) := pl_dc dd_Mo_column 21 (q := (39, .iconst 2, 1)) rfl
  have k40 : decode b_Mo_column 40 = .ok (.goto 33, 3) := pl_dc dd_Mo_column 22 (q := (40, .goto 33, 3)) rfl
  have k43 : decode b_Mo_column 43 = .ok (.aload_n 0, 1) := pl_dc dd_Mo_column 23 (q := (43, .aload_n 0, 1)) rfl
  have k44 : decode b_Mo_column 44 = .ok (.getfield 91, 3) := pl_dc dd_Mo_column 24 (q := (44, .getfield 91, 3)) rfl
  have k47 : decode b_Mo_column 47 = .ok (.ifCond .ne 7, 3) := pl_dc dd_Mo_column 25 (q := (47, .ifCond .ne 7, 3)) rfl
  have k50 : decode b_Mo_column 50 = .ok (.iconst 3, 1) := pl_dc dd_Mo_column 26 (q := (50, .iconst 3, 1)) rfl
  have k51 : decode b_Mo_column 51 = .ok (.goto 22, 3) := pl_dc dd_Mo_column 27 (q := (51, .goto 22, 3)) rfl
  have k54 : decode b_Mo_column 54 = .ok (.iload_n 2, 1) := pl_dc dd_Mo_column 28 (q := (54, .iload_n 2, 1)) rfl
  have k55 : decode b_Mo_column 55 = .ok (.ifCond .lt 13, 3) := pl_dc dd_Mo_column 29 (q := (55, .ifCond .lt 13, 3)) rfl
  have k58 : decode b_Mo_column 58 = .ok (.iload_n 2, 1) := pl_dc dd_Mo_column 30 (q := (58, .iload_n 2, 1)) rfl
  have k59 : decode b_Mo_column 59 = .ok (.aload_n 0, 1) := pl_dc dd_Mo_column 31 (q := (59, .aload_n 0, 1)) rfl
  have k60 : decode b_Mo_column 60 = .ok (.getfield 63, 3) := pl_dc dd_Mo_column 32 (q := (60, .getfield 63, 3)) rfl
  have k63 : decode b_Mo_column 63 = .ok (.iload_n 1, 1) := pl_dc dd_Mo_column 33 (q := (63, .iload_n 1, 1)) rfl
  have k64 : decode b_Mo_column 64 = .ok (.iaload, 1) := pl_dc dd_Mo_column 34 (q := (64, .iaload, 1)) rfl
  have k65 : decode b_Mo_column 65 = .ok (.if_icmp .lt 7, 3) := pl_dc dd_Mo_column 35 (q := (65, .if_icmp .lt 7, 3)) rfl
  have k68 : decode b_Mo_column 68 = .ok (.iconst 1, 1) := pl_dc dd_Mo_column 36 (q := (68, .iconst 1, 1)) rfl
  have k69 : decode b_Mo_column 69 = .ok (.goto 4, 3) := pl_dc dd_Mo_column 37 (q := (69, .goto 4, 3)) rfl
  have k72 : decode b_Mo_column 72 = .ok (.iconst 0, 1) := pl_dc dd_Mo_column 38 (q := (72, .iconst 0, 1)) rfl
  have k73 : decode b_Mo_column 73 = .ok (.putfield 88, 3) := pl_dc dd_Mo_column 39 (q := (73, .putfield 88, 3)) rfl
  have k76 : decode b_Mo_column 76 = .ok (.aload_n 0, 1) := pl_dc dd_Mo_column 40 (q := (76, .aload_n 0, 1)) rfl
  have k77 : decode b_Mo_column 77 = .ok (.getfield 88, 3) := pl_dc dd_Mo_column 41 (q := (77, .getfield 88, 3)) rfl
  have k80 : decode b_Mo_column 80 = .ok (.ifCond .le 7, 3) := pl_dc dd_Mo_column 42 (q := (80, .ifCond .le 7, 3)) rfl
  have k83 : decode b_Mo_column 83 = .ok (.iconst 0, 1) := pl_dc dd_Mo_column 43 (q := (83, .iconst 0, 1)) rfl
  have k84 : decode b_Mo_column 84 = .ok (.goto 14, 3) := pl_dc dd_Mo_column 44 (q := (84, .goto 14, 3)) rfl
  have k87 : decode b_Mo_column 87 = .ok (.aload_n 0, 1) := pl_dc dd_Mo_column 45 (q := (87, .aload_n 0, 1)) rfl
  have k88 : decode b_Mo_column 88 = .ok (.getfield 66, 3) := pl_dc dd_Mo_column 46 (q := (88, .getfield 66, 3)) rfl
  have k91 : decode b_Mo_column 91 = .ok (.bipush 40, 2) := pl_dc dd_Mo_column 47 (q := (91, .bipush 40, 2)) rfl
  have k93 : decode b_Mo_column 93 = .ok (.iload_n 1, 1) := pl_dc dd_Mo_column 48 (q := (93, .iload_n 1, 1)) rfl
  have k94 : decode b_Mo_column 94 = .ok (.imul, 1) := pl_dc dd_Mo_column 49 (q := (94, .imul, 1)) rfl
  have k95 : decode b_Mo_column 95 = .ok (.iload_n 2, 1) := pl_dc dd_Mo_column 50 (q := (95, .iload_n 2, 1)) rfl
  have k96 : decode b_Mo_column 96 = .ok (.iadd, 1) := pl_dc dd_Mo_column 51 (q := (96, .iadd, 1)) rfl
  have k97 : decode b_Mo_column 97 = .ok (.iaload, 1) := pl_dc dd_Mo_column 52 (q := (97, .iaload, 1)) rfl
  have k98 : decode b_Mo_column 98 = .ok (.ireturn, 1) := pl_dc dd_Mo_column 53 (q := (98, .ireturn, 1)) rfl
  exact (d_seq (p1 := 17) (d_puti (p1 := 1) (p2 := 14) F 3 0 hp_3_0 (c_aload_n F k0 rfl) (c_if (p1 := 9) (p2 := 10) (p3 := 14) F (b_not_t (b_zero_f (p1 := 6) (pj := 13) F (c_callV (p1 := 3) F (a_i_ok (p1 := 2) (a_r_ok (p1 := 1) a_nil_ok (c_aload_n F k1 rfl)) (c_iload_n F k2 rfl)) (z_Mo_isBox _) y_Mo_isBox_ok lm_PageLayouterModel_95 k3 r_Mo_isBox (by decide) (by decide)) k6 (by decide))) (c_iconst F k9 (by decide)) k10 (by decide) (c_iconst F k13 (by decide))) k14 lf_PageLayouterModel_88) (d_seq (p1 := 76) (d_if (p1 := 24) (p2 := 76) (b_zero_t (p1 := 21) (pj := 76) F (c_geti (p1 := 18) F 3 0 hg_3_0 (c_aload_n F k17 rfl) k18 lf_PageLayouterModel_88) k21 (by decide)) (d_seq (p1 := 28) (d_callV (p1 := 25) F (a_r_ok (p1 := 24) a_nil_ok (c_aload_n F k24 rfl)) (z_Mo_findRoles _) y_Mo_findRoles_ok lm_PageLayouterModel_130 k25 r_Mo_findRoles (by decide)) (d_puti (p1 := 29) (p2 := 73) F 3 0 hp_3_0 (c_aload_n F k28 rfl) (c_if (p1 := 39) (p2 := 40) (p3 := 73) F (b_cmp_t (p1 := 35) (p2 := 36) (pj := 43) F (c_iald (p1 := 33) (p2 := 34) F (c_getr (p1 := 30) F 3 8 hg_3_8 (c_aload_n F k29 rfl) k30 lf_PageLayouterModel_30) (c_iload_n F k33 rfl) k34) (c_iconst F k35 (by decide)) k36 (by decide)) (c_iconst F k39 (by decide)) k40 (by decide) (c_if (p1 := 50) (p2 := 51) (p3 := 73) F (b_not_t (b_zero_f (p1 := 47) (pj := 54) F (c_geti (p1 := 44) F 3 2 hg_3_2 (c_aload_n F k43 rfl) k44 lf_PageLayouterModel_91) k47 (by decide))) (c_iconst F k50 (by decide)) k51 (by decide) (c_if (p1 := 68) (p2 := 69) (p3 := 73) F (b_or_t (p1 := 58) (b_zero_f (p1 := 55) (pj := 68) F (c_iload_n F k54 rfl) k55 (by decide)) (b_cmp_t (p1 := 59) (p2 := 65) (pj := 72) F (c_iload_n F k58 rfl) (c_iald (p1 := 63) (p2 := 64) F (c_getr (p1 := 60) F 3 19 hg_3_19 (c_aload_n F k59 rfl) k60 lf_PageLayouterModel_63) (c_iload_n F k63 rfl) k64) k65 (by decide))) (c_iconst F k68 (by decide)) k69 (by decide) (c_iconst F k72 (by decide))))) k73 lf_PageLayouterModel_88))) (d_reti (p1 := 98) F Fm.2.1 Fm.2.2.1 (c_if (p1 := 83) (p2 := 84) (p3 := 98) F (b_zero_t (p1 := 80) (pj := 87) F (c_geti (p1 := 77) F 3 0 hg_3_0 (c_aload_n F k76 rfl) k77 lf_PageLayouterModel_88) k80 (by decide)) (c_iconst F k83 (by decide)) k84 (by decide) (c_iald (p1 := 91) (p2 := 97) F (c_getr (p1 := 88) F 3 20 hg_3_20 (c_aload_n F k87 rfl) k88 lf_PageLayouterModel_66) (c_bin 1 (p1 := 95) (p2 := 96) (c_bin 1 (p1 := 93) (p2 := 94) (c_bipush F k91 (by decide)) (c_iload_n F k93 rfl) pl_c1 (j_imul F k94)) (c_iload_n F k95 rfl) pl_c1 (j_iadd F k96)) k97)) k98))))
def y_Mo_findRanks : MethodName := ⟨"PageLayouterModel", "findRanks", "()V"⟩
abbrev b_Mo_findRanks : ByteArray := prog_10_method_45_code
abbrev n_Mo_findRanks : Nat := 3
theorem y_Mo_findRanks_ok : pl_MV 3 y_Mo_findRanks b_Mo_findRanks n_Mo_findRanks (Option.none : Option Jvm.ClassFile.FieldType) 0 := ⟨pl_mem 956 (by decide +kernel) (by decide +kernel), pl_mem 955 (by decide +kernel) (by decide +kernel), pl_mem 41 (by decide +kernel) (by decide +kernel), pl_mem 47 (by decide +kernel) (by decide +kernel), ⟨by decide, by decide, by decide +kernel⟩, _, rfl, rfl⟩
def D_Mo_findRanks : List (Nat × Instr × Nat) := [(0, .aload_n 0, 1), (1, .getfield 7, 3), (4, .iconst 1, 1), (5, .isub, 1), (6, .istore_n 1, 1), (7, .iload_n 1, 1), (8, .ifCond .lt 72, 3), (11, .aload_n 0, 1), (12, .getfield 81, 3), (15, .iload_n 1, 1), (16, .iconst 1, 1), (17, .iastore, 1), (18, .iload_n 1, 1), (19, .iconst 1, 1), (20, .iadd, 1), (21, .istore_n 2, 1), (22, .iload_n 2, 1), (23, .aload_n 0, 1), (24, .getfield 7, 3), (27, .if_icmp .ge 47, 3), (30, .aload_n 0, 1), (31, .getfield 81, 3), (34, .iload_n 1, 1), (35, .aload_n 0, 1), (36, .getfield 13, 3), (39, .iload_n 2, 1), (40, .iaload, 1), (41, .iload_n 1, 1), (42, .if_icmp .ne 19, 3), (45, .aload_n 0, 1), (46, .getfield 81, 3), (49, .iload_n 1, 1), (50, .iaload, 1), (51, .aload_n 0, 1), (52, .getfield 81, 3), (55, .iload_n 2, 1), (56, .iaload, 1), (57, .iadd, 1), (58, .goto 9, 3), (61, .aload_n 0, 1), (62, .getfield 81, 3), (65, .iload_n 1, 1), (66, .iaload, 1), (67, .iastore, 1), (68, .iinc 2 1, 3), (71, .goto (-49), 3), (74, .iinc 1 (-1), 3), (77, .goto (-70), 3), (80, .aload_n 0, 1), (81, .getfield 78, 3), (84, .iconst 0, 1), (85, .iconst 0, 1), (86, .iastore, 1), (87, .iconst 1, 1), (88, .istore_n 1, 1), (89, .iload_n 1, 1), (90, .aload_n 0, 1), (91, .getfield 7, 3), (94, .if_icmp .ge 84, 3), (97, .aload_n 0, 1), (98, .getfield 78, 3), (101, .iload_n 1, 1), (102, .aload_n 0, 1), (103, .getfield 78, 3), (106, .aload_n 0, 1), (107, .getfield 13, 3), (110, .iload_n 1, 1), (111, .iaload, 1), (112, .iaload, 1), (113, .iconst 1, 1), (114, .iadd, 1), (115, .iastore, 1), (116, .iconst 0, 1), (117, .istore_n 2, 1), (118, .iload_n 2, 1), (119, .iload_n 1, 1), (120, .if_icmp .ge 52, 3), (123, .aload_n 0, 1), (124, .getfield 78, 3), (127, .iload_n 1, 1), (128, .aload_n 0, 1), (129, .getfield 13, 3), (132, .iload_n 2, 1), (133, .iaload, 1), (134, .aload_n 0, 1), (135, .getfield 13, 3), (138, .iload_n 1, 1), (139, .iaload, 1), (140, .if_icmp .ne 19, 3), (143, .aload_n 0, 1), (144, .getfield 78, 3), (147, .iload_n 1, 1), (148, .iaload, 1), (149, .aload_n 0, 1), (150, .getfield 81, 3), (153, .iload_n 2, 1), (154, .iaload, 1), (155, .iadd, 1), (156, .goto 9, 3), (159, .aload_n 0, 1), (160, .getfield 78, 3), (163, .iload_n 1, 1), (164, .iaload, 1), (165, .iastore, 1), (166, .iinc 2 1, 3), (169, .goto (-51), 3), (172, .iinc 1 1, 3), (175, .goto (-86), 3), (178, .return_, 1)]
theorem dd_Mo_findRanks : (D_Mo_findRanks.all fun q => decide (decode b_Mo_findRanks q.1 = .ok q.2)) = true := by decide +kernel
def t_Mo_findRanks : pl_TR := fun P _ _ => s_seq (s_seq (s_seq (s_seti 1 (e_bin (fun x y : Int32 => x - y) (e_geti 3 1 (e_locr 0)) (e_int 1))) (s_while (b_zero .ge (e_loc 1)) (s_seq (s_seq (s_iast (e_getr 3 25 (e_locr 0)) (e_loc 1) (e_int 1)) (s_seq (s_seti 2 (e_bin (fun x y : Int32 => x + y) (e_loc 1) (e_int 1))) (s_while (b_cmp .lt (e_loc 2) (e_geti 3 1 (e_locr 0))) (s_seq (s_iast (e_getr 3 25 (e_locr 0)) (e_loc 1) (e_if (b_cmp .eq (e_ald 1 (e_getr 3 3 (e_locr 0)) (e_loc 2)) (e_loc 1)) (e_bin (fun x y : Int32 => x + y) (e_ald 1 (e_getr 3 25 (e_locr 0)) (e_loc 1)) (e_ald 1 (e_getr 3 25 (e_locr 0)) (e_loc 2))) (e_ald 1 (e_getr 3 25 (e_locr 0)) (e_loc 1)))) (s_inc 2 1))))) (s_inc 1 (-1))))) (s_seq (s_iast (e_getr 3 24 (e_locr 0)) (e_int 0) (e_int 0)) (s_seq (s_seti 1 (e_int 1)) (s_while (b_cmp .lt (e_loc 1) (e_geti 3 1 (e_locr 0))) (s_seq (s_seq (s_iast (e_getr 3 24 (e_locr 0)) (e_loc 1) (e_bin (fun x y : Int32 => x + y) (e_ald 1 (e_getr 3 24 (e_locr 0)) (e_ald 1 (e_getr 3 3 (e_locr 0)) (e_loc 1))) (e_int 1))) (s_seq (s_seti 2 (e_int 0)) (s_while (b_cmp .lt (e_loc 2) (e_loc 1)) (s_seq (s_iast (e_getr 3 24 (e_locr 0)) (e_loc 1) (e_if (b_cmp .eq (e_ald 1 (e_getr 3 3 (e_locr 0)) (e_loc 2)) (e_ald 1 (e_getr 3 3 (e_locr 0)) (e_loc 1))) (e_bin (fun x y : Int32 => x + y) (e_ald 1 (e_getr 3 24 (e_locr 0)) (e_loc 1)) (e_ald 1 (e_getr 3 25 (e_locr 0)) (e_loc 2))) (e_ald 1 (e_getr 3 24 (e_locr 0)) (e_loc 1)))) (s_inc 2 1))))) (s_inc 1 1)))))) (s_retv P)
theorem z_Mo_findRanks (l : Launch) : pl_Ctr l y_Mo_findRanks b_Mo_findRanks n_Mo_findRanks (Option.none : Option Jvm.ClassFile.FieldType) 0 0 0 0 false t_Mo_findRanks := pl_ctr_of (pe := 0) (by decide) (fun X Y P F Fm => by
  have F : pl_Fx X Y "PageLayouterModel" b_Mo_findRanks := F
  have hm : ∀ i, i < 3 → i < (pl_xc X).maxLocals := fun i h => by rw [Fm.2.2.2.1]; exact h
  have k0 : decode b_Mo_findRanks 0 = .ok (.aload_n 0, 1) := pl_dc dd_Mo_findRanks 0 (q := (0, .aload_n 0, 1)) rfl
  have k1 : decode b_Mo_findRanks 1 = .ok (.getfield 7, 3) := pl_dc dd_Mo_findRanks 1 (q := (1, .getfield 7, 3)) rfl
  have k4 : decode b_Mo_findRanks 4 = .ok (.iconst 1, 1) := pl_dc dd_Mo_findRanks 2 (q := (4, .iconst 1, 1)) rfl
  have k5 : decode b_Mo_findRanks 5 = .ok (.isub, 1) := pl_dc dd_Mo_findRanks 3 (q := (5, .isub, 1)) rfl
  have k6 : decode b_Mo_findRanks 6 = .ok (.istore_n 1, 1) := pl_dc dd_Mo_findRanks 4 (q := (6, .istore_n 1, 1)) rfl
  have k7 : decode b_Mo_findRanks 7 = .ok (.iload_n 1, 1) := pl_dc dd_Mo_findRanks 5 (q := (7, .iload_n 1, 1)) rfl
  have k8 : decode b_Mo_findRanks 8 = .ok (.ifCond .lt 72, 3) := pl_dc dd_Mo_findRanks 6 (q := (8, .ifCond .lt 72, 3)) rfl
  have k11 : decode b_Mo_findRanks 11 = .ok (.aload_n 0, 1) := pl_dc dd_Mo_findRanks 7 (q := (11, .aload_n 0, 1)) rfl
  have k12 : decode b_Mo_findRanks 12 = .ok (.getfield 81, 3) := pl_dc dd_Mo_findRanks 8 (q := (12, .getfield 81, 3)) rfl
  have k15 : decode b_Mo_findRanks 15 = .ok (.iload_n 1, 1) := pl_dc dd_Mo_findRanks 9 (q := (15, .iload_n 1, 1)) rfl
  have k16 : decode b_Mo_findRanks 16 = .ok (.iconst 1, 1) := pl_dc dd_Mo_findRanks 10 (q := (16, .iconst 1, 1)) rfl
  have k17 : decode b_Mo_findRanks 17 = .ok (.iastore, 1) := pl_dc dd_Mo_findRanks 11 (q := (17, .iastore, 1)) rfl
  have k18 : decode b_Mo_findRanks 18 = .ok (.iload_n 1, 1) := pl_dc dd_Mo_findRanks 12 (q := (18, .iload_n 1, 1)) rfl
  have k19 : decode b_Mo_findRanks 19 = .ok (.iconst 1, 1) := pl_dc dd_Mo_findRanks 13 (q := (19, .iconst 1, 1)) rfl
  have k20 : decode b_Mo_findRanks 20 = .ok (.iadd, 1) := pl_dc dd_Mo_findRanks 14 (q := (20, .iadd, 1)) rfl
  have k21 : decode b_Mo_findRanks 21 = .ok (.istore_n 2, 1) := pl_dc dd_Mo_findRanks 15 (q := (21, .istore_n 2, 1)) rfl
  have k22 : decode b_Mo_findRanks 22 = .ok (.iload_n 2, 1) := pl_dc dd_Mo_findRanks 16 (q := (22, .iload_n 2, 1)) rfl
  have k23 : decode b_Mo_findRanks 23 = .ok (.aload_n 0, 1) := pl_dc dd_Mo_findRanks 17 (q := (23, .aload_n 0, 1)) rfl
  have k24 : decode b_Mo_findRanks 24 = .ok (.getfield 7, 3) := pl_dc dd_Mo_findRanks 18 (q := (24, .getfield 7, 3)) rfl
  have k27 : decode b_Mo_findRanks 27 = .ok (.if_icmp .ge 47, 3) := pl_dc dd_Mo_findRanks 19 (q := (27, .if_icmp .ge 47, 3)) rfl
  have k30 : decode b_Mo_findRanks 30 = .ok (.aload_n 0, 1) := pl_dc dd_Mo_findRanks 20 (q := (30, .aload_n 0, 1)) rfl
  have k31 : decode b_Mo_findRanks 31 = .ok (.getfield 81, 3) := pl_dc dd_Mo_findRanks 21 (q := (31, .getfield 81, 3)) rfl
  have k34 : decode b_Mo_findRanks 34 = .ok (.iload_n 1, 1) := pl_dc dd_Mo_findRanks 22 (q := (34, .iload_n 1, 1)) rfl
  have k35 : decode b_Mo_findRanks 35 = .ok (.aload_n 0, 1) := pl_dc dd_Mo_findRanks 23 (q := (35, .aload_n 0, 1)) rfl
  have k36 : decode b_Mo_findRanks 36 = .ok (.getfield 13, 3) := pl_dc dd_Mo_findRanks 24 (q := (36, .getfield 13, 3)) rfl
  have k39 : decode b_Mo_findRanks 39 = .ok (.iload_n 2, 1) := pl_dc dd_Mo_findRanks 25 (q := (39, .iload_n 2, 1)) rfl
  have k40 : decode b_Mo_findRanks 40 = .ok (.iaload, 1) := pl_dc dd_Mo_findRanks 26 (q := (40, .iaload, 1)) rfl
  have k41 : decode b_Mo_findRanks 41 = .ok (.iload_n 1, 1) := pl_dc dd_Mo_findRanks 27 (q := (41, .iload_n 1, 1)) rfl
  have k42 : decode b_Mo_findRanks 42 = .ok (.if_icmp .ne 19, 3) := pl_dc dd_Mo_findRanks 28 (q := (42, .if_icmp .ne 19, 3)) rfl
  have k45 : decode b_Mo_findRanks 45 = .ok (.aload_n 0, 1) := pl_dc dd_Mo_findRanks 29 (q := (45, .aload_n 0, 1)) rfl
  have k46 : decode b_Mo_findRanks 46 = .ok (.getfield 81, 3) := pl_dc dd_Mo_findRanks 30 (q := (46, .getfield 81, 3)) rfl
  have k49 : decode b_Mo_findRanks 49 = .ok (.iload_n 1, 1) := pl_dc dd_Mo_findRanks 31 (q := (49, .iload_n 1, 1)) rfl
  have k50 : decode b_Mo_findRanks 50 = .ok (.iaload, 1) := pl_dc dd_Mo_findRanks 32 (q := (50, .iaload, 1)) rfl
  have k51 : decode b_Mo_findRanks 51 = .ok (.aload_n 0, 1) := pl_dc dd_Mo_findRanks 33 (q := (51, .aload_n 0, 1)) rfl
  have k52 : decode b_Mo_findRanks 52 = .ok (.getfield 81, 3) := pl_dc dd_Mo_findRanks 34 (q := (52, .getfield 81, 3)) rfl
  have k55 : decode b_Mo_findRanks 55 = .ok (.iload_n 2, 1) := pl_dc dd_Mo_findRanks 35 (q := (55, .iload_n 2, 1)) rfl
  have k56 : decode b_Mo_findRanks 56 = .ok (.iaload, 1) := pl_dc dd_Mo_findRanks 36 (q := (56, .iaload, 1)) rfl
  have k57 : decode b_Mo_findRanks 57 = .ok (.iadd, 1) := pl_dc dd_Mo_findRanks 37 (q := (57, .iadd, 1)) rfl
  have k58 : decode b_Mo_findRanks 58 = .ok (.goto 9, 3) := pl_dc dd_Mo_findRanks 38 (q := (58, .goto 9, 3)) rfl
  have k61 : decode b_Mo_findRanks 61 = .ok (.aload_n 0, 1) := pl_dc dd_Mo_findRanks 39 (q := (61, .aload_n 0, 1)) rfl
  have k62 : decode b_Mo_findRanks 62 = .ok (.getfield 81, 3) := pl_dc dd_Mo_findRanks 40 (q := (62, .getfield 81, 3)) rfl
  have k65 : decode b_Mo_findRanks 65 = .ok (.iload_n 1, 1) := pl_dc dd_Mo_findRanks 41 (q := (65, .iload_n 1, 1)) rfl
  have k66 : decode b_Mo_findRanks 66 = .ok (.iaload, 1) := pl_dc dd_Mo_findRanks 42 (q := (66, .iaload, 1)) rfl
  have k67 : decode b_Mo_findRanks 67 = .ok (.iastore, 1) := pl_dc dd_Mo_findRanks 43 (q := (67, .iastore, 1)) rfl
  have k68 : decode b_Mo_findRanks 68 = .ok (.iinc 2 1, 3) := pl_dc dd_Mo_findRanks 44 (q := (68, .iinc 2 1, 3)) rfl
  have k71 : decode b_Mo_findRanks 71 = .ok (.goto (-49), 3) := pl_dc dd_Mo_findRanks 45 (q := (71, .goto (-49), 3)) rfl
  have k74 : decode b_Mo_findRanks 74 = .ok (.iinc 1 (-1), 3) := pl_dc dd_Mo_findRanks 46 (q := (74, .iinc 1 (-1), 3)) rfl
  have k77 : decode b_Mo_findRanks 77 = .ok (.goto (-70), 3) := pl_dc dd_Mo_findRanks 47 (q := (77, .goto (-70), 3)) rfl
  have k80 : decode b_Mo_findRanks 80 = .ok (.aload_n 0, 1) := pl_dc dd_Mo_findRanks 48 (q := (80, .aload_n 0, 1)) rfl
  have k81 : decode b_Mo_findRanks 81 = .ok (.getfield 78, 3) := pl_dc dd_Mo_findRanks 49 (q := (81, .getfield 78, 3)) rfl
  have k84 : decode b_Mo_findRanks 84 = .ok (.iconst 0, 1) := pl_dc dd_Mo_findRanks 50 (q := (84, .iconst 0, 1)) rfl
  have k85 : decode b_Mo_findRanks 85 = .ok (.iconst 0, 1) := pl_dc dd_Mo_findRanks 51 (q := (85, .iconst 0, 1)) rfl
  have k86 : decode b_Mo_findRanks 86 = .ok (.iastore, 1) := pl_dc dd_Mo_findRanks 52 (q := (86, .iastore, 1)) rfl
  have k87 : decode b_Mo_findRanks 87 = .ok (.iconst 1, 1) := pl_dc dd_Mo_findRanks 53 (q := (87, .iconst 1, 1)) rfl
  have k88 : decode b_Mo_findRanks 88 = .ok (.istore_n 1, 1) := pl_dc dd_Mo_findRanks 54 (q := (88, .istore_n 1, 1)) rfl
  have k89 : decode b_Mo_findRanks 89 = .ok (.iload_n 1, 1) := pl_dc dd_Mo_findRanks 55 (q := (89, .iload_n 1, 1)) rfl
  have k90 : decode b_Mo_findRanks 90 = .ok (.aload_n 0, 1) := pl_dc dd_Mo_findRanks 56 (q := (90, .aload_n 0, 1)) rfl
  have k91 : decode b_Mo_findRanks 91 = .ok (.getfield 7, 3) := pl_dc dd_Mo_findRanks 57 (q := (91, .getfield 7, 3)) rfl
  have k94 : decode b_Mo_findRanks 94 = .ok (.if_icmp .ge 84, 3) := pl_dc dd_Mo_findRanks 58 (q := (94, .if_icmp .ge 84, 3)) rfl
  have k97 : decode b_Mo_findRanks 97 = .ok (.aload_n 0, 1) := pl_dc dd_Mo_findRanks 59 (q := (97, .aload_n 0, 1)) rfl
  have k98 : decode b_Mo_findRanks 98 = .ok (.getfield 78, 3) := pl_dc dd_Mo_findRanks 60 (q := (98, .getfield 78, 3)) rfl
  have k101 : decode b_Mo_findRanks 101 = .ok (.iload_n 1, 1) := pl_dc dd_Mo_findRanks 61 (q := (101, .iload_n 1, 1)) rfl
  have k102 : decode b_Mo_findRanks 102 = .ok (.aload_n 0, 1) := pl_dc dd_Mo_findRanks 62 (q := (102, .aload_n 0, 1)) rfl
  have k103 : decode b_Mo_findRanks 103 = .ok (.getfield 78, 3) := pl_dc dd_Mo_findRanks 63 (q := (103, .getfield 78, 3)) rfl
  have k106 : decode b_Mo_findRanks 106 = .ok (.aload_n 0, 1) := pl_dc dd_Mo_findRanks 64 (q := (106, .aload_n 0, 1)) rfl
  have k107 : decode b_Mo_findRanks 107 = .ok (.getfield 13, 3) := pl_dc dd_Mo_findRanks 65 (q := (107, .getfield 13, 3)) rfl
  have k110 : decode b_Mo_findRanks 110 = .ok (.iload_n 1, 1) := pl_dc dd_Mo_findRanks 66 (q := (110, .iload_n 1, 1)) rfl
  have k111 : decode b_Mo_findRanks 111 = .ok (.iaload, 1) := pl_dc dd_Mo_findRanks 67 (q := (111, .iaload, 1)) rfl
  have k112 : decode b_Mo_findRanks 112 = .ok (.iaload, 1) := pl_dc dd_Mo_findRanks 68 (q := (112, .iaload, 1)) rfl
  have k113 : decode b_Mo_findRanks 113 = .ok (.iconst 1, 1) := pl_dc dd_Mo_findRanks 69 (q := (113, .iconst 1, 1)) rfl
  have k114 : decode b_Mo_findRanks 114 = .ok (.iadd, 1) := pl_dc dd_Mo_findRanks 70 (q := (114, .iadd, 1)) rfl
  have k115 : decode b_Mo_findRanks 115 = .ok (.iastore, 1) := pl_dc dd_Mo_findRanks 71 (q := (115, .iastore, 1)) rfl
  have k116 : decode b_Mo_findRanks 116 = .ok (.iconst 0, 1) := pl_dc dd_Mo_findRanks 72 (q := (116, .iconst 0, 1)) rfl
  have k117 : decode b_Mo_findRanks 117 = .ok (.istore_n 2, 1) := pl_dc dd_Mo_findRanks 73 (q := (117, .istore_n 2, 1)) rfl
  have k118 : decode b_Mo_findRanks 118 = .ok (.iload_n 2, 1) := pl_dc dd_Mo_findRanks 74 (q := (118, .iload_n 2, 1)) rfl
  have k119 : decode b_Mo_findRanks 119 = .ok (.iload_n 1, 1) := pl_dc dd_Mo_findRanks 75 (q := (119, .iload_n 1, 1)) rfl
  have k120 : decode b_Mo_findRanks 120 = .ok (.if_icmp .ge 52, 3) := pl_dc dd_Mo_findRanks 76 (q := (120, .if_icmp .ge 52, 3)) rfl
  have k123 : decode b_Mo_findRanks 123 = .ok (.aload_n 0, 1) := pl_dc dd_Mo_findRanks 77 (q := (123, .aload_n 0, 1)) rfl
  have k124 : decode b_Mo_findRanks 124 = .ok (.getfield 78, 3) := pl_dc dd_Mo_findRanks 78 (q := (124, .getfield 78, 3)) rfl
  have k127 : decode b_Mo_findRanks 127 = .ok (.iload_n 1, 1) := pl_dc dd_Mo_findRanks 79 (q := (127, .iload_n 1, 1)) rfl
  have k128 : decode b_Mo_findRanks 128 = .ok (.aload_n 0, 1) := pl_dc dd_Mo_findRanks 80 (q := (128, .aload_n 0, 1)) rfl
  have k129 : decode b_Mo_findRanks 129 = .ok (.getfield 13, 3) := pl_dc dd_Mo_findRanks 81 (q := (129, .getfield 13, 3)) rfl
  have k132 : decode b_Mo_findRanks 132 = .ok (.iload_n 2, 1) := pl_dc dd_Mo_findRanks 82 (q := (132, .iload_n 2, 1)) rfl
  have k133 : decode b_Mo_findRanks 133 = .ok (.iaload, 1) := pl_dc dd_Mo_findRanks 83 (q := (133, .iaload, 1)) rfl
  have k134 : decode b_Mo_findRanks 134 = .ok (.aload_n 0, 1) := pl_dc dd_Mo_findRanks 84 (q := (134, .aload_n 0, 1)) rfl
  have k135 : decode b_Mo_findRanks 135 = .ok (.getfield 13, 3) := pl_dc dd_Mo_findRanks 85 (q := (135, .getfield 13, 3)) rfl
  have k138 : decode b_Mo_findRanks 138 = .ok (.iload_n 1, 1) := pl_dc dd_Mo_findRanks 86 (q := (138, .iload_n 1, 1)) rfl
  have k139 : decode b_Mo_findRanks 139 = .ok (.iaload, 1) := pl_dc dd_Mo_findRanks 87 (q := (139, .iaload, 1)) rfl
  have k140 : decode b_Mo_findRanks 140 = .ok (.if_icmp .ne 19, 3) := pl_dc dd_Mo_findRanks 88 (q := (140, .if_icmp .ne 19, 3)) rfl
  have k143 : decode b_Mo_findRanks 143 = .ok (.aload_n 0, 1) := pl_dc dd_Mo_findRanks 89 (q := (143, .aload_n 0, 1)) rfl
  have k144 : decode b_Mo_findRanks 144 = .ok (.getfield 78, 3) := pl_dc dd_Mo_findRanks 90 (q := (144, .getfield 78, 3)) rfl
  have k147 : decode b_Mo_findRanks 147 = .ok (.iload_n 1, 1) := pl_dc dd_Mo_findRanks 91 (q := (147, .iload_n 1, 1)) rfl
  have k148 : decode b_Mo_findRanks 148 = .ok (.iaload, 1) := pl_dc dd_Mo_findRanks 92 (q := (148, .iaload, 1)) rfl
  have k149 : decode b_Mo_findRanks 149 = .ok (.aload_n 0, 1) := pl_dc dd_Mo_findRanks 93 (q := (149, .aload_n 0, 1)) rfl
  have k150 : decode b_Mo_findRanks 150 = .ok (.getfield 81, 3) := pl_dc dd_Mo_findRanks 94 (q := (150, .getfield 81, 3)) rfl
  have k153 : decode b_Mo_findRanks 153 = .ok (.iload_n 2, 1) := pl_dc dd_Mo_findRanks 95 (q := (153, .iload_n 2, 1)) rfl
  have k154 : decode b_Mo_findRanks 154 = .ok (.iaload, 1) := pl_dc dd_Mo_findRanks 96 (q := (154, .iaload, 1)) rfl
  have k155 : decode b_Mo_findRanks 155 = .ok (.iadd, 1) := pl_dc dd_Mo_findRanks 97 (q := (155, .iadd, 1)) rfl
  have k156 : decode b_Mo_findRanks 156 = .ok (.goto 9, 3) := pl_dc dd_Mo_findRanks 98 (q := (156, .goto 9, 3)) rfl
  have k159 : decode b_Mo_findRanks 159 = .ok (.aload_n 0, 1) := pl_dc dd_Mo_findRanks 99 (q := (159, .aload_n 0, 1)) rfl
  have k160 : decode b_Mo_findRanks 160 = .ok (.getfield 78, 3) := pl_dc dd_Mo_findRanks 100 (q := (160, .getfield 78, 3)) rfl
  have k163 : decode b_Mo_findRanks 163 = .ok (.iload_n 1, 1) := pl_dc dd_Mo_findRanks 101 (q := (163, .iload_n 1, 1)) rfl
  have k164 : decode b_Mo_findRanks 164 = .ok (.iaload, 1) := pl_dc dd_Mo_findRanks 102 (q := (164, .iaload, 1)) rfl
  have k165 : decode b_Mo_findRanks 165 = .ok (.iastore, 1) := pl_dc dd_Mo_findRanks 103 (q := (165, .iastore, 1)) rfl
  have k166 : decode b_Mo_findRanks 166 = .ok (.iinc 2 1, 3) := pl_dc dd_Mo_findRanks 104 (q := (166, .iinc 2 1, 3)) rfl
  have k169 : decode b_Mo_findRanks 169 = .ok (.goto (-51), 3) := pl_dc dd_Mo_findRanks 105 (q := (169, .goto (-51), 3)) rfl
  have k172 : decode b_Mo_findRanks 172 = .ok (.iinc 1 1, 3) := pl_dc dd_Mo_findRanks 106 (q := (172, .iinc 1 1, 3)) rfl
  have k175 : decode b_Mo_findRanks 175 = .ok (.goto (-86), 3) := pl_dc dd_Mo_findRanks 107 (q := (175, .goto (-86), 3)) rfl
  have k178 : decode b_Mo_findRanks 178 = .ok (.return_, 1) := pl_dc dd_Mo_findRanks 108 (q := (178, .return_, 1)) rfl
  exact (d_seq (p1 := 178) (d_seq (p1 := 80) (d_seq (p1 := 7) (d_istore_n (p1 := 6) F (c_bin 1 (p1 := 4) (p2 := 5) (c_geti (p1 := 1) F 3 1 hg_3_1 (c_aload_n F k0 rfl) k1 lf_PageLayouterModel_7) (c_iconst F k4 (by decide)) pl_c1 (j_isub F k5)) k6 rfl (hm 1 (by decide))) (d_while (p1 := 11) (p2 := 77) F (b_zero_t (p1 := 8) (pj := 80) F (c_iload_n F k7 rfl) k8 (by decide)) (d_seq (p1 := 74) (d_seq (p1 := 18) (d_iast (p1 := 15) (p2 := 16) (p3 := 17) F (c_getr (p1 := 12) F 3 25 hg_3_25 (c_aload_n F k11 rfl) k12 lf_PageLayouterModel_81) (c_iload_n F k15 rfl) (c_iconst F k16 (by decide)) k17) (d_seq (p1 := 22) (d_istore_n (p1 := 21) F (c_bin 1 (p1 := 19) (p2 := 20) (c_iload_n F k18 rfl) (c_iconst F k19 (by decide)) pl_c1 (j_iadd F k20)) k21 rfl (hm 2 (by decide))) (d_while (p1 := 30) (p2 := 71) F (b_cmp_t (p1 := 23) (p2 := 27) (pj := 74) F (c_iload_n F k22 rfl) (c_geti (p1 := 24) F 3 1 hg_3_1 (c_aload_n F k23 rfl) k24 lf_PageLayouterModel_7) k27 (by decide)) (d_seq (p1 := 68) (d_iast (p1 := 34) (p2 := 35) (p3 := 67) F (c_getr (p1 := 31) F 3 25 hg_3_25 (c_aload_n F k30 rfl) k31 lf_PageLayouterModel_81) (c_iload_n F k34 rfl) (c_if (p1 := 45) (p2 := 58) (p3 := 67) F (b_cmp_t (p1 := 41) (p2 := 42) (pj := 61) F (c_iald (p1 := 39) (p2 := 40) F (c_getr (p1 := 36) F 3 3 hg_3_3 (c_aload_n F k35 rfl) k36 lf_PageLayouterModel_13) (c_iload_n F k39 rfl) k40) (c_iload_n F k41 rfl) k42 (by decide)) (c_bin 1 (p1 := 51) (p2 := 57) (c_iald (p1 := 49) (p2 := 50) F (c_getr (p1 := 46) F 3 25 hg_3_25 (c_aload_n F k45 rfl) k46 lf_PageLayouterModel_81) (c_iload_n F k49 rfl) k50) (c_iald (p1 := 55) (p2 := 56) F (c_getr (p1 := 52) F 3 25 hg_3_25 (c_aload_n F k51 rfl) k52 lf_PageLayouterModel_81) (c_iload_n F k55 rfl) k56) pl_c1 (j_iadd F k57)) k58 (by decide) (c_iald (p1 := 65) (p2 := 66) F (c_getr (p1 := 62) F 3 25 hg_3_25 (c_aload_n F k61 rfl) k62 lf_PageLayouterModel_81) (c_iload_n F k65 rfl) k66)) k67) (d_iinc F k68 (by decide) (hm 2 (by decide)))) k71 (by decide)))) (d_iinc F k74 (by decide) (hm 1 (by decide)))) k77 (by decide))) (d_seq (p1 := 87) (d_iast (p1 := 84) (p2 := 85) (p3 := 86) F (c_getr (p1 := 81) F 3 24 hg_3_24 (c_aload_n F k80 rfl) k81 lf_PageLayouterModel_78) (c_iconst F k84 (by decide)) (c_iconst F k85 (by decide)) k86) (d_seq (p1 := 89) (d_istore_n (p1 := 88) F (c_iconst F k87 (by decide)) k88 rfl (hm 1 (by decide))) (d_while (p1 := 97) (p2 := 175) F (b_cmp_t (p1 := 90) (p2 := 94) (pj := 178) F (c_iload_n F k89 rfl) (c_geti (p1 := 91) F 3 1 hg_3_1 (c_aload_n F k90 rfl) k91 lf_PageLayouterModel_7) k94 (by decide)) (d_seq (p1 := 172) (d_seq (p1 := 116) (d_iast (p1 := 101) (p2 := 102) (p3 := 115) F (c_getr (p1 := 98) F 3 24 hg_3_24 (c_aload_n F k97 rfl) k98 lf_PageLayouterModel_78) (c_iload_n F k101 rfl) (c_bin 1 (p1 := 113) (p2 := 114) (c_iald (p1 := 106) (p2 := 112) F (c_getr (p1 := 103) F 3 24 hg_3_24 (c_aload_n F k102 rfl) k103 lf_PageLayouterModel_78) (c_iald (p1 := 110) (p2 := 111) F (c_getr (p1 := 107) F 3 3 hg_3_3 (c_aload_n F k106 rfl) k107 lf_PageLayouterModel_13) (c_iload_n F k110 rfl) k111) k112) (c_iconst F k113 (by decide)) pl_c1 (j_iadd F k114)) k115) (d_seq (p1 := 118) (d_istore_n (p1 := 117) F (c_iconst F k116 (by decide)) k117 rfl (hm 2 (by decide))) (d_while (p1 := 123) (p2 := 169) F (b_cmp_t (p1 := 119) (p2 := 120) (pj := 172) F (c_iload_n F k118 rfl) (c_iload_n F k119 rfl) k120 (by decide)) (d_seq (p1 := 166) (d_iast (p1 := 127) (p2 := 128) (p3 := 165) F (c_getr (p1 := 124) F 3 24 hg_3_24 (c_aload_n F k123 rfl) k124 lf_PageLayouterModel_78) (c_iload_n F k127 rfl) (c_if (p1 := 143) (p2 := 156) (p3 := 165) F (b_cmp_t (p1 := 134) (p2 := 140) (pj := 159) F (c_iald (p1 := 132) (p2 := 133) F (c_getr (p1 := 129) F 3 3 hg_3_3 (c_aload_n F k128 rfl) k129 lf_PageLayouterModel_13) (c_iload_n F k132 rfl) k133) (c_iald (p1 := 138) (p2 := 139) F (c_getr (p1 := 135) F 3 3 hg_3_3 (c_aload_n F k134 rfl) k135 lf_PageLayouterModel_13) (c_iload_n F k138 rfl) k139) k140 (by decide)) (c_bin 1 (p1 := 149) (p2 := 155) (c_iald (p1 := 147) (p2 := 148) F (c_getr (p1 := 144) F 3 24 hg_3_24 (c_aload_n F k143 rfl) k144 lf_PageLayouterModel_78) (c_iload_n F k147 rfl) k148) (c_iald (p1 := 153) (p2 := 154) F (c_getr (p1 := 150) F 3 25 hg_3_25 (c_aload_n F k149 rfl) k150 lf_PageLayouterModel_81) (c_iload_n F k153 rfl) k154) pl_c1 (j_iadd F k155)) k156 (by decide) (c_iald (p1 := 163) (p2 := 164) F (c_getr (p1 := 160) F 3 24 hg_3_24 (c_aload_n F k159 rfl) k160 lf_PageLayouterModel_78) (c_iload_n F k163 rfl) k164)) k165) (d_iinc F k166 (by decide) (hm 2 (by decide)))) k169 (by decide)))) (d_iinc F k172 (by decide) (hm 1 (by decide)))) k175 (by decide))))) (d_retv F Fm.2.1 Fm.2.2.1 k178)))
def y_Mo_has : MethodName := ⟨"PageLayouterModel", "has", "(III)Z"⟩
abbrev b_Mo_has : ByteArray := prog_10_method_46_code
abbrev n_Mo_has : Nat := 8
theorem y_Mo_has_ok : pl_MV 3 y_Mo_has b_Mo_has n_Mo_has (Option.some Jvm.ClassFile.FieldType.boolean) 3 := ⟨pl_mem 960 (by decide +kernel) (by decide +kernel), pl_mem 959 (by decide +kernel) (by decide +kernel), pl_mem 42 (by decide +kernel) (by decide +kernel), pl_mem 47 (by decide +kernel) (by decide +kernel), ⟨by decide, by decide, by decide +kernel⟩, _, rfl, rfl⟩
def D_Mo_has : List (Nat × Instr × Nat) := [(0, .aload_n 0, 1), (1, .getfield 57, 3), (4, .iload_n 1, 1), (5, .iaload, 1), (6, .i2l, 1), (7, .aload_n 0, 1), (8, .getfield 45, 3), (11, .iload_n 1, 1), (12, .iaload, 1), (13, .i2l, 1), (14, .ladd, 1), (15, .iconst 2, 1), (16, .aload_n 0, 1), (17, .iload_n 1, 1), (18, .invokevirtual 112, 3), (21, .imul, 1), (22, .i2l, 1), (23, .ladd, 1), (24, .lstore 4, 2), (26, .aload_n 0, 1), (27, .getfield 60, 3), (30, .iload_n 1, 1), (31, .iaload, 1), (32, .i2l, 1), (33, .aload_n 0, 1), (34, .getfield 48, 3), (37, .iload_n 1, 1), (38, .iaload, 1), (39, .i2l, 1), (40, .ladd, 1), (41, .iconst 2, 1), (42, .aload_n 0, 1), (43, .iload_n 1, 1), (44, .invokevirtual 112, 3), (47, .imul, 1), (48, .i2l, 1), (49, .ladd, 1), (50, .lstore 6, 2), (52, .iload_n 2, 1), (53, .aload_n 0, 1), (54, .getfield 57, 3), (57, .iload_n 1, 1), (58, .iaload, 1), (59, .if_icmp .lt 33, 3), (62, .iload_n 2, 1), (63, .i2l, 1), (64, .lload 4, 2), (66, .lcmp, 1), (67, .ifCond .ge 25, 3), (70, .iload_n 3, 1), (71, .aload_n 0, 1), (72, .getfield 60, 3), (75, .iload_n 1, 1), (76, .iaload, 1), (77, .if_icmp .lt 15, 3), (80, .iload_n 3, 1), (81, .i2l, 1), (82, .lload 6, 2), (84, .lcmp, 1), (85, .ifCond .ge 7, 3), (88, .iconst 1, 1), (89, .goto 4, 3), (92, .iconst 0, 1), (93, .ireturn, 1)]
theorem dd_Mo_has : (D_Mo_has.all fun q => decide (decode b_Mo_has q.1 = .ok q.2)) = true := by decide +kernel
def t_Mo_has : pl_TR := fun P _ _ => s_seq (s_setl 4 (e_bin (fun x y : Int64 => x + y) (e_bin (fun x y : Int64 => x + y) (e_un Int32.toInt64 (e_ald 1 (e_getr 3 17 (e_locr 0)) (e_loc 1))) (e_un Int32.toInt64 (e_ald 1 (e_getr 3 13 (e_locr 0)) (e_loc 1)))) (e_un Int32.toInt64 (e_bin (fun x y : Int32 => x * y) (e_int 2) (e_callV Value.int 3 t_Mo_padding n_Mo_padding (a_i (a_r a_nil (e_locr 0)) (e_loc 1))))))) (s_seq (s_setl 6 (e_bin (fun x y : Int64 => x + y) (e_bin (fun x y : Int64 => x + y) (e_un Int32.toInt64 (e_ald 1 (e_getr 3 18 (e_locr 0)) (e_loc 1))) (e_un Int32.toInt64 (e_ald 1 (e_getr 3 14 (e_locr 0)) (e_loc 1)))) (e_un Int32.toInt64 (e_bin (fun x y : Int32 => x * y) (e_int 2) (e_callV Value.int 3 t_Mo_padding n_Mo_padding (a_i (a_r a_nil (e_locr 0)) (e_loc 1))))))) (s_retz P (e_if (b_and (b_and (b_and (b_cmp .ge (e_loc 2) (e_ald 1 (e_getr 3 17 (e_locr 0)) (e_loc 1))) (b_lcmp .lt (e_un Int32.toInt64 (e_loc 2)) (e_locl 4))) (b_cmp .ge (e_loc 3) (e_ald 1 (e_getr 3 18 (e_locr 0)) (e_loc 1)))) (b_lcmp .lt (e_un Int32.toInt64 (e_loc 3)) (e_locl 6))) (e_int 1) (e_int 0))))
theorem z_Mo_has (l : Launch) : pl_Ctr l y_Mo_has b_Mo_has n_Mo_has (Option.some Jvm.ClassFile.FieldType.boolean) 1 21 0 0 false t_Mo_has := pl_ctr_of (pe := 0) (by decide) (fun X Y P F Fm => by
  have F : pl_Fx X Y "PageLayouterModel" b_Mo_has := F
  have r_Mo_padding : 0 + 1 ≤ (pl_xR X).frames ∧ 8 + (n_Mo_padding + 11) + 0 ≤ (pl_xR X).locals := ⟨Nat.le_trans (by decide) Fm.2.2.2.2.2.1, Nat.le_trans (by decide) Fm.2.2.2.2.2.2.1⟩
  have hm : ∀ i, i < 8 → i < (pl_xc X).maxLocals := fun i h => by rw [Fm.2.2.2.1]; exact h
  have k0 : decode b_Mo_has 0 = .ok (.aload_n 0, 1) := pl_dc dd_Mo_has 0 (q := (0, .aload_n 0, 1)) rfl
  have k1 : decode b_Mo_has 1 = .ok (.getfield 57, 3) := pl_dc dd_Mo_has 1 (q := (1, .getfield 57, 3)) rfl
  have k4 : decode b_Mo_has 4 = .ok (.iload_n 1, 1) := pl_dc dd_Mo_has 2 (q := (4, .iload_n 1, 1)) rfl
  have k5 : decode b_Mo_has 5 = .ok (.iaload, 1) := pl_dc dd_Mo_has 3 (q := (5, .iaload, 1)) rfl
  have k6 : decode b_Mo_has 6 = .ok (.i2l, 1) := pl_dc dd_Mo_has 4 (q := (6, .i2l, 1)) rfl
  have k7 : decode b_Mo_has 7 = .ok (.aload_n 0, 1) := pl_dc dd_Mo_has 5 (q := (7, .aload_n 0, 1)) rfl
  have k8 : decode b_Mo_has 8 = .ok (.getfield 45, 3) := pl_dc dd_Mo_has 6 (q := (8, .getfield 45, 3)) rfl
  have k11 : decode b_Mo_has 11 = .ok (.iload_n 1, 1) := pl_dc dd_Mo_has 7 (q := (11, .iload_n 1, 1)) rfl
  have k12 : decode b_Mo_has 12 = .ok (.iaload, 1) := pl_dc dd_Mo_has 8 (q := (12, .iaload, 1)) rfl
  have k13 : decode b_Mo_has 13 = .ok (.i2l, 1) := pl_dc dd_Mo_has 9 (q := (13, .i2l, 1)) rfl
  have k14 : decode b_Mo_has 14 = .ok (.ladd, 1) := pl_dc dd_Mo_has 10 (q := (14, .ladd, 1)) rfl
  have k15 : decode b_Mo_has 15 = .ok (.iconst 2, 1) := pl_dc dd_Mo_has 11 (q := (15, .iconst 2, 1)) rfl
  have k16 : decode b_Mo_has 16 = .ok (.aload_n 0, 1) := pl_dc dd_Mo_has 12 (q := (16, .aload_n 0, 1)) rfl
  have k17 : decode b_Mo_has 17 = .ok (.iload_n 1, 1) := pl_dc dd_Mo_has 13 (q := (17, .iload_n 1, 1)) rfl
  have k18 : decode b_Mo_has 18 = .ok (.invokevirtual 112, 3) := pl_dc dd_Mo_has 14 (q := (18, .invokevirtual 112, 3)) rfl
  have k21 : decode b_Mo_has 21 = .ok (.imul, 1) := pl_dc dd_Mo_has 15 (q := (21, .imul, 1)) rfl
  have k22 : decode b_Mo_has 22 = .ok (.i2l, 1) := pl_dc dd_Mo_has 16 (q := (22, .i2l, 1)) rfl
  have k23 : decode b_Mo_has 23 = .ok (.ladd, 1) := pl_dc dd_Mo_has 17 (q := (23, .ladd, 1)) rfl
  have k24 : decode b_Mo_has 24 = .ok (.lstore 4, 2) := pl_dc dd_Mo_has 18 (q := (24, .lstore 4, 2)) rfl
  have k26 : decode b_Mo_has 26 = .ok (.aload_n 0, 1) := pl_dc dd_Mo_has 19 (q := (26, .aload_n 0, 1)) rfl
  have k27 : decode b_Mo_has 27 = .ok (.getfield 60, 3) := pl_dc dd_Mo_has 20 (q := (27, .getfield 60, 3)) rfl
  have k30 : decode b_Mo_has 30 = .ok (.iload_n 1, 1) := pl_dc dd_Mo_has 21 (q := (30, .iload_n 1, 1)) rfl
  have k31 : decode b_Mo_has 31 = .ok (.iaload, 1) := pl_dc dd_Mo_has 22 (q := (31, .iaload, 1)) rfl
  have k32 : decode b_Mo_has 32 = .ok (.i2l, 1) := pl_dc dd_Mo_has 23 (q := (32, .i2l, 1)) rfl
  have k33 : decode b_Mo_has 33 = .ok (.aload_n 0, 1) := pl_dc dd_Mo_has 24 (q := (33, .aload_n 0, 1)) rfl
  have k34 : decode b_Mo_has 34 = .ok (.getfield 48, 3) := pl_dc dd_Mo_has 25 (q := (34, .getfield 48, 3)) rfl
  have k37 : decode b_Mo_has 37 = .ok (.iload_n 1, 1) := pl_dc dd_Mo_has 26 (q := (37, .iload_n 1, 1)) rfl
  have k38 : decode b_Mo_has 38 = .ok (.iaload, 1) := pl_dc dd_Mo_has 27 (q := (38, .iaload, 1)) rfl
  have k39 : decode b_Mo_has 39 = .ok (.i2l, 1) := pl_dc dd_Mo_has 28 (q := (39, .i2l, 1)) rfl
  have k40 : decode b_Mo_has 40 = .ok (.ladd, 1) := pl_dc dd_Mo_has 29 (q := (40, .ladd, 1)) rfl
  have k41 : decode b_Mo_has 41 = .ok (.iconst 2, 1) := pl_dc dd_Mo_has 30 (q := (41, .iconst 2, 1)) rfl
  have k42 : decode b_Mo_has 42 = .ok (.aload_n 0, 1) := pl_dc dd_Mo_has 31 (q := (42, .aload_n 0, 1)) rfl
  have k43 : decode b_Mo_has 43 = .ok (.iload_n 1, 1) := pl_dc dd_Mo_has 32 (q := (43, .iload_n 1, 1)) rfl
  have k44 : decode b_Mo_has 44 = .ok (.invokevirtual 112, 3) := pl_dc dd_Mo_has 33 (q := (44, .invokevirtual 112, 3)) rfl
  have k47 : decode b_Mo_has 47 = .ok (.imul, 1) := pl_dc dd_Mo_has 34 (q := (47, .imul, 1)) rfl
  have k48 : decode b_Mo_has 48 = .ok (.i2l, 1) := pl_dc dd_Mo_has 35 (q := (48, .i2l, 1)) rfl
  have k49 : decode b_Mo_has 49 = .ok (.ladd, 1) := pl_dc dd_Mo_has 36 (q := (49, .ladd, 1)) rfl
  have k50 : decode b_Mo_has 50 = .ok (.lstore 6, 2) := pl_dc dd_Mo_has 37 (q := (50, .lstore 6, 2)) rfl
  have k52 : decode b_Mo_has 52 = .ok (.iload_n 2, 1) := pl_dc dd_Mo_has 38 (q := (52, .iload_n 2, 1)) rfl
  have k53 : decode b_Mo_has 53 = .ok (.aload_n 0, 1) := pl_dc dd_Mo_has 39 (q := (53, .aload_n 0, 1)) rfl
  have k54 : decode b_Mo_has 54 = .ok (.getfield 57, 3) := pl_dc dd_Mo_has 40 (q := (54, .getfield 57, 3)) rfl
  have k57 : decode b_Mo_has 57 = .ok (.iload_n 1, 1) := pl_dc dd_Mo_has 41 (q := (57, .iload_n 1, 1)) rfl
  have k58 : decode b_Mo_has 58 = .ok (.iaload, 1) := pl_dc dd_Mo_has 42 (q := (58, .iaload, 1)) rfl
  have k59 : decode b_Mo_has 59 = .ok (.if_icmp .lt 33, 3) := pl_dc dd_Mo_has 43 (q := (59, .if_icmp .lt 33, 3)) rfl
  have k62 : decode b_Mo_has 62 = .ok (.iload_n 2, 1) := pl_dc dd_Mo_has 44 (q := (62, .iload_n 2, 1)) rfl
  have k63 : decode b_Mo_has 63 = .ok (.i2l, 1) := pl_dc dd_Mo_has 45 (q := (63, .i2l, 1)) rfl
  have k64 : decode b_Mo_has 64 = .ok (.lload 4, 2) := pl_dc dd_Mo_has 46 (q := (64, .lload 4, 2)) rfl
  have k66 : decode b_Mo_has 66 = .ok (.lcmp, 1) := pl_dc dd_Mo_has 47 (q := (66, .lcmp, 1)) rfl
  have k67 : decode b_Mo_has 67 = .ok (.ifCond .ge 25, 3) := pl_dc dd_Mo_has 48 (q := (67, .ifCond .ge 25, 3)) rfl
  have k70 : decode b_Mo_has 70 = .ok (.iload_n 3, 1) := pl_dc dd_Mo_has 49 (q := (70, .iload_n 3, 1)) rfl
  have k71 : decode b_Mo_has 71 = .ok (.aload_n 0, 1) := pl_dc dd_Mo_has 50 (q := (71, .aload_n 0, 1)) rfl
  have k72 : decode b_Mo_has 72 = .ok (.getfield 60, 3) := pl_dc dd_Mo_has 51 (q := (72, .getfield 60, 3)) rfl
  have k75 : decode b_Mo_has 75 = .ok (.iload_n 1, 1) := pl_dc dd_Mo_has 52 (q := (75, .iload_n 1, 1)) rfl
  have k76 : decode b_Mo_has 76 = .ok (.iaload, 1) := pl_dc dd_Mo_has 53 (q := (76, .iaload, 1)) rfl
  have k77 : decode b_Mo_has 77 = .ok (.if_icmp .lt 15, 3) := pl_dc dd_Mo_has 54 (q := (77, .if_icmp .lt 15, 3)) rfl
  have k80 : decode b_Mo_has 80 = .ok (.iload_n 3, 1) := pl_dc dd_Mo_has 55 (q := (80, .iload_n 3, 1)) rfl
  have k81 : decode b_Mo_has 81 = .ok (.i2l, 1) := pl_dc dd_Mo_has 56 (q := (81, .i2l, 1)) rfl
  have k82 : decode b_Mo_has 82 = .ok (.lload 6, 2) := pl_dc dd_Mo_has 57 (q := (82, .lload 6, 2)) rfl
  have k84 : decode b_Mo_has 84 = .ok (.lcmp, 1) := pl_dc dd_Mo_has 58 (q := (84, .lcmp, 1)) rfl
  have k85 : decode b_Mo_has 85 = .ok (.ifCond .ge 7, 3) := pl_dc dd_Mo_has 59 (q := (85, .ifCond .ge 7, 3)) rfl
  have k88 : decode b_Mo_has 88 = .ok (.iconst 1, 1) := pl_dc dd_Mo_has 60 (q := (88, .iconst 1, 1)) rfl
  have k89 : decode b_Mo_has 89 = .ok (.goto 4, 3) := pl_dc dd_Mo_has 61 (q := (89, .goto 4, 3)) rfl
  have k92 : decode b_Mo_has 92 = .ok (.iconst 0, 1) := pl_dc dd_Mo_has 62 (q := (92, .iconst 0, 1)) rfl
  have k93 : decode b_Mo_has 93 = .ok (.ireturn, 1) := pl_dc dd_Mo_has 63 (q := (93, .ireturn, 1)) rfl
  exact (d_seq (p1 := 26) (d_lstore (p1 := 24) F (c_bin 2 (p1 := 15) (p2 := 23) (c_bin 2 (p1 := 7) (p2 := 14) (c_un (p1 := 6) (c_iald (p1 := 4) (p2 := 5) F (c_getr (p1 := 1) F 3 17 hg_3_17 (c_aload_n F k0 rfl) k1 lf_PageLayouterModel_57) (c_iload_n F k4 rfl) k5) (j_i2l F k6)) (c_un (p1 := 13) (c_iald (p1 := 11) (p2 := 12) F (c_getr (p1 := 8) F 3 13 hg_3_13 (c_aload_n F k7 rfl) k8 lf_PageLayouterModel_45) (c_iload_n F k11 rfl) k12) (j_i2l F k13)) pl_c2 (j_ladd F k14)) (c_un (p1 := 22) (c_bin 1 (p1 := 16) (p2 := 21) (c_iconst F k15 (by decide)) (c_callV (p1 := 18) F (a_i_ok (p1 := 17) (a_r_ok (p1 := 16) a_nil_ok (c_aload_n F k16 rfl)) (c_iload_n F k17 rfl)) (z_Mo_padding _) y_Mo_padding_ok lm_PageLayouterModel_112 k18 r_Mo_padding (by decide) (by decide)) pl_c1 (j_imul F k21)) (j_i2l F k22)) pl_c2 (j_ladd F k23)) k24 (hm 5 (by decide))) (d_seq (p1 := 52) (d_lstore (p1 := 50) F (c_bin 2 (p1 := 41) (p2 := 49) (c_bin 2 (p1 := 33) (p2 := 40) (c_un (p1 := 32) (c_iald (p1 := 30) (p2 := 31) F (c_getr (p1 := 27) F 3 18 hg_3_18 (c_aload_n F k26 rfl) k27 lf_PageLayouterModel_60) (c_iload_n F k30 rfl) k31) (j_i2l F k32)) (c_un (p1 := 39) (c_iald (p1 := 37) (p2 := 38) F (c_getr (p1 := 34) F 3 14 hg_3_14 (c_aload_n F k33 rfl) k34 lf_PageLayouterModel_48) (c_iload_n F k37 rfl) k38) (j_i2l F k39)) pl_c2 (j_ladd F k40)) (c_un (p1 := 48) (c_bin 1 (p1 := 42) (p2 := 47) (c_iconst F k41 (by decide)) (c_callV (p1 := 44) F (a_i_ok (p1 := 43) (a_r_ok (p1 := 42) a_nil_ok (c_aload_n F k42 rfl)) (c_iload_n F k43 rfl)) (z_Mo_padding _) y_Mo_padding_ok lm_PageLayouterModel_112 k44 r_Mo_padding (by decide) (by decide)) pl_c1 (j_imul F k47)) (j_i2l F k48)) pl_c2 (j_ladd F k49)) k50 (hm 7 (by decide))) (d_retz (p1 := 93) F Fm.2.1 Fm.2.2.1 (c_if (p1 := 88) (p2 := 89) (p3 := 93) F (b_and_t (p1 := 80) (b_and_t (p1 := 70) (b_and_t (p1 := 62) (b_cmp_t (p1 := 53) (p2 := 59) (pj := 92) F (c_iload_n F k52 rfl) (c_iald (p1 := 57) (p2 := 58) F (c_getr (p1 := 54) F 3 17 hg_3_17 (c_aload_n F k53 rfl) k54 lf_PageLayouterModel_57) (c_iload_n F k57 rfl) k58) k59 (by decide)) (b_lcmp_t (p1 := 64) (p2 := 66) (pj := 92) F (c_un (p1 := 63) (c_iload_n F k62 rfl) (j_i2l F k63)) (c_lload F k64) k66 k67 (by decide))) (b_cmp_t (p1 := 71) (p2 := 77) (pj := 92) F (c_iload_n F k70 rfl) (c_iald (p1 := 75) (p2 := 76) F (c_getr (p1 := 72) F 3 18 hg_3_18 (c_aload_n F k71 rfl) k72 lf_PageLayouterModel_60) (c_iload_n F k75 rfl) k76) k77 (by decide))) (b_lcmp_t (p1 := 82) (p2 := 84) (pj := 92) F (c_un (p1 := 81) (c_iload_n F k80 rfl) (j_i2l F k81)) (c_lload F k82) k84 k85 (by decide))) (c_iconst F k88 (by decide)) k89 (by decide) (c_iconst F k92 (by decide))) k93))))
def y_Mo_hit : MethodName := ⟨"PageLayouterModel", "hit", "(II)I"⟩
abbrev b_Mo_hit : ByteArray := prog_10_method_47_code
abbrev n_Mo_hit : Nat := 7
theorem y_Mo_hit_ok : pl_MV 3 y_Mo_hit b_Mo_hit n_Mo_hit (Option.some Jvm.ClassFile.FieldType.int) 2 := ⟨pl_mem 952 (by decide +kernel) (by decide +kernel), pl_mem 950 (by decide +kernel) (by decide +kernel), pl_mem 951 (by decide +kernel) (by decide +kernel), pl_mem 47 (by decide +kernel) (by decide +kernel), ⟨by decide, by decide, by decide +kernel⟩, _, rfl, rfl⟩
def D_Mo_hit : List (Nat × Instr × Nat) := [(0, .aload_n 0, 1), (1, .aload_n 0, 1), (2, .getfield 91, 3), (5, .ifCond .eq 7, 3), (8, .iconst 0, 1), (9, .goto 4, 3), (12, .iconst 1, 1), (13, .putfield 88, 3), (16, .aload_n 0, 1), (17, .getfield 88, 3), (20, .ifCond .le 5, 3), (23, .iconst 0, 1), (24, .ireturn, 1), (25, .aload_n 0, 1), (26, .invokevirtual 199, 3), (29, .iconst (-1), 1), (30, .istore_n 3, 1), (31, .iconst 0, 1), (32, .istore 4, 2), (34, .iload 4, 2), (36, .aload_n 0, 1), (37, .getfield 7, 3), (40, .if_icmp .ge 108, 3), (43, .aload_n 0, 1), (44, .iload 4, 2), (46, .iload_n 1, 1), (47, .iload_n 2, 1), (48, .invokevirtual 202, 3), (51, .ifCond .eq 91, 3), (54, .aload_n 0, 1), (55, .getfield 23, 3), (58, .bipush 12, 2), (60, .iload 4, 2), (62, .imul, 1), (63, .bipush 8, 2), (65, .iadd, 1), (66, .iaload, 1), (67, .istore 5, 2), (69, .iload_n 3, 1), (70, .ifCond .lt 53, 3), (73, .iload 5, 2), (75, .aload_n 0, 1), (76, .getfield 23, 3), (79, .bipush 12, 2), (81, .iload_n 3, 1), (82, .imul, 1), (83, .bipush 8, 2), (85, .iadd, 1), (86, .iaload, 1), (87, .if_icmp .gt 36, 3), (90, .iload 5, 2), (92, .aload_n 0, 1), (93, .getfield 23, 3), (96, .bipush 12, 2), (98, .iload_n 3, 1), (99, .imul, 1), (100, .bipush 8, 2), (102, .iadd, 1), (103, .iaload, 1), (104, .if_icmp .ne 23, 3), (107, .aload_n 0, 1), (108, .getfield 78, 3), (111, .iload 4, 2), (113, .iaload, 1), (114, .aload_n 0, 1), (115, .getfield 78, 3), (118, .iload_n 3, 1), (119, .iaload, 1), (120, .if_icmp .le 7, 3), (123, .iconst 1, 1), (124, .goto 4, 3), (127, .iconst 0, 1), (128, .istore 6, 2), (130, .iload 6, 2), (132, .ifCond .eq 8, 3), (135, .iload 4, 2), (137, .goto 4, 3), (140, .iload_n 3, 1), (141, .istore_n 3, 1), (142, .iinc 4 1, 3), (145, .goto (-111), 3), (148, .iload_n 3, 1), (149, .ireturn, 1)]
theorem dd_Mo_hit : (D_Mo_hit.all fun q => decide (decode b_Mo_hit q.1 = .ok q.2)) = true := by decide +kernel
def t_Mo_hit : pl_TR := fun P _ _ => s_seq (s_puti 3 0 (e_locr 0) (e_if (b_zero .ne (e_geti 3 2 (e_locr 0))) (e_int 0) (e_int 1))) (s_seq (s_if (b_zero .gt (e_geti 3 0 (e_locr 0))) (s_reti P (e_int 0))) (s_seq (s_callV 3 t_Mo_findRanks n_Mo_findRanks (a_r a_nil (e_locr 0))) (s_seq (s_seti 3 (e_int (-1))) (s_seq (s_seq (s_seti 4 (e_int 0)) (s_while (b_cmp .lt (e_loc 4) (e_geti 3 1 (e_locr 0))) (s_seq (s_if (b_zero .ne (e_callV Value.int 3 t_Mo_has n_Mo_has (a_i (a_i (a_i (a_r a_nil (e_locr 0)) (e_loc 4)) (e_loc 1)) (e_loc 2)))) (s_seq (s_seti 5 (e_ald 1 (e_getr 3 6 (e_locr 0)) (e_bin (fun x y : Int32 => x + y) (e_bin (fun x y : Int32 => x * y) (e_int 12) (e_loc 4)) (e_int 8)))) (s_seq (s_seti 6 (e_if (b_or (b_or (b_zero .lt (e_loc 3)) (b_cmp .gt (e_loc 5) (e_ald 1 (e_getr 3 6 (e_locr 0)) (e_bin (fun x y : Int32 => x + y) (e_bin (fun x y : Int32 => x * y) (e_int 12) (e_loc 3)) (e_int 8))))) (b_and (b_cmp .eq (e_loc 5) (e_ald 1 (e_getr 3 6 (e_locr 0)) (e_bin (fun x y : Int32 => x + y) (e_bin (fun x y : Int32 => x * y) (e_int 12) (e_loc 3)) (e_int 8)))) (b_cmp .gt (e_ald 1 (e_getr 3 24 (e_locr 0)) (e_loc 4)) (e_ald 1 (e_getr 3 24 (e_locr 0)) (e_loc 3))))) (e_int 1) (e_int 0))) (s_seti 3 (e_if (b_zero .ne (e_loc 6)) (e_loc 4) (e_loc 3)))))) (s_inc 4 1)))) (s_reti P (e_loc 3))))))
theorem z_Mo_hit (l : Launch) : pl_Ctr l y_Mo_hit b_Mo_hit n_Mo_hit (Option.some Jvm.ClassFile.FieldType.int) 2 48 0 0 false t_Mo_hit := pl_ctr_of (pe := 0) (by decide) (fun X Y P F Fm => by
  have F : pl_Fx X Y "PageLayouterModel" b_Mo_hit := F
  have r_Mo_findRanks : 0 + 1 ≤ (pl_xR X).frames ∧ 8 + (n_Mo_findRanks + 11) + 0 ≤ (pl_xR X).locals := ⟨Nat.le_trans (by decide) Fm.2.2.2.2.2.1, Nat.le_trans (by decide) Fm.2.2.2.2.2.2.1⟩
  have r_Mo_has : 1 + 1 ≤ (pl_xR X).frames ∧ 8 + (n_Mo_has + 11) + 21 ≤ (pl_xR X).locals := ⟨Nat.le_trans (by decide) Fm.2.2.2.2.2.1, Nat.le_trans (by decide) Fm.2.2.2.2.2.2.1⟩
  have hm : ∀ i, i < 7 → i < (pl_xc X).maxLocals := fun i h => by rw [Fm.2.2.2.1]; exact h
  have k0 : decode b_Mo_hit 0 = .ok (.aload_n 0, 1) := pl_dc dd_Mo_hit 0 (q := (0, .aload_n 0, 1)) rfl
  have k1 : decode b_Mo_hit 1 = .ok (.aload_n 0, 1) := pl_dc dd_Mo_hit 1 (q := (1, .aload_n 0, 1)) rfl
  have k2 : decode b_Mo_hit 2 = .ok (.getfield 91, 3) := pl_dc dd_Mo_hit 2 (q := (2, .getfield 91, 3)) rfl
  have k5 : decode b_Mo_hit 5 = .ok (.ifCond .eq 7, 3) := pl_dc dd_Mo_hit 3 (q := (5, .ifCond .eq 7, 3)) rfl
  have k8 : decode b_Mo_hit 8 = .ok (.iconst 0, 1) := pl_dc dd_Mo_hit 4 (q := (8, .iconst 0, 1)) rfl
  have k9 : decode b_Mo_hit 9 = .ok (.goto 4, 3) := pl_dc dd_Mo_hit 5 (q := (9, .goto 4, 3)) rfl
  have k12 : decode b_Mo_hit 12 = .ok (.iconst 1, 1) := pl_dc dd_Mo_hit 6 (q := (12, .iconst 1, 1)) rfl
  have k13 : decode b_Mo_hit 13 = .ok (.putfield 88, 3) := pl_dc dd_Mo_hit 7 (q := (13, .putfield 88, 3)) rfl
  have k16 : decode b_Mo_hit 16 = .ok (.aload_n 0, 1) := pl_dc dd_Mo_hit 8 (q := (16, .aload_n 0, 1)) rfl
  have k17 : decode b_Mo_hit 17 = .ok (.getfield 88, 3) := pl_dc dd_Mo_hit 9 (q := (17, .getfield 88, 3)) rfl
  have k20 : decode b_Mo_hit 20 = .ok (.ifCond .le 5, 3) := pl_dc dd_Mo_hit 10 (q := (20, .ifCond .le 5, 3)) rfl
  have k23 : decode b_Mo_hit 23 = .ok (.iconst 0, 1) := pl_dc dd_Mo_hit 11 (q := (23, .iconst 0, 1)) rfl
  have k24 : decode b_Mo_hit 24 = .ok (.ireturn, 1) := pl_dc dd_Mo_hit 12 (q := (24, .ireturn, 1)) rfl
  have k25 : decode b_Mo_hit 25 = .ok (.aload_n 0, 1) := pl_dc dd_Mo_hit 13 (q := (25, .aload_n 0, 1)) rfl
  have k26 : decode b_Mo_hit 26 = .ok (.invokevirtual 199, 3) := pl_dc dd_Mo_hit 14 (q := (26, .invokevirtual 199, 3)) rfl
  have k29 : decode b_Mo_hit 29 = .ok (.iconst (-1), 1) := pl_dc dd_Mo_hit 15 (q := (29, .iconst (-1), 1)) rfl
  have k30 : decode b_Mo_hit 30 = .ok (.istore_n 3, 1) := pl_dc dd_Mo_hit 16 (q := (30, .istore_n 3, 1)) rfl
  have k31 : decode b_Mo_hit 31 = .ok (.iconst 0, 1) := pl_dc dd_Mo_hit 17 (q := (31, .iconst 0, 1)) rfl
  have k32 : decode b_Mo_hit 32 = .ok (.istore 4, 2) := pl_dc dd_Mo_hit 18 (q := (32, .istore 4, 2)) rfl
  have k34 : decode b_Mo_hit 34 = .ok (.iload 4, 2) := pl_dc dd_Mo_hit 19 (q := (34, .iload 4, 2)) rfl
  have k36 : decode b_Mo_hit 36 = .ok (.aload_n 0, 1) := pl_dc dd_Mo_hit 20 (q := (36, .aload_n 0, 1)) rfl
  have k37 : decode b_Mo_hit 37 = .ok (.getfield 7, 3) := pl_dc dd_Mo_hit 21 (q := (37, .getfield 7, 3)) rfl
  have k40 : decode b_Mo_hit 40 = .ok (.if_icmp .ge 108, 3) := pl_dc dd_Mo_hit 22 (q := (40, .if_icmp .ge 108, 3)) rfl
  have k43 : decode b_Mo_hit 43 = .ok (.aload_n 0, 1) := pl_dc dd_Mo_hit 23 (q := (43, .aload_n 0, 1)) rfl
  have k44 : decode b_Mo_hit 44 = .ok (.iload 4, 2) := pl_dc dd_Mo_hit 24 (q := (44, .iload 4, 2)) rfl
  have k46 : decode b_Mo_hit 46 = .ok (.iload_n 1, 1) := pl_dc dd_Mo_hit 25 (q := (46, .iload_n 1, 1)) rfl
  have k47 : decode b_Mo_hit 47 = .ok (.iload_n 2, 1) := pl_dc dd_Mo_hit 26 (q := (47, .iload_n 2, 1)) rfl
  have k48 : decode b_Mo_hit 48 = .ok (.invokevirtual 202, 3) := pl_dc dd_Mo_hit 27 (q := (48, .invokevirtual 202, 3)) rfl
  have k51 : decode b_Mo_hit 51 = .ok (.ifCond .eq 91, 3) := pl_dc dd_Mo_hit 28 (q := (51, .ifCond .eq 91, 3)) rfl
  have k54 : decode b_Mo_hit 54 = .ok (.aload_n 0, 1) := pl_dc dd_Mo_hit 29 (q := (54, .aload_n 0, 1)) rfl
  have k55 : decode b_Mo_hit 55 = .ok (.getfield 23, 3) := pl_dc dd_Mo_hit 30 (q := (55, .getfield 23, 3)) rfl
  have k58 : decode b_Mo_hit 58 = .ok (.bipush 12, 2) := pl_dc dd_Mo_hit 31 (q := (58, .bipush 12, 2)) rfl
  have k60 : decode b_Mo_hit 60 = .ok (.iload 4, 2) := pl_dc dd_Mo_hit 32 (q := (60, .iload 4, 2)) rfl
  have k62 : decode b_Mo_hit 62 = .ok (.imul, 1) := pl_dc dd_Mo_hit 33 (q := (62, .imul, 1)) rfl
  have k63 : decode b_Mo_hit 63 = .ok (.bipush 8, 2) := pl_dc dd_Mo_hit 34 (q := (63, .bipush 8, 2)) rfl
  have k65 : decode b_Mo_hit 65 = .ok (.iadd, 1) := pl_dc dd_Mo_hit 35 (q := (65, .iadd, 1)) rfl
  have k66 : decode b_Mo_hit 66 = .ok (.iaload, 1) := pl_dc dd_Mo_hit 36 (q := (66, .iaload, 1)) rfl
  have k67 : decode b_Mo_hit 67 = .ok (.istore 5, 2) := pl_dc dd_Mo_hit 37 (q := (67, .istore 5, 2)) rfl
  have k69 : decode b_Mo_hit 69 = .ok (.iload_n 3, 1) := pl_dc dd_Mo_hit 38 (q := (69, .iload_n 3, 1)) rfl
  have k70 : decode b_Mo_hit 70 = .ok (.ifCond .lt 53, 3) := pl_dc dd_Mo_hit 39 (q := (70, .ifCond .lt 53, 3)) rfl
  have k73 : decode b_Mo_hit 73 = .ok (.iload 5, 2) := pl_dc dd_Mo_hit 40 (q := (73, .iload 5, 2)) rfl
  have k75 : decode b_Mo_hit 75 = .ok (.aload_n 0, 1) := pl_dc dd_Mo_hit 41 (q := (75, .aload_n 0, 1)) rfl
  have k76 : decode b_Mo_hit 76 = .ok (.getfield 23, 3) := pl_dc dd_Mo_hit 42 (q := (76, .getfield 23, 3)) rfl
  have k79 : decode b_Mo_hit 79 = .ok (.bipush 12, 2) := pl_dc dd_Mo_hit 43 (q := (79, .bipush 12, 2)) rfl
  have k81 : decode b_Mo_hit 81 = .ok (.iload_n 3, 1) := pl_dc dd_Mo_hit 44 (q := (81, .iload_n 3, 1)) rfl
  have k82 : decode b_Mo_hit 82 = .ok (.imul, 1) := pl_dc dd_Mo_hit 45 (q := (82, .imul, 1)) rfl
  have k83 : decode b_Mo_hit 83 = .ok (.bipush 8, 2) := pl_dc dd_Mo_hit 46 (q := (83, .bipush 8, 2)) rfl
  have k85 : decode b_Mo_hit 85 = .ok (.iadd, 1) := pl_dc dd_Mo_hit 47 (q := (85, .iadd, 1)) rfl
  have k86 : decode b_Mo_hit 86 = .ok (.iaload, 1) := pl_dc dd_Mo_hit 48 (q := (86, .iaload, 1)) rfl
  have k87 : decode b_Mo_hit 87 = .ok (.if_icmp .gt 36, 3) := pl_dc dd_Mo_hit 49 (q := (87, .if_icmp .gt 36, 3)) rfl
  have k90 : decode b_Mo_hit 90 = .ok (.iload 5, 2) := pl_dc dd_Mo_hit 50 (q := (90, .iload 5, 2)) rfl
  have k92 : decode b_Mo_hit 92 = .ok (.aload_n 0, 1) := pl_dc dd_Mo_hit 51 (q := (92, .aload_n 0, 1)) rfl
  have k93 : decode b_Mo_hit 93 = .ok (.getfield 23, 3) := pl_dc dd_Mo_hit 52 (q := (93, .getfield 23, 3)) rfl
  have k96 : decode b_Mo_hit 96 = .ok (.bipush 12, 2) := pl_dc dd_Mo_hit 53 (q := (96, .bipush 12, 2)) rfl
  have k98 : decode b_Mo_hit 98 = .ok (.iload_n 3, 1) := pl_dc dd_Mo_hit 54 (q := (98, .iload_n 3, 1)) rfl
  have k99 : decode b_Mo_hit 99 = .ok (.imul, 1) := pl_dc dd_Mo_hit 55 (q := (99, .imul, 1)) rfl
  have k100 : decode b_Mo_hit 100 = .ok (.bipush 8, 2) := pl_dc dd_Mo_hit 56 (q := (100, .bipush 8, 2)) rfl
  have k102 : decode b_Mo_hit 102 = .ok (.iadd, 1) := pl_dc dd_Mo_hit 57 (q := (102, .iadd, 1)) rfl
  have k103 : decode b_Mo_hit 103 = .ok (.iaload, 1) := pl_dc dd_Mo_hit 58 (q := (103, .iaload, 1)) rfl
  have k104 : decode b_Mo_hit 104 = .ok (.if_icmp .ne 23, 3) := pl_dc dd_Mo_hit 59 (q := (104, .if_icmp .ne 23, 3)) rfl
  have k107 : decode b_Mo_hit 107 = .ok (.aload_n 0, 1) := pl_dc dd_Mo_hit 60 (q := (107, .aload_n 0, 1)) rfl
  have k108 : decode b_Mo_hit 108 = .ok (.getfield 78, 3) := pl_dc dd_Mo_hit 61 (q := (108, .getfield 78, 3)) rfl
  have k111 : decode b_Mo_hit 111 = .ok (.iload 4, 2) := pl_dc dd_Mo_hit 62 (q := (111, .iload 4, 2)) rfl
  have k113 : decode b_Mo_hit 113 = .ok (.iaload, 1) := pl_dc dd_Mo_hit 63 (q := (113, .iaload, 1)) rfl
  have k114 : decode b_Mo_hit 114 = .ok (.aload_n 0, 1) := pl_dc dd_Mo_hit 64 (q := (114, .aload_n 0, 1)) rfl
  have k115 : decode b_Mo_hit 115 = .ok (.getfield 78, 3) := pl_dc dd_Mo_hit 65 (q := (115, .getfield 78, 3)) rfl
  have k118 : decode b_Mo_hit 118 = .ok (.iload_n 3, 1) := pl_dc dd_Mo_hit 66 (q := (118, .iload_n 3, 1)) rfl
  have k119 : decode b_Mo_hit 119 = .ok (.iaload, 1) := pl_dc dd_Mo_hit 67 (q := (119, .iaload, 1)) rfl
  have k120 : decode b_Mo_hit 120 = .ok (.if_icmp .le 7, 3) := pl_dc dd_Mo_hit 68 (q := (120, .if_icmp .le 7, 3)) rfl
  have k123 : decode b_Mo_hit 123 = .ok (.iconst 1, 1) := pl_dc dd_Mo_hit 69 (q := (123, .iconst 1, 1)) rfl
  have k124 : decode b_Mo_hit 124 = .ok (.goto 4, 3) := pl_dc dd_Mo_hit 70 (q := (124, .goto 4, 3)) rfl
  have k127 : decode b_Mo_hit 127 = .ok (.iconst 0, 1) := pl_dc dd_Mo_hit 71 (q := (127, .iconst 0, 1)) rfl
  have k128 : decode b_Mo_hit 128 = .ok (.istore 6, 2) := pl_dc dd_Mo_hit 72 (q := (128, .istore 6, 2)) rfl
  have k130 : decode b_Mo_hit 130 = .ok (.iload 6, 2) := pl_dc dd_Mo_hit 73 (q := (130, .iload 6, 2)) rfl
  have k132 : decode b_Mo_hit 132 = .ok (.ifCond .eq 8, 3) := pl_dc dd_Mo_hit 74 (q := (132, .ifCond .eq 8, 3)) rfl
  have k135 : decode b_Mo_hit 135 = .ok (.iload 4, 2) := pl_dc dd_Mo_hit 75 (q := (135, .iload 4, 2)) rfl
  have k137 : decode b_Mo_hit 137 = .ok (.goto 4, 3) := pl_dc dd_Mo_hit 76 (q := (137, .goto 4, 3)) rfl
  have k140 : decode b_Mo_hit 140 = .ok (.iload_n 3, 1) := pl_dc dd_Mo_hit 77 (q := (140, .iload_n 3, 1)) rfl
  have k141 : decode b_Mo_hit 141 = .ok (.istore_n 3, 1) := pl_dc dd_Mo_hit 78 (q := (141, .istore_n 3, 1)) rfl
  have k142 : decode b_Mo_hit 142 = .ok (.iinc 4 1, 3) := pl_dc dd_Mo_hit 79 (q := (142, .iinc 4 1, 3)) rfl
  have k145 : decode b_Mo_hit 145 = .ok (.goto (-111), 3) := pl_dc dd_Mo_hit 80 (q := (145, .goto (-111), 3)) rfl
  have k148 : decode b_Mo_hit 148 = .ok (.iload_n 3, 1) := pl_dc dd_Mo_hit 81 (q := (148, .iload_n 3, 1)) rfl
  have k149 : decode b_Mo_hit 149 = .ok (.ireturn, 1) := pl_dc dd_Mo_hit 82 (q := (149, .ireturn, 1)) rfl
  exact (d_seq (p1 := 16) (d_puti (p1 := 1) (p2 := 13) F 3 0 hp_3_0 (c_aload_n F k0 rfl) (c_if (p1 := 8) (p2 := 9) (p3 := 13) F (b_zero_t (p1 := 5) (pj := 12) F (c_geti (p1 := 2) F 3 2 hg_3_2 (c_aload_n F k1 rfl) k2 lf_PageLayouterModel_91) k5 (by decide)) (c_iconst F k8 (by decide)) k9 (by decide) (c_iconst F k12 (by decide))) k13 lf_PageLayouterModel_88) (d_seq (p1 := 25) (d_if (p1 := 23) (p2 := 25) (b_zero_t (p1 := 20) (pj := 25) F (c_geti (p1 := 17) F 3 0 hg_3_0 (c_aload_n F k16 rfl) k17 lf_PageLayouterModel_88) k20 (by decide)) (d_reti (p1 := 24) F Fm.2.1 Fm.2.2.1 (c_iconst F k23 (by decide)) k24)) (d_seq (p1 := 29) (d_callV (p1 := 26) F (a_r_ok (p1 := 25) a_nil_ok (c_aload_n F k25 rfl)) (z_Mo_findRanks _) y_Mo_findRanks_ok lm_PageLayouterModel_199 k26 r_Mo_findRanks (by decide)) (d_seq (p1 := 31) (d_istore_n (p1 := 30) F (c_iconst F k29 (by decide)) k30 rfl (hm 3 (by decide))) (d_seq (p1 := 148) (d_seq (p1 := 34) (d_istore (p1 := 32) F (c_iconst F k31 (by decide)) k32 (hm 4 (by decide))) (d_while (p1 := 43) (p2 := 145) F (b_cmp_t (p1 := 36) (p2 := 40) (pj := 148) F (c_iload F k34) (c_geti (p1 := 37) F 3 1 hg_3_1 (c_aload_n F k36 rfl) k37 lf_PageLayouterModel_7) k40 (by decide)) (d_seq (p1 := 142) (d_if (p1 := 54) (p2 := 142) (b_zero_t (p1 := 51) (pj := 142) F (c_callV (p1 := 48) F (a_i_ok (p1 := 47) (a_i_ok (p1 := 46) (a_i_ok (p1 := 44) (a_r_ok (p1 := 43) a_nil_ok (c_aload_n F k43 rfl)) (c_iload F k44)) (c_iload_n F k46 rfl)) (c_iload_n F k47 rfl)) (z_Mo_has _) y_Mo_has_ok lm_PageLayouterModel_202 k48 r_Mo_has (by decide) (by decide)) k51 (by decide)) (d_seq (p1 := 69) (d_istore (p1 := 67) F (c_iald (p1 := 58) (p2 := 66) F (c_getr (p1 := 55) F 3 6 hg_3_6 (c_aload_n F k54 rfl) k55 lf_PageLayouterModel_23) (c_bin 1 (p1 := 63) (p2 := 65) (c_bin 1 (p1 := 60) (p2 := 62) (c_bipush F k58 (by decide)) (c_iload F k60) pl_c1 (j_imul F k62)) (c_bipush F k63 (by decide)) pl_c1 (j_iadd F k65)) k66) k67 (hm 5 (by decide))) (d_seq (p1 := 130) (d_istore (p1 := 128) F (c_if (p1 := 123) (p2 := 124) (p3 := 128) F (b_or_t (p1 := 90) (b_or_f (p1 := 73) (b_zero_f (p1 := 70) (pj := 123) F (c_iload_n F k69 rfl) k70 (by decide)) (b_cmp_f (p1 := 75) (p2 := 87) (pj := 123) F (c_iload F k73) (c_iald (p1 := 79) (p2 := 86) F (c_getr (p1 := 76) F 3 6 hg_3_6 (c_aload_n F k75 rfl) k76 lf_PageLayouterModel_23) (c_bin 1 (p1 := 83) (p2 := 85) (c_bin 1 (p1 := 81) (p2 := 82) (c_bipush F k79 (by decide)) (c_iload_n F k81 rfl) pl_c1 (j_imul F k82)) (c_bipush F k83 (by decide)) pl_c1 (j_iadd F k85)) k86) k87 (by decide))) (b_and_t (p1 := 107) (b_cmp_t (p1 := 92) (p2 := 104) (pj := 127) F (c_iload F k90) (c_iald (p1 := 96) (p2 := 103) F (c_getr (p1 := 93) F 3 6 hg_3_6 (c_aload_n F k92 rfl) k93 lf_PageLayouterModel_23) (c_bin 1 (p1 := 100) (p2 := 102) (c_bin 1 (p1 := 98) (p2 := 99) (c_bipush F k96 (by decide)) (c_iload_n F k98 rfl) pl_c1 (j_imul F k99)) (c_bipush F k100 (by decide)) pl_c1 (j_iadd F k102)) k103) k104 (by decide)) (b_cmp_t (p1 := 114) (p2 := 120) (pj := 127) F (c_iald (p1 := 111) (p2 := 113) F (c_getr (p1 := 108) F 3 24 hg_3_24 (c_aload_n F k107 rfl) k108 lf_PageLayouterModel_78) (c_iload F k111) k113) (c_iald (p1 := 118) (p2 := 119) F (c_getr (p1 := 115) F 3 24 hg_3_24 (c_aload_n F k114 rfl) k115 lf_PageLayouterModel_78) (c_iload_n F k118 rfl) k119) k120 (by decide)))) (c_iconst F k123 (by decide)) k124 (by decide) (c_iconst F k127 (by decide))) k128 (hm 6 (by decide))) (d_istore_n (p1 := 141) F (c_if (p1 := 135) (p2 := 137) (p3 := 141) F (b_zero_t (p1 := 132) (pj := 140) F (c_iload F k130) k132 (by decide)) (c_iload F k135) k137 (by decide) (c_iload_n F k140 rfl)) k141 rfl (hm 3 (by decide)))))) (d_iinc F k142 (by decide) (hm 4 (by decide)))) k145 (by decide))) (d_reti (p1 := 149) F Fm.2.1 Fm.2.2.1 (c_iload_n F k148 rfl) k149)))))))
