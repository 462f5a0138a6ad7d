/-! Methods: a transformer for each, and that its bytes do it (laid by wip/whole/drive.py) -/
def y_Mo_padding : MethodName := ⟨"PageLayouterModel", "padding", "(I)I"⟩
abbrev b_Mo_padding : ByteArray := prog_10_method_13_code
abbrev n_Mo_padding : Nat := 2
theorem y_Mo_padding_ok : pl_MV 3 y_Mo_padding b_Mo_padding n_Mo_padding (Option.some Jvm.ClassFile.FieldType.int) 1 := ⟨pl_mem 857 (by decide +kernel) (by decide +kernel), pl_mem 856 (by decide +kernel) (by decide +kernel), pl_mem 22 (by decide +kernel) (by decide +kernel), pl_mem 47 (by decide +kernel) (by decide +kernel), ⟨by decide, by decide, by decide +kernel⟩, _, rfl, rfl⟩
def D_Mo_padding : List (Nat × Instr × Nat) := [(0, .aload_n 0, 1), (1, .getfield 30, 3), (4, .iload_n 1, 1), (5, .iaload, 1), (6, .iconst 3, 1), (7, .if_icmp .ne 7, 3), (10, .iconst 0, 1), (11, .goto 14, 3), (14, .aload_n 0, 1), (15, .getfield 23, 3), (18, .bipush 12, 2), (20, .iload_n 1, 1), (21, .imul, 1), (22, .iconst 3, 1), (23, .iadd, 1), (24, .iaload, 1), (25, .ireturn, 1)]
theorem dd_Mo_padding : (D_Mo_padding.all fun q => decide (decode b_Mo_padding q.1 = .ok q.2)) = true := by decide +kernel
def t_Mo_padding : pl_TR := fun P _ _ => s_reti P (e_if (b_cmp .eq (e_ald 1 (e_getr 3 8 (e_locr 0)) (e_loc 1)) (e_int 3)) (e_int 0) (e_ald 1 (e_getr 3 6 (e_locr 0)) (e_bin (fun x y : Int32 => x + y) (e_bin (fun x y : Int32 => x * y) (e_int 12) (e_loc 1)) (e_int 3))))
theorem z_Mo_padding (l : Launch) : pl_Ctr l y_Mo_padding b_Mo_padding n_Mo_padding (Option.some Jvm.ClassFile.FieldType.int) 0 0 0 0 false t_Mo_padding := pl_ctr_of (pe := 0) (by decide) (fun X Y P F Fm => by
  have F : pl_Fx X Y "PageLayouterModel" b_Mo_padding := F
  have k0 : decode b_Mo_padding 0 = .ok (.aload_n 0, 1) := pl_dc dd_Mo_padding 0 (q := (0, .aload_n 0, 1)) rfl
  have k1 : decode b_Mo_padding 1 = .ok (.getfield 30, 3) := pl_dc dd_Mo_padding 1 (q := (1, .getfield 30, 3)) rfl
  have k4 : decode b_Mo_padding 4 = .ok (.iload_n 1, 1) := pl_dc dd_Mo_padding 2 (q := (4, .iload_n 1, 1)) rfl
  have k5 : decode b_Mo_padding 5 = .ok (.iaload, 1) := pl_dc dd_Mo_padding 3 (q := (5, .iaload, 1)) rfl
  have k6 : decode b_Mo_padding 6 = .ok (.iconst 3, 1) := pl_dc dd_Mo_padding 4 (q := (6, .iconst 3, 1)) rfl
  have k7 : decode b_Mo_padding 7 = .ok (.if_icmp .ne 7, 3) := pl_dc dd_Mo_padding 5 (q := (7, .if_icmp .ne 7, 3)) rfl
  have k10 : decode b_Mo_padding 10 = .ok (.iconst 0, 1) := pl_dc dd_Mo_padding 6 (q := (10, .iconst 0, 1)) rfl
  have k11 : decode b_Mo_padding 11 = .ok (.goto 14, 3) := pl_dc dd_Mo_padding 7 (q := (11, .goto 14, 3)) rfl
  have k14 : decode b_Mo_padding 14 = .ok (.aload_n 0, 1) := pl_dc dd_Mo_padding 8 (q := (14, .aload_n 0, 1)) rfl
  have k15 : decode b_Mo_padding 15 = .ok (.getfield 23, 3) := pl_dc dd_Mo_padding 9 (q := (15, .getfield 23, 3)) rfl
  have k18 : decode b_Mo_padding 18 = .ok (.bipush 12, 2) := pl_dc dd_Mo_padding 10 (q := (18, .bipush 12, 2)) rfl
  have k20 : decode b_Mo_padding 20 = .ok (.iload_n 1, 1) := pl_dc dd_Mo_padding 11 (q := (20, .iload_n 1, 1)) rfl
  have k21 : decode b_Mo_padding 21 = .ok (.imul, 1) := pl_dc dd_Mo_padding 12 (q := (21, .imul, 1)) rfl
  have k22 : decode b_Mo_padding 22 = .ok (.iconst 3, 1) := pl_dc dd_Mo_padding 13 (q := (22, .iconst 3, 1)) rfl
  have k23 : decode b_Mo_padding 23 = .ok (.iadd, 1) := pl_dc dd_Mo_padding 14 (q := (23, .iadd, 1)) rfl
  have k24 : decode b_Mo_padding 24 = .ok (.iaload, 1) := pl_dc dd_Mo_padding 15 (q := (24, .iaload, 1)) rfl
  have k25 : decode b_Mo_padding 25 = .ok (.ireturn, 1) := pl_dc dd_Mo_padding 16 (q := (25, .ireturn, 1)) rfl
  exact (d_reti (p1 := 25) F Fm.2.1 Fm.2.2.1 (c_if (p1 := 10) (p2 := 11) (p3 := 25) F (b_cmp_t (p1 := 6) (p2 := 7) (pj := 14) F (c_iald (p1 := 4) (p2 := 5) F (c_getr (p1 := 1) F 3 8 hg_3_8 (c_aload_n F k0 rfl) k1 lf_PageLayouterModel_30) (c_iload_n F k4 rfl) k5) (c_iconst F k6 (by decide)) k7 (by decide)) (c_iconst F k10 (by decide)) k11 (by decide) (c_iald (p1 := 18) (p2 := 24) F (c_getr (p1 := 15) F 3 6 hg_3_6 (c_aload_n F k14 rfl) k15 lf_PageLayouterModel_23) (c_bin 1 (p1 := 22) (p2 := 23) (c_bin 1 (p1 := 20) (p2 := 21) (c_bipush F k18 (by decide)) (c_iload_n F k20 rfl) pl_c1 (j_imul F k21)) (c_iconst F k22 (by decide)) pl_c1 (j_iadd F k23)) k24)) k25))
def y_Mo_widthOf : MethodName := ⟨"PageLayouterModel", "widthOf", "(I)I"⟩
abbrev b_Mo_widthOf : ByteArray := prog_10_method_14_code
abbrev n_Mo_widthOf : Nat := 2
theorem y_Mo_widthOf_ok : pl_MV 3 y_Mo_widthOf b_Mo_widthOf n_Mo_widthOf (Option.some Jvm.ClassFile.FieldType.int) 1 := ⟨pl_mem 841 (by decide +kernel) (by decide +kernel), pl_mem 840 (by decide +kernel) (by decide +kernel), pl_mem 18 (by decide +kernel) (by decide +kernel), pl_mem 47 (by decide +kernel) (by decide +kernel), ⟨by decide, by decide, by decide +kernel⟩, _, rfl, rfl⟩
def D_Mo_widthOf : List (Nat × Instr × Nat) := [(0, .aload_n 0, 1), (1, .getfield 30, 3), (4, .iload_n 1, 1), (5, .iaload, 1), (6, .iconst 3, 1), (7, .if_icmp .eq 12, 3), (10, .aload_n 0, 1), (11, .getfield 33, 3), (14, .iload_n 1, 1), (15, .baload, 1), (16, .ifCond .eq 7, 3), (19, .iconst (-1), 1), (20, .goto 12, 3), (23, .aload_n 0, 1), (24, .getfield 23, 3), (27, .bipush 12, 2), (29, .iload_n 1, 1), (30, .imul, 1), (31, .iaload, 1), (32, .ireturn, 1)]
theorem dd_Mo_widthOf : (D_Mo_widthOf.all fun q => decide (decode b_Mo_widthOf q.1 = .ok q.2)) = true := by decide +kernel
def t_Mo_widthOf : pl_TR := fun P _ _ => s_reti P (e_if (b_or (b_cmp .eq (e_ald 1 (e_getr 3 8 (e_locr 0)) (e_loc 1)) (e_int 3)) (b_zero .ne (e_ald 2 (e_getr 3 9 (e_locr 0)) (e_loc 1)))) (e_int (-1)) (e_ald 1 (e_getr 3 6 (e_locr 0)) (e_bin (fun x y : Int32 => x * y) (e_int 12) (e_loc 1))))
theorem z_Mo_widthOf (l : Launch) : pl_Ctr l y_Mo_widthOf b_Mo_widthOf n_Mo_widthOf (Option.some Jvm.ClassFile.FieldType.int) 0 0 0 0 false t_Mo_widthOf := pl_ctr_of (pe := 0) (by decide) (fun X Y P F Fm => by
  have F : pl_Fx X Y "PageLayouterModel" b_Mo_widthOf := F
  have k0 : decode b_Mo_widthOf 0 = .ok (.aload_n 0, 1) := pl_dc dd_Mo_widthOf 0 (q := (0, .aload_n 0, 1)) rfl
  have k1 : decode b_Mo_widthOf 1 = .ok (.getfield 30, 3) := pl_dc dd_Mo_widthOf 1 (q := (1, .getfield 30, 3)) rfl
  have k4 : decode b_Mo_widthOf 4 = .ok (.iload_n 1, 1) := pl_dc dd_Mo_widthOf 2 (q := (4, .iload_n 1, 1)) rfl
  have k5 : decode b_Mo_widthOf 5 = .ok (.iaload, 1) := pl_dc dd_Mo_widthOf 3 (q := (5, .iaload, 1)) rfl
  have k6 : decode b_Mo_widthOf 6 = .ok (.iconst 3, 1) := pl_dc dd_Mo_widthOf 4 (q := (6, .iconst 3, 1)) rfl
  have k7 : decode b_Mo_widthOf 7 = .ok (.if_icmp .eq 12, 3) := pl_dc dd_Mo_widthOf 5 (q := (7, .if_icmp .eq 12, 3)) rfl
  have k10 : decode b_Mo_widthOf 10 = .ok (.aload_n 0, 1) := pl_dc dd_Mo_widthOf 6 (q := (10, .aload_n 0, 1)) rfl
  have k11 : decode b_Mo_widthOf 11 = .ok (.getfield 33, 3) := pl_dc dd_Mo_widthOf 7 (q := (11, .getfield 33, 3)) rfl
  have k14 : decode b_Mo_widthOf 14 = .ok (.iload_n 1, 1) := pl_dc dd_Mo_widthOf 8 (q := (14, .iload_n 1, 1)) rfl
  have k15 : decode b_Mo_widthOf 15 = .ok (.baload, 1) := pl_dc dd_Mo_widthOf 9 (q := (15, .baload, 1)) rfl
  have k16 : decode b_Mo_widthOf 16 = .ok (.ifCond .eq 7, 3) := pl_dc dd_Mo_widthOf 10 (q := (16, .ifCond .eq 7, 3)) rfl
  have k19 : decode b_Mo_widthOf 19 = .ok (.iconst (-1), 1) := pl_dc dd_Mo_widthOf 11 (q := (19, .iconst (-1), 1)) rfl
  have k20 : decode b_Mo_widthOf 20 = .ok (.goto 12, 3) := pl_dc dd_Mo_widthOf 12 (q := (20, .goto 12, 3)) rfl
  have k23 : decode b_Mo_widthOf 23 = .ok (.aload_n 0, 1) := pl_dc dd_Mo_widthOf 13 (q := (23, .aload_n 0, 1)) rfl
  have k24 : decode b_Mo_widthOf 24 = .ok (.getfield 23, 3) := pl_dc dd_Mo_widthOf 14 (q := (24, .getfield 23, 3)) rfl
  have k27 : decode b_Mo_widthOf 27 = .ok (.bipush 12, 2) := pl_dc dd_Mo_widthOf 15 (q := (27, .bipush 12, 2)) rfl
  have k29 : decode b_Mo_widthOf 29 = .ok (.iload_n 1, 1) := pl_dc dd_Mo_widthOf 16 (q := (29, .iload_n 1, 1)) rfl
  have k30 : decode b_Mo_widthOf 30 = .ok (.imul, 1) := pl_dc dd_Mo_widthOf 17 (q := (30, .imul, 1)) rfl
  have k31 : decode b_Mo_widthOf 31 = .ok (.iaload, 1) := pl_dc dd_Mo_widthOf 18 (q := (31, .iaload, 1)) rfl
  have k32 : decode b_Mo_widthOf 32 = .ok (.ireturn, 1) := pl_dc dd_Mo_widthOf 19 (q := (32, .ireturn, 1)) rfl
  exact (d_reti (p1 := 32) F Fm.2.1 Fm.2.2.1 (c_if (p1 := 19) (p2 := 20) (p3 := 32) F (b_or_t (p1 := 10) (b_cmp_f (p1 := 6) (p2 := 7) (pj := 19) F (c_iald (p1 := 4) (p2 := 5) F (c_getr (p1 := 1) F 3 8 hg_3_8 (c_aload_n F k0 rfl) k1 lf_PageLayouterModel_30) (c_iload_n F k4 rfl) k5) (c_iconst F k6 (by decide)) k7 (by decide)) (b_zero_t (p1 := 16) (pj := 23) F (c_zald (p1 := 14) (p2 := 15) F (c_getr (p1 := 11) F 3 9 hg_3_9 (c_aload_n F k10 rfl) k11 lf_PageLayouterModel_33) (c_iload_n F k14 rfl) k15) k16 (by decide))) (c_iconst F k19 (by decide)) k20 (by decide) (c_iald (p1 := 27) (p2 := 31) F (c_getr (p1 := 24) F 3 6 hg_3_6 (c_aload_n F k23 rfl) k24 lf_PageLayouterModel_23) (c_bin 1 (p1 := 29) (p2 := 30) (c_bipush F k27 (by decide)) (c_iload_n F k29 rfl) pl_c1 (j_imul F k30)) k31)) k32))
def y_Mo_heightOf : MethodName := ⟨"PageLayouterModel", "heightOf", "(I)I"⟩
abbrev b_Mo_heightOf : ByteArray := prog_10_method_15_code
abbrev n_Mo_heightOf : Nat := 2
theorem y_Mo_heightOf_ok : pl_MV 3 y_Mo_heightOf b_Mo_heightOf n_Mo_heightOf (Option.some Jvm.ClassFile.FieldType.int) 1 := ⟨pl_mem 920 (by decide +kernel) (by decide +kernel), pl_mem 919 (by decide +kernel) (by decide +kernel), pl_mem 35 (by decide +kernel) (by decide +kernel), pl_mem 47 (by decide +kernel) (by decide +kernel), ⟨by decide, by decide, by decide +kernel⟩, _, rfl, rfl⟩
def D_Mo_heightOf : List (Nat × Instr × Nat) := [(0, .aload_n 0, 1), (1, .getfield 30, 3), (4, .iload_n 1, 1), (5, .iaload, 1), (6, .iconst 3, 1), (7, .if_icmp .ne 7, 3), (10, .iconst (-1), 1), (11, .goto 14, 3), (14, .aload_n 0, 1), (15, .getfield 23, 3), (18, .bipush 12, 2), (20, .iload_n 1, 1), (21, .imul, 1), (22, .iconst 1, 1), (23, .iadd, 1), (24, .iaload, 1), (25, .ireturn, 1)]
theorem dd_Mo_heightOf : (D_Mo_heightOf.all fun q => decide (decode b_Mo_heightOf q.1 = .ok q.2)) = true := by decide +kernel
def t_Mo_heightOf : pl_TR := fun P _ _ => s_reti P (e_if (b_cmp .eq (e_ald 1 (e_getr 3 8 (e_locr 0)) (e_loc 1)) (e_int 3)) (e_int (-1)) (e_ald 1 (e_getr 3 6 (e_locr 0)) (e_bin (fun x y : Int32 => x + y) (e_bin (fun x y : Int32 => x * y) (e_int 12) (e_loc 1)) (e_int 1))))
theorem z_Mo_heightOf (l : Launch) : pl_Ctr l y_Mo_heightOf b_Mo_heightOf n_Mo_heightOf (Option.some Jvm.ClassFile.FieldType.int) 0 0 0 0 false t_Mo_heightOf := pl_ctr_of (pe := 0) (by decide) (fun X Y P F Fm => by
  have F : pl_Fx X Y "PageLayouterModel" b_Mo_heightOf := F
  have k0 : decode b_Mo_heightOf 0 = .ok (.aload_n 0, 1) := pl_dc dd_Mo_heightOf 0 (q := (0, .aload_n 0, 1)) rfl
  have k1 : decode b_Mo_heightOf 1 = .ok (.getfield 30, 3) := pl_dc dd_Mo_heightOf 1 (q := (1, .getfield 30, 3)) rfl
  have k4 : decode b_Mo_heightOf 4 = .ok (.iload_n 1, 1) := pl_dc dd_Mo_heightOf 2 (q := (4, .iload_n 1, 1)) rfl
  have k5 : decode b_Mo_heightOf 5 = .ok (.iaload, 1) := pl_dc dd_Mo_heightOf 3 (q := (5, .iaload, 1)) rfl
  have k6 : decode b_Mo_heightOf 6 = .ok (.iconst 3, 1) := pl_dc dd_Mo_heightOf 4 (q := (6, .iconst 3, 1)) rfl
  have k7 : decode b_Mo_heightOf 7 = .ok (.if_icmp .ne 7, 3) := pl_dc dd_Mo_heightOf 5 (q := (7, .if_icmp .ne 7, 3)) rfl
  have k10 : decode b_Mo_heightOf 10 = .ok (.iconst (-1), 1) := pl_dc dd_Mo_heightOf 6 (q := (10, .iconst (-1), 1)) rfl
  have k11 : decode b_Mo_heightOf 11 = .ok (.goto 14, 3) := pl_dc dd_Mo_heightOf 7 (q := (11, .goto 14, 3)) rfl
  have k14 : decode b_Mo_heightOf 14 = .ok (.aload_n 0, 1) := pl_dc dd_Mo_heightOf 8 (q := (14, .aload_n 0, 1)) rfl
  have k15 : decode b_Mo_heightOf 15 = .ok (.getfield 23, 3) := pl_dc dd_Mo_heightOf 9 (q := (15, .getfield 23, 3)) rfl
  have k18 : decode b_Mo_heightOf 18 = .ok (.bipush 12, 2) := pl_dc dd_Mo_heightOf 10 (q := (18, .bipush 12, 2)) rfl
  have k20 : decode b_Mo_heightOf 20 = .ok (.iload_n 1, 1) := pl_dc dd_Mo_heightOf 11 (q := (20, .iload_n 1, 1)) rfl
  have k21 : decode b_Mo_heightOf 21 = .ok (.imul, 1) := pl_dc dd_Mo_heightOf 12 (q := (21, .imul, 1)) rfl
  have k22 : decode b_Mo_heightOf 22 = .ok (.iconst 1, 1) := pl_dc dd_Mo_heightOf 13 (q := (22, .iconst 1, 1)) rfl
  have k23 : decode b_Mo_heightOf 23 = .ok (.iadd, 1) := pl_dc dd_Mo_heightOf 14 (q := (23, .iadd, 1)) rfl
  have k24 : decode b_Mo_heightOf 24 = .ok (.iaload, 1) := pl_dc dd_Mo_heightOf 15 (q := (24, .iaload, 1)) rfl
  have k25 : decode b_Mo_heightOf 25 = .ok (.ireturn, 1) := pl_dc dd_Mo_heightOf 16 (q := (25, .ireturn, 1)) rfl
  exact (d_reti (p1 := 25) F Fm.2.1 Fm.2.2.1 (c_if (p1 := 10) (p2 := 11) (p3 := 25) F (b_cmp_t (p1 := 6) (p2 := 7) (pj := 14) F (c_iald (p1 := 4) (p2 := 5) F (c_getr (p1 := 1) F 3 8 hg_3_8 (c_aload_n F k0 rfl) k1 lf_PageLayouterModel_30) (c_iload_n F k4 rfl) k5) (c_iconst F k6 (by decide)) k7 (by decide)) (c_iconst F k10 (by decide)) k11 (by decide) (c_iald (p1 := 18) (p2 := 24) F (c_getr (p1 := 15) F 3 6 hg_3_6 (c_aload_n F k14 rfl) k15 lf_PageLayouterModel_23) (c_bin 1 (p1 := 22) (p2 := 23) (c_bin 1 (p1 := 20) (p2 := 21) (c_bipush F k18 (by decide)) (c_iload_n F k20 rfl) pl_c1 (j_imul F k21)) (c_iconst F k22 (by decide)) pl_c1 (j_iadd F k23)) k24)) k25))
def y_Mo_around : MethodName := ⟨"PageLayouterModel", "around", "(I)I"⟩
abbrev b_Mo_around : ByteArray := prog_10_method_16_code
abbrev n_Mo_around : Nat := 2
theorem y_Mo_around_ok : pl_MV 3 y_Mo_around b_Mo_around n_Mo_around (Option.some Jvm.ClassFile.FieldType.int) 1 := ⟨pl_mem 849 (by decide +kernel) (by decide +kernel), pl_mem 848 (by decide +kernel) (by decide +kernel), pl_mem 20 (by decide +kernel) (by decide +kernel), pl_mem 47 (by decide +kernel) (by decide +kernel), ⟨by decide, by decide, by decide +kernel⟩, _, rfl, rfl⟩
def D_Mo_around : List (Nat × Instr × Nat) := [(0, .iconst 2, 1), (1, .aload_n 0, 1), (2, .iload_n 1, 1), (3, .invokevirtual 108, 3), (6, .imul, 1), (7, .iconst 2, 1), (8, .aload_n 0, 1), (9, .iload_n 1, 1), (10, .invokevirtual 112, 3), (13, .imul, 1), (14, .iadd, 1), (15, .ireturn, 1)]
theorem dd_Mo_around : (D_Mo_around.all fun q => decide (decode b_Mo_around q.1 = .ok q.2)) = true := by decide +kernel
def t_Mo_around : pl_TR := fun P _ _ => s_reti P (e_bin (fun x y : Int32 => x + y) (e_bin (fun x y : Int32 => x * y) (e_int 2) (e_callV Value.int 3 t_Mo_margin n_Mo_margin (a_i (a_r a_nil (e_locr 0)) (e_loc 1)))) (e_bin (fun x y : Int32 => x * y) (e_int 2) (e_callV Value.int 3 t_Mo_padding n_Mo_padding (a_i (a_r a_nil (e_locr 0)) (e_loc 1)))))
theorem z_Mo_around (l : Launch) : pl_Ctr l y_Mo_around b_Mo_around n_Mo_around (Option.some Jvm.ClassFile.FieldType.int) 1 21 0 0 false t_Mo_around := pl_ctr_of (pe := 0) (by decide) (fun X Y P F Fm => by
  have F : pl_Fx X Y "PageLayouterModel" b_Mo_around := F
  have r_Mo_margin : 0 + 1 ≤ (pl_xR X).frames ∧ 8 + (n_Mo_margin + 11) + 0 ≤ (pl_xR X).locals := ⟨Nat.le_trans (by decide) Fm.2.2.2.2.2.1, Nat.le_trans (by decide) Fm.2.2.2.2.2.2.1⟩
  have r_Mo_padding : 0 + 1 ≤ (pl_xR X).frames ∧ 8 + (n_Mo_padding + 11) + 0 ≤ (pl_xR X).locals := ⟨Nat.le_trans (by decide) Fm.2.2.2.2.2.1, Nat.le_trans (by decide) Fm.2.2.2.2.2.2.1⟩
  have k0 : decode b_Mo_around 0 = .ok (.iconst 2, 1) := pl_dc dd_Mo_around 0 (q := (0, .iconst 2, 1)) rfl
  have k1 : decode b_Mo_around 1 = .ok (.aload_n 0, 1) := pl_dc dd_Mo_around 1 (q := (1, .aload_n 0, 1)) rfl
  have k2 : decode b_Mo_around 2 = .ok (.iload_n 1, 1) := pl_dc dd_Mo_around 2 (q := (2, .iload_n 1, 1)) rfl
  have k3 : decode b_Mo_around 3 = .ok (.invokevirtual 108, 3) := pl_dc dd_Mo_around 3 (q := (3, .invokevirtual 108, 3)) rfl
  have k6 : decode b_Mo_around 6 = .ok (.imul, 1) := pl_dc dd_Mo_around 4 (q := (6, .imul, 1)) rfl
  have k7 : decode b_Mo_around 7 = .ok (.iconst 2, 1) := pl_dc dd_Mo_around 5 (q := (7, .iconst 2, 1)) rfl
  have k8 : decode b_Mo_around 8 = .ok (.aload_n 0, 1) := pl_dc dd_Mo_around 6 (q := (8, .aload_n 0, 1)) rfl
  have k9 : decode b_Mo_around 9 = .ok (.iload_n 1, 1) := pl_dc dd_Mo_around 7 (q := (9, .iload_n 1, 1)) rfl
  have k10 : decode b_Mo_around 10 = .ok (.invokevirtual 112, 3) := pl_dc dd_Mo_around 8 (q := (10, .invokevirtual 112, 3)) rfl
  have k13 : decode b_Mo_around 13 = .ok (.imul, 1) := pl_dc dd_Mo_around 9 (q := (13, .imul, 1)) rfl
  have k14 : decode b_Mo_around 14 = .ok (.iadd, 1) := pl_dc dd_Mo_around 10 (q := (14, .iadd, 1)) rfl
  have k15 : decode b_Mo_around 15 = .ok (.ireturn, 1) := pl_dc dd_Mo_around 11 (q := (15, .ireturn, 1)) rfl
  exact (d_reti (p1 := 15) F Fm.2.1 Fm.2.2.1 (c_bin 1 (p1 := 7) (p2 := 14) (c_bin 1 (p1 := 1) (p2 := 6) (c_iconst F k0 (by decide)) (c_callV (p1 := 3) F (a_i_ok (p1 := 2) (a_r_ok (p1 := 1) a_nil_ok (c_aload_n F k1 rfl)) (c_iload_n F k2 rfl)) (z_Mo_margin _) y_Mo_margin_ok lm_PageLayouterModel_108 k3 r_Mo_margin (by decide) (by decide)) pl_c1 (j_imul F k6)) (c_bin 1 (p1 := 8) (p2 := 13) (c_iconst F k7 (by decide)) (c_callV (p1 := 10) F (a_i_ok (p1 := 9) (a_r_ok (p1 := 8) a_nil_ok (c_aload_n F k8 rfl)) (c_iload_n F k9 rfl)) (z_Mo_padding _) y_Mo_padding_ok lm_PageLayouterModel_112 k10 r_Mo_padding (by decide) (by decide)) pl_c1 (j_imul F k13)) pl_c1 (j_iadd F k14)) k15))
def y_Mo_hasFlow : MethodName := ⟨"PageLayouterModel", "hasFlow", "(I)Z"⟩
abbrev b_Mo_hasFlow : ByteArray := prog_10_method_17_code
abbrev n_Mo_hasFlow : Nat := 4
theorem y_Mo_hasFlow_ok : pl_MV 3 y_Mo_hasFlow b_Mo_hasFlow n_Mo_hasFlow (Option.some Jvm.ClassFile.FieldType.boolean) 1 := ⟨pl_mem 829 (by decide +kernel) (by decide +kernel), pl_mem 828 (by decide +kernel) (by decide +kernel), pl_mem 15 (by decide +kernel) (by decide +kernel), pl_mem 47 (by decide +kernel) (by decide +kernel), ⟨by decide, by decide, by decide +kernel⟩, _, rfl, rfl⟩
def D_Mo_hasFlow : List (Nat × Instr × Nat) := [(0, .iconst 0, 1), (1, .istore_n 2, 1), (2, .iload_n 1, 1), (3, .iconst 1, 1), (4, .iadd, 1), (5, .istore_n 3, 1), (6, .iload_n 3, 1), (7, .aload_n 0, 1), (8, .getfield 7, 3), (11, .if_icmp .ge 28, 3), (14, .iload_n 2, 1), (15, .ifCond .ne 12, 3), (18, .aload_n 0, 1), (19, .iload_n 3, 1), (20, .iload_n 1, 1), (21, .invokevirtual 105, 3), (24, .ifCond .eq 7, 3), (27, .iconst 1, 1), (28, .goto 4, 3), (31, .iconst 0, 1), (32, .istore_n 2, 1), (33, .iinc 3 1, 3), (36, .goto (-30), 3), (39, .iload_n 2, 1), (40, .ireturn, 1)]
theorem dd_Mo_hasFlow : (D_Mo_hasFlow.all fun q => decide (decode b_Mo_hasFlow q.1 = .ok q.2)) = true := by decide +kernel
def t_Mo_hasFlow : pl_TR := fun P _ _ => s_seq (s_seti 2 (e_int 0)) (s_seq (s_seq (s_seti 3 (e_bin (fun x y : Int32 => x + y) (e_loc 1) (e_int 1))) (s_while (b_cmp .lt (e_loc 3) (e_geti 3 1 (e_locr 0))) (s_seq (s_seti 2 (e_if (b_or (b_zero .ne (e_loc 2)) (b_zero .ne (e_callV Value.int 3 t_Mo_flows n_Mo_flows (a_i (a_i (a_r a_nil (e_locr 0)) (e_loc 3)) (e_loc 1))))) (e_int 1) (e_int 0))) (s_inc 3 1)))) (s_retz P (e_loc 2)))
theorem z_Mo_hasFlow (l : Launch) : pl_Ctr l y_Mo_hasFlow b_Mo_hasFlow n_Mo_hasFlow (Option.some Jvm.ClassFile.FieldType.boolean) 1 22 0 0 false t_Mo_hasFlow := pl_ctr_of (pe := 0) (by decide) (fun X Y P F Fm => by
  have F : pl_Fx X Y "PageLayouterModel" b_Mo_hasFlow := F
  have r_Mo_flows : 0 + 1 ≤ (pl_xR X).frames ∧ 8 + (n_Mo_flows + 11) + 0 ≤ (pl_xR X).locals := ⟨Nat.le_trans (by decide) Fm.2.2.2.2.2.1, Nat.le_trans (by decide) Fm.2.2.2.2.2.2.1⟩
  have hm : ∀ i, i < 4 → i < (pl_xc X).maxLocals := fun i h => by rw [Fm.2.2.2.1]; exact h
  have k0 : decode b_Mo_hasFlow 0 = .ok (.iconst 0, 1) := pl_dc dd_Mo_hasFlow 0 (q := (0, .iconst 0, 1)) rfl
  have k1 : decode b_Mo_hasFlow 1 = .ok (.istore_n 2, 1) := pl_dc dd_Mo_hasFlow 1 (q := (1, .istore_n 2, 1)) rfl
  have k2 : decode b_Mo_hasFlow 2 = .ok (.iload_n 1, 1) := pl_dc dd_Mo_hasFlow 2 (q := (2, .iload_n 1, 1)) rfl
  have k3 : decode b_Mo_hasFlow 3 = .ok (.iconst 1, 1) := pl_dc dd_Mo_hasFlow 3 (q := (3, .iconst 1, 1)) rfl
  have k4 : decode b_Mo_hasFlow 4 = .ok (.iadd, 1) := pl_dc dd_Mo_hasFlow 4 (q := (4, .iadd, 1)) rfl
  have k5 : decode b_Mo_hasFlow 5 = .ok (.istore_n 3, 1) := pl_dc dd_Mo_hasFlow 5 (q := (5, .istore_n 3, 1)) rfl
  have k6 : decode b_Mo_hasFlow 6 = .ok (.iload_n 3, 1) := pl_dc dd_Mo_hasFlow 6 (q := (6, .iload_n 3, 1)) rfl
  have k7 : decode b_Mo_hasFlow 7 = .ok (.aload_n 0, 1) := pl_dc dd_Mo_hasFlow 7 (q := (7, .aload_n 0, 1)) rfl
  have k8 : decode b_Mo_hasFlow 8 = .ok (.getfield 7, 3) := pl_dc dd_Mo_hasFlow 8 (q := (8, .getfield 7, 3)) rfl
  have k11 : decode b_Mo_hasFlow 11 = .ok (.if_icmp .ge 28, 3) := pl_dc dd_Mo_hasFlow 9 (q := (11, .if_icmp .ge 28, 3)) rfl
  have k14 : decode b_Mo_hasFlow 14 = .ok (.iload_n 2, 1) := pl_dc dd_Mo_hasFlow 10 (q := (14, .iload_n 2, 1)) rfl
  have k15 : decode b_Mo_hasFlow 15 = .ok (.ifCond .ne 12, 3) := pl_dc dd_Mo_hasFlow 11 (q := (15, .ifCond .ne 12, 3)) rfl
  have k18 : decode b_Mo_hasFlow 18 = .ok (.aload_n 0, 1) := pl_dc dd_Mo_hasFlow 12 (q := (18, .aload_n 0, 1)) rfl
  have k19 : decode b_Mo_hasFlow 19 = .ok (.iload_n 3, 1) := pl_dc dd_Mo_hasFlow 13 (q := (19, .iload_n 3, 1)) rfl
  have k20 : decode b_Mo_hasFlow 20 = .ok (.iload_n 1, 1) := pl_dc dd_Mo_hasFlow 14 (q := (20, .iload_n 1, 1)) rfl
  have k21 : decode b_Mo_hasFlow 21 = .ok (.invokevirtual 105, 3) := pl_dc dd_Mo_hasFlow 15 (q := (21, .invokevirtual 105, 3)) rfl
  have k24 : decode b_Mo_hasFlow 24 = .ok (.ifCond .eq 7, 3) := pl_dc dd_Mo_hasFlow 16 (q := (24, .ifCond .eq 7, 3)) rfl
  have k27 : decode b_Mo_hasFlow 27 = .ok (.iconst 1, 1) := pl_dc dd_Mo_hasFlow 17 (q := (27, .iconst 1, 1)) rfl
  have k28 : decode b_Mo_hasFlow 28 = .ok (.goto 4, 3) := pl_dc dd_Mo_hasFlow 18 (q := (28, .goto 4, 3)) rfl
  have k31 : decode b_Mo_hasFlow 31 = .ok (.iconst 0, 1) := pl_dc dd_Mo_hasFlow 19 (q := (31, .iconst 0, 1)) rfl
  have k32 : decode b_Mo_hasFlow 32 = .ok (.istore_n 2, 1) := pl_dc dd_Mo_hasFlow 20 (q := (32, .istore_n 2, 1)) rfl
  have k33 : decode b_Mo_hasFlow 33 = .ok (.iinc 3 1, 3) := pl_dc dd_Mo_hasFlow 21 (q := (33, .iinc 3 1, 3)) rfl
  have k36 : decode b_Mo_hasFlow 36 = .ok (.goto (-30), 3) := pl_dc dd_Mo_hasFlow 22 (q := (36, .goto (-30), 3)) rfl
  have k39 : decode b_Mo_hasFlow 39 = .ok (.iload_n 2, 1) := pl_dc dd_Mo_hasFlow 23 (q := (39, .iload_n 2, 1)) rfl
  have k40 : decode b_Mo_hasFlow 40 = .ok (.ireturn, 1) := pl_dc dd_Mo_hasFlow 24 (q := (40, .ireturn, 1)) rfl
  exact (d_seq (p1 := 2) (d_istore_n (p1 := 1) F (c_iconst F k0 (by decide)) k1 rfl (hm 2 (by decide))) (d_seq (p1 := 39) (d_seq (p1 := 6) (d_istore_n (p1 := 5) F (c_bin 1 (p1 := 3) (p2 := 4) (c_iload_n F k2 rfl) (c_iconst F k3 (by decide)) pl_c1 (j_iadd F k4)) k5 rfl (hm 3 (by decide))) (d_while (p1 := 14) (p2 := 36) F (b_cmp_t (p1 := 7) (p2 := 11) (pj := 39) F (c_iload_n F k6 rfl) (c_geti (p1 := 8) F 3 1 hg_3_1 (c_aload_n F k7 rfl) k8 lf_PageLayouterModel_7) k11 (by decide)) (d_seq (p1 := 33) (d_istore_n (p1 := 32) F (c_if (p1 := 27) (p2 := 28) (p3 := 32) F (b_or_t (p1 := 18) (b_zero_f (p1 := 15) (pj := 27) F (c_iload_n F k14 rfl) k15 (by decide)) (b_zero_t (p1 := 24) (pj := 31) F (c_callV (p1 := 21) F (a_i_ok (p1 := 20) (a_i_ok (p1 := 19) (a_r_ok (p1 := 18) a_nil_ok (c_aload_n F k18 rfl)) (c_iload_n F k19 rfl)) (c_iload_n F k20 rfl)) (z_Mo_flows _) y_Mo_flows_ok lm_PageLayouterModel_105 k21 r_Mo_flows (by decide) (by decide)) k24 (by decide))) (c_iconst F k27 (by decide)) k28 (by decide) (c_iconst F k31 (by decide))) k32 rfl (hm 2 (by decide))) (d_iinc F k33 (by decide) (hm 3 (by decide)))) k36 (by decide))) (d_retz (p1 := 40) F Fm.2.1 Fm.2.2.1 (c_iload_n F k39 rfl) k40))))
def y_Mo_isSize : MethodName := ⟨"PageLayouterModel", "isSize", "(I)Z"⟩
abbrev b_Mo_isSize : ByteArray := prog_10_method_18_code
abbrev n_Mo_isSize : Nat := 2
theorem y_Mo_isSize_ok : pl_MV 3 y_Mo_isSize b_Mo_isSize n_Mo_isSize (Option.some Jvm.ClassFile.FieldType.boolean) 1 := ⟨pl_mem 845 (by decide +kernel) (by decide +kernel), pl_mem 844 (by decide +kernel) (by decide +kernel), pl_mem 19 (by decide +kernel) (by decide +kernel), pl_mem 47 (by decide +kernel) (by decide +kernel), ⟨by decide, by decide, by decide +kernel⟩, _, rfl, rfl⟩
def D_Mo_isSize : List (Nat × Instr × Nat) := [(0, .iload_n 1, 1), (1, .ifCond .lt 13, 3), (4, .iload_n 1, 1), (5, .ldc 99, 2), (7, .if_icmp .ge 7, 3), (10, .iconst 1, 1), (11, .goto 4, 3), (14, .iconst 0, 1), (15, .ireturn, 1)]
theorem dd_Mo_isSize : (D_Mo_isSize.all fun q => decide (decode b_Mo_isSize q.1 = .ok q.2)) = true := by decide +kernel
def t_Mo_isSize : pl_TR := fun P _ _ => s_retz P (e_if (b_and (b_zero .ge (e_loc 1)) (b_cmp .lt (e_loc 1) (e_int 100000))) (e_int 1) (e_int 0))
theorem z_Mo_isSize (l : Launch) : pl_Ctr l y_Mo_isSize b_Mo_isSize n_Mo_isSize (Option.some Jvm.ClassFile.FieldType.boolean) 0 0 0 0 false t_Mo_isSize := pl_ctr_of (pe := 0) (by decide) (fun X Y P F Fm => by
  have F : pl_Fx X Y "PageLayouterModel" b_Mo_isSize := F
  have k0 : decode b_Mo_isSize 0 = .ok (.iload_n 1, 1) := pl_dc dd_Mo_isSize 0 (q := (0, .iload_n 1, 1)) rfl
  have k1 : decode b_Mo_isSize 1 = .ok (.ifCond .lt 13, 3) := pl_dc dd_Mo_isSize 1 (q := (1, .ifCond .lt 13, 3)) rfl
  have k4 : decode b_Mo_isSize 4 = .ok (.iload_n 1, 1) := pl_dc dd_Mo_isSize 2 (q := (4, .iload_n 1, 1)) rfl
  have k5 : decode b_Mo_isSize 5 = .ok (.ldc 99, 2) := pl_dc dd_Mo_isSize 3 (q := (5, .ldc 99, 2)) rfl
  have k7 : decode b_Mo_isSize 7 = .ok (.if_icmp .ge 7, 3) := pl_dc dd_Mo_isSize 4 (q := (7, .if_icmp .ge 7, 3)) rfl
  have k10 : decode b_Mo_isSize 10 = .ok (.iconst 1, 1) := pl_dc dd_Mo_isSize 5 (q := (10, .iconst 1, 1)) rfl
  have k11 : decode b_Mo_isSize 11 = .ok (.goto 4, 3) := pl_dc dd_Mo_isSize 6 (q := (11, .goto 4, 3)) rfl
  have k14 : decode b_Mo_isSize 14 = .ok (.iconst 0, 1) := pl_dc dd_Mo_isSize 7 (q := (14, .iconst 0, 1)) rfl
  have k15 : decode b_Mo_isSize 15 = .ok (.ireturn, 1) := pl_dc dd_Mo_isSize 8 (q := (15, .ireturn, 1)) rfl
  exact (d_retz (p1 := 15) F Fm.2.1 Fm.2.2.1 (c_if (p1 := 10) (p2 := 11) (p3 := 15) F (b_and_t (p1 := 4) (b_zero_t (p1 := 1) (pj := 14) F (c_iload_n F k0 rfl) k1 (by decide)) (b_cmp_t (p1 := 5) (p2 := 7) (pj := 14) F (c_iload_n F k4 rfl) (c_ldc F lc_PageLayouterModel_99 k5) k7 (by decide))) (c_iconst F k10 (by decide)) k11 (by decide) (c_iconst F k14 (by decide))) k15))
def y_Mo_leastOf : MethodName := ⟨"PageLayouterModel", "leastOf", "(I)I"⟩
abbrev b_Mo_leastOf : ByteArray := prog_10_method_19_code
abbrev n_Mo_leastOf : Nat := 2
theorem y_Mo_leastOf_ok : pl_MV 3 y_Mo_leastOf b_Mo_leastOf n_Mo_leastOf (Option.some Jvm.ClassFile.FieldType.int) 1 := ⟨pl_mem 837 (by decide +kernel) (by decide +kernel), pl_mem 836 (by decide +kernel) (by decide +kernel), pl_mem 17 (by decide +kernel) (by decide +kernel), pl_mem 47 (by decide +kernel) (by decide +kernel), ⟨by decide, by decide, by decide +kernel⟩, _, rfl, rfl⟩
def D_Mo_leastOf : List (Nat × Instr × Nat) := [(0, .aload_n 0, 1), (1, .aload_n 0, 1), (2, .iload_n 1, 1), (3, .invokevirtual 115, 3), (6, .invokevirtual 118, 3), (9, .ifCond .eq 11, 3), (12, .aload_n 0, 1), (13, .iload_n 1, 1), (14, .invokevirtual 115, 3), (17, .goto 9, 3), (20, .aload_n 0, 1), (21, .getfield 39, 3), (24, .iload_n 1, 1), (25, .iaload, 1), (26, .ireturn, 1)]
theorem dd_Mo_leastOf : (D_Mo_leastOf.all fun q => decide (decode b_Mo_leastOf q.1 = .ok q.2)) = true := by decide +kernel
def t_Mo_leastOf : pl_TR := fun P _ _ => s_reti P (e_if (b_zero .ne (e_callV Value.int 3 t_Mo_isSize n_Mo_isSize (a_i (a_r a_nil (e_locr 0)) (e_callV Value.int 3 t_Mo_widthOf n_Mo_widthOf (a_i (a_r a_nil (e_locr 0)) (e_loc 1)))))) (e_callV Value.int 3 t_Mo_widthOf n_Mo_widthOf (a_i (a_r a_nil (e_locr 0)) (e_loc 1))) (e_ald 1 (e_getr 3 11 (e_locr 0)) (e_loc 1)))
theorem z_Mo_leastOf (l : Launch) : pl_Ctr l y_Mo_leastOf b_Mo_leastOf n_Mo_leastOf (Option.some Jvm.ClassFile.FieldType.int) 1 21 0 0 false t_Mo_leastOf := pl_ctr_of (pe := 0) (by decide) (fun X Y P F Fm => by
  have F : pl_Fx X Y "PageLayouterModel" b_Mo_leastOf := F
  have r_Mo_isSize : 0 + 1 ≤ (pl_xR X).frames ∧ 8 + (n_Mo_isSize + 11) + 0 ≤ (pl_xR X).locals := ⟨Nat.le_trans (by decide) Fm.2.2.2.2.2.1, Nat.le_trans (by decide) Fm.2.2.2.2.2.2.1⟩
  have r_Mo_widthOf : 0 + 1 ≤ (pl_xR X).frames ∧ 8 + (n_Mo_widthOf + 11) + 0 ≤ (pl_xR X).locals := ⟨Nat.le_trans (by decide) Fm.2.2.2.2.2.1, Nat.le_trans (by decide) Fm.2.2.2.2.2.2.1⟩
  have k0 : decode b_Mo_leastOf 0 = .ok (.aload_n 0, 1) := pl_dc dd_Mo_leastOf 0 (q := (0, .aload_n 0, 1)) rfl
  have k1 : decode b_Mo_leastOf 1 = .ok (.aload_n 0, 1) := pl_dc dd_Mo_leastOf 1 (q := (1, .aload_n 0, 1)) rfl
  have k2 : decode b_Mo_leastOf 2 = .ok (.iload_n 1, 1) := pl_dc dd_Mo_leastOf 2 (q := (2, .iload_n 1, 1)) rfl
  have k3 : decode b_Mo_leastOf 3 = .ok (.invokevirtual 115, 3) := pl_dc dd_Mo_leastOf 3 (q := (3, .invokevirtual 115, 3)) rfl
  have k6 : decode b_Mo_leastOf 6 = .ok (.invokevirtual 118, 3) := pl_dc dd_Mo_leastOf 4 (q := (6, .invokevirtual 118, 3)) rfl
  have k9 : decode b_Mo_leastOf 9 = .ok (.ifCond .eq 11, 3) := pl_dc dd_Mo_leastOf 5 (q := (9, .ifCond .eq 11, 3)) rfl
  have k12 : decode b_Mo_leastOf 12 = .ok (.aload_n 0, 1) := pl_dc dd_Mo_leastOf 6 (q := (12, .aload_n 0, 1)) rfl
  have k13 : decode b_Mo_leastOf 13 = .ok (.iload_n 1, 1) := pl_dc dd_Mo_leastOf 7 (q := (13, .iload_n 1, 1)) rfl
  have k14 : decode b_Mo_leastOf 14 = .ok (.invokevirtual 115, 3) := pl_dc dd_Mo_leastOf 8 (q := (14, .invokevirtual 115, 3)) rfl
  have k17 : decode b_Mo_leastOf 17 = .ok (.goto 9, 3) := pl_dc dd_Mo_leastOf 9 (q := (17, .goto 9, 3)) rfl
  have k20 : decode b_Mo_leastOf 20 = .ok (.aload_n 0, 1) := pl_dc dd_Mo_leastOf 10 (q := (20, .aload_n 0, 1)) rfl
  have k21 : decode b_Mo_leastOf 21 = .ok (.getfield 39, 3) := pl_dc dd_Mo_leastOf 11 (q := (21, .getfield 39, 3)) rfl
  have k24 : decode b_Mo_leastOf 24 = .ok (.iload_n 1, 1) := pl_dc dd_Mo_leastOf 12 (q := (24, .iload_n 1, 1)) rfl
  have k25 : decode b_Mo_leastOf 25 = .ok (.iaload, 1) := pl_dc dd_Mo_leastOf 13 (q := (25, .iaload, 1)) rfl
  have k26 : decode b_Mo_leastOf 26 = .ok (.ireturn, 1) := pl_dc dd_Mo_leastOf 14 (q := (26, .ireturn, 1)) rfl
  exact (d_reti (p1 := 26) F Fm.2.1 Fm.2.2.1 (c_if (p1 := 12) (p2 := 17) (p3 := 26) F (b_zero_t (p1 := 9) (pj := 20) F (c_callV (p1 := 6) F (a_i_ok (p1 := 1) (a_r_ok (p1 := 0) a_nil_ok (c_aload_n F k0 rfl)) (c_callV (p1 := 3) F (a_i_ok (p1 := 2) (a_r_ok (p1 := 1) a_nil_ok (c_aload_n F k1 rfl)) (c_iload_n F k2 rfl)) (z_Mo_widthOf _) y_Mo_widthOf_ok lm_PageLayouterModel_115 k3 r_Mo_widthOf (by decide) (by decide))) (z_Mo_isSize _) y_Mo_isSize_ok lm_PageLayouterModel_118 k6 r_Mo_isSize (by decide) (by decide)) k9 (by decide)) (c_callV (p1 := 14) F (a_i_ok (p1 := 13) (a_r_ok (p1 := 12) a_nil_ok (c_aload_n F k12 rfl)) (c_iload_n F k13 rfl)) (z_Mo_widthOf _) y_Mo_widthOf_ok lm_PageLayouterModel_115 k14 r_Mo_widthOf (by decide) (by decide)) k17 (by decide) (c_iald (p1 := 24) (p2 := 25) F (c_getr (p1 := 21) F 3 11 hg_3_11 (c_aload_n F k20 rfl) k21 lf_PageLayouterModel_39) (c_iload_n F k24 rfl) k25)) k26))
def y_Mo_mostOf : MethodName := ⟨"PageLayouterModel", "mostOf", "(I)I"⟩
abbrev b_Mo_mostOf : ByteArray := prog_10_method_20_code
abbrev n_Mo_mostOf : Nat := 2
theorem y_Mo_mostOf_ok : pl_MV 3 y_Mo_mostOf b_Mo_mostOf n_Mo_mostOf (Option.some Jvm.ClassFile.FieldType.int) 1 := ⟨pl_mem 861 (by decide +kernel) (by decide +kernel), pl_mem 860 (by decide +kernel) (by decide +kernel), pl_mem 23 (by decide +kernel) (by decide +kernel), pl_mem 47 (by decide +kernel) (by decide +kernel), ⟨by decide, by decide, by decide +kernel⟩, _, rfl, rfl⟩
def D_Mo_mostOf : List (Nat × Instr × Nat) := [(0, .aload_n 0, 1), (1, .aload_n 0, 1), (2, .iload_n 1, 1), (3, .invokevirtual 115, 3), (6, .invokevirtual 118, 3), (9, .ifCond .eq 11, 3), (12, .aload_n 0, 1), (13, .iload_n 1, 1), (14, .invokevirtual 115, 3), (17, .goto 9, 3), (20, .aload_n 0, 1), (21, .getfield 42, 3), (24, .iload_n 1, 1), (25, .iaload, 1), (26, .ireturn, 1)]
theorem dd_Mo_mostOf : (D_Mo_mostOf.all fun q => decide (decode b_Mo_mostOf q.1 = .ok q.2)) = true := by decide +kernel
def t_Mo_mostOf : pl_TR := fun P _ _ => s_reti P (e_if (b_zero .ne (e_callV Value.int 3 t_Mo_isSize n_Mo_isSize (a_i (a_r a_nil (e_locr 0)) (e_callV Value.int 3 t_Mo_widthOf n_Mo_widthOf (a_i (a_r a_nil (e_locr 0)) (e_loc 1)))))) (e_callV Value.int 3 t_Mo_widthOf n_Mo_widthOf (a_i (a_r a_nil (e_locr 0)) (e_loc 1))) (e_ald 1 (e_getr 3 12 (e_locr 0)) (e_loc 1)))
theorem z_Mo_mostOf (l : Launch) : pl_Ctr l y_Mo_mostOf b_Mo_mostOf n_Mo_mostOf (Option.some Jvm.ClassFile.FieldType.int) 1 21 0 0 false t_Mo_mostOf := pl_ctr_of (pe := 0) (by decide) (fun X Y P F Fm => by
  have F : pl_Fx X Y "PageLayouterModel" b_Mo_mostOf := F
  have r_Mo_isSize : 0 + 1 ≤ (pl_xR X).frames ∧ 8 + (n_Mo_isSize + 11) + 0 ≤ (pl_xR X).locals := ⟨Nat.le_trans (by decide) Fm.2.2.2.2.2.1, Nat.le_trans (by decide) Fm.2.2.2.2.2.2.1⟩
  have r_Mo_widthOf : 0 + 1 ≤ (pl_xR X).frames ∧ 8 + (n_Mo_widthOf + 11) + 0 ≤ (pl_xR X).locals := ⟨Nat.le_trans (by decide) Fm.2.2.2.2.2.1, Nat.le_trans (by decide) Fm.2.2.2.2.2.2.1⟩
  have k0 : decode b_Mo_mostOf 0 = .ok (.aload_n 0, 1) := pl_dc dd_Mo_mostOf 0 (q := (0, .aload_n 0, 1)) rfl
  have k1 : decode b_Mo_mostOf 1 = .ok (.aload_n 0, 1) := pl_dc dd_Mo_mostOf 1 (q := (1, .aload_n 0, 1)) rfl
  have k2 : decode b_Mo_mostOf 2 = .ok (.iload_n 1, 1) := pl_dc dd_Mo_mostOf 2 (q := (2, .iload_n 1, 1)) rfl
  have k3 : decode b_Mo_mostOf 3 = .ok (.invokevirtual 115, 3) := pl_dc dd_Mo_mostOf 3 (q := (3, .invokevirtual 115, 3)) rfl
  have k6 : decode b_Mo_mostOf 6 = .ok (.invokevirtual 118, 3) := pl_dc dd_Mo_mostOf 4 (q := (6, .invokevirtual 118, 3)) rfl
  have k9 : decode b_Mo_mostOf 9 = .ok (.ifCond .eq 11, 3) := pl_dc dd_Mo_mostOf 5 (q := (9, .ifCond .eq 11, 3)) rfl
  have k12 : decode b_Mo_mostOf 12 = .ok (.aload_n 0, 1) := pl_dc dd_Mo_mostOf 6 (q := (12, .aload_n 0, 1)) rfl
  have k13 : decode b_Mo_mostOf 13 = .ok (.iload_n 1, 1) := pl_dc dd_Mo_mostOf 7 (q := (13, .iload_n 1, 1)) rfl
  have k14 : decode b_Mo_mostOf 14 = .ok (.invokevirtual 115, 3) := pl_dc dd_Mo_mostOf 8 (q := (14, .invokevirtual 115, 3)) rfl
  have k17 : decode b_Mo_mostOf 17 = .ok (.goto 9, 3) := pl_dc dd_Mo_mostOf 9 (q := (17, .goto 9, 3)) rfl
  have k20 : decode b_Mo_mostOf 20 = .ok (.aload_n 0, 1) := pl_dc dd_Mo_mostOf 10 (q := (20, .aload_n 0, 1)) rfl
  have k21 : decode b_Mo_mostOf 21 = .ok (.getfield 42, 3) := pl_dc dd_Mo_mostOf 11 (q := (21, .getfield 42, 3)) rfl
  have k24 : decode b_Mo_mostOf 24 = .ok (.iload_n 1, 1) := pl_dc dd_Mo_mostOf 12 (q := (24, .iload_n 1, 1)) rfl
  have k25 : decode b_Mo_mostOf 25 = .ok (.iaload, 1) := pl_dc dd_Mo_mostOf 13 (q := (25, .iaload, 1)) rfl
  have k26 : decode b_Mo_mostOf 26 = .ok (.ireturn, 1) := pl_dc dd_Mo_mostOf 14 (q := (26, .ireturn, 1)) rfl
  exact (d_reti (p1 := 26) F Fm.2.1 Fm.2.2.1 (c_if (p1 := 12) (p2 := 17) (p3 := 26) F (b_zero_t (p1 := 9) (pj := 20) F (c_callV (p1 := 6) F (a_i_ok (p1 := 1) (a_r_ok (p1 := 0) a_nil_ok (c_aload_n F k0 rfl)) (c_callV (p1 := 3) F (a_i_ok (p1 := 2) (a_r_ok (p1 := 1) a_nil_ok (c_aload_n F k1 rfl)) (c_iload_n F k2 rfl)) (z_Mo_widthOf _) y_Mo_widthOf_ok lm_PageLayouterModel_115 k3 r_Mo_widthOf (by decide) (by decide))) (z_Mo_isSize _) y_Mo_isSize_ok lm_PageLayouterModel_118 k6 r_Mo_isSize (by decide) (by decide)) k9 (by decide)) (c_callV (p1 := 14) F (a_i_ok (p1 := 13) (a_r_ok (p1 := 12) a_nil_ok (c_aload_n F k12 rfl)) (c_iload_n F k13 rfl)) (z_Mo_widthOf _) y_Mo_widthOf_ok lm_PageLayouterModel_115 k14 r_Mo_widthOf (by decide) (by decide)) k17 (by decide) (c_iald (p1 := 24) (p2 := 25) F (c_getr (p1 := 21) F 3 12 hg_3_12 (c_aload_n F k20 rfl) k21 lf_PageLayouterModel_42) (c_iload_n F k24 rfl) k25)) k26))
def y_Mo_findColumns : MethodName := ⟨"PageLayouterModel", "findColumns", "(I)V"⟩
abbrev b_Mo_findColumns : ByteArray := prog_10_method_21_code
abbrev n_Mo_findColumns : Nat := 6
theorem y_Mo_findColumns_ok : pl_MV 3 y_Mo_findColumns b_Mo_findColumns n_Mo_findColumns (Option.none : Option Jvm.ClassFile.FieldType) 1 := ⟨pl_mem 833 (by decide +kernel) (by decide +kernel), pl_mem 832 (by decide +kernel) (by decide +kernel), pl_mem 16 (by decide +kernel) (by decide +kernel), pl_mem 47 (by decide +kernel) (by decide +kernel), ⟨by decide, by decide, by decide +kernel⟩, _, rfl, rfl⟩
def D_Mo_findColumns : List (Nat × Instr × Nat) := [(0, .aload_n 0, 1), (1, .getfield 63, 3), (4, .iload_n 1, 1), (5, .iconst 0, 1), (6, .iastore, 1), (7, .iconst 0, 1), (8, .istore_n 2, 1), (9, .iload_n 2, 1), (10, .bipush 40, 2), (12, .if_icmp .ge 23, 3), (15, .aload_n 0, 1), (16, .getfield 69, 3), (19, .iload_n 2, 1), (20, .iconst 0, 1), (21, .iastore, 1), (22, .aload_n 0, 1), (23, .getfield 72, 3), (26, .iload_n 2, 1), (27, .iconst 0, 1), (28, .iastore, 1), (29, .iinc 2 1, 3), (32, .goto (-23), 3), (35, .iload_n 1, 1), (36, .iconst 1, 1), (37, .iadd, 1), (38, .istore_n 2, 1), (39, .iload_n 2, 1), (40, .aload_n 0, 1), (41, .getfield 7, 3), (44, .if_icmp .ge 152, 3), (47, .aload_n 0, 1), (48, .getfield 33, 3), (51, .iload_n 2, 1), (52, .baload, 1), (53, .ifCond .eq 137, 3), (56, .aload_n 0, 1), (57, .getfield 13, 3), (60, .aload_n 0, 1), (61, .getfield 13, 3), (64, .iload_n 2, 1), (65, .iaload, 1), (66, .iaload, 1), (67, .iload_n 1, 1), (68, .if_icmp .ne 122, 3), (71, .aload_n 0, 1), (72, .getfield 36, 3), (75, .iload_n 2, 1), (76, .iaload, 1), (77, .istore_n 3, 1), (78, .aload_n 0, 1), (79, .getfield 63, 3), (82, .iload_n 1, 1), (83, .iload_n 3, 1), (84, .iconst 1, 1), (85, .iadd, 1), (86, .aload_n 0, 1), (87, .getfield 63, 3), (90, .iload_n 1, 1), (91, .iaload, 1), (92, .if_icmp .le 9, 3), (95, .iload_n 3, 1), (96, .iconst 1, 1), (97, .iadd, 1), (98, .goto 9, 3), (101, .aload_n 0, 1), (102, .getfield 63, 3), (105, .iload_n 1, 1), (106, .iaload, 1), (107, .iastore, 1), (108, .aload_n 0, 1), (109, .iload_n 2, 1), (110, .invokevirtual 121, 3), (113, .aload_n 0, 1), (114, .iload_n 2, 1), (115, .invokevirtual 124, 3), (118, .iadd, 1), (119, .istore 4, 2), (121, .aload_n 0, 1), (122, .iload_n 2, 1), (123, .invokevirtual 127, 3), (126, .aload_n 0, 1), (127, .iload_n 2, 1), (128, .invokevirtual 124, 3), (131, .iadd, 1), (132, .istore 5, 2), (134, .aload_n 0, 1), (135, .getfield 69, 3), (138, .iload_n 3, 1), (139, .iload 4, 2), (141, .aload_n 0, 1), (142, .getfield 69, 3), (145, .iload_n 3, 1), (146, .iaload, 1), (147, .if_icmp .le 8, 3), (150, .iload 4, 2), (152, .goto 9, 3), (155, .aload_n 0, 1), (156, .getfield 69, 3), (159, .iload_n 3, 1), (160, .iaload, 1), (161, .iastore, 1), (162, .aload_n 0, 1), (163, .getfield 72, 3), (166, .iload_n 3, 1), (167, .iload 5, 2), (169, .aload_n 0, 1), (170, .getfield 72, 3), (173, .iload_n 3, 1), (174, .iaload, 1), (175, .if_icmp .le 8, 3), (178, .iload 5, 2), (180, .goto 9, 3), (183, .aload_n 0, 1), (184, .getfield 72, 3), (187, .iload_n 3, 1), (188, .iaload, 1), (189, .iastore, 1), (190, .iinc 2 1, 3), (193, .goto (-154), 3), (196, .return_, 1)]
theorem dd_Mo_findColumns : (D_Mo_findColumns.all fun q => decide (decode b_Mo_findColumns q.1 = .ok q.2)) = true := by decide +kernel
def t_Mo_findColumns : pl_TR := fun P _ _ => s_seq (s_seq (s_iast (e_getr 3 19 (e_locr 0)) (e_loc 1) (e_int 0)) (s_seq (s_seq (s_seti 2 (e_int 0)) (s_while (b_cmp .lt (e_loc 2) (e_int 40)) (s_seq (s_seq (s_iast (e_getr 3 21 (e_locr 0)) (e_loc 2) (e_int 0)) (s_iast (e_getr 3 22 (e_locr 0)) (e_loc 2) (e_int 0))) (s_inc 2 1)))) (s_seq (s_seti 2 (e_bin (fun x y : Int32 => x + y) (e_loc 1) (e_int 1))) (s_while (b_cmp .lt (e_loc 2) (e_geti 3 1 (e_locr 0))) (s_seq (s_if (b_and (b_zero .ne (e_ald 2 (e_getr 3 9 (e_locr 0)) (e_loc 2))) (b_cmp .eq (e_ald 1 (e_getr 3 3 (e_locr 0)) (e_ald 1 (e_getr 3 3 (e_locr 0)) (e_loc 2))) (e_loc 1))) (s_seq (s_seti 3 (e_ald 1 (e_getr 3 10 (e_locr 0)) (e_loc 2))) (s_seq (s_iast (e_getr 3 19 (e_locr 0)) (e_loc 1) (e_if (b_cmp .gt (e_bin (fun x y : Int32 => x + y) (e_loc 3) (e_int 1)) (e_ald 1 (e_getr 3 19 (e_locr 0)) (e_loc 1))) (e_bin (fun x y : Int32 => x + y) (e_loc 3) (e_int 1)) (e_ald 1 (e_getr 3 19 (e_locr 0)) (e_loc 1)))) (s_seq (s_seti 4 (e_bin (fun x y : Int32 => x + y) (e_callV Value.int 3 t_Mo_leastOf n_Mo_leastOf (a_i (a_r a_nil (e_locr 0)) (e_loc 2))) (e_callV Value.int 3 t_Mo_around n_Mo_around (a_i (a_r a_nil (e_locr 0)) (e_loc 2))))) (s_seq (s_seti 5 (e_bin (fun x y : Int32 => x + y) (e_callV Value.int 3 t_Mo_mostOf n_Mo_mostOf (a_i (a_r a_nil (e_locr 0)) (e_loc 2))) (e_callV Value.int 3 t_Mo_around n_Mo_around (a_i (a_r a_nil (e_locr 0)) (e_loc 2))))) (s_seq (s_iast (e_getr 3 21 (e_locr 0)) (e_loc 3) (e_if (b_cmp .gt (e_loc 4) (e_ald 1 (e_getr 3 21 (e_locr 0)) (e_loc 3))) (e_loc 4) (e_ald 1 (e_getr 3 21 (e_locr 0)) (e_loc 3)))) (s_iast (e_getr 3 22 (e_locr 0)) (e_loc 3) (e_if (b_cmp .gt (e_loc 5) (e_ald 1 (e_getr 3 22 (e_locr 0)) (e_loc 3))) (e_loc 5) (e_ald 1 (e_getr 3 22 (e_locr 0)) (e_loc 3)))))))))) (s_inc 2 1)))))) (s_retv P)
theorem z_Mo_findColumns (l : Launch) : pl_Ctr l y_Mo_findColumns b_Mo_findColumns n_Mo_findColumns (Option.none : Option Jvm.ClassFile.FieldType) 2 42 0 0 false t_Mo_findColumns := pl_ctr_of (pe := 0) (by decide) (fun X Y P F Fm => by
  have F : pl_Fx X Y "PageLayouterModel" b_Mo_findColumns := F
  have r_Mo_around : 1 + 1 ≤ (pl_xR X).frames ∧ 8 + (n_Mo_around + 11) + 21 ≤ (pl_xR X).locals := ⟨Nat.le_trans (by decide) Fm.2.2.2.2.2.1, Nat.le_trans (by decide) Fm.2.2.2.2.2.2.1⟩
  have r_Mo_leastOf : 1 + 1 ≤ (pl_xR X).frames ∧ 8 + (n_Mo_leastOf + 11) + 21 ≤ (pl_xR X).locals := ⟨Nat.le_trans (by decide) Fm.2.2.2.2.2.1, Nat.le_trans (by decide) Fm.2.2.2.2.2.2.1⟩
  have r_Mo_mostOf : 1 + 1 ≤ (pl_xR X).frames ∧ 8 + (n_Mo_mostOf + 11) + 21 ≤ (pl_xR X).locals := ⟨Nat.le_trans (by decide) Fm.2.2.2.2.2.1, Nat.le_trans (by decide) Fm.2.2.2.2.2.2.1⟩
  have hm : ∀ i, i < 6 → i < (pl_xc X).maxLocals := fun i h => by rw [Fm.2.2.2.1]; exact h
  have k0 : decode b_Mo_findColumns 0 = .ok (.aload_n 0, 1) := pl_dc dd_Mo_findColumns 0 (q := (0, .aload_n 0, 1)) rfl
  have k1 : decode b_Mo_findColumns 1 = .ok (.getfield 63, 3) := pl_dc dd_Mo_findColumns 1 (q := (1, .getfield 63, 3)) rfl
  have k4 : decode b_Mo_findColumns 4 = .ok (.iload_n 1, 1) := pl_dc dd_Mo_findColumns 2 (q := (4, .iload_n 1, 1)) rfl
  have k5 : decode b_Mo_findColumns 5 = .ok (.iconst 0, 1) := pl_dc dd_Mo_findColumns 3 (q := (5, .iconst 0, 1)) rfl
  have k6 : decode b_Mo_findColumns 6 = .ok (.iastore, 1) := pl_dc dd_Mo_findColumns 4 (q := (6, .iastore, 1)) rfl
  have k7 : decode b_Mo_findColumns 7 = .ok (.iconst 0, 1) := pl_dc dd_Mo_findColumns 5 (q := (7, .iconst 0, 1)) rfl
  have k8 : decode b_Mo_findColumns 8 = .ok (.istore_n 2, 1) := pl_dc dd_Mo_findColumns 6 (q := (8, .istore_n 2, 1)) rfl
  have k9 : decode b_Mo_findColumns 9 = .ok (.iload_n 2, 1) := pl_dc dd_Mo_findColumns 7 (q := (9, .iload_n 2, 1)) rfl
  have k10 : decode b_Mo_findColumns 10 = .ok (.bipush 40, 2) := pl_dc dd_Mo_findColumns 8 (q := (10, .bipush 40, 2)) rfl
  have k12 : decode b_Mo_findColumns 12 = .ok (.if_icmp .ge 23, 3) := pl_dc dd_Mo_findColumns 9 (q := (12, .if_icmp .ge 23, 3)) rfl
  have k15 : decode b_Mo_findColumns 15 = .ok (.aload_n 0, 1) := pl_dc dd_Mo_findColumns 10 (q := (15, .aload_n 0, 1)) rfl
  have k16 : decode b_Mo_findColumns 16 = .ok (.getfield 69, 3) := pl_dc dd_Mo_findColumns 11 (q := (16, .getfield 69, 3)) rfl
  have k19 : decode b_Mo_findColumns 19 = .ok (.iload_n 2, 1) := pl_dc dd_Mo_findColumns 12 (q := (19, .iload_n 2, 1)) rfl
  have k20 : decode b_Mo_findColumns 20 = .ok (.iconst 0, 1) := pl_dc dd_Mo_findColumns 13 (q := (20, .iconst 0, 1)) rfl
  have k21 : decode b_Mo_findColumns 21 = .ok (.iastore, 1) := pl_dc dd_Mo_findColumns 14 (q := (21, .iastore, 1)) rfl
  have k22 : decode b_Mo_findColumns 22 = .ok (.aload_n 0, 1) := pl_dc dd_Mo_findColumns 15 (q := (22, .aload_n 0, 1)) rfl
  have k23 : decode b_Mo_findColumns 23 = .ok (.getfield 72, 3) := pl_dc dd_Mo_findColumns 16 (q := (23, .getfield 72, 3)) rfl
  have k26 : decode b_Mo_findColumns 26 = .ok (.iload_n 2, 1) := pl_dc dd_Mo_findColumns 17 (q := (26, .iload_n 2, 1)) rfl
  have k27 : decode b_Mo_findColumns 27 = .ok (.iconst 0, 1) := pl_dc dd_Mo_findColumns 18 (q := (27, .iconst 0, 1)) rfl
  have k28 : decode b_Mo_findColumns 28 = .ok (.iastore, 1) := pl_dc dd_Mo_findColumns 19 (q := (28, .iastore, 1)) rfl
  have k29 : decode b_Mo_findColumns 29 = .ok (.iinc 2 1, 3) := pl_dc dd_Mo_findColumns 20 (q := (29, .iinc 2 1, 3)) rfl
  have k32 : decode b_Mo_findColumns 32 = .ok (.goto (-23), 3) := pl_dc dd_Mo_findColumns 21 (q := (32, .goto (-23), 3)) rfl
  have k35 : decode b_Mo_findColumns 35 = .ok (.iload_n 1, 1) := pl_dc dd_Mo_findColumns 22 (q := (35, .iload_n 1, 1)) rfl
  have k36 : decode b_Mo_findColumns 36 = .ok (.iconst 1, 1) := pl_dc dd_Mo_findColumns 23 (q := (36, .iconst 1, 1)) rfl
  have k37 : decode b_Mo_findColumns 37 = .ok (.iadd, 1) := pl_dc dd_Mo_findColumns 24 (q := (37, .iadd, 1)) rfl
  have k38 : decode b_Mo_findColumns 38 = .ok (.istore_n 2, 1) := pl_dc dd_Mo_findColumns 25 (q := (38, .istore_n 2, 1)) rfl
  have k39 : decode b_Mo_findColumns 39 = .ok (.iload_n 2, 1) := pl_dc dd_Mo_findColumns 26 (q := (39, .iload_n 2, 1)) rfl
  have k40 : decode b_Mo_findColumns 40 = .ok (.aload_n 0, 1) := pl_dc dd_Mo_findColumns 27 (q := (40, .aload_n 0, 1)) rfl
  have k41 : decode b_Mo_findColumns 41 = .ok (.getfield 7, 3) := pl_dc dd_Mo_findColumns 28 (q := (41, .getfield 7, 3)) rfl
  have k44 : decode b_Mo_findColumns 44 = .ok (.if_icmp .ge 152, 3) := pl_dc dd_Mo_findColumns 29 (q := (44, .if_icmp .ge 152, 3)) rfl
  have k47 : decode b_Mo_findColumns 47 = .ok (.aload_n 0, 1) := pl_dc dd_Mo_findColumns 30 (q := (47, .aload_n 0, 1)) rfl
  have k48 : decode b_Mo_findColumns 48 = .ok (.getfield 33, 3) := pl_dc dd_Mo_findColumns 31 (q := (48, .getfield 33, 3)) rfl
  have k51 : decode b_Mo_findColumns 51 = .ok (.iload_n 2, 1) := pl_dc dd_Mo_findColumns 32 (q := (51, .iload_n 2, 1)) rfl
  have k52 : decode b_Mo_findColumns 52 = .ok (.baload, 1) := pl_dc dd_Mo_findColumns 33 (q := (52, .baload, 1)) rfl
  have k53 : decode b_Mo_findColumns 53 = .ok (.ifCond .eq 137, 3) := pl_dc dd_Mo_findColumns 34 (q := (53, .ifCond .eq 137, 3)) rfl
  have k56 : decode b_Mo_findColumns 56 = .ok (.aload_n 0, 1) := pl_dc dd_Mo_findColumns 35 (q := (56, .aload_n 0, 1)) rfl
  have k57 : decode b_Mo_findColumns 57 = .ok (.getfield 13, 3) := pl_dc dd_Mo_findColumns 36 (q := (57, .getfield 13, 3)) rfl
  have k60 : decode b_Mo_findColumns 60 = .ok (.aload_n 0, 1) := pl_dc dd_Mo_findColumns 37 (q := (60, .aload_n 0, 1)) rfl
  have k61 : decode b_Mo_findColumns 61 = .ok (.getfield 13, 3) := pl_dc dd_Mo_findColumns 38 (q := (61, .getfield 13, 3)) rfl
  have k64 : decode b_Mo_findColumns 64 = .ok (.iload_n 2, 1) := pl_dc dd_Mo_findColumns 39 (q := (64, .iload_n 2, 1)) rfl
  have k65 : decode b_Mo_findColumns 65 = .ok (.iaload, 1) := pl_dc dd_Mo_findColumns 40 (q := (65, .iaload, 1)) rfl
  have k66 : decode b_Mo_findColumns 66 = .ok (.iaload, 1) := pl_dc dd_Mo_findColumns 41 (q := (66, .iaload, 1)) rfl
  have k67 : decode b_Mo_findColumns 67 = .ok (.iload_n 1, 1) := pl_dc dd_Mo_findColumns 42 (q := (67, .iload_n 1, 1)) rfl
  have k68 : decode b_Mo_findColumns 68 = .ok (.if_icmp .ne 122, 3) := pl_dc dd_Mo_findColumns 43 (q := (68, .if_icmp .ne 122, 3)) rfl
  have k71 : decode b_Mo_findColumns 71 = .ok (.aload_n 0, 1) := pl_dc dd_Mo_findColumns 44 (q := (71, .aload_n 0, 1)) rfl
  have k72 : decode b_Mo_findColumns 72 = .ok (.getfield 36, 3) := pl_dc dd_Mo_findColumns 45 (q := (72, .getfield 36, 3)) rfl
  have k75 : decode b_Mo_findColumns 75 = .ok (.iload_n 2, 1) := pl_dc dd_Mo_findColumns 46 (q := (75, .iload_n 2, 1)) rfl
  have k76 : decode b_Mo_findColumns 76 = .ok (.iaload, 1) := pl_dc dd_Mo_findColumns 47 (q := (76, .iaload, 1)) rfl
  have k77 : decode b_Mo_findColumns 77 = .ok (.istore_n 3, 1) := pl_dc dd_Mo_findColumns 48 (q := (77, .istore_n 3, 1)) rfl
  have k78 : decode b_Mo_findColumns 78 = .ok (.aload_n 0, 1) := pl_dc dd_Mo_findColumns 49 (q := (78, .aload_n 0, 1)) rfl
  have k79 : decode b_Mo_findColumns 79 = .ok (.getfield 63, 3) := pl_dc dd_Mo_findColumns 50 (q := (79, .getfield 63, 3)) rfl
  have k82 : decode b_Mo_findColumns 82 = .ok (.iload_n 1, 1) := pl_dc dd_Mo_findColumns 51 (q := (82, .iload_n 1, 1)) rfl
  have k83 : decode b_Mo_findColumns 83 = .ok (.iload_n 3, 1) := pl_dc dd_Mo_findColumns 52 (q := (83, .iload_n 3, 1)) rfl
  have k84 : decode b_Mo_findColumns 84 = .ok (.iconst 1, 1) := pl_dc dd_Mo_findColumns 53 (q := (84, .iconst 1, 1)) rfl
  have k85 : decode b_Mo_findColumns 85 = .ok (.iadd, 1) := pl_dc dd_Mo_findColumns 54 (q := (85, .iadd, 1)) rfl
  have k86 : decode b_Mo_findColumns 86 = .ok (.aload_n 0, 1) := pl_dc dd_Mo_findColumns 55 (q := (86, .aload_n 0, 1)) rfl
  have k87 : decode b_Mo_findColumns 87 = .ok (.getfield 63, 3) := pl_dc dd_Mo_findColumns 56 (q := (87, .getfield 63, 3)) rfl
  have k90 : decode b_Mo_findColumns 90 = .ok (.iload_n 1, 1) := pl_dc dd_Mo_findColumns 57 (q := (90, .iload_n 1, 1)) rfl
  have k91 : decode b_Mo_findColumns 91 = .ok (.iaload, 1) := pl_dc dd_Mo_findColumns 58 (q := (91, .iaload, 1)) rfl
  have k92 : decode b_Mo_findColumns 92 = .ok (.if_icmp .le 9, 3) := pl_dc dd_Mo_findColumns 59 (q := (92, .if_icmp .le 9, 3)) rfl
  have k95 : decode b_Mo_findColumns 95 = .ok (.iload_n 3, 1) := pl_dc dd_Mo_findColumns 60 (q := (95, .iload_n 3, 1)) rfl
  have k96 : decode b_Mo_findColumns 96 = .ok (.iconst 1, 1) := pl_dc dd_Mo_findColumns 61 (q := (96, .iconst 1, 1)) rfl
  have k97 : decode b_Mo_findColumns 97 = .ok (.iadd, 1) := pl_dc dd_Mo_findColumns 62 (q := (97, .iadd, 1)) rfl
  have k98 : decode b_Mo_findColumns 98 = .ok (.goto 9, 3) := pl_dc dd_Mo_findColumns 63 (q := (98, .goto 9, 3)) rfl
  have k101 : decode b_Mo_findColumns 101 = .ok (.aload_n 0, 1) := pl_dc dd_Mo_findColumns 64 (q := (101, .aload_n 0, 1)) rfl
  have k102 : decode b_Mo_findColumns 102 = .ok (.getfield 63, 3) := pl_dc dd_Mo_findColumns 65 (q := (102, .getfield 63, 3)) rfl
  have k105 : decode b_Mo_findColumns 105 = .ok (.iload_n 1, 1) := pl_dc dd_Mo_findColumns 66 (q := (105, .iload_n 1, 1)) rfl
  have k106 : decode b_Mo_findColumns 106 = .ok (.iaload, 1) := pl_dc dd_Mo_findColumns 67 (q := (106, .iaload, 1)) rfl
  have k107 : decode b_Mo_findColumns 107 = .ok (.iastore, 1) := pl_dc dd_Mo_findColumns 68 (q := (107, .iastore, 1)) rfl
  have k108 : decode b_Mo_findColumns 108 = .ok (.aload_n 0, 1) := pl_dc dd_Mo_findColumns 69 (q := (108, .aload_n 0, 1)) rfl
  have k109 : decode b_Mo_findColumns 109 = .ok (.iload_n 2, 1) := pl_dc dd_Mo_findColumns 70 (q := (109, .iload_n 2, 1)) rfl
  have k110 : decode b_Mo_findColumns 110 = .ok (.invokevirtual 121, 3) := pl_dc dd_Mo_findColumns 71 (q := (110, .invokevirtual 121, 3)) rfl
  have k113 : decode b_Mo_findColumns 113 = .ok (.aload_n 0, 1) := pl_dc dd_Mo_findColumns 72 (q := (113, .aload_n 0, 1)) rfl
  have k114 : decode b_Mo_findColumns 114 = .ok (.iload_n 2, 1) := pl_dc dd_Mo_findColumns 73 (q := (114, .iload_n 2, 1)) rfl
  have k115 : decode b_Mo_findColumns 115 = .ok (.invokevirtual 124, 3) := pl_dc dd_Mo_findColumns 74 (q := (115, .invokevirtual 124, 3)) rfl
  have k118 : decode b_Mo_findColumns 118 = .ok (.iadd, 1) := pl_dc dd_Mo_findColumns 75 (q := (118, .iadd, 1)) rfl
  have k119 : decode b_Mo_findColumns 119 = .ok (.istore 4, 2) := pl_dc dd_Mo_findColumns 76 (q := (119, .istore 4, 2)) rfl
  have k121 : decode b_Mo_findColumns 121 = .ok (.aload_n 0, 1) := pl_dc dd_Mo_findColumns 77 (q := (121, .aload_n 0, 1)) rfl
  have k122 : decode b_Mo_findColumns 122 = .ok (.iload_n 2, 1) := pl_dc dd_Mo_findColumns 78 (q := (122, .iload_n 2, 1)) rfl
  have k123 : decode b_Mo_findColumns 123 = .ok (.invokevirtual 127, 3) := pl_dc dd_Mo_findColumns 79 (q := (123, .invokevirtual 127, 3)) rfl
  have k126 : decode b_Mo_findColumns 126 = .ok (.aload_n 0, 1) := pl_dc dd_Mo_findColumns 80 (q := (126, .aload_n 0, 1)) rfl
  have k127 : decode b_Mo_findColumns 127 = .ok (.iload_n 2, 1) := pl_dc dd_Mo_findColumns 81 (q := (127, .iload_n 2, 1)) rfl
  have k128 : decode b_Mo_findColumns 128 = .ok (.invokevirtual 124, 3) := pl_dc dd_Mo_findColumns 82 (q := (128, .invokevirtual 124, 3)) rfl
  have k131 : decode b_Mo_findColumns 131 = .ok (.iadd, 1) := pl_dc dd_Mo_findColumns 83 (q := (131, .iadd, 1)) rfl
  have k132 : decode b_Mo_findColumns 132 = .ok (.istore 5, 2) := pl_dc dd_Mo_findColumns 84 (q := (132, .istore 5, 2)) rfl
  have k134 : decode b_Mo_findColumns 134 = .ok (.aload_n 0, 1) := pl_dc dd_Mo_findColumns 85 (q := (134, .aload_n 0, 1)) rfl
  have k135 : decode b_Mo_findColumns 135 = .ok (.getfield 69, 3) := pl_dc dd_Mo_findColumns 86 (q := (135, .getfield 69, 3)) rfl
  have k138 : decode b_Mo_findColumns 138 = .ok (.iload_n 3, 1) := pl_dc dd_Mo_findColumns 87 (q := (138, .iload_n 3, 1)) rfl
  have k139 : decode b_Mo_findColumns 139 = .ok (.iload 4, 2) := pl_dc dd_Mo_findColumns 88 (q := (139, .iload 4, 2)) rfl
  have k141 : decode b_Mo_findColumns 141 = .ok (.aload_n 0, 1) := pl_dc dd_Mo_findColumns 89 (q := (141, .aload_n 0, 1)) rfl
  have k142 : decode b_Mo_findColumns 142 = .ok (.getfield 69, 3) := pl_dc dd_Mo_findColumns 90 (q := (142, .getfield 69, 3)) rfl
  have k145 : decode b_Mo_findColumns 145 = .ok (.iload_n 3, 1) := pl_dc dd_Mo_findColumns 91 (q := (145, .iload_n 3, 1)) rfl
  have k146 : decode b_Mo_findColumns 146 = .ok (.iaload, 1) := pl_dc dd_Mo_findColumns 92 (q := (146, .iaload, 1)) rfl
  have k147 : decode b_Mo_findColumns 147 = .ok (.if_icmp .le 8, 3) := pl_dc dd_Mo_findColumns 93 (q := (147, .if_icmp .le 8, 3)) rfl
  have k150 : decode b_Mo_findColumns 150 = .ok (.iload 4, 2) := pl_dc dd_Mo_findColumns 94 (q := (150, .iload 4, 2)) rfl
  have k152 : decode b_Mo_findColumns 152 = .ok (.goto 9, 3) := pl_dc dd_Mo_findColumns 95 (q := (152, .goto 9, 3)) rfl
  have k155 : decode b_Mo_findColumns 155 = .ok (.aload_n 0, 1) := pl_dc dd_Mo_findColumns 96 (q := (155, .aload_n 0, 1)) rfl
  have k156 : decode b_Mo_findColumns 156 = .ok (.getfield 69, 3) := pl_dc dd_Mo_findColumns 97 (q := (156, .getfield 69, 3)) rfl
  have k159 : decode b_Mo_findColumns 159 = .ok (.iload_n 3, 1) := pl_dc dd_Mo_findColumns 98 (q := (159, .iload_n 3, 1)) rfl
  have k160 : decode b_Mo_findColumns 160 = .ok (.iaload, 1) := pl_dc dd_Mo_findColumns 99 (q := (160, .iaload, 1)) rfl
  have k161 : decode b_Mo_findColumns 161 = .ok (.iastore, 1) := pl_dc dd_Mo_findColumns 100 (q := (161, .iastore, 1)) rfl
  have k162 : decode b_Mo_findColumns 162 = .ok (.aload_n 0, 1) := pl_dc dd_Mo_findColumns 101 (q := (162, .aload_n 0, 1)) rfl
  have k163 : decode b_Mo_findColumns 163 = .ok (.getfield 72, 3) := pl_dc dd_Mo_findColumns 102 (q := (163, .getfield 72, 3)) rfl
  have k166 : decode b_Mo_findColumns 166 = .ok (.iload_n 3, 1) := pl_dc dd_Mo_findColumns 103 (q := (166, .iload_n 3, 1)) rfl
  have k167 : decode b_Mo_findColumns 167 = .ok (.iload 5, 2) := pl_dc dd_Mo_findColumns 104 (q := (167, .iload 5, 2)) rfl
  have k169 : decode b_Mo_findColumns 169 = .ok (.aload_n 0, 1) := pl_dc dd_Mo_findColumns 105 (q := (169, .aload_n 0, 1)) rfl
  have k170 : decode b_Mo_findColumns 170 = .ok (.getfield 72, 3) := pl_dc dd_Mo_findColumns 106 (q := (170, .getfield 72, 3)) rfl
  have k173 : decode b_Mo_findColumns 173 = .ok (.iload_n 3, 1) := pl_dc dd_Mo_findColumns 107 (q := (173, .iload_n 3, 1)) rfl
  have k174 : decode b_Mo_findColumns 174 = .ok (.iaload, 1) := pl_dc dd_Mo_findColumns 108 (q := (174, .iaload, 1)) rfl
  have k175 : decode b_Mo_findColumns 175 = .ok (.if_icmp .le 8, 3) := pl_dc dd_Mo_findColumns 109 (q := (175, .if_icmp .le 8, 3)) rfl
  have k178 : decode b_Mo_findColumns 178 = .ok (.iload 5, 2) := pl_dc dd_Mo_findColumns 110 (q := (178, .iload 5, 2)) rfl
  have k180 : decode b_Mo_findColumns 180 = .ok (.goto 9, 3) := pl_dc dd_Mo_findColumns 111 (q := (180, .goto 9, 3)) rfl
  have k183 : decode b_Mo_findColumns 183 = .ok (.aload_n 0, 1) := pl_dc dd_Mo_findColumns 112 (q := (183, .aload_n 0, 1)) rfl
  have k184 : decode b_Mo_findColumns 184 = .ok (.getfield 72, 3) := pl_dc dd_Mo_findColumns 113 (q := (184, .getfield 72, 3)) rfl
  have k187 : decode b_Mo_findColumns 187 = .ok (.iload_n 3, 1) := pl_dc dd_Mo_findColumns 114 (q := (187, .iload_n 3, 1)) rfl
  have k188 : decode b_Mo_findColumns 188 = .ok (.iaload, 1) := pl_dc dd_Mo_findColumns 115 (q := (188, .iaload, 1)) rfl
  have k189 : decode b_Mo_findColumns 189 = .ok (.iastore, 1) := pl_dc dd_Mo_findColumns 116 (q := (189, .iastore, 1)) rfl
  have k190 : decode b_Mo_findColumns 190 = .ok (.iinc 2 1, 3) := pl_dc dd_Mo_findColumns 117 (q := (190, .iinc 2 1, 3)) rfl
  have k193 : decode b_Mo_findColumns 193 = .ok (.goto (-154), 3) := pl_dc dd_Mo_findColumns 118 (q := (193, .goto (-154), 3)) rfl
  have k196 : decode b_Mo_findColumns 196 = .ok (.return_, 1) := pl_dc dd_Mo_findColumns 119 (q := (196, .return_, 1)) rfl
  exact (d_seq (p1 := 196) (d_seq (p1 := 7) (d_iast (p1 := 4) (p2 := 5) (p3 := 6) F (c_getr (p1 := 1) F 3 19 hg_3_19 (c_aload_n F k0 rfl) k1 lf_PageLayouterModel_63) (c_iload_n F k4 rfl) (c_iconst F k5 (by decide)) k6) (d_seq (p1 := 35) (d_seq (p1 := 9) (d_istore_n (p1 := 8) F (c_iconst F k7 (by decide)) k8 rfl (hm 2 (by decide))) (d_while (p1 := 15) (p2 := 32) F (b_cmp_t (p1 := 10) (p2 := 12) (pj := 35) F (c_iload_n F k9 rfl) (c_bipush F k10 (by decide)) k12 (by decide)) (d_seq (p1 := 29) (d_seq (p1 := 22) (d_iast (p1 := 19) (p2 := 20) (p3 := 21) F (c_getr (p1 := 16) F 3 21 hg_3_21 (c_aload_n F k15 rfl) k16 lf_PageLayouterModel_69) (c_iload_n F k19 rfl) (c_iconst F k20 (by decide)) k21) (d_iast (p1 := 26) (p2 := 27) (p3 := 28) F (c_getr (p1 := 23) F 3 22 hg_3_22 (c_aload_n F k22 rfl) k23 lf_PageLayouterModel_72) (c_iload_n F k26 rfl) (c_iconst F k27 (by decide)) k28)) (d_iinc F k29 (by decide) (hm 2 (by decide)))) k32 (by decide))) (d_seq (p1 := 39) (d_istore_n (p1 := 38) F (c_bin 1 (p1 := 36) (p2 := 37) (c_iload_n F k35 rfl) (c_iconst F k36 (by decide)) pl_c1 (j_iadd F k37)) k38 rfl (hm 2 (by decide))) (d_while (p1 := 47) (p2 := 193) F (b_cmp_t (p1 := 40) (p2 := 44) (pj := 196) F (c_iload_n F k39 rfl) (c_geti (p1 := 41) F 3 1 hg_3_1 (c_aload_n F k40 rfl) k41 lf_PageLayouterModel_7) k44 (by decide)) (d_seq (p1 := 190) (d_if (p1 := 71) (p2 := 190) (b_and_t (p1 := 56) (b_zero_t (p1 := 53) (pj := 190) F (c_zald (p1 := 51) (p2 := 52) F (c_getr (p1 := 48) F 3 9 hg_3_9 (c_aload_n F k47 rfl) k48 lf_PageLayouterModel_33) (c_iload_n F k51 rfl) k52) k53 (by decide)) (b_cmp_t (p1 := 67) (p2 := 68) (pj := 190) F (c_iald (p1 := 60) (p2 := 66) F (c_getr (p1 := 57) F 3 3 hg_3_3 (c_aload_n F k56 rfl) k57 lf_PageLayouterModel_13) (c_iald (p1 := 64) (p2 := 65) F (c_getr (p1 := 61) F 3 3 hg_3_3 (c_aload_n F k60 rfl) k61 lf_PageLayouterModel_13) (c_iload_n F k64 rfl) k65) k66) (c_iload_n F k67 rfl) k68 (by decide))) (d_seq (p1 := 78) (d_istore_n (p1 := 77) F (c_iald (p1 := 75) (p2 := 76) F (c_getr (p1 := 72) F 3 10 hg_3_10 (c_aload_n F k71 rfl) k72 lf_PageLayouterModel_36) (c_iload_n F k75 rfl) k76) k77 rfl (hm 3 (by decide))) (d_seq (p1 := 108) (d_iast (p1 := 82) (p2 := 83) (p3 := 107) F (c_getr (p1 := 79) F 3 19 hg_3_19 (c_aload_n F k78 rfl) k79 lf_PageLayouterModel_63) (c_iload_n F k82 rfl) (c_if (p1 := 95) (p2 := 98) (p3 := 107) F (b_cmp_t (p1 := 86) (p2 := 92) (pj := 101) F (c_bin 1 (p1 := 84) (p2 := 85) (c_iload_n F k83 rfl) (c_iconst F k84 (by decide)) pl_c1 (j_iadd F k85)) (c_iald (p1 := 90) (p2 := 91) F (c_getr (p1 := 87) F 3 19 hg_3_19 (c_aload_n F k86 rfl) k87 lf_PageLayouterModel_63) (c_iload_n F k90 rfl) k91) k92 (by decide)) (c_bin 1 (p1 := 96) (p2 := 97) (c_iload_n F k95 rfl) (c_iconst F k96 (by decide)) pl_c1 (j_iadd F k97)) k98 (by decide) (c_iald (p1 := 105) (p2 := 106) F (c_getr (p1 := 102) F 3 19 hg_3_19 (c_aload_n F k101 rfl) k102 lf_PageLayouterModel_63) (c_iload_n F k105 rfl) k106)) k107) (d_seq (p1 := 121) (d_istore (p1 := 119) F (c_bin 1 (p1 := 113) (p2 := 118) (c_callV (p1 := 110) F (a_i_ok (p1 := 109) (a_r_ok (p1 := 108) a_nil_ok (c_aload_n F k108 rfl)) (c_iload_n F k109 rfl)) (z_Mo_leastOf _) y_Mo_leastOf_ok lm_PageLayouterModel_121 k110 r_Mo_leastOf (by decide) (by decide)) (c_callV (p1 := 115) F (a_i_ok (p1 := 114) (a_r_ok (p1 := 113) a_nil_ok (c_aload_n F k113 rfl)) (c_iload_n F k114 rfl)) (z_Mo_around _) y_Mo_around_ok lm_PageLayouterModel_124 k115 r_Mo_around (by decide) (by decide)) pl_c1 (j_iadd F k118)) k119 (hm 4 (by decide))) (d_seq (p1 := 134) (d_istore (p1 := 132) F (c_bin 1 (p1 := 126) (p2 := 131) (c_callV (p1 := 123) F (a_i_ok (p1 := 122) (a_r_ok (p1 := 121) a_nil_ok (c_aload_n F k121 rfl)) (c_iload_n F k122 rfl)) (z_Mo_mostOf _) y_Mo_mostOf_ok lm_PageLayouterModel_127 k123 r_Mo_mostOf (by decide) (by decide)) (c_callV (p1 := 128) F (a_i_ok (p1 := 127) (a_r_ok (p1 := 126) a_nil_ok (c_aload_n F k126 rfl)) (c_iload_n F k127 rfl)) (z_Mo_around _) y_Mo_around_ok lm_PageLayouterModel_124 k128 r_Mo_around (by decide) (by decide)) pl_c1 (j_iadd F k131)) k132 (hm 5 (by decide))) (d_seq (p1 := 162) (d_iast (p1 := 138) (p2 := 139) (p3 := 161) F (c_getr (p1 := 135) F 3 21 hg_3_21 (c_aload_n F k134 rfl) k135 lf_PageLayouterModel_69) (c_iload_n F k138 rfl) (c_if (p1 := 150) (p2 := 152) (p3 := 161) F (b_cmp_t (p1 := 141) (p2 := 147) (pj := 155) F (c_iload F k139) (c_iald (p1 := 145) (p2 := 146) F (c_getr (p1 := 142) F 3 21 hg_3_21 (c_aload_n F k141 rfl) k142 lf_PageLayouterModel_69) (c_iload_n F k145 rfl) k146) k147 (by decide)) (c_iload F k150) k152 (by decide) (c_iald (p1 := 159) (p2 := 160) F (c_getr (p1 := 156) F 3 21 hg_3_21 (c_aload_n F k155 rfl) k156 lf_PageLayouterModel_69) (c_iload_n F k159 rfl) k160)) k161) (d_iast (p1 := 166) (p2 := 167) (p3 := 189) F (c_getr (p1 := 163) F 3 22 hg_3_22 (c_aload_n F k162 rfl) k163 lf_PageLayouterModel_72) (c_iload_n F k166 rfl) (c_if (p1 := 178) (p2 := 180) (p3 := 189) F (b_cmp_t (p1 := 169) (p2 := 175) (pj := 183) F (c_iload F k167) (c_iald (p1 := 173) (p2 := 174) F (c_getr (p1 := 170) F 3 22 hg_3_22 (c_aload_n F k169 rfl) k170 lf_PageLayouterModel_72) (c_iload_n F k173 rfl) k174) k175 (by decide)) (c_iload F k178) k180 (by decide) (c_iald (p1 := 187) (p2 := 188) F (c_getr (p1 := 184) F 3 22 hg_3_22 (c_aload_n F k183 rfl) k184 lf_PageLayouterModel_72) (c_iload_n F k187 rfl) k188)) k189))))))) (d_iinc F k190 (by decide) (hm 2 (by decide)))) k193 (by decide))))) (d_retv F Fm.2.1 Fm.2.2.1 k196)))
def y_Mo_findCores : MethodName := ⟨"PageLayouterModel", "findCores", "()V"⟩
abbrev b_Mo_findCores : ByteArray := prog_10_method_22_code
abbrev n_Mo_findCores : Nat := 8
theorem y_Mo_findCores_ok : pl_MV 3 y_Mo_findCores b_Mo_findCores n_Mo_findCores (Option.none : Option Jvm.ClassFile.FieldType) 0 := ⟨pl_mem 817 (by decide +kernel) (by decide +kernel), pl_mem 816 (by decide +kernel) (by decide +kernel), pl_mem 12 (by decide +kernel) (by decide +kernel), pl_mem 47 (by decide +kernel) (by decide +kernel), ⟨by decide, by decide, by decide +kernel⟩, _, rfl, rfl⟩
def D_Mo_findCores : List (Nat × Instr × Nat) := [(0, .aload_n 0, 1), (1, .invokevirtual 130, 3), (4, .aload_n 0, 1), (5, .getfield 7, 3), (8, .iconst 1, 1), (9, .isub, 1), (10, .istore_n 1, 1), (11, .iload_n 1, 1), (12, .ifCond .lt 344, 3), (15, .aload_n 0, 1), (16, .getfield 23, 3), (19, .bipush 12, 2), (21, .iload_n 1, 1), (22, .imul, 1), (23, .bipush 7, 2), (25, .iadd, 1), (26, .iaload, 1), (27, .istore_n 2, 1), (28, .aload_n 0, 1), (29, .getfield 23, 3), (32, .bipush 12, 2), (34, .iload_n 1, 1), (35, .imul, 1), (36, .bipush 6, 2), (38, .iadd, 1), (39, .iaload, 1), (40, .istore_n 3, 1), (41, .aload_n 0, 1), (42, .getfield 39, 3), (45, .iload_n 1, 1), (46, .iload_n 3, 1), (47, .ifCond .le 7, 3), (50, .iload_n 2, 1), (51, .goto 4, 3), (54, .iconst 0, 1), (55, .iastore, 1), (56, .aload_n 0, 1), (57, .getfield 42, 3), (60, .iload_n 1, 1), (61, .iload_n 3, 1), (62, .ifCond .le 13, 3), (65, .iload_n 3, 1), (66, .iload_n 2, 1), (67, .imul, 1), (68, .iload_n 3, 1), (69, .iadd, 1), (70, .iconst 1, 1), (71, .isub, 1), (72, .goto 4, 3), (75, .iconst 0, 1), (76, .iastore, 1), (77, .aload_n 0, 1), (78, .iload_n 1, 1), (79, .invokevirtual 133, 3), (82, .ifCond .eq 268, 3), (85, .aload_n 0, 1), (86, .getfield 39, 3), (89, .iload_n 1, 1), (90, .iconst 0, 1), (91, .iastore, 1), (92, .aload_n 0, 1), (93, .getfield 42, 3), (96, .iload_n 1, 1), (97, .iconst 0, 1), (98, .iastore, 1), (99, .aload_n 0, 1), (100, .getfield 30, 3), (103, .iload_n 1, 1), (104, .iaload, 1), (105, .iconst 2, 1), (106, .if_icmp .ne 68, 3), (109, .aload_n 0, 1), (110, .iload_n 1, 1), (111, .invokevirtual 136, 3), (114, .iconst 0, 1), (115, .istore 4, 2), (117, .iload 4, 2), (119, .aload_n 0, 1), (120, .getfield 63, 3), (123, .iload_n 1, 1), (124, .iaload, 1), (125, .if_icmp .ge 49, 3), (128, .aload_n 0, 1), (129, .getfield 39, 3), (132, .iload_n 1, 1), (133, .aload_n 0, 1), (134, .getfield 39, 3), (137, .iload_n 1, 1), (138, .iaload, 1), (139, .aload_n 0, 1), (140, .getfield 69, 3), (143, .iload 4, 2), (145, .iaload, 1), (146, .iadd, 1), (147, .iastore, 1), (148, .aload_n 0, 1), (149, .getfield 42, 3), (152, .iload_n 1, 1), (153, .aload_n 0, 1), (154, .getfield 42, 3), (157, .iload_n 1, 1), (158, .iaload, 1), (159, .aload_n 0, 1), (160, .getfield 72, 3), (163, .iload 4, 2), (165, .iaload, 1), (166, .iadd, 1), (167, .iastore, 1), (168, .iinc 4 1, 3), (171, .goto (-54), 3), (174, .iload_n 1, 1), (175, .iconst 1, 1), (176, .iadd, 1), (177, .istore 4, 2), (179, .iload 4, 2), (181, .aload_n 0, 1), (182, .getfield 7, 3), (185, .if_icmp .ge 165, 3), (188, .aload_n 0, 1), (189, .getfield 30, 3), (192, .iload_n 1, 1), (193, .iaload, 1), (194, .iconst 2, 1), (195, .if_icmp .eq 155, 3), (198, .aload_n 0, 1), (199, .iload 4, 2), (201, .iload_n 1, 1), (202, .invokevirtual 105, 3), (205, .ifCond .eq 139, 3), (208, .aload_n 0, 1), (209, .iload 4, 2), (211, .invokevirtual 121, 3), (214, .aload_n 0, 1), (215, .iload 4, 2), (217, .invokevirtual 124, 3), (220, .iadd, 1), (221, .istore 5, 2), (223, .aload_n 0, 1), (224, .iload 4, 2), (226, .invokevirtual 127, 3), (229, .aload_n 0, 1), (230, .iload 4, 2), (232, .invokevirtual 124, 3), (235, .iadd, 1), (236, .istore 6, 2), (238, .aload_n 0, 1), (239, .getfield 30, 3), (242, .iload_n 1, 1), (243, .iaload, 1), (244, .ifCond .ne 7, 3), (247, .iconst 1, 1), (248, .goto 4, 3), (251, .iconst 0, 1), (252, .istore 7, 2), (254, .aload_n 0, 1), (255, .getfield 39, 3), (258, .iload_n 1, 1), (259, .iload 7, 2), (261, .ifCond .ne 15, 3), (264, .aload_n 0, 1), (265, .getfield 39, 3), (268, .iload_n 1, 1), (269, .iaload, 1), (270, .iload 5, 2), (272, .iadd, 1), (273, .goto 25, 3), (276, .iload 5, 2), (278, .aload_n 0, 1), (279, .getfield 39, 3), (282, .iload_n 1, 1), (283, .iaload, 1), (284, .if_icmp .le 8, 3), (287, .iload 5, 2), (289, .goto 9, 3), (292, .aload_n 0, 1), (293, .getfield 39, 3), (296, .iload_n 1, 1), (297, .iaload, 1), (298, .iastore, 1), (299, .aload_n 0, 1), (300, .getfield 42, 3), (303, .iload_n 1, 1), (304, .iload 7, 2), (306, .ifCond .ne 15, 3), (309, .aload_n 0, 1), (310, .getfield 42, 3), (313, .iload_n 1, 1), (314, .iaload, 1), (315, .iload 6, 2), (317, .iadd, 1), (318, .goto 25, 3), (321, .iload 6, 2), (323, .aload_n 0, 1), (324, .getfield 42, 3), (327, .iload_n 1, 1), (328, .iaload, 1), (329, .if_icmp .le 8, 3), (332, .iload 6, 2), (334, .goto 9, 3), (337, .aload_n 0, 1), (338, .getfield 42, 3), (341, .iload_n 1, 1), (342, .iaload, 1), (343, .iastore, 1), (344, .iinc 4 1, 3), (347, .goto (-168), 3), (350, .iinc 1 (-1), 3), (353, .goto (-342), 3), (356, .return_, 1)]
theorem dd_Mo_findCores : (D_Mo_findCores.all fun q => decide (decode b_Mo_findCores q.1 = .ok q.2)) = true := by decide +kernel
def t_Mo_findCores : pl_TR := fun P _ _ => s_seq (s_seq (s_callV 3 t_Mo_findRoles n_Mo_findRoles (a_r a_nil (e_locr 0))) (s_seq (s_seti 1 (e_bin (fun x y : Int32 => x - y) (e_geti 3 1 (e_locr 0)) (e_int 1))) (s_while (b_zero .ge (e_loc 1)) (s_seq (s_seq (s_seti 2 (e_ald 1 (e_getr 3 6 (e_locr 0)) (e_bin (fun x y : Int32 => x + y) (e_bin (fun x y : Int32 => x * y) (e_int 12) (e_loc 1)) (e_int 7)))) (s_seq (s_seti 3 (e_ald 1 (e_getr 3 6 (e_locr 0)) (e_bin (fun x y : Int32 => x + y) (e_bin (fun x y : Int32 => x * y) (e_int 12) (e_loc 1)) (e_int 6)))) (s_seq (s_iast (e_getr 3 11 (e_locr 0)) (e_loc 1) (e_if (b_zero .gt (e_loc 3)) (e_loc 2) (e_int 0))) (s_seq (s_iast (e_getr 3 12 (e_locr 0)) (e_loc 1) (e_if (b_zero .gt (e_loc 3)) (e_bin (fun x y : Int32 => x - y) (e_bin (fun x y : Int32 => x + y) (e_bin (fun x y : Int32 => x * y) (e_loc 3) (e_loc 2)) (e_loc 3)) (e_int 1)) (e_int 0))) (s_if (b_zero .ne (e_callV Value.int 3 t_Mo_hasFlow n_Mo_hasFlow (a_i (a_r a_nil (e_locr 0)) (e_loc 1)))) (s_seq (s_iast (e_getr 3 11 (e_locr 0)) (e_loc 1) (e_int 0)) (s_seq (s_iast (e_getr 3 12 (e_locr 0)) (e_loc 1) (e_int 0)) (s_seq (s_if (b_cmp .eq (e_ald 1 (e_getr 3 8 (e_locr 0)) (e_loc 1)) (e_int 2)) (s_seq (s_callV 3 t_Mo_findColumns n_Mo_findColumns (a_i (a_r a_nil (e_locr 0)) (e_loc 1))) (s_seq (s_seti 4 (e_int 0)) (s_while (b_cmp .lt (e_loc 4) (e_ald 1 (e_getr 3 19 (e_locr 0)) (e_loc 1))) (s_seq (s_seq (s_iast (e_getr 3 11 (e_locr 0)) (e_loc 1) (e_bin (fun x y : Int32 => x + y) (e_ald 1 (e_getr 3 11 (e_locr 0)) (e_loc 1)) (e_ald 1 (e_getr 3 21 (e_locr 0)) (e_loc 4)))) (s_iast (e_getr 3 12 (e_locr 0)) (e_loc 1) (e_bin (fun x y : Int32 => x + y) (e_ald 1 (e_getr 3 12 (e_locr 0)) (e_loc 1)) (e_ald 1 (e_getr 3 22 (e_locr 0)) (e_loc 4))))) (s_inc 4 1)))))) (s_seq (s_seti 4 (e_bin (fun x y : Int32 => x + y) (e_loc 1) (e_int 1))) (s_while (b_and (b_cmp .lt (e_loc 4) (e_geti 3 1 (e_locr 0))) (b_cmp .ne (e_ald 1 (e_getr 3 8 (e_locr 0)) (e_loc 1)) (e_int 2))) (s_seq (s_if (b_zero .ne (e_callV Value.int 3 t_Mo_flows n_Mo_flows (a_i (a_i (a_r a_nil (e_locr 0)) (e_loc 4)) (e_loc 1)))) (s_seq (s_seti 5 (e_bin (fun x y : Int32 => x + y) (e_callV Value.int 3 t_Mo_leastOf n_Mo_leastOf (a_i (a_r a_nil (e_locr 0)) (e_loc 4))) (e_callV Value.int 3 t_Mo_around n_Mo_around (a_i (a_r a_nil (e_locr 0)) (e_loc 4))))) (s_seq (s_seti 6 (e_bin (fun x y : Int32 => x + y) (e_callV Value.int 3 t_Mo_mostOf n_Mo_mostOf (a_i (a_r a_nil (e_locr 0)) (e_loc 4))) (e_callV Value.int 3 t_Mo_around n_Mo_around (a_i (a_r a_nil (e_locr 0)) (e_loc 4))))) (s_seq (s_seti 7 (e_if (b_zero .eq (e_ald 1 (e_getr 3 8 (e_locr 0)) (e_loc 1))) (e_int 1) (e_int 0))) (s_seq (s_iast (e_getr 3 11 (e_locr 0)) (e_loc 1) (e_if (b_not (b_zero .ne (e_loc 7))) (e_bin (fun x y : Int32 => x + y) (e_ald 1 (e_getr 3 11 (e_locr 0)) (e_loc 1)) (e_loc 5)) (e_if (b_cmp .gt (e_loc 5) (e_ald 1 (e_getr 3 11 (e_locr 0)) (e_loc 1))) (e_loc 5) (e_ald 1 (e_getr 3 11 (e_locr 0)) (e_loc 1))))) (s_iast (e_getr 3 12 (e_locr 0)) (e_loc 1) (e_if (b_not (b_zero .ne (e_loc 7))) (e_bin (fun x y : Int32 => x + y) (e_ald 1 (e_getr 3 12 (e_locr 0)) (e_loc 1)) (e_loc 6)) (e_if (b_cmp .gt (e_loc 6) (e_ald 1 (e_getr 3 12 (e_locr 0)) (e_loc 1))) (e_loc 6) (e_ald 1 (e_getr 3 12 (e_locr 0)) (e_loc 1)))))))))) (s_inc 4 1)))))))))))) (s_inc 1 (-1)))))) (s_retv P)
theorem z_Mo_findCores (l : Launch) : pl_Ctr l y_Mo_findCores b_Mo_findCores n_Mo_findCores (Option.none : Option Jvm.ClassFile.FieldType) 3 67 0 0 false t_Mo_findCores := pl_ctr_of (pe := 0) (by decide) (fun X Y P F Fm => by
  have F : pl_Fx X Y "PageLayouterModel" b_Mo_findCores := F
  have r_Mo_around : 1 + 1 ≤ (pl_xR X).frames ∧ 8 + (n_Mo_around + 11) + 21 ≤ (pl_xR X).locals := ⟨Nat.le_trans (by decide) Fm.2.2.2.2.2.1, Nat.le_trans (by decide) Fm.2.2.2.2.2.2.1⟩
  have r_Mo_findColumns : 2 + 1 ≤ (pl_xR X).frames ∧ 8 + (n_Mo_findColumns + 11) + 42 ≤ (pl_xR X).locals := ⟨Nat.le_trans (by decide) Fm.2.2.2.2.2.1, Nat.le_trans (by decide) Fm.2.2.2.2.2.2.1⟩
  have r_Mo_findRoles : 1 + 1 ≤ (pl_xR X).frames ∧ 8 + (n_Mo_findRoles + 11) + 22 ≤ (pl_xR X).locals := ⟨Nat.le_trans (by decide) Fm.2.2.2.2.2.1, Nat.le_trans (by decide) Fm.2.2.2.2.2.2.1⟩
  have r_Mo_flows : 0 + 1 ≤ (pl_xR X).frames ∧ 8 + (n_Mo_flows + 11) + 0 ≤ (pl_xR X).locals := ⟨Nat.le_trans (by decide) Fm.2.2.2.2.2.1, Nat.le_trans (by decide) Fm.2.2.2.2.2.2.1⟩
  have r_Mo_hasFlow : 1 + 1 ≤ (pl_xR X).frames ∧ 8 + (n_Mo_hasFlow + 11) + 22 ≤ (pl_xR X).locals := ⟨Nat.le_trans (by decide) Fm.2.2.2.2.2.1, Nat.le_trans (by decide) Fm.2.2.2.2.2.2.1⟩
  have r_Mo_leastOf : 1 + 1 ≤ (pl_xR X).frames ∧ 8 + (n_Mo_leastOf + 11) + 21 ≤ (pl_xR X).locals := ⟨Nat.le_trans (by decide) Fm.2.2.2.2.2.1, Nat.le_trans (by decide) Fm.2.2.2.2.2.2.1⟩
  have r_Mo_mostOf : 1 + 1 ≤ (pl_xR X).frames ∧ 8 + (n_Mo_mostOf + 11) + 21 ≤ (pl_xR X).locals := ⟨Nat.le_trans (by decide) Fm.2.2.2.2.2.1, Nat.le_trans (by decide) Fm.2.2.2.2.2.2.1⟩
  have hm : ∀ i, i < 8 → i < (pl_xc X).maxLocals := fun i h => by rw [Fm.2.2.2.1]; exact h
  have k0 : decode b_Mo_findCores 0 = .ok (.aload_n 0, 1) := pl_dc dd_Mo_findCores 0 (q := (0, .aload_n 0, 1)) rfl
  have k1 : decode b_Mo_findCores 1 = .ok (.invokevirtual 130, 3) := pl_dc dd_Mo_findCores 1 (q := (1, .invokevirtual 130, 3)) rfl
  have k4 : decode b_Mo_findCores 4 = .ok (.aload_n 0, 1) := pl_dc dd_Mo_findCores 2 (q := (4, .aload_n 0, 1)) rfl
  have k5 : decode b_Mo_findCores 5 = .ok (.getfield 7, 3) := pl_dc dd_Mo_findCores 3 (q := (5, .getfield 7, 3)) rfl
  have k8 : decode b_Mo_findCores 8 = .ok (.iconst 1, 1) := pl_dc dd_Mo_findCores 4 (q := (8, .iconst 1, 1)) rfl
  have k9 : decode b_Mo_findCores 9 = .ok (.isub, 1) := pl_dc dd_Mo_findCores 5 (q := (9, .isub, 1)) rfl
  have k10 : decode b_Mo_findCores 10 = .ok (.istore_n 1, 1) := pl_dc dd_Mo_findCores 6 (q := (10, .istore_n 1, 1)) rfl
  have k11 : decode b_Mo_findCores 11 = .ok (.iload_n 1, 1) := pl_dc dd_Mo_findCores 7 (q := (11, .iload_n 1, 1)) rfl
  have k12 : decode b_Mo_findCores 12 = .ok (.ifCond .lt 344, 3) := pl_dc dd_Mo_findCores 8 (q := (12, .ifCond .lt 344, 3)) rfl
  have k15 : decode b_Mo_findCores 15 = .ok (.aload_n 0, 1) := pl_dc dd_Mo_findCores 9 (q := (15, .aload_n 0, 1)) rfl
  have k16 : decode b_Mo_findCores 16 = .ok (.getfield 23, 3) := pl_dc dd_Mo_findCores 10 (q := (16, .getfield 23, 3)) rfl
  have k19 : decode b_Mo_findCores 19 = .ok (.bipush 12, 2) := pl_dc dd_Mo_findCores 11 (q := (19, .bipush 12, 2)) rfl
  have k21 : decode b_Mo_findCores 21 = .ok (.iload_n 1, 1) := pl_dc dd_Mo_findCores 12 (q := (21, .iload_n 1, 1)) rfl
  have k22 : decode b_Mo_findCores 22 = .ok (.imul, 1) := pl_dc dd_Mo_findCores 13 (q := (22, .imul, 1)) rfl
  have k23 : decode b_Mo_findCores 23 = .ok (.bipush 7, 2) := pl_dc dd_Mo_findCores 14 (q := (23, .bipush 7, 2)) rfl
  have k25 : decode b_Mo_findCores 25 = .ok (.iadd, 1) := pl_dc dd_Mo_findCores 15 (q := (25, .iadd, 1)) rfl
  have k26 : decode b_Mo_findCores 26 = .ok (.iaload, 1) := pl_dc dd_Mo_findCores 16 (q := (26, .iaload, 1)) rfl
  have k27 : decode b_Mo_findCores 27 = .ok (.istore_n 2, 1) := pl_dc dd_Mo_findCores 17 (q := (27, .istore_n 2, 1)) rfl
  have k28 : decode b_Mo_findCores 28 = .ok (.aload_n 0, 1) := pl_dc dd_Mo_findCores 18 (q := (28, .aload_n 0, 1)) rfl
  have k29 : decode b_Mo_findCores 29 = .ok (.getfield 23, 3) := pl_dc dd_Mo_findCores 19 (q := (29, .getfield 23, 3)) rfl
  have k32 : decode b_Mo_findCores 32 = .ok (.bipush 12, 2) := pl_dc dd_Mo_findCores 20 (q := (32, .bipush 12, 2)) rfl
  have k34 : decode b_Mo_findCores 34 = .ok (.iload_n 1, 1) := pl_dc dd_Mo_findCores 21 (q := (34, .iload_n 1, 1)) rfl
  have k35 : decode b_Mo_findCores 35 = .ok (.imul, 1) := pl_dc dd_Mo_findCores 22 (q := (35, .imul, 1)) rfl
  have k36 : decode b_Mo_findCores 36 = .ok (.bipush 6, 2) := pl_dc dd_Mo_findCores 23 (q := (36, .bipush 6, 2)) rfl
  have k38 : decode b_Mo_findCores 38 = .ok (.iadd, 1) := pl_dc dd_Mo_findCores 24 (q := (38, .iadd, 1)) rfl
  have k39 : decode b_Mo_findCores 39 = .ok (.iaload, 1) := pl_dc dd_Mo_findCores 25 (q := (39, .iaload, 1)) rfl
  have k40 : decode b_Mo_findCores 40 = .ok (.istore_n 3, 1) := pl_dc dd_Mo_findCores 26 (q := (40, .istore_n 3, 1)) rfl
  have k41 : decode b_Mo_findCores 41 = .ok (.aload_n 0, 1) := pl_dc dd_Mo_findCores 27 (q := (41, .aload_n 0, 1)) rfl
  have k42 : decode b_Mo_findCores 42 = .ok (.getfield 39, 3) := pl_dc dd_Mo_findCores 28 (q := (42, .getfield 39, 3)) rfl
  have k45 : decode b_Mo_findCores 45 = .ok (.iload_n 1, 1) := pl_dc dd_Mo_findCores 29 (q := (45, .iload_n 1, 1)) rfl
  have k46 : decode b_Mo_findCores 46 = .ok (.iload_n 3, 1) := pl_dc dd_Mo_findCores 30 (q := (46, .iload_n 3, 1)) rfl
  have k47 : decode b_Mo_findCores 47 = .ok (.ifCond .le 7, 3) := pl_dc dd_Mo_findCores 31 (q := (47, .ifCond .le 7, 3)) rfl
  have k50 : decode b_Mo_findCores 50 = .ok (.iload_n 2, 1) := pl_dc dd_Mo_findCores 32 (q := (50, .iload_n 2, 1)) rfl
  have k51 : decode b_Mo_findCores 51 = .ok (.goto 4, 3) := pl_dc dd_Mo_findCores 33 (q := (51, .goto 4, 3)) rfl
  have k54 : decode b_Mo_findCores 54 = .ok (.iconst 0, 1) := pl_dc dd_Mo_findCores 34 (q := (54, .iconst 0, 1)) rfl
  have k55 : decode b_Mo_findCores 55 = .ok (.iastore, 1) := pl_dc dd_Mo_findCores 35 (q := (55, .iastore, 1)) rfl
  have k56 : decode b_Mo_findCores 56 = .ok (.aload_n 0, 1) := pl_dc dd_Mo_findCores 36 (q := (56, .aload_n 0, 1)) rfl
  have k57 : decode b_Mo_findCores 57 = .ok (.getfield 42, 3) := pl_dc dd_Mo_findCores 37 (q := (57, .getfield 42, 3)) rfl
  have k60 : decode b_Mo_findCores 60 = .ok (.iload_n 1, 1) := pl_dc dd_Mo_findCores 38 (q := (60, .iload_n 1, 1)) rfl
  have k61 : decode b_Mo_findCores 61 = .ok (.iload_n 3, 1) := pl_dc dd_Mo_findCores 39 (q := (61, .iload_n 3, 1)) rfl
  have k62 : decode b_Mo_findCores 62 = .ok (.ifCond .le 13, 3) := pl_dc dd_Mo_findCores 40 (q := (62, .ifCond .le 13, 3)) rfl
  have k65 : decode b_Mo_findCores 65 = .ok (.iload_n 3, 1) := pl_dc dd_Mo_findCores 41 (q := (65, .iload_n 3, 1)) rfl
  have k66 : decode b_Mo_findCores 66 = .ok (.iload_n 2, 1) := pl_dc dd_Mo_findCores 42 (q := (66, .iload_n 2, 1)) rfl
  have k67 : decode b_Mo_findCores 67 = .ok (.imul, 1) := pl_dc dd_Mo_findCores 43 (q := (67, .imul, 1)) rfl
  have k68 : decode b_Mo_findCores 68 = .ok (.iload_n 3, 1) := pl_dc dd_Mo_findCores 44 (q := (68, .iload_n 3, 1)) rfl
  have k69 : decode b_Mo_findCores 69 = .ok (.iadd, 1) := pl_dc dd_Mo_findCores 45 (q := (69, .iadd, 1)) rfl
  have k70 : decode b_Mo_findCores 70 = .ok (.iconst 1, 1) := pl_dc dd_Mo_findCores 46 (q := (70, .iconst 1, 1)) rfl
  have k71 : decode b_Mo_findCores 71 = .ok (.isub, 1) := pl_dc dd_Mo_findCores 47 (q := (71, .isub, 1)) rfl
  have k72 : decode b_Mo_findCores 72 = .ok (.goto 4, 3) := pl_dc dd_Mo_findCores 48 (q := (72, .goto 4, 3)) rfl
  have k75 : decode b_Mo_findCores 75 = .ok (.iconst 0, 1) := pl_dc dd_Mo_findCores 49 (q := (75, .iconst 0, 1)) rfl
  have k76 : decode b_Mo_findCores 76 = .ok (.iastore, 1) := pl_dc dd_Mo_findCores 50 (q := (76, .iastore, 1)) rfl
  have k77 : decode b_Mo_findCores 77 = .ok (.aload_n 0, 1) := pl_dc dd_Mo_findCores 51 (q := (77, .aload_n 0, 1)) rfl
  have k78 : decode b_Mo_findCores 78 = .ok (.iload_n 1, 1) := pl_dc dd_Mo_findCores 52 (q := (78, .iload_n 1, 1)) rfl
  have k79 : decode b_Mo_findCores 79 = .ok (.invokevirtual 133, 3) := pl_dc dd_Mo_findCores 53 (q := (79, .invokevirtual 133, 3)) rfl
  have k82 : decode b_Mo_findCores 82 = .ok (.ifCond .eq 268, 3) := pl_dc dd_Mo_findCores 54 (q := (82, .ifCond .eq 268, 3)) rfl
  have k85 : decode b_Mo_findCores 85 = .ok (.aload_n 0, 1) := pl_dc dd_Mo_findCores 55 (q := (85, .aload_n 0, 1)) rfl
  have k86 : decode b_Mo_findCores 86 = .ok (.getfield 39, 3) := pl_dc dd_Mo_findCores 56 (q := (86, .getfield 39, 3)) rfl
  have k89 : decode b_Mo_findCores 89 = .ok (.iload_n 1, 1) := pl_dc dd_Mo_findCores 57 (q := (89, .iload_n 1, 1)) rfl
  have k90 : decode b_Mo_findCores 90 = .ok (.iconst 0, 1) := pl_dc dd_Mo_findCores 58 (q := (90, .iconst 0, 1)) rfl
  have k91 : decode b_Mo_findCores 91 = .ok (.iastore, 1) := pl_dc dd_Mo_findCores 59 (q := (91, .iastore, 1)) rfl
  have k92 : decode b_Mo_findCores 92 = .ok (.aload_n 0, 1) := pl_dc dd_Mo_findCores 60 (q := (92, .aload_n 0, 1)) rfl
  have k93 : decode b_Mo_findCores 93 = .ok (.getfield 42, 3) := pl_dc dd_Mo_findCores 61 (q := (93, .getfield 42, 3)) rfl
  have k96 : decode b_Mo_findCores 96 = .ok (.iload_n 1, 1) := pl_dc dd_Mo_findCores 62 (q := (96, .iload_n 1, 1)) rfl
  have k97 : decode b_Mo_findCores 97 = .ok (.iconst 0, 1) := pl_dc dd_Mo_findCores 63 (q := (97, .iconst 0, 1)) rfl
  have k98 : decode b_Mo_findCores 98 = .ok (.iastore, 1) := pl_dc dd_Mo_findCores 64 (q := (98, .iastore, 1)) rfl
  have k99 : decode b_Mo_findCores 99 = .ok (.aload_n 0, 1) := pl_dc dd_Mo_findCores 65 (q := (99, .aload_n 0, 1)) rfl
  have k100 : decode b_Mo_findCores 100 = .ok (.getfield 30, 3) := pl_dc dd_Mo_findCores 66 (q := (100, .getfield 30, 3)) rfl
  have k103 : decode b_Mo_findCores 103 = .ok (.iload_n 1, 1) := pl_dc dd_Mo_findCores 67 (q := (103, .iload_n 1, 1)) rfl
  have k104 : decode b_Mo_findCores 104 = .ok (.iaload, 1) := pl_dc dd_Mo_findCores 68 (q := (104, .iaload, 1)) rfl
  have k105 : decode b_Mo_findCores 105 = .ok (.iconst 2, 1) := pl_dc dd_Mo_findCores 69 (q := (105, .iconst 2, 1)) rfl
  have k106 : decode b_Mo_findCores 106 = .ok (.if_icmp .ne 68, 3) := pl_dc dd_Mo_findCores 70 (q := (106, .if_icmp .ne 68, 3)) rfl
  have k109 : decode b_Mo_findCores 109 = .ok (.aload_n 0, 1) := pl_dc dd_Mo_findCores 71 (q := (109, .aload_n 0, 1)) rfl
  have k110 : decode b_Mo_findCores 110 = .ok (.iload_n 1, 1) := pl_dc dd_Mo_findCores 72 (q := (110, .iload_n 1, 1)) rfl
  have k111 : decode b_Mo_findCores 111 = .ok (.invokevirtual 136, 3) := pl_dc dd_Mo_findCores 73 (q := (111, .invokevirtual 136, 3)) rfl
  have k114 : decode b_Mo_findCores 114 = .ok (.iconst 0, 1) := pl_dc dd_Mo_findCores 74 (q := (114, .iconst 0, 1)) rfl
  have k115 : decode b_Mo_findCores 115 = .ok (.istore 4, 2) := pl_dc dd_Mo_findCores 75 (q := (115, .istore 4, 2)) rfl
  have k117 : decode b_Mo_findCores 117 = .ok (.iload 4, 2) := pl_dc dd_Mo_findCores 76 (q := (117, .iload 4, 2)) rfl
  have k119 : decode b_Mo_findCores 119 = .ok (.aload_n 0, 1) := pl_dc dd_Mo_findCores 77 (q := (119, .aload_n 0, 1)) rfl
  have k120 : decode b_Mo_findCores 120 = .ok (.getfield 63, 3) := pl_dc dd_Mo_findCores 78 (q := (120, .getfield 63, 3)) rfl
  have k123 : decode b_Mo_findCores 123 = .ok (.iload_n 1, 1) := pl_dc dd_Mo_findCores 79 (q := (123, .iload_n 1, 1)) rfl
  have k124 : decode b_Mo_findCores 124 = .ok (.iaload, 1) := pl_dc dd_Mo_findCores 80 (q := (124, .iaload, 1)) rfl
  have k125 : decode b_Mo_findCores 125 = .ok (.if_icmp .ge 49, 3) := pl_dc dd_Mo_findCores 81 (q := (125, .if_icmp .ge 49, 3)) rfl
  have k128 : decode b_Mo_findCores 128 = .ok (.aload_n 0, 1) := pl_dc dd_Mo_findCores 82 (q := (128, .aload_n 0, 1)) rfl
  have k129 : decode b_Mo_findCores 129 = .ok (.getfield 39, 3) := pl_dc dd_Mo_findCores 83 (q := (129, .getfield 39, 3)) rfl
  have k132 : decode b_Mo_findCores 132 = .ok (.iload_n 1, 1) := pl_dc dd_Mo_findCores 84 (q := (132, .iload_n 1, 1)) rfl
  have k133 : decode b_Mo_findCores 133 = .ok (.aload_n 0, 1) := pl_dc dd_Mo_findCores 85 (q := (133, .aload_n 0, 1)) rfl
  have k134 : decode b_Mo_findCores 134 = .ok (.getfield 39, 3) := pl_dc dd_Mo_findCores 86 (q := (134, .getfield 39, 3)) rfl
  have k137 : decode b_Mo_findCores 137 = .ok (.iload_n 1, 1) := pl_dc dd_Mo_findCores 87 (q := (137, .iload_n 1, 1)) rfl
  have k138 : decode b_Mo_findCores 138 = .ok (.iaload, 1) := pl_dc dd_Mo_findCores 88 (q := (138, .iaload, 1)) rfl
  have k139 : decode b_Mo_findCores 139 = .ok (.aload_n 0, 1) := pl_dc dd_Mo_findCores 89 (q := (139, .aload_n 0, 1)) rfl
  have k140 : decode b_Mo_findCores 140 = .ok (.getfield 69, 3) := pl_dc dd_Mo_findCores 90 (q := (140, .getfield 69, 3)) rfl
  have k143 : decode b_Mo_findCores 143 = .ok (.iload 4, 2) := pl_dc dd_Mo_findCores 91 (q := (143, .iload 4, 2)) rfl
  have k145 : decode b_Mo_findCores 145 = .ok (.iaload, 1) := pl_dc dd_Mo_findCores 92 (q := (145, .iaload, 1)) rfl
  have k146 : decode b_Mo_findCores 146 = .ok (.iadd, 1) := pl_dc dd_Mo_findCores 93 (q := (146, .iadd, 1)) rfl
  have k147 : decode b_Mo_findCores 147 = .ok (.iastore, 1) := pl_dc dd_Mo_findCores 94 (q := (147, .iastore, 1)) rfl
  have k148 : decode b_Mo_findCores 148 = .ok (.aload_n 0, 1) := pl_dc dd_Mo_findCores 95 (q := (148, .aload_n 0, 1)) rfl
  have k149 : decode b_Mo_findCores 149 = .ok (.getfield 42, 3) := pl_dc dd_Mo_findCores 96 (q := (149, .getfield 42, 3)) rfl
  have k152 : decode b_Mo_findCores 152 = .ok (.iload_n 1, 1) := pl_dc dd_Mo_findCores 97 (q := (152, .iload_n 1, 1)) rfl
  have k153 : decode b_Mo_findCores 153 = .ok (.aload_n 0, 1) := pl_dc dd_Mo_findCores 98 (q := (153, .aload_n 0, 1)) rfl
  have k154 : decode b_Mo_findCores 154 = .ok (.getfield 42, 3) := pl_dc dd_Mo_findCores 99 (q := (154, .getfield 42, 3)) rfl
  have k157 : decode b_Mo_findCores 157 = .ok (.iload_n 1, 1) := pl_dc dd_Mo_findCores 100 (q := (157, .iload_n 1, 1)) rfl
  have k158 : decode b_Mo_findCores 158 = .ok (.iaload, 1) := pl_dc dd_Mo_findCores 101 (q := (158, .iaload, 1)) rfl
  have k159 : decode b_Mo_findCores 159 = .ok (.aload_n 0, 1) := pl_dc dd_Mo_findCores 102 (q := (159, .aload_n 0, 1)) rfl
  have k160 : decode b_Mo_findCores 160 = .ok (.getfield 72, 3) := pl_dc dd_Mo_findCores 103 (q := (160, .getfield 72, 3)) rfl
  have k163 : decode b_Mo_findCores 163 = .ok (.iload 4, 2) := pl_dc dd_Mo_findCores 104 (q := (163, .iload 4, 2)) rfl
  have k165 : decode b_Mo_findCores 165 = .ok (.iaload, 1) := pl_dc dd_Mo_findCores 105 (q := (165, .iaload, 1)) rfl
  have k166 : decode b_Mo_findCores 166 = .ok (.iadd, 1) := pl_dc dd_Mo_findCores 106 (q := (166, .iadd, 1)) rfl
  have k167 : decode b_Mo_findCores 167 = .ok (.iastore, 1) := pl_dc dd_Mo_findCores 107 (q := (167, .iastore, 1)) rfl
  have k168 : decode b_Mo_findCores 168 = .ok (.iinc 4 1, 3) := pl_dc dd_Mo_findCores 108 (q := (168, .iinc 4 1, 3)) rfl
  have k171 : decode b_Mo_findCores 171 = .ok (.goto (-54), 3) := pl_dc dd_Mo_findCores 109 (q := (171, .goto (-54), 3)) rfl
  have k174 : decode b_Mo_findCores 174 = .ok (.iload_n 1, 1) := pl_dc dd_Mo_findCores 110 (q := (174, .iload_n 1, 1)) rfl
  have k175 : decode b_Mo_findCores 175 = .ok (.iconst 1, 1) := pl_dc dd_Mo_findCores 111 (q := (175, .iconst 1, 1)) rfl
  have k176 : decode b_Mo_findCores 176 = .ok (.iadd, 1) := pl_dc dd_Mo_findCores 112 (q := (176, .iadd, 1)) rfl
  have k177 : decode b_Mo_findCores 177 = .ok (.istore 4, 2) := pl_dc dd_Mo_findCores 113 (q := (177, .istore 4, 2)) rfl
  have k179 : decode b_Mo_findCores 179 = .ok (.iload 4, 2) := pl_dc dd_Mo_findCores 114 (q := (179, .iload 4, 2)) rfl
  have k181 : decode b_Mo_findCores 181 = .ok (.aload_n 0, 1) := pl_dc dd_Mo_findCores 115 (q := (181, .aload_n 0, 1)) rfl
  have k182 : decode b_Mo_findCores 182 = .ok (.getfield 7, 3) := pl_dc dd_Mo_findCores 116 (q := (182, .getfield 7, 3)) rfl
  have k185 : decode b_Mo_findCores 185 = .ok (.if_icmp .ge 165, 3) := pl_dc dd_Mo_findCores 117 (q := (185, .if_icmp .ge 165, 3)) rfl
  have k188 : decode b_Mo_findCores 188 = .ok (.aload_n 0, 1) := pl_dc dd_Mo_findCores 118 (q := (188, .aload_n 0, 1)) rfl
  have k189 : decode b_Mo_findCores 189 = .ok (.getfield 30, 3) := pl_dc dd_Mo_findCores 119 (q := (189, .getfield 30, 3)) rfl
  have k192 : decode b_Mo_findCores 192 = .ok (.iload_n 1, 1) := pl_dc dd_Mo_findCores 120 (q := (192, .iload_n 1, 1)) rfl
  have k193 : decode b_Mo_findCores 193 = .ok (.iaload, 1) := pl_dc dd_Mo_findCores 121 (q := (193, .iaload, 1)) rfl
  have k194 : decode b_Mo_findCores 194 = .ok (.iconst 2, 1) := pl_dc dd_Mo_findCores 122 (q := (194, .iconst 2, 1)) rfl
  have k195 : decode b_Mo_findCores 195 = .ok (.if_icmp .eq 155, 3) := pl_dc dd_Mo_findCores 123 (q := (195, .if_icmp .eq 155, 3)) rfl
  have k198 : decode b_Mo_findCores 198 = .ok (.aload_n 0, 1) := pl_dc dd_Mo_findCores 124 (q := (198, .aload_n 0, 1)) rfl
  have k199 : decode b_Mo_findCores 199 = .ok (.iload 4, 2) := pl_dc dd_Mo_findCores 125 (q := (199, .iload 4, 2)) rfl
  have k201 : decode b_Mo_findCores 201 = .ok (.iload_n 1, 1) := pl_dc dd_Mo_findCores 126 (q := (201, .iload_n 1, 1)) rfl
  have k202 : decode b_Mo_findCores 202 = .ok (.invokevirtual 105, 3) := pl_dc dd_Mo_findCores 127 (q := (202, .invokevirtual 105, 3)) rfl
  have k205 : decode b_Mo_findCores 205 = .ok (.ifCond .eq 139, 3) := pl_dc dd_Mo_findCores 128 (q := (205, .ifCond .eq 139, 3)) rfl
  have k208 : decode b_Mo_findCores 208 = .ok (.aload_n 0, 1) := pl_dc dd_Mo_findCores 129 (q := (208, .aload_n 0, 1)) rfl
  have k209 : decode b_Mo_findCores 209 = .ok (.iload 4, 2) := pl_dc dd_Mo_findCores 130 (q := (209, .iload 4, 2)) rfl
  have k211 : decode b_Mo_findCores 211 = .ok (.invokevirtual 121, 3) := pl_dc dd_Mo_findCores 131 (q := (211, .invokevirtual 121, 3)) rfl
  have k214 : decode b_Mo_findCores 214 = .ok (.aload_n 0, 1) := pl_dc dd_Mo_findCores 132 (q := (214, .aload_n 0, 1)) rfl
  have k215 : decode b_Mo_findCores 215 = .ok (.iload 4, 2) := pl_dc dd_Mo_findCores 133 (q := (215, .iload 4, 2)) rfl
  have k217 : decode b_Mo_findCores 217 = .ok (.invokevirtual 124, 3) := pl_dc dd_Mo_findCores 134 (q := (217, .invokevirtual 124, 3)) rfl
  have k220 : decode b_Mo_findCores 220 = .ok (.iadd, 1) := pl_dc dd_Mo_findCores 135 (q := (220, .iadd, 1)) rfl
  have k221 : decode b_Mo_findCores 221 = .ok (.istore 5, 2) := pl_dc dd_Mo_findCores 136 (q := (221, .istore 5, 2)) rfl
  have k223 : decode b_Mo_findCores 223 = .ok (.aload_n 0, 1) := pl_dc dd_Mo_findCores 137 (q := (223, .aload_n 0, 1)) rfl
  have k224 : decode b_Mo_findCores 224 = .ok (.iload 4, 2) := pl_dc dd_Mo_findCores 138 (q := (224, .iload 4, 2)) rfl
  have k226 : decode b_Mo_findCores 226 = .ok (.invokevirtual 127, 3) := pl_dc dd_Mo_findCores 139 (q := (226, .invokevirtual 127, 3)) rfl
  have k229 : decode b_Mo_findCores 229 = .ok (.aload_n 0, 1) := pl_dc dd_Mo_findCores 140 (q := (229, .aload_n 0, 1)) rfl
  have k230 : decode b_Mo_findCores 230 = .ok (.iload 4, 2) := pl_dc dd_Mo_findCores 141 (q := (230, .iload 4, 2)) rfl
  have k232 : decode b_Mo_findCores 232 = .ok (.invokevirtual 124, 3) := pl_dc dd_Mo_findCores 142 (q := (232, .invokevirtual 124, 3)) rfl
  have k235 : decode b_Mo_findCores 235 = .ok (.iadd, 1) := pl_dc dd_Mo_findCores 143 (q := (235, .iadd, 1)) rfl
  have k236 : decode b_Mo_findCores 236 = .ok (.istore 6, 2) := pl_dc dd_Mo_findCores 144 (q := (236, .istore 6, 2)) rfl
  have k238 : decode b_Mo_findCores 238 = .ok (.aload_n 0, 1) := pl_dc dd_Mo_findCores 145 (q := (238, .aload_n 0, 1)) rfl
  have k239 : decode b_Mo_findCores 239 = .ok (.getfield 30, 3) := pl_dc dd_Mo_findCores 146 (q := (239, .getfield 30, 3)) rfl
  have k242 : decode b_Mo_findCores 242 = .ok (.iload_n 1, 1) := pl_dc dd_Mo_findCores 147 (q := (242, .iload_n 1, 1)) rfl
  have k243 : decode b_Mo_findCores 243 = .ok (.iaload, 1) := pl_dc dd_Mo_findCores 148 (q := (243, .iaload, 1)) rfl
  have k244 : decode b_Mo_findCores 244 = .ok (.ifCond .ne 7, 3) := pl_dc dd_Mo_findCores 149 (q := (244, .ifCond .ne 7, 3)) rfl
  have k247 : decode b_Mo_findCores 247 = .ok (.iconst 1, 1) := pl_dc dd_Mo_findCores 150 (q := (247, .iconst 1, 1)) rfl
  have k248 : decode b_Mo_findCores 248 = .ok (.goto 4, 3) := pl_dc dd_Mo_findCores 151 (q := (248, .goto 4, 3)) rfl
  have k251 : decode b_Mo_findCores 251 = .ok (.iconst 0, 1) := pl_dc dd_Mo_findCores 152 (q := (251, .iconst 0, 1)) rfl
  have k252 : decode b_Mo_findCores 252 = .ok (.istore 7, 2) := pl_dc dd_Mo_findCores 153 (q := (252, .istore 7, 2)) rfl
  have k254 : decode b_Mo_findCores 254 = .ok (.aload_n 0, 1) := pl_dc dd_Mo_findCores 154 (q := (254, .aload_n 0, 1)) rfl
  have k255 : decode b_Mo_findCores 255 = .ok (.getfield 39, 3) := pl_dc dd_Mo_findCores 155 (q := (255, .getfield 39, 3)) rfl
  have k258 : decode b_Mo_findCores 258 = .ok (.iload_n 1, 1) := pl_dc dd_Mo_findCores 156 (q := (258, .iload_n 1, 1)) rfl
  have k259 : decode b_Mo_findCores 259 = .ok (.iload 7, 2) := pl_dc dd_Mo_findCores 157 (q := (259, .iload 7, 2)) rfl
  have k261 : decode b_Mo_findCores 261 = .ok (.ifCond .ne 15, 3) := pl_dc dd_Mo_findCores 158 (q := (261, .ifCond .ne 15, 3)) rfl
  have k264 : decode b_Mo_findCores 264 = .ok (.aload_n 0, 1) := pl_dc dd_Mo_findCores 159 (q := (264, .aload_n 0, 1)) rfl
  have k265 : decode b_Mo_findCores 265 = .ok (.getfield 39, 3) := pl_dc dd_Mo_findCores 160 (q := (265, .getfield 39, 3)) rfl
  have k268 : decode b_Mo_findCores 268 = .ok (.iload_n 1, 1) := pl_dc dd_Mo_findCores 161 (q := (268, .iload_n 1, 1)) rfl
  have k269 : decode b_Mo_findCores 269 = .ok (.iaload, 1) := pl_dc dd_Mo_findCores 162 (q := (269, .iaload, 1)) rfl
  have k270 : decode b_Mo_findCores 270 = .ok (.iload 5, 2) := pl_dc dd_Mo_findCores 163 (q := (270, .iload 5, 2)) rfl
  have k272 : decode b_Mo_findCores 272 = .ok (.iadd, 1) := pl_dc dd_Mo_findCores 164 (q := (272, .iadd, 1)) rfl
  have k273 : decode b_Mo_findCores 273 = .ok (.goto 25, 3) := pl_dc dd_Mo_findCores 165 (q := (273, .goto 25, 3)) rfl
  have k276 : decode b_Mo_findCores 276 = .ok (.iload 5, 2) := pl_dc dd_Mo_findCores 166 (q := (276, .iload 5, 2)) rfl
  have k278 : decode b_Mo_findCores 278 = .ok (.aload_n 0, 1) := pl_dc dd_Mo_findCores 167 (q := (278, .aload_n 0, 1)) rfl
  have k279 : decode b_Mo_findCores 279 = .ok (.getfield 39, 3) := pl_dc dd_Mo_findCores 168 (q := (279, .getfield 39, 3)) rfl
  have k282 : decode b_Mo_findCores 282 = .ok (.iload_n 1, 1) := pl_dc dd_Mo_findCores 169 (q := (282, .iload_n 1, 1)) rfl
  have k283 : decode b_Mo_findCores 283 = .ok (.iaload, 1) := pl_dc dd_Mo_findCores 170 (q := (283, .iaload, 1)) rfl
  have k284 : decode b_Mo_findCores 284 = .ok (.if_icmp .le 8, 3) := pl_dc dd_Mo_findCores 171 (q := (284, .if_icmp .le 8, 3)) rfl
  have k287 : decode b_Mo_findCores 287 = .ok (.iload 5, 2) := pl_dc dd_Mo_findCores 172 (q := (287, .iload 5, 2)) rfl
  have k289 : decode b_Mo_findCores 289 = .ok (.goto 9, 3) := pl_dc dd_Mo_findCores 173 (q := (289, .goto 9, 3)) rfl
  have k292 : decode b_Mo_findCores 292 = .ok (.aload_n 0, 1) := pl_dc dd_Mo_findCores 174 (q := (292, .aload_n 0, 1)) rfl
  have k293 : decode b_Mo_findCores 293 = .ok (.getfield 39, 3) := pl_dc dd_Mo_findCores 175 (q := (293, .getfield 39, 3)) rfl
  have k296 : decode b_Mo_findCores 296 = .ok (.iload_n 1, 1) := pl_dc dd_Mo_findCores 176 (q := (296, .iload_n 1, 1)) rfl
  have k297 : decode b_Mo_findCores 297 = .ok (.iaload, 1) := pl_dc dd_Mo_findCores 177 (q := (297, .iaload, 1)) rfl
  have k298 : decode b_Mo_findCores 298 = .ok (.iastore, 1) := pl_dc dd_Mo_findCores 178 (q := (298, .iastore, 1)) rfl
  have k299 : decode b_Mo_findCores 299 = .ok (.aload_n 0, 1) := pl_dc dd_Mo_findCores 179 (q := (299, .aload_n 0, 1)) rfl
  have k300 : decode b_Mo_findCores 300 = .ok (.getfield 42, 3) := pl_dc dd_Mo_findCores 180 (q := (300, .getfield 42, 3)) rfl
  have k303 : decode b_Mo_findCores 303 = .ok (.iload_n 1, 1) := pl_dc dd_Mo_findCores 181 (q := (303, .iload_n 1, 1)) rfl
  have k304 : decode b_Mo_findCores 304 = .ok (.iload 7, 2) := pl_dc dd_Mo_findCores 182 (q := (304, .iload 7, 2)) rfl
  have k306 : decode b_Mo_findCores 306 = .ok (.ifCond .ne 15, 3) := pl_dc dd_Mo_findCores 183 (q := (306, .ifCond .ne 15, 3)) rfl
  have k309 : decode b_Mo_findCores 309 = .ok (.aload_n 0, 1) := pl_dc dd_Mo_findCores 184 (q := (309, .aload_n 0, 1)) rfl
  have k310 : decode b_Mo_findCores 310 = .ok (.getfield 42, 3) := pl_dc dd_Mo_findCores 185 (q := (310, .getfield 42, 3)) rfl
  have k313 : decode b_Mo_findCores 313 = .ok (.iload_n 1, 1) := pl_dc dd_Mo_findCores 186 (q := (313, .iload_n 1, 1)) rfl
  have k314 : decode b_Mo_findCores 314 = .ok (.iaload, 1) := pl_dc dd_Mo_findCores 187 (q := (314, .iaload, 1)) rfl
  have k315 : decode b_Mo_findCores 315 = .ok (.iload 6, 2) := pl_dc dd_Mo_findCores 188 (q := (315, .iload 6, 2)) rfl
  have k317 : decode b_Mo_findCores 317 = .ok (.iadd, 1) := pl_dc dd_Mo_findCores 189 (q := (317, .iadd, 1)) rfl
  have k318 : decode b_Mo_findCores 318 = .ok (.goto 25, 3) := pl_dc dd_Mo_findCores 190 (q := (318, .goto 25, 3)) rfl
  have k321 : decode b_Mo_findCores 321 = .ok (.iload 6, 2) := pl_dc dd_Mo_findCores 191 (q := (321, .iload 6, 2)) rfl
  have k323 : decode b_Mo_findCores 323 = .ok (.aload_n 0, 1) := pl_dc dd_Mo_findCores 192 (q := (323, .aload_n 0, 1)) rfl
  have k324 : decode b_Mo_findCores 324 = .ok (.getfield 42, 3) := pl_dc dd_Mo_findCores 193 (q := (324, .getfield 42, 3)) rfl
  have k327 : decode b_Mo_findCores 327 = .ok (.iload_n 1, 1) := pl_dc dd_Mo_findCores 194 (q := (327, .iload_n 1, 1)) rfl
  have k328 : decode b_Mo_findCores 328 = .ok (.iaload, 1) := pl_dc dd_Mo_findCores 195 (q := (328, .iaload, 1)) rfl
  have k329 : decode b_Mo_findCores 329 = .ok (.if_icmp .le 8, 3) := pl_dc dd_Mo_findCores 196 (q := (329, .if_icmp .le 8, 3)) rfl
  have k332 : decode b_Mo_findCores 332 = .ok (.iload 6, 2) := pl_dc dd_Mo_findCores 197 (q := (332, .iload 6, 2)) rfl
  have k334 : decode b_Mo_findCores 334 = .ok (.goto 9, 3) := pl_dc dd_Mo_findCores 198 (q := (334, .goto 9, 3)) rfl
  have k337 : decode b_Mo_findCores 337 = .ok (.aload_n 0, 1) := pl_dc dd_Mo_findCores 199 (q := (337, .aload_n 0, 1)) rfl
  have k338 : decode b_Mo_findCores 338 = .ok (.getfield 42, 3) := pl_dc dd_Mo_findCores 200 (q := (338, .getfield 42, 3)) rfl
  have k341 : decode b_Mo_findCores 341 = .ok (.iload_n 1, 1) := pl_dc dd_Mo_findCores 201 (q := (341, .iload_n 1, 1)) rfl
  have k342 : decode b_Mo_findCores 342 = .ok (.iaload, 1) := pl_dc dd_Mo_findCores 202 (q := (342, .iaload, 1)) rfl
  have k343 : decode b_Mo_findCores 343 = .ok (.iastore, 1) := pl_dc dd_Mo_findCores 203 (q := (343, .iastore, 1)) rfl
  have k344 : decode b_Mo_findCores 344 = .ok (.iinc 4 1, 3) := pl_dc dd_Mo_findCores 204 (q := (344, .iinc 4 1, 3)) rfl
  have k347 : decode b_Mo_findCores 347 = .ok (.goto (-168), 3) := pl_dc dd_Mo_findCores 205 (q := (347, .goto (-168), 3)) rfl
  have k350 : decode b_Mo_findCores 350 = .ok (.iinc 1 (-1), 3) := pl_dc dd_Mo_findCores 206 (q := (350, .iinc 1 (-1), 3)) rfl
  have k353 : decode b_Mo_findCores 353 = .ok (.goto (-342), 3) := pl_dc dd_Mo_findCores 207 (q := (353, .goto (-342), 3)) rfl
  have k356 : decode b_Mo_findCores 356 = .ok (.return_, 1) := pl_dc dd_Mo_findCores 208 (q := (356, .return_, 1)) rfl
  exact (d_seq (p1 := 356) (d_seq (p1 := 4) (d_callV (p1 := 1) F (a_r_ok (p1 := 0) a_nil_ok (c_aload_n F k0 rfl)) (z_Mo_findRoles _) y_Mo_findRoles_ok lm_PageLayouterModel_130 k1 r_Mo_findRoles (by decide)) (d_seq (p1 := 11) (d_istore_n (p1 := 10) F (c_bin 1 (p1 := 8) (p2 := 9) (c_geti (p1 := 5) F 3 1 hg_3_1 (c_aload_n F k4 rfl) k5 lf_PageLayouterModel_7) (c_iconst F k8 (by decide)) pl_c1 (j_isub F k9)) k10 rfl (hm 1 (by decide))) (d_while (p1 := 15) (p2 := 353) F (b_zero_t (p1 := 12) (pj := 356) F (c_iload_n F k11 rfl) k12 (by decide)) (d_seq (p1 := 350) (d_seq (p1 := 28) (d_istore_n (p1 := 27) F (c_iald (p1 := 19) (p2 := 26) F (c_getr (p1 := 16) F 3 6 hg_3_6 (c_aload_n F k15 rfl) k16 lf_PageLayouterModel_23) (c_bin 1 (p1 := 23) (p2 := 25) (c_bin 1 (p1 := 21) (p2 := 22) (c_bipush F k19 (by decide)) (c_iload_n F k21 rfl) pl_c1 (j_imul F k22)) (c_bipush F k23 (by decide)) pl_c1 (j_iadd F k25)) k26) k27 rfl (hm 2 (by decide))) (d_seq (p1 := 41) (d_istore_n (p1 := 40) F (c_iald (p1 := 32) (p2 := 39) F (c_getr (p1 := 29) F 3 6 hg_3_6 (c_aload_n F k28 rfl) k29 lf_PageLayouterModel_23) (c_bin 1 (p1 := 36) (p2 := 38) (c_bin 1 (p1 := 34) (p2 := 35) (c_bipush F k32 (by decide)) (c_iload_n F k34 rfl) pl_c1 (j_imul F k35)) (c_bipush F k36 (by decide)) pl_c1 (j_iadd F k38)) k39) k40 rfl (hm 3 (by decide))) (d_seq (p1 := 56) (d_iast (p1 := 45) (p2 := 46) (p3 := 55) F (c_getr (p1 := 42) F 3 11 hg_3_11 (c_aload_n F k41 rfl) k42 lf_PageLayouterModel_39) (c_iload_n F k45 rfl) (c_if (p1 := 50) (p2 := 51) (p3 := 55) F (b_zero_t (p1 := 47) (pj := 54) F (c_iload_n F k46 rfl) k47 (by decide)) (c_iload_n F k50 rfl) k51 (by decide) (c_iconst F k54 (by decide))) k55) (d_seq (p1 := 77) (d_iast (p1 := 60) (p2 := 61) (p3 := 76) F (c_getr (p1 := 57) F 3 12 hg_3_12 (c_aload_n F k56 rfl) k57 lf_PageLayouterModel_42) (c_iload_n F k60 rfl) (c_if (p1 := 65) (p2 := 72) (p3 := 76) F (b_zero_t (p1 := 62) (pj := 75) F (c_iload_n F k61 rfl) k62 (by decide)) (c_bin 1 (p1 := 70) (p2 := 71) (c_bin 1 (p1 := 68) (p2 := 69) (c_bin 1 (p1 := 66) (p2 := 67) (c_iload_n F k65 rfl) (c_iload_n F k66 rfl) pl_c1 (j_imul F k67)) (c_iload_n F k68 rfl) pl_c1 (j_iadd F k69)) (c_iconst F k70 (by decide)) pl_c1 (j_isub F k71)) k72 (by decide) (c_iconst F k75 (by decide))) k76) (d_if (p1 := 85) (p2 := 350) (b_zero_t (p1 := 82) (pj := 350) F (c_callV (p1 := 79) F (a_i_ok (p1 := 78) (a_r_ok (p1 := 77) a_nil_ok (c_aload_n F k77 rfl)) (c_iload_n F k78 rfl)) (z_Mo_hasFlow _) y_Mo_hasFlow_ok lm_PageLayouterModel_133 k79 r_Mo_hasFlow (by decide) (by decide)) k82 (by decide)) (d_seq (p1 := 92) (d_iast (p1 := 89) (p2 := 90) (p3 := 91) F (c_getr (p1 := 86) F 3 11 hg_3_11 (c_aload_n F k85 rfl) k86 lf_PageLayouterModel_39) (c_iload_n F k89 rfl) (c_iconst F k90 (by decide)) k91) (d_seq (p1 := 99) (d_iast (p1 := 96) (p2 := 97) (p3 := 98) F (c_getr (p1 := 93) F 3 12 hg_3_12 (c_aload_n F k92 rfl) k93 lf_PageLayouterModel_42) (c_iload_n F k96 rfl) (c_iconst F k97 (by decide)) k98) (d_seq (p1 := 174) (d_if (p1 := 109) (p2 := 174) (b_cmp_t (p1 := 105) (p2 := 106) (pj := 174) F (c_iald (p1 := 103) (p2 := 104) F (c_getr (p1 := 100) F 3 8 hg_3_8 (c_aload_n F k99 rfl) k100 lf_PageLayouterModel_30) (c_iload_n F k103 rfl) k104) (c_iconst F k105 (by decide)) k106 (by decide)) (d_seq (p1 := 114) (d_callV (p1 := 111) F (a_i_ok (p1 := 110) (a_r_ok (p1 := 109) a_nil_ok (c_aload_n F k109 rfl)) (c_iload_n F k110 rfl)) (z_Mo_findColumns _) y_Mo_findColumns_ok lm_PageLayouterModel_136 k111 r_Mo_findColumns (by decide)) (d_seq (p1 := 117) (d_istore (p1 := 115) F (c_iconst F k114 (by decide)) k115 (hm 4 (by decide))) (d_while (p1 := 128) (p2 := 171) F (b_cmp_t (p1 := 119) (p2 := 125) (pj := 174) F (c_iload F k117) (c_iald (p1 := 123) (p2 := 124) F (c_getr (p1 := 120) F 3 19 hg_3_19 (c_aload_n F k119 rfl) k120 lf_PageLayouterModel_63) (c_iload_n F k123 rfl) k124) k125 (by decide)) (d_seq (p1 := 168) (d_seq (p1 := 148) (d_iast (p1 := 132) (p2 := 133) (p3 := 147) F (c_getr (p1 := 129) F 3 11 hg_3_11 (c_aload_n F k128 rfl) k129 lf_PageLayouterModel_39) (c_iload_n F k132 rfl) (c_bin 1 (p1 := 139) (p2 := 146) (c_iald (p1 := 137) (p2 := 138) F (c_getr (p1 := 134) F 3 11 hg_3_11 (c_aload_n F k133 rfl) k134 lf_PageLayouterModel_39) (c_iload_n F k137 rfl) k138) (c_iald (p1 := 143) (p2 := 145) F (c_getr (p1 := 140) F 3 21 hg_3_21 (c_aload_n F k139 rfl) k140 lf_PageLayouterModel_69) (c_iload F k143) k145) pl_c1 (j_iadd F k146)) k147) (d_iast (p1 := 152) (p2 := 153) (p3 := 167) F (c_getr (p1 := 149) F 3 12 hg_3_12 (c_aload_n F k148 rfl) k149 lf_PageLayouterModel_42) (c_iload_n F k152 rfl) (c_bin 1 (p1 := 159) (p2 := 166) (c_iald (p1 := 157) (p2 := 158) F (c_getr (p1 := 154) F 3 12 hg_3_12 (c_aload_n F k153 rfl) k154 lf_PageLayouterModel_42) (c_iload_n F k157 rfl) k158) (c_iald (p1 := 163) (p2 := 165) F (c_getr (p1 := 160) F 3 22 hg_3_22 (c_aload_n F k159 rfl) k160 lf_PageLayouterModel_72) (c_iload F k163) k165) pl_c1 (j_iadd F k166)) k167)) (d_iinc F k168 (by decide) (hm 4 (by decide)))) k171 (by decide))))) (d_seq (p1 := 179) (d_istore (p1 := 177) F (c_bin 1 (p1 := 175) (p2 := 176) (c_iload_n F k174 rfl) (c_iconst F k175 (by decide)) pl_c1 (j_iadd F k176)) k177 (hm 4 (by decide))) (d_while (p1 := 198) (p2 := 347) F (b_and_t (p1 := 188) (b_cmp_t (p1 := 181) (p2 := 185) (pj := 350) F (c_iload F k179) (c_geti (p1 := 182) F 3 1 hg_3_1 (c_aload_n F k181 rfl) k182 lf_PageLayouterModel_7) k185 (by decide)) (b_cmp_t (p1 := 194) (p2 := 195) (pj := 350) F (c_iald (p1 := 192) (p2 := 193) F (c_getr (p1 := 189) F 3 8 hg_3_8 (c_aload_n F k188 rfl) k189 lf_PageLayouterModel_30) (c_iload_n F k192 rfl) k193) (c_iconst F k194 (by decide)) k195 (by decide))) (d_seq (p1 := 344) (d_if (p1 := 208) (p2 := 344) (b_zero_t (p1 := 205) (pj := 344) F (c_callV (p1 := 202) F (a_i_ok (p1 := 201) (a_i_ok (p1 := 199) (a_r_ok (p1 := 198) a_nil_ok (c_aload_n F k198 rfl)) (c_iload F k199)) (c_iload_n F k201 rfl)) (z_Mo_flows _) y_Mo_flows_ok lm_PageLayouterModel_105 k202 r_Mo_flows (by decide) (by decide)) k205 (by decide)) (d_seq (p1 := 223) (d_istore (p1 := 221) F (c_bin 1 (p1 := 214) (p2 := 220) (c_callV (p1 := 211) F (a_i_ok (p1 := 209) (a_r_ok (p1 := 208) a_nil_ok (c_aload_n F k208 rfl)) (c_iload F k209)) (z_Mo_leastOf _) y_Mo_leastOf_ok lm_PageLayouterModel_121 k211 r_Mo_leastOf (by decide) (by decide)) (c_callV (p1 := 217) F (a_i_ok (p1 := 215) (a_r_ok (p1 := 214) a_nil_ok (c_aload_n F k214 rfl)) (c_iload F k215)) (z_Mo_around _) y_Mo_around_ok lm_PageLayouterModel_124 k217 r_Mo_around (by decide) (by decide)) pl_c1 (j_iadd F k220)) k221 (hm 5 (by decide))) (d_seq (p1 := 238) (d_istore (p1 := 236) F (c_bin 1 (p1 := 229) (p2 := 235) (c_callV (p1 := 226) F (a_i_ok (p1 := 224) (a_r_ok (p1 := 223) a_nil_ok (c_aload_n F k223 rfl)) (c_iload F k224)) (z_Mo_mostOf _) y_Mo_mostOf_ok lm_PageLayouterModel_127 k226 r_Mo_mostOf (by decide) (by decide)) (c_callV (p1 := 232) F (a_i_ok (p1 := 230) (a_r_ok (p1 := 229) a_nil_ok (c_aload_n F k229 rfl)) (c_iload F k230)) (z_Mo_around _) y_Mo_around_ok lm_PageLayouterModel_124 k232 r_Mo_around (by decide) (by decide)) pl_c1 (j_iadd F k235)) k236 (hm 6 (by decide))) (d_seq (p1 := 254) (d_istore (p1 := 252) F (c_if (p1 := 247) (p2 := 248) (p3 := 252) F (b_zero_t (p1 := 244) (pj := 251) F (c_iald (p1 := 242) (p2 := 243) F (c_getr (p1 := 239) F 3 8 hg_3_8 (c_aload_n F k238 rfl) k239 lf_PageLayouterModel_30) (c_iload_n F k242 rfl) k243) k244 (by decide)) (c_iconst F k247 (by decide)) k248 (by decide) (c_iconst F k251 (by decide))) k252 (hm 7 (by decide))) (d_seq (p1 := 299) (d_iast (p1 := 258) (p2 := 259) (p3 := 298) F (c_getr (p1 := 255) F 3 11 hg_3_11 (c_aload_n F k254 rfl) k255 lf_PageLayouterModel_39) (c_iload_n F k258 rfl) (c_if (p1 := 264) (p2 := 273) (p3 := 298) F (b_not_t (b_zero_f (p1 := 261) (pj := 276) F (c_iload F k259) k261 (by decide))) (c_bin 1 (p1 := 270) (p2 := 272) (c_iald (p1 := 268) (p2 := 269) F (c_getr (p1 := 265) F 3 11 hg_3_11 (c_aload_n F k264 rfl) k265 lf_PageLayouterModel_39) (c_iload_n F k268 rfl) k269) (c_iload F k270) pl_c1 (j_iadd F k272)) k273 (by decide) (c_if (p1 := 287) (p2 := 289) (p3 := 298) F (b_cmp_t (p1 := 278) (p2 := 284) (pj := 292) F (c_iload F k276) (c_iald (p1 := 282) (p2 := 283) F (c_getr (p1 := 279) F 3 11 hg_3_11 (c_aload_n F k278 rfl) k279 lf_PageLayouterModel_39) (c_iload_n F k282 rfl) k283) k284 (by decide)) (c_iload F k287) k289 (by decide) (c_iald (p1 := 296) (p2 := 297) F (c_getr (p1 := 293) F 3 11 hg_3_11 (c_aload_n F k292 rfl) k293 lf_PageLayouterModel_39) (c_iload_n F k296 rfl) k297))) k298) (d_iast (p1 := 303) (p2 := 304) (p3 := 343) F (c_getr (p1 := 300) F 3 12 hg_3_12 (c_aload_n F k299 rfl) k300 lf_PageLayouterModel_42) (c_iload_n F k303 rfl) (c_if (p1 := 309) (p2 := 318) (p3 := 343) F (b_not_t (b_zero_f (p1 := 306) (pj := 321) F (c_iload F k304) k306 (by decide))) (c_bin 1 (p1 := 315) (p2 := 317) (c_iald (p1 := 313) (p2 := 314) F (c_getr (p1 := 310) F 3 12 hg_3_12 (c_aload_n F k309 rfl) k310 lf_PageLayouterModel_42) (c_iload_n F k313 rfl) k314) (c_iload F k315) pl_c1 (j_iadd F k317)) k318 (by decide) (c_if (p1 := 332) (p2 := 334) (p3 := 343) F (b_cmp_t (p1 := 323) (p2 := 329) (pj := 337) F (c_iload F k321) (c_iald (p1 := 327) (p2 := 328) F (c_getr (p1 := 324) F 3 12 hg_3_12 (c_aload_n F k323 rfl) k324 lf_PageLayouterModel_42) (c_iload_n F k327 rfl) k328) k329 (by decide)) (c_iload F k332) k334 (by decide) (c_iald (p1 := 341) (p2 := 342) F (c_getr (p1 := 338) F 3 12 hg_3_12 (c_aload_n F k337 rfl) k338 lf_PageLayouterModel_42) (c_iload_n F k341 rfl) k342))) k343)))))) (d_iinc F k344 (by decide) (hm 4 (by decide)))) k347 (by decide))))))))))) (d_iinc F k350 (by decide) (hm 1 (by decide)))) k353 (by decide)))) (d_retv F Fm.2.1 Fm.2.2.1 k356)))
def y_Mo_least : MethodName := ⟨"PageLayouterModel", "least", "(I)I"⟩
abbrev b_Mo_least : ByteArray := prog_10_method_23_code
abbrev n_Mo_least : Nat := 2
theorem y_Mo_least_ok : pl_MV 3 y_Mo_least b_Mo_least n_Mo_least (Option.some Jvm.ClassFile.FieldType.int) 1 := ⟨pl_mem 813 (by decide +kernel) (by decide +kernel), pl_mem 811 (by decide +kernel) (by decide +kernel), pl_mem 812 (by decide +kernel) (by decide +kernel), pl_mem 47 (by decide +kernel) (by decide +kernel), ⟨by decide, by decide, by decide +kernel⟩, _, rfl, rfl⟩
def D_Mo_least : List (Nat × Instr × Nat) := [(0, .aload_n 0, 1), (1, .aload_n 0, 1), (2, .iload_n 1, 1), (3, .invokevirtual 95, 3), (6, .ifCond .eq 7, 3), (9, .iconst 0, 1), (10, .goto 4, 3), (13, .iconst 1, 1), (14, .putfield 88, 3), (17, .aload_n 0, 1), (18, .getfield 88, 3), (21, .ifCond .le 5, 3), (24, .iconst 0, 1), (25, .ireturn, 1), (26, .aload_n 0, 1), (27, .invokevirtual 139, 3), (30, .aload_n 0, 1), (31, .iload_n 1, 1), (32, .invokevirtual 121, 3), (35, .ireturn, 1)]
theorem dd_Mo_least : (D_Mo_least.all fun q => decide (decode b_Mo_least q.1 = .ok q.2)) = true := by decide +kernel
def t_Mo_least : pl_TR := fun P _ _ => s_seq (s_puti 3 0 (e_locr 0) (e_if (b_zero .ne (e_callV Value.int 3 t_Mo_isBox n_Mo_isBox (a_i (a_r a_nil (e_locr 0)) (e_loc 1)))) (e_int 0) (e_int 1))) (s_seq (s_if (b_zero .gt (e_geti 3 0 (e_locr 0))) (s_reti P (e_int 0))) (s_seq (s_callV 3 t_Mo_findCores n_Mo_findCores (a_r a_nil (e_locr 0))) (s_reti P (e_callV Value.int 3 t_Mo_leastOf n_Mo_leastOf (a_i (a_r a_nil (e_locr 0)) (e_loc 1))))))
theorem z_Mo_least (l : Launch) : pl_Ctr l y_Mo_least b_Mo_least n_Mo_least (Option.some Jvm.ClassFile.FieldType.int) 4 94 0 0 false t_Mo_least := pl_ctr_of (pe := 0) (by decide) (fun X Y P F Fm => by
  have F : pl_Fx X Y "PageLayouterModel" b_Mo_least := F
  have r_Mo_findCores : 3 + 1 ≤ (pl_xR X).frames ∧ 8 + (n_Mo_findCores + 11) + 67 ≤ (pl_xR X).locals := ⟨Nat.le_trans (by decide) Fm.2.2.2.2.2.1, Nat.le_trans (by decide) Fm.2.2.2.2.2.2.1⟩
  have r_Mo_isBox : 0 + 1 ≤ (pl_xR X).frames ∧ 8 + (n_Mo_isBox + 11) + 0 ≤ (pl_xR X).locals := ⟨Nat.le_trans (by decide) Fm.2.2.2.2.2.1, Nat.le_trans (by decide) Fm.2.2.2.2.2.2.1⟩
  have r_Mo_leastOf : 1 + 1 ≤ (pl_xR X).frames ∧ 8 + (n_Mo_leastOf + 11) + 21 ≤ (pl_xR X).locals := ⟨Nat.le_trans (by decide) Fm.2.2.2.2.2.1, Nat.le_trans (by decide) Fm.2.2.2.2.2.2.1⟩
  have k0 : decode b_Mo_least 0 = .ok (.aload_n 0, 1) := pl_dc dd_Mo_least 0 (q := (0, .aload_n 0, 1)) rfl
  have k1 : decode b_Mo_least 1 = .ok (.aload_n 0, 1) := pl_dc dd_Mo_least 1 (q := (1, .aload_n 0, 1)) rfl
  have k2 : decode b_Mo_least 2 = .ok (.iload_n 1, 1) := pl_dc dd_Mo_least 2 (q := (2, .iload_n 1, 1)) rfl
  have k3 : decode b_Mo_least 3 = .ok (.invokevirtual 95, 3) := pl_dc dd_Mo_least 3 (q := (3, .invokevirtual 95, 3)) rfl
  have k6 : decode b_Mo_least 6 = .ok (.ifCond .eq 7, 3) := pl_dc dd_Mo_least 4 (q := (6, .ifCond .eq 7, 3)) rfl
  have k9 : decode b_Mo_least 9 = .ok (.iconst 0, 1) := pl_dc dd_Mo_least 5 (q := (9, .iconst 0, 1)) rfl
  have k10 : decode b_Mo_least 10 = .ok (.goto 4, 3) := pl_dc dd_Mo_least 6 (q := (10, .goto 4, 3)) rfl
  have k13 : decode b_Mo_least 13 = .ok (.iconst 1, 1) := pl_dc dd_Mo_least 7 (q := (13, .iconst 1, 1)) rfl
  have k14 : decode b_Mo_least 14 = .ok (.putfield 88, 3) := pl_dc dd_Mo_least 8 (q := (14, .putfield 88, 3)) rfl
  have k17 : decode b_Mo_least 17 = .ok (.aload_n 0, 1) := pl_dc dd_Mo_least 9 (q := (17, .aload_n 0, 1)) rfl
  have k18 : decode b_Mo_least 18 = .ok (.getfield 88, 3) := pl_dc dd_Mo_least 10 (q := (18, .getfield 88, 3)) rfl
  have k21 : decode b_Mo_least 21 = .ok (.ifCond .le 5, 3) := pl_dc dd_Mo_least 11 (q := (21, .ifCond .le 5, 3)) rfl
  have k24 : decode b_Mo_least 24 = .ok (.iconst 0, 1) := pl_dc dd_Mo_least 12 (q := (24, .iconst 0, 1)) rfl
  have k25 : decode b_Mo_least 25 = .ok (.ireturn, 1) := pl_dc dd_Mo_least 13 (q := (25, .ireturn, 1)) rfl
  have k26 : decode b_Mo_least 26 = .ok (.aload_n 0, 1) := pl_dc dd_Mo_least 14 (q := (26, .aload_n 0, 1)) rfl
  have k27 : decode b_Mo_least 27 = .ok (.invokevirtual 139, 3) := pl_dc dd_Mo_least 15 (q := (27, .invokevirtual 139, 3)) rfl
  have k30 : decode b_Mo_least 30 = .ok (.aload_n 0, 1) := pl_dc dd_Mo_least 16 (q := (30, .aload_n 0, 1)) rfl
  have k31 : decode b_Mo_least 31 = .ok (.iload_n 1, 1) := pl_dc dd_Mo_least 17 (q := (31, .iload_n 1, 1)) rfl
  have k32 : decode b_Mo_least 32 = .ok (.invokevirtual 121, 3) := pl_dc dd_Mo_least 18 (q := (32, .invokevirtual 121, 3)) rfl
  have k35 : decode b_Mo_least 35 = .ok (.ireturn, 1) := pl_dc dd_Mo_least 19 (q := (35, .ireturn, 1)) rfl
  exact (d_seq (p1 := 17) (d_puti (p1 := 1) (p2 := 14) F 3 0 hp_3_0 (c_aload_n F k0 rfl) (c_if (p1 := 9) (p2 := 10) (p3 := 14) F (b_zero_t (p1 := 6) (pj := 13) F (c_callV (p1 := 3) F (a_i_ok (p1 := 2) (a_r_ok (p1 := 1) a_nil_ok (c_aload_n F k1 rfl)) (c_iload_n F k2 rfl)) (z_Mo_isBox _) y_Mo_isBox_ok lm_PageLayouterModel_95 k3 r_Mo_isBox (by decide) (by decide)) k6 (by decide)) (c_iconst F k9 (by decide)) k10 (by decide) (c_iconst F k13 (by decide))) k14 lf_PageLayouterModel_88) (d_seq (p1 := 26) (d_if (p1 := 24) (p2 := 26) (b_zero_t (p1 := 21) (pj := 26) F (c_geti (p1 := 18) F 3 0 hg_3_0 (c_aload_n F k17 rfl) k18 lf_PageLayouterModel_88) k21 (by decide)) (d_reti (p1 := 25) F Fm.2.1 Fm.2.2.1 (c_iconst F k24 (by decide)) k25)) (d_seq (p1 := 30) (d_callV (p1 := 27) F (a_r_ok (p1 := 26) a_nil_ok (c_aload_n F k26 rfl)) (z_Mo_findCores _) y_Mo_findCores_ok lm_PageLayouterModel_139 k27 r_Mo_findCores (by decide)) (d_reti (p1 := 35) F Fm.2.1 Fm.2.2.1 (c_callV (p1 := 32) F (a_i_ok (p1 := 31) (a_r_ok (p1 := 30) a_nil_ok (c_aload_n F k30 rfl)) (c_iload_n F k31 rfl)) (z_Mo_leastOf _) y_Mo_leastOf_ok lm_PageLayouterModel_121 k32 r_Mo_leastOf (by decide) (by decide)) k35)))))
def y_Mo_most : MethodName := ⟨"PageLayouterModel", "most", "(I)I"⟩
abbrev b_Mo_most : ByteArray := prog_10_method_24_code
abbrev n_Mo_most : Nat := 2
theorem y_Mo_most_ok : pl_MV 3 y_Mo_most b_Mo_most n_Mo_most (Option.some Jvm.ClassFile.FieldType.int) 1 := ⟨pl_mem 865 (by decide +kernel) (by decide +kernel), pl_mem 863 (by decide +kernel) (by decide +kernel), pl_mem 864 (by decide +kernel) (by decide +kernel), pl_mem 47 (by decide +kernel) (by decide +kernel), ⟨by decide, by decide, by decide +kernel⟩, _, rfl, rfl⟩
def D_Mo_most : List (Nat × Instr × Nat) := [(0, .aload_n 0, 1), (1, .aload_n 0, 1), (2, .iload_n 1, 1), (3, .invokevirtual 95, 3), (6, .ifCond .eq 7, 3), (9, .iconst 0, 1), (10, .goto 4, 3), (13, .iconst 1, 1), (14, .putfield 88, 3), (17, .aload_n 0, 1), (18, .getfield 88, 3), (21, .ifCond .le 5, 3), (24, .iconst 0, 1), (25, .ireturn, 1), (26, .aload_n 0, 1), (27, .invokevirtual 139, 3), (30, .aload_n 0, 1), (31, .iload_n 1, 1), (32, .invokevirtual 127, 3), (35, .ireturn, 1)]
theorem dd_Mo_most : (D_Mo_most.all fun q => decide (decode b_Mo_most q.1 = .ok q.2)) = true := by decide +kernel
def t_Mo_most : pl_TR := fun P _ _ => s_seq (s_puti 3 0 (e_locr 0) (e_if (b_zero .ne (e_callV Value.int 3 t_Mo_isBox n_Mo_isBox (a_i (a_r a_nil (e_locr 0)) (e_loc 1)))) (e_int 0) (e_int 1))) (s_seq (s_if (b_zero .gt (e_geti 3 0 (e_locr 0))) (s_reti P (e_int 0))) (s_seq (s_callV 3 t_Mo_findCores n_Mo_findCores (a_r a_nil (e_locr 0))) (s_reti P (e_callV Value.int 3 t_Mo_mostOf n_Mo_mostOf (a_i (a_r a_nil (e_locr 0)) (e_loc 1))))))
theorem z_Mo_most (l : Launch) : pl_Ctr l y_Mo_most b_Mo_most n_Mo_most (Option.some Jvm.ClassFile.FieldType.int) 4 94 0 0 false t_Mo_most := pl_ctr_of (pe := 0) (by decide) (fun X Y P F Fm => by
  have F : pl_Fx X Y "PageLayouterModel" b_Mo_most := F
  have r_Mo_findCores : 3 + 1 ≤ (pl_xR X).frames ∧ 8 + (n_Mo_findCores + 11) + 67 ≤ (pl_xR X).locals := ⟨Nat.le_trans (by decide) Fm.2.2.2.2.2.1, Nat.le_trans (by decide) Fm.2.2.2.2.2.2.1⟩
  have r_Mo_isBox : 0 + 1 ≤ (pl_xR X).frames ∧ 8 + (n_Mo_isBox + 11) + 0 ≤ (pl_xR X).locals := ⟨Nat.le_trans (by decide) Fm.2.2.2.2.2.1, Nat.le_trans (by decide) Fm.2.2.2.2.2.2.1⟩
  have r_Mo_mostOf : 1 + 1 ≤ (pl_xR X).frames ∧ 8 + (n_Mo_mostOf + 11) + 21 ≤ (pl_xR X).locals := ⟨Nat.le_trans (by decide) Fm.2.2.2.2.2.1, Nat.le_trans (by decide) Fm.2.2.2.2.2.2.1⟩
  have k0 : decode b_Mo_most 0 = .ok (.aload_n 0, 1) := pl_dc dd_Mo_most 0 (q := (0, .aload_n 0, 1)) rfl
  have k1 : decode b_Mo_most 1 = .ok (.aload_n 0, 1) := pl_dc dd_Mo_most 1 (q := (1, .aload_n 0, 1)) rfl
  have k2 : decode b_Mo_most 2 = .ok (.iload_n 1, 1) := pl_dc dd_Mo_most 2 (q := (2, .iload_n 1, 1)) rfl
  have k3 : decode b_Mo_most 3 = .ok (.invokevirtual 95, 3) := pl_dc dd_Mo_most 3 (q := (3, .invokevirtual 95, 3)) rfl
  have k6 : decode b_Mo_most 6 = .ok (.ifCond .eq 7, 3) := pl_dc dd_Mo_most 4 (q := (6, .ifCond .eq 7, 3)) rfl
  have k9 : decode b_Mo_most 9 = .ok (.iconst 0, 1) := pl_dc dd_Mo_most 5 (q := (9, .iconst 0, 1)) rfl
  have k10 : decode b_Mo_most 10 = .ok (.goto 4, 3) := pl_dc dd_Mo_most 6 (q := (10, .goto 4, 3)) rfl
  have k13 : decode b_Mo_most 13 = .ok (.iconst 1, 1) := pl_dc dd_Mo_most 7 (q := (13, .iconst 1, 1)) rfl
  have k14 : decode b_Mo_most 14 = .ok (.putfield 88, 3) := pl_dc dd_Mo_most 8 (q := (14, .putfield 88, 3)) rfl
  have k17 : decode b_Mo_most 17 = .ok (.aload_n 0, 1) := pl_dc dd_Mo_most 9 (q := (17, .aload_n 0, 1)) rfl
  have k18 : decode b_Mo_most 18 = .ok (.getfield 88, 3) := pl_dc dd_Mo_most 10 (q := (18, .getfield 88, 3)) rfl
  have k21 : decode b_Mo_most 21 = .ok (.ifCond .le 5, 3) := pl_dc dd_Mo_most 11 (q := (21, .ifCond .le 5, 3)) rfl
  have k24 : decode b_Mo_most 24 = .ok (.iconst 0, 1) := pl_dc dd_Mo_most 12 (q := (24, .iconst 0, 1)) rfl
  have k25 : decode b_Mo_most 25 = .ok (.ireturn, 1) := pl_dc dd_Mo_most 13 (q := (25, .ireturn, 1)) rfl
  have k26 : decode b_Mo_most 26 = .ok (.aload_n 0, 1) := pl_dc dd_Mo_most 14 (q := (26, .aload_n 0, 1)) rfl
  have k27 : decode b_Mo_most 27 = .ok (.invokevirtual 139, 3) := pl_dc dd_Mo_most 15 (q := (27, .invokevirtual 139, 3)) rfl
  have k30 : decode b_Mo_most 30 = .ok (.aload_n 0, 1) := pl_dc dd_Mo_most 16 (q := (30, .aload_n 0, 1)) rfl
  have k31 : decode b_Mo_most 31 = .ok (.iload_n 1, 1) := pl_dc dd_Mo_most 17 (q := (31, .iload_n 1, 1)) rfl
  have k32 : decode b_Mo_most 32 = .ok (.invokevirtual 127, 3) := pl_dc dd_Mo_most 18 (q := (32, .invokevirtual 127, 3)) rfl
  have k35 : decode b_Mo_most 35 = .ok (.ireturn, 1) := pl_dc dd_Mo_most 19 (q := (35, .ireturn, 1)) rfl
  exact (d_seq (p1 := 17) (d_puti (p1 := 1) (p2 := 14) F 3 0 hp_3_0 (c_aload_n F k0 rfl) (c_if (p1 := 9) (p2 := 10) (p3 := 14) F (b_zero_t (p1 := 6) (pj := 13) F (c_callV (p1 := 3) F (a_i_ok (p1 := 2) (a_r_ok (p1 := 1) a_nil_ok (c_aload_n F k1 rfl)) (c_iload_n F k2 rfl)) (z_Mo_isBox _) y_Mo_isBox_ok lm_PageLayouterModel_95 k3 r_Mo_isBox (by decide) (by decide)) k6 (by decide)) (c_iconst F k9 (by decide)) k10 (by decide) (c_iconst F k13 (by decide))) k14 lf_PageLayouterModel_88) (d_seq (p1 := 26) (d_if (p1 := 24) (p2 := 26) (b_zero_t (p1 := 21) (pj := 26) F (c_geti (p1 := 18) F 3 0 hg_3_0 (c_aload_n F k17 rfl) k18 lf_PageLayouterModel_88) k21 (by decide)) (d_reti (p1 := 25) F Fm.2.1 Fm.2.2.1 (c_iconst F k24 (by decide)) k25)) (d_seq (p1 := 30) (d_callV (p1 := 27) F (a_r_ok (p1 := 26) a_nil_ok (c_aload_n F k26 rfl)) (z_Mo_findCores _) y_Mo_findCores_ok lm_PageLayouterModel_139 k27 r_Mo_findCores (by decide)) (d_reti (p1 := 35) F Fm.2.1 Fm.2.2.1 (c_callV (p1 := 32) F (a_i_ok (p1 := 31) (a_r_ok (p1 := 30) a_nil_ok (c_aload_n F k30 rfl)) (c_iload_n F k31 rfl)) (z_Mo_mostOf _) y_Mo_mostOf_ok lm_PageLayouterModel_127 k32 r_Mo_mostOf (by decide) (by decide)) k35)))))
def y_Mo_part : MethodName := ⟨"PageLayouterModel", "part", "(II)I"⟩
abbrev b_Mo_part : ByteArray := prog_10_method_25_code
abbrev n_Mo_part : Nat := 2
theorem y_Mo_part_ok : pl_MS y_Mo_part b_Mo_part n_Mo_part (Option.some Jvm.ClassFile.FieldType.int) 2 := ⟨pl_mem 880 (by decide +kernel) (by decide +kernel), pl_mem 879 (by decide +kernel) (by decide +kernel), pl_mem 47 (by decide +kernel) (by decide +kernel), ⟨by decide, by decide, by decide +kernel⟩⟩
def D_Mo_part : List (Nat × Instr × Nat) := [(0, .iload_n 1, 1), (1, .iload_n 0, 1), (2, .ldc 99, 2), (4, .isub, 1), (5, .imul, 1), (6, .bipush 100, 2), (8, .idiv, 1), (9, .ireturn, 1)]
theorem dd_Mo_part : (D_Mo_part.all fun q => decide (decode b_Mo_part q.1 = .ok q.2)) = true := by decide +kernel
def t_Mo_part : pl_TR := fun P _ _ => s_reti P (e_div (e_bin (fun x y : Int32 => x * y) (e_loc 1) (e_bin (fun x y : Int32 => x - y) (e_loc 0) (e_int 100000))) (e_int 100))
theorem z_Mo_part (l : Launch) : pl_Ctr l y_Mo_part b_Mo_part n_Mo_part (Option.some Jvm.ClassFile.FieldType.int) 0 0 0 0 false t_Mo_part := pl_ctr_of (pe := 0) (by decide) (fun X Y P F Fm => by
  have F : pl_Fx X Y "PageLayouterModel" b_Mo_part := F
  have k0 : decode b_Mo_part 0 = .ok (.iload_n 1, 1) := pl_dc dd_Mo_part 0 (q := (0, .iload_n 1, 1)) rfl
  have k1 : decode b_Mo_part 1 = .ok (.iload_n 0, 1) := pl_dc dd_Mo_part 1 (q := (1, .iload_n 0, 1)) rfl
  have k2 : decode b_Mo_part 2 = .ok (.ldc 99, 2) := pl_dc dd_Mo_part 2 (q := (2, .ldc 99, 2)) rfl
  have k4 : decode b_Mo_part 4 = .ok (.isub, 1) := pl_dc dd_Mo_part 3 (q := (4, .isub, 1)) rfl
  have k5 : decode b_Mo_part 5 = .ok (.imul, 1) := pl_dc dd_Mo_part 4 (q := (5, .imul, 1)) rfl
  have k6 : decode b_Mo_part 6 = .ok (.bipush 100, 2) := pl_dc dd_Mo_part 5 (q := (6, .bipush 100, 2)) rfl
  have k8 : decode b_Mo_part 8 = .ok (.idiv, 1) := pl_dc dd_Mo_part 6 (q := (8, .idiv, 1)) rfl
  have k9 : decode b_Mo_part 9 = .ok (.ireturn, 1) := pl_dc dd_Mo_part 7 (q := (9, .ireturn, 1)) rfl
  exact (d_reti (p1 := 9) F Fm.2.1 Fm.2.2.1 (c_div (p1 := 6) (p2 := 8) F (c_bin 1 (p1 := 1) (p2 := 5) (c_iload_n F k0 rfl) (c_bin 1 (p1 := 2) (p2 := 4) (c_iload_n F k1 rfl) (c_ldc F lc_PageLayouterModel_99 k2) pl_c1 (j_isub F k4)) pl_c1 (j_imul F k5)) (c_bipush F k6 (by decide)) k8) k9))
def y_Mo_plainWidth : MethodName := ⟨"PageLayouterModel", "plainWidth", "(II)I"⟩
abbrev b_Mo_plainWidth : ByteArray := prog_10_method_26_code
abbrev n_Mo_plainWidth : Nat := 5
theorem y_Mo_plainWidth_ok : pl_MV 3 y_Mo_plainWidth b_Mo_plainWidth n_Mo_plainWidth (Option.some Jvm.ClassFile.FieldType.int) 2 := ⟨pl_mem 877 (by decide +kernel) (by decide +kernel), pl_mem 876 (by decide +kernel) (by decide +kernel), pl_mem 25 (by decide +kernel) (by decide +kernel), pl_mem 47 (by decide +kernel) (by decide +kernel), ⟨by decide, by decide, by decide +kernel⟩, _, rfl, rfl⟩
def D_Mo_plainWidth : List (Nat × Instr × Nat) := [(0, .aload_n 0, 1), (1, .iload_n 1, 1), (2, .invokevirtual 115, 3), (5, .istore_n 3, 1), (6, .iload_n 3, 1), (7, .iconst (-1), 1), (8, .if_icmp .eq 19, 3), (11, .iload_n 3, 1), (12, .ldc 99, 2), (14, .if_icmp .lt 11, 3), (17, .iload_n 3, 1), (18, .iload_n 2, 1), (19, .invokestatic 142, 3), (22, .goto 4, 3), (25, .iload_n 3, 1), (26, .ireturn, 1), (27, .iload_n 2, 1), (28, .aload_n 0, 1), (29, .iload_n 1, 1), (30, .invokevirtual 124, 3), (33, .isub, 1), (34, .ifCond .le 13, 3), (37, .iload_n 2, 1), (38, .aload_n 0, 1), (39, .iload_n 1, 1), (40, .invokevirtual 124, 3), (43, .isub, 1), (44, .goto 4, 3), (47, .iconst 0, 1), (48, .istore 4, 2), (50, .aload_n 0, 1), (51, .getfield 26, 3), (54, .iload_n 1, 1), (55, .baload, 1), (56, .ifCond .ne 6, 3), (59, .iload 4, 2), (61, .ireturn, 1), (62, .iload 4, 2), (64, .aload_n 0, 1), (65, .iload_n 1, 1), (66, .invokevirtual 121, 3), (69, .if_icmp .ge 11, 3), (72, .aload_n 0, 1), (73, .iload_n 1, 1), (74, .invokevirtual 121, 3), (77, .goto 5, 3), (80, .iload 4, 2), (82, .istore 4, 2), (84, .iload 4, 2), (86, .aload_n 0, 1), (87, .iload_n 1, 1), (88, .invokevirtual 127, 3), (91, .if_icmp .le 11, 3), (94, .aload_n 0, 1), (95, .iload_n 1, 1), (96, .invokevirtual 127, 3), (99, .goto 5, 3), (102, .iload 4, 2), (104, .ireturn, 1)]
theorem dd_Mo_plainWidth : (D_Mo_plainWidth.all fun q => decide (decode b_Mo_plainWidth q.1 = .ok q.2)) = true := by decide +kernel
def t_Mo_plainWidth : pl_TR := fun P _ _ => s_seq (s_seti 3 (e_callV Value.int 3 t_Mo_widthOf n_Mo_widthOf (a_i (a_r a_nil (e_locr 0)) (e_loc 1)))) (s_seq (s_if (b_cmp .ne (e_loc 3) (e_int (-1))) (s_reti P (e_if (b_cmp .ge (e_loc 3) (e_int 100000)) (e_callS Value.int t_Mo_part n_Mo_part (a_i (a_i a_nil (e_loc 3)) (e_loc 2))) (e_loc 3)))) (s_seq (s_seti 4 (e_if (b_zero .gt (e_bin (fun x y : Int32 => x - y) (e_loc 2) (e_callV Value.int 3 t_Mo_around n_Mo_around (a_i (a_r a_nil (e_locr 0)) (e_loc 1))))) (e_bin (fun x y : Int32 => x - y) (e_loc 2) (e_callV Value.int 3 t_Mo_around n_Mo_around (a_i (a_r a_nil (e_locr 0)) (e_loc 1)))) (e_int 0))) (s_seq (s_if (b_not (b_zero .ne (e_ald 2 (e_getr 3 7 (e_locr 0)) (e_loc 1)))) (s_reti P (e_loc 4))) (s_seq (s_seti 4 (e_if (b_cmp .lt (e_loc 4) (e_callV Value.int 3 t_Mo_leastOf n_Mo_leastOf (a_i (a_r a_nil (e_locr 0)) (e_loc 1)))) (e_callV Value.int 3 t_Mo_leastOf n_Mo_leastOf (a_i (a_r a_nil (e_locr 0)) (e_loc 1))) (e_loc 4))) (s_reti P (e_if (b_cmp .gt (e_loc 4) (e_callV Value.int 3 t_Mo_mostOf n_Mo_mostOf (a_i (a_r a_nil (e_locr 0)) (e_loc 1)))) (e_callV Value.int 3 t_Mo_mostOf n_Mo_mostOf (a_i (a_r a_nil (e_locr 0)) (e_loc 1))) (e_loc 4)))))))
theorem z_Mo_plainWidth (l : Launch) : pl_Ctr l y_Mo_plainWidth b_Mo_plainWidth n_Mo_plainWidth (Option.some Jvm.ClassFile.FieldType.int) 2 42 0 0 false t_Mo_plainWidth := pl_ctr_of (pe := 0) (by decide) (fun X Y P F Fm => by
  have F : pl_Fx X Y "PageLayouterModel" b_Mo_plainWidth := F
  have r_Mo_around : 1 + 1 ≤ (pl_xR X).frames ∧ 8 + (n_Mo_around + 11) + 21 ≤ (pl_xR X).locals := ⟨Nat.le_trans (by decide) Fm.2.2.2.2.2.1, Nat.le_trans (by decide) Fm.2.2.2.2.2.2.1⟩
  have r_Mo_leastOf : 1 + 1 ≤ (pl_xR X).frames ∧ 8 + (n_Mo_leastOf + 11) + 21 ≤ (pl_xR X).locals := ⟨Nat.le_trans (by decide) Fm.2.2.2.2.2.1, Nat.le_trans (by decide) Fm.2.2.2.2.2.2.1⟩
  have r_Mo_mostOf : 1 + 1 ≤ (pl_xR X).frames ∧ 8 + (n_Mo_mostOf + 11) + 21 ≤ (pl_xR X).locals := ⟨Nat.le_trans (by decide) Fm.2.2.2.2.2.1, Nat.le_trans (by decide) Fm.2.2.2.2.2.2.1⟩
  have r_Mo_part : 0 + 1 ≤ (pl_xR X).frames ∧ 8 + (n_Mo_part + 11) + 0 ≤ (pl_xR X).locals := ⟨Nat.le_trans (by decide) Fm.2.2.2.2.2.1, Nat.le_trans (by decide) Fm.2.2.2.2.2.2.1⟩
  have r_Mo_widthOf : 0 + 1 ≤ (pl_xR X).frames ∧ 8 + (n_Mo_widthOf + 11) + 0 ≤ (pl_xR X).locals := ⟨Nat.le_trans (by decide) Fm.2.2.2.2.2.1, Nat.le_trans (by decide) Fm.2.2.2.2.2.2.1⟩
  have hm : ∀ i, i < 5 → i < (pl_xc X).maxLocals := fun i h => by rw [Fm.2.2.2.1]; exact h
  have k0 : decode b_Mo_plainWidth 0 = .ok (.aload_n 0, 1) := pl_dc dd_Mo_plainWidth 0 (q := (0, .aload_n 0, 1)) rfl
  have k1 : decode b_Mo_plainWidth 1 = .ok (.iload_n 1, 1) := pl_dc dd_Mo_plainWidth 1 (q := (1, .iload_n 1, 1)) rfl
  have k2 : decode b_Mo_plainWidth 2 = .ok (.invokevirtual 115, 3) := pl_dc dd_Mo_plainWidth 2 (q := (2, .invokevirtual 115, 3)) rfl
  have k5 : decode b_Mo_plainWidth 5 = .ok (.istore_n 3, 1) := pl_dc dd_Mo_plainWidth 3 (q := (5, .istore_n 3, 1)) rfl
  have k6 : decode b_Mo_plainWidth 6 = .ok (.iload_n 3, 1) := pl_dc dd_Mo_plainWidth 4 (q := (6, .iload_n 3, 1)) rfl
  have k7 : decode b_Mo_plainWidth 7 = .ok (.iconst (-1), 1) := pl_dc dd_Mo_plainWidth 5 (q := (7, .iconst (-1), 1)) rfl
  have k8 : decode b_Mo_plainWidth 8 = .ok (.if_icmp .eq 19, 3) := pl_dc dd_Mo_plainWidth 6 (q := (8, .if_icmp .eq 19, 3)) rfl
  have k11 : decode b_Mo_plainWidth 11 = .ok (.iload_n 3, 1) := pl_dc dd_Mo_plainWidth 7 (q := (11, .iload_n 3, 1)) rfl
  have k12 : decode b_Mo_plainWidth 12 = .ok (.ldc 99, 2) := pl_dc dd_Mo_plainWidth 8 (q := (12, .ldc 99, 2)) rfl
  have k14 : decode b_Mo_plainWidth 14 = .ok (.if_icmp .lt 11, 3) := pl_dc dd_Mo_plainWidth 9 (q := (14, .if_icmp .lt 11, 3)) rfl
  have k17 : decode b_Mo_plainWidth 17 = .ok (.iload_n 3, 1) := pl_dc dd_Mo_plainWidth 10 (q := (17, .iload_n 3, 1)) rfl
  have k18 : decode b_Mo_plainWidth 18 = .ok (.iload_n 2, 1) := pl_dc dd_Mo_plainWidth 11 (q := (18, .iload_n 2, 1)) rfl
  have k19 : decode b_Mo_plainWidth 19 = .ok (.invokestatic 142, 3) := pl_dc dd_Mo_plainWidth 12 (q := (19, .invokestatic 142, 3)) rfl
  have k22 : decode b_Mo_plainWidth 22 = .ok (.goto 4, 3) := pl_dc dd_Mo_plainWidth 13 (q := (22, .goto 4, 3)) rfl
  have k25 : decode b_Mo_plainWidth 25 = .ok (.iload_n 3, 1) := pl_dc dd_Mo_plainWidth 14 (q := (25, .iload_n 3, 1)) rfl
  have k26 : decode b_Mo_plainWidth 26 = .ok (.ireturn, 1) := pl_dc dd_Mo_plainWidth 15 (q := (26, .ireturn, 1)) rfl
  have k27 : decode b_Mo_plainWidth 27 = .ok (.iload_n 2, 1) := pl_dc dd_Mo_plainWidth 16 (q := (27, .iload_n 2, 1)) rfl
  have k28 : decode b_Mo_plainWidth 28 = .ok (.aload_n 0, 1) := pl_dc dd_Mo_plainWidth 17 (q := (28, .aload_n 0, 1)) rfl
  have k29 : decode b_Mo_plainWidth 29 = .ok (.iload_n 1, 1) := pl_dc dd_Mo_plainWidth 18 (q := (29, .iload_n 1, 1)) rfl
  have k30 : decode b_Mo_plainWidth 30 = .ok (.invokevirtual 124, 3) := pl_dc dd_Mo_plainWidth 19 (q := (30, .invokevirtual 124, 3)) rfl
  have k33 : decode b_Mo_plainWidth 33 = .ok (.isub, 1) := pl_dc dd_Mo_plainWidth 20 (q := (33, .isub, 1)) rfl
  have k34 : decode b_Mo_plainWidth 34 = .ok (.ifCond .le 13, 3) := pl_dc dd_Mo_plainWidth 21 (q := (34, .ifCond .le 13, 3)) rfl
  have k37 : decode b_Mo_plainWidth 37 = .ok (.iload_n 2, 1) := pl_dc dd_Mo_plainWidth 22 (q := (37, .iload_n 2, 1)) rfl
  have k38 : decode b_Mo_plainWidth 38 = .ok (.aload_n 0, 1) := pl_dc dd_Mo_plainWidth 23 (q := (38, .aload_n 0, 1)) rfl
  have k39 : decode b_Mo_plainWidth 39 = .ok (.iload_n 1, 1) := pl_dc dd_Mo_plainWidth 24 (q := (39, .iload_n 1, 1)) rfl
  have k40 : decode b_Mo_plainWidth 40 = .ok (.invokevirtual 124, 3) := pl_dc dd_Mo_plainWidth 25 (q := (40, .invokevirtual 124, 3)) rfl
  have k43 : decode b_Mo_plainWidth 43 = .ok (.isub, 1) := pl_dc dd_Mo_plainWidth 26 (q := (43, .isub, 1)) rfl
  have k44 : decode b_Mo_plainWidth 44 = .ok (.goto 4, 3) := pl_dc dd_Mo_plainWidth 27 (q := (44, .goto 4, 3)) rfl
  have k47 : decode b_Mo_plainWidth 47 = .ok (.iconst 0, 1) := pl_dc dd_Mo_plainWidth 28 (q := (47, .iconst 0, 1)) rfl
  have k48 : decode b_Mo_plainWidth 48 = .ok (.istore 4, 2) := pl_dc dd_Mo_plainWidth 29 (q := (48, .istore 4, 2)) rfl
  have k50 : decode b_Mo_plainWidth 50 = .ok (.aload_n 0, 1) := pl_dc dd_Mo_plainWidth 30 (q := (50, .aload_n 0, 1)) rfl
  have k51 : decode b_Mo_plainWidth 51 = .ok (.getfield 26, 3) := pl_dc dd_Mo_plainWidth 31 (q := (51, .getfield 26, 3)) rfl
  have k54 : decode b_Mo_plainWidth 54 = .ok (.iload_n 1, 1) := pl_dc dd_Mo_plainWidth 32 (q := (54, .iload_n 1, 1)) rfl
  have k55 : decode b_Mo_plainWidth 55 = .ok (.baload, 1) := pl_dc dd_Mo_plainWidth 33 (q := (55, .baload, 1)) rfl
  have k56 : decode b_Mo_plainWidth 56 = .ok (.ifCond .ne 6, 3) := pl_dc dd_Mo_plainWidth 34 (q := (56, .ifCond .ne 6, 3)) rfl
  have k59 : decode b_Mo_plainWidth 59 = .ok (.iload 4, 2) := pl_dc dd_Mo_plainWidth 35 (q := (59, .iload 4, 2)) rfl
  have k61 : decode b_Mo_plainWidth 61 = .ok (.ireturn, 1) := pl_dc dd_Mo_plainWidth 36 (q := (61, .ireturn, 1)) rfl
  have k62 : decode b_Mo_plainWidth 62 = .ok (.iload 4, 2) := pl_dc dd_Mo_plainWidth 37 (q := (62, .iload 4, 2)) rfl
  have k64 : decode b_Mo_plainWidth 64 = .ok (.aload_n 0, 1) := pl_dc dd_Mo_plainWidth 38 (q := (64, .aload_n 0, 1)) rfl
  have k65 : decode b_Mo_plainWidth 65 = .ok (.iload_n 1, 1) := pl_dc dd_Mo_plainWidth 39 (q := (65, .iload_n 1, 1)) rfl
  have k66 : decode b_Mo_plainWidth 66 = .ok (.invokevirtual 121, 3) := pl_dc dd_Mo_plainWidth 40 (q := (66, .invokevirtual 121, 3)) rfl
  have k69 : decode b_Mo_plainWidth 69 = .ok (.if_icmp .ge 11, 3) := pl_dc dd_Mo_plainWidth 41 (q := (69, .if_icmp .ge 11, 3)) rfl
  have k72 : decode b_Mo_plainWidth 72 = .ok (.aload_n 0, 1) := pl_dc dd_Mo_plainWidth 42 (q := (72, .aload_n 0, 1)) rfl
  have k73 : decode b_Mo_plainWidth 73 = .ok (.iload_n 1, 1) := pl_dc dd_Mo_plainWidth 43 (q := (73, .iload_n 1, 1)) rfl
  have k74 : decode b_Mo_plainWidth 74 = .ok (.invokevirtual 121, 3) := pl_dc dd_Mo_plainWidth 44 (q := (74, .invokevirtual 121, 3)) rfl
  have k77 : decode b_Mo_plainWidth 77 = .ok (.goto 5, 3) := pl_dc dd_Mo_plainWidth 45 (q := (77, .goto 5, 3)) rfl
  have k80 : decode b_Mo_plainWidth 80 = .ok (.iload 4, 2) := pl_dc dd_Mo_plainWidth 46 (q := (80, .iload 4, 2)) rfl
  have k82 : decode b_Mo_plainWidth 82 = .ok (.istore 4, 2) := pl_dc dd_Mo_plainWidth 47 (q := (82, .istore 4, 2)) rfl
  have k84 : decode b_Mo_plainWidth 84 = .ok (.iload 4, 2) := pl_dc dd_Mo_plainWidth 48 (q := (84, .iload 4, 2)) rfl
  have k86 : decode b_Mo_plainWidth 86 = .ok (.aload_n 0, 1) := pl_dc dd_Mo_plainWidth 49 (q := (86, .aload_n 0, 1)) rfl
  have k87 : decode b_Mo_plainWidth 87 = .ok (.iload_n 1, 1) := pl_dc dd_Mo_plainWidth 50 (q := (87, .iload_n 1, 1)) rfl
  have k88 : decode b_Mo_plainWidth 88 = .ok (.invokevirtual 127, 3) := pl_dc dd_Mo_plainWidth 51 (q := (88, .invokevirtual 127, 3)) rfl
  have k91 : decode b_Mo_plainWidth 91 = .ok (.if_icmp .le 11, 3) := pl_dc dd_Mo_plainWidth 52 (q := (91, .if_icmp .le 11, 3)) rfl
  have k94 : decode b_Mo_plainWidth 94 = .ok (.aload_n 0, 1) := pl_dc dd_Mo_plainWidth 53 (q := (94, .aload_n 0, 1)) rfl
  have k95 : decode b_Mo_plainWidth 95 = .ok (.iload_n 1, 1) := pl_dc dd_Mo_plainWidth 54 (q := (95, .iload_n 1, 1)) rfl
  have k96 : decode b_Mo_plainWidth 96 = .ok (.invokevirtual 127, 3) := pl_dc dd_Mo_plainWidth 55 (q := (96, .invokevirtual 127, 3)) rfl
  have k99 : decode b_Mo_plainWidth 99 = .ok (.goto 5, 3) := pl_dc dd_Mo_plainWidth 56 (q := (99, .goto 5, 3)) rfl
  have k102 : decode b_Mo_plainWidth 102 = .ok (.iload 4, 2) := pl_dc dd_Mo_plainWidth 57 (q := (102, .iload 4, 2)) rfl
  have k104 : decode b_Mo_plainWidth 104 = .ok (.ireturn, 1) := pl_dc dd_Mo_plainWidth 58 (q := (104, .ireturn, 1)) rfl
  exact (d_seq (p1 := 6) (d_istore_n (p1 := 5) F (c_callV (p1 := 2) F (a_i_ok (p1 := 1) (a_r_ok (p1 := 0) a_nil_ok (c_aload_n F k0 rfl)) (c_iload_n F k1 rfl)) (z_Mo_widthOf _) y_Mo_widthOf_ok lm_PageLayouterModel_115 k2 r_Mo_widthOf (by decide) (by decide)) k5 rfl (hm 3 (by decide))) (d_seq (p1 := 27) (d_if (p1 := 11) (p2 := 27) (b_cmp_t (p1 := 7) (p2 := 8) (pj := 27) F (c_iload_n F k6 rfl) (c_iconst F k7 (by decide)) k8 (by decide)) (d_reti (p1 := 26) F Fm.2.1 Fm.2.2.1 (c_if (p1 := 17) (p2 := 22) (p3 := 26) F (b_cmp_t (p1 := 12) (p2 := 14) (pj := 25) F (c_iload_n F k11 rfl) (c_ldc F lc_PageLayouterModel_99 k12) k14 (by decide)) (c_callS (p1 := 19) F (a_i_ok (p1 := 18) (a_i_ok (p1 := 17) a_nil_ok (c_iload_n F k17 rfl)) (c_iload_n F k18 rfl)) (z_Mo_part _) y_Mo_part_ok lm_PageLayouterModel_142 k19 r_Mo_part (by decide) (by decide)) k22 (by decide) (c_iload_n F k25 rfl)) k26)) (d_seq (p1 := 50) (d_istore (p1 := 48) F (c_if (p1 := 37) (p2 := 44) (p3 := 48) F (b_zero_t (p1 := 34) (pj := 47) F (c_bin 1 (p1 := 28) (p2 := 33) (c_iload_n F k27 rfl) (c_callV (p1 := 30) F (a_i_ok (p1 := 29) (a_r_ok (p1 := 28) a_nil_ok (c_aload_n F k28 rfl)) (c_iload_n F k29 rfl)) (z_Mo_around _) y_Mo_around_ok lm_PageLayouterModel_124 k30 r_Mo_around (by decide) (by decide)) pl_c1 (j_isub F k33)) k34 (by decide)) (c_bin 1 (p1 := 38) (p2 := 43) (c_iload_n F k37 rfl) (c_callV (p1 := 40) F (a_i_ok (p1 := 39) (a_r_ok (p1 := 38) a_nil_ok (c_aload_n F k38 rfl)) (c_iload_n F k39 rfl)) (z_Mo_around _) y_Mo_around_ok lm_PageLayouterModel_124 k40 r_Mo_around (by decide) (by decide)) pl_c1 (j_isub F k43)) k44 (by decide) (c_iconst F k47 (by decide))) k48 (hm 4 (by decide))) (d_seq (p1 := 62) (d_if (p1 := 59) (p2 := 62) (b_not_t (b_zero_f (p1 := 56) (pj := 62) F (c_zald (p1 := 54) (p2 := 55) F (c_getr (p1 := 51) F 3 7 hg_3_7 (c_aload_n F k50 rfl) k51 lf_PageLayouterModel_26) (c_iload_n F k54 rfl) k55) k56 (by decide))) (d_reti (p1 := 61) F Fm.2.1 Fm.2.2.1 (c_iload F k59) k61)) (d_seq (p1 := 84) (d_istore (p1 := 82) F (c_if (p1 := 72) (p2 := 77) (p3 := 82) F (b_cmp_t (p1 := 64) (p2 := 69) (pj := 80) F (c_iload F k62) (c_callV (p1 := 66) F (a_i_ok (p1 := 65) (a_r_ok (p1 := 64) a_nil_ok (c_aload_n F k64 rfl)) (c_iload_n F k65 rfl)) (z_Mo_leastOf _) y_Mo_leastOf_ok lm_PageLayouterModel_121 k66 r_Mo_leastOf (by decide) (by decide)) k69 (by decide)) (c_callV (p1 := 74) F (a_i_ok (p1 := 73) (a_r_ok (p1 := 72) a_nil_ok (c_aload_n F k72 rfl)) (c_iload_n F k73 rfl)) (z_Mo_leastOf _) y_Mo_leastOf_ok lm_PageLayouterModel_121 k74 r_Mo_leastOf (by decide) (by decide)) k77 (by decide) (c_iload F k80)) k82 (hm 4 (by decide))) (d_reti (p1 := 104) F Fm.2.1 Fm.2.2.1 (c_if (p1 := 94) (p2 := 99) (p3 := 104) F (b_cmp_t (p1 := 86) (p2 := 91) (pj := 102) F (c_iload F k84) (c_callV (p1 := 88) F (a_i_ok (p1 := 87) (a_r_ok (p1 := 86) a_nil_ok (c_aload_n F k86 rfl)) (c_iload_n F k87 rfl)) (z_Mo_mostOf _) y_Mo_mostOf_ok lm_PageLayouterModel_127 k88 r_Mo_mostOf (by decide) (by decide)) k91 (by decide)) (c_callV (p1 := 96) F (a_i_ok (p1 := 95) (a_r_ok (p1 := 94) a_nil_ok (c_aload_n F k94 rfl)) (c_iload_n F k95 rfl)) (z_Mo_mostOf _) y_Mo_mostOf_ok lm_PageLayouterModel_127 k96 r_Mo_mostOf (by decide) (by decide)) k99 (by decide) (c_iload F k102)) k104)))))))
def y_Mo_basis : MethodName := ⟨"PageLayouterModel", "basis", "(II)I"⟩
abbrev b_Mo_basis : ByteArray := prog_10_method_27_code
abbrev n_Mo_basis : Nat := 4
theorem y_Mo_basis_ok : pl_MV 3 y_Mo_basis b_Mo_basis n_Mo_basis (Option.some Jvm.ClassFile.FieldType.int) 2 := ⟨pl_mem 892 (by decide +kernel) (by decide +kernel), pl_mem 891 (by decide +kernel) (by decide +kernel), pl_mem 28 (by decide +kernel) (by decide +kernel), pl_mem 47 (by decide +kernel) (by decide +kernel), ⟨by decide, by decide, by decide +kernel⟩, _, rfl, rfl⟩
def D_Mo_basis : List (Nat × Instr × Nat) := [(0, .aload_n 0, 1), (1, .iload_n 1, 1), (2, .invokevirtual 115, 3), (5, .istore_n 3, 1), (6, .iload_n 3, 1), (7, .iconst (-1), 1), (8, .if_icmp .ne 11, 3), (11, .aload_n 0, 1), (12, .iload_n 1, 1), (13, .invokevirtual 127, 3), (16, .goto 18, 3), (19, .iload_n 3, 1), (20, .ldc 99, 2), (22, .if_icmp .lt 11, 3), (25, .iload_n 3, 1), (26, .iload_n 2, 1), (27, .invokestatic 142, 3), (30, .goto 4, 3), (33, .iload_n 3, 1), (34, .ireturn, 1)]
theorem dd_Mo_basis : (D_Mo_basis.all fun q => decide (decode b_Mo_basis q.1 = .ok q.2)) = true := by decide +kernel
def t_Mo_basis : pl_TR := fun P _ _ => s_seq (s_seti 3 (e_callV Value.int 3 t_Mo_widthOf n_Mo_widthOf (a_i (a_r a_nil (e_locr 0)) (e_loc 1)))) (s_reti P (e_if (b_cmp .eq (e_loc 3) (e_int (-1))) (e_callV Value.int 3 t_Mo_mostOf n_Mo_mostOf (a_i (a_r a_nil (e_locr 0)) (e_loc 1))) (e_if (b_cmp .ge (e_loc 3) (e_int 100000)) (e_callS Value.int t_Mo_part n_Mo_part (a_i (a_i a_nil (e_loc 3)) (e_loc 2))) (e_loc 3))))
theorem z_Mo_basis (l : Launch) : pl_Ctr l y_Mo_basis b_Mo_basis n_Mo_basis (Option.some Jvm.ClassFile.FieldType.int) 2 42 0 0 false t_Mo_basis := pl_ctr_of (pe := 0) (by decide) (fun X Y P F Fm => by
  have F : pl_Fx X Y "PageLayouterModel" b_Mo_basis := F
  have r_Mo_mostOf : 1 + 1 ≤ (pl_xR X).frames ∧ 8 + (n_Mo_mostOf + 11) + 21 ≤ (pl_xR X).locals := ⟨Nat.le_trans (by decide) Fm.2.2.2.2.2.1, Nat.le_trans (by decide) Fm.2.2.2.2.2.2.1⟩
  have r_Mo_part : 0 + 1 ≤ (pl_xR X).frames ∧ 8 + (n_Mo_part + 11) + 0 ≤ (pl_xR X).locals := ⟨Nat.le_trans (by decide) Fm.2.2.2.2.2.1, Nat.le_trans (by decide) Fm.2.2.2.2.2.2.1⟩
  have r_Mo_widthOf : 0 + 1 ≤ (pl_xR X).frames ∧ 8 + (n_Mo_widthOf + 11) + 0 ≤ (pl_xR X).locals := ⟨Nat.le_trans (by decide) Fm.2.2.2.2.2.1, Nat.le_trans (by decide) Fm.2.2.2.2.2.2.1⟩
  have hm : ∀ i, i < 4 → i < (pl_xc X).maxLocals := fun i h => by rw [Fm.2.2.2.1]; exact h
  have k0 : decode b_Mo_basis 0 = .ok (.aload_n 0, 1) := pl_dc dd_Mo_basis 0 (q := (0, .aload_n 0, 1)) rfl
  have k1 : decode b_Mo_basis 1 = .ok (.iload_n 1, 1) := pl_dc dd_Mo_basis 1 (q := (1, .iload_n 1, 1)) rfl
  have k2 : decode b_Mo_basis 2 = .ok (.invokevirtual 115, 3) := pl_dc dd_Mo_basis 2 (q := (2, .invokevirtual 115, 3)) rfl
  have k5 : decode b_Mo_basis 5 = .ok (.istore_n 3, 1) := pl_dc dd_Mo_basis 3 (q := (5, .istore_n 3, 1)) rfl
  have k6 : decode b_Mo_basis 6 = .ok (.iload_n 3, 1) := pl_dc dd_Mo_basis 4 (q := (6, .iload_n 3, 1)) rfl
  have k7 : decode b_Mo_basis 7 = .ok (.iconst (-1), 1) := pl_dc dd_Mo_basis 5 (q := (7, .iconst (-1), 1)) rfl
  have k8 : decode b_Mo_basis 8 = .ok (.if_icmp .ne 11, 3) := pl_dc dd_Mo_basis 6 (q := (8, .if_icmp .ne 11, 3)) rfl
  have k11 : decode b_Mo_basis 11 = .ok (.aload_n 0, 1) := pl_dc dd_Mo_basis 7 (q := (11, .aload_n 0, 1)) rfl
  have k12 : decode b_Mo_basis 12 = .ok (.iload_n 1, 1) := pl_dc dd_Mo_basis 8 (q := (12, .iload_n 1, 1)) rfl
  have k13 : decode b_Mo_basis 13 = .ok (.invokevirtual 127, 3) := pl_dc dd_Mo_basis 9 (q := (13, .invokevirtual 127, 3)) rfl
  have k16 : decode b_Mo_basis 16 = .ok (.goto 18, 3) := pl_dc dd_Mo_basis 10 (q := (16, .goto 18, 3)) rfl
  have k19 : decode b_Mo_basis 19 = .ok (.iload_n 3, 1) := pl_dc dd_Mo_basis 11 (q := (19, .iload_n 3, 1)) rfl
  have k20 : decode b_Mo_basis 20 = .ok (.ldc 99, 2) := pl_dc dd_Mo_basis 12 (q := (20, .ldc 99, 2)) rfl
  have k22 : decode b_Mo_basis 22 = .ok (.if_icmp .lt 11, 3) := pl_dc dd_Mo_basis 13 (q := (22, .if_icmp .lt 11, 3)) rfl
  have k25 : decode b_Mo_basis 25 = .ok (.iload_n 3, 1) := pl_dc dd_Mo_basis 14 (q := (25, .iload_n 3, 1)) rfl
  have k26 : decode b_Mo_basis 26 = .ok (.iload_n 2, 1) := pl_dc dd_Mo_basis 15 (q := (26, .iload_n 2, 1)) rfl
  have k27 : decode b_Mo_basis 27 = .ok (.invokestatic 142, 3) := pl_dc dd_Mo_basis 16 (q := (27, .invokestatic 142, 3)) rfl
  have k30 : decode b_Mo_basis 30 = .ok (.goto 4, 3) := pl_dc dd_Mo_basis 17 (q := (30, .goto 4, 3)) rfl
  have k33 : decode b_Mo_basis 33 = .ok (.iload_n 3, 1) := pl_dc dd_Mo_basis 18 (q := (33, .iload_n 3, 1)) rfl
  have k34 : decode b_Mo_basis 34 = .ok (.ireturn, 1) := pl_dc dd_Mo_basis 19 (q := (34, .ireturn, 1)) rfl
  exact (d_seq (p1 := 6) (d_istore_n (p1 := 5) F (c_callV (p1 := 2) F (a_i_ok (p1 := 1) (a_r_ok (p1 := 0) a_nil_ok (c_aload_n F k0 rfl)) (c_iload_n F k1 rfl)) (z_Mo_widthOf _) y_Mo_widthOf_ok lm_PageLayouterModel_115 k2 r_Mo_widthOf (by decide) (by decide)) k5 rfl (hm 3 (by decide))) (d_reti (p1 := 34) F Fm.2.1 Fm.2.2.1 (c_if (p1 := 11) (p2 := 16) (p3 := 34) F (b_cmp_t (p1 := 7) (p2 := 8) (pj := 19) F (c_iload_n F k6 rfl) (c_iconst F k7 (by decide)) k8 (by decide)) (c_callV (p1 := 13) F (a_i_ok (p1 := 12) (a_r_ok (p1 := 11) a_nil_ok (c_aload_n F k11 rfl)) (c_iload_n F k12 rfl)) (z_Mo_mostOf _) y_Mo_mostOf_ok lm_PageLayouterModel_127 k13 r_Mo_mostOf (by decide) (by decide)) k16 (by decide) (c_if (p1 := 25) (p2 := 30) (p3 := 34) F (b_cmp_t (p1 := 20) (p2 := 22) (pj := 33) F (c_iload_n F k19 rfl) (c_ldc F lc_PageLayouterModel_99 k20) k22 (by decide)) (c_callS (p1 := 27) F (a_i_ok (p1 := 26) (a_i_ok (p1 := 25) a_nil_ok (c_iload_n F k25 rfl)) (c_iload_n F k26 rfl)) (z_Mo_part _) y_Mo_part_ok lm_PageLayouterModel_142 k27 r_Mo_part (by decide) (by decide)) k30 (by decide) (c_iload_n F k33 rfl))) k34)))
def y_Mo_leftOf : MethodName := ⟨"PageLayouterModel", "leftOf", "(I)J"⟩
abbrev b_Mo_leftOf : ByteArray := prog_10_method_28_code
abbrev n_Mo_leftOf : Nat := 5
theorem y_Mo_leftOf_ok : pl_MV 3 y_Mo_leftOf b_Mo_leftOf n_Mo_leftOf (Option.some Jvm.ClassFile.FieldType.long) 1 := ⟨pl_mem 896 (by decide +kernel) (by decide +kernel), pl_mem 895 (by decide +kernel) (by decide +kernel), pl_mem 29 (by decide +kernel) (by decide +kernel), pl_mem 47 (by decide +kernel) (by decide +kernel), ⟨by decide, by decide, by decide +kernel⟩, _, rfl, rfl⟩
def D_Mo_leftOf : List (Nat × Instr × Nat) := [(0, .aload_n 0, 1), (1, .getfield 45, 3), (4, .iload_n 1, 1), (5, .iaload, 1), (6, .i2l, 1), (7, .lstore_n 2, 1), (8, .iload_n 1, 1), (9, .iconst 1, 1), (10, .iadd, 1), (11, .istore 4, 2), (13, .iload 4, 2), (15, .aload_n 0, 1), (16, .getfield 7, 3), (19, .if_icmp .ge 42, 3), (22, .aload_n 0, 1), (23, .iload 4, 2), (25, .iload_n 1, 1), (26, .invokevirtual 105, 3), (29, .ifCond .eq 24, 3), (32, .lload_n 2, 1), (33, .aload_n 0, 1), (34, .getfield 45, 3), (37, .iload 4, 2), (39, .iaload, 1), (40, .i2l, 1), (41, .lsub, 1), (42, .aload_n 0, 1), (43, .iload 4, 2), (45, .invokevirtual 124, 3), (48, .i2l, 1), (49, .lsub, 1), (50, .goto 4, 3), (53, .lload_n 2, 1), (54, .lstore_n 2, 1), (55, .iinc 4 1, 3), (58, .goto (-45), 3), (61, .lload_n 2, 1), (62, .lreturn, 1)]
theorem dd_Mo_leftOf : (D_Mo_leftOf.all fun q => decide (decode b_Mo_leftOf q.1 = .ok q.2)) = true := by decide +kernel
def t_Mo_leftOf : pl_TR := fun P _ _ => s_seq (s_setl 2 (e_un Int32.toInt64 (e_ald 1 (e_getr 3 13 (e_locr 0)) (e_loc 1)))) (s_seq (s_seq (s_seti 4 (e_bin (fun x y : Int32 => x + y) (e_loc 1) (e_int 1))) (s_while (b_cmp .lt (e_loc 4) (e_geti 3 1 (e_locr 0))) (s_seq (s_setl 2 (e_if (b_zero .ne (e_callV Value.int 3 t_Mo_flows n_Mo_flows (a_i (a_i (a_r a_nil (e_locr 0)) (e_loc 4)) (e_loc 1)))) (e_bin (fun x y : Int64 => x - y) (e_bin (fun x y : Int64 => x - y) (e_locl 2) (e_un Int32.toInt64 (e_ald 1 (e_getr 3 13 (e_locr 0)) (e_loc 4)))) (e_un Int32.toInt64 (e_callV Value.int 3 t_Mo_around n_Mo_around (a_i (a_r a_nil (e_locr 0)) (e_loc 4))))) (e_locl 2))) (s_inc 4 1)))) (s_retl P (e_locl 2)))
theorem z_Mo_leftOf (l : Launch) : pl_Ctr l y_Mo_leftOf b_Mo_leftOf n_Mo_leftOf (Option.some Jvm.ClassFile.FieldType.long) 2 42 0 0 false t_Mo_leftOf := pl_ctr_of (pe := 0) (by decide) (fun X Y P F Fm => by
  have F : pl_Fx X Y "PageLayouterModel" b_Mo_leftOf := F
  have r_Mo_around : 1 + 1 ≤ (pl_xR X).frames ∧ 8 + (n_Mo_around + 11) + 21 ≤ (pl_xR X).locals := ⟨Nat.le_trans (by decide) Fm.2.2.2.2.2.1, Nat.le_trans (by decide) Fm.2.2.2.2.2.2.1⟩
  have r_Mo_flows : 0 + 1 ≤ (pl_xR X).frames ∧ 8 + (n_Mo_flows + 11) + 0 ≤ (pl_xR X).locals := ⟨Nat.le_trans (by decide) Fm.2.2.2.2.2.1, Nat.le_trans (by decide) Fm.2.2.2.2.2.2.1⟩
  have hm : ∀ i, i < 5 → i < (pl_xc X).maxLocals := fun i h => by rw [Fm.2.2.2.1]; exact h
  have k0 : decode b_Mo_leftOf 0 = .ok (.aload_n 0, 1) := pl_dc dd_Mo_leftOf 0 (q := (0, .aload_n 0, 1)) rfl
  have k1 : decode b_Mo_leftOf 1 = .ok (.getfield 45, 3) := pl_dc dd_Mo_leftOf 1 (q := (1, .getfield 45, 3)) rfl
  have k4 : decode b_Mo_leftOf 4 = .ok (.iload_n 1, 1) := pl_dc dd_Mo_leftOf 2 (q := (4, .iload_n 1, 1)) rfl
  have k5 : decode b_Mo_leftOf 5 = .ok (.iaload, 1) := pl_dc dd_Mo_leftOf 3 (q := (5, .iaload, 1)) rfl
  have k6 : decode b_Mo_leftOf 6 = .ok (.i2l, 1) := pl_dc dd_Mo_leftOf 4 (q := (6, .i2l, 1)) rfl
  have k7 : decode b_Mo_leftOf 7 = .ok (.lstore_n 2, 1) := pl_dc dd_Mo_leftOf 5 (q := (7, .lstore_n 2, 1)) rfl
  have k8 : decode b_Mo_leftOf 8 = .ok (.iload_n 1, 1) := pl_dc dd_Mo_leftOf 6 (q := (8, .iload_n 1, 1)) rfl
  have k9 : decode b_Mo_leftOf 9 = .ok (.iconst 1, 1) := pl_dc dd_Mo_leftOf 7 (q := (9, .iconst 1, 1)) rfl
  have k10 : decode b_Mo_leftOf 10 = .ok (.iadd, 1) := pl_dc dd_Mo_leftOf 8 (q := (10, .iadd, 1)) rfl
  have k11 : decode b_Mo_leftOf 11 = .ok (.istore 4, 2) := pl_dc dd_Mo_leftOf 9 (q := (11, .istore 4, 2)) rfl
  have k13 : decode b_Mo_leftOf 13 = .ok (.iload 4, 2) := pl_dc dd_Mo_leftOf 10 (q := (13, .iload 4, 2)) rfl
  have k15 : decode b_Mo_leftOf 15 = .ok (.aload_n 0, 1) := pl_dc dd_Mo_leftOf 11 (q := (15, .aload_n 0, 1)) rfl
  have k16 : decode b_Mo_leftOf 16 = .ok (.getfield 7, 3) := pl_dc dd_Mo_leftOf 12 (q := (16, .getfield 7, 3)) rfl
  have k19 : decode b_Mo_leftOf 19 = .ok (.if_icmp .ge 42, 3) := pl_dc dd_Mo_leftOf 13 (q := (19, .if_icmp .ge 42, 3)) rfl
  have k22 : decode b_Mo_leftOf 22 = .ok (.aload_n 0, 1) := pl_dc dd_Mo_leftOf 14 (q := (22, .aload_n 0, 1)) rfl
  have k23 : decode b_Mo_leftOf 23 = .ok (.iload 4, 2) := pl_dc dd_Mo_leftOf 15 (q := (23, .iload 4, 2)) rfl
  have k25 : decode b_Mo_leftOf 25 = .ok (.iload_n 1, 1) := pl_dc dd_Mo_leftOf 16 (q := (25, .iload_n 1, 1)) rfl
  have k26 : decode b_Mo_leftOf 26 = .ok (.invokevirtual 105, 3) := pl_dc dd_Mo_leftOf 17 (q := (26, .invokevirtual 105, 3)) rfl
  have k29 : decode b_Mo_leftOf 29 = .ok (.ifCond .eq 24, 3) := pl_dc dd_Mo_leftOf 18 (q := (29, .ifCond .eq 24, 3)) rfl
  have k32 : decode b_Mo_leftOf 32 = .ok (.lload_n 2, 1) := pl_dc dd_Mo_leftOf 19 (q := (32, .lload_n 2, 1)) rfl
  have k33 : decode b_Mo_leftOf 33 = .ok (.aload_n 0, 1) := pl_dc dd_Mo_leftOf 20 (q := (33, .aload_n 0, 1)) rfl
  have k34 : decode b_Mo_leftOf 34 = .ok (.getfield 45, 3) := pl_dc dd_Mo_leftOf 21 (q := (34, .getfield 45, 3)) rfl
  have k37 : decode b_Mo_leftOf 37 = .ok (.iload 4, 2) := pl_dc dd_Mo_leftOf 22 (q := (37, .iload 4, 2)) rfl
  have k39 : decode b_Mo_leftOf 39 = .ok (.iaload, 1) := pl_dc dd_Mo_leftOf 23 (q := (39, .iaload, 1)) rfl
  have k40 : decode b_Mo_leftOf 40 = .ok (.i2l, 1) := pl_dc dd_Mo_leftOf 24 (q := (40, .i2l, 1)) rfl
  have k41 : decode b_Mo_leftOf 41 = .ok (.lsub, 1) := pl_dc dd_Mo_leftOf 25 (q := (41, .lsub, 1)) rfl
  have k42 : decode b_Mo_leftOf 42 = .ok (.aload_n 0, 1) := pl_dc dd_Mo_leftOf 26 (q := (42, .aload_n 0, 1)) rfl
  have k43 : decode b_Mo_leftOf 43 = .ok (.iload 4, 2) := pl_dc dd_Mo_leftOf 27 (q := (43, .iload 4, 2)) rfl
  have k45 : decode b_Mo_leftOf 45 = .ok (.invokevirtual 124, 3) := pl_dc dd_Mo_leftOf 28 (q := (45, .invokevirtual 124, 3)) rfl
  have k48 : decode b_Mo_leftOf 48 = .ok (.i2l, 1) := pl_dc dd_Mo_leftOf 29 (q := (48, .i2l, 1)) rfl
  have k49 : decode b_Mo_leftOf 49 = .ok (.lsub, 1) := pl_dc dd_Mo_leftOf 30 (q := (49, .lsub, 1)) rfl
  have k50 : decode b_Mo_leftOf 50 = .ok (.goto 4, 3) := pl_dc dd_Mo_leftOf 31 (q := (50, .goto 4, 3)) rfl
  have k53 : decode b_Mo_leftOf 53 = .ok (.lload_n 2, 1) := pl_dc dd_Mo_leftOf 32 (q := (53, .lload_n 2, 1)) rfl
  have k54 : decode b_Mo_leftOf 54 = .ok (.lstore_n 2, 1) := pl_dc dd_Mo_leftOf 33 (q := (54, .lstore_n 2, 1)) rfl
  have k55 : decode b_Mo_leftOf 55 = .ok (.iinc 4 1, 3) := pl_dc dd_Mo_leftOf 34 (q := (55, .iinc 4 1, 3)) rfl
  have k58 : decode b_Mo_leftOf 58 = .ok (.goto (-45), 3) := pl_dc dd_Mo_leftOf 35 (q := (58, .goto (-45), 3)) rfl
  have k61 : decode b_Mo_leftOf 61 = .ok (.lload_n 2, 1) := pl_dc dd_Mo_leftOf 36 (q := (61, .lload_n 2, 1)) rfl
  have k62 : decode b_Mo_leftOf 62 = .ok (.lreturn, 1) := pl_dc dd_Mo_leftOf 37 (q := (62, .lreturn, 1)) rfl
  exact (d_seq (p1 := 8) (d_lstore_n (p1 := 7) F (c_un (p1 := 6) (c_iald (p1 := 4) (p2 := 5) F (c_getr (p1 := 1) F 3 13 hg_3_13 (c_aload_n F k0 rfl) k1 lf_PageLayouterModel_45) (c_iload_n F k4 rfl) k5) (j_i2l F k6)) k7 rfl (hm 3 (by decide))) (d_seq (p1 := 61) (d_seq (p1 := 13) (d_istore (p1 := 11) F (c_bin 1 (p1 := 9) (p2 := 10) (c_iload_n F k8 rfl) (c_iconst F k9 (by decide)) pl_c1 (j_iadd F k10)) k11 (hm 4 (by decide))) (d_while (p1 := 22) (p2 := 58) F (b_cmp_t (p1 := 15) (p2 := 19) (pj := 61) F (c_iload F k13) (c_geti (p1 := 16) F 3 1 hg_3_1 (c_aload_n F k15 rfl) k16 lf_PageLayouterModel_7) k19 (by decide)) (d_seq (p1 := 55) (d_lstore_n (p1 := 54) F (c_if (p1 := 32) (p2 := 50) (p3 := 54) F (b_zero_t (p1 := 29) (pj := 53) F (c_callV (p1 := 26) F (a_i_ok (p1 := 25) (a_i_ok (p1 := 23) (a_r_ok (p1 := 22) a_nil_ok (c_aload_n F k22 rfl)) (c_iload F k23)) (c_iload_n F k25 rfl)) (z_Mo_flows _) y_Mo_flows_ok lm_PageLayouterModel_105 k26 r_Mo_flows (by decide) (by decide)) k29 (by decide)) (c_bin 2 (p1 := 42) (p2 := 49) (c_bin 2 (p1 := 33) (p2 := 41) (c_lload_n F k32 rfl) (c_un (p1 := 40) (c_iald (p1 := 37) (p2 := 39) F (c_getr (p1 := 34) F 3 13 hg_3_13 (c_aload_n F k33 rfl) k34 lf_PageLayouterModel_45) (c_iload F k37) k39) (j_i2l F k40)) pl_c2 (j_lsub F k41)) (c_un (p1 := 48) (c_callV (p1 := 45) F (a_i_ok (p1 := 43) (a_r_ok (p1 := 42) a_nil_ok (c_aload_n F k42 rfl)) (c_iload F k43)) (z_Mo_around _) y_Mo_around_ok lm_PageLayouterModel_124 k45 r_Mo_around (by decide) (by decide)) (j_i2l F k48)) pl_c2 (j_lsub F k49)) k50 (by decide) (c_lload_n F k53 rfl)) k54 rfl (hm 3 (by decide))) (d_iinc F k55 (by decide) (hm 4 (by decide)))) k58 (by decide))) (d_retl (p1 := 62) F Fm.2.1 Fm.2.2.1 (c_lload_n F k61 rfl) k62))))
def y_Mo_grow : MethodName := ⟨"PageLayouterModel", "grow", "(IJ)V"⟩
abbrev b_Mo_grow : ByteArray := prog_10_method_29_code
abbrev n_Mo_grow : Nat := 11
theorem y_Mo_grow_ok : pl_MV 3 y_Mo_grow b_Mo_grow n_Mo_grow (Option.none : Option Jvm.ClassFile.FieldType) 2 := ⟨pl_mem 900 (by decide +kernel) (by decide +kernel), pl_mem 899 (by decide +kernel) (by decide +kernel), pl_mem 30 (by decide +kernel) (by decide +kernel), pl_mem 47 (by decide +kernel) (by decide +kernel), ⟨by decide, by decide, by decide +kernel⟩, _, rfl, rfl⟩
def D_Mo_grow : List (Nat × Instr × Nat) := [(0, .lconst 0, 1), (1, .lstore 4, 2), (3, .iload_n 1, 1), (4, .iconst 1, 1), (5, .iadd, 1), (6, .istore 6, 2), (8, .iload 6, 2), (10, .aload_n 0, 1), (11, .getfield 7, 3), (14, .if_icmp .ge 42, 3), (17, .aload_n 0, 1), (18, .iload 6, 2), (20, .iload_n 1, 1), (21, .invokevirtual 105, 3), (24, .ifCond .eq 22, 3), (27, .lload 4, 2), (29, .aload_n 0, 1), (30, .getfield 23, 3), (33, .bipush 12, 2), (35, .iload 6, 2), (37, .imul, 1), (38, .iconst 4, 1), (39, .iadd, 1), (40, .iaload, 1), (41, .i2l, 1), (42, .ladd, 1), (43, .goto 5, 3), (46, .lload 4, 2), (48, .lstore 4, 2), (50, .iinc 6 1, 3), (53, .goto (-45), 3), (56, .lload 4, 2), (58, .lconst 0, 1), (59, .lcmp, 1), (60, .ifCond .le 7, 3), (63, .lload_n 2, 1), (64, .goto 4, 3), (67, .lconst 0, 1), (68, .lstore 6, 2), (70, .iload_n 1, 1), (71, .iconst 1, 1), (72, .iadd, 1), (73, .istore 8, 2), (75, .iload 8, 2), (77, .aload_n 0, 1), (78, .getfield 7, 3), (81, .if_icmp .ge 72, 3), (84, .lload 4, 2), (86, .lconst 0, 1), (87, .lcmp, 1), (88, .ifCond .le 65, 3), (91, .aload_n 0, 1), (92, .iload 8, 2), (94, .iload_n 1, 1), (95, .invokevirtual 105, 3), (98, .ifCond .eq 49, 3), (101, .lload_n 2, 1), (102, .aload_n 0, 1), (103, .getfield 23, 3), (106, .bipush 12, 2), (108, .iload 8, 2), (110, .imul, 1), (111, .iconst 4, 1), (112, .iadd, 1), (113, .iaload, 1), (114, .i2l, 1), (115, .lmul, 1), (116, .lload 4, 2), (118, .ldiv, 1), (119, .lstore 9, 2), (121, .aload_n 0, 1), (122, .getfield 45, 3), (125, .iload 8, 2), (127, .aload_n 0, 1), (128, .getfield 45, 3), (131, .iload 8, 2), (133, .iaload, 1), (134, .i2l, 1), (135, .lload 9, 2), (137, .ladd, 1), (138, .l2i, 1), (139, .iastore, 1), (140, .lload 6, 2), (142, .lload 9, 2), (144, .lsub, 1), (145, .lstore 6, 2), (147, .iinc 8 1, 3), (150, .goto (-75), 3), (153, .iload_n 1, 1), (154, .iconst 1, 1), (155, .iadd, 1), (156, .istore 8, 2), (158, .iload 8, 2), (160, .aload_n 0, 1), (161, .getfield 7, 3), (164, .if_icmp .ge 58, 3), (167, .lload 6, 2), (169, .lconst 0, 1), (170, .lcmp, 1), (171, .ifCond .le 51, 3), (174, .aload_n 0, 1), (175, .iload 8, 2), (177, .iload_n 1, 1), (178, .invokevirtual 105, 3), (181, .ifCond .eq 35, 3), (184, .aload_n 0, 1), (185, .getfield 23, 3), (188, .bipush 12, 2), (190, .iload 8, 2), (192, .imul, 1), (193, .iconst 4, 1), (194, .iadd, 1), (195, .iaload, 1), (196, .ifCond .le 20, 3), (199, .aload_n 0, 1), (200, .getfield 45, 3), (203, .iload 8, 2), (205, .dup2, 1), (206, .iaload, 1), (207, .iconst 1, 1), (208, .iadd, 1), (209, .iastore, 1), (210, .lload 6, 2), (212, .lconst 1, 1), (213, .lsub, 1), (214, .lstore 6, 2), (216, .iinc 8 1, 3), (219, .goto (-61), 3), (222, .return_, 1)]
theorem dd_Mo_grow : (D_Mo_grow.all fun q => decide (decode b_Mo_grow q.1 = .ok q.2)) = true := by decide +kernel
def t_Mo_grow : pl_TR := fun P _ _ => s_seq (s_seq (s_setl 4 (e_long 0)) (s_seq (s_seq (s_seti 6 (e_bin (fun x y : Int32 => x + y) (e_loc 1) (e_int 1))) (s_while (b_cmp .lt (e_loc 6) (e_geti 3 1 (e_locr 0))) (s_seq (s_setl 4 (e_if (b_zero .ne (e_callV Value.int 3 t_Mo_flows n_Mo_flows (a_i (a_i (a_r a_nil (e_locr 0)) (e_loc 6)) (e_loc 1)))) (e_bin (fun x y : Int64 => x + y) (e_locl 4) (e_un Int32.toInt64 (e_ald 1 (e_getr 3 6 (e_locr 0)) (e_bin (fun x y : Int32 => x + y) (e_bin (fun x y : Int32 => x * y) (e_int 12) (e_loc 6)) (e_int 4))))) (e_locl 4))) (s_inc 6 1)))) (s_seq (s_setl 6 (e_if (b_lcmp .gt (e_locl 4) (e_long 0)) (e_locl 2) (e_long 0))) (s_seq (s_seq (s_seti 8 (e_bin (fun x y : Int32 => x + y) (e_loc 1) (e_int 1))) (s_while (b_and (b_cmp .lt (e_loc 8) (e_geti 3 1 (e_locr 0))) (b_lcmp .gt (e_locl 4) (e_long 0))) (s_seq (s_if (b_zero .ne (e_callV Value.int 3 t_Mo_flows n_Mo_flows (a_i (a_i (a_r a_nil (e_locr 0)) (e_loc 8)) (e_loc 1)))) (s_seq (s_setl 9 (e_ldiv (e_bin (fun x y : Int64 => x * y) (e_locl 2) (e_un Int32.toInt64 (e_ald 1 (e_getr 3 6 (e_locr 0)) (e_bin (fun x y : Int32 => x + y) (e_bin (fun x y : Int32 => x * y) (e_int 12) (e_loc 8)) (e_int 4))))) (e_locl 4))) (s_seq (s_iast (e_getr 3 13 (e_locr 0)) (e_loc 8) (e_un Int64.toInt32 (e_bin (fun x y : Int64 => x + y) (e_un Int32.toInt64 (e_ald 1 (e_getr 3 13 (e_locr 0)) (e_loc 8))) (e_locl 9)))) (s_setl 6 (e_bin (fun x y : Int64 => x - y) (e_locl 6) (e_locl 9)))))) (s_inc 8 1)))) (s_seq (s_seti 8 (e_bin (fun x y : Int32 => x + y) (e_loc 1) (e_int 1))) (s_while (b_and (b_cmp .lt (e_loc 8) (e_geti 3 1 (e_locr 0))) (b_lcmp .gt (e_locl 6) (e_long 0))) (s_seq (s_if (b_and (b_zero .ne (e_callV Value.int 3 t_Mo_flows n_Mo_flows (a_i (a_i (a_r a_nil (e_locr 0)) (e_loc 8)) (e_loc 1)))) (b_zero .gt (e_ald 1 (e_getr 3 6 (e_locr 0)) (e_bin (fun x y : Int32 => x + y) (e_bin (fun x y : Int32 => x * y) (e_int 12) (e_loc 8)) (e_int 4))))) (s_seq (s_iupd (fun x y : Int32 => x + y) (e_getr 3 13 (e_locr 0)) (e_loc 8) (e_int 1)) (s_setl 6 (e_bin (fun x y : Int64 => x - y) (e_locl 6) (e_long 1))))) (s_inc 8 1)))))))) (s_retv P)
theorem z_Mo_grow (l : Launch) : pl_Ctr l y_Mo_grow b_Mo_grow n_Mo_grow (Option.none : Option Jvm.ClassFile.FieldType) 1 22 0 0 false t_Mo_grow := pl_ctr_of (pe := 0) (by decide) (fun X Y P F Fm => by
  have F : pl_Fx X Y "PageLayouterModel" b_Mo_grow := F
  have r_Mo_flows : 0 + 1 ≤ (pl_xR X).frames ∧ 8 + (n_Mo_flows + 11) + 0 ≤ (pl_xR X).locals := ⟨Nat.le_trans (by decide) Fm.2.2.2.2.2.1, Nat.le_trans (by decide) Fm.2.2.2.2.2.2.1⟩
  have hm : ∀ i, i < 11 → i < (pl_xc X).maxLocals := fun i h => by rw [Fm.2.2.2.1]; exact h
  have k0 : decode b_Mo_grow 0 = .ok (.lconst 0, 1) := pl_dc dd_Mo_grow 0 (q := (0, .lconst 0, 1)) rfl
  have k1 : decode b_Mo_grow 1 = .ok (.lstore 4, 2) := pl_dc dd_Mo_grow 1 (q := (1, .lstore 4, 2)) rfl
  have k3 : decode b_Mo_grow 3 = .ok (.iload_n 1, 1) := pl_dc dd_Mo_grow 2 (q := (3, .iload_n 1, 1)) rfl
  have k4 : decode b_Mo_grow 4 = .ok (.iconst 1, 1) := pl_dc dd_Mo_grow 3 (q := (4, .iconst 1, 1)) rfl
  have k5 : decode b_Mo_grow 5 = .ok (.iadd, 1) := pl_dc dd_Mo_grow 4 (q := (5, .iadd, 1)) rfl
  have k6 : decode b_Mo_grow 6 = .ok (.istore 6, 2) := pl_dc dd_Mo_grow 5 (q := (6, .istore 6, 2)) rfl
  have k8 : decode b_Mo_grow 8 = .ok (.iload 6, 2) := pl_dc dd_Mo_grow 6 (q := (8, .iload 6, 2)) rfl
  have k10 : decode b_Mo_grow 10 = .ok (.aload_n 0, 1) := pl_dc dd_Mo_grow 7 (q := (10, .aload_n 0, 1)) rfl
  have k11 : decode b_Mo_grow 11 = .ok (.getfield 7, 3) := pl_dc dd_Mo_grow 8 (q := (11, .getfield 7, 3)) rfl
  have k14 : decode b_Mo_grow 14 = .ok (.if_icmp .ge 42, 3) := pl_dc dd_Mo_grow 9 (q := (14, .if_icmp .ge 42, 3)) rfl
  have k17 : decode b_Mo_grow 17 = .ok (.aload_n 0, 1) := pl_dc dd_Mo_grow 10 (q := (17, .aload_n 0, 1)) rfl
  have k18 : decode b_Mo_grow 18 = .ok (.iload 6, 2) := pl_dc dd_Mo_grow 11 (q := (18, .iload 6, 2)) rfl
  have k20 : decode b_Mo_grow 20 = .ok (.iload_n 1, 1) := pl_dc dd_Mo_grow 12 (q := (20, .iload_n 1, 1)) rfl
  have k21 : decode b_Mo_grow 21 = .ok (.invokevirtual 105, 3) := pl_dc dd_Mo_grow 13 (q := (21, .invokevirtual 105, 3)) rfl
  have k24 : decode b_Mo_grow 24 = .ok (.ifCond .eq 22, 3) := pl_dc dd_Mo_grow 14 (q := (24, .ifCond .eq 22, 3)) rfl
  have k27 : decode b_Mo_grow 27 = .ok (.lload 4, 2) := pl_dc dd_Mo_grow 15 (q := (27, .lload 4, 2)) rfl
  have k29 : decode b_Mo_grow 29 = .ok (.aload_n 0, 1) := pl_dc dd_Mo_grow 16 (q := (29, .aload_n 0, 1)) rfl
  have k30 : decode b_Mo_grow 30 = .ok (.getfield 23, 3) := pl_dc dd_Mo_grow 17 (q := (30, .getfield 23, 3)) rfl
  have k33 : decode b_Mo_grow 33 = .ok (.bipush 12, 2) := pl_dc dd_Mo_grow 18 (q := (33, .bipush 12, 2)) rfl
  have k35 : decode b_Mo_grow 35 = .ok (.iload 6, 2) := pl_dc dd_Mo_grow 19 (q := (35, .iload 6, 2)) rfl
  have k37 : decode b_Mo_grow 37 = .ok (.imul, 1) := pl_dc dd_Mo_grow 20 (q := (37, .imul, 1)) rfl
  have k38 : decode b_Mo_grow 38 = .ok (.iconst 4, 1) := pl_dc dd_Mo_grow 21 (q := (38, .iconst 4, 1)) rfl
  have k39 : decode b_Mo_grow 39 = .ok (.iadd, 1) := pl_dc dd_Mo_grow 22 (q := (39, .iadd, 1)) rfl
  have k40 : decode b_Mo_grow 40 = .ok (.iaload, 1) := pl_dc dd_Mo_grow 23 (q := (40, .iaload, 1)) rfl
  have k41 : decode b_Mo_grow 41 = .ok (.i2l, 1) := pl_dc dd_Mo_grow 24 (q := (41, .i2l, 1)) rfl
  have k42 : decode b_Mo_grow 42 = .ok (.ladd, 1) := pl_dc dd_Mo_grow 25 (q := (42, .ladd, 1)) rfl
  have k43 : decode b_Mo_grow 43 = .ok (.goto 5, 3) := pl_dc dd_Mo_grow 26 (q := (43, .goto 5, 3)) rfl
  have k46 : decode b_Mo_grow 46 = .ok (.lload 4, 2) := pl_dc dd_Mo_grow 27 (q := (46, .lload 4, 2)) rfl
  have k48 : decode b_Mo_grow 48 = .ok (.lstore 4, 2) := pl_dc dd_Mo_grow 28 (q := (48, .lstore 4, 2)) rfl
  have k50 : decode b_Mo_grow 50 = .ok (.iinc 6 1, 3) := pl_dc dd_Mo_grow 29 (q := (50, .iinc 6 1, 3)) rfl
  have k53 : decode b_Mo_grow 53 = .ok (.goto (-45), 3) := pl_dc dd_Mo_grow 30 (q := (53, .goto (-45), 3)) rfl
  have k56 : decode b_Mo_grow 56 = .ok (.lload 4, 2) := pl_dc dd_Mo_grow 31 (q := (56, .lload 4, 2)) rfl
  have k58 : decode b_Mo_grow 58 = .ok (.lconst 0, 1) := pl_dc dd_Mo_grow 32 (q := (58, .lconst 0, 1)) rfl
  have k59 : decode b_Mo_grow 59 = .ok (.lcmp, 1) := pl_dc dd_Mo_grow 33 (q := (59, .lcmp, 1)) rfl
  have k60 : decode b_Mo_grow 60 = .ok (.ifCond .le 7, 3) := pl_dc dd_Mo_grow 34 (q := (60, .ifCond .le 7, 3)) rfl
  have k63 : decode b_Mo_grow 63 = .ok (.lload_n 2, 1) := pl_dc dd_Mo_grow 35 (q := (63, .lload_n 2, 1)) rfl
  have k64 : decode b_Mo_grow 64 = .ok (.goto 4, 3) := pl_dc dd_Mo_grow 36 (q := (64, .goto 4, 3)) rfl
  have k67 : decode b_Mo_grow 67 = .ok (.lconst 0, 1) := pl_dc dd_Mo_grow 37 (q := (67, .lconst 0, 1)) rfl
  have k68 : decode b_Mo_grow 68 = .ok (.lstore 6, 2) := pl_dc dd_Mo_grow 38 (q := (68, .lstore 6, 2)) rfl
  have k70 : decode b_Mo_grow 70 = .ok (.iload_n 1, 1) := pl_dc dd_Mo_grow 39 (q := (70, .iload_n 1, 1)) rfl
  have k71 : decode b_Mo_grow 71 = .ok (.iconst 1, 1) := pl_dc dd_Mo_grow 40 (q := (71, .iconst 1, 1)) rfl
  have k72 : decode b_Mo_grow 72 = .ok (.iadd, 1) := pl_dc dd_Mo_grow 41 (q := (72, .iadd, 1)) rfl
  have k73 : decode b_Mo_grow 73 = .ok (.istore 8, 2) := pl_dc dd_Mo_grow 42 (q := (73, .istore 8, 2)) rfl
  have k75 : decode b_Mo_grow 75 = .ok (.iload 8, 2) := pl_dc dd_Mo_grow 43 (q := (75, .iload 8, 2)) rfl
  have k77 : decode b_Mo_grow 77 = .ok (.aload_n 0, 1) := pl_dc dd_Mo_grow 44 (q := (77, .aload_n 0, 1)) rfl
  have k78 : decode b_Mo_grow 78 = .ok (.getfield 7, 3) := pl_dc dd_Mo_grow 45 (q := (78, .getfield 7, 3)) rfl
  have k81 : decode b_Mo_grow 81 = .ok (.if_icmp .ge 72, 3) := pl_dc dd_Mo_grow 46 (q := (81, .if_icmp .ge 72, 3)) rfl
  have k84 : decode b_Mo_grow 84 = .ok (.lload 4, 2) := pl_dc dd_Mo_grow 47 (q := (84, .lload 4, 2)) rfl
  have k86 : decode b_Mo_grow 86 = .ok (.lconst 0, 1) := pl_dc dd_Mo_grow 48 (q := (86, .lconst 0, 1)) rfl
  have k87 : decode b_Mo_grow 87 = .ok (.lcmp, 1) := pl_dc dd_Mo_grow 49 (q := (87, .lcmp, 1)) rfl
  have k88 : decode b_Mo_grow 88 = .ok (.ifCond .le 65, 3) := pl_dc dd_Mo_grow 50 (q := (88, .ifCond .le 65, 3)) rfl
  have k91 : decode b_Mo_grow 91 = .ok (.aload_n 0, 1) := pl_dc dd_Mo_grow 51 (q := (91, .aload_n 0, 1)) rfl
  have k92 : decode b_Mo_grow 92 = .ok (.iload 8, 2) := pl_dc dd_Mo_grow 52 (q := (92, .iload 8, 2)) rfl
  have k94 : decode b_Mo_grow 94 = .ok (.iload_n 1, 1) := pl_dc dd_Mo_grow 53 (q := (94, .iload_n 1, 1)) rfl
  have k95 : decode b_Mo_grow 95 = .ok (.invokevirtual 105, 3) := pl_dc dd_Mo_grow 54 (q := (95, .invokevirtual 105, 3)) rfl
  have k98 : decode b_Mo_grow 98 = .ok (.ifCond .eq 49, 3) := pl_dc dd_Mo_grow 55 (q := (98, .ifCond .eq 49, 3)) rfl
  have k101 : decode b_Mo_grow 101 = .ok (.lload_n 2, 1) := pl_dc dd_Mo_grow 56 (q := (101, .lload_n 2, 1)) rfl
  have k102 : decode b_Mo_grow 102 = .ok (.aload_n 0, 1) := pl_dc dd_Mo_grow 57 (q := (102, .aload_n 0, 1)) rfl
  have k103 : decode b_Mo_grow 103 = .ok (.getfield 23, 3) := pl_dc dd_Mo_grow 58 (q := (103, .getfield 23, 3)) rfl
  have k106 : decode b_Mo_grow 106 = .ok (.bipush 12, 2) := pl_dc dd_Mo_grow 59 (q := (106, .bipush 12, 2)) rfl
  have k108 : decode b_Mo_grow 108 = .ok (.iload 8, 2) := pl_dc dd_Mo_grow 60 (q := (108, .iload 8, 2)) rfl
  have k110 : decode b_Mo_grow 110 = .ok (.imul, 1) := pl_dc dd_Mo_grow 61 (q := (110, .imul, 1)) rfl
  have k111 : decode b_Mo_grow 111 = .ok (.iconst 4, 1) := pl_dc dd_Mo_grow 62 (q := (111, .iconst 4, 1)) rfl
  have k112 : decode b_Mo_grow 112 = .ok (.iadd, 1) := pl_dc dd_Mo_grow 63 (q := (112, .iadd, 1)) rfl
  have k113 : decode b_Mo_grow 113 = .ok (.iaload, 1) := pl_dc dd_Mo_grow 64 (q := (113, .iaload, 1)) rfl
  have k114 : decode b_Mo_grow 114 = .ok (.i2l, 1) := pl_dc dd_Mo_grow 65 (q := (114, .i2l, 1)) rfl
  have k115 : decode b_Mo_grow 115 = .ok (.lmul, 1) := pl_dc dd_Mo_grow 66 (q := (115, .lmul, 1)) rfl
  have k116 : decode b_Mo_grow 116 = .ok (.lload 4, 2) := pl_dc dd_Mo_grow 67 (q := (116, .lload 4, 2)) rfl
  have k118 : decode b_Mo_grow 118 = .ok (.ldiv, 1) := pl_dc dd_Mo_grow 68 (q := (118, .ldiv, 1)) rfl
  have k119 : decode b_Mo_grow 119 = .ok (.lstore 9, 2) := pl_dc dd_Mo_grow 69 (q := (119, .lstore 9, 2)) rfl
  have k121 : decode b_Mo_grow 121 = .ok (.aload_n 0, 1) := pl_dc dd_Mo_grow 70 (q := (121, .aload_n 0, 1)) rfl
  have k122 : decode b_Mo_grow 122 = .ok (.getfield 45, 3) := pl_dc dd_Mo_grow 71 (q := (122, .getfield 45, 3)) rfl
  have k125 : decode b_Mo_grow 125 = .ok (.iload 8, 2) := pl_dc dd_Mo_grow 72 (q := (125, .iload 8, 2)) rfl
  have k127 : decode b_Mo_grow 127 = .ok (.aload_n 0, 1) := pl_dc dd_Mo_grow 73 (q := (127, .aload_n 0, 1)) rfl
  have k128 : decode b_Mo_grow 128 = .ok (.getfield 45, 3) := pl_dc dd_Mo_grow 74 (q := (128, .getfield 45, 3)) rfl
  have k131 : decode b_Mo_grow 131 = .ok (.iload 8, 2) := pl_dc dd_Mo_grow 75 (q := (131, .iload 8, 2)) rfl
  have k133 : decode b_Mo_grow 133 = .ok (.iaload, 1) := pl_dc dd_Mo_grow 76 (q := (133, .iaload, 1)) rfl
  have k134 : decode b_Mo_grow 134 = .ok (.i2l, 1) := pl_dc dd_Mo_grow 77 (q := (134, .i2l, 1)) rfl
  have k135 : decode b_Mo_grow 135 = .ok (.lload 9, 2) := pl_dc dd_Mo_grow 78 (q := (135, .lload 9, 2)) rfl
  have k137 : decode b_Mo_grow 137 = .ok (.ladd, 1) := pl_dc dd_Mo_grow 79 (q := (137, .ladd, 1)) rfl
  have k138 : decode b_Mo_grow 138 = .ok (.l2i, 1) := pl_dc dd_Mo_grow 80 (q := (138, .l2i, 1)) rfl
  have k139 : decode b_Mo_grow 139 = .ok (.iastore, 1) := pl_dc dd_Mo_grow 81 (q := (139, .iastore, 1)) rfl
  have k140 : decode b_Mo_grow 140 = .ok (.lload 6, 2) := pl_dc dd_Mo_grow 82 (q := (140, .lload 6, 2)) rfl
  have k142 : decode b_Mo_grow 142 = .ok (.lload 9, 2) := pl_dc dd_Mo_grow 83 (q := (142, .lload 9, 2)) rfl
  have k144 : decode b_Mo_grow 144 = .ok (.lsub, 1) := pl_dc dd_Mo_grow 84 (q := (144, .lsub, 1)) rfl
  have k145 : decode b_Mo_grow 145 = .ok (.lstore 6, 2) := pl_dc dd_Mo_grow 85 (q := (145, .lstore 6, 2)) rfl
  have k147 : decode b_Mo_grow 147 = .ok (.iinc 8 1, 3) := pl_dc dd_Mo_grow 86 (q := (147, .iinc 8 1, 3)) rfl
  have k150 : decode b_Mo_grow 150 = .ok (.goto (-75), 3) := pl_dc dd_Mo_grow 87 (q := (150, .goto (-75), 3)) rfl
  have k153 : decode b_Mo_grow 153 = .ok (.iload_n 1, 1) := pl_dc dd_Mo_grow 88 (q := (153, .iload_n 1, 1)) rfl
  have k154 : decode b_Mo_grow 154 = .ok (.iconst 1, 1) := pl_dc dd_Mo_grow 89 (q := (154, .iconst 1, 1)) rfl
  have k155 : decode b_Mo_grow 155 = .ok (.iadd, 1) := pl_dc dd_Mo_grow 90 (q := (155, .iadd, 1)) rfl
  have k156 : decode b_Mo_grow 156 = .ok (.istore 8, 2) := pl_dc dd_Mo_grow 91 (q := (156, .istore 8, 2)) rfl
  have k158 : decode b_Mo_grow 158 = .ok (.iload 8, 2) := pl_dc dd_Mo_grow 92 (q := (158, .iload 8, 2)) rfl
  have k160 : decode b_Mo_grow 160 = .ok (.aload_n 0, 1) := pl_dc dd_Mo_grow 93 (q := (160, .aload_n 0, 1)) rfl
  have k161 : decode b_Mo_grow 161 = .ok (.getfield 7, 3) := pl_dc dd_Mo_grow 94 (q := (161, .getfield 7, 3)) rfl
  have k164 : decode b_Mo_grow 164 = .ok (.if_icmp .ge 58, 3) := pl_dc dd_Mo_grow 95 (q := (164, .if_icmp .ge 58, 3)) rfl
  have k167 : decode b_Mo_grow 167 = .ok (.lload 6, 2) := pl_dc dd_Mo_grow 96 (q := (167, .lload 6, 2)) rfl
  have k169 : decode b_Mo_grow 169 = .ok (.lconst 0, 1) := pl_dc dd_Mo_grow 97 (q := (169, .lconst 0, 1)) rfl
  have k170 : decode b_Mo_grow 170 = .ok (.lcmp, 1) := pl_dc dd_Mo_grow 98 (q := (170, .lcmp, 1)) rfl
  have k171 : decode b_Mo_grow 171 = .ok (.ifCond .le 51, 3) := pl_dc dd_Mo_grow 99 (q := (171, .ifCond .le 51, 3)) rfl
  have k174 : decode b_Mo_grow 174 = .ok (.aload_n 0, 1) := pl_dc dd_Mo_grow 100 (q := (174, .aload_n 0, 1)) rfl
  have k175 : decode b_Mo_grow 175 = .ok (.iload 8, 2) := pl_dc dd_Mo_grow 101 (q := (175, .iload 8, 2)) rfl
  have k177 : decode b_Mo_grow 177 = .ok (.iload_n 1, 1) := pl_dc dd_Mo_grow 102 (q := (177, .iload_n 1, 1)) rfl
  have k178 : decode b_Mo_grow 178 = .ok (.invokevirtual 105, 3) := pl_dc dd_Mo_grow 103 (q := (178, .invokevirtual 105, 3)) rfl
  have k181 : decode b_Mo_grow 181 = .ok (.ifCond .eq 35, 3) := pl_dc dd_Mo_grow 104 (q := (181, .ifCond .eq 35, 3)) rfl
  have k184 : decode b_Mo_grow 184 = .ok (.aload_n 0, 1) := pl_dc dd_Mo_grow 105 (q := (184, .aload_n 0, 1)) rfl
  have k185 : decode b_Mo_grow 185 = .ok (.getfield 23, 3) := pl_dc dd_Mo_grow 106 (q := (185, .getfield 23, 3)) rfl
  have k188 : decode b_Mo_grow 188 = .ok (.bipush 12, 2) := pl_dc dd_Mo_grow 107 (q := (188, .bipush 12, 2)) rfl
  have k190 : decode b_Mo_grow 190 = .ok (.iload 8, 2) := pl_dc dd_Mo_grow 108 (q := (190, .iload 8, 2)) rfl
  have k192 : decode b_Mo_grow 192 = .ok (.imul, 1) := pl_dc dd_Mo_grow 109 (q := (192, .imul, 1)) rfl
  have k193 : decode b_Mo_grow 193 = .ok (.iconst 4, 1) := pl_dc dd_Mo_grow 110 (q := (193, .iconst 4, 1)) rfl
  have k194 : decode b_Mo_grow 194 = .ok (.iadd, 1) := pl_dc dd_Mo_grow 111 (q := (194, .iadd, 1)) rfl
  have k195 : decode b_Mo_grow 195 = .ok (.iaload, 1) := pl_dc dd_Mo_grow 112 (q := (195, .iaload, 1)) rfl
  have k196 : decode b_Mo_grow 196 = .ok (.ifCond .le 20, 3) := pl_dc dd_Mo_grow 113 (q := (196, .ifCond .le 20, 3)) rfl
  have k199 : decode b_Mo_grow 199 = .ok (.aload_n 0, 1) := pl_dc dd_Mo_grow 114 (q := (199, .aload_n 0, 1)) rfl
  have k200 : decode b_Mo_grow 200 = .ok (.getfield 45, 3) := pl_dc dd_Mo_grow 115 (q := (200, .getfield 45, 3)) rfl
  have k203 : decode b_Mo_grow 203 = .ok (.iload 8, 2) := pl_dc dd_Mo_grow 116 (q := (203, .iload 8, 2)) rfl
  have k205 : decode b_Mo_grow 205 = .ok (.dup2, 1) := pl_dc dd_Mo_grow 117 (q := (205, .dup2, 1)) rfl
  have k206 : decode b_Mo_grow 206 = .ok (.iaload, 1) := pl_dc dd_Mo_grow 118 (q := (206, .iaload, 1)) rfl
  have k207 : decode b_Mo_grow 207 = .ok (.iconst 1, 1) := pl_dc dd_Mo_grow 119 (q := (207, .iconst 1, 1)) rfl
  have k208 : decode b_Mo_grow 208 = .ok (.iadd, 1) := pl_dc dd_Mo_grow 120 (q := (208, .iadd, 1)) rfl
  have k209 : decode b_Mo_grow 209 = .ok (.iastore, 1) := pl_dc dd_Mo_grow 121 (q := (209, .iastore, 1)) rfl
  have k210 : decode b_Mo_grow 210 = .ok (.lload 6, 2) := pl_dc dd_Mo_grow 122 (q := (210, .lload 6, 2)) rfl
  have k212 : decode b_Mo_grow 212 = .ok (.lconst 1, 1) := pl_dc dd_Mo_grow 123 (q := (212, .lconst 1, 1)) rfl
  have k213 : decode b_Mo_grow 213 = .ok (.lsub, 1) := pl_dc dd_Mo_grow 124 (q := (213, .lsub, 1)) rfl
  have k214 : decode b_Mo_grow 214 = .ok (.lstore 6, 2) := pl_dc dd_Mo_grow 125 (q := (214, .lstore 6, 2)) rfl
  have k216 : decode b_Mo_grow 216 = .ok (.iinc 8 1, 3) := pl_dc dd_Mo_grow 126 (q := (216, .iinc 8 1, 3)) rfl
  have k219 : decode b_Mo_grow 219 = .ok (.goto (-61), 3) := pl_dc dd_Mo_grow 127 (q := (219, .goto (-61), 3)) rfl
  have k222 : decode b_Mo_grow 222 = .ok (.return_, 1) := pl_dc dd_Mo_grow 128 (q := (222, .return_, 1)) rfl
  exact (d_seq (p1 := 222) (d_seq (p1 := 3) (d_lstore (p1 := 1) F (c_lconst F k0 (by decide)) k1 (hm 5 (by decide))) (d_seq (p1 := 56) (d_seq (p1 := 8) (d_istore (p1 := 6) F (c_bin 1 (p1 := 4) (p2 := 5) (c_iload_n F k3 rfl) (c_iconst F k4 (by decide)) pl_c1 (j_iadd F k5)) k6 (hm 6 (by decide))) (d_while (p1 := 17) (p2 := 53) F (b_cmp_t (p1 := 10) (p2 := 14) (pj := 56) F (c_iload F k8) (c_geti (p1 := 11) F 3 1 hg_3_1 (c_aload_n F k10 rfl) k11 lf_PageLayouterModel_7) k14 (by decide)) (d_seq (p1 := 50) (d_lstore (p1 := 48) F (c_if (p1 := 27) (p2 := 43) (p3 := 48) F (b_zero_t (p1 := 24) (pj := 46) F (c_callV (p1 := 21) F (a_i_ok (p1 := 20) (a_i_ok (p1 := 18) (a_r_ok (p1 := 17) a_nil_ok (c_aload_n F k17 rfl)) (c_iload F k18)) (c_iload_n F k20 rfl)) (z_Mo_flows _) y_Mo_flows_ok lm_PageLayouterModel_105 k21 r_Mo_flows (by decide) (by decide)) k24 (by decide)) (c_bin 2 (p1 := 29) (p2 := 42) (c_lload F k27) (c_un (p1 := 41) (c_iald (p1 := 33) (p2 := 40) F (c_getr (p1 := 30) F 3 6 hg_3_6 (c_aload_n F k29 rfl) k30 lf_PageLayouterModel_23) (c_bin 1 (p1 := 38) (p2 := 39) (c_bin 1 (p1 := 35) (p2 := 37) (c_bipush F k33 (by decide)) (c_iload F k35) pl_c1 (j_imul F k37)) (c_iconst F k38 (by decide)) pl_c1 (j_iadd F k39)) k40) (j_i2l F k41)) pl_c2 (j_ladd F k42)) k43 (by decide) (c_lload F k46)) k48 (hm 5 (by decide))) (d_iinc F k50 (by decide) (hm 6 (by decide)))) k53 (by decide))) (d_seq (p1 := 70) (d_lstore (p1 := 68) F (c_if (p1 := 63) (p2 := 64) (p3 := 68) F (b_lcmp_t (p1 := 58) (p2 := 59) (pj := 67) F (c_lload F k56) (c_lconst F k58 (by decide)) k59 k60 (by decide)) (c_lload_n F k63 rfl) k64 (by decide) (c_lconst F k67 (by decide))) k68 (hm 7 (by decide))) (d_seq (p1 := 153) (d_seq (p1 := 75) (d_istore (p1 := 73) F (c_bin 1 (p1 := 71) (p2 := 72) (c_iload_n F k70 rfl) (c_iconst F k71 (by decide)) pl_c1 (j_iadd F k72)) k73 (hm 8 (by decide))) (d_while (p1 := 91) (p2 := 150) F (b_and_t (p1 := 84) (b_cmp_t (p1 := 77) (p2 := 81) (pj := 153) F (c_iload F k75) (c_geti (p1 := 78) F 3 1 hg_3_1 (c_aload_n F k77 rfl) k78 lf_PageLayouterModel_7) k81 (by decide)) (b_lcmp_t (p1 := 86) (p2 := 87) (pj := 153) F (c_lload F k84) (c_lconst F k86 (by decide)) k87 k88 (by decide))) (d_seq (p1 := 147) (d_if (p1 := 101) (p2 := 147) (b_zero_t (p1 := 98) (pj := 147) F (c_callV (p1 := 95) F (a_i_ok (p1 := 94) (a_i_ok (p1 := 92) (a_r_ok (p1 := 91) a_nil_ok (c_aload_n F k91 rfl)) (c_iload F k92)) (c_iload_n F k94 rfl)) (z_Mo_flows _) y_Mo_flows_ok lm_PageLayouterModel_105 k95 r_Mo_flows (by decide) (by decide)) k98 (by decide)) (d_seq (p1 := 121) (d_lstore (p1 := 119) F (c_ldiv (p1 := 116) (p2 := 118) F (c_bin 2 (p1 := 102) (p2 := 115) (c_lload_n F k101 rfl) (c_un (p1 := 114) (c_iald (p1 := 106) (p2 := 113) F (c_getr (p1 := 103) F 3 6 hg_3_6 (c_aload_n F k102 rfl) k103 lf_PageLayouterModel_23) (c_bin 1 (p1 := 111) (p2 := 112) (c_bin 1 (p1 := 108) (p2 := 110) (c_bipush F k106 (by decide)) (c_iload F k108) pl_c1 (j_imul F k110)) (c_iconst F k111 (by decide)) pl_c1 (j_iadd F k112)) k113) (j_i2l F k114)) pl_c2 (j_lmul F k115)) (c_lload F k116) k118) k119 (hm 10 (by decide))) (d_seq (p1 := 140) (d_iast (p1 := 125) (p2 := 127) (p3 := 139) F (c_getr (p1 := 122) F 3 13 hg_3_13 (c_aload_n F k121 rfl) k122 lf_PageLayouterModel_45) (c_iload F k125) (c_un (p1 := 138) (c_bin 2 (p1 := 135) (p2 := 137) (c_un (p1 := 134) (c_iald (p1 := 131) (p2 := 133) F (c_getr (p1 := 128) F 3 13 hg_3_13 (c_aload_n F k127 rfl) k128 lf_PageLayouterModel_45) (c_iload F k131) k133) (j_i2l F k134)) (c_lload F k135) pl_c2 (j_ladd F k137)) (j_l2i F k138)) k139) (d_lstore (p1 := 145) F (c_bin 2 (p1 := 142) (p2 := 144) (c_lload F k140) (c_lload F k142) pl_c2 (j_lsub F k144)) k145 (hm 7 (by decide)))))) (d_iinc F k147 (by decide) (hm 8 (by decide)))) k150 (by decide))) (d_seq (p1 := 158) (d_istore (p1 := 156) F (c_bin 1 (p1 := 154) (p2 := 155) (c_iload_n F k153 rfl) (c_iconst F k154 (by decide)) pl_c1 (j_iadd F k155)) k156 (hm 8 (by decide))) (d_while (p1 := 174) (p2 := 219) F (b_and_t (p1 := 167) (b_cmp_t (p1 := 160) (p2 := 164) (pj := 222) F (c_iload F k158) (c_geti (p1 := 161) F 3 1 hg_3_1 (c_aload_n F k160 rfl) k161 lf_PageLayouterModel_7) k164 (by decide)) (b_lcmp_t (p1 := 169) (p2 := 170) (pj := 222) F (c_lload F k167) (c_lconst F k169 (by decide)) k170 k171 (by decide))) (d_seq (p1 := 216) (d_if (p1 := 199) (p2 := 216) (b_and_t (p1 := 184) (b_zero_t (p1 := 181) (pj := 216) F (c_callV (p1 := 178) F (a_i_ok (p1 := 177) (a_i_ok (p1 := 175) (a_r_ok (p1 := 174) a_nil_ok (c_aload_n F k174 rfl)) (c_iload F k175)) (c_iload_n F k177 rfl)) (z_Mo_flows _) y_Mo_flows_ok lm_PageLayouterModel_105 k178 r_Mo_flows (by decide) (by decide)) k181 (by decide)) (b_zero_t (p1 := 196) (pj := 216) F (c_iald (p1 := 188) (p2 := 195) F (c_getr (p1 := 185) F 3 6 hg_3_6 (c_aload_n F k184 rfl) k185 lf_PageLayouterModel_23) (c_bin 1 (p1 := 193) (p2 := 194) (c_bin 1 (p1 := 190) (p2 := 192) (c_bipush F k188 (by decide)) (c_iload F k190) pl_c1 (j_imul F k192)) (c_iconst F k193 (by decide)) pl_c1 (j_iadd F k194)) k195) k196 (by decide))) (d_seq (p1 := 210) (d_iupd (p1 := 203) (p2 := 205) (p3 := 208) F (c_getr (p1 := 200) F 3 13 hg_3_13 (c_aload_n F k199 rfl) k200 lf_PageLayouterModel_45) (c_iload F k203) k205 k206 (c_iconst F k207 (by decide)) (j_iadd F k208) k209) (d_lstore (p1 := 214) F (c_bin 2 (p1 := 212) (p2 := 213) (c_lload F k210) (c_lconst F k212 (by decide)) pl_c2 (j_lsub F k213)) k214 (hm 7 (by decide))))) (d_iinc F k216 (by decide) (hm 8 (by decide)))) k219 (by decide))))))) (d_retv F Fm.2.1 Fm.2.2.1 k222)))
def y_Mo_weight : MethodName := ⟨"PageLayouterModel", "weight", "(I)J"⟩
abbrev b_Mo_weight : ByteArray := prog_10_method_30_code
abbrev n_Mo_weight : Nat := 2
theorem y_Mo_weight_ok : pl_MV 3 y_Mo_weight b_Mo_weight n_Mo_weight (Option.some Jvm.ClassFile.FieldType.long) 1 := ⟨pl_mem 908 (by decide +kernel) (by decide +kernel), pl_mem 907 (by decide +kernel) (by decide +kernel), pl_mem 32 (by decide +kernel) (by decide +kernel), pl_mem 47 (by decide +kernel) (by decide +kernel), ⟨by decide, by decide, by decide +kernel⟩, _, rfl, rfl⟩
def D_Mo_weight : List (Nat × Instr × Nat) := [(0, .aload_n 0, 1), (1, .getfield 75, 3), (4, .iload_n 1, 1), (5, .baload, 1), (6, .ifCond .eq 26, 3), (9, .aload_n 0, 1), (10, .getfield 23, 3), (13, .bipush 12, 2), (15, .iload_n 1, 1), (16, .imul, 1), (17, .iconst 5, 1), (18, .iadd, 1), (19, .iaload, 1), (20, .i2l, 1), (21, .aload_n 0, 1), (22, .getfield 45, 3), (25, .iload_n 1, 1), (26, .iaload, 1), (27, .i2l, 1), (28, .lmul, 1), (29, .goto 4, 3), (32, .lconst 0, 1), (33, .lreturn, 1)]
theorem dd_Mo_weight : (D_Mo_weight.all fun q => decide (decode b_Mo_weight q.1 = .ok q.2)) = true := by decide +kernel
def t_Mo_weight : pl_TR := fun P _ _ => s_retl P (e_if (b_zero .ne (e_ald 2 (e_getr 3 23 (e_locr 0)) (e_loc 1))) (e_bin (fun x y : Int64 => x * y) (e_un Int32.toInt64 (e_ald 1 (e_getr 3 6 (e_locr 0)) (e_bin (fun x y : Int32 => x + y) (e_bin (fun x y : Int32 => x * y) (e_int 12) (e_loc 1)) (e_int 5)))) (e_un Int32.toInt64 (e_ald 1 (e_getr 3 13 (e_locr 0)) (e_loc 1)))) (e_long 0))
theorem z_Mo_weight (l : Launch) : pl_Ctr l y_Mo_weight b_Mo_weight n_Mo_weight (Option.some Jvm.ClassFile.FieldType.long) 0 0 0 0 false t_Mo_weight := pl_ctr_of (pe := 0) (by decide) (fun X Y P F Fm => by
  have F : pl_Fx X Y "PageLayouterModel" b_Mo_weight := F
  have k0 : decode b_Mo_weight 0 = .ok (.aload_n 0, 1) := pl_dc dd_Mo_weight 0 (q := (0, .aload_n 0, 1)) rfl
  have k1 : decode b_Mo_weight 1 = .ok (.getfield 75, 3) := pl_dc dd_Mo_weight 1 (q := (1, .getfield 75, 3)) rfl
  have k4 : decode b_Mo_weight 4 = .ok (.iload_n 1, 1) := pl_dc dd_Mo_weight 2 (q := (4, .iload_n 1, 1)) rfl
  have k5 : decode b_Mo_weight 5 = .ok (.baload, 1) := pl_dc dd_Mo_weight 3 (q := (5, .baload, 1)) rfl
  have k6 : decode b_Mo_weight 6 = .ok (.ifCond .eq 26, 3) := pl_dc dd_Mo_weight 4 (q := (6, .ifCond .eq 26, 3)) rfl
  have k9 : decode b_Mo_weight 9 = .ok (.aload_n 0, 1) := pl_dc dd_Mo_weight 5 (q := (9, .aload_n 0, 1)) rfl
  have k10 : decode b_Mo_weight 10 = .ok (.getfield 23, 3) := pl_dc dd_Mo_weight 6 (q := (10, .getfield 23, 3)) rfl
  have k13 : decode b_Mo_weight 13 = .ok (.bipush 12, 2) := pl_dc dd_Mo_weight 7 (q := (13, .bipush 12, 2)) rfl
  have k15 : decode b_Mo_weight 15 = .ok (.iload_n 1, 1) := pl_dc dd_Mo_weight 8 (q := (15, .iload_n 1, 1)) rfl
  have k16 : decode b_Mo_weight 16 = .ok (.imul, 1) := pl_dc dd_Mo_weight 9 (q := (16, .imul, 1)) rfl
  have k17 : decode b_Mo_weight 17 = .ok (.iconst 5, 1) := pl_dc dd_Mo_weight 10 (q := (17, .iconst 5, 1)) rfl
  have k18 : decode b_Mo_weight 18 = .ok (.iadd, 1) := pl_dc dd_Mo_weight 11 (q := (18, .iadd, 1)) rfl
  have k19 : decode b_Mo_weight 19 = .ok (.iaload, 1) := pl_dc dd_Mo_weight 12 (q := (19, .iaload, 1)) rfl
  have k20 : decode b_Mo_weight 20 = .ok (.i2l, 1) := pl_dc dd_Mo_weight 13 (q := (20, .i2l, 1)) rfl
  have k21 : decode b_Mo_weight 21 = .ok (.aload_n 0, 1) := pl_dc dd_Mo_weight 14 (q := (21, .aload_n 0, 1)) rfl
  have k22 : decode b_Mo_weight 22 = .ok (.getfield 45, 3) := pl_dc dd_Mo_weight 15 (q := (22, .getfield 45, 3)) rfl
  have k25 : decode b_Mo_weight 25 = .ok (.iload_n 1, 1) := pl_dc dd_Mo_weight 16 (q := (25, .iload_n 1, 1)) rfl
  have k26 : decode b_Mo_weight 26 = .ok (.iaload, 1) := pl_dc dd_Mo_weight 17 (q := (26, .iaload, 1)) rfl
  have k27 : decode b_Mo_weight 27 = .ok (.i2l, 1) := pl_dc dd_Mo_weight 18 (q := (27, .i2l, 1)) rfl
  have k28 : decode b_Mo_weight 28 = .ok (.lmul, 1) := pl_dc dd_Mo_weight 19 (q := (28, .lmul, 1)) rfl
  have k29 : decode b_Mo_weight 29 = .ok (.goto 4, 3) := pl_dc dd_Mo_weight 20 (q := (29, .goto 4, 3)) rfl
  have k32 : decode b_Mo_weight 32 = .ok (.lconst 0, 1) := pl_dc dd_Mo_weight 21 (q := (32, .lconst 0, 1)) rfl
  have k33 : decode b_Mo_weight 33 = .ok (.lreturn, 1) := pl_dc dd_Mo_weight 22 (q := (33, .lreturn, 1)) rfl
  exact (d_retl (p1 := 33) F Fm.2.1 Fm.2.2.1 (c_if (p1 := 9) (p2 := 29) (p3 := 33) F (b_zero_t (p1 := 6) (pj := 32) F (c_zald (p1 := 4) (p2 := 5) F (c_getr (p1 := 1) F 3 23 hg_3_23 (c_aload_n F k0 rfl) k1 lf_PageLayouterModel_75) (c_iload_n F k4 rfl) k5) k6 (by decide)) (c_bin 2 (p1 := 21) (p2 := 28) (c_un (p1 := 20) (c_iald (p1 := 13) (p2 := 19) F (c_getr (p1 := 10) F 3 6 hg_3_6 (c_aload_n F k9 rfl) k10 lf_PageLayouterModel_23) (c_bin 1 (p1 := 17) (p2 := 18) (c_bin 1 (p1 := 15) (p2 := 16) (c_bipush F k13 (by decide)) (c_iload_n F k15 rfl) pl_c1 (j_imul F k16)) (c_iconst F k17 (by decide)) pl_c1 (j_iadd F k18)) k19) (j_i2l F k20)) (c_un (p1 := 27) (c_iald (p1 := 25) (p2 := 26) F (c_getr (p1 := 22) F 3 13 hg_3_13 (c_aload_n F k21 rfl) k22 lf_PageLayouterModel_45) (c_iload_n F k25 rfl) k26) (j_i2l F k27)) pl_c2 (j_lmul F k28)) k29 (by decide) (c_lconst F k32 (by decide))) k33))
