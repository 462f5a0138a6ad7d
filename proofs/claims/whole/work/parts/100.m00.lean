/-! Methods: a transformer for each, and that its bytes do it (laid by wip/whole/drive.py) -/
def y_Pl_boxes : MethodName := ⟨"PageLayouter", "boxes", "()I"⟩
abbrev b_Pl_boxes : ByteArray := prog_1_method_10_code
abbrev n_Pl_boxes : Nat := 1
theorem y_Pl_boxes_ok : pl_MV 0 y_Pl_boxes b_Pl_boxes n_Pl_boxes (Option.some Jvm.ClassFile.FieldType.int) 0 := ⟨pl_mem 217 (by decide +kernel) (by decide +kernel), pl_mem 215 (by decide +kernel) (by decide +kernel), pl_mem 216 (by decide +kernel) (by decide +kernel), pl_mem 44 (by decide +kernel) (by decide +kernel), ⟨by decide, by decide, by decide +kernel⟩, _, rfl, rfl⟩
def D_Pl_boxes : List (Nat × Instr × Nat) := [(0, .aload_n 0, 1), (1, .getfield 25, 3), (4, .ireturn, 1)]
theorem dd_Pl_boxes : (D_Pl_boxes.all fun q => decide (decode b_Pl_boxes q.1 = .ok q.2)) = true := by decide +kernel
def t_Pl_boxes : pl_TR := fun P _ _ => s_reti P (e_geti 0 2 (e_locr 0))
theorem z_Pl_boxes (l : Launch) : pl_Ctr l y_Pl_boxes b_Pl_boxes n_Pl_boxes (Option.some Jvm.ClassFile.FieldType.int) 0 0 0 0 false t_Pl_boxes := pl_ctr_of (pe := 0) (by decide) (fun X Y P F Fm => by
  have F : pl_Fx X Y "PageLayouter" b_Pl_boxes := F
  have k0 : decode b_Pl_boxes 0 = .ok (.aload_n 0, 1) := pl_dc dd_Pl_boxes 0 (q := (0, .aload_n 0, 1)) rfl
  have k1 : decode b_Pl_boxes 1 = .ok (.getfield 25, 3) := pl_dc dd_Pl_boxes 1 (q := (1, .getfield 25, 3)) rfl
  have k4 : decode b_Pl_boxes 4 = .ok (.ireturn, 1) := pl_dc dd_Pl_boxes 2 (q := (4, .ireturn, 1)) rfl
  exact (d_reti (p1 := 4) F Fm.2.1 Fm.2.2.1 (c_geti (p1 := 1) F 0 2 hg_0_2 (c_aload_n F k0 rfl) k1 lf_PageLayouter_25) k4))
def y_Pl_laidOut : MethodName := ⟨"PageLayouter", "laidOut", "()Z"⟩
abbrev b_Pl_laidOut : ByteArray := prog_1_method_11_code
abbrev n_Pl_laidOut : Nat := 1
theorem y_Pl_laidOut_ok : pl_MV 0 y_Pl_laidOut b_Pl_laidOut n_Pl_laidOut (Option.some Jvm.ClassFile.FieldType.boolean) 0 := ⟨pl_mem 221 (by decide +kernel) (by decide +kernel), pl_mem 219 (by decide +kernel) (by decide +kernel), pl_mem 220 (by decide +kernel) (by decide +kernel), pl_mem 44 (by decide +kernel) (by decide +kernel), ⟨by decide, by decide, by decide +kernel⟩, _, rfl, rfl⟩
def D_Pl_laidOut : List (Nat × Instr × Nat) := [(0, .aload_n 0, 1), (1, .getfield 29, 3), (4, .ireturn, 1)]
theorem dd_Pl_laidOut : (D_Pl_laidOut.all fun q => decide (decode b_Pl_laidOut q.1 = .ok q.2)) = true := by decide +kernel
def t_Pl_laidOut : pl_TR := fun P _ _ => s_retz P (e_geti 0 3 (e_locr 0))
theorem z_Pl_laidOut (l : Launch) : pl_Ctr l y_Pl_laidOut b_Pl_laidOut n_Pl_laidOut (Option.some Jvm.ClassFile.FieldType.boolean) 0 0 0 0 false t_Pl_laidOut := pl_ctr_of (pe := 0) (by decide) (fun X Y P F Fm => by
  have F : pl_Fx X Y "PageLayouter" b_Pl_laidOut := F
  have k0 : decode b_Pl_laidOut 0 = .ok (.aload_n 0, 1) := pl_dc dd_Pl_laidOut 0 (q := (0, .aload_n 0, 1)) rfl
  have k1 : decode b_Pl_laidOut 1 = .ok (.getfield 29, 3) := pl_dc dd_Pl_laidOut 1 (q := (1, .getfield 29, 3)) rfl
  have k4 : decode b_Pl_laidOut 4 = .ok (.ireturn, 1) := pl_dc dd_Pl_laidOut 2 (q := (4, .ireturn, 1)) rfl
  exact (d_retz (p1 := 4) F Fm.2.1 Fm.2.2.1 (c_geti (p1 := 1) F 0 3 hg_0_3 (c_aload_n F k0 rfl) k1 lf_PageLayouter_29) k4))
def y_Pl_exists : MethodName := ⟨"PageLayouter", "exists", "(I)Z"⟩
abbrev b_Pl_exists : ByteArray := prog_1_method_12_code
abbrev n_Pl_exists : Nat := 2
theorem y_Pl_exists_ok : pl_MV 0 y_Pl_exists b_Pl_exists n_Pl_exists (Option.some Jvm.ClassFile.FieldType.boolean) 1 := ⟨pl_mem 235 (by decide +kernel) (by decide +kernel), pl_mem 234 (by decide +kernel) (by decide +kernel), pl_mem 0 (by decide +kernel) (by decide +kernel), pl_mem 44 (by decide +kernel) (by decide +kernel), ⟨by decide, by decide, by decide +kernel⟩, _, rfl, rfl⟩
def D_Pl_exists : List (Nat × Instr × Nat) := [(0, .iload_n 1, 1), (1, .ifCond .lt 15, 3), (4, .iload_n 1, 1), (5, .aload_n 0, 1), (6, .getfield 25, 3), (9, .if_icmp .ge 7, 3), (12, .iconst 1, 1), (13, .goto 4, 3), (16, .iconst 0, 1), (17, .ireturn, 1)]
theorem dd_Pl_exists : (D_Pl_exists.all fun q => decide (decode b_Pl_exists q.1 = .ok q.2)) = true := by decide +kernel
def t_Pl_exists : pl_TR := fun P _ _ => s_retz P (e_if (b_and (b_zero .ge (e_loc 1)) (b_cmp .lt (e_loc 1) (e_geti 0 2 (e_locr 0)))) (e_int 1) (e_int 0))
theorem z_Pl_exists (l : Launch) : pl_Ctr l y_Pl_exists b_Pl_exists n_Pl_exists (Option.some Jvm.ClassFile.FieldType.boolean) 0 0 0 0 false t_Pl_exists := pl_ctr_of (pe := 0) (by decide) (fun X Y P F Fm => by
  have F : pl_Fx X Y "PageLayouter" b_Pl_exists := F
  have k0 : decode b_Pl_exists 0 = .ok (.iload_n 1, 1) := pl_dc dd_Pl_exists 0 (q := (0, .iload_n 1, 1)) rfl
  have k1 : decode b_Pl_exists 1 = .ok (.ifCond .lt 15, 3) := pl_dc dd_Pl_exists 1 (q := (1, .ifCond .lt 15, 3)) rfl
  have k4 : decode b_Pl_exists 4 = .ok (.iload_n 1, 1) := pl_dc dd_Pl_exists 2 (q := (4, .iload_n 1, 1)) rfl
  have k5 : decode b_Pl_exists 5 = .ok (.aload_n 0, 1) := pl_dc dd_Pl_exists 3 (q := (5, .aload_n 0, 1)) rfl
  have k6 : decode b_Pl_exists 6 = .ok (.getfield 25, 3) := pl_dc dd_Pl_exists 4 (q := (6, .getfield 25, 3)) rfl
  have k9 : decode b_Pl_exists 9 = .ok (.if_icmp .ge 7, 3) := pl_dc dd_Pl_exists 5 (q := (9, .if_icmp .ge 7, 3)) rfl
  have k12 : decode b_Pl_exists 12 = .ok (.iconst 1, 1) := pl_dc dd_Pl_exists 6 (q := (12, .iconst 1, 1)) rfl
  have k13 : decode b_Pl_exists 13 = .ok (.goto 4, 3) := pl_dc dd_Pl_exists 7 (q := (13, .goto 4, 3)) rfl
  have k16 : decode b_Pl_exists 16 = .ok (.iconst 0, 1) := pl_dc dd_Pl_exists 8 (q := (16, .iconst 0, 1)) rfl
  have k17 : decode b_Pl_exists 17 = .ok (.ireturn, 1) := pl_dc dd_Pl_exists 9 (q := (17, .ireturn, 1)) rfl
  exact (d_retz (p1 := 17) F Fm.2.1 Fm.2.2.1 (c_if (p1 := 12) (p2 := 13) (p3 := 17) F (b_and_t (p1 := 4) (b_zero_t (p1 := 1) (pj := 16) F (c_iload_n F k0 rfl) k1 (by decide)) (b_cmp_t (p1 := 5) (p2 := 9) (pj := 16) F (c_iload_n F k4 rfl) (c_geti (p1 := 6) F 0 2 hg_0_2 (c_aload_n F k5 rfl) k6 lf_PageLayouter_25) k9 (by decide))) (c_iconst F k12 (by decide)) k13 (by decide) (c_iconst F k16 (by decide))) k17))
def y_Pl_isPercent : MethodName := ⟨"PageLayouter", "isPercent", "(I)Z"⟩
abbrev b_Pl_isPercent : ByteArray := prog_1_method_14_code
abbrev n_Pl_isPercent : Nat := 1
theorem y_Pl_isPercent_ok : pl_MS y_Pl_isPercent b_Pl_isPercent n_Pl_isPercent (Option.some Jvm.ClassFile.FieldType.boolean) 1 := ⟨pl_mem 362 (by decide +kernel) (by decide +kernel), pl_mem 361 (by decide +kernel) (by decide +kernel), pl_mem 44 (by decide +kernel) (by decide +kernel), ⟨by decide, by decide, by decide +kernel⟩⟩
def D_Pl_isPercent : List (Nat × Instr × Nat) := [(0, .iload_n 0, 1), (1, .ldc 159, 2), (3, .if_icmp .lt 7, 3), (6, .iconst 1, 1), (7, .goto 4, 3), (10, .iconst 0, 1), (11, .ireturn, 1)]
theorem dd_Pl_isPercent : (D_Pl_isPercent.all fun q => decide (decode b_Pl_isPercent q.1 = .ok q.2)) = true := by decide +kernel
def t_Pl_isPercent : pl_TR := fun P _ _ => s_retz P (e_if (b_cmp .ge (e_loc 0) (e_int 100000)) (e_int 1) (e_int 0))
theorem z_Pl_isPercent (l : Launch) : pl_Ctr l y_Pl_isPercent b_Pl_isPercent n_Pl_isPercent (Option.some Jvm.ClassFile.FieldType.boolean) 0 0 0 0 false t_Pl_isPercent := pl_ctr_of (pe := 0) (by decide) (fun X Y P F Fm => by
  have F : pl_Fx X Y "PageLayouter" b_Pl_isPercent := F
  have k0 : decode b_Pl_isPercent 0 = .ok (.iload_n 0, 1) := pl_dc dd_Pl_isPercent 0 (q := (0, .iload_n 0, 1)) rfl
  have k1 : decode b_Pl_isPercent 1 = .ok (.ldc 159, 2) := pl_dc dd_Pl_isPercent 1 (q := (1, .ldc 159, 2)) rfl
  have k3 : decode b_Pl_isPercent 3 = .ok (.if_icmp .lt 7, 3) := pl_dc dd_Pl_isPercent 2 (q := (3, .if_icmp .lt 7, 3)) rfl
  have k6 : decode b_Pl_isPercent 6 = .ok (.iconst 1, 1) := pl_dc dd_Pl_isPercent 3 (q := (6, .iconst 1, 1)) rfl
  have k7 : decode b_Pl_isPercent 7 = .ok (.goto 4, 3) := pl_dc dd_Pl_isPercent 4 (q := (7, .goto 4, 3)) rfl
  have k10 : decode b_Pl_isPercent 10 = .ok (.iconst 0, 1) := pl_dc dd_Pl_isPercent 5 (q := (10, .iconst 0, 1)) rfl
  have k11 : decode b_Pl_isPercent 11 = .ok (.ireturn, 1) := pl_dc dd_Pl_isPercent 6 (q := (11, .ireturn, 1)) rfl
  exact (d_retz (p1 := 11) F Fm.2.1 Fm.2.2.1 (c_if (p1 := 6) (p2 := 7) (p3 := 11) F (b_cmp_t (p1 := 1) (p2 := 3) (pj := 10) F (c_iload_n F k0 rfl) (c_ldc F lc_PageLayouter_159 k1) k3 (by decide)) (c_iconst F k6 (by decide)) k7 (by decide) (c_iconst F k10 (by decide))) k11))
def y_Pl_isSize : MethodName := ⟨"PageLayouter", "isSize", "(I)Z"⟩
abbrev b_Pl_isSize : ByteArray := prog_1_method_15_code
abbrev n_Pl_isSize : Nat := 1
theorem y_Pl_isSize_ok : pl_MS y_Pl_isSize b_Pl_isSize n_Pl_isSize (Option.some Jvm.ClassFile.FieldType.boolean) 1 := ⟨pl_mem 414 (by decide +kernel) (by decide +kernel), pl_mem 413 (by decide +kernel) (by decide +kernel), pl_mem 44 (by decide +kernel) (by decide +kernel), ⟨by decide, by decide, by decide +kernel⟩⟩
def D_Pl_isSize : List (Nat × Instr × Nat) := [(0, .iload_n 0, 1), (1, .iconst (-1), 1), (2, .if_icmp .eq 13, 3), (5, .iload_n 0, 1), (6, .ldc 159, 2), (8, .if_icmp .ge 7, 3), (11, .iconst 1, 1), (12, .goto 4, 3), (15, .iconst 0, 1), (16, .ireturn, 1)]
theorem dd_Pl_isSize : (D_Pl_isSize.all fun q => decide (decode b_Pl_isSize q.1 = .ok q.2)) = true := by decide +kernel
def t_Pl_isSize : pl_TR := fun P _ _ => s_retz P (e_if (b_and (b_cmp .ne (e_loc 0) (e_int (-1))) (b_cmp .lt (e_loc 0) (e_int 100000))) (e_int 1) (e_int 0))
theorem z_Pl_isSize (l : Launch) : pl_Ctr l y_Pl_isSize b_Pl_isSize n_Pl_isSize (Option.some Jvm.ClassFile.FieldType.boolean) 0 0 0 0 false t_Pl_isSize := pl_ctr_of (pe := 0) (by decide) (fun X Y P F Fm => by
  have F : pl_Fx X Y "PageLayouter" b_Pl_isSize := F
  have k0 : decode b_Pl_isSize 0 = .ok (.iload_n 0, 1) := pl_dc dd_Pl_isSize 0 (q := (0, .iload_n 0, 1)) rfl
  have k1 : decode b_Pl_isSize 1 = .ok (.iconst (-1), 1) := pl_dc dd_Pl_isSize 1 (q := (1, .iconst (-1), 1)) rfl
  have k2 : decode b_Pl_isSize 2 = .ok (.if_icmp .eq 13, 3) := pl_dc dd_Pl_isSize 2 (q := (2, .if_icmp .eq 13, 3)) rfl
  have k5 : decode b_Pl_isSize 5 = .ok (.iload_n 0, 1) := pl_dc dd_Pl_isSize 3 (q := (5, .iload_n 0, 1)) rfl
  have k6 : decode b_Pl_isSize 6 = .ok (.ldc 159, 2) := pl_dc dd_Pl_isSize 4 (q := (6, .ldc 159, 2)) rfl
  have k8 : decode b_Pl_isSize 8 = .ok (.if_icmp .ge 7, 3) := pl_dc dd_Pl_isSize 5 (q := (8, .if_icmp .ge 7, 3)) rfl
  have k11 : decode b_Pl_isSize 11 = .ok (.iconst 1, 1) := pl_dc dd_Pl_isSize 6 (q := (11, .iconst 1, 1)) rfl
  have k12 : decode b_Pl_isSize 12 = .ok (.goto 4, 3) := pl_dc dd_Pl_isSize 7 (q := (12, .goto 4, 3)) rfl
  have k15 : decode b_Pl_isSize 15 = .ok (.iconst 0, 1) := pl_dc dd_Pl_isSize 8 (q := (15, .iconst 0, 1)) rfl
  have k16 : decode b_Pl_isSize 16 = .ok (.ireturn, 1) := pl_dc dd_Pl_isSize 9 (q := (16, .ireturn, 1)) rfl
  exact (d_retz (p1 := 16) F Fm.2.1 Fm.2.2.1 (c_if (p1 := 11) (p2 := 12) (p3 := 16) F (b_and_t (p1 := 5) (b_cmp_t (p1 := 1) (p2 := 2) (pj := 15) F (c_iload_n F k0 rfl) (c_iconst F k1 (by decide)) k2 (by decide)) (b_cmp_t (p1 := 6) (p2 := 8) (pj := 15) F (c_iload_n F k5 rfl) (c_ldc F lc_PageLayouter_159 k6) k8 (by decide))) (c_iconst F k11 (by decide)) k12 (by decide) (c_iconst F k15 (by decide))) k16))
def y_Pl_percentOf : MethodName := ⟨"PageLayouter", "percentOf", "(II)I"⟩
abbrev b_Pl_percentOf : ByteArray := prog_1_method_16_code
abbrev n_Pl_percentOf : Nat := 2
theorem y_Pl_percentOf_ok : pl_MS y_Pl_percentOf b_Pl_percentOf n_Pl_percentOf (Option.some Jvm.ClassFile.FieldType.int) 2 := ⟨pl_mem 489 (by decide +kernel) (by decide +kernel), pl_mem 488 (by decide +kernel) (by decide +kernel), pl_mem 44 (by decide +kernel) (by decide +kernel), ⟨by decide, by decide, by decide +kernel⟩⟩
def D_Pl_percentOf : List (Nat × Instr × Nat) := [(0, .iload_n 0, 1), (1, .iload_n 1, 1), (2, .ldc 159, 2), (4, .isub, 1), (5, .imul, 1), (6, .bipush 100, 2), (8, .idiv, 1), (9, .ireturn, 1)]
theorem dd_Pl_percentOf : (D_Pl_percentOf.all fun q => decide (decode b_Pl_percentOf q.1 = .ok q.2)) = true := by decide +kernel
def t_Pl_percentOf : pl_TR := fun P _ _ => s_reti P (e_div (e_bin (fun x y : Int32 => x * y) (e_loc 0) (e_bin (fun x y : Int32 => x - y) (e_loc 1) (e_int 100000))) (e_int 100))
theorem z_Pl_percentOf (l : Launch) : pl_Ctr l y_Pl_percentOf b_Pl_percentOf n_Pl_percentOf (Option.some Jvm.ClassFile.FieldType.int) 0 0 0 0 false t_Pl_percentOf := pl_ctr_of (pe := 0) (by decide) (fun X Y P F Fm => by
  have F : pl_Fx X Y "PageLayouter" b_Pl_percentOf := F
  have k0 : decode b_Pl_percentOf 0 = .ok (.iload_n 0, 1) := pl_dc dd_Pl_percentOf 0 (q := (0, .iload_n 0, 1)) rfl
  have k1 : decode b_Pl_percentOf 1 = .ok (.iload_n 1, 1) := pl_dc dd_Pl_percentOf 1 (q := (1, .iload_n 1, 1)) rfl
  have k2 : decode b_Pl_percentOf 2 = .ok (.ldc 159, 2) := pl_dc dd_Pl_percentOf 2 (q := (2, .ldc 159, 2)) rfl
  have k4 : decode b_Pl_percentOf 4 = .ok (.isub, 1) := pl_dc dd_Pl_percentOf 3 (q := (4, .isub, 1)) rfl
  have k5 : decode b_Pl_percentOf 5 = .ok (.imul, 1) := pl_dc dd_Pl_percentOf 4 (q := (5, .imul, 1)) rfl
  have k6 : decode b_Pl_percentOf 6 = .ok (.bipush 100, 2) := pl_dc dd_Pl_percentOf 5 (q := (6, .bipush 100, 2)) rfl
  have k8 : decode b_Pl_percentOf 8 = .ok (.idiv, 1) := pl_dc dd_Pl_percentOf 6 (q := (8, .idiv, 1)) rfl
  have k9 : decode b_Pl_percentOf 9 = .ok (.ireturn, 1) := pl_dc dd_Pl_percentOf 7 (q := (9, .ireturn, 1)) rfl
  exact (d_reti (p1 := 9) F Fm.2.1 Fm.2.2.1 (c_div (p1 := 6) (p2 := 8) F (c_bin 1 (p1 := 1) (p2 := 5) (c_iload_n F k0 rfl) (c_bin 1 (p1 := 2) (p2 := 4) (c_iload_n F k1 rfl) (c_ldc F lc_PageLayouter_159 k2) pl_c1 (j_isub F k4)) pl_c1 (j_imul F k5)) (c_bipush F k6 (by decide)) k8) k9))
def y_Box_isFree : MethodName := ⟨"PageLayouter$Box", "isFree", "()Z"⟩
abbrev b_Box_isFree : ByteArray := prog_2_method_4_code
abbrev n_Box_isFree : Nat := 1
theorem y_Box_isFree_ok : pl_MV 1 y_Box_isFree b_Box_isFree n_Box_isFree (Option.some Jvm.ClassFile.FieldType.boolean) 0 := ⟨pl_mem 348 (by decide +kernel) (by decide +kernel), pl_mem 346 (by decide +kernel) (by decide +kernel), pl_mem 347 (by decide +kernel) (by decide +kernel), pl_mem 45 (by decide +kernel) (by decide +kernel), ⟨by decide, by decide, by decide +kernel⟩, _, rfl, rfl⟩
def D_Box_isFree : List (Nat × Instr × Nat) := [(0, .aload_n 0, 1), (1, .getfield 15, 3), (4, .ifnull 18, 3), (7, .aload_n 0, 1), (8, .getfield 34, 3), (11, .bipush 9, 2), (13, .iaload, 1), (14, .iconst 1, 1), (15, .if_icmp .ne 7, 3), (18, .iconst 1, 1), (19, .goto 4, 3), (22, .iconst 0, 1), (23, .ireturn, 1)]
theorem dd_Box_isFree : (D_Box_isFree.all fun q => decide (decode b_Box_isFree q.1 = .ok q.2)) = true := by decide +kernel
def t_Box_isFree : pl_TR := fun P _ _ => s_retz P (e_if (b_and (b_nn (e_getr 1 1 (e_locr 0))) (b_cmp .eq (e_ald 1 (e_getr 1 4 (e_locr 0)) (e_int 9)) (e_int 1))) (e_int 1) (e_int 0))
theorem z_Box_isFree (l : Launch) : pl_Ctr l y_Box_isFree b_Box_isFree n_Box_isFree (Option.some Jvm.ClassFile.FieldType.boolean) 0 0 0 0 false t_Box_isFree := pl_ctr_of (pe := 0) (by decide) (fun X Y P F Fm => by
  have F : pl_Fx X Y "PageLayouter$Box" b_Box_isFree := F
  have k0 : decode b_Box_isFree 0 = .ok (.aload_n 0, 1) := pl_dc dd_Box_isFree 0 (q := (0, .aload_n 0, 1)) rfl
  have k1 : decode b_Box_isFree 1 = .ok (.getfield 15, 3) := pl_dc dd_Box_isFree 1 (q := (1, .getfield 15, 3)) rfl
  have k4 : decode b_Box_isFree 4 = .ok (.ifnull 18, 3) := pl_dc dd_Box_isFree 2 (q := (4, .ifnull 18, 3)) rfl
  have k7 : decode b_Box_isFree 7 = .ok (.aload_n 0, 1) := pl_dc dd_Box_isFree 3 (q := (7, .aload_n 0, 1)) rfl
  have k8 : decode b_Box_isFree 8 = .ok (.getfield 34, 3) := pl_dc dd_Box_isFree 4 (q := (8, .getfield 34, 3)) rfl
  have k11 : decode b_Box_isFree 11 = .ok (.bipush 9, 2) := pl_dc dd_Box_isFree 5 (q := (11, .bipush 9, 2)) rfl
  have k13 : decode b_Box_isFree 13 = .ok (.iaload, 1) := pl_dc dd_Box_isFree 6 (q := (13, .iaload, 1)) rfl
  have k14 : decode b_Box_isFree 14 = .ok (.iconst 1, 1) := pl_dc dd_Box_isFree 7 (q := (14, .iconst 1, 1)) rfl
  have k15 : decode b_Box_isFree 15 = .ok (.if_icmp .ne 7, 3) := pl_dc dd_Box_isFree 8 (q := (15, .if_icmp .ne 7, 3)) rfl
  have k18 : decode b_Box_isFree 18 = .ok (.iconst 1, 1) := pl_dc dd_Box_isFree 9 (q := (18, .iconst 1, 1)) rfl
  have k19 : decode b_Box_isFree 19 = .ok (.goto 4, 3) := pl_dc dd_Box_isFree 10 (q := (19, .goto 4, 3)) rfl
  have k22 : decode b_Box_isFree 22 = .ok (.iconst 0, 1) := pl_dc dd_Box_isFree 11 (q := (22, .iconst 0, 1)) rfl
  have k23 : decode b_Box_isFree 23 = .ok (.ireturn, 1) := pl_dc dd_Box_isFree 12 (q := (23, .ireturn, 1)) rfl
  exact (d_retz (p1 := 23) F Fm.2.1 Fm.2.2.1 (c_if (p1 := 18) (p2 := 19) (p3 := 23) F (b_and_t (p1 := 7) (b_nn_t (p1 := 4) (pj := 22) F (c_getr (p1 := 1) F 1 1 hg_1_1 (c_aload_n F k0 rfl) k1 lf_Box_15) k4 (by decide)) (b_cmp_t (p1 := 14) (p2 := 15) (pj := 22) F (c_iald (p1 := 11) (p2 := 13) F (c_getr (p1 := 8) F 1 4 hg_1_4 (c_aload_n F k7 rfl) k8 lf_Box_34) (c_bipush F k11 (by decide)) k13) (c_iconst F k14 (by decide)) k15 (by decide))) (c_iconst F k18 (by decide)) k19 (by decide) (c_iconst F k22 (by decide))) k23))
def y_Box_findRole : MethodName := ⟨"PageLayouter$Box", "findRole", "()V"⟩
abbrev b_Box_findRole : ByteArray := prog_2_method_3_code
abbrev n_Box_findRole : Nat := 2
theorem y_Box_findRole_ok : pl_MV 1 y_Box_findRole b_Box_findRole n_Box_findRole (Option.none : Option Jvm.ClassFile.FieldType) 0 := ⟨pl_mem 344 (by decide +kernel) (by decide +kernel), pl_mem 342 (by decide +kernel) (by decide +kernel), pl_mem 343 (by decide +kernel) (by decide +kernel), pl_mem 45 (by decide +kernel) (by decide +kernel), ⟨by decide, by decide, by decide +kernel⟩, _, rfl, rfl⟩
def D_Box_findRole : List (Nat × Instr × Nat) := [(0, .aload_n 0, 1), (1, .getfield 15, 3), (4, .ifnull 10, 3), (7, .aload_n 0, 1), (8, .invokevirtual 49, 3), (11, .ifCond .eq 7, 3), (14, .iconst 0, 1), (15, .goto 10, 3), (18, .aload_n 0, 1), (19, .getfield 15, 3), (22, .getfield 37, 3), (25, .istore_n 1, 1), (26, .aload_n 0, 1), (27, .iload_n 1, 1), (28, .iconst 2, 1), (29, .if_icmp .ne 7, 3), (32, .iconst 3, 1), (33, .goto 7, 3), (36, .aload_n 0, 1), (37, .getfield 19, 3), (40, .putfield 37, 3), (43, .aload_n 0, 1), (44, .iload_n 1, 1), (45, .iconst 3, 1), (46, .if_icmp .ne 7, 3), (49, .iconst 1, 1), (50, .goto 4, 3), (53, .iconst 0, 1), (54, .putfield 53, 3), (57, .return_, 1)]
theorem dd_Box_findRole : (D_Box_findRole.all fun q => decide (decode b_Box_findRole q.1 = .ok q.2)) = true := by decide +kernel
def t_Box_findRole : pl_TR := fun P _ _ => s_seq (s_seq (s_seti 1 (e_if (b_or (b_null (e_getr 1 1 (e_locr 0))) (b_zero .ne (e_callV Value.int 1 t_Box_isFree n_Box_isFree (a_r a_nil (e_locr 0))))) (e_int 0) (e_geti 1 8 (e_getr 1 1 (e_locr 0))))) (s_seq (s_puti 1 8 (e_locr 0) (e_if (b_cmp .eq (e_loc 1) (e_int 2)) (e_int 3) (e_geti 1 2 (e_locr 0)))) (s_putz 1 9 (e_locr 0) (e_if (b_cmp .eq (e_loc 1) (e_int 3)) (e_int 1) (e_int 0))))) (s_retv P)
theorem z_Box_findRole (l : Launch) : pl_Ctr l y_Box_findRole b_Box_findRole n_Box_findRole (Option.none : Option Jvm.ClassFile.FieldType) 1 20 0 0 false t_Box_findRole := pl_ctr_of (pe := 0) (by decide) (fun X Y P F Fm => by
  have F : pl_Fx X Y "PageLayouter$Box" b_Box_findRole := F
  have r_Box_isFree : 0 + 1 ≤ (pl_xR X).frames ∧ 8 + (n_Box_isFree + 11) + 0 ≤ (pl_xR X).locals := ⟨Nat.le_trans (by decide) Fm.2.2.2.2.2.1, Nat.le_trans (by decide) Fm.2.2.2.2.2.2.1⟩
  have hm : ∀ i, i < 2 → i < (pl_xc X).maxLocals := fun i h => by rw [Fm.2.2.2.1]; exact h
  have k0 : decode b_Box_findRole 0 = .ok (.aload_n 0, 1) := pl_dc dd_Box_findRole 0 (q := (0, .aload_n 0, 1)) rfl
  have k1 : decode b_Box_findRole 1 = .ok (.getfield 15, 3) := pl_dc dd_Box_findRole 1 (q := (1, .getfield 15, 3)) rfl
  have k4 : decode b_Box_findRole 4 = .ok (.ifnull 10, 3) := pl_dc dd_Box_findRole 2 (q := (4, .ifnull 10, 3)) rfl
  have k7 : decode b_Box_findRole 7 = .ok (.aload_n 0, 1) := pl_dc dd_Box_findRole 3 (q := (7, .aload_n 0, 1)) rfl
  have k8 : decode b_Box_findRole 8 = .ok (.invokevirtual 49, 3) := pl_dc dd_Box_findRole 4 (q := (8, .invokevirtual 49, 3)) rfl
  have k11 : decode b_Box_findRole 11 = .ok (.ifCond .eq 7, 3) := pl_dc dd_Box_findRole 5 (q := (11, .ifCond .eq 7, 3)) rfl
  have k14 : decode b_Box_findRole 14 = .ok (.iconst 0, 1) := pl_dc dd_Box_findRole 6 (q := (14, .iconst 0, 1)) rfl
  have k15 : decode b_Box_findRole 15 = .ok (.goto 10, 3) := pl_dc dd_Box_findRole 7 (q := (15, .goto 10, 3)) rfl
  have k18 : decode b_Box_findRole 18 = .ok (.aload_n 0, 1) := pl_dc dd_Box_findRole 8 (q := (18, .aload_n 0, 1)) rfl
  have k19 : decode b_Box_findRole 19 = .ok (.getfield 15, 3) := pl_dc dd_Box_findRole 9 (q := (19, .getfield 15, 3)) rfl
  have k22 : decode b_Box_findRole 22 = .ok (.getfield 37, 3) := pl_dc dd_Box_findRole 10 (q := (22, .getfield 37, 3)) rfl
  have k25 : decode b_Box_findRole 25 = .ok (.istore_n 1, 1) := pl_dc dd_Box_findRole 11 (q := (25, .istore_n 1, 1)) rfl
  have k26 : decode b_Box_findRole 26 = .ok (.aload_n 0, 1) := pl_dc dd_Box_findRole 12 (q := (26, .aload_n 0, 1)) rfl
  have k27 : decode b_Box_findRole 27 = .ok (.iload_n 1, 1) := pl_dc dd_Box_findRole 13 (q := (27, .iload_n 1, 1)) rfl
  have k28 : decode b_Box_findRole 28 = .ok (.iconst 2, 1) := pl_dc dd_Box_findRole 14 (q := (28, .iconst 2, 1)) rfl
  have k29 : decode b_Box_findRole 29 = .ok (.if_icmp .ne 7, 3) := pl_dc dd_Box_findRole 15 (q := (29, .if_icmp .ne 7, 3)) rfl
  have k32 : decode b_Box_findRole 32 = .ok (.iconst 3, 1) := pl_dc dd_Box_findRole 16 (q := (32, .iconst 3, 1)) rfl
  have k33 : decode b_Box_findRole 33 = .ok (.goto 7, 3) := pl_dc dd_Box_findRole 17 (q := (33, .goto 7, 3)) rfl
  have k36 : decode b_Box_findRole 36 = .ok (.aload_n 0, 1) := pl_dc dd_Box_findRole 18 (q := (36, .aload_n 0, 1)) rfl
  have k37 : decode b_Box_findRole 37 = .ok (.getfield 19, 3) := pl_dc dd_Box_findRole 19 (q := (37, .getfield 19, 3)) rfl
  have k40 : decode b_Box_findRole 40 = .ok (.putfield 37, 3) := pl_dc dd_Box_findRole 20 (q := (40, .putfield 37, 3)) rfl
  have k43 : decode b_Box_findRole 43 = .ok (.aload_n 0, 1) := pl_dc dd_Box_findRole 21 (q := (43, .aload_n 0, 1)) rfl
  have k44 : decode b_Box_findRole 44 = .ok (.iload_n 1, 1) := pl_dc dd_Box_findRole 22 (q := (44, .iload_n 1, 1)) rfl
  have k45 : decode b_Box_findRole 45 = .ok (.iconst 3, 1) := pl_dc dd_Box_findRole 23 (q := (45, .iconst 3, 1)) rfl
  have k46 : decode b_Box_findRole 46 = .ok (.if_icmp .ne 7, 3) := pl_dc dd_Box_findRole 24 (q := (46, .if_icmp .ne 7, 3)) rfl
  have k49 : decode b_Box_findRole 49 = .ok (.iconst 1, 1) := pl_dc dd_Box_findRole 25 (q := (49, .iconst 1, 1)) rfl
  have k50 : decode b_Box_findRole 50 = .ok (.goto 4, 3) := pl_dc dd_Box_findRole 26 (q := (50, .goto 4, 3)) rfl
  have k53 : decode b_Box_findRole 53 = .ok (.iconst 0, 1) := pl_dc dd_Box_findRole 27 (q := (53, .iconst 0, 1)) rfl
  have k54 : decode b_Box_findRole 54 = .ok (.putfield 53, 3) := pl_dc dd_Box_findRole 28 (q := (54, .putfield 53, 3)) rfl
  have k57 : decode b_Box_findRole 57 = .ok (.return_, 1) := pl_dc dd_Box_findRole 29 (q := (57, .return_, 1)) rfl
  exact (d_seq (p1 := 57) (d_seq (p1 := 26) (d_istore_n (p1 := 25) F (c_if (p1 := 14) (p2 := 15) (p3 := 25) F (b_or_t (p1 := 7) (b_null_f (p1 := 4) (pj := 14) F (c_getr (p1 := 1) F 1 1 hg_1_1 (c_aload_n F k0 rfl) k1 lf_Box_15) k4 (by decide)) (b_zero_t (p1 := 11) (pj := 18) F (c_callV (p1 := 8) F (a_r_ok (p1 := 7) a_nil_ok (c_aload_n F k7 rfl)) (z_Box_isFree _) y_Box_isFree_ok lm_Box_49 k8 r_Box_isFree (by decide) (by decide)) k11 (by decide))) (c_iconst F k14 (by decide)) k15 (by decide) (c_geti (p1 := 22) F 1 8 hg_1_8 (c_getr (p1 := 19) F 1 1 hg_1_1 (c_aload_n F k18 rfl) k19 lf_Box_15) k22 lf_Box_37)) k25 rfl (hm 1 (by decide))) (d_seq (p1 := 43) (d_puti (p1 := 27) (p2 := 40) F 1 8 hp_1_8 (c_aload_n F k26 rfl) (c_if (p1 := 32) (p2 := 33) (p3 := 40) F (b_cmp_t (p1 := 28) (p2 := 29) (pj := 36) F (c_iload_n F k27 rfl) (c_iconst F k28 (by decide)) k29 (by decide)) (c_iconst F k32 (by decide)) k33 (by decide) (c_geti (p1 := 37) F 1 2 hg_1_2 (c_aload_n F k36 rfl) k37 lf_Box_19)) k40 lf_Box_37) (d_putz (p1 := 44) (p2 := 54) F 1 9 hp_1_9 (c_aload_n F k43 rfl) (c_if (p1 := 49) (p2 := 50) (p3 := 54) F (b_cmp_t (p1 := 45) (p2 := 46) (pj := 53) F (c_iload_n F k44 rfl) (c_iconst F k45 (by decide)) k46 (by decide)) (c_iconst F k49 (by decide)) k50 (by decide) (c_iconst F k53 (by decide))) k54 lf_Box_53))) (d_retv F Fm.2.1 Fm.2.2.1 k57)))
def y_Pl_findRoles : MethodName := ⟨"PageLayouter", "findRoles", "()V"⟩
abbrev b_Pl_findRoles : ByteArray := prog_1_method_17_code
abbrev n_Pl_findRoles : Nat := 2
theorem y_Pl_findRoles_ok : pl_MV 0 y_Pl_findRoles b_Pl_findRoles n_Pl_findRoles (Option.none : Option Jvm.ClassFile.FieldType) 0 := ⟨pl_mem 373 (by decide +kernel) (by decide +kernel), pl_mem 372 (by decide +kernel) (by decide +kernel), pl_mem 2 (by decide +kernel) (by decide +kernel), pl_mem 44 (by decide +kernel) (by decide +kernel), ⟨by decide, by decide, by decide +kernel⟩, _, rfl, rfl⟩
def D_Pl_findRoles : List (Nat × Instr × Nat) := [(0, .iconst 0, 1), (1, .istore_n 1, 1), (2, .iload_n 1, 1), (3, .aload_n 0, 1), (4, .getfield 25, 3), (7, .if_icmp .ge 18, 3), (10, .aload_n 0, 1), (11, .getfield 11, 3), (14, .iload_n 1, 1), (15, .aaload, 1), (16, .invokevirtual 61, 3), (19, .iinc 1 1, 3), (22, .goto (-20), 3), (25, .return_, 1)]
theorem dd_Pl_findRoles : (D_Pl_findRoles.all fun q => decide (decode b_Pl_findRoles q.1 = .ok q.2)) = true := by decide +kernel
def t_Pl_findRoles : pl_TR := fun P _ _ => s_seq (s_seq (s_seti 1 (e_int 0)) (s_while (b_cmp .lt (e_loc 1) (e_geti 0 2 (e_locr 0))) (s_seq (s_callV 1 t_Box_findRole n_Box_findRole (a_r a_nil (e_aald (e_getr 0 0 (e_locr 0)) (e_loc 1)))) (s_inc 1 1)))) (s_retv P)
theorem z_Pl_findRoles (l : Launch) : pl_Ctr l y_Pl_findRoles b_Pl_findRoles n_Pl_findRoles (Option.none : Option Jvm.ClassFile.FieldType) 2 41 0 0 false t_Pl_findRoles := pl_ctr_of (pe := 0) (by decide) (fun X Y P F Fm => by
  have F : pl_Fx X Y "PageLayouter" b_Pl_findRoles := F
  have r_Box_findRole : 1 + 1 ≤ (pl_xR X).frames ∧ 8 + (n_Box_findRole + 11) + 20 ≤ (pl_xR X).locals := ⟨Nat.le_trans (by decide) Fm.2.2.2.2.2.1, Nat.le_trans (by decide) Fm.2.2.2.2.2.2.1⟩
  have hm : ∀ i, i < 2 → i < (pl_xc X).maxLocals := fun i h => by rw [Fm.2.2.2.1]; exact h
  have k0 : decode b_Pl_findRoles 0 = .ok (.iconst 0, 1) := pl_dc dd_Pl_findRoles 0 (q := (0, .iconst 0, 1)) rfl
  have k1 : decode b_Pl_findRoles 1 = .ok (.istore_n 1, 1) := pl_dc dd_Pl_findRoles 1 (q := (1, .istore_n 1, 1)) rfl
  have k2 : decode b_Pl_findRoles 2 = .ok (.iload_n 1, 1) := pl_dc dd_Pl_findRoles 2 (q := (2, .iload_n 1, 1)) rfl
  have k3 : decode b_Pl_findRoles 3 = .ok (.aload_n 0, 1) := pl_dc dd_Pl_findRoles 3 (q := (3, .aload_n 0, 1)) rfl
  have k4 : decode b_Pl_findRoles 4 = .ok (.getfield 25, 3) := pl_dc dd_Pl_findRoles 4 (q := (4, .getfield 25, 3)) rfl
  have k7 : decode b_Pl_findRoles 7 = .ok (.if_icmp .ge 18, 3) := pl_dc dd_Pl_findRoles 5 (q := (7, .if_icmp .ge 18, 3)) rfl
  have k10 : decode b_Pl_findRoles 10 = .ok (.aload_n 0, 1) := pl_dc dd_Pl_findRoles 6 (q := (10, .aload_n 0, 1)) rfl
  have k11 : decode b_Pl_findRoles 11 = .ok (.getfield 11, 3) := pl_dc dd_Pl_findRoles 7 (q := (11, .getfield 11, 3)) rfl
  have k14 : decode b_Pl_findRoles 14 = .ok (.iload_n 1, 1) := pl_dc dd_Pl_findRoles 8 (q := (14, .iload_n 1, 1)) rfl
  have k15 : decode b_Pl_findRoles 15 = .ok (.aaload, 1) := pl_dc dd_Pl_findRoles 9 (q := (15, .aaload, 1)) rfl
  have k16 : decode b_Pl_findRoles 16 = .ok (.invokevirtual 61, 3) := pl_dc dd_Pl_findRoles 10 (q := (16, .invokevirtual 61, 3)) rfl
  have k19 : decode b_Pl_findRoles 19 = .ok (.iinc 1 1, 3) := pl_dc dd_Pl_findRoles 11 (q := (19, .iinc 1 1, 3)) rfl
  have k22 : decode b_Pl_findRoles 22 = .ok (.goto (-20), 3) := pl_dc dd_Pl_findRoles 12 (q := (22, .goto (-20), 3)) rfl
  have k25 : decode b_Pl_findRoles 25 = .ok (.return_, 1) := pl_dc dd_Pl_findRoles 13 (q := (25, .return_, 1)) rfl
  exact (d_seq (p1 := 25) (d_seq (p1 := 2) (d_istore_n (p1 := 1) F (c_iconst F k0 (by decide)) k1 rfl (hm 1 (by decide))) (d_while (p1 := 10) (p2 := 22) F (b_cmp_t (p1 := 3) (p2 := 7) (pj := 25) F (c_iload_n F k2 rfl) (c_geti (p1 := 4) F 0 2 hg_0_2 (c_aload_n F k3 rfl) k4 lf_PageLayouter_25) k7 (by decide)) (d_seq (p1 := 19) (d_callV (p1 := 16) F (a_r_ok (p1 := 10) a_nil_ok (c_aald (p1 := 14) (p2 := 15) F (c_getr (p1 := 11) F 0 0 hg_0_0 (c_aload_n F k10 rfl) k11 lf_PageLayouter_11) (c_iload_n F k14 rfl) k15)) (z_Box_findRole _) y_Box_findRole_ok lm_PageLayouter_61 k16 r_Box_findRole (by decide)) (d_iinc F k19 (by decide) (hm 1 (by decide)))) k22 (by decide))) (d_retv F Fm.2.1 Fm.2.2.1 k25)))
def y_Columns_clear : MethodName := ⟨"PageLayouter$Columns", "clear", "()V"⟩
abbrev b_Columns_clear : ByteArray := prog_3_method_2_code
abbrev n_Columns_clear : Nat := 1
theorem y_Columns_clear_ok : pl_MV 2 y_Columns_clear b_Columns_clear n_Columns_clear (Option.none : Option Jvm.ClassFile.FieldType) 0 := ⟨pl_mem 388 (by decide +kernel) (by decide +kernel), pl_mem 386 (by decide +kernel) (by decide +kernel), pl_mem 387 (by decide +kernel) (by decide +kernel), pl_mem 46 (by decide +kernel) (by decide +kernel), ⟨by decide, by decide, by decide +kernel⟩, _, rfl, rfl⟩
def D_Columns_clear : List (Nat × Instr × Nat) := [(0, .aload_n 0, 1), (1, .iconst 0, 1), (2, .putfield 21, 3), (5, .return_, 1)]
theorem dd_Columns_clear : (D_Columns_clear.all fun q => decide (decode b_Columns_clear q.1 = .ok q.2)) = true := by decide +kernel
def t_Columns_clear : pl_TR := fun P _ _ => s_seq (s_puti 2 3 (e_locr 0) (e_int 0)) (s_retv P)
theorem z_Columns_clear (l : Launch) : pl_Ctr l y_Columns_clear b_Columns_clear n_Columns_clear (Option.none : Option Jvm.ClassFile.FieldType) 0 0 0 0 false t_Columns_clear := pl_ctr_of (pe := 0) (by decide) (fun X Y P F Fm => by
  have F : pl_Fx X Y "PageLayouter$Columns" b_Columns_clear := F
  have k0 : decode b_Columns_clear 0 = .ok (.aload_n 0, 1) := pl_dc dd_Columns_clear 0 (q := (0, .aload_n 0, 1)) rfl
  have k1 : decode b_Columns_clear 1 = .ok (.iconst 0, 1) := pl_dc dd_Columns_clear 1 (q := (1, .iconst 0, 1)) rfl
  have k2 : decode b_Columns_clear 2 = .ok (.putfield 21, 3) := pl_dc dd_Columns_clear 2 (q := (2, .putfield 21, 3)) rfl
  have k5 : decode b_Columns_clear 5 = .ok (.return_, 1) := pl_dc dd_Columns_clear 3 (q := (5, .return_, 1)) rfl
  exact (d_seq (p1 := 5) (d_puti (p1 := 1) (p2 := 2) F 2 3 hp_2_3 (c_aload_n F k0 rfl) (c_iconst F k1 (by decide)) k2 lf_Columns_21) (d_retv F Fm.2.1 Fm.2.2.1 k5)))
def y_Box_firstInFlow : MethodName := ⟨"PageLayouter$Box", "firstInFlow", "()LPageLayouter$Box;"⟩
abbrev b_Box_firstInFlow : ByteArray := prog_2_method_5_code
abbrev n_Box_firstInFlow : Nat := 2
theorem y_Box_firstInFlow_ok : pl_MV 1 y_Box_firstInFlow b_Box_firstInFlow n_Box_firstInFlow (Option.some (Jvm.ClassFile.FieldType.object "PageLayouter$Box")) 0 := ⟨pl_mem 399 (by decide +kernel) (by decide +kernel), pl_mem 397 (by decide +kernel) (by decide +kernel), pl_mem 398 (by decide +kernel) (by decide +kernel), pl_mem 45 (by decide +kernel) (by decide +kernel), ⟨by decide, by decide, by decide +kernel⟩, _, rfl, rfl⟩
def D_Box_firstInFlow : List (Nat × Instr × Nat) := [(0, .aload_n 0, 1), (1, .getfield 43, 3), (4, .astore_n 1, 1), (5, .aload_n 1, 1), (6, .ifnull 18, 3), (9, .aload_n 1, 1), (10, .invokevirtual 49, 3), (13, .ifCond .eq 11, 3), (16, .aload_n 1, 1), (17, .getfield 46, 3), (20, .astore_n 1, 1), (21, .goto (-16), 3), (24, .aload_n 1, 1), (25, .areturn, 1)]
theorem dd_Box_firstInFlow : (D_Box_firstInFlow.all fun q => decide (decode b_Box_firstInFlow q.1 = .ok q.2)) = true := by decide +kernel
def t_Box_firstInFlow : pl_TR := fun P _ _ => s_seq (s_setr 1 (e_getr 1 5 (e_locr 0))) (s_seq (s_while (b_and (b_nn (e_locr 1)) (b_zero .ne (e_callV Value.int 1 t_Box_isFree n_Box_isFree (a_r a_nil (e_locr 1))))) (s_setr 1 (e_getr 1 7 (e_locr 1)))) (s_retr P (e_locr 1)))
theorem z_Box_firstInFlow (l : Launch) : pl_Ctr l y_Box_firstInFlow b_Box_firstInFlow n_Box_firstInFlow (Option.some (Jvm.ClassFile.FieldType.object "PageLayouter$Box")) 1 20 0 0 false t_Box_firstInFlow := pl_ctr_of (pe := 0) (by decide) (fun X Y P F Fm => by
  have F : pl_Fx X Y "PageLayouter$Box" b_Box_firstInFlow := F
  have r_Box_isFree : 0 + 1 ≤ (pl_xR X).frames ∧ 8 + (n_Box_isFree + 11) + 0 ≤ (pl_xR X).locals := ⟨Nat.le_trans (by decide) Fm.2.2.2.2.2.1, Nat.le_trans (by decide) Fm.2.2.2.2.2.2.1⟩
  have hm : ∀ i, i < 2 → i < (pl_xc X).maxLocals := fun i h => by rw [Fm.2.2.2.1]; exact h
  have k0 : decode b_Box_firstInFlow 0 = .ok (.aload_n 0, 1) := pl_dc dd_Box_firstInFlow 0 (q := (0, .aload_n 0, 1)) rfl
  have k1 : decode b_Box_firstInFlow 1 = .ok (.getfield 43, 3) := pl_dc dd_Box_firstInFlow 1 (q := (1, .getfield 43, 3)) rfl
  have k4 : decode b_Box_firstInFlow 4 = .ok (.astore_n 1, 1) := pl_dc dd_Box_firstInFlow 2 (q := (4, .astore_n 1, 1)) rfl
  have k5 : decode b_Box_firstInFlow 5 = .ok (.aload_n 1, 1) := pl_dc dd_Box_firstInFlow 3 (q := (5, .aload_n 1, 1)) rfl
  have k6 : decode b_Box_firstInFlow 6 = .ok (.ifnull 18, 3) := pl_dc dd_Box_firstInFlow 4 (q := (6, .ifnull 18, 3)) rfl
  have k9 : decode b_Box_firstInFlow 9 = .ok (.aload_n 1, 1) := pl_dc dd_Box_firstInFlow 5 (q := (9, .aload_n 1, 1)) rfl
  have k10 : decode b_Box_firstInFlow 10 = .ok (.invokevirtual 49, 3) := pl_dc dd_Box_firstInFlow 6 (q := (10, .invokevirtual 49, 3)) rfl
  have k13 : decode b_Box_firstInFlow 13 = .ok (.ifCond .eq 11, 3) := pl_dc dd_Box_firstInFlow 7 (q := (13, .ifCond .eq 11, 3)) rfl
  have k16 : decode b_Box_firstInFlow 16 = .ok (.aload_n 1, 1) := pl_dc dd_Box_firstInFlow 8 (q := (16, .aload_n 1, 1)) rfl
  have k17 : decode b_Box_firstInFlow 17 = .ok (.getfield 46, 3) := pl_dc dd_Box_firstInFlow 9 (q := (17, .getfield 46, 3)) rfl
  have k20 : decode b_Box_firstInFlow 20 = .ok (.astore_n 1, 1) := pl_dc dd_Box_firstInFlow 10 (q := (20, .astore_n 1, 1)) rfl
  have k21 : decode b_Box_firstInFlow 21 = .ok (.goto (-16), 3) := pl_dc dd_Box_firstInFlow 11 (q := (21, .goto (-16), 3)) rfl
  have k24 : decode b_Box_firstInFlow 24 = .ok (.aload_n 1, 1) := pl_dc dd_Box_firstInFlow 12 (q := (24, .aload_n 1, 1)) rfl
  have k25 : decode b_Box_firstInFlow 25 = .ok (.areturn, 1) := pl_dc dd_Box_firstInFlow 13 (q := (25, .areturn, 1)) rfl
  exact (d_seq (p1 := 5) (d_astore_n (p1 := 4) F (c_getr (p1 := 1) F 1 5 hg_1_5 (c_aload_n F k0 rfl) k1 lf_Box_43) k4 rfl (hm 1 (by decide))) (d_seq (p1 := 24) (d_while (p1 := 16) (p2 := 21) F (b_and_t (p1 := 9) (b_nn_t (p1 := 6) (pj := 24) F (c_aload_n F k5 rfl) k6 (by decide)) (b_zero_t (p1 := 13) (pj := 24) F (c_callV (p1 := 10) F (a_r_ok (p1 := 9) a_nil_ok (c_aload_n F k9 rfl)) (z_Box_isFree _) y_Box_isFree_ok lm_Box_49 k10 r_Box_isFree (by decide) (by decide)) k13 (by decide))) (d_astore_n (p1 := 20) F (c_getr (p1 := 17) F 1 7 hg_1_7 (c_aload_n F k16 rfl) k17 lf_Box_46) k20 rfl (hm 1 (by decide))) k21 (by decide)) (d_retr (p1 := 25) F Fm.2.1 Fm.2.2.1 (c_aload_n F k24 rfl) k25))))
def y_Box_wantedWidth : MethodName := ⟨"PageLayouter$Box", "wantedWidth", "()I"⟩
abbrev b_Box_wantedWidth : ByteArray := prog_2_method_10_code
abbrev n_Box_wantedWidth : Nat := 1
theorem y_Box_wantedWidth_ok : pl_MV 1 y_Box_wantedWidth b_Box_wantedWidth n_Box_wantedWidth (Option.some Jvm.ClassFile.FieldType.int) 0 := ⟨pl_mem 411 (by decide +kernel) (by decide +kernel), pl_mem 409 (by decide +kernel) (by decide +kernel), pl_mem 410 (by decide +kernel) (by decide +kernel), pl_mem 45 (by decide +kernel) (by decide +kernel), ⟨by decide, by decide, by decide +kernel⟩, _, rfl, rfl⟩
def D_Box_wantedWidth : List (Nat × Instr × Nat) := [(0, .aload_n 0, 1), (1, .getfield 37, 3), (4, .iconst 3, 1), (5, .if_icmp .eq 10, 3), (8, .aload_n 0, 1), (9, .getfield 53, 3), (12, .ifCond .eq 7, 3), (15, .iconst (-1), 1), (16, .goto 9, 3), (19, .aload_n 0, 1), (20, .getfield 34, 3), (23, .iconst 0, 1), (24, .iaload, 1), (25, .ireturn, 1)]
theorem dd_Box_wantedWidth : (D_Box_wantedWidth.all fun q => decide (decode b_Box_wantedWidth q.1 = .ok q.2)) = true := by decide +kernel
def t_Box_wantedWidth : pl_TR := fun P _ _ => s_reti P (e_if (b_or (b_cmp .eq (e_geti 1 8 (e_locr 0)) (e_int 3)) (b_zero .ne (e_geti 1 9 (e_locr 0)))) (e_int (-1)) (e_ald 1 (e_getr 1 4 (e_locr 0)) (e_int 0)))
theorem z_Box_wantedWidth (l : Launch) : pl_Ctr l y_Box_wantedWidth b_Box_wantedWidth n_Box_wantedWidth (Option.some Jvm.ClassFile.FieldType.int) 0 0 0 0 false t_Box_wantedWidth := pl_ctr_of (pe := 0) (by decide) (fun X Y P F Fm => by
  have F : pl_Fx X Y "PageLayouter$Box" b_Box_wantedWidth := F
  have k0 : decode b_Box_wantedWidth 0 = .ok (.aload_n 0, 1) := pl_dc dd_Box_wantedWidth 0 (q := (0, .aload_n 0, 1)) rfl
  have k1 : decode b_Box_wantedWidth 1 = .ok (.getfield 37, 3) := pl_dc dd_Box_wantedWidth 1 (q := (1, .getfield 37, 3)) rfl
  have k4 : decode b_Box_wantedWidth 4 = .ok (.iconst 3, 1) := pl_dc dd_Box_wantedWidth 2 (q := (4, .iconst 3, 1)) rfl
  have k5 : decode b_Box_wantedWidth 5 = .ok (.if_icmp .eq 10, 3) := pl_dc dd_Box_wantedWidth 3 (q := (5, .if_icmp .eq 10, 3)) rfl
  have k8 : decode b_Box_wantedWidth 8 = .ok (.aload_n 0, 1) := pl_dc dd_Box_wantedWidth 4 (q := (8, .aload_n 0, 1)) rfl
  have k9 : decode b_Box_wantedWidth 9 = .ok (.getfield 53, 3) := pl_dc dd_Box_wantedWidth 5 (q := (9, .getfield 53, 3)) rfl
  have k12 : decode b_Box_wantedWidth 12 = .ok (.ifCond .eq 7, 3) := pl_dc dd_Box_wantedWidth 6 (q := (12, .ifCond .eq 7, 3)) rfl
  have k15 : decode b_Box_wantedWidth 15 = .ok (.iconst (-1), 1) := pl_dc dd_Box_wantedWidth 7 (q := (15, .iconst (-1), 1)) rfl
  have k16 : decode b_Box_wantedWidth 16 = .ok (.goto 9, 3) := pl_dc dd_Box_wantedWidth 8 (q := (16, .goto 9, 3)) rfl
  have k19 : decode b_Box_wantedWidth 19 = .ok (.aload_n 0, 1) := pl_dc dd_Box_wantedWidth 9 (q := (19, .aload_n 0, 1)) rfl
  have k20 : decode b_Box_wantedWidth 20 = .ok (.getfield 34, 3) := pl_dc dd_Box_wantedWidth 10 (q := (20, .getfield 34, 3)) rfl
  have k23 : decode b_Box_wantedWidth 23 = .ok (.iconst 0, 1) := pl_dc dd_Box_wantedWidth 11 (q := (23, .iconst 0, 1)) rfl
  have k24 : decode b_Box_wantedWidth 24 = .ok (.iaload, 1) := pl_dc dd_Box_wantedWidth 12 (q := (24, .iaload, 1)) rfl
  have k25 : decode b_Box_wantedWidth 25 = .ok (.ireturn, 1) := pl_dc dd_Box_wantedWidth 13 (q := (25, .ireturn, 1)) rfl
  exact (d_reti (p1 := 25) F Fm.2.1 Fm.2.2.1 (c_if (p1 := 15) (p2 := 16) (p3 := 25) F (b_or_t (p1 := 8) (b_cmp_f (p1 := 4) (p2 := 5) (pj := 15) F (c_geti (p1 := 1) F 1 8 hg_1_8 (c_aload_n F k0 rfl) k1 lf_Box_37) (c_iconst F k4 (by decide)) k5 (by decide)) (b_zero_t (p1 := 12) (pj := 19) F (c_geti (p1 := 9) F 1 9 hg_1_9 (c_aload_n F k8 rfl) k9 lf_Box_53) k12 (by decide))) (c_iconst F k15 (by decide)) k16 (by decide) (c_iald (p1 := 23) (p2 := 24) F (c_getr (p1 := 20) F 1 4 hg_1_4 (c_aload_n F k19 rfl) k20 lf_Box_34) (c_iconst F k23 (by decide)) k24)) k25))
def y_Box_leastWidth : MethodName := ⟨"PageLayouter$Box", "leastWidth", "()I"⟩
abbrev b_Box_leastWidth : ByteArray := prog_2_method_12_code
abbrev n_Box_leastWidth : Nat := 1
theorem y_Box_leastWidth_ok : pl_MV 1 y_Box_leastWidth b_Box_leastWidth n_Box_leastWidth (Option.some Jvm.ClassFile.FieldType.int) 0 := ⟨pl_mem 407 (by decide +kernel) (by decide +kernel), pl_mem 405 (by decide +kernel) (by decide +kernel), pl_mem 406 (by decide +kernel) (by decide +kernel), pl_mem 45 (by decide +kernel) (by decide +kernel), ⟨by decide, by decide, by decide +kernel⟩, _, rfl, rfl⟩
def D_Box_leastWidth : List (Nat × Instr × Nat) := [(0, .aload_n 0, 1), (1, .invokevirtual 57, 3), (4, .invokestatic 61, 3), (7, .ifCond .eq 10, 3), (10, .aload_n 0, 1), (11, .invokevirtual 57, 3), (14, .goto 7, 3), (17, .aload_n 0, 1), (18, .getfield 65, 3), (21, .ireturn, 1)]
theorem dd_Box_leastWidth : (D_Box_leastWidth.all fun q => decide (decode b_Box_leastWidth q.1 = .ok q.2)) = true := by decide +kernel
def t_Box_leastWidth : pl_TR := fun P _ _ => s_reti P (e_if (b_zero .ne (e_callS Value.int t_Pl_isSize n_Pl_isSize (a_i a_nil (e_callV Value.int 1 t_Box_wantedWidth n_Box_wantedWidth (a_r a_nil (e_locr 0)))))) (e_callV Value.int 1 t_Box_wantedWidth n_Box_wantedWidth (a_r a_nil (e_locr 0))) (e_geti 1 10 (e_locr 0)))
theorem z_Box_leastWidth (l : Launch) : pl_Ctr l y_Box_leastWidth b_Box_leastWidth n_Box_leastWidth (Option.some Jvm.ClassFile.FieldType.int) 1 20 0 0 false t_Box_leastWidth := pl_ctr_of (pe := 0) (by decide) (fun X Y P F Fm => by
  have F : pl_Fx X Y "PageLayouter$Box" b_Box_leastWidth := F
  have r_Box_wantedWidth : 0 + 1 ≤ (pl_xR X).frames ∧ 8 + (n_Box_wantedWidth + 11) + 0 ≤ (pl_xR X).locals := ⟨Nat.le_trans (by decide) Fm.2.2.2.2.2.1, Nat.le_trans (by decide) Fm.2.2.2.2.2.2.1⟩
  have r_Pl_isSize : 0 + 1 ≤ (pl_xR X).frames ∧ 8 + (n_Pl_isSize + 11) + 0 ≤ (pl_xR X).locals := ⟨Nat.le_trans (by decide) Fm.2.2.2.2.2.1, Nat.le_trans (by decide) Fm.2.2.2.2.2.2.1⟩
  have k0 : decode b_Box_leastWidth 0 = .ok (.aload_n 0, 1) := pl_dc dd_Box_leastWidth 0 (q := (0, .aload_n 0, 1)) rfl
  have k1 : decode b_Box_leastWidth 1 = .ok (.invokevirtual 57, 3) := pl_dc dd_Box_leastWidth 1 (q := (1, .invokevirtual 57, 3)) rfl
  have k4 : decode b_Box_leastWidth 4 = .ok (.invokestatic 61, 3) := pl_dc dd_Box_leastWidth 2 (q := (4, .invokestatic 61, 3)) rfl
  have k7 : decode b_Box_leastWidth 7 = .ok (.ifCond .eq 10, 3) := pl_dc dd_Box_leastWidth 3 (q := (7, .ifCond .eq 10, 3)) rfl
  have k10 : decode b_Box_leastWidth 10 = .ok (.aload_n 0, 1) := pl_dc dd_Box_leastWidth 4 (q := (10, .aload_n 0, 1)) rfl
  have k11 : decode b_Box_leastWidth 11 = .ok (.invokevirtual 57, 3) := pl_dc dd_Box_leastWidth 5 (q := (11, .invokevirtual 57, 3)) rfl
  have k14 : decode b_Box_leastWidth 14 = .ok (.goto 7, 3) := pl_dc dd_Box_leastWidth 6 (q := (14, .goto 7, 3)) rfl
  have k17 : decode b_Box_leastWidth 17 = .ok (.aload_n 0, 1) := pl_dc dd_Box_leastWidth 7 (q := (17, .aload_n 0, 1)) rfl
  have k18 : decode b_Box_leastWidth 18 = .ok (.getfield 65, 3) := pl_dc dd_Box_leastWidth 8 (q := (18, .getfield 65, 3)) rfl
  have k21 : decode b_Box_leastWidth 21 = .ok (.ireturn, 1) := pl_dc dd_Box_leastWidth 9 (q := (21, .ireturn, 1)) rfl
  exact (d_reti (p1 := 21) F Fm.2.1 Fm.2.2.1 (c_if (p1 := 10) (p2 := 14) (p3 := 21) F (b_zero_t (p1 := 7) (pj := 17) F (c_callSN (p1 := 4) F (a_i_ok (p1 := 0) a_nil_ok (c_callV (p1 := 1) F (a_r_ok (p1 := 0) a_nil_ok (c_aload_n F k0 rfl)) (z_Box_wantedWidth _) y_Box_wantedWidth_ok lm_Box_57 k1 r_Box_wantedWidth (by decide) (by decide))) (z_Pl_isSize _) y_Pl_isSize_ok ln_Box_61 k4 r_Pl_isSize (by decide) (by decide)) k7 (by decide)) (c_callV (p1 := 11) F (a_r_ok (p1 := 10) a_nil_ok (c_aload_n F k10 rfl)) (z_Box_wantedWidth _) y_Box_wantedWidth_ok lm_Box_57 k11 r_Box_wantedWidth (by decide) (by decide)) k14 (by decide) (c_geti (p1 := 18) F 1 10 hg_1_10 (c_aload_n F k17 rfl) k18 lf_Box_65)) k21))
def y_Box_padding : MethodName := ⟨"PageLayouter$Box", "padding", "()I"⟩
abbrev b_Box_padding : ByteArray := prog_2_method_9_code
abbrev n_Box_padding : Nat := 1
theorem y_Box_padding_ok : pl_MV 1 y_Box_padding b_Box_padding n_Box_padding (Option.some Jvm.ClassFile.FieldType.int) 0 := ⟨pl_mem 422 (by decide +kernel) (by decide +kernel), pl_mem 420 (by decide +kernel) (by decide +kernel), pl_mem 421 (by decide +kernel) (by decide +kernel), pl_mem 45 (by decide +kernel) (by decide +kernel), ⟨by decide, by decide, by decide +kernel⟩, _, rfl, rfl⟩
def D_Box_padding : List (Nat × Instr × Nat) := [(0, .aload_n 0, 1), (1, .getfield 37, 3), (4, .iconst 3, 1), (5, .if_icmp .ne 7, 3), (8, .iconst 0, 1), (9, .goto 9, 3), (12, .aload_n 0, 1), (13, .getfield 34, 3), (16, .iconst 3, 1), (17, .iaload, 1), (18, .ireturn, 1)]
theorem dd_Box_padding : (D_Box_padding.all fun q => decide (decode b_Box_padding q.1 = .ok q.2)) = true := by decide +kernel
def t_Box_padding : pl_TR := fun P _ _ => s_reti P (e_if (b_cmp .eq (e_geti 1 8 (e_locr 0)) (e_int 3)) (e_int 0) (e_ald 1 (e_getr 1 4 (e_locr 0)) (e_int 3)))
theorem z_Box_padding (l : Launch) : pl_Ctr l y_Box_padding b_Box_padding n_Box_padding (Option.some Jvm.ClassFile.FieldType.int) 0 0 0 0 false t_Box_padding := pl_ctr_of (pe := 0) (by decide) (fun X Y P F Fm => by
  have F : pl_Fx X Y "PageLayouter$Box" b_Box_padding := F
  have k0 : decode b_Box_padding 0 = .ok (.aload_n 0, 1) := pl_dc dd_Box_padding 0 (q := (0, .aload_n 0, 1)) rfl
  have k1 : decode b_Box_padding 1 = .ok (.getfield 37, 3) := pl_dc dd_Box_padding 1 (q := (1, .getfield 37, 3)) rfl
  have k4 : decode b_Box_padding 4 = .ok (.iconst 3, 1) := pl_dc dd_Box_padding 2 (q := (4, .iconst 3, 1)) rfl
  have k5 : decode b_Box_padding 5 = .ok (.if_icmp .ne 7, 3) := pl_dc dd_Box_padding 3 (q := (5, .if_icmp .ne 7, 3)) rfl
  have k8 : decode b_Box_padding 8 = .ok (.iconst 0, 1) := pl_dc dd_Box_padding 4 (q := (8, .iconst 0, 1)) rfl
  have k9 : decode b_Box_padding 9 = .ok (.goto 9, 3) := pl_dc dd_Box_padding 5 (q := (9, .goto 9, 3)) rfl
  have k12 : decode b_Box_padding 12 = .ok (.aload_n 0, 1) := pl_dc dd_Box_padding 6 (q := (12, .aload_n 0, 1)) rfl
  have k13 : decode b_Box_padding 13 = .ok (.getfield 34, 3) := pl_dc dd_Box_padding 7 (q := (13, .getfield 34, 3)) rfl
  have k16 : decode b_Box_padding 16 = .ok (.iconst 3, 1) := pl_dc dd_Box_padding 8 (q := (16, .iconst 3, 1)) rfl
  have k17 : decode b_Box_padding 17 = .ok (.iaload, 1) := pl_dc dd_Box_padding 9 (q := (17, .iaload, 1)) rfl
  have k18 : decode b_Box_padding 18 = .ok (.ireturn, 1) := pl_dc dd_Box_padding 10 (q := (18, .ireturn, 1)) rfl
  exact (d_reti (p1 := 18) F Fm.2.1 Fm.2.2.1 (c_if (p1 := 8) (p2 := 9) (p3 := 18) F (b_cmp_t (p1 := 4) (p2 := 5) (pj := 12) F (c_geti (p1 := 1) F 1 8 hg_1_8 (c_aload_n F k0 rfl) k1 lf_Box_37) (c_iconst F k4 (by decide)) k5 (by decide)) (c_iconst F k8 (by decide)) k9 (by decide) (c_iald (p1 := 16) (p2 := 17) F (c_getr (p1 := 13) F 1 4 hg_1_4 (c_aload_n F k12 rfl) k13 lf_Box_34) (c_iconst F k16 (by decide)) k17)) k18))
def y_Box_margin : MethodName := ⟨"PageLayouter$Box", "margin", "()I"⟩
abbrev b_Box_margin : ByteArray := prog_2_method_8_code
abbrev n_Box_margin : Nat := 1
theorem y_Box_margin_ok : pl_MV 1 y_Box_margin b_Box_margin n_Box_margin (Option.some Jvm.ClassFile.FieldType.int) 0 := ⟨pl_mem 426 (by decide +kernel) (by decide +kernel), pl_mem 424 (by decide +kernel) (by decide +kernel), pl_mem 425 (by decide +kernel) (by decide +kernel), pl_mem 45 (by decide +kernel) (by decide +kernel), ⟨by decide, by decide, by decide +kernel⟩, _, rfl, rfl⟩
def D_Box_margin : List (Nat × Instr × Nat) := [(0, .aload_n 0, 1), (1, .getfield 37, 3), (4, .iconst 3, 1), (5, .if_icmp .eq 10, 3), (8, .aload_n 0, 1), (9, .getfield 53, 3), (12, .ifCond .eq 7, 3), (15, .iconst 0, 1), (16, .goto 9, 3), (19, .aload_n 0, 1), (20, .getfield 34, 3), (23, .iconst 2, 1), (24, .iaload, 1), (25, .ireturn, 1)]
theorem dd_Box_margin : (D_Box_margin.all fun q => decide (decode b_Box_margin q.1 = .ok q.2)) = true := by decide +kernel
def t_Box_margin : pl_TR := fun P _ _ => s_reti P (e_if (b_or (b_cmp .eq (e_geti 1 8 (e_locr 0)) (e_int 3)) (b_zero .ne (e_geti 1 9 (e_locr 0)))) (e_int 0) (e_ald 1 (e_getr 1 4 (e_locr 0)) (e_int 2)))
theorem z_Box_margin (l : Launch) : pl_Ctr l y_Box_margin b_Box_margin n_Box_margin (Option.some Jvm.ClassFile.FieldType.int) 0 0 0 0 false t_Box_margin := pl_ctr_of (pe := 0) (by decide) (fun X Y P F Fm => by
  have F : pl_Fx X Y "PageLayouter$Box" b_Box_margin := F
  have k0 : decode b_Box_margin 0 = .ok (.aload_n 0, 1) := pl_dc dd_Box_margin 0 (q := (0, .aload_n 0, 1)) rfl
  have k1 : decode b_Box_margin 1 = .ok (.getfield 37, 3) := pl_dc dd_Box_margin 1 (q := (1, .getfield 37, 3)) rfl
  have k4 : decode b_Box_margin 4 = .ok (.iconst 3, 1) := pl_dc dd_Box_margin 2 (q := (4, .iconst 3, 1)) rfl
  have k5 : decode b_Box_margin 5 = .ok (.if_icmp .eq 10, 3) := pl_dc dd_Box_margin 3 (q := (5, .if_icmp .eq 10, 3)) rfl
  have k8 : decode b_Box_margin 8 = .ok (.aload_n 0, 1) := pl_dc dd_Box_margin 4 (q := (8, .aload_n 0, 1)) rfl
  have k9 : decode b_Box_margin 9 = .ok (.getfield 53, 3) := pl_dc dd_Box_margin 5 (q := (9, .getfield 53, 3)) rfl
  have k12 : decode b_Box_margin 12 = .ok (.ifCond .eq 7, 3) := pl_dc dd_Box_margin 6 (q := (12, .ifCond .eq 7, 3)) rfl
  have k15 : decode b_Box_margin 15 = .ok (.iconst 0, 1) := pl_dc dd_Box_margin 7 (q := (15, .iconst 0, 1)) rfl
  have k16 : decode b_Box_margin 16 = .ok (.goto 9, 3) := pl_dc dd_Box_margin 8 (q := (16, .goto 9, 3)) rfl
  have k19 : decode b_Box_margin 19 = .ok (.aload_n 0, 1) := pl_dc dd_Box_margin 9 (q := (19, .aload_n 0, 1)) rfl
  have k20 : decode b_Box_margin 20 = .ok (.getfield 34, 3) := pl_dc dd_Box_margin 10 (q := (20, .getfield 34, 3)) rfl
  have k23 : decode b_Box_margin 23 = .ok (.iconst 2, 1) := pl_dc dd_Box_margin 11 (q := (23, .iconst 2, 1)) rfl
  have k24 : decode b_Box_margin 24 = .ok (.iaload, 1) := pl_dc dd_Box_margin 12 (q := (24, .iaload, 1)) rfl
  have k25 : decode b_Box_margin 25 = .ok (.ireturn, 1) := pl_dc dd_Box_margin 13 (q := (25, .ireturn, 1)) rfl
  exact (d_reti (p1 := 25) F Fm.2.1 Fm.2.2.1 (c_if (p1 := 15) (p2 := 16) (p3 := 25) F (b_or_t (p1 := 8) (b_cmp_f (p1 := 4) (p2 := 5) (pj := 15) F (c_geti (p1 := 1) F 1 8 hg_1_8 (c_aload_n F k0 rfl) k1 lf_Box_37) (c_iconst F k4 (by decide)) k5 (by decide)) (b_zero_t (p1 := 12) (pj := 19) F (c_geti (p1 := 9) F 1 9 hg_1_9 (c_aload_n F k8 rfl) k9 lf_Box_53) k12 (by decide))) (c_iconst F k15 (by decide)) k16 (by decide) (c_iald (p1 := 23) (p2 := 24) F (c_getr (p1 := 20) F 1 4 hg_1_4 (c_aload_n F k19 rfl) k20 lf_Box_34) (c_iconst F k23 (by decide)) k24)) k25))
def y_Box_edges : MethodName := ⟨"PageLayouter$Box", "edges", "()I"⟩
abbrev b_Box_edges : ByteArray := prog_2_method_14_code
abbrev n_Box_edges : Nat := 1
theorem y_Box_edges_ok : pl_MV 1 y_Box_edges b_Box_edges n_Box_edges (Option.some Jvm.ClassFile.FieldType.int) 0 := ⟨pl_mem 418 (by decide +kernel) (by decide +kernel), pl_mem 416 (by decide +kernel) (by decide +kernel), pl_mem 417 (by decide +kernel) (by decide +kernel), pl_mem 45 (by decide +kernel) (by decide +kernel), ⟨by decide, by decide, by decide +kernel⟩, _, rfl, rfl⟩
def D_Box_edges : List (Nat × Instr × Nat) := [(0, .iconst 2, 1), (1, .aload_n 0, 1), (2, .invokevirtual 71, 3), (5, .aload_n 0, 1), (6, .invokevirtual 74, 3), (9, .iadd, 1), (10, .imul, 1), (11, .ireturn, 1)]
theorem dd_Box_edges : (D_Box_edges.all fun q => decide (decode b_Box_edges q.1 = .ok q.2)) = true := by decide +kernel
def t_Box_edges : pl_TR := fun P _ _ => s_reti P (e_bin (fun x y : Int32 => x * y) (e_int 2) (e_bin (fun x y : Int32 => x + y) (e_callV Value.int 1 t_Box_padding n_Box_padding (a_r a_nil (e_locr 0))) (e_callV Value.int 1 t_Box_margin n_Box_margin (a_r a_nil (e_locr 0)))))
theorem z_Box_edges (l : Launch) : pl_Ctr l y_Box_edges b_Box_edges n_Box_edges (Option.some Jvm.ClassFile.FieldType.int) 1 20 0 0 false t_Box_edges := pl_ctr_of (pe := 0) (by decide) (fun X Y P F Fm => by
  have F : pl_Fx X Y "PageLayouter$Box" b_Box_edges := F
  have r_Box_margin : 0 + 1 ≤ (pl_xR X).frames ∧ 8 + (n_Box_margin + 11) + 0 ≤ (pl_xR X).locals := ⟨Nat.le_trans (by decide) Fm.2.2.2.2.2.1, Nat.le_trans (by decide) Fm.2.2.2.2.2.2.1⟩
  have r_Box_padding : 0 + 1 ≤ (pl_xR X).frames ∧ 8 + (n_Box_padding + 11) + 0 ≤ (pl_xR X).locals := ⟨Nat.le_trans (by decide) Fm.2.2.2.2.2.1, Nat.le_trans (by decide) Fm.2.2.2.2.2.2.1⟩
  have k0 : decode b_Box_edges 0 = .ok (.iconst 2, 1) := pl_dc dd_Box_edges 0 (q := (0, .iconst 2, 1)) rfl
  have k1 : decode b_Box_edges 1 = .ok (.aload_n 0, 1) := pl_dc dd_Box_edges 1 (q := (1, .aload_n 0, 1)) rfl
  have k2 : decode b_Box_edges 2 = .ok (.invokevirtual 71, 3) := pl_dc dd_Box_edges 2 (q := (2, .invokevirtual 71, 3)) rfl
  have k5 : decode b_Box_edges 5 = .ok (.aload_n 0, 1) := pl_dc dd_Box_edges 3 (q := (5, .aload_n 0, 1)) rfl
  have k6 : decode b_Box_edges 6 = .ok (.invokevirtual 74, 3) := pl_dc dd_Box_edges 4 (q := (6, .invokevirtual 74, 3)) rfl
  have k9 : decode b_Box_edges 9 = .ok (.iadd, 1) := pl_dc dd_Box_edges 5 (q := (9, .iadd, 1)) rfl
  have k10 : decode b_Box_edges 10 = .ok (.imul, 1) := pl_dc dd_Box_edges 6 (q := (10, .imul, 1)) rfl
  have k11 : decode b_Box_edges 11 = .ok (.ireturn, 1) := pl_dc dd_Box_edges 7 (q := (11, .ireturn, 1)) rfl
  exact (d_reti (p1 := 11) F Fm.2.1 Fm.2.2.1 (c_bin 1 (p1 := 1) (p2 := 10) (c_iconst F k0 (by decide)) (c_bin 1 (p1 := 5) (p2 := 9) (c_callV (p1 := 2) F (a_r_ok (p1 := 1) a_nil_ok (c_aload_n F k1 rfl)) (z_Box_padding _) y_Box_padding_ok lm_Box_71 k2 r_Box_padding (by decide) (by decide)) (c_callV (p1 := 6) F (a_r_ok (p1 := 5) a_nil_ok (c_aload_n F k5 rfl)) (z_Box_margin _) y_Box_margin_ok lm_Box_74 k6 r_Box_margin (by decide) (by decide)) pl_c1 (j_iadd F k9)) pl_c1 (j_imul F k10)) k11))
def y_Box_mostWidth : MethodName := ⟨"PageLayouter$Box", "mostWidth", "()I"⟩
abbrev b_Box_mostWidth : ByteArray := prog_2_method_13_code
abbrev n_Box_mostWidth : Nat := 1
theorem y_Box_mostWidth_ok : pl_MV 1 y_Box_mostWidth b_Box_mostWidth n_Box_mostWidth (Option.some Jvm.ClassFile.FieldType.int) 0 := ⟨pl_mem 433 (by decide +kernel) (by decide +kernel), pl_mem 431 (by decide +kernel) (by decide +kernel), pl_mem 432 (by decide +kernel) (by decide +kernel), pl_mem 45 (by decide +kernel) (by decide +kernel), ⟨by decide, by decide, by decide +kernel⟩, _, rfl, rfl⟩
def D_Box_mostWidth : List (Nat × Instr × Nat) := [(0, .aload_n 0, 1), (1, .invokevirtual 57, 3), (4, .invokestatic 61, 3), (7, .ifCond .eq 10, 3), (10, .aload_n 0, 1), (11, .invokevirtual 57, 3), (14, .goto 7, 3), (17, .aload_n 0, 1), (18, .getfield 68, 3), (21, .ireturn, 1)]
theorem dd_Box_mostWidth : (D_Box_mostWidth.all fun q => decide (decode b_Box_mostWidth q.1 = .ok q.2)) = true := by decide +kernel
def t_Box_mostWidth : pl_TR := fun P _ _ => s_reti P (e_if (b_zero .ne (e_callS Value.int t_Pl_isSize n_Pl_isSize (a_i a_nil (e_callV Value.int 1 t_Box_wantedWidth n_Box_wantedWidth (a_r a_nil (e_locr 0)))))) (e_callV Value.int 1 t_Box_wantedWidth n_Box_wantedWidth (a_r a_nil (e_locr 0))) (e_geti 1 11 (e_locr 0)))
theorem z_Box_mostWidth (l : Launch) : pl_Ctr l y_Box_mostWidth b_Box_mostWidth n_Box_mostWidth (Option.some Jvm.ClassFile.FieldType.int) 1 20 0 0 false t_Box_mostWidth := pl_ctr_of (pe := 0) (by decide) (fun X Y P F Fm => by
  have F : pl_Fx X Y "PageLayouter$Box" b_Box_mostWidth := F
  have r_Box_wantedWidth : 0 + 1 ≤ (pl_xR X).frames ∧ 8 + (n_Box_wantedWidth + 11) + 0 ≤ (pl_xR X).locals := ⟨Nat.le_trans (by decide) Fm.2.2.2.2.2.1, Nat.le_trans (by decide) Fm.2.2.2.2.2.2.1⟩
  have r_Pl_isSize : 0 + 1 ≤ (pl_xR X).frames ∧ 8 + (n_Pl_isSize + 11) + 0 ≤ (pl_xR X).locals := ⟨Nat.le_trans (by decide) Fm.2.2.2.2.2.1, Nat.le_trans (by decide) Fm.2.2.2.2.2.2.1⟩
  have k0 : decode b_Box_mostWidth 0 = .ok (.aload_n 0, 1) := pl_dc dd_Box_mostWidth 0 (q := (0, .aload_n 0, 1)) rfl
  have k1 : decode b_Box_mostWidth 1 = .ok (.invokevirtual 57, 3) := pl_dc dd_Box_mostWidth 1 (q := (1, .invokevirtual 57, 3)) rfl
  have k4 : decode b_Box_mostWidth 4 = .ok (.invokestatic 61, 3) := pl_dc dd_Box_mostWidth 2 (q := (4, .invokestatic 61, 3)) rfl
  have k7 : decode b_Box_mostWidth 7 = .ok (.ifCond .eq 10, 3) := pl_dc dd_Box_mostWidth 3 (q := (7, .ifCond .eq 10, 3)) rfl
  have k10 : decode b_Box_mostWidth 10 = .ok (.aload_n 0, 1) := pl_dc dd_Box_mostWidth 4 (q := (10, .aload_n 0, 1)) rfl
  have k11 : decode b_Box_mostWidth 11 = .ok (.invokevirtual 57, 3) := pl_dc dd_Box_mostWidth 5 (q := (11, .invokevirtual 57, 3)) rfl
  have k14 : decode b_Box_mostWidth 14 = .ok (.goto 7, 3) := pl_dc dd_Box_mostWidth 6 (q := (14, .goto 7, 3)) rfl
  have k17 : decode b_Box_mostWidth 17 = .ok (.aload_n 0, 1) := pl_dc dd_Box_mostWidth 7 (q := (17, .aload_n 0, 1)) rfl
  have k18 : decode b_Box_mostWidth 18 = .ok (.getfield 68, 3) := pl_dc dd_Box_mostWidth 8 (q := (18, .getfield 68, 3)) rfl
  have k21 : decode b_Box_mostWidth 21 = .ok (.ireturn, 1) := pl_dc dd_Box_mostWidth 9 (q := (21, .ireturn, 1)) rfl
  exact (d_reti (p1 := 21) F Fm.2.1 Fm.2.2.1 (c_if (p1 := 10) (p2 := 14) (p3 := 21) F (b_zero_t (p1 := 7) (pj := 17) F (c_callSN (p1 := 4) F (a_i_ok (p1 := 0) a_nil_ok (c_callV (p1 := 1) F (a_r_ok (p1 := 0) a_nil_ok (c_aload_n F k0 rfl)) (z_Box_wantedWidth _) y_Box_wantedWidth_ok lm_Box_57 k1 r_Box_wantedWidth (by decide) (by decide))) (z_Pl_isSize _) y_Pl_isSize_ok ln_Box_61 k4 r_Pl_isSize (by decide) (by decide)) k7 (by decide)) (c_callV (p1 := 11) F (a_r_ok (p1 := 10) a_nil_ok (c_aload_n F k10 rfl)) (z_Box_wantedWidth _) y_Box_wantedWidth_ok lm_Box_57 k11 r_Box_wantedWidth (by decide) (by decide)) k14 (by decide) (c_geti (p1 := 18) F 1 11 hg_1_11 (c_aload_n F k17 rfl) k18 lf_Box_68)) k21))
def y_Box_nextInFlow : MethodName := ⟨"PageLayouter$Box", "nextInFlow", "()LPageLayouter$Box;"⟩
abbrev b_Box_nextInFlow : ByteArray := prog_2_method_6_code
abbrev n_Box_nextInFlow : Nat := 2
theorem y_Box_nextInFlow_ok : pl_MV 1 y_Box_nextInFlow b_Box_nextInFlow n_Box_nextInFlow (Option.some (Jvm.ClassFile.FieldType.object "PageLayouter$Box")) 0 := ⟨pl_mem 437 (by decide +kernel) (by decide +kernel), pl_mem 435 (by decide +kernel) (by decide +kernel), pl_mem 436 (by decide +kernel) (by decide +kernel), pl_mem 45 (by decide +kernel) (by decide +kernel), ⟨by decide, by decide, by decide +kernel⟩, _, rfl, rfl⟩
def D_Box_nextInFlow : List (Nat × Instr × Nat) := [(0, .aload_n 0, 1), (1, .getfield 46, 3), (4, .astore_n 1, 1), (5, .aload_n 1, 1), (6, .ifnull 18, 3), (9, .aload_n 1, 1), (10, .invokevirtual 49, 3), (13, .ifCond .eq 11, 3), (16, .aload_n 1, 1), (17, .getfield 46, 3), (20, .astore_n 1, 1), (21, .goto (-16), 3), (24, .aload_n 1, 1), (25, .areturn, 1)]
theorem dd_Box_nextInFlow : (D_Box_nextInFlow.all fun q => decide (decode b_Box_nextInFlow q.1 = .ok q.2)) = true := by decide +kernel
def t_Box_nextInFlow : pl_TR := fun P _ _ => s_seq (s_setr 1 (e_getr 1 7 (e_locr 0))) (s_seq (s_while (b_and (b_nn (e_locr 1)) (b_zero .ne (e_callV Value.int 1 t_Box_isFree n_Box_isFree (a_r a_nil (e_locr 1))))) (s_setr 1 (e_getr 1 7 (e_locr 1)))) (s_retr P (e_locr 1)))
theorem z_Box_nextInFlow (l : Launch) : pl_Ctr l y_Box_nextInFlow b_Box_nextInFlow n_Box_nextInFlow (Option.some (Jvm.ClassFile.FieldType.object "PageLayouter$Box")) 1 20 0 0 false t_Box_nextInFlow := pl_ctr_of (pe := 0) (by decide) (fun X Y P F Fm => by
  have F : pl_Fx X Y "PageLayouter$Box" b_Box_nextInFlow := F
  have r_Box_isFree : 0 + 1 ≤ (pl_xR X).frames ∧ 8 + (n_Box_isFree + 11) + 0 ≤ (pl_xR X).locals := ⟨Nat.le_trans (by decide) Fm.2.2.2.2.2.1, Nat.le_trans (by decide) Fm.2.2.2.2.2.2.1⟩
  have hm : ∀ i, i < 2 → i < (pl_xc X).maxLocals := fun i h => by rw [Fm.2.2.2.1]; exact h
  have k0 : decode b_Box_nextInFlow 0 = .ok (.aload_n 0, 1) := pl_dc dd_Box_nextInFlow 0 (q := (0, .aload_n 0, 1)) rfl
  have k1 : decode b_Box_nextInFlow 1 = .ok (.getfield 46, 3) := pl_dc dd_Box_nextInFlow 1 (q := (1, .getfield 46, 3)) rfl
  have k4 : decode b_Box_nextInFlow 4 = .ok (.astore_n 1, 1) := pl_dc dd_Box_nextInFlow 2 (q := (4, .astore_n 1, 1)) rfl
  have k5 : decode b_Box_nextInFlow 5 = .ok (.aload_n 1, 1) := pl_dc dd_Box_nextInFlow 3 (q := (5, .aload_n 1, 1)) rfl
  have k6 : decode b_Box_nextInFlow 6 = .ok (.ifnull 18, 3) := pl_dc dd_Box_nextInFlow 4 (q := (6, .ifnull 18, 3)) rfl
  have k9 : decode b_Box_nextInFlow 9 = .ok (.aload_n 1, 1) := pl_dc dd_Box_nextInFlow 5 (q := (9, .aload_n 1, 1)) rfl
  have k10 : decode b_Box_nextInFlow 10 = .ok (.invokevirtual 49, 3) := pl_dc dd_Box_nextInFlow 6 (q := (10, .invokevirtual 49, 3)) rfl
  have k13 : decode b_Box_nextInFlow 13 = .ok (.ifCond .eq 11, 3) := pl_dc dd_Box_nextInFlow 7 (q := (13, .ifCond .eq 11, 3)) rfl
  have k16 : decode b_Box_nextInFlow 16 = .ok (.aload_n 1, 1) := pl_dc dd_Box_nextInFlow 8 (q := (16, .aload_n 1, 1)) rfl
  have k17 : decode b_Box_nextInFlow 17 = .ok (.getfield 46, 3) := pl_dc dd_Box_nextInFlow 9 (q := (17, .getfield 46, 3)) rfl
  have k20 : decode b_Box_nextInFlow 20 = .ok (.astore_n 1, 1) := pl_dc dd_Box_nextInFlow 10 (q := (20, .astore_n 1, 1)) rfl
  have k21 : decode b_Box_nextInFlow 21 = .ok (.goto (-16), 3) := pl_dc dd_Box_nextInFlow 11 (q := (21, .goto (-16), 3)) rfl
  have k24 : decode b_Box_nextInFlow 24 = .ok (.aload_n 1, 1) := pl_dc dd_Box_nextInFlow 12 (q := (24, .aload_n 1, 1)) rfl
  have k25 : decode b_Box_nextInFlow 25 = .ok (.areturn, 1) := pl_dc dd_Box_nextInFlow 13 (q := (25, .areturn, 1)) rfl
  exact (d_seq (p1 := 5) (d_astore_n (p1 := 4) F (c_getr (p1 := 1) F 1 7 hg_1_7 (c_aload_n F k0 rfl) k1 lf_Box_46) k4 rfl (hm 1 (by decide))) (d_seq (p1 := 24) (d_while (p1 := 16) (p2 := 21) F (b_and_t (p1 := 9) (b_nn_t (p1 := 6) (pj := 24) F (c_aload_n F k5 rfl) k6 (by decide)) (b_zero_t (p1 := 13) (pj := 24) F (c_callV (p1 := 10) F (a_r_ok (p1 := 9) a_nil_ok (c_aload_n F k9 rfl)) (z_Box_isFree _) y_Box_isFree_ok lm_Box_49 k10 r_Box_isFree (by decide) (by decide)) k13 (by decide))) (d_astore_n (p1 := 20) F (c_getr (p1 := 17) F 1 7 hg_1_7 (c_aload_n F k16 rfl) k17 lf_Box_46) k20 rfl (hm 1 (by decide))) k21 (by decide)) (d_retr (p1 := 25) F Fm.2.1 Fm.2.2.1 (c_aload_n F k24 rfl) k25))))
