/-! Methods: a transformer for each, and that its bytes do it (laid by wip/whole/drive.py) -/
def y_Columns_measureRow : MethodName := ⟨"PageLayouter$Columns", "measureRow", "(LPageLayouter$Box;I)V"⟩
abbrev b_Columns_measureRow : ByteArray := prog_3_method_4_code
abbrev n_Columns_measureRow : Nat := 5
theorem y_Columns_measureRow_ok : pl_MV 2 y_Columns_measureRow b_Columns_measureRow n_Columns_measureRow (Option.none : Option Jvm.ClassFile.FieldType) 2 := ⟨pl_mem 403 (by decide +kernel) (by decide +kernel), pl_mem 402 (by decide +kernel) (by decide +kernel), pl_mem 4 (by decide +kernel) (by decide +kernel), pl_mem 46 (by decide +kernel) (by decide +kernel), ⟨by decide, by decide, by decide +kernel⟩, _, rfl, rfl⟩
def D_Columns_measureRow : List (Nat × Instr × Nat) := [(0, .iload_n 2, 1), (1, .istore_n 3, 1), (2, .aload_n 1, 1), (3, .invokevirtual 30, 3), (6, .astore 4, 2), (8, .aload 4, 2), (10, .ifnull 106, 3), (13, .iload_n 3, 1), (14, .bipush 40, 2), (16, .if_icmp .ge 100, 3), (19, .iload_n 3, 1), (20, .aload_n 0, 1), (21, .getfield 21, 3), (24, .if_icmp .ne 27, 3), (27, .aload_n 0, 1), (28, .getfield 9, 3), (31, .iload_n 3, 1), (32, .iconst 0, 1), (33, .iastore, 1), (34, .aload_n 0, 1), (35, .getfield 15, 3), (38, .iload_n 3, 1), (39, .iconst 0, 1), (40, .iastore, 1), (41, .aload_n 0, 1), (42, .dup, 1), (43, .getfield 21, 3), (46, .iconst 1, 1), (47, .iadd, 1), (48, .putfield 21, 3), (51, .aload_n 0, 1), (52, .getfield 9, 3), (55, .iload_n 3, 1), (56, .aload_n 0, 1), (57, .getfield 9, 3), (60, .iload_n 3, 1), (61, .iaload, 1), (62, .aload 4, 2), (64, .invokevirtual 44, 3), (67, .aload 4, 2), (69, .invokevirtual 48, 3), (72, .iadd, 1), (73, .invokestatic 51, 3), (76, .iastore, 1), (77, .aload_n 0, 1), (78, .getfield 15, 3), (81, .iload_n 3, 1), (82, .aload_n 0, 1), (83, .getfield 15, 3), (86, .iload_n 3, 1), (87, .iaload, 1), (88, .aload 4, 2), (90, .invokevirtual 57, 3), (93, .aload 4, 2), (95, .invokevirtual 48, 3), (98, .iadd, 1), (99, .invokestatic 51, 3), (102, .iastore, 1), (103, .iinc 3 1, 3), (106, .aload 4, 2), (108, .invokevirtual 38, 3), (111, .astore 4, 2), (113, .goto (-105), 3), (116, .return_, 1)]
theorem dd_Columns_measureRow : (D_Columns_measureRow.all fun q => decide (decode b_Columns_measureRow q.1 = .ok q.2)) = true := by decide +kernel
def t_Columns_measureRow : pl_TR := fun P _ _ => s_seq (s_seq (s_seti 3 (e_loc 2)) (s_seq (s_setr 4 (e_callV id 1 t_Box_firstInFlow n_Box_firstInFlow (a_r a_nil (e_locr 1)))) (s_while (b_and (b_nn (e_locr 4)) (b_cmp .lt (e_loc 3) (e_int 40))) (s_seq (s_seq (s_if (b_cmp .eq (e_loc 3) (e_geti 2 3 (e_locr 0))) (s_seq (s_iast (e_getr 2 0 (e_locr 0)) (e_loc 3) (e_int 0)) (s_seq (s_iast (e_getr 2 1 (e_locr 0)) (e_loc 3) (e_int 0)) (s_updi 2 3 (fun x y : Int32 => x + y) (e_locr 0) (e_int 1))))) (s_seq (s_iast (e_getr 2 0 (e_locr 0)) (e_loc 3) (e_bin pl_max (e_ald 1 (e_getr 2 0 (e_locr 0)) (e_loc 3)) (e_bin (fun x y : Int32 => x + y) (e_callV Value.int 1 t_Box_leastWidth n_Box_leastWidth (a_r a_nil (e_locr 4))) (e_callV Value.int 1 t_Box_edges n_Box_edges (a_r a_nil (e_locr 4)))))) (s_seq (s_iast (e_getr 2 1 (e_locr 0)) (e_loc 3) (e_bin pl_max (e_ald 1 (e_getr 2 1 (e_locr 0)) (e_loc 3)) (e_bin (fun x y : Int32 => x + y) (e_callV Value.int 1 t_Box_mostWidth n_Box_mostWidth (a_r a_nil (e_locr 4))) (e_callV Value.int 1 t_Box_edges n_Box_edges (a_r a_nil (e_locr 4)))))) (s_inc 3 1)))) (s_setr 4 (e_callV id 1 t_Box_nextInFlow n_Box_nextInFlow (a_r a_nil (e_locr 4)))))))) (s_retv P)
theorem z_Columns_measureRow (l : Launch) : pl_Ctr l y_Columns_measureRow b_Columns_measureRow n_Columns_measureRow (Option.none : Option Jvm.ClassFile.FieldType) 2 41 0 0 false t_Columns_measureRow := pl_ctr_of (pe := 0) (by decide) (fun X Y P F Fm => by
  have F : pl_Fx X Y "PageLayouter$Columns" b_Columns_measureRow := F
  have r_Box_edges : 1 + 1 ≤ (pl_xR X).frames ∧ 8 + (n_Box_edges + 11) + 20 ≤ (pl_xR X).locals := ⟨Nat.le_trans (by decide) Fm.2.2.2.2.2.1, Nat.le_trans (by decide) Fm.2.2.2.2.2.2.1⟩
  have r_Box_firstInFlow : 1 + 1 ≤ (pl_xR X).frames ∧ 8 + (n_Box_firstInFlow + 11) + 20 ≤ (pl_xR X).locals := ⟨Nat.le_trans (by decide) Fm.2.2.2.2.2.1, Nat.le_trans (by decide) Fm.2.2.2.2.2.2.1⟩
  have r_Box_leastWidth : 1 + 1 ≤ (pl_xR X).frames ∧ 8 + (n_Box_leastWidth + 11) + 20 ≤ (pl_xR X).locals := ⟨Nat.le_trans (by decide) Fm.2.2.2.2.2.1, Nat.le_trans (by decide) Fm.2.2.2.2.2.2.1⟩
  have r_Box_mostWidth : 1 + 1 ≤ (pl_xR X).frames ∧ 8 + (n_Box_mostWidth + 11) + 20 ≤ (pl_xR X).locals := ⟨Nat.le_trans (by decide) Fm.2.2.2.2.2.1, Nat.le_trans (by decide) Fm.2.2.2.2.2.2.1⟩
  have r_Box_nextInFlow : 1 + 1 ≤ (pl_xR X).frames ∧ 8 + (n_Box_nextInFlow + 11) + 20 ≤ (pl_xR X).locals := ⟨Nat.le_trans (by decide) Fm.2.2.2.2.2.1, Nat.le_trans (by decide) Fm.2.2.2.2.2.2.1⟩
  have R0 : 1 ≤ (pl_xR X).frames ∧ 21 ≤ (pl_xR X).locals := ⟨Nat.le_trans (by decide) Fm.2.2.2.2.2.1, Nat.le_trans (by decide) Fm.2.2.2.2.2.2.1⟩
  have hm : ∀ i, i < 5 → i < (pl_xc X).maxLocals := fun i h => by rw [Fm.2.2.2.1]; exact h
  have k0 : decode b_Columns_measureRow 0 = .ok (.iload_n 2, 1) := pl_dc dd_Columns_measureRow 0 (q := (0, .iload_n 2, 1)) rfl
  have k1 : decode b_Columns_measureRow 1 = .ok (.istore_n 3, 1) := pl_dc dd_Columns_measureRow 1 (q := (1, .istore_n 3, 1)) rfl
  have k2 : decode b_Columns_measureRow 2 = .ok (.aload_n 1, 1) := pl_dc dd_Columns_measureRow 2 (q := (2, .aload_n 1, 1)) rfl
  have k3 : decode b_Columns_measureRow 3 = .ok (.invokevirtual 30, 3) := pl_dc dd_Columns_measureRow 3 (q := (3, .invokevirtual 30, 3)) rfl
  have k6 : decode b_Columns_measureRow 6 = .ok (.astore 4, 2) := pl_dc dd_Columns_measureRow 4 (q := (6, .astore 4, 2)) rfl
  have k8 : decode b_Columns_measureRow 8 = .ok (.aload 4, 2) := pl_dc dd_Columns_measureRow 5 (q := (8, .aload 4, 2)) rfl
  have k10 : decode b_Columns_measureRow 10 = .ok (.ifnull 106, 3) := pl_dc dd_Columns_measureRow 6 (q := (10, .ifnull 106, 3)) rfl
  have k13 : decode b_Columns_measureRow 13 = .ok (.iload_n 3, 1) := pl_dc dd_Columns_measureRow 7 (q := (13, .iload_n 3, 1)) rfl
  have k14 : decode b_Columns_measureRow 14 = .ok (.bipush 40, 2) := pl_dc dd_Columns_measureRow 8 (q := (14, .bipush 40, 2)) rfl
  have k16 : decode b_Columns_measureRow 16 = .ok (.if_icmp .ge 100, 3) := pl_dc dd_Columns_measureRow 9 (q := (16, .if_icmp .ge 100, 3)) rfl
  have k19 : decode b_Columns_measureRow 19 = .ok (.iload_n 3, 1) := pl_dc dd_Columns_measureRow 10 (q := (19, .iload_n 3, 1)) rfl
  have k20 : decode b_Columns_measureRow 20 = .ok (.aload_n 0, 1) := pl_dc dd_Columns_measureRow 11 (q := (20, .aload_n 0, 1)) rfl
  have k21 : decode b_Columns_measureRow 21 = .ok (.getfield 21, 3) := pl_dc dd_Columns_measureRow 12 (q := (21, .getfield 21, 3)) rfl
  have k24 : decode b_Columns_measureRow 24 = .ok (.if_icmp .ne 27, 3) := pl_dc dd_Columns_measureRow 13 (q := (24, .if_icmp .ne 27, 3)) rfl
  have k27 : decode b_Columns_measureRow 27 = .ok (.aload_n 0, 1) := pl_dc dd_Columns_measureRow 14 (q := (27, .aload_n 0, 1)) rfl
  have k28 : decode b_Columns_measureRow 28 = .ok (.getfield 9, 3) := pl_dc dd_Columns_measureRow 15 (q := (28, .getfield 9, 3)) rfl
  have k31 : decode b_Columns_measureRow 31 = .ok (.iload_n 3, 1) := pl_dc dd_Columns_measureRow 16 (q := (31, .iload_n 3, 1)) rfl
  have k32 : decode b_Columns_measureRow 32 = .ok (.iconst 0, 1) := pl_dc dd_Columns_measureRow 17 (q := (32, .iconst 0, 1)) rfl
  have k33 : decode b_Columns_measureRow 33 = .ok (.iastore, 1) := pl_dc dd_Columns_measureRow 18 (q := (33, .iastore, 1)) rfl
  have k34 : decode b_Columns_measureRow 34 = .ok (.aload_n 0, 1) := pl_dc dd_Columns_measureRow 19 (q := (34, .aload_n 0, 1)) rfl
  have k35 : decode b_Columns_measureRow 35 = .ok (.getfield 15, 3) := pl_dc dd_Columns_measureRow 20 (q := (35, .getfield 15, 3)) rfl
  have k38 : decode b_Columns_measureRow 38 = .ok (.iload_n 3, 1) := pl_dc dd_Columns_measureRow 21 (q := (38, .iload_n 3, 1)) rfl
  have k39 : decode b_Columns_measureRow 39 = .ok (.iconst 0, 1) := pl_dc dd_Columns_measureRow 22 (q := (39, .iconst 0, 1)) rfl
  have k40 : decode b_Columns_measureRow 40 = .ok (.iastore, 1) := pl_dc dd_Columns_measureRow 23 (q := (40, .iastore, 1)) rfl
  have k41 : decode b_Columns_measureRow 41 = .ok (.aload_n 0, 1) := pl_dc dd_Columns_measureRow 24 (q := (41, .aload_n 0, 1)) rfl
  have k42 : decode b_Columns_measureRow 42 = .ok (.dup, 1) := pl_dc dd_Columns_measureRow 25 (q := (42, .dup, 1)) rfl
  have k43 : decode b_Columns_measureRow 43 = .ok (.getfield 21, 3) := pl_dc dd_Columns_measureRow 26 (q := (43, .getfield 21, 3)) rfl
  have k46 : decode b_Columns_measureRow 46 = .ok (.iconst 1, 1) := pl_dc dd_Columns_measureRow 27 (q := (46, .iconst 1, 1)) rfl
  have k47 : decode b_Columns_measureRow 47 = .ok (.iadd, 1) := pl_dc dd_Columns_measureRow 28 (q := (47, .iadd, 1)) rfl
  have k48 : decode b_Columns_measureRow 48 = .ok (.putfield 21, 3) := pl_dc dd_Columns_measureRow 29 (q := (48, .putfield 21, 3)) rfl
  have k51 : decode b_Columns_measureRow 51 = .ok (.aload_n 0, 1) := pl_dc dd_Columns_measureRow 30 (q := (51, .aload_n 0, 1)) rfl
  have k52 : decode b_Columns_measureRow 52 = .ok (.getfield 9, 3) := pl_dc dd_Columns_measureRow 31 (q := (52, .getfield 9, 3)) rfl
  have k55 : decode b_Columns_measureRow 55 = .ok (.iload_n 3, 1) := pl_dc dd_Columns_measureRow 32 (q := (55, .iload_n 3, 1)) rfl
  have k56 : decode b_Columns_measureRow 56 = .ok (.aload_n 0, 1) := pl_dc dd_Columns_measureRow 33 (q := (56, .aload_n 0, 1)) rfl
  have k57 : decode b_Columns_measureRow 57 = .ok (.getfield 9, 3) := pl_dc dd_Columns_measureRow 34 (q := (57, .getfield 9, 3)) rfl
  have k60 : decode b_Columns_measureRow 60 = .ok (.iload_n 3, 1) := pl_dc dd_Columns_measureRow 35 (q := (60, .iload_n 3, 1)) rfl
  have k61 : decode b_Columns_measureRow 61 = .ok (.iaload, 1) := pl_dc dd_Columns_measureRow 36 (q := (61, .iaload, 1)) rfl
  have k62 : decode b_Columns_measureRow 62 = .ok (.aload 4, 2) := pl_dc dd_Columns_measureRow 37 (q := (62, .aload 4, 2)) rfl
  have k64 : decode b_Columns_measureRow 64 = .ok (.invokevirtual 44, 3) := pl_dc dd_Columns_measureRow 38 (q := (64, .invokevirtual 44, 3)) rfl
  have k67 : decode b_Columns_measureRow 67 = .ok (.aload 4, 2) := pl_dc dd_Columns_measureRow 39 (q := (67, .aload 4, 2)) rfl
  have k69 : decode b_Columns_measureRow 69 = .ok (.invokevirtual 48, 3) := pl_dc dd_Columns_measureRow 40 (q := (69, .invokevirtual 48, 3)) rfl
  have k72 : decode b_Columns_measureRow 72 = .ok (.iadd, 1) := pl_dc dd_Columns_measureRow 41 (q := (72, .iadd, 1)) rfl
  have k73 : decode b_Columns_measureRow 73 = .ok (.invokestatic 51, 3) := pl_dc dd_Columns_measureRow 42 (q := (73, .invokestatic 51, 3)) rfl
  have k76 : decode b_Columns_measureRow 76 = .ok (.iastore, 1) := pl_dc dd_Columns_measureRow 43 (q := (76, .iastore, 1)) rfl
  have k77 : decode b_Columns_measureRow 77 = .ok (.aload_n 0, 1) := pl_dc dd_Columns_measureRow 44 (q := (77, .aload_n 0, 1)) rfl
  have k78 : decode b_Columns_measureRow 78 = .ok (.getfield 15, 3) := pl_dc dd_Columns_measureRow 45 (q := (78, .getfield 15, 3)) rfl
  have k81 : decode b_Columns_measureRow 81 = .ok (.iload_n 3, 1) := pl_dc dd_Columns_measureRow 46 (q := (81, .iload_n 3, 1)) rfl
  have k82 : decode b_Columns_measureRow 82 = .ok (.aload_n 0, 1) := pl_dc dd_Columns_measureRow 47 (q := (82, .aload_n 0, 1)) rfl
  have k83 : decode b_Columns_measureRow 83 = .ok (.getfield 15, 3) := pl_dc dd_Columns_measureRow 48 (q := (83, .getfield 15, 3)) rfl
  have k86 : decode b_Columns_measureRow 86 = .ok (.iload_n 3, 1) := pl_dc dd_Columns_measureRow 49 (q := (86, .iload_n 3, 1)) rfl
  have k87 : decode b_Columns_measureRow 87 = .ok (.iaload, 1) := pl_dc dd_Columns_measureRow 50 (q := (87, .iaload, 1)) rfl
  have k88 : decode b_Columns_measureRow 88 = .ok (.aload 4, 2) := pl_dc dd_Columns_measureRow 51 (q := (88, .aload 4, 2)) rfl
  have k90 : decode b_Columns_measureRow 90 = .ok (.invokevirtual 57, 3) := pl_dc dd_Columns_measureRow 52 (q := (90, .invokevirtual 57, 3)) rfl
  have k93 : decode b_Columns_measureRow 93 = .ok (.aload 4, 2) := pl_dc dd_Columns_measureRow 53 (q := (93, .aload 4, 2)) rfl
  have k95 : decode b_Columns_measureRow 95 = .ok (.invokevirtual 48, 3) := pl_dc dd_Columns_measureRow 54 (q := (95, .invokevirtual 48, 3)) rfl
  have k98 : decode b_Columns_measureRow 98 = .ok (.iadd, 1) := pl_dc dd_Columns_measureRow 55 (q := (98, .iadd, 1)) rfl
  have k99 : decode b_Columns_measureRow 99 = .ok (.invokestatic 51, 3) := pl_dc dd_Columns_measureRow 56 (q := (99, .invokestatic 51, 3)) rfl
  have k102 : decode b_Columns_measureRow 102 = .ok (.iastore, 1) := pl_dc dd_Columns_measureRow 57 (q := (102, .iastore, 1)) rfl
  have k103 : decode b_Columns_measureRow 103 = .ok (.iinc 3 1, 3) := pl_dc dd_Columns_measureRow 58 (q := (103, .iinc 3 1, 3)) rfl
  have k106 : decode b_Columns_measureRow 106 = .ok (.aload 4, 2) := pl_dc dd_Columns_measureRow 59 (q := (106, .aload 4, 2)) rfl
  have k108 : decode b_Columns_measureRow 108 = .ok (.invokevirtual 38, 3) := pl_dc dd_Columns_measureRow 60 (q := (108, .invokevirtual 38, 3)) rfl
  have k111 : decode b_Columns_measureRow 111 = .ok (.astore 4, 2) := pl_dc dd_Columns_measureRow 61 (q := (111, .astore 4, 2)) rfl
  have k113 : decode b_Columns_measureRow 113 = .ok (.goto (-105), 3) := pl_dc dd_Columns_measureRow 62 (q := (113, .goto (-105), 3)) rfl
  have k116 : decode b_Columns_measureRow 116 = .ok (.return_, 1) := pl_dc dd_Columns_measureRow 63 (q := (116, .return_, 1)) rfl
  exact (d_seq (p1 := 116) (d_seq (p1 := 2) (d_istore_n (p1 := 1) F (c_iload_n F k0 rfl) k1 rfl (hm 3 (by decide))) (d_seq (p1 := 8) (d_astore (p1 := 6) F (c_callV (p1 := 3) F (a_r_ok (p1 := 2) a_nil_ok (c_aload_n F k2 rfl)) (z_Box_firstInFlow _) y_Box_firstInFlow_ok lm_Columns_30 k3 r_Box_firstInFlow (by decide) (by decide)) k6 (hm 4 (by decide))) (d_while (p1 := 19) (p2 := 113) F (b_and_t (p1 := 13) (b_nn_t (p1 := 10) (pj := 116) F (c_aload F k8) k10 (by decide)) (b_cmp_t (p1 := 14) (p2 := 16) (pj := 116) F (c_iload_n F k13 rfl) (c_bipush F k14 (by decide)) k16 (by decide))) (d_seq (p1 := 106) (d_seq (p1 := 51) (d_if (p1 := 27) (p2 := 51) (b_cmp_t (p1 := 20) (p2 := 24) (pj := 51) F (c_iload_n F k19 rfl) (c_geti (p1 := 21) F 2 3 hg_2_3 (c_aload_n F k20 rfl) k21 lf_Columns_21) k24 (by decide)) (d_seq (p1 := 34) (d_iast (p1 := 31) (p2 := 32) (p3 := 33) F (c_getr (p1 := 28) F 2 0 hg_2_0 (c_aload_n F k27 rfl) k28 lf_Columns_9) (c_iload_n F k31 rfl) (c_iconst F k32 (by decide)) k33) (d_seq (p1 := 41) (d_iast (p1 := 38) (p2 := 39) (p3 := 40) F (c_getr (p1 := 35) F 2 1 hg_2_1 (c_aload_n F k34 rfl) k35 lf_Columns_15) (c_iload_n F k38 rfl) (c_iconst F k39 (by decide)) k40) (d_updi (p1 := 42) (p2 := 47) F 2 3 hp_2_3 (c_aload_n F k41 rfl) k42 k43 (c_iconst F k46 (by decide)) (j_iadd F k47) k48 lf_Columns_21)))) (d_seq (p1 := 77) (d_iast (p1 := 55) (p2 := 56) (p3 := 76) F (c_getr (p1 := 52) F 2 0 hg_2_0 (c_aload_n F k51 rfl) k52 lf_Columns_9) (c_iload_n F k55 rfl) (c_max (p1 := 62) (p2 := 73) F (c_iald (p1 := 60) (p2 := 61) F (c_getr (p1 := 57) F 2 0 hg_2_0 (c_aload_n F k56 rfl) k57 lf_Columns_9) (c_iload_n F k60 rfl) k61) (c_bin 1 (p1 := 67) (p2 := 72) (c_callV (p1 := 64) F (a_r_ok (p1 := 62) a_nil_ok (c_aload F k62)) (z_Box_leastWidth _) y_Box_leastWidth_ok lm_Columns_44 k64 r_Box_leastWidth (by decide) (by decide)) (c_callV (p1 := 69) F (a_r_ok (p1 := 67) a_nil_ok (c_aload F k67)) (z_Box_edges _) y_Box_edges_ok lm_Columns_48 k69 r_Box_edges (by decide) (by decide)) pl_c1 (j_iadd F k72)) k73 lm_Columns_51 hm_max R0 (by decide)) k76) (d_seq (p1 := 103) (d_iast (p1 := 81) (p2 := 82) (p3 := 102) F (c_getr (p1 := 78) F 2 1 hg_2_1 (c_aload_n F k77 rfl) k78 lf_Columns_15) (c_iload_n F k81 rfl) (c_max (p1 := 88) (p2 := 99) F (c_iald (p1 := 86) (p2 := 87) F (c_getr (p1 := 83) F 2 1 hg_2_1 (c_aload_n F k82 rfl) k83 lf_Columns_15) (c_iload_n F k86 rfl) k87) (c_bin 1 (p1 := 93) (p2 := 98) (c_callV (p1 := 90) F (a_r_ok (p1 := 88) a_nil_ok (c_aload F k88)) (z_Box_mostWidth _) y_Box_mostWidth_ok lm_Columns_57 k90 r_Box_mostWidth (by decide) (by decide)) (c_callV (p1 := 95) F (a_r_ok (p1 := 93) a_nil_ok (c_aload F k93)) (z_Box_edges _) y_Box_edges_ok lm_Columns_48 k95 r_Box_edges (by decide) (by decide)) pl_c1 (j_iadd F k98)) k99 lm_Columns_51 hm_max R0 (by decide)) k102) (d_iinc F k103 (by decide) (hm 3 (by decide)))))) (d_astore (p1 := 111) F (c_callV (p1 := 108) F (a_r_ok (p1 := 106) a_nil_ok (c_aload F k106)) (z_Box_nextInFlow _) y_Box_nextInFlow_ok lm_Columns_38 k108 r_Box_nextInFlow (by decide) (by decide)) k111 (hm 4 (by decide)))) k113 (by decide)))) (d_retv F Fm.2.1 Fm.2.2.1 k116)))
def y_Columns_measure : MethodName := ⟨"PageLayouter$Columns", "measure", "(LPageLayouter$Box;)V"⟩
abbrev b_Columns_measure : ByteArray := prog_3_method_3_code
abbrev n_Columns_measure : Nat := 3
theorem y_Columns_measure_ok : pl_MV 2 y_Columns_measure b_Columns_measure n_Columns_measure (Option.none : Option Jvm.ClassFile.FieldType) 1 := ⟨pl_mem 395 (by decide +kernel) (by decide +kernel), pl_mem 393 (by decide +kernel) (by decide +kernel), pl_mem 394 (by decide +kernel) (by decide +kernel), pl_mem 46 (by decide +kernel) (by decide +kernel), ⟨by decide, by decide, by decide +kernel⟩, _, rfl, rfl⟩
def D_Columns_measure : List (Nat × Instr × Nat) := [(0, .aload_n 1, 1), (1, .aload_n 0, 1), (2, .getfield 21, 3), (5, .putfield 25, 3), (8, .aload_n 1, 1), (9, .invokevirtual 30, 3), (12, .astore_n 2, 1), (13, .aload_n 2, 1), (14, .ifnull 20, 3), (17, .aload_n 0, 1), (18, .aload_n 2, 1), (19, .aload_n 1, 1), (20, .getfield 25, 3), (23, .invokevirtual 34, 3), (26, .aload_n 2, 1), (27, .invokevirtual 38, 3), (30, .astore_n 2, 1), (31, .goto (-18), 3), (34, .aload_n 1, 1), (35, .aload_n 0, 1), (36, .getfield 21, 3), (39, .aload_n 1, 1), (40, .getfield 25, 3), (43, .isub, 1), (44, .putfield 41, 3), (47, .return_, 1)]
theorem dd_Columns_measure : (D_Columns_measure.all fun q => decide (decode b_Columns_measure q.1 = .ok q.2)) = true := by decide +kernel
def t_Columns_measure : pl_TR := fun P _ _ => s_seq (s_seq (s_puti 1 12 (e_locr 1) (e_geti 2 3 (e_locr 0))) (s_seq (s_seq (s_setr 2 (e_callV id 1 t_Box_firstInFlow n_Box_firstInFlow (a_r a_nil (e_locr 1)))) (s_while (b_nn (e_locr 2)) (s_seq (s_callV 2 t_Columns_measureRow n_Columns_measureRow (a_i (a_r (a_r a_nil (e_locr 0)) (e_locr 2)) (e_geti 1 12 (e_locr 1)))) (s_setr 2 (e_callV id 1 t_Box_nextInFlow n_Box_nextInFlow (a_r a_nil (e_locr 2))))))) (s_puti 1 13 (e_locr 1) (e_bin (fun x y : Int32 => x - y) (e_geti 2 3 (e_locr 0)) (e_geti 1 12 (e_locr 1)))))) (s_retv P)
theorem z_Columns_measure (l : Launch) : pl_Ctr l y_Columns_measure b_Columns_measure n_Columns_measure (Option.none : Option Jvm.ClassFile.FieldType) 3 65 0 0 false t_Columns_measure := pl_ctr_of (pe := 0) (by decide) (fun X Y P F Fm => by
  have F : pl_Fx X Y "PageLayouter$Columns" b_Columns_measure := F
  have r_Box_firstInFlow : 1 + 1 ≤ (pl_xR X).frames ∧ 8 + (n_Box_firstInFlow + 11) + 20 ≤ (pl_xR X).locals := ⟨Nat.le_trans (by decide) Fm.2.2.2.2.2.1, Nat.le_trans (by decide) Fm.2.2.2.2.2.2.1⟩
  have r_Box_nextInFlow : 1 + 1 ≤ (pl_xR X).frames ∧ 8 + (n_Box_nextInFlow + 11) + 20 ≤ (pl_xR X).locals := ⟨Nat.le_trans (by decide) Fm.2.2.2.2.2.1, Nat.le_trans (by decide) Fm.2.2.2.2.2.2.1⟩
  have r_Columns_measureRow : 2 + 1 ≤ (pl_xR X).frames ∧ 8 + (n_Columns_measureRow + 11) + 41 ≤ (pl_xR X).locals := ⟨Nat.le_trans (by decide) Fm.2.2.2.2.2.1, Nat.le_trans (by decide) Fm.2.2.2.2.2.2.1⟩
  have hm : ∀ i, i < 3 → i < (pl_xc X).maxLocals := fun i h => by rw [Fm.2.2.2.1]; exact h
  have k0 : decode b_Columns_measure 0 = .ok (.aload_n 1, 1) := pl_dc dd_Columns_measure 0 (q := (0, .aload_n 1, 1)) rfl
  have k1 : decode b_Columns_measure 1 = .ok (.aload_n 0, 1) := pl_dc dd_Columns_measure 1 (q := (1, .aload_n 0, 1)) rfl
  have k2 : decode b_Columns_measure 2 = .ok (.getfield 21, 3) := pl_dc dd_Columns_measure 2 (q := (2, .getfield 21, 3)) rfl
  have k5 : decode b_Columns_measure 5 = .ok (.putfield 25, 3) := pl_dc dd_Columns_measure 3 (q := (5, .putfield 25, 3)) rfl
  have k8 : decode b_Columns_measure 8 = .ok (.aload_n 1, 1) := pl_dc dd_Columns_measure 4 (q := (8, .aload_n 1, 1)) rfl
  have k9 : decode b_Columns_measure 9 = .ok (.invokevirtual 30, 3) := pl_dc dd_Columns_measure 5 (q := (9, .invokevirtual 30, 3)) rfl
  have k12 : decode b_Columns_measure 12 = .ok (.astore_n 2, 1) := pl_dc dd_Columns_measure 6 (q := (12, .astore_n 2, 1)) rfl
  have k13 : decode b_Columns_measure 13 = .ok (.aload_n 2, 1) := pl_dc dd_Columns_measure 7 (q := (13, .aload_n 2, 1)) rfl
  have k14 : decode b_Columns_measure 14 = .ok (.ifnull 20, 3) := pl_dc dd_Columns_measure 8 (q := (14, .ifnull 20, 3)) rfl
  have k17 : decode b_Columns_measure 17 = .ok (.aload_n 0, 1) := pl_dc dd_Columns_measure 9 (q := (17, .aload_n 0, 1)) rfl
  have k18 : decode b_Columns_measure 18 = .ok (.aload_n 2, 1) := pl_dc dd_Columns_measure 10 (q := (18, .aload_n 2, 1)) rfl
  have k19 : decode b_Columns_measure 19 = .ok (.aload_n 1, 1) := pl_dc dd_Columns_measure 11 (q := (19, .aload_n 1, 1)) rfl
  have k20 : decode b_Columns_measure 20 = .ok (.getfield 25, 3) := pl_dc dd_Columns_measure 12 (q := (20, .getfield 25, 3)) rfl
  have k23 : decode b_Columns_measure 23 = .ok (.invokevirtual 34, 3) := pl_dc dd_Columns_measure 13 (q := (23, .invokevirtual 34, 3)) rfl
  have k26 : decode b_Columns_measure 26 = .ok (.aload_n 2, 1) := pl_dc dd_Columns_measure 14 (q := (26, .aload_n 2, 1)) rfl
  have k27 : decode b_Columns_measure 27 = .ok (.invokevirtual 38, 3) := pl_dc dd_Columns_measure 15 (q := (27, .invokevirtual 38, 3)) rfl
  have k30 : decode b_Columns_measure 30 = .ok (.astore_n 2, 1) := pl_dc dd_Columns_measure 16 (q := (30, .astore_n 2, 1)) rfl
  have k31 : decode b_Columns_measure 31 = .ok (.goto (-18), 3) := pl_dc dd_Columns_measure 17 (q := (31, .goto (-18), 3)) rfl
  have k34 : decode b_Columns_measure 34 = .ok (.aload_n 1, 1) := pl_dc dd_Columns_measure 18 (q := (34, .aload_n 1, 1)) rfl
  have k35 : decode b_Columns_measure 35 = .ok (.aload_n 0, 1) := pl_dc dd_Columns_measure 19 (q := (35, .aload_n 0, 1)) rfl
  have k36 : decode b_Columns_measure 36 = .ok (.getfield 21, 3) := pl_dc dd_Columns_measure 20 (q := (36, .getfield 21, 3)) rfl
  have k39 : decode b_Columns_measure 39 = .ok (.aload_n 1, 1) := pl_dc dd_Columns_measure 21 (q := (39, .aload_n 1, 1)) rfl
  have k40 : decode b_Columns_measure 40 = .ok (.getfield 25, 3) := pl_dc dd_Columns_measure 22 (q := (40, .getfield 25, 3)) rfl
  have k43 : decode b_Columns_measure 43 = .ok (.isub, 1) := pl_dc dd_Columns_measure 23 (q := (43, .isub, 1)) rfl
  have k44 : decode b_Columns_measure 44 = .ok (.putfield 41, 3) := pl_dc dd_Columns_measure 24 (q := (44, .putfield 41, 3)) rfl
  have k47 : decode b_Columns_measure 47 = .ok (.return_, 1) := pl_dc dd_Columns_measure 25 (q := (47, .return_, 1)) rfl
  exact (d_seq (p1 := 47) (d_seq (p1 := 8) (d_puti (p1 := 1) (p2 := 5) F 1 12 hp_1_12 (c_aload_n F k0 rfl) (c_geti (p1 := 2) F 2 3 hg_2_3 (c_aload_n F k1 rfl) k2 lf_Columns_21) k5 lf_Columns_25) (d_seq (p1 := 34) (d_seq (p1 := 13) (d_astore_n (p1 := 12) F (c_callV (p1 := 9) F (a_r_ok (p1 := 8) a_nil_ok (c_aload_n F k8 rfl)) (z_Box_firstInFlow _) y_Box_firstInFlow_ok lm_Columns_30 k9 r_Box_firstInFlow (by decide) (by decide)) k12 rfl (hm 2 (by decide))) (d_while (p1 := 17) (p2 := 31) F (b_nn_t (p1 := 14) (pj := 34) F (c_aload_n F k13 rfl) k14 (by decide)) (d_seq (p1 := 26) (d_callV (p1 := 23) F (a_i_ok (p1 := 19) (a_r_ok (p1 := 18) (a_r_ok (p1 := 17) a_nil_ok (c_aload_n F k17 rfl)) (c_aload_n F k18 rfl)) (c_geti (p1 := 20) F 1 12 hg_1_12 (c_aload_n F k19 rfl) k20 lf_Columns_25)) (z_Columns_measureRow _) y_Columns_measureRow_ok lm_Columns_34 k23 r_Columns_measureRow (by decide)) (d_astore_n (p1 := 30) F (c_callV (p1 := 27) F (a_r_ok (p1 := 26) a_nil_ok (c_aload_n F k26 rfl)) (z_Box_nextInFlow _) y_Box_nextInFlow_ok lm_Columns_38 k27 r_Box_nextInFlow (by decide) (by decide)) k30 rfl (hm 2 (by decide)))) k31 (by decide))) (d_puti (p1 := 35) (p2 := 44) F 1 13 hp_1_13 (c_aload_n F k34 rfl) (c_bin 1 (p1 := 39) (p2 := 43) (c_geti (p1 := 36) F 2 3 hg_2_3 (c_aload_n F k35 rfl) k36 lf_Columns_21) (c_geti (p1 := 40) F 1 12 hg_1_12 (c_aload_n F k39 rfl) k40 lf_Columns_25) pl_c1 (j_isub F k43)) k44 lf_Columns_41))) (d_retv F Fm.2.1 Fm.2.2.1 k47)))
def y_Cores_findByWords : MethodName := ⟨"PageLayouter$Cores", "findByWords", "(LPageLayouter$Box;)V"⟩
abbrev b_Cores_findByWords : ByteArray := prog_4_method_3_code
abbrev n_Cores_findByWords : Nat := 3
theorem y_Cores_findByWords_ok : pl_MS y_Cores_findByWords b_Cores_findByWords n_Cores_findByWords (Option.none : Option Jvm.ClassFile.FieldType) 1 := ⟨pl_mem 441 (by decide +kernel) (by decide +kernel), pl_mem 440 (by decide +kernel) (by decide +kernel), pl_mem 54 (by decide +kernel) (by decide +kernel), ⟨by decide, by decide, by decide +kernel⟩⟩
def D_Cores_findByWords : List (Nat × Instr × Nat) := [(0, .aload_n 0, 1), (1, .getfield 39, 3), (4, .bipush 6, 2), (6, .iaload, 1), (7, .istore_n 1, 1), (8, .aload_n 0, 1), (9, .getfield 39, 3), (12, .bipush 7, 2), (14, .iaload, 1), (15, .istore_n 2, 1), (16, .aload_n 0, 1), (17, .iload_n 1, 1), (18, .ifCond .ne 7, 3), (21, .iconst 0, 1), (22, .goto 4, 3), (25, .iload_n 2, 1), (26, .putfield 43, 3), (29, .aload_n 0, 1), (30, .iload_n 1, 1), (31, .ifCond .ne 7, 3), (34, .iconst 0, 1), (35, .goto 10, 3), (38, .iload_n 1, 1), (39, .iload_n 2, 1), (40, .imul, 1), (41, .iload_n 1, 1), (42, .iadd, 1), (43, .iconst 1, 1), (44, .isub, 1), (45, .putfield 46, 3), (48, .return_, 1)]
theorem dd_Cores_findByWords : (D_Cores_findByWords.all fun q => decide (decode b_Cores_findByWords q.1 = .ok q.2)) = true := by decide +kernel
def t_Cores_findByWords : pl_TR := fun P _ _ => s_seq (s_seq (s_seti 1 (e_ald 1 (e_getr 1 4 (e_locr 0)) (e_int 6))) (s_seq (s_seti 2 (e_ald 1 (e_getr 1 4 (e_locr 0)) (e_int 7))) (s_seq (s_puti 1 10 (e_locr 0) (e_if (b_zero .eq (e_loc 1)) (e_int 0) (e_loc 2))) (s_puti 1 11 (e_locr 0) (e_if (b_zero .eq (e_loc 1)) (e_int 0) (e_bin (fun x y : Int32 => x - y) (e_bin (fun x y : Int32 => x + y) (e_bin (fun x y : Int32 => x * y) (e_loc 1) (e_loc 2)) (e_loc 1)) (e_int 1))))))) (s_retv P)
theorem z_Cores_findByWords (l : Launch) : pl_Ctr l y_Cores_findByWords b_Cores_findByWords n_Cores_findByWords (Option.none : Option Jvm.ClassFile.FieldType) 0 0 0 0 false t_Cores_findByWords := pl_ctr_of (pe := 0) (by decide) (fun X Y P F Fm => by
  have F : pl_Fx X Y "PageLayouter$Cores" b_Cores_findByWords := F
  have hm : ∀ i, i < 3 → i < (pl_xc X).maxLocals := fun i h => by rw [Fm.2.2.2.1]; exact h
  have k0 : decode b_Cores_findByWords 0 = .ok (.aload_n 0, 1) := pl_dc dd_Cores_findByWords 0 (q := (0, .aload_n 0, 1)) rfl
  have k1 : decode b_Cores_findByWords 1 = .ok (.getfield 39, 3) := pl_dc dd_Cores_findByWords 1 (q := (1, .getfield 39, 3)) rfl
  have k4 : decode b_Cores_findByWords 4 = .ok (.bipush 6, 2) := pl_dc dd_Cores_findByWords 2 (q := (4, .bipush 6, 2)) rfl
  have k6 : decode b_Cores_findByWords 6 = .ok (.iaload, 1) := pl_dc dd_Cores_findByWords 3 (q := (6, .iaload, 1)) rfl
  have k7 : decode b_Cores_findByWords 7 = .ok (.istore_n 1, 1) := pl_dc dd_Cores_findByWords 4 (q := (7, .istore_n 1, 1)) rfl
  have k8 : decode b_Cores_findByWords 8 = .ok (.aload_n 0, 1) := pl_dc dd_Cores_findByWords 5 (q := (8, .aload_n 0, 1)) rfl
  have k9 : decode b_Cores_findByWords 9 = .ok (.getfield 39, 3) := pl_dc dd_Cores_findByWords 6 (q := (9, .getfield 39, 3)) rfl
  have k12 : decode b_Cores_findByWords 12 = .ok (.bipush 7, 2) := pl_dc dd_Cores_findByWords 7 (q := (12, .bipush 7, 2)) rfl
  have k14 : decode b_Cores_findByWords 14 = .ok (.iaload, 1) := pl_dc dd_Cores_findByWords 8 (q := (14, .iaload, 1)) rfl
  have k15 : decode b_Cores_findByWords 15 = .ok (.istore_n 2, 1) := pl_dc dd_Cores_findByWords 9 (q := (15, .istore_n 2, 1)) rfl
  have k16 : decode b_Cores_findByWords 16 = .ok (.aload_n 0, 1) := pl_dc dd_Cores_findByWords 10 (q := (16, .aload_n 0, 1)) rfl
  have k17 : decode b_Cores_findByWords 17 = .ok (.iload_n 1, 1) := pl_dc dd_Cores_findByWords 11 (q := (17, .iload_n 1, 1)) rfl
  have k18 : decode b_Cores_findByWords 18 = .ok (.ifCond .ne 7, 3) := pl_dc dd_Cores_findByWords 12 (q := (18, .ifCond .ne 7, 3)) rfl
  have k21 : decode b_Cores_findByWords 21 = .ok (.iconst 0, 1) := pl_dc dd_Cores_findByWords 13 (q := (21, .iconst 0, 1)) rfl
  have k22 : decode b_Cores_findByWords 22 = .ok (.goto 4, 3) := pl_dc dd_Cores_findByWords 14 (q := (22, .goto 4, 3)) rfl
  have k25 : decode b_Cores_findByWords 25 = .ok (.iload_n 2, 1) := pl_dc dd_Cores_findByWords 15 (q := (25, .iload_n 2, 1)) rfl
  have k26 : decode b_Cores_findByWords 26 = .ok (.putfield 43, 3) := pl_dc dd_Cores_findByWords 16 (q := (26, .putfield 43, 3)) rfl
  have k29 : decode b_Cores_findByWords 29 = .ok (.aload_n 0, 1) := pl_dc dd_Cores_findByWords 17 (q := (29, .aload_n 0, 1)) rfl
  have k30 : decode b_Cores_findByWords 30 = .ok (.iload_n 1, 1) := pl_dc dd_Cores_findByWords 18 (q := (30, .iload_n 1, 1)) rfl
  have k31 : decode b_Cores_findByWords 31 = .ok (.ifCond .ne 7, 3) := pl_dc dd_Cores_findByWords 19 (q := (31, .ifCond .ne 7, 3)) rfl
  have k34 : decode b_Cores_findByWords 34 = .ok (.iconst 0, 1) := pl_dc dd_Cores_findByWords 20 (q := (34, .iconst 0, 1)) rfl
  have k35 : decode b_Cores_findByWords 35 = .ok (.goto 10, 3) := pl_dc dd_Cores_findByWords 21 (q := (35, .goto 10, 3)) rfl
  have k38 : decode b_Cores_findByWords 38 = .ok (.iload_n 1, 1) := pl_dc dd_Cores_findByWords 22 (q := (38, .iload_n 1, 1)) rfl
  have k39 : decode b_Cores_findByWords 39 = .ok (.iload_n 2, 1) := pl_dc dd_Cores_findByWords 23 (q := (39, .iload_n 2, 1)) rfl
  have k40 : decode b_Cores_findByWords 40 = .ok (.imul, 1) := pl_dc dd_Cores_findByWords 24 (q := (40, .imul, 1)) rfl
  have k41 : decode b_Cores_findByWords 41 = .ok (.iload_n 1, 1) := pl_dc dd_Cores_findByWords 25 (q := (41, .iload_n 1, 1)) rfl
  have k42 : decode b_Cores_findByWords 42 = .ok (.iadd, 1) := pl_dc dd_Cores_findByWords 26 (q := (42, .iadd, 1)) rfl
  have k43 : decode b_Cores_findByWords 43 = .ok (.iconst 1, 1) := pl_dc dd_Cores_findByWords 27 (q := (43, .iconst 1, 1)) rfl
  have k44 : decode b_Cores_findByWords 44 = .ok (.isub, 1) := pl_dc dd_Cores_findByWords 28 (q := (44, .isub, 1)) rfl
  have k45 : decode b_Cores_findByWords 45 = .ok (.putfield 46, 3) := pl_dc dd_Cores_findByWords 29 (q := (45, .putfield 46, 3)) rfl
  have k48 : decode b_Cores_findByWords 48 = .ok (.return_, 1) := pl_dc dd_Cores_findByWords 30 (q := (48, .return_, 1)) rfl
  exact (d_seq (p1 := 48) (d_seq (p1 := 8) (d_istore_n (p1 := 7) F (c_iald (p1 := 4) (p2 := 6) F (c_getr (p1 := 1) F 1 4 hg_1_4 (c_aload_n F k0 rfl) k1 lf_Cores_39) (c_bipush F k4 (by decide)) k6) k7 rfl (hm 1 (by decide))) (d_seq (p1 := 16) (d_istore_n (p1 := 15) F (c_iald (p1 := 12) (p2 := 14) F (c_getr (p1 := 9) F 1 4 hg_1_4 (c_aload_n F k8 rfl) k9 lf_Cores_39) (c_bipush F k12 (by decide)) k14) k15 rfl (hm 2 (by decide))) (d_seq (p1 := 29) (d_puti (p1 := 17) (p2 := 26) F 1 10 hp_1_10 (c_aload_n F k16 rfl) (c_if (p1 := 21) (p2 := 22) (p3 := 26) F (b_zero_t (p1 := 18) (pj := 25) F (c_iload_n F k17 rfl) k18 (by decide)) (c_iconst F k21 (by decide)) k22 (by decide) (c_iload_n F k25 rfl)) k26 lf_Cores_43) (d_puti (p1 := 30) (p2 := 45) F 1 11 hp_1_11 (c_aload_n F k29 rfl) (c_if (p1 := 34) (p2 := 35) (p3 := 45) F (b_zero_t (p1 := 31) (pj := 38) F (c_iload_n F k30 rfl) k31 (by decide)) (c_iconst F k34 (by decide)) k35 (by decide) (c_bin 1 (p1 := 43) (p2 := 44) (c_bin 1 (p1 := 41) (p2 := 42) (c_bin 1 (p1 := 39) (p2 := 40) (c_iload_n F k38 rfl) (c_iload_n F k39 rfl) pl_c1 (j_imul F k40)) (c_iload_n F k41 rfl) pl_c1 (j_iadd F k42)) (c_iconst F k43 (by decide)) pl_c1 (j_isub F k44))) k45 lf_Cores_46)))) (d_retv F Fm.2.1 Fm.2.2.1 k48)))
def y_Columns_sum : MethodName := ⟨"PageLayouter$Columns", "sum", "([ILPageLayouter$Box;)I"⟩
abbrev b_Columns_sum : ByteArray := prog_3_method_6_code
abbrev n_Columns_sum : Nat := 4
theorem y_Columns_sum_ok : pl_MS y_Columns_sum b_Columns_sum n_Columns_sum (Option.some Jvm.ClassFile.FieldType.int) 2 := ⟨pl_mem 448 (by decide +kernel) (by decide +kernel), pl_mem 447 (by decide +kernel) (by decide +kernel), pl_mem 46 (by decide +kernel) (by decide +kernel), ⟨by decide, by decide, by decide +kernel⟩⟩
def D_Columns_sum : List (Nat × Instr × Nat) := [(0, .iconst 0, 1), (1, .istore_n 2, 1), (2, .aload_n 1, 1), (3, .getfield 25, 3), (6, .istore_n 3, 1), (7, .iload_n 3, 1), (8, .aload_n 1, 1), (9, .getfield 25, 3), (12, .aload_n 1, 1), (13, .getfield 41, 3), (16, .iadd, 1), (17, .if_icmp .ge 15, 3), (20, .iload_n 2, 1), (21, .aload_n 0, 1), (22, .iload_n 3, 1), (23, .iaload, 1), (24, .iadd, 1), (25, .istore_n 2, 1), (26, .iinc 3 1, 3), (29, .goto (-22), 3), (32, .iload_n 2, 1), (33, .ireturn, 1)]
theorem dd_Columns_sum : (D_Columns_sum.all fun q => decide (decode b_Columns_sum q.1 = .ok q.2)) = true := by decide +kernel
def t_Columns_sum : pl_TR := fun P _ _ => s_seq (s_seti 2 (e_int 0)) (s_seq (s_seq (s_seti 3 (e_geti 1 12 (e_locr 1))) (s_while (b_cmp .lt (e_loc 3) (e_bin (fun x y : Int32 => x + y) (e_geti 1 12 (e_locr 1)) (e_geti 1 13 (e_locr 1)))) (s_seq (s_seti 2 (e_bin (fun x y : Int32 => x + y) (e_loc 2) (e_ald 1 (e_locr 0) (e_loc 3)))) (s_inc 3 1)))) (s_reti P (e_loc 2)))
theorem z_Columns_sum (l : Launch) : pl_Ctr l y_Columns_sum b_Columns_sum n_Columns_sum (Option.some Jvm.ClassFile.FieldType.int) 0 0 0 0 false t_Columns_sum := pl_ctr_of (pe := 0) (by decide) (fun X Y P F Fm => by
  have F : pl_Fx X Y "PageLayouter$Columns" b_Columns_sum := F
  have hm : ∀ i, i < 4 → i < (pl_xc X).maxLocals := fun i h => by rw [Fm.2.2.2.1]; exact h
  have k0 : decode b_Columns_sum 0 = .ok (.iconst 0, 1) := pl_dc dd_Columns_sum 0 (q := (0, .iconst 0, 1)) rfl
  have k1 : decode b_Columns_sum 1 = .ok (.istore_n 2, 1) := pl_dc dd_Columns_sum 1 (q := (1, .istore_n 2, 1)) rfl
  have k2 : decode b_Columns_sum 2 = .ok (.aload_n 1, 1) := pl_dc dd_Columns_sum 2 (q := (2, .aload_n 1, 1)) rfl
  have k3 : decode b_Columns_sum 3 = .ok (.getfield 25, 3) := pl_dc dd_Columns_sum 3 (q := (3, .getfield 25, 3)) rfl
  have k6 : decode b_Columns_sum 6 = .ok (.istore_n 3, 1) := pl_dc dd_Columns_sum 4 (q := (6, .istore_n 3, 1)) rfl
  have k7 : decode b_Columns_sum 7 = .ok (.iload_n 3, 1) := pl_dc dd_Columns_sum 5 (q := (7, .iload_n 3, 1)) rfl
  have k8 : decode b_Columns_sum 8 = .ok (.aload_n 1, 1) := pl_dc dd_Columns_sum 6 (q := (8, .aload_n 1, 1)) rfl
  have k9 : decode b_Columns_sum 9 = .ok (.getfield 25, 3) := pl_dc dd_Columns_sum 7 (q := (9, .getfield 25, 3)) rfl
  have k12 : decode b_Columns_sum 12 = .ok (.aload_n 1, 1) := pl_dc dd_Columns_sum 8 (q := (12, .aload_n 1, 1)) rfl
  have k13 : decode b_Columns_sum 13 = .ok (.getfield 41, 3) := pl_dc dd_Columns_sum 9 (q := (13, .getfield 41, 3)) rfl
  have k16 : decode b_Columns_sum 16 = .ok (.iadd, 1) := pl_dc dd_Columns_sum 10 (q := (16, .iadd, 1)) rfl
  have k17 : decode b_Columns_sum 17 = .ok (.if_icmp .ge 15, 3) := pl_dc dd_Columns_sum 11 (q := (17, .if_icmp .ge 15, 3)) rfl
  have k20 : decode b_Columns_sum 20 = .ok (.iload_n 2, 1) := pl_dc dd_Columns_sum 12 (q := (20, .iload_n 2, 1)) rfl
  have k21 : decode b_Columns_sum 21 = .ok (.aload_n 0, 1) := pl_dc dd_Columns_sum 13 (q := (21, .aload_n 0, 1)) rfl
  have k22 : decode b_Columns_sum 22 = .ok (.iload_n 3, 1) := pl_dc dd_Columns_sum 14 (q := (22, .iload_n 3, 1)) rfl
  have k23 : decode b_Columns_sum 23 = .ok (.iaload, 1) := pl_dc dd_Columns_sum 15 (q := (23, .iaload, 1)) rfl
  have k24 : decode b_Columns_sum 24 = .ok (.iadd, 1) := pl_dc dd_Columns_sum 16 (q := (24, .iadd, 1)) rfl
  have k25 : decode b_Columns_sum 25 = .ok (.istore_n 2, 1) := pl_dc dd_Columns_sum 17 (q := (25, .istore_n 2, 1)) rfl
  have k26 : decode b_Columns_sum 26 = .ok (.iinc 3 1, 3) := pl_dc dd_Columns_sum 18 (q := (26, .iinc 3 1, 3)) rfl
  have k29 : decode b_Columns_sum 29 = .ok (.goto (-22), 3) := pl_dc dd_Columns_sum 19 (q := (29, .goto (-22), 3)) rfl
  have k32 : decode b_Columns_sum 32 = .ok (.iload_n 2, 1) := pl_dc dd_Columns_sum 20 (q := (32, .iload_n 2, 1)) rfl
  have k33 : decode b_Columns_sum 33 = .ok (.ireturn, 1) := pl_dc dd_Columns_sum 21 (q := (33, .ireturn, 1)) rfl
  exact (d_seq (p1 := 2) (d_istore_n (p1 := 1) F (c_iconst F k0 (by decide)) k1 rfl (hm 2 (by decide))) (d_seq (p1 := 32) (d_seq (p1 := 7) (d_istore_n (p1 := 6) F (c_geti (p1 := 3) F 1 12 hg_1_12 (c_aload_n F k2 rfl) k3 lf_Columns_25) k6 rfl (hm 3 (by decide))) (d_while (p1 := 20) (p2 := 29) F (b_cmp_t (p1 := 8) (p2 := 17) (pj := 32) F (c_iload_n F k7 rfl) (c_bin 1 (p1 := 12) (p2 := 16) (c_geti (p1 := 9) F 1 12 hg_1_12 (c_aload_n F k8 rfl) k9 lf_Columns_25) (c_geti (p1 := 13) F 1 13 hg_1_13 (c_aload_n F k12 rfl) k13 lf_Columns_41) pl_c1 (j_iadd F k16)) k17 (by decide)) (d_seq (p1 := 26) (d_istore_n (p1 := 25) F (c_bin 1 (p1 := 21) (p2 := 24) (c_iload_n F k20 rfl) (c_iald (p1 := 22) (p2 := 23) F (c_aload_n F k21 rfl) (c_iload_n F k22 rfl) k23) pl_c1 (j_iadd F k24)) k25 rfl (hm 2 (by decide))) (d_iinc F k26 (by decide) (hm 3 (by decide)))) k29 (by decide))) (d_reti (p1 := 33) F Fm.2.1 Fm.2.2.1 (c_iload_n F k32 rfl) k33))))
def y_Columns_findCores : MethodName := ⟨"PageLayouter$Columns", "findCores", "(LPageLayouter$Box;)V"⟩
abbrev b_Columns_findCores : ByteArray := prog_3_method_5_code
abbrev n_Columns_findCores : Nat := 2
theorem y_Columns_findCores_ok : pl_MV 2 y_Columns_findCores b_Columns_findCores n_Columns_findCores (Option.none : Option Jvm.ClassFile.FieldType) 1 := ⟨pl_mem 445 (by decide +kernel) (by decide +kernel), pl_mem 443 (by decide +kernel) (by decide +kernel), pl_mem 444 (by decide +kernel) (by decide +kernel), pl_mem 46 (by decide +kernel) (by decide +kernel), ⟨by decide, by decide, by decide +kernel⟩, _, rfl, rfl⟩
def D_Columns_findCores : List (Nat × Instr × Nat) := [(0, .aload_n 1, 1), (1, .aload_n 0, 1), (2, .getfield 9, 3), (5, .aload_n 1, 1), (6, .invokestatic 60, 3), (9, .putfield 64, 3), (12, .aload_n 1, 1), (13, .aload_n 0, 1), (14, .getfield 15, 3), (17, .aload_n 1, 1), (18, .invokestatic 60, 3), (21, .putfield 67, 3), (24, .return_, 1)]
theorem dd_Columns_findCores : (D_Columns_findCores.all fun q => decide (decode b_Columns_findCores q.1 = .ok q.2)) = true := by decide +kernel
def t_Columns_findCores : pl_TR := fun P _ _ => s_seq (s_seq (s_puti 1 10 (e_locr 1) (e_callS Value.int t_Columns_sum n_Columns_sum (a_r (a_r a_nil (e_getr 2 0 (e_locr 0))) (e_locr 1)))) (s_puti 1 11 (e_locr 1) (e_callS Value.int t_Columns_sum n_Columns_sum (a_r (a_r a_nil (e_getr 2 1 (e_locr 0))) (e_locr 1))))) (s_retv P)
theorem z_Columns_findCores (l : Launch) : pl_Ctr l y_Columns_findCores b_Columns_findCores n_Columns_findCores (Option.none : Option Jvm.ClassFile.FieldType) 1 23 0 0 false t_Columns_findCores := pl_ctr_of (pe := 0) (by decide) (fun X Y P F Fm => by
  have F : pl_Fx X Y "PageLayouter$Columns" b_Columns_findCores := F
  have r_Columns_sum : 0 + 1 ≤ (pl_xR X).frames ∧ 8 + (n_Columns_sum + 11) + 0 ≤ (pl_xR X).locals := ⟨Nat.le_trans (by decide) Fm.2.2.2.2.2.1, Nat.le_trans (by decide) Fm.2.2.2.2.2.2.1⟩
  have k0 : decode b_Columns_findCores 0 = .ok (.aload_n 1, 1) := pl_dc dd_Columns_findCores 0 (q := (0, .aload_n 1, 1)) rfl
  have k1 : decode b_Columns_findCores 1 = .ok (.aload_n 0, 1) := pl_dc dd_Columns_findCores 1 (q := (1, .aload_n 0, 1)) rfl
  have k2 : decode b_Columns_findCores 2 = .ok (.getfield 9, 3) := pl_dc dd_Columns_findCores 2 (q := (2, .getfield 9, 3)) rfl
  have k5 : decode b_Columns_findCores 5 = .ok (.aload_n 1, 1) := pl_dc dd_Columns_findCores 3 (q := (5, .aload_n 1, 1)) rfl
  have k6 : decode b_Columns_findCores 6 = .ok (.invokestatic 60, 3) := pl_dc dd_Columns_findCores 4 (q := (6, .invokestatic 60, 3)) rfl
  have k9 : decode b_Columns_findCores 9 = .ok (.putfield 64, 3) := pl_dc dd_Columns_findCores 5 (q := (9, .putfield 64, 3)) rfl
  have k12 : decode b_Columns_findCores 12 = .ok (.aload_n 1, 1) := pl_dc dd_Columns_findCores 6 (q := (12, .aload_n 1, 1)) rfl
  have k13 : decode b_Columns_findCores 13 = .ok (.aload_n 0, 1) := pl_dc dd_Columns_findCores 7 (q := (13, .aload_n 0, 1)) rfl
  have k14 : decode b_Columns_findCores 14 = .ok (.getfield 15, 3) := pl_dc dd_Columns_findCores 8 (q := (14, .getfield 15, 3)) rfl
  have k17 : decode b_Columns_findCores 17 = .ok (.aload_n 1, 1) := pl_dc dd_Columns_findCores 9 (q := (17, .aload_n 1, 1)) rfl
  have k18 : decode b_Columns_findCores 18 = .ok (.invokestatic 60, 3) := pl_dc dd_Columns_findCores 10 (q := (18, .invokestatic 60, 3)) rfl
  have k21 : decode b_Columns_findCores 21 = .ok (.putfield 67, 3) := pl_dc dd_Columns_findCores 11 (q := (21, .putfield 67, 3)) rfl
  have k24 : decode b_Columns_findCores 24 = .ok (.return_, 1) := pl_dc dd_Columns_findCores 12 (q := (24, .return_, 1)) rfl
  exact (d_seq (p1 := 24) (d_seq (p1 := 12) (d_puti (p1 := 1) (p2 := 9) F 1 10 hp_1_10 (c_aload_n F k0 rfl) (c_callS (p1 := 6) F (a_r_ok (p1 := 5) (a_r_ok (p1 := 1) a_nil_ok (c_getr (p1 := 2) F 2 0 hg_2_0 (c_aload_n F k1 rfl) k2 lf_Columns_9)) (c_aload_n F k5 rfl)) (z_Columns_sum _) y_Columns_sum_ok lm_Columns_60 k6 r_Columns_sum (by decide) (by decide)) k9 lf_Columns_64) (d_puti (p1 := 13) (p2 := 21) F 1 11 hp_1_11 (c_aload_n F k12 rfl) (c_callS (p1 := 18) F (a_r_ok (p1 := 17) (a_r_ok (p1 := 13) a_nil_ok (c_getr (p1 := 14) F 2 1 hg_2_1 (c_aload_n F k13 rfl) k14 lf_Columns_15)) (c_aload_n F k17 rfl)) (z_Columns_sum _) y_Columns_sum_ok lm_Columns_60 k18 r_Columns_sum (by decide) (by decide)) k21 lf_Columns_67)) (d_retv F Fm.2.1 Fm.2.2.1 k24)))
def y_Cores_findByGreatest : MethodName := ⟨"PageLayouter$Cores", "findByGreatest", "(LPageLayouter$Box;)V"⟩
abbrev b_Cores_findByGreatest : ByteArray := prog_4_method_4_code
abbrev n_Cores_findByGreatest : Nat := 2
theorem y_Cores_findByGreatest_ok : pl_MS y_Cores_findByGreatest b_Cores_findByGreatest n_Cores_findByGreatest (Option.none : Option Jvm.ClassFile.FieldType) 1 := ⟨pl_mem 451 (by decide +kernel) (by decide +kernel), pl_mem 450 (by decide +kernel) (by decide +kernel), pl_mem 54 (by decide +kernel) (by decide +kernel), ⟨by decide, by decide, by decide +kernel⟩⟩
def D_Cores_findByGreatest : List (Nat × Instr × Nat) := [(0, .aload_n 0, 1), (1, .iconst 0, 1), (2, .putfield 43, 3), (5, .aload_n 0, 1), (6, .iconst 0, 1), (7, .putfield 46, 3), (10, .aload_n 0, 1), (11, .invokevirtual 21, 3), (14, .astore_n 1, 1), (15, .aload_n 1, 1), (16, .ifnull 51, 3), (19, .aload_n 0, 1), (20, .aload_n 0, 1), (21, .getfield 43, 3), (24, .aload_n 1, 1), (25, .invokevirtual 49, 3), (28, .aload_n 1, 1), (29, .invokevirtual 53, 3), (32, .iadd, 1), (33, .invokestatic 56, 3), (36, .putfield 43, 3), (39, .aload_n 0, 1), (40, .aload_n 0, 1), (41, .getfield 46, 3), (44, .aload_n 1, 1), (45, .invokevirtual 62, 3), (48, .aload_n 1, 1), (49, .invokevirtual 53, 3), (52, .iadd, 1), (53, .invokestatic 56, 3), (56, .putfield 46, 3), (59, .aload_n 1, 1), (60, .invokevirtual 65, 3), (63, .astore_n 1, 1), (64, .goto (-49), 3), (67, .return_, 1)]
theorem dd_Cores_findByGreatest : (D_Cores_findByGreatest.all fun q => decide (decode b_Cores_findByGreatest q.1 = .ok q.2)) = true := by decide +kernel
def t_Cores_findByGreatest : pl_TR := fun P _ _ => s_seq (s_seq (s_puti 1 10 (e_locr 0) (e_int 0)) (s_seq (s_puti 1 11 (e_locr 0) (e_int 0)) (s_seq (s_setr 1 (e_callV id 1 t_Box_firstInFlow n_Box_firstInFlow (a_r a_nil (e_locr 0)))) (s_while (b_nn (e_locr 1)) (s_seq (s_seq (s_puti 1 10 (e_locr 0) (e_bin pl_max (e_geti 1 10 (e_locr 0)) (e_bin (fun x y : Int32 => x + y) (e_callV Value.int 1 t_Box_leastWidth n_Box_leastWidth (a_r a_nil (e_locr 1))) (e_callV Value.int 1 t_Box_edges n_Box_edges (a_r a_nil (e_locr 1)))))) (s_puti 1 11 (e_locr 0) (e_bin pl_max (e_geti 1 11 (e_locr 0)) (e_bin (fun x y : Int32 => x + y) (e_callV Value.int 1 t_Box_mostWidth n_Box_mostWidth (a_r a_nil (e_locr 1))) (e_callV Value.int 1 t_Box_edges n_Box_edges (a_r a_nil (e_locr 1))))))) (s_setr 1 (e_callV id 1 t_Box_nextInFlow n_Box_nextInFlow (a_r a_nil (e_locr 1))))))))) (s_retv P)
theorem z_Cores_findByGreatest (l : Launch) : pl_Ctr l y_Cores_findByGreatest b_Cores_findByGreatest n_Cores_findByGreatest (Option.none : Option Jvm.ClassFile.FieldType) 2 41 0 0 false t_Cores_findByGreatest := pl_ctr_of (pe := 0) (by decide) (fun X Y P F Fm => by
  have F : pl_Fx X Y "PageLayouter$Cores" b_Cores_findByGreatest := F
  have r_Box_edges : 1 + 1 ≤ (pl_xR X).frames ∧ 8 + (n_Box_edges + 11) + 20 ≤ (pl_xR X).locals := ⟨Nat.le_trans (by decide) Fm.2.2.2.2.2.1, Nat.le_trans (by decide) Fm.2.2.2.2.2.2.1⟩
  have r_Box_firstInFlow : 1 + 1 ≤ (pl_xR X).frames ∧ 8 + (n_Box_firstInFlow + 11) + 20 ≤ (pl_xR X).locals := ⟨Nat.le_trans (by decide) Fm.2.2.2.2.2.1, Nat.le_trans (by decide) Fm.2.2.2.2.2.2.1⟩
  have r_Box_leastWidth : 1 + 1 ≤ (pl_xR X).frames ∧ 8 + (n_Box_leastWidth + 11) + 20 ≤ (pl_xR X).locals := ⟨Nat.le_trans (by decide) Fm.2.2.2.2.2.1, Nat.le_trans (by decide) Fm.2.2.2.2.2.2.1⟩
  have r_Box_mostWidth : 1 + 1 ≤ (pl_xR X).frames ∧ 8 + (n_Box_mostWidth + 11) + 20 ≤ (pl_xR X).locals := ⟨Nat.le_trans (by decide) Fm.2.2.2.2.2.1, Nat.le_trans (by decide) Fm.2.2.2.2.2.2.1⟩
  have r_Box_nextInFlow : 1 + 1 ≤ (pl_xR X).frames ∧ 8 + (n_Box_nextInFlow + 11) + 20 ≤ (pl_xR X).locals := ⟨Nat.le_trans (by decide) Fm.2.2.2.2.2.1, Nat.le_trans (by decide) Fm.2.2.2.2.2.2.1⟩
  have R0 : 1 ≤ (pl_xR X).frames ∧ 21 ≤ (pl_xR X).locals := ⟨Nat.le_trans (by decide) Fm.2.2.2.2.2.1, Nat.le_trans (by decide) Fm.2.2.2.2.2.2.1⟩
  have hm : ∀ i, i < 2 → i < (pl_xc X).maxLocals := fun i h => by rw [Fm.2.2.2.1]; exact h
  have k0 : decode b_Cores_findByGreatest 0 = .ok (.aload_n 0, 1) := pl_dc dd_Cores_findByGreatest 0 (q := (0, .aload_n 0, 1)) rfl
  have k1 : decode b_Cores_findByGreatest 1 = .ok (.iconst 0, 1) := pl_dc dd_Cores_findByGreatest 1 (q := (1, .iconst 0, 1)) rfl
  have k2 : decode b_Cores_findByGreatest 2 = .ok (.putfield 43, 3) := pl_dc dd_Cores_findByGreatest 2 (q := (2, .putfield 43, 3)) rfl
  have k5 : decode b_Cores_findByGreatest 5 = .ok (.aload_n 0, 1) := pl_dc dd_Cores_findByGreatest 3 (q := (5, .aload_n 0, 1)) rfl
  have k6 : decode b_Cores_findByGreatest 6 = .ok (.iconst 0, 1) := pl_dc dd_Cores_findByGreatest 4 (q := (6, .iconst 0, 1)) rfl
  have k7 : decode b_Cores_findByGreatest 7 = .ok (.putfield 46, 3) := pl_dc dd_Cores_findByGreatest 5 (q := (7, .putfield 46, 3)) rfl
  have k10 : decode b_Cores_findByGreatest 10 = .ok (.aload_n 0, 1) := pl_dc dd_Cores_findByGreatest 6 (q := (10, .aload_n 0, 1)) rfl
  have k11 : decode b_Cores_findByGreatest 11 = .ok (.invokevirtual 21, 3) := pl_dc dd_Cores_findByGreatest 7 (q := (11, .invokevirtual 21, 3)) rfl
  have k14 : decode b_Cores_findByGreatest 14 = .ok (.astore_n 1, 1) := pl_dc dd_Cores_findByGreatest 8 (q := (14, .astore_n 1, 1)) rfl
  have k15 : decode b_Cores_findByGreatest 15 = .ok (.aload_n 1, 1) := pl_dc dd_Cores_findByGreatest 9 (q := (15, .aload_n 1, 1)) rfl
  have k16 : decode b_Cores_findByGreatest 16 = .ok (.ifnull 51, 3) := pl_dc dd_Cores_findByGreatest 10 (q := (16, .ifnull 51, 3)) rfl
  have k19 : decode b_Cores_findByGreatest 19 = .ok (.aload_n 0, 1) := pl_dc dd_Cores_findByGreatest 11 (q := (19, .aload_n 0, 1)) rfl
  have k20 : decode b_Cores_findByGreatest 20 = .ok (.aload_n 0, 1) := pl_dc dd_Cores_findByGreatest 12 (q := (20, .aload_n 0, 1)) rfl
  have k21 : decode b_Cores_findByGreatest 21 = .ok (.getfield 43, 3) := pl_dc dd_Cores_findByGreatest 13 (q := (21, .getfield 43, 3)) rfl
  have k24 : decode b_Cores_findByGreatest 24 = .ok (.aload_n 1, 1) := pl_dc dd_Cores_findByGreatest 14 (q := (24, .aload_n 1, 1)) rfl
  have k25 : decode b_Cores_findByGreatest 25 = .ok (.invokevirtual 49, 3) := pl_dc dd_Cores_findByGreatest 15 (q := (25, .invokevirtual 49, 3)) rfl
  have k28 : decode b_Cores_findByGreatest 28 = .ok (.aload_n 1, 1) := pl_dc dd_Cores_findByGreatest 16 (q := (28, .aload_n 1, 1)) rfl
  have k29 : decode b_Cores_findByGreatest 29 = .ok (.invokevirtual 53, 3) := pl_dc dd_Cores_findByGreatest 17 (q := (29, .invokevirtual 53, 3)) rfl
  have k32 : decode b_Cores_findByGreatest 32 = .ok (.iadd, 1) := pl_dc dd_Cores_findByGreatest 18 (q := (32, .iadd, 1)) rfl
  have k33 : decode b_Cores_findByGreatest 33 = .ok (.invokestatic 56, 3) := pl_dc dd_Cores_findByGreatest 19 (q := (33, .invokestatic 56, 3)) rfl
  have k36 : decode b_Cores_findByGreatest 36 = .ok (.putfield 43, 3) := pl_dc dd_Cores_findByGreatest 20 (q := (36, .putfield 43, 3)) rfl
  have k39 : decode b_Cores_findByGreatest 39 = .ok (.aload_n 0, 1) := pl_dc dd_Cores_findByGreatest 21 (q := (39, .aload_n 0, 1)) rfl
  have k40 : decode b_Cores_findByGreatest 40 = .ok (.aload_n 0, 1) := pl_dc dd_Cores_findByGreatest 22 (q := (40, .aload_n 0, 1)) rfl
  have k41 : decode b_Cores_findByGreatest 41 = .ok (.getfield 46, 3) := pl_dc dd_Cores_findByGreatest 23 (q := (41, .getfield 46, 3)) rfl
  have k44 : decode b_Cores_findByGreatest 44 = .ok (.aload_n 1, 1) := pl_dc dd_Cores_findByGreatest 24 (q := (44, .aload_n 1, 1)) rfl
  have k45 : decode b_Cores_findByGreatest 45 = .ok (.invokevirtual 62, 3) := pl_dc dd_Cores_findByGreatest 25 (q := (45, .invokevirtual 62, 3)) rfl
  have k48 : decode b_Cores_findByGreatest 48 = .ok (.aload_n 1, 1) := pl_dc dd_Cores_findByGreatest 26 (q := (48, .aload_n 1, 1)) rfl
  have k49 : decode b_Cores_findByGreatest 49 = .ok (.invokevirtual 53, 3) := pl_dc dd_Cores_findByGreatest 27 (q := (49, .invokevirtual 53, 3)) rfl
  have k52 : decode b_Cores_findByGreatest 52 = .ok (.iadd, 1) := pl_dc dd_Cores_findByGreatest 28 (q := (52, .iadd, 1)) rfl
  have k53 : decode b_Cores_findByGreatest 53 = .ok (.invokestatic 56, 3) := pl_dc dd_Cores_findByGreatest 29 (q := (53, .invokestatic 56, 3)) rfl
  have k56 : decode b_Cores_findByGreatest 56 = .ok (.putfield 46, 3) := pl_dc dd_Cores_findByGreatest 30 (q := (56, .putfield 46, 3)) rfl
  have k59 : decode b_Cores_findByGreatest 59 = .ok (.aload_n 1, 1) := pl_dc dd_Cores_findByGreatest 31 (q := (59, .aload_n 1, 1)) rfl
  have k60 : decode b_Cores_findByGreatest 60 = .ok (.invokevirtual 65, 3) := pl_dc dd_Cores_findByGreatest 32 (q := (60, .invokevirtual 65, 3)) rfl
  have k63 : decode b_Cores_findByGreatest 63 = .ok (.astore_n 1, 1) := pl_dc dd_Cores_findByGreatest 33 (q := (63, .astore_n 1, 1)) rfl
  have k64 : decode b_Cores_findByGreatest 64 = .ok (.goto (-49), 3) := pl_dc dd_Cores_findByGreatest 34 (q := (64, .goto (-49), 3)) rfl
  have k67 : decode b_Cores_findByGreatest 67 = .ok (.return_, 1) := pl_dc dd_Cores_findByGreatest 35 (q := (67, .return_, 1)) rfl
  exact (d_seq (p1 := 67) (d_seq (p1 := 5) (d_puti (p1 := 1) (p2 := 2) F 1 10 hp_1_10 (c_aload_n F k0 rfl) (c_iconst F k1 (by decide)) k2 lf_Cores_43) (d_seq (p1 := 10) (d_puti (p1 := 6) (p2 := 7) F 1 11 hp_1_11 (c_aload_n F k5 rfl) (c_iconst F k6 (by decide)) k7 lf_Cores_46) (d_seq (p1 := 15) (d_astore_n (p1 := 14) F (c_callV (p1 := 11) F (a_r_ok (p1 := 10) a_nil_ok (c_aload_n F k10 rfl)) (z_Box_firstInFlow _) y_Box_firstInFlow_ok lm_Cores_21 k11 r_Box_firstInFlow (by decide) (by decide)) k14 rfl (hm 1 (by decide))) (d_while (p1 := 19) (p2 := 64) F (b_nn_t (p1 := 16) (pj := 67) F (c_aload_n F k15 rfl) k16 (by decide)) (d_seq (p1 := 59) (d_seq (p1 := 39) (d_puti (p1 := 20) (p2 := 36) F 1 10 hp_1_10 (c_aload_n F k19 rfl) (c_max (p1 := 24) (p2 := 33) F (c_geti (p1 := 21) F 1 10 hg_1_10 (c_aload_n F k20 rfl) k21 lf_Cores_43) (c_bin 1 (p1 := 28) (p2 := 32) (c_callV (p1 := 25) F (a_r_ok (p1 := 24) a_nil_ok (c_aload_n F k24 rfl)) (z_Box_leastWidth _) y_Box_leastWidth_ok lm_Cores_49 k25 r_Box_leastWidth (by decide) (by decide)) (c_callV (p1 := 29) F (a_r_ok (p1 := 28) a_nil_ok (c_aload_n F k28 rfl)) (z_Box_edges _) y_Box_edges_ok lm_Cores_53 k29 r_Box_edges (by decide) (by decide)) pl_c1 (j_iadd F k32)) k33 lm_Cores_56 hm_max R0 (by decide)) k36 lf_Cores_43) (d_puti (p1 := 40) (p2 := 56) F 1 11 hp_1_11 (c_aload_n F k39 rfl) (c_max (p1 := 44) (p2 := 53) F (c_geti (p1 := 41) F 1 11 hg_1_11 (c_aload_n F k40 rfl) k41 lf_Cores_46) (c_bin 1 (p1 := 48) (p2 := 52) (c_callV (p1 := 45) F (a_r_ok (p1 := 44) a_nil_ok (c_aload_n F k44 rfl)) (z_Box_mostWidth _) y_Box_mostWidth_ok lm_Cores_62 k45 r_Box_mostWidth (by decide) (by decide)) (c_callV (p1 := 49) F (a_r_ok (p1 := 48) a_nil_ok (c_aload_n F k48 rfl)) (z_Box_edges _) y_Box_edges_ok lm_Cores_53 k49 r_Box_edges (by decide) (by decide)) pl_c1 (j_iadd F k52)) k53 lm_Cores_56 hm_max R0 (by decide)) k56 lf_Cores_46)) (d_astore_n (p1 := 63) F (c_callV (p1 := 60) F (a_r_ok (p1 := 59) a_nil_ok (c_aload_n F k59 rfl)) (z_Box_nextInFlow _) y_Box_nextInFlow_ok lm_Cores_65 k60 r_Box_nextInFlow (by decide) (by decide)) k63 rfl (hm 1 (by decide)))) k64 (by decide))))) (d_retv F Fm.2.1 Fm.2.2.1 k67)))
def y_Cores_findBySum : MethodName := ⟨"PageLayouter$Cores", "findBySum", "(LPageLayouter$Box;)V"⟩
abbrev b_Cores_findBySum : ByteArray := prog_4_method_5_code
abbrev n_Cores_findBySum : Nat := 2
theorem y_Cores_findBySum_ok : pl_MS y_Cores_findBySum b_Cores_findBySum n_Cores_findBySum (Option.none : Option Jvm.ClassFile.FieldType) 1 := ⟨pl_mem 459 (by decide +kernel) (by decide +kernel), pl_mem 458 (by decide +kernel) (by decide +kernel), pl_mem 54 (by decide +kernel) (by decide +kernel), ⟨by decide, by decide, by decide +kernel⟩⟩
def D_Cores_findBySum : List (Nat × Instr × Nat) := [(0, .aload_n 0, 1), (1, .iconst 0, 1), (2, .putfield 43, 3), (5, .aload_n 0, 1), (6, .iconst 0, 1), (7, .putfield 46, 3), (10, .aload_n 0, 1), (11, .invokevirtual 21, 3), (14, .astore_n 1, 1), (15, .aload_n 1, 1), (16, .ifnull 47, 3), (19, .aload_n 0, 1), (20, .dup, 1), (21, .getfield 43, 3), (24, .aload_n 1, 1), (25, .invokevirtual 49, 3), (28, .aload_n 1, 1), (29, .invokevirtual 53, 3), (32, .iadd, 1), (33, .iadd, 1), (34, .putfield 43, 3), (37, .aload_n 0, 1), (38, .dup, 1), (39, .getfield 46, 3), (42, .aload_n 1, 1), (43, .invokevirtual 62, 3), (46, .aload_n 1, 1), (47, .invokevirtual 53, 3), (50, .iadd, 1), (51, .iadd, 1), (52, .putfield 46, 3), (55, .aload_n 1, 1), (56, .invokevirtual 65, 3), (59, .astore_n 1, 1), (60, .goto (-45), 3), (63, .return_, 1)]
theorem dd_Cores_findBySum : (D_Cores_findBySum.all fun q => decide (decode b_Cores_findBySum q.1 = .ok q.2)) = true := by decide +kernel
def t_Cores_findBySum : pl_TR := fun P _ _ => s_seq (s_seq (s_puti 1 10 (e_locr 0) (e_int 0)) (s_seq (s_puti 1 11 (e_locr 0) (e_int 0)) (s_seq (s_setr 1 (e_callV id 1 t_Box_firstInFlow n_Box_firstInFlow (a_r a_nil (e_locr 0)))) (s_while (b_nn (e_locr 1)) (s_seq (s_seq (s_updi 1 10 (fun x y : Int32 => x + y) (e_locr 0) (e_bin (fun x y : Int32 => x + y) (e_callV Value.int 1 t_Box_leastWidth n_Box_leastWidth (a_r a_nil (e_locr 1))) (e_callV Value.int 1 t_Box_edges n_Box_edges (a_r a_nil (e_locr 1))))) (s_updi 1 11 (fun x y : Int32 => x + y) (e_locr 0) (e_bin (fun x y : Int32 => x + y) (e_callV Value.int 1 t_Box_mostWidth n_Box_mostWidth (a_r a_nil (e_locr 1))) (e_callV Value.int 1 t_Box_edges n_Box_edges (a_r a_nil (e_locr 1)))))) (s_setr 1 (e_callV id 1 t_Box_nextInFlow n_Box_nextInFlow (a_r a_nil (e_locr 1))))))))) (s_retv P)
theorem z_Cores_findBySum (l : Launch) : pl_Ctr l y_Cores_findBySum b_Cores_findBySum n_Cores_findBySum (Option.none : Option Jvm.ClassFile.FieldType) 2 41 0 0 false t_Cores_findBySum := pl_ctr_of (pe := 0) (by decide) (fun X Y P F Fm => by
  have F : pl_Fx X Y "PageLayouter$Cores" b_Cores_findBySum := F
  have r_Box_edges : 1 + 1 ≤ (pl_xR X).frames ∧ 8 + (n_Box_edges + 11) + 20 ≤ (pl_xR X).locals := ⟨Nat.le_trans (by decide) Fm.2.2.2.2.2.1, Nat.le_trans (by decide) Fm.2.2.2.2.2.2.1⟩
  have r_Box_firstInFlow : 1 + 1 ≤ (pl_xR X).frames ∧ 8 + (n_Box_firstInFlow + 11) + 20 ≤ (pl_xR X).locals := ⟨Nat.le_trans (by decide) Fm.2.2.2.2.2.1, Nat.le_trans (by decide) Fm.2.2.2.2.2.2.1⟩
  have r_Box_leastWidth : 1 + 1 ≤ (pl_xR X).frames ∧ 8 + (n_Box_leastWidth + 11) + 20 ≤ (pl_xR X).locals := ⟨Nat.le_trans (by decide) Fm.2.2.2.2.2.1, Nat.le_trans (by decide) Fm.2.2.2.2.2.2.1⟩
  have r_Box_mostWidth : 1 + 1 ≤ (pl_xR X).frames ∧ 8 + (n_Box_mostWidth + 11) + 20 ≤ (pl_xR X).locals := ⟨Nat.le_trans (by decide) Fm.2.2.2.2.2.1, Nat.le_trans (by decide) Fm.2.2.2.2.2.2.1⟩
  have r_Box_nextInFlow : 1 + 1 ≤ (pl_xR X).frames ∧ 8 + (n_Box_nextInFlow + 11) + 20 ≤ (pl_xR X).locals := ⟨Nat.le_trans (by decide) Fm.2.2.2.2.2.1, Nat.le_trans (by decide) Fm.2.2.2.2.2.2.1⟩
  have hm : ∀ i, i < 2 → i < (pl_xc X).maxLocals := fun i h => by rw [Fm.2.2.2.1]; exact h
  have k0 : decode b_Cores_findBySum 0 = .ok (.aload_n 0, 1) := pl_dc dd_Cores_findBySum 0 (q := (0, .aload_n 0, 1)) rfl
  have k1 : decode b_Cores_findBySum 1 = .ok (.iconst 0, 1) := pl_dc dd_Cores_findBySum 1 (q := (1, .iconst 0, 1)) rfl
  have k2 : decode b_Cores_findBySum 2 = .ok (.putfield 43, 3) := pl_dc dd_Cores_findBySum 2 (q := (2, .putfield 43, 3)) rfl
  have k5 : decode b_Cores_findBySum 5 = .ok (.aload_n 0, 1) := pl_dc dd_Cores_findBySum 3 (q := (5, .aload_n 0, 1)) rfl
  have k6 : decode b_Cores_findBySum 6 = .ok (.iconst 0, 1) := pl_dc dd_Cores_findBySum 4 (q := (6, .iconst 0, 1)) rfl
  have k7 : decode b_Cores_findBySum 7 = .ok (.putfield 46, 3) := pl_dc dd_Cores_findBySum 5 (q := (7, .putfield 46, 3)) rfl
  have k10 : decode b_Cores_findBySum 10 = .ok (.aload_n 0, 1) := pl_dc dd_Cores_findBySum 6 (q := (10, .aload_n 0, 1)) rfl
  have k11 : decode b_Cores_findBySum 11 = .ok (.invokevirtual 21, 3) := pl_dc dd_Cores_findBySum 7 (q := (11, .invokevirtual 21, 3)) rfl
  have k14 : decode b_Cores_findBySum 14 = .ok (.astore_n 1, 1) := pl_dc dd_Cores_findBySum 8 (q := (14, .astore_n 1, 1)) rfl
  have k15 : decode b_Cores_findBySum 15 = .ok (.aload_n 1, 1) := pl_dc dd_Cores_findBySum 9 (q := (15, .aload_n 1, 1)) rfl
  have k16 : decode b_Cores_findBySum 16 = .ok (.ifnull 47, 3) := pl_dc dd_Cores_findBySum 10 (q := (16, .ifnull 47, 3)) rfl
  have k19 : decode b_Cores_findBySum 19 = .ok (.aload_n 0, 1) := pl_dc dd_Cores_findBySum 11 (q := (19, .aload_n 0, 1)) rfl
  have k20 : decode b_Cores_findBySum 20 = .ok (.dup, 1) := pl_dc dd_Cores_findBySum 12 (q := (20, .dup, 1)) rfl
  have k21 : decode b_Cores_findBySum 21 = .ok (.getfield 43, 3) := pl_dc dd_Cores_findBySum 13 (q := (21, .getfield 43, 3)) rfl
  have k24 : decode b_Cores_findBySum 24 = .ok (.aload_n 1, 1) := pl_dc dd_Cores_findBySum 14 (q := (24, .aload_n 1, 1)) rfl
  have k25 : decode b_Cores_findBySum 25 = .ok (.invokevirtual 49, 3) := pl_dc dd_Cores_findBySum 15 (q := (25, .invokevirtual 49, 3)) rfl
  have k28 : decode b_Cores_findBySum 28 = .ok (.aload_n 1, 1) := pl_dc dd_Cores_findBySum 16 (q := (28, .aload_n 1, 1)) rfl
  have k29 : decode b_Cores_findBySum 29 = .ok (.invokevirtual 53, 3) := pl_dc dd_Cores_findBySum 17 (q := (29, .invokevirtual 53, 3)) rfl
  have k32 : decode b_Cores_findBySum 32 = .ok (.iadd, 1) := pl_dc dd_Cores_findBySum 18 (q := (32, .iadd, 1)) rfl
  have k33 : decode b_Cores_findBySum 33 = .ok (.iadd, 1) := pl_dc dd_Cores_findBySum 19 (q := (33, .iadd, 1)) rfl
  have k34 : decode b_Cores_findBySum 34 = .ok (.putfield 43, 3) := pl_dc dd_Cores_findBySum 20 (q := (34, .putfield 43, 3)) rfl
  have k37 : decode b_Cores_findBySum 37 = .ok (.aload_n 0, 1) := pl_dc dd_Cores_findBySum 21 (q := (37, .aload_n 0, 1)) rfl
  have k38 : decode b_Cores_findBySum 38 = .ok (.dup, 1) := pl_dc dd_Cores_findBySum 22 (q := (38, .dup, 1)) rfl
  have k39 : decode b_Cores_findBySum 39 = .ok (.getfield 46, 3) := pl_dc dd_Cores_findBySum 23 (q := (39, .getfield 46, 3)) rfl
  have k42 : decode b_Cores_findBySum 42 = .ok (.aload_n 1, 1) := pl_dc dd_Cores_findBySum 24 (q := (42, .aload_n 1, 1)) rfl
  have k43 : decode b_Cores_findBySum 43 = .ok (.invokevirtual 62, 3) := pl_dc dd_Cores_findBySum 25 (q := (43, .invokevirtual 62, 3)) rfl
  have k46 : decode b_Cores_findBySum 46 = .ok (.aload_n 1, 1) := pl_dc dd_Cores_findBySum 26 (q := (46, .aload_n 1, 1)) rfl
  have k47 : decode b_Cores_findBySum 47 = .ok (.invokevirtual 53, 3) := pl_dc dd_Cores_findBySum 27 (q := (47, .invokevirtual 53, 3)) rfl
  have k50 : decode b_Cores_findBySum 50 = .ok (.iadd, 1) := pl_dc dd_Cores_findBySum 28 (q := (50, .iadd, 1)) rfl
  have k51 : decode b_Cores_findBySum 51 = .ok (.iadd, 1) := pl_dc dd_Cores_findBySum 29 (q := (51, .iadd, 1)) rfl
  have k52 : decode b_Cores_findBySum 52 = .ok (.putfield 46, 3) := pl_dc dd_Cores_findBySum 30 (q := (52, .putfield 46, 3)) rfl
  have k55 : decode b_Cores_findBySum 55 = .ok (.aload_n 1, 1) := pl_dc dd_Cores_findBySum 31 (q := (55, .aload_n 1, 1)) rfl
  have k56 : decode b_Cores_findBySum 56 = .ok (.invokevirtual 65, 3) := pl_dc dd_Cores_findBySum 32 (q := (56, .invokevirtual 65, 3)) rfl
  have k59 : decode b_Cores_findBySum 59 = .ok (.astore_n 1, 1) := pl_dc dd_Cores_findBySum 33 (q := (59, .astore_n 1, 1)) rfl
  have k60 : decode b_Cores_findBySum 60 = .ok (.goto (-45), 3) := pl_dc dd_Cores_findBySum 34 (q := (60, .goto (-45), 3)) rfl
  have k63 : decode b_Cores_findBySum 63 = .ok (.return_, 1) := pl_dc dd_Cores_findBySum 35 (q := (63, .return_, 1)) rfl
  exact (d_seq (p1 := 63) (d_seq (p1 := 5) (d_puti (p1 := 1) (p2 := 2) F 1 10 hp_1_10 (c_aload_n F k0 rfl) (c_iconst F k1 (by decide)) k2 lf_Cores_43) (d_seq (p1 := 10) (d_puti (p1 := 6) (p2 := 7) F 1 11 hp_1_11 (c_aload_n F k5 rfl) (c_iconst F k6 (by decide)) k7 lf_Cores_46) (d_seq (p1 := 15) (d_astore_n (p1 := 14) F (c_callV (p1 := 11) F (a_r_ok (p1 := 10) a_nil_ok (c_aload_n F k10 rfl)) (z_Box_firstInFlow _) y_Box_firstInFlow_ok lm_Cores_21 k11 r_Box_firstInFlow (by decide) (by decide)) k14 rfl (hm 1 (by decide))) (d_while (p1 := 19) (p2 := 60) F (b_nn_t (p1 := 16) (pj := 63) F (c_aload_n F k15 rfl) k16 (by decide)) (d_seq (p1 := 55) (d_seq (p1 := 37) (d_updi (p1 := 20) (p2 := 33) F 1 10 hp_1_10 (c_aload_n F k19 rfl) k20 k21 (c_bin 1 (p1 := 28) (p2 := 32) (c_callV (p1 := 25) F (a_r_ok (p1 := 24) a_nil_ok (c_aload_n F k24 rfl)) (z_Box_leastWidth _) y_Box_leastWidth_ok lm_Cores_49 k25 r_Box_leastWidth (by decide) (by decide)) (c_callV (p1 := 29) F (a_r_ok (p1 := 28) a_nil_ok (c_aload_n F k28 rfl)) (z_Box_edges _) y_Box_edges_ok lm_Cores_53 k29 r_Box_edges (by decide) (by decide)) pl_c1 (j_iadd F k32)) (j_iadd F k33) k34 lf_Cores_43) (d_updi (p1 := 38) (p2 := 51) F 1 11 hp_1_11 (c_aload_n F k37 rfl) k38 k39 (c_bin 1 (p1 := 46) (p2 := 50) (c_callV (p1 := 43) F (a_r_ok (p1 := 42) a_nil_ok (c_aload_n F k42 rfl)) (z_Box_mostWidth _) y_Box_mostWidth_ok lm_Cores_62 k43 r_Box_mostWidth (by decide) (by decide)) (c_callV (p1 := 47) F (a_r_ok (p1 := 46) a_nil_ok (c_aload_n F k46 rfl)) (z_Box_edges _) y_Box_edges_ok lm_Cores_53 k47 r_Box_edges (by decide) (by decide)) pl_c1 (j_iadd F k50)) (j_iadd F k51) k52 lf_Cores_46)) (d_astore_n (p1 := 59) F (c_callV (p1 := 56) F (a_r_ok (p1 := 55) a_nil_ok (c_aload_n F k55 rfl)) (z_Box_nextInFlow _) y_Box_nextInFlow_ok lm_Cores_65 k56 r_Box_nextInFlow (by decide) (by decide)) k59 rfl (hm 1 (by decide)))) k60 (by decide))))) (d_retv F Fm.2.1 Fm.2.2.1 k63)))
def y_Cores_find : MethodName := ⟨"PageLayouter$Cores", "find", "(LPageLayouter$Box;LPageLayouter$Columns;)V"⟩
abbrev b_Cores_find : ByteArray := prog_4_method_2_code
abbrev n_Cores_find : Nat := 2
theorem y_Cores_find_ok : pl_MS y_Cores_find b_Cores_find n_Cores_find (Option.none : Option Jvm.ClassFile.FieldType) 2 := ⟨pl_mem 391 (by decide +kernel) (by decide +kernel), pl_mem 390 (by decide +kernel) (by decide +kernel), pl_mem 54 (by decide +kernel) (by decide +kernel), ⟨by decide, by decide, by decide +kernel⟩⟩
def D_Cores_find : List (Nat × Instr × Nat) := [(0, .aload_n 0, 1), (1, .getfield 9, 3), (4, .iconst 2, 1), (5, .if_icmp .ne 8, 3), (8, .aload_n 1, 1), (9, .aload_n 0, 1), (10, .invokevirtual 15, 3), (13, .aload_n 0, 1), (14, .invokevirtual 21, 3), (17, .ifnonnull 10, 3), (20, .aload_n 0, 1), (21, .invokestatic 25, 3), (24, .goto 37, 3), (27, .aload_n 0, 1), (28, .getfield 9, 3), (31, .iconst 2, 1), (32, .if_icmp .ne 11, 3), (35, .aload_n 1, 1), (36, .aload_n 0, 1), (37, .invokevirtual 30, 3), (40, .goto 21, 3), (43, .aload_n 0, 1), (44, .getfield 9, 3), (47, .ifCond .ne 10, 3), (50, .aload_n 0, 1), (51, .invokestatic 33, 3), (54, .goto 7, 3), (57, .aload_n 0, 1), (58, .invokestatic 36, 3), (61, .return_, 1)]
theorem dd_Cores_find : (D_Cores_find.all fun q => decide (decode b_Cores_find q.1 = .ok q.2)) = true := by decide +kernel
def t_Cores_find : pl_TR := fun P _ _ => s_seq (s_seq (s_if (b_cmp .eq (e_geti 1 8 (e_locr 0)) (e_int 2)) (s_callV 2 t_Columns_measure n_Columns_measure (a_r (a_r a_nil (e_locr 1)) (e_locr 0)))) (s_ife (b_null (e_callV id 1 t_Box_firstInFlow n_Box_firstInFlow (a_r a_nil (e_locr 0)))) (s_callS t_Cores_findByWords n_Cores_findByWords (a_r a_nil (e_locr 0))) (s_ife (b_cmp .eq (e_geti 1 8 (e_locr 0)) (e_int 2)) (s_callV 2 t_Columns_findCores n_Columns_findCores (a_r (a_r a_nil (e_locr 1)) (e_locr 0))) (s_ife (b_zero .eq (e_geti 1 8 (e_locr 0))) (s_callS t_Cores_findByGreatest n_Cores_findByGreatest (a_r a_nil (e_locr 0))) (s_callS t_Cores_findBySum n_Cores_findBySum (a_r a_nil (e_locr 0))))))) (s_retv P)
theorem z_Cores_find (l : Launch) : pl_Ctr l y_Cores_find b_Cores_find n_Cores_find (Option.none : Option Jvm.ClassFile.FieldType) 4 87 0 0 false t_Cores_find := pl_ctr_of (pe := 0) (by decide) (fun X Y P F Fm => by
  have F : pl_Fx X Y "PageLayouter$Cores" b_Cores_find := F
  have r_Box_firstInFlow : 1 + 1 ≤ (pl_xR X).frames ∧ 8 + (n_Box_firstInFlow + 11) + 20 ≤ (pl_xR X).locals := ⟨Nat.le_trans (by decide) Fm.2.2.2.2.2.1, Nat.le_trans (by decide) Fm.2.2.2.2.2.2.1⟩
  have r_Columns_findCores : 1 + 1 ≤ (pl_xR X).frames ∧ 8 + (n_Columns_findCores + 11) + 23 ≤ (pl_xR X).locals := ⟨Nat.le_trans (by decide) Fm.2.2.2.2.2.1, Nat.le_trans (by decide) Fm.2.2.2.2.2.2.1⟩
  have r_Columns_measure : 3 + 1 ≤ (pl_xR X).frames ∧ 8 + (n_Columns_measure + 11) + 65 ≤ (pl_xR X).locals := ⟨Nat.le_trans (by decide) Fm.2.2.2.2.2.1, Nat.le_trans (by decide) Fm.2.2.2.2.2.2.1⟩
  have r_Cores_findByGreatest : 2 + 1 ≤ (pl_xR X).frames ∧ 8 + (n_Cores_findByGreatest + 11) + 41 ≤ (pl_xR X).locals := ⟨Nat.le_trans (by decide) Fm.2.2.2.2.2.1, Nat.le_trans (by decide) Fm.2.2.2.2.2.2.1⟩
  have r_Cores_findBySum : 2 + 1 ≤ (pl_xR X).frames ∧ 8 + (n_Cores_findBySum + 11) + 41 ≤ (pl_xR X).locals := ⟨Nat.le_trans (by decide) Fm.2.2.2.2.2.1, Nat.le_trans (by decide) Fm.2.2.2.2.2.2.1⟩
  have r_Cores_findByWords : 0 + 1 ≤ (pl_xR X).frames ∧ 8 + (n_Cores_findByWords + 11) + 0 ≤ (pl_xR X).locals := ⟨Nat.le_trans (by decide) Fm.2.2.2.2.2.1, Nat.le_trans (by decide) Fm.2.2.2.2.2.2.1⟩
  have k0 : decode b_Cores_find 0 = .ok (.aload_n 0, 1) := pl_dc dd_Cores_find 0 (q := (0, .aload_n 0, 1)) rfl
  have k1 : decode b_Cores_find 1 = .ok (.getfield 9, 3) := pl_dc dd_Cores_find 1 (q := (1, .getfield 9, 3)) rfl
  have k4 : decode b_Cores_find 4 = .ok (.iconst 2, 1) := pl_dc dd_Cores_find 2 (q := (4, .iconst 2, 1)) rfl
  have k5 : decode b_Cores_find 5 = .ok (.if_icmp .ne 8, 3) := pl_dc dd_Cores_find 3 (q := (5, .if_icmp .ne 8, 3)) rfl
  have k8 : decode b_Cores_find 8 = .ok (.aload_n 1, 1) := pl_dc dd_Cores_find 4 (q := (8, .aload_n 1, 1)) rfl
  have k9 : decode b_Cores_find 9 = .ok (.aload_n 0, 1) := pl_dc dd_Cores_find 5 (q := (9, .aload_n 0, 1)) rfl
  have k10 : decode b_Cores_find 10 = .ok (.invokevirtual 15, 3) := pl_dc dd_Cores_find 6 (q := (10, .invokevirtual 15, 3)) rfl
  have k13 : decode b_Cores_find 13 = .ok (.aload_n 0, 1) := pl_dc dd_Cores_find 7 (q := (13, .aload_n 0, 1)) rfl
  have k14 : decode b_Cores_find 14 = .ok (.invokevirtual 21, 3) := pl_dc dd_Cores_find 8 (q := (14, .invokevirtual 21, 3)) rfl
  have k17 : decode b_Cores_find 17 = .ok (.ifnonnull 10, 3) := pl_dc dd_Cores_find 9 (q := (17, .ifnonnull 10, 3)) rfl
  have k20 : decode b_Cores_find 20 = .ok (.aload_n 0, 1) := pl_dc dd_Cores_find 10 (q := (20, .aload_n 0, 1)) rfl
  have k21 : decode b_Cores_find 21 = .ok (.invokestatic 25, 3) := pl_dc dd_Cores_find 11 (q := (21, .invokestatic 25, 3)) rfl
  have k24 : decode b_Cores_find 24 = .ok (.goto 37, 3) := pl_dc dd_Cores_find 12 (q := (24, .goto 37, 3)) rfl
  have k27 : decode b_Cores_find 27 = .ok (.aload_n 0, 1) := pl_dc dd_Cores_find 13 (q := (27, .aload_n 0, 1)) rfl
  have k28 : decode b_Cores_find 28 = .ok (.getfield 9, 3) := pl_dc dd_Cores_find 14 (q := (28, .getfield 9, 3)) rfl
  have k31 : decode b_Cores_find 31 = .ok (.iconst 2, 1) := pl_dc dd_Cores_find 15 (q := (31, .iconst 2, 1)) rfl
  have k32 : decode b_Cores_find 32 = .ok (.if_icmp .ne 11, 3) := pl_dc dd_Cores_find 16 (q := (32, .if_icmp .ne 11, 3)) rfl
  have k35 : decode b_Cores_find 35 = .ok (.aload_n 1, 1) := pl_dc dd_Cores_find 17 (q := (35, .aload_n 1, 1)) rfl
  have k36 : decode b_Cores_find 36 = .ok (.aload_n 0, 1) := pl_dc dd_Cores_find 18 (q := (36, .aload_n 0, 1)) rfl
  have k37 : decode b_Cores_find 37 = .ok (.invokevirtual 30, 3) := pl_dc dd_Cores_find 19 (q := (37, .invokevirtual 30, 3)) rfl
  have k40 : decode b_Cores_find 40 = .ok (.goto 21, 3) := pl_dc dd_Cores_find 20 (q := (40, .goto 21, 3)) rfl
  have k43 : decode b_Cores_find 43 = .ok (.aload_n 0, 1) := pl_dc dd_Cores_find 21 (q := (43, .aload_n 0, 1)) rfl
  have k44 : decode b_Cores_find 44 = .ok (.getfield 9, 3) := pl_dc dd_Cores_find 22 (q := (44, .getfield 9, 3)) rfl
  have k47 : decode b_Cores_find 47 = .ok (.ifCond .ne 10, 3) := pl_dc dd_Cores_find 23 (q := (47, .ifCond .ne 10, 3)) rfl
  have k50 : decode b_Cores_find 50 = .ok (.aload_n 0, 1) := pl_dc dd_Cores_find 24 (q := (50, .aload_n 0, 1)) rfl
  have k51 : decode b_Cores_find 51 = .ok (.invokestatic 33, 3) := pl_dc dd_Cores_find 25 (q := (51, .invokestatic 33, 3)) rfl
  have k54 : decode b_Cores_find 54 = .ok (.goto 7, 3) := pl_dc dd_Cores_find 26 (q := (54, .goto 7, 3)) rfl
  have k57 : decode b_Cores_find 57 = .ok (.aload_n 0, 1) := pl_dc dd_Cores_find 27 (q := (57, .aload_n 0, 1)) rfl
  have k58 : decode b_Cores_find 58 = .ok (.invokestatic 36, 3) := pl_dc dd_Cores_find 28 (q := (58, .invokestatic 36, 3)) rfl
  have k61 : decode b_Cores_find 61 = .ok (.return_, 1) := pl_dc dd_Cores_find 29 (q := (61, .return_, 1)) rfl
  exact (d_seq (p1 := 61) (d_seq (p1 := 13) (d_if (p1 := 8) (p2 := 13) (b_cmp_t (p1 := 4) (p2 := 5) (pj := 13) F (c_geti (p1 := 1) F 1 8 hg_1_8 (c_aload_n F k0 rfl) k1 lf_Cores_9) (c_iconst F k4 (by decide)) k5 (by decide)) (d_callV (p1 := 10) F (a_r_ok (p1 := 9) (a_r_ok (p1 := 8) a_nil_ok (c_aload_n F k8 rfl)) (c_aload_n F k9 rfl)) (z_Columns_measure _) y_Columns_measure_ok lm_Cores_15 k10 r_Columns_measure (by decide))) (d_ife (p1 := 20) (p2 := 24) (p3 := 61) F (b_null_t (p1 := 17) (pj := 27) F (c_callV (p1 := 14) F (a_r_ok (p1 := 13) a_nil_ok (c_aload_n F k13 rfl)) (z_Box_firstInFlow _) y_Box_firstInFlow_ok lm_Cores_21 k14 r_Box_firstInFlow (by decide) (by decide)) k17 (by decide)) (d_callS (p1 := 21) F (a_r_ok (p1 := 20) a_nil_ok (c_aload_n F k20 rfl)) (z_Cores_findByWords _) y_Cores_findByWords_ok lm_Cores_25 k21 r_Cores_findByWords (by decide)) k24 (by decide) (d_ife (p1 := 35) (p2 := 40) (p3 := 61) F (b_cmp_t (p1 := 31) (p2 := 32) (pj := 43) F (c_geti (p1 := 28) F 1 8 hg_1_8 (c_aload_n F k27 rfl) k28 lf_Cores_9) (c_iconst F k31 (by decide)) k32 (by decide)) (d_callV (p1 := 37) F (a_r_ok (p1 := 36) (a_r_ok (p1 := 35) a_nil_ok (c_aload_n F k35 rfl)) (c_aload_n F k36 rfl)) (z_Columns_findCores _) y_Columns_findCores_ok lm_Cores_30 k37 r_Columns_findCores (by decide)) k40 (by decide) (d_ife (p1 := 50) (p2 := 54) (p3 := 61) F (b_zero_t (p1 := 47) (pj := 57) F (c_geti (p1 := 44) F 1 8 hg_1_8 (c_aload_n F k43 rfl) k44 lf_Cores_9) k47 (by decide)) (d_callS (p1 := 51) F (a_r_ok (p1 := 50) a_nil_ok (c_aload_n F k50 rfl)) (z_Cores_findByGreatest _) y_Cores_findByGreatest_ok lm_Cores_33 k51 r_Cores_findByGreatest (by decide)) k54 (by decide) (d_callS (p1 := 58) F (a_r_ok (p1 := 57) a_nil_ok (c_aload_n F k57 rfl)) (z_Cores_findBySum _) y_Cores_findBySum_ok lm_Cores_36 k58 r_Cores_findBySum (by decide)))))) (d_retv F Fm.2.1 Fm.2.2.1 k61)))
def y_Pl_findCores : MethodName := ⟨"PageLayouter", "findCores", "()V"⟩
abbrev b_Pl_findCores : ByteArray := prog_1_method_18_code
abbrev n_Pl_findCores : Nat := 2
theorem y_Pl_findCores_ok : pl_MV 0 y_Pl_findCores b_Pl_findCores n_Pl_findCores (Option.none : Option Jvm.ClassFile.FieldType) 0 := ⟨pl_mem 384 (by decide +kernel) (by decide +kernel), pl_mem 383 (by decide +kernel) (by decide +kernel), pl_mem 3 (by decide +kernel) (by decide +kernel), pl_mem 44 (by decide +kernel) (by decide +kernel), ⟨by decide, by decide, by decide +kernel⟩, _, rfl, rfl⟩
def D_Pl_findCores : List (Nat × Instr × Nat) := [(0, .aload_n 0, 1), (1, .getfield 21, 3), (4, .invokevirtual 160, 3), (7, .aload_n 0, 1), (8, .getfield 25, 3), (11, .iconst 1, 1), (12, .isub, 1), (13, .istore_n 1, 1), (14, .iload_n 1, 1), (15, .ifCond .lt 22, 3), (18, .aload_n 0, 1), (19, .getfield 11, 3), (22, .iload_n 1, 1), (23, .aaload, 1), (24, .aload_n 0, 1), (25, .getfield 21, 3), (28, .invokestatic 163, 3), (31, .iinc 1 (-1), 3), (34, .goto (-20), 3), (37, .return_, 1)]
theorem dd_Pl_findCores : (D_Pl_findCores.all fun q => decide (decode b_Pl_findCores q.1 = .ok q.2)) = true := by decide +kernel
def t_Pl_findCores : pl_TR := fun P _ _ => s_seq (s_seq (s_callV 2 t_Columns_clear n_Columns_clear (a_r a_nil (e_getr 0 1 (e_locr 0)))) (s_seq (s_seti 1 (e_bin (fun x y : Int32 => x - y) (e_geti 0 2 (e_locr 0)) (e_int 1))) (s_while (b_zero .ge (e_loc 1)) (s_seq (s_callS t_Cores_find n_Cores_find (a_r (a_r a_nil (e_aald (e_getr 0 0 (e_locr 0)) (e_loc 1))) (e_getr 0 1 (e_locr 0)))) (s_inc 1 (-1)))))) (s_retv P)
theorem z_Pl_findCores (l : Launch) : pl_Ctr l y_Pl_findCores b_Pl_findCores n_Pl_findCores (Option.none : Option Jvm.ClassFile.FieldType) 5 108 0 0 false t_Pl_findCores := pl_ctr_of (pe := 0) (by decide) (fun X Y P F Fm => by
  have F : pl_Fx X Y "PageLayouter" b_Pl_findCores := F
  have r_Columns_clear : 0 + 1 ≤ (pl_xR X).frames ∧ 8 + (n_Columns_clear + 11) + 0 ≤ (pl_xR X).locals := ⟨Nat.le_trans (by decide) Fm.2.2.2.2.2.1, Nat.le_trans (by decide) Fm.2.2.2.2.2.2.1⟩
  have r_Cores_find : 4 + 1 ≤ (pl_xR X).frames ∧ 8 + (n_Cores_find + 11) + 87 ≤ (pl_xR X).locals := ⟨Nat.le_trans (by decide) Fm.2.2.2.2.2.1, Nat.le_trans (by decide) Fm.2.2.2.2.2.2.1⟩
  have hm : ∀ i, i < 2 → i < (pl_xc X).maxLocals := fun i h => by rw [Fm.2.2.2.1]; exact h
  have k0 : decode b_Pl_findCores 0 = .ok (.aload_n 0, 1) := pl_dc dd_Pl_findCores 0 (q := (0, .aload_n 0, 1)) rfl
  have k1 : decode b_Pl_findCores 1 = .ok (.getfield 21, 3) := pl_dc dd_Pl_findCores 1 (q := (1, .getfield 21, 3)) rfl
  have k4 : decode b_Pl_findCores 4 = .ok (.invokevirtual 160, 3) := pl_dc dd_Pl_findCores 2 (q := (4, .invokevirtual 160, 3)) rfl
  have k7 : decode b_Pl_findCores 7 = .ok (.aload_n 0, 1) := pl_dc dd_Pl_findCores 3 (q := (7, .aload_n 0, 1)) rfl
  have k8 : decode b_Pl_findCores 8 = .ok (.getfield 25, 3) := pl_dc dd_Pl_findCores 4 (q := (8, .getfield 25, 3)) rfl
  have k11 : decode b_Pl_findCores 11 = .ok (.iconst 1, 1) := pl_dc dd_Pl_findCores 5 (q := (11, .iconst 1, 1)) rfl
  have k12 : decode b_Pl_findCores 12 = .ok (.isub, 1) := pl_dc dd_Pl_findCores 6 (q := (12, .isub, 1)) rfl
  have k13 : decode b_Pl_findCores 13 = .ok (.istore_n 1, 1) := pl_dc dd_Pl_findCores 7 (q := (13, .istore_n 1, 1)) rfl
  have k14 : decode b_Pl_findCores 14 = .ok (.iload_n 1, 1) := pl_dc dd_Pl_findCores 8 (q := (14, .iload_n 1, 1)) rfl
  have k15 : decode b_Pl_findCores 15 = .ok (.ifCond .lt 22, 3) := pl_dc dd_Pl_findCores 9 (q := (15, .ifCond .lt 22, 3)) rfl
  have k18 : decode b_Pl_findCores 18 = .ok (.aload_n 0, 1) := pl_dc dd_Pl_findCores 10 (q := (18, .aload_n 0, 1)) rfl
  have k19 : decode b_Pl_findCores 19 = .ok (.getfield 11, 3) := pl_dc dd_Pl_findCores 11 (q := (19, .getfield 11, 3)) rfl
  have k22 : decode b_Pl_findCores 22 = .ok (.iload_n 1, 1) := pl_dc dd_Pl_findCores 12 (q := (22, .iload_n 1, 1)) rfl
  have k23 : decode b_Pl_findCores 23 = .ok (.aaload, 1) := pl_dc dd_Pl_findCores 13 (q := (23, .aaload, 1)) rfl
  have k24 : decode b_Pl_findCores 24 = .ok (.aload_n 0, 1) := pl_dc dd_Pl_findCores 14 (q := (24, .aload_n 0, 1)) rfl
  have k25 : decode b_Pl_findCores 25 = .ok (.getfield 21, 3) := pl_dc dd_Pl_findCores 15 (q := (25, .getfield 21, 3)) rfl
  have k28 : decode b_Pl_findCores 28 = .ok (.invokestatic 163, 3) := pl_dc dd_Pl_findCores 16 (q := (28, .invokestatic 163, 3)) rfl
  have k31 : decode b_Pl_findCores 31 = .ok (.iinc 1 (-1), 3) := pl_dc dd_Pl_findCores 17 (q := (31, .iinc 1 (-1), 3)) rfl
  have k34 : decode b_Pl_findCores 34 = .ok (.goto (-20), 3) := pl_dc dd_Pl_findCores 18 (q := (34, .goto (-20), 3)) rfl
  have k37 : decode b_Pl_findCores 37 = .ok (.return_, 1) := pl_dc dd_Pl_findCores 19 (q := (37, .return_, 1)) rfl
  exact (d_seq (p1 := 37) (d_seq (p1 := 7) (d_callV (p1 := 4) F (a_r_ok (p1 := 0) a_nil_ok (c_getr (p1 := 1) F 0 1 hg_0_1 (c_aload_n F k0 rfl) k1 lf_PageLayouter_21)) (z_Columns_clear _) y_Columns_clear_ok lm_PageLayouter_160 k4 r_Columns_clear (by decide)) (d_seq (p1 := 14) (d_istore_n (p1 := 13) F (c_bin 1 (p1 := 11) (p2 := 12) (c_geti (p1 := 8) F 0 2 hg_0_2 (c_aload_n F k7 rfl) k8 lf_PageLayouter_25) (c_iconst F k11 (by decide)) pl_c1 (j_isub F k12)) k13 rfl (hm 1 (by decide))) (d_while (p1 := 18) (p2 := 34) F (b_zero_t (p1 := 15) (pj := 37) F (c_iload_n F k14 rfl) k15 (by decide)) (d_seq (p1 := 31) (d_callS (p1 := 28) F (a_r_ok (p1 := 24) (a_r_ok (p1 := 18) a_nil_ok (c_aald (p1 := 22) (p2 := 23) F (c_getr (p1 := 19) F 0 0 hg_0_0 (c_aload_n F k18 rfl) k19 lf_PageLayouter_11) (c_iload_n F k22 rfl) k23)) (c_getr (p1 := 25) F 0 1 hg_0_1 (c_aload_n F k24 rfl) k25 lf_PageLayouter_21)) (z_Cores_find _) y_Cores_find_ok lm_PageLayouter_163 k28 r_Cores_find (by decide)) (d_iinc F k31 (by decide) (hm 1 (by decide)))) k34 (by decide)))) (d_retv F Fm.2.1 Fm.2.2.1 k37)))
def y_Widths_inParent : MethodName := ⟨"PageLayouter$Widths", "inParent", "(LPageLayouter$Box;I)I"⟩
abbrev b_Widths_inParent : ByteArray := prog_8_method_3_code
abbrev n_Widths_inParent : Nat := 3
theorem y_Widths_inParent_ok : pl_MS y_Widths_inParent b_Widths_inParent n_Widths_inParent (Option.some Jvm.ClassFile.FieldType.int) 2 := ⟨pl_mem 483 (by decide +kernel) (by decide +kernel), pl_mem 482 (by decide +kernel) (by decide +kernel), pl_mem 56 (by decide +kernel) (by decide +kernel), ⟨by decide, by decide, by decide +kernel⟩⟩
def D_Widths_inParent : List (Nat × Instr × Nat) := [(0, .aload_n 0, 1), (1, .invokevirtual 38, 3), (4, .istore_n 2, 1), (5, .iload_n 2, 1), (6, .invokestatic 42, 3), (9, .ifCond .eq 5, 3), (12, .iload_n 2, 1), (13, .ireturn, 1), (14, .iload_n 2, 1), (15, .invokestatic 46, 3), (18, .ifCond .eq 11, 3), (21, .iload_n 1, 1), (22, .iload_n 2, 1), (23, .invokestatic 49, 3), (26, .goto 13, 3), (29, .iconst 0, 1), (30, .iload_n 1, 1), (31, .aload_n 0, 1), (32, .invokevirtual 53, 3), (35, .isub, 1), (36, .invokestatic 56, 3), (39, .ireturn, 1)]
theorem dd_Widths_inParent : (D_Widths_inParent.all fun q => decide (decode b_Widths_inParent q.1 = .ok q.2)) = true := by decide +kernel
def t_Widths_inParent : pl_TR := fun P _ _ => s_seq (s_seti 2 (e_callV Value.int 1 t_Box_wantedWidth n_Box_wantedWidth (a_r a_nil (e_locr 0)))) (s_seq (s_if (b_zero .ne (e_callS Value.int t_Pl_isSize n_Pl_isSize (a_i a_nil (e_loc 2)))) (s_reti P (e_loc 2))) (s_reti P (e_if (b_zero .ne (e_callS Value.int t_Pl_isPercent n_Pl_isPercent (a_i a_nil (e_loc 2)))) (e_callS Value.int t_Pl_percentOf n_Pl_percentOf (a_i (a_i a_nil (e_loc 1)) (e_loc 2))) (e_bin pl_max (e_int 0) (e_bin (fun x y : Int32 => x - y) (e_loc 1) (e_callV Value.int 1 t_Box_edges n_Box_edges (a_r a_nil (e_locr 0))))))))
theorem z_Widths_inParent (l : Launch) : pl_Ctr l y_Widths_inParent b_Widths_inParent n_Widths_inParent (Option.some Jvm.ClassFile.FieldType.int) 2 40 0 0 false t_Widths_inParent := pl_ctr_of (pe := 0) (by decide) (fun X Y P F Fm => by
  have F : pl_Fx X Y "PageLayouter$Widths" b_Widths_inParent := F
  have r_Box_edges : 1 + 1 ≤ (pl_xR X).frames ∧ 8 + (n_Box_edges + 11) + 20 ≤ (pl_xR X).locals := ⟨Nat.le_trans (by decide) Fm.2.2.2.2.2.1, Nat.le_trans (by decide) Fm.2.2.2.2.2.2.1⟩
  have r_Box_wantedWidth : 0 + 1 ≤ (pl_xR X).frames ∧ 8 + (n_Box_wantedWidth + 11) + 0 ≤ (pl_xR X).locals := ⟨Nat.le_trans (by decide) Fm.2.2.2.2.2.1, Nat.le_trans (by decide) Fm.2.2.2.2.2.2.1⟩
  have r_Pl_isPercent : 0 + 1 ≤ (pl_xR X).frames ∧ 8 + (n_Pl_isPercent + 11) + 0 ≤ (pl_xR X).locals := ⟨Nat.le_trans (by decide) Fm.2.2.2.2.2.1, Nat.le_trans (by decide) Fm.2.2.2.2.2.2.1⟩
  have r_Pl_isSize : 0 + 1 ≤ (pl_xR X).frames ∧ 8 + (n_Pl_isSize + 11) + 0 ≤ (pl_xR X).locals := ⟨Nat.le_trans (by decide) Fm.2.2.2.2.2.1, Nat.le_trans (by decide) Fm.2.2.2.2.2.2.1⟩
  have r_Pl_percentOf : 0 + 1 ≤ (pl_xR X).frames ∧ 8 + (n_Pl_percentOf + 11) + 0 ≤ (pl_xR X).locals := ⟨Nat.le_trans (by decide) Fm.2.2.2.2.2.1, Nat.le_trans (by decide) Fm.2.2.2.2.2.2.1⟩
  have R0 : 1 ≤ (pl_xR X).frames ∧ 21 ≤ (pl_xR X).locals := ⟨Nat.le_trans (by decide) Fm.2.2.2.2.2.1, Nat.le_trans (by decide) Fm.2.2.2.2.2.2.1⟩
  have hm : ∀ i, i < 3 → i < (pl_xc X).maxLocals := fun i h => by rw [Fm.2.2.2.1]; exact h
  have k0 : decode b_Widths_inParent 0 = .ok (.aload_n 0, 1) := pl_dc dd_Widths_inParent 0 (q := (0, .aload_n 0, 1)) rfl
  have k1 : decode b_Widths_inParent 1 = .ok (.invokevirtual 38, 3) := pl_dc dd_Widths_inParent 1 (q := (1, .invokevirtual 38, 3)) rfl
  have k4 : decode b_Widths_inParent 4 = .ok (.istore_n 2, 1) := pl_dc dd_Widths_inParent 2 (q := (4, .istore_n 2, 1)) rfl
  have k5 : decode b_Widths_inParent 5 = .ok (.iload_n 2, 1) := pl_dc dd_Widths_inParent 3 (q := (5, .iload_n 2, 1)) rfl
  have k6 : decode b_Widths_inParent 6 = .ok (.invokestatic 42, 3) := pl_dc dd_Widths_inParent 4 (q := (6, .invokestatic 42, 3)) rfl
  have k9 : decode b_Widths_inParent 9 = .ok (.ifCond .eq 5, 3) := pl_dc dd_Widths_inParent 5 (q := (9, .ifCond .eq 5, 3)) rfl
  have k12 : decode b_Widths_inParent 12 = .ok (.iload_n 2, 1) := pl_dc dd_Widths_inParent 6 (q := (12, .iload_n 2, 1)) rfl
  have k13 : decode b_Widths_inParent 13 = .ok (.ireturn, 1) := pl_dc dd_Widths_inParent 7 (q := (13, .ireturn, 1)) rfl
  have k14 : decode b_Widths_inParent 14 = .ok (.iload_n 2, 1) := pl_dc dd_Widths_inParent 8 (q := (14, .iload_n 2, 1)) rfl
  have k15 : decode b_Widths_inParent 15 = .ok (.invokestatic 46, 3) := pl_dc dd_Widths_inParent 9 (q := (15, .invokestatic 46, 3)) rfl
  have k18 : decode b_Widths_inParent 18 = .ok (.ifCond .eq 11, 3) := pl_dc dd_Widths_inParent 10 (q := (18, .ifCond .eq 11, 3)) rfl
  have k21 : decode b_Widths_inParent 21 = .ok (.iload_n 1, 1) := pl_dc dd_Widths_inParent 11 (q := (21, .iload_n 1, 1)) rfl
  have k22 : decode b_Widths_inParent 22 = .ok (.iload_n 2, 1) := pl_dc dd_Widths_inParent 12 (q := (22, .iload_n 2, 1)) rfl
  have k23 : decode b_Widths_inParent 23 = .ok (.invokestatic 49, 3) := pl_dc dd_Widths_inParent 13 (q := (23, .invokestatic 49, 3)) rfl
  have k26 : decode b_Widths_inParent 26 = .ok (.goto 13, 3) := pl_dc dd_Widths_inParent 14 (q := (26, .goto 13, 3)) rfl
  have k29 : decode b_Widths_inParent 29 = .ok (.iconst 0, 1) := pl_dc dd_Widths_inParent 15 (q := (29, .iconst 0, 1)) rfl
  have k30 : decode b_Widths_inParent 30 = .ok (.iload_n 1, 1) := pl_dc dd_Widths_inParent 16 (q := (30, .iload_n 1, 1)) rfl
  have k31 : decode b_Widths_inParent 31 = .ok (.aload_n 0, 1) := pl_dc dd_Widths_inParent 17 (q := (31, .aload_n 0, 1)) rfl
  have k32 : decode b_Widths_inParent 32 = .ok (.invokevirtual 53, 3) := pl_dc dd_Widths_inParent 18 (q := (32, .invokevirtual 53, 3)) rfl
  have k35 : decode b_Widths_inParent 35 = .ok (.isub, 1) := pl_dc dd_Widths_inParent 19 (q := (35, .isub, 1)) rfl
  have k36 : decode b_Widths_inParent 36 = .ok (.invokestatic 56, 3) := pl_dc dd_Widths_inParent 20 (q := (36, .invokestatic 56, 3)) rfl
  have k39 : decode b_Widths_inParent 39 = .ok (.ireturn, 1) := pl_dc dd_Widths_inParent 21 (q := (39, .ireturn, 1)) rfl
  exact (d_seq (p1 := 5) (d_istore_n (p1 := 4) F (c_callV (p1 := 1) F (a_r_ok (p1 := 0) a_nil_ok (c_aload_n F k0 rfl)) (z_Box_wantedWidth _) y_Box_wantedWidth_ok lm_Widths_38 k1 r_Box_wantedWidth (by decide) (by decide)) k4 rfl (hm 2 (by decide))) (d_seq (p1 := 14) (d_if (p1 := 12) (p2 := 14) (b_zero_t (p1 := 9) (pj := 14) F (c_callSN (p1 := 6) F (a_i_ok (p1 := 5) a_nil_ok (c_iload_n F k5 rfl)) (z_Pl_isSize _) y_Pl_isSize_ok ln_Widths_42 k6 r_Pl_isSize (by decide) (by decide)) k9 (by decide)) (d_reti (p1 := 13) F Fm.2.1 Fm.2.2.1 (c_iload_n F k12 rfl) k13)) (d_reti (p1 := 39) F Fm.2.1 Fm.2.2.1 (c_if (p1 := 21) (p2 := 26) (p3 := 39) F (b_zero_t (p1 := 18) (pj := 29) F (c_callSN (p1 := 15) F (a_i_ok (p1 := 14) a_nil_ok (c_iload_n F k14 rfl)) (z_Pl_isPercent _) y_Pl_isPercent_ok ln_Widths_46 k15 r_Pl_isPercent (by decide) (by decide)) k18 (by decide)) (c_callSN (p1 := 23) F (a_i_ok (p1 := 22) (a_i_ok (p1 := 21) a_nil_ok (c_iload_n F k21 rfl)) (c_iload_n F k22 rfl)) (z_Pl_percentOf _) y_Pl_percentOf_ok ln_Widths_49 k23 r_Pl_percentOf (by decide) (by decide)) k26 (by decide) (c_max (p1 := 30) (p2 := 36) F (c_iconst F k29 (by decide)) (c_bin 1 (p1 := 31) (p2 := 35) (c_iload_n F k30 rfl) (c_callV (p1 := 32) F (a_r_ok (p1 := 31) a_nil_ok (c_aload_n F k31 rfl)) (z_Box_edges _) y_Box_edges_ok lm_Widths_53 k32 r_Box_edges (by decide) (by decide)) pl_c1 (j_isub F k35)) k36 lm_Widths_56 hm_max R0 (by decide))) k39))))
def y_Flex_giveBases : MethodName := ⟨"PageLayouter$Flex", "giveBases", "(LPageLayouter$Box;)V"⟩
abbrev b_Flex_giveBases : ByteArray := prog_5_method_3_code
abbrev n_Flex_giveBases : Nat := 3
theorem y_Flex_giveBases_ok : pl_MS y_Flex_giveBases b_Flex_giveBases n_Flex_giveBases (Option.none : Option Jvm.ClassFile.FieldType) 1 := ⟨pl_mem 497 (by decide +kernel) (by decide +kernel), pl_mem 496 (by decide +kernel) (by decide +kernel), pl_mem 57 (by decide +kernel) (by decide +kernel), ⟨by decide, by decide, by decide +kernel⟩⟩
def D_Flex_giveBases : List (Nat × Instr × Nat) := [(0, .aload_n 0, 1), (1, .invokevirtual 26, 3), (4, .astore_n 1, 1), (5, .aload_n 1, 1), (6, .ifnull 42, 3), (9, .aload_n 1, 1), (10, .invokevirtual 32, 3), (13, .istore_n 2, 1), (14, .aload_n 1, 1), (15, .iload_n 2, 1), (16, .invokestatic 36, 3), (19, .ifCond .eq 14, 3), (22, .aload_n 0, 1), (23, .getfield 40, 3), (26, .iload_n 2, 1), (27, .invokestatic 44, 3), (30, .goto 7, 3), (33, .aload_n 1, 1), (34, .invokevirtual 48, 3), (37, .putfield 40, 3), (40, .aload_n 1, 1), (41, .invokevirtual 51, 3), (44, .astore_n 1, 1), (45, .goto (-40), 3), (48, .return_, 1)]
theorem dd_Flex_giveBases : (D_Flex_giveBases.all fun q => decide (decode b_Flex_giveBases q.1 = .ok q.2)) = true := by decide +kernel
def t_Flex_giveBases : pl_TR := fun P _ _ => s_seq (s_seq (s_setr 1 (e_callV id 1 t_Box_firstInFlow n_Box_firstInFlow (a_r a_nil (e_locr 0)))) (s_while (b_nn (e_locr 1)) (s_seq (s_seq (s_seti 2 (e_callV Value.int 1 t_Box_wantedWidth n_Box_wantedWidth (a_r a_nil (e_locr 1)))) (s_puti 1 14 (e_locr 1) (e_if (b_zero .ne (e_callS Value.int t_Pl_isPercent n_Pl_isPercent (a_i a_nil (e_loc 2)))) (e_callS Value.int t_Pl_percentOf n_Pl_percentOf (a_i (a_i a_nil (e_geti 1 14 (e_locr 0))) (e_loc 2))) (e_callV Value.int 1 t_Box_mostWidth n_Box_mostWidth (a_r a_nil (e_locr 1)))))) (s_setr 1 (e_callV id 1 t_Box_nextInFlow n_Box_nextInFlow (a_r a_nil (e_locr 1))))))) (s_retv P)
theorem z_Flex_giveBases (l : Launch) : pl_Ctr l y_Flex_giveBases b_Flex_giveBases n_Flex_giveBases (Option.none : Option Jvm.ClassFile.FieldType) 2 41 0 0 false t_Flex_giveBases := pl_ctr_of (pe := 0) (by decide) (fun X Y P F Fm => by
  have F : pl_Fx X Y "PageLayouter$Flex" b_Flex_giveBases := F
  have r_Box_firstInFlow : 1 + 1 ≤ (pl_xR X).frames ∧ 8 + (n_Box_firstInFlow + 11) + 20 ≤ (pl_xR X).locals := ⟨Nat.le_trans (by decide) Fm.2.2.2.2.2.1, Nat.le_trans (by decide) Fm.2.2.2.2.2.2.1⟩
  have r_Box_mostWidth : 1 + 1 ≤ (pl_xR X).frames ∧ 8 + (n_Box_mostWidth + 11) + 20 ≤ (pl_xR X).locals := ⟨Nat.le_trans (by decide) Fm.2.2.2.2.2.1, Nat.le_trans (by decide) Fm.2.2.2.2.2.2.1⟩
  have r_Box_nextInFlow : 1 + 1 ≤ (pl_xR X).frames ∧ 8 + (n_Box_nextInFlow + 11) + 20 ≤ (pl_xR X).locals := ⟨Nat.le_trans (by decide) Fm.2.2.2.2.2.1, Nat.le_trans (by decide) Fm.2.2.2.2.2.2.1⟩
  have r_Box_wantedWidth : 0 + 1 ≤ (pl_xR X).frames ∧ 8 + (n_Box_wantedWidth + 11) + 0 ≤ (pl_xR X).locals := ⟨Nat.le_trans (by decide) Fm.2.2.2.2.2.1, Nat.le_trans (by decide) Fm.2.2.2.2.2.2.1⟩
  have r_Pl_isPercent : 0 + 1 ≤ (pl_xR X).frames ∧ 8 + (n_Pl_isPercent + 11) + 0 ≤ (pl_xR X).locals := ⟨Nat.le_trans (by decide) Fm.2.2.2.2.2.1, Nat.le_trans (by decide) Fm.2.2.2.2.2.2.1⟩
  have r_Pl_percentOf : 0 + 1 ≤ (pl_xR X).frames ∧ 8 + (n_Pl_percentOf + 11) + 0 ≤ (pl_xR X).locals := ⟨Nat.le_trans (by decide) Fm.2.2.2.2.2.1, Nat.le_trans (by decide) Fm.2.2.2.2.2.2.1⟩
  have hm : ∀ i, i < 3 → i < (pl_xc X).maxLocals := fun i h => by rw [Fm.2.2.2.1]; exact h
  have k0 : decode b_Flex_giveBases 0 = .ok (.aload_n 0, 1) := pl_dc dd_Flex_giveBases 0 (q := (0, .aload_n 0, 1)) rfl
  have k1 : decode b_Flex_giveBases 1 = .ok (.invokevirtual 26, 3) := pl_dc dd_Flex_giveBases 1 (q := (1, .invokevirtual 26, 3)) rfl
  have k4 : decode b_Flex_giveBases 4 = .ok (.astore_n 1, 1) := pl_dc dd_Flex_giveBases 2 (q := (4, .astore_n 1, 1)) rfl
  have k5 : decode b_Flex_giveBases 5 = .ok (.aload_n 1, 1) := pl_dc dd_Flex_giveBases 3 (q := (5, .aload_n 1, 1)) rfl
  have k6 : decode b_Flex_giveBases 6 = .ok (.ifnull 42, 3) := pl_dc dd_Flex_giveBases 4 (q := (6, .ifnull 42, 3)) rfl
  have k9 : decode b_Flex_giveBases 9 = .ok (.aload_n 1, 1) := pl_dc dd_Flex_giveBases 5 (q := (9, .aload_n 1, 1)) rfl
  have k10 : decode b_Flex_giveBases 10 = .ok (.invokevirtual 32, 3) := pl_dc dd_Flex_giveBases 6 (q := (10, .invokevirtual 32, 3)) rfl
  have k13 : decode b_Flex_giveBases 13 = .ok (.istore_n 2, 1) := pl_dc dd_Flex_giveBases 7 (q := (13, .istore_n 2, 1)) rfl
  have k14 : decode b_Flex_giveBases 14 = .ok (.aload_n 1, 1) := pl_dc dd_Flex_giveBases 8 (q := (14, .aload_n 1, 1)) rfl
  have k15 : decode b_Flex_giveBases 15 = .ok (.iload_n 2, 1) := pl_dc dd_Flex_giveBases 9 (q := (15, .iload_n 2, 1)) rfl
  have k16 : decode b_Flex_giveBases 16 = .ok (.invokestatic 36, 3) := pl_dc dd_Flex_giveBases 10 (q := (16, .invokestatic 36, 3)) rfl
  have k19 : decode b_Flex_giveBases 19 = .ok (.ifCond .eq 14, 3) := pl_dc dd_Flex_giveBases 11 (q := (19, .ifCond .eq 14, 3)) rfl
  have k22 : decode b_Flex_giveBases 22 = .ok (.aload_n 0, 1) := pl_dc dd_Flex_giveBases 12 (q := (22, .aload_n 0, 1)) rfl
  have k23 : decode b_Flex_giveBases 23 = .ok (.getfield 40, 3) := pl_dc dd_Flex_giveBases 13 (q := (23, .getfield 40, 3)) rfl
  have k26 : decode b_Flex_giveBases 26 = .ok (.iload_n 2, 1) := pl_dc dd_Flex_giveBases 14 (q := (26, .iload_n 2, 1)) rfl
  have k27 : decode b_Flex_giveBases 27 = .ok (.invokestatic 44, 3) := pl_dc dd_Flex_giveBases 15 (q := (27, .invokestatic 44, 3)) rfl
  have k30 : decode b_Flex_giveBases 30 = .ok (.goto 7, 3) := pl_dc dd_Flex_giveBases 16 (q := (30, .goto 7, 3)) rfl
  have k33 : decode b_Flex_giveBases 33 = .ok (.aload_n 1, 1) := pl_dc dd_Flex_giveBases 17 (q := (33, .aload_n 1, 1)) rfl
  have k34 : decode b_Flex_giveBases 34 = .ok (.invokevirtual 48, 3) := pl_dc dd_Flex_giveBases 18 (q := (34, .invokevirtual 48, 3)) rfl
  have k37 : decode b_Flex_giveBases 37 = .ok (.putfield 40, 3) := pl_dc dd_Flex_giveBases 19 (q := (37, .putfield 40, 3)) rfl
  have k40 : decode b_Flex_giveBases 40 = .ok (.aload_n 1, 1) := pl_dc dd_Flex_giveBases 20 (q := (40, .aload_n 1, 1)) rfl
  have k41 : decode b_Flex_giveBases 41 = .ok (.invokevirtual 51, 3) := pl_dc dd_Flex_giveBases 21 (q := (41, .invokevirtual 51, 3)) rfl
  have k44 : decode b_Flex_giveBases 44 = .ok (.astore_n 1, 1) := pl_dc dd_Flex_giveBases 22 (q := (44, .astore_n 1, 1)) rfl
  have k45 : decode b_Flex_giveBases 45 = .ok (.goto (-40), 3) := pl_dc dd_Flex_giveBases 23 (q := (45, .goto (-40), 3)) rfl
  have k48 : decode b_Flex_giveBases 48 = .ok (.return_, 1) := pl_dc dd_Flex_giveBases 24 (q := (48, .return_, 1)) rfl
  exact (d_seq (p1 := 48) (d_seq (p1 := 5) (d_astore_n (p1 := 4) F (c_callV (p1 := 1) F (a_r_ok (p1 := 0) a_nil_ok (c_aload_n F k0 rfl)) (z_Box_firstInFlow _) y_Box_firstInFlow_ok lm_Flex_26 k1 r_Box_firstInFlow (by decide) (by decide)) k4 rfl (hm 1 (by decide))) (d_while (p1 := 9) (p2 := 45) F (b_nn_t (p1 := 6) (pj := 48) F (c_aload_n F k5 rfl) k6 (by decide)) (d_seq (p1 := 40) (d_seq (p1 := 14) (d_istore_n (p1 := 13) F (c_callV (p1 := 10) F (a_r_ok (p1 := 9) a_nil_ok (c_aload_n F k9 rfl)) (z_Box_wantedWidth _) y_Box_wantedWidth_ok lm_Flex_32 k10 r_Box_wantedWidth (by decide) (by decide)) k13 rfl (hm 2 (by decide))) (d_puti (p1 := 15) (p2 := 37) F 1 14 hp_1_14 (c_aload_n F k14 rfl) (c_if (p1 := 22) (p2 := 30) (p3 := 37) F (b_zero_t (p1 := 19) (pj := 33) F (c_callSN (p1 := 16) F (a_i_ok (p1 := 15) a_nil_ok (c_iload_n F k15 rfl)) (z_Pl_isPercent _) y_Pl_isPercent_ok ln_Flex_36 k16 r_Pl_isPercent (by decide) (by decide)) k19 (by decide)) (c_callSN (p1 := 27) F (a_i_ok (p1 := 26) (a_i_ok (p1 := 22) a_nil_ok (c_geti (p1 := 23) F 1 14 hg_1_14 (c_aload_n F k22 rfl) k23 lf_Flex_40)) (c_iload_n F k26 rfl)) (z_Pl_percentOf _) y_Pl_percentOf_ok ln_Flex_44 k27 r_Pl_percentOf (by decide) (by decide)) k30 (by decide) (c_callV (p1 := 34) F (a_r_ok (p1 := 33) a_nil_ok (c_aload_n F k33 rfl)) (z_Box_mostWidth _) y_Box_mostWidth_ok lm_Flex_48 k34 r_Box_mostWidth (by decide) (by decide))) k37 lf_Flex_40)) (d_astore_n (p1 := 44) F (c_callV (p1 := 41) F (a_r_ok (p1 := 40) a_nil_ok (c_aload_n F k40 rfl)) (z_Box_nextInFlow _) y_Box_nextInFlow_ok lm_Flex_51 k41 r_Box_nextInFlow (by decide) (by decide)) k44 rfl (hm 1 (by decide)))) k45 (by decide))) (d_retv F Fm.2.1 Fm.2.2.1 k48)))
def y_Box_roomWidth : MethodName := ⟨"PageLayouter$Box", "roomWidth", "()I"⟩
abbrev b_Box_roomWidth : ByteArray := prog_2_method_17_code
abbrev n_Box_roomWidth : Nat := 1
theorem y_Box_roomWidth_ok : pl_MV 1 y_Box_roomWidth b_Box_roomWidth n_Box_roomWidth (Option.some Jvm.ClassFile.FieldType.int) 0 := ⟨pl_mem 510 (by decide +kernel) (by decide +kernel), pl_mem 508 (by decide +kernel) (by decide +kernel), pl_mem 509 (by decide +kernel) (by decide +kernel), pl_mem 45 (by decide +kernel) (by decide +kernel), ⟨by decide, by decide, by decide +kernel⟩, _, rfl, rfl⟩
def D_Box_roomWidth : List (Nat × Instr × Nat) := [(0, .aload_n 0, 1), (1, .getfield 77, 3), (4, .aload_n 0, 1), (5, .invokevirtual 83, 3), (8, .iadd, 1), (9, .ireturn, 1)]
theorem dd_Box_roomWidth : (D_Box_roomWidth.all fun q => decide (decode b_Box_roomWidth q.1 = .ok q.2)) = true := by decide +kernel
def t_Box_roomWidth : pl_TR := fun P _ _ => s_reti P (e_bin (fun x y : Int32 => x + y) (e_geti 1 14 (e_locr 0)) (e_callV Value.int 1 t_Box_edges n_Box_edges (a_r a_nil (e_locr 0))))
theorem z_Box_roomWidth (l : Launch) : pl_Ctr l y_Box_roomWidth b_Box_roomWidth n_Box_roomWidth (Option.some Jvm.ClassFile.FieldType.int) 2 40 0 0 false t_Box_roomWidth := pl_ctr_of (pe := 0) (by decide) (fun X Y P F Fm => by
  have F : pl_Fx X Y "PageLayouter$Box" b_Box_roomWidth := F
  have r_Box_edges : 1 + 1 ≤ (pl_xR X).frames ∧ 8 + (n_Box_edges + 11) + 20 ≤ (pl_xR X).locals := ⟨Nat.le_trans (by decide) Fm.2.2.2.2.2.1, Nat.le_trans (by decide) Fm.2.2.2.2.2.2.1⟩
  have k0 : decode b_Box_roomWidth 0 = .ok (.aload_n 0, 1) := pl_dc dd_Box_roomWidth 0 (q := (0, .aload_n 0, 1)) rfl
  have k1 : decode b_Box_roomWidth 1 = .ok (.getfield 77, 3) := pl_dc dd_Box_roomWidth 1 (q := (1, .getfield 77, 3)) rfl
  have k4 : decode b_Box_roomWidth 4 = .ok (.aload_n 0, 1) := pl_dc dd_Box_roomWidth 2 (q := (4, .aload_n 0, 1)) rfl
  have k5 : decode b_Box_roomWidth 5 = .ok (.invokevirtual 83, 3) := pl_dc dd_Box_roomWidth 3 (q := (5, .invokevirtual 83, 3)) rfl
  have k8 : decode b_Box_roomWidth 8 = .ok (.iadd, 1) := pl_dc dd_Box_roomWidth 4 (q := (8, .iadd, 1)) rfl
  have k9 : decode b_Box_roomWidth 9 = .ok (.ireturn, 1) := pl_dc dd_Box_roomWidth 5 (q := (9, .ireturn, 1)) rfl
  exact (d_reti (p1 := 9) F Fm.2.1 Fm.2.2.1 (c_bin 1 (p1 := 4) (p2 := 8) (c_geti (p1 := 1) F 1 14 hg_1_14 (c_aload_n F k0 rfl) k1 lf_Box_77) (c_callV (p1 := 5) F (a_r_ok (p1 := 4) a_nil_ok (c_aload_n F k4 rfl)) (z_Box_edges _) y_Box_edges_ok lm_Box_83 k5 r_Box_edges (by decide) (by decide)) pl_c1 (j_iadd F k8)) k9))
def y_Flex_spaceLeft : MethodName := ⟨"PageLayouter$Flex", "spaceLeft", "(LPageLayouter$Box;)I"⟩
abbrev b_Flex_spaceLeft : ByteArray := prog_5_method_4_code
abbrev n_Flex_spaceLeft : Nat := 3
theorem y_Flex_spaceLeft_ok : pl_MS y_Flex_spaceLeft b_Flex_spaceLeft n_Flex_spaceLeft (Option.some Jvm.ClassFile.FieldType.int) 1 := ⟨pl_mem 506 (by decide +kernel) (by decide +kernel), pl_mem 505 (by decide +kernel) (by decide +kernel), pl_mem 57 (by decide +kernel) (by decide +kernel), ⟨by decide, by decide, by decide +kernel⟩⟩
def D_Flex_spaceLeft : List (Nat × Instr × Nat) := [(0, .aload_n 0, 1), (1, .getfield 40, 3), (4, .istore_n 1, 1), (5, .aload_n 0, 1), (6, .invokevirtual 26, 3), (9, .astore_n 2, 1), (10, .aload_n 2, 1), (11, .ifnull 18, 3), (14, .iload_n 1, 1), (15, .aload_n 2, 1), (16, .invokevirtual 54, 3), (19, .isub, 1), (20, .istore_n 1, 1), (21, .aload_n 2, 1), (22, .invokevirtual 51, 3), (25, .astore_n 2, 1), (26, .goto (-16), 3), (29, .iload_n 1, 1), (30, .ireturn, 1)]
theorem dd_Flex_spaceLeft : (D_Flex_spaceLeft.all fun q => decide (decode b_Flex_spaceLeft q.1 = .ok q.2)) = true := by decide +kernel
def t_Flex_spaceLeft : pl_TR := fun P _ _ => s_seq (s_seti 1 (e_geti 1 14 (e_locr 0))) (s_seq (s_seq (s_setr 2 (e_callV id 1 t_Box_firstInFlow n_Box_firstInFlow (a_r a_nil (e_locr 0)))) (s_while (b_nn (e_locr 2)) (s_seq (s_seti 1 (e_bin (fun x y : Int32 => x - y) (e_loc 1) (e_callV Value.int 1 t_Box_roomWidth n_Box_roomWidth (a_r a_nil (e_locr 2))))) (s_setr 2 (e_callV id 1 t_Box_nextInFlow n_Box_nextInFlow (a_r a_nil (e_locr 2))))))) (s_reti P (e_loc 1)))
theorem z_Flex_spaceLeft (l : Launch) : pl_Ctr l y_Flex_spaceLeft b_Flex_spaceLeft n_Flex_spaceLeft (Option.some Jvm.ClassFile.FieldType.int) 3 60 0 0 false t_Flex_spaceLeft := pl_ctr_of (pe := 0) (by decide) (fun X Y P F Fm => by
  have F : pl_Fx X Y "PageLayouter$Flex" b_Flex_spaceLeft := F
  have r_Box_firstInFlow : 1 + 1 ≤ (pl_xR X).frames ∧ 8 + (n_Box_firstInFlow + 11) + 20 ≤ (pl_xR X).locals := ⟨Nat.le_trans (by decide) Fm.2.2.2.2.2.1, Nat.le_trans (by decide) Fm.2.2.2.2.2.2.1⟩
  have r_Box_nextInFlow : 1 + 1 ≤ (pl_xR X).frames ∧ 8 + (n_Box_nextInFlow + 11) + 20 ≤ (pl_xR X).locals := ⟨Nat.le_trans (by decide) Fm.2.2.2.2.2.1, Nat.le_trans (by decide) Fm.2.2.2.2.2.2.1⟩
  have r_Box_roomWidth : 2 + 1 ≤ (pl_xR X).frames ∧ 8 + (n_Box_roomWidth + 11) + 40 ≤ (pl_xR X).locals := ⟨Nat.le_trans (by decide) Fm.2.2.2.2.2.1, Nat.le_trans (by decide) Fm.2.2.2.2.2.2.1⟩
  have hm : ∀ i, i < 3 → i < (pl_xc X).maxLocals := fun i h => by rw [Fm.2.2.2.1]; exact h
  have k0 : decode b_Flex_spaceLeft 0 = .ok (.aload_n 0, 1) := pl_dc dd_Flex_spaceLeft 0 (q := (0, .aload_n 0, 1)) rfl
  have k1 : decode b_Flex_spaceLeft 1 = .ok (.getfield 40, 3) := pl_dc dd_Flex_spaceLeft 1 (q := (1, .getfield 40, 3)) rfl
  have k4 : decode b_Flex_spaceLeft 4 = .ok (.istore_n 1, 1) := pl_dc dd_Flex_spaceLeft 2 (q := (4, .istore_n 1, 1)) rfl
  have k5 : decode b_Flex_spaceLeft 5 = .ok (.aload_n 0, 1) := pl_dc dd_Flex_spaceLeft 3 (q := (5, .aload_n 0, 1)) rfl
  have k6 : decode b_Flex_spaceLeft 6 = .ok (.invokevirtual 26, 3) := pl_dc dd_Flex_spaceLeft 4 (q := (6, .invokevirtual 26, 3)) rfl
  have k9 : decode b_Flex_spaceLeft 9 = .ok (.astore_n 2, 1) := pl_dc dd_Flex_spaceLeft 5 (q := (9, .astore_n 2, 1)) rfl
  have k10 : decode b_Flex_spaceLeft 10 = .ok (.aload_n 2, 1) := pl_dc dd_Flex_spaceLeft 6 (q := (10, .aload_n 2, 1)) rfl
  have k11 : decode b_Flex_spaceLeft 11 = .ok (.ifnull 18, 3) := pl_dc dd_Flex_spaceLeft 7 (q := (11, .ifnull 18, 3)) rfl
  have k14 : decode b_Flex_spaceLeft 14 = .ok (.iload_n 1, 1) := pl_dc dd_Flex_spaceLeft 8 (q := (14, .iload_n 1, 1)) rfl
  have k15 : decode b_Flex_spaceLeft 15 = .ok (.aload_n 2, 1) := pl_dc dd_Flex_spaceLeft 9 (q := (15, .aload_n 2, 1)) rfl
  have k16 : decode b_Flex_spaceLeft 16 = .ok (.invokevirtual 54, 3) := pl_dc dd_Flex_spaceLeft 10 (q := (16, .invokevirtual 54, 3)) rfl
  have k19 : decode b_Flex_spaceLeft 19 = .ok (.isub, 1) := pl_dc dd_Flex_spaceLeft 11 (q := (19, .isub, 1)) rfl
  have k20 : decode b_Flex_spaceLeft 20 = .ok (.istore_n 1, 1) := pl_dc dd_Flex_spaceLeft 12 (q := (20, .istore_n 1, 1)) rfl
  have k21 : decode b_Flex_spaceLeft 21 = .ok (.aload_n 2, 1) := pl_dc dd_Flex_spaceLeft 13 (q := (21, .aload_n 2, 1)) rfl
  have k22 : decode b_Flex_spaceLeft 22 = .ok (.invokevirtual 51, 3) := pl_dc dd_Flex_spaceLeft 14 (q := (22, .invokevirtual 51, 3)) rfl
  have k25 : decode b_Flex_spaceLeft 25 = .ok (.astore_n 2, 1) := pl_dc dd_Flex_spaceLeft 15 (q := (25, .astore_n 2, 1)) rfl
  have k26 : decode b_Flex_spaceLeft 26 = .ok (.goto (-16), 3) := pl_dc dd_Flex_spaceLeft 16 (q := (26, .goto (-16), 3)) rfl
  have k29 : decode b_Flex_spaceLeft 29 = .ok (.iload_n 1, 1) := pl_dc dd_Flex_spaceLeft 17 (q := (29, .iload_n 1, 1)) rfl
  have k30 : decode b_Flex_spaceLeft 30 = .ok (.ireturn, 1) := pl_dc dd_Flex_spaceLeft 18 (q := (30, .ireturn, 1)) rfl
  exact (d_seq (p1 := 5) (d_istore_n (p1 := 4) F (c_geti (p1 := 1) F 1 14 hg_1_14 (c_aload_n F k0 rfl) k1 lf_Flex_40) k4 rfl (hm 1 (by decide))) (d_seq (p1 := 29) (d_seq (p1 := 10) (d_astore_n (p1 := 9) F (c_callV (p1 := 6) F (a_r_ok (p1 := 5) a_nil_ok (c_aload_n F k5 rfl)) (z_Box_firstInFlow _) y_Box_firstInFlow_ok lm_Flex_26 k6 r_Box_firstInFlow (by decide) (by decide)) k9 rfl (hm 2 (by decide))) (d_while (p1 := 14) (p2 := 26) F (b_nn_t (p1 := 11) (pj := 29) F (c_aload_n F k10 rfl) k11 (by decide)) (d_seq (p1 := 21) (d_istore_n (p1 := 20) F (c_bin 1 (p1 := 15) (p2 := 19) (c_iload_n F k14 rfl) (c_callV (p1 := 16) F (a_r_ok (p1 := 15) a_nil_ok (c_aload_n F k15 rfl)) (z_Box_roomWidth _) y_Box_roomWidth_ok lm_Flex_54 k16 r_Box_roomWidth (by decide) (by decide)) pl_c1 (j_isub F k19)) k20 rfl (hm 1 (by decide))) (d_astore_n (p1 := 25) F (c_callV (p1 := 22) F (a_r_ok (p1 := 21) a_nil_ok (c_aload_n F k21 rfl)) (z_Box_nextInFlow _) y_Box_nextInFlow_ok lm_Flex_51 k22 r_Box_nextInFlow (by decide) (by decide)) k25 rfl (hm 2 (by decide)))) k26 (by decide))) (d_reti (p1 := 30) F Fm.2.1 Fm.2.2.1 (c_iload_n F k29 rfl) k30))))
def y_Flex_grow : MethodName := ⟨"PageLayouter$Flex", "grow", "(LPageLayouter$Box;I)V"⟩
abbrev b_Flex_grow : ByteArray := prog_5_method_5_code
abbrev n_Flex_grow : Nat := 6
theorem y_Flex_grow_ok : pl_MS y_Flex_grow b_Flex_grow n_Flex_grow (Option.none : Option Jvm.ClassFile.FieldType) 2 := ⟨pl_mem 514 (by decide +kernel) (by decide +kernel), pl_mem 513 (by decide +kernel) (by decide +kernel), pl_mem 57 (by decide +kernel) (by decide +kernel), ⟨by decide, by decide, by decide +kernel⟩⟩
def D_Flex_grow : List (Nat × Instr × Nat) := [(0, .iconst 0, 1), (1, .istore_n 2, 1), (2, .aload_n 0, 1), (3, .invokevirtual 26, 3), (6, .astore_n 3, 1), (7, .aload_n 3, 1), (8, .ifnull 20, 3), (11, .iload_n 2, 1), (12, .aload_n 3, 1), (13, .getfield 57, 3), (16, .iconst 4, 1), (17, .iaload, 1), (18, .iadd, 1), (19, .istore_n 2, 1), (20, .aload_n 3, 1), (21, .invokevirtual 51, 3), (24, .astore_n 3, 1), (25, .goto (-18), 3), (28, .iload_n 2, 1), (29, .ifCond .ne 4, 3), (32, .return_, 1), (33, .iload_n 1, 1), (34, .istore_n 3, 1), (35, .aload_n 0, 1), (36, .invokevirtual 26, 3), (39, .astore 4, 2), (41, .aload 4, 2), (43, .ifnull 43, 3), (46, .iload_n 1, 1), (47, .aload 4, 2), (49, .getfield 57, 3), (52, .iconst 4, 1), (53, .iaload, 1), (54, .imul, 1), (55, .iload_n 2, 1), (56, .idiv, 1), (57, .istore 5, 2), (59, .aload 4, 2), (61, .dup, 1), (62, .getfield 40, 3), (65, .iload 5, 2), (67, .iadd, 1), (68, .putfield 40, 3), (71, .iload_n 3, 1), (72, .iload 5, 2), (74, .isub, 1), (75, .istore_n 3, 1), (76, .aload 4, 2), (78, .invokevirtual 51, 3), (81, .astore 4, 2), (83, .goto (-42), 3), (86, .aload_n 0, 1), (87, .invokevirtual 26, 3), (90, .astore 4, 2), (92, .aload 4, 2), (94, .ifnull 41, 3), (97, .iload_n 3, 1), (98, .ifCond .le 37, 3), (101, .aload 4, 2), (103, .getfield 57, 3), (106, .iconst 4, 1), (107, .iaload, 1), (108, .ifCond .le 17, 3), (111, .aload 4, 2), (113, .dup, 1), (114, .getfield 40, 3), (117, .iconst 1, 1), (118, .iadd, 1), (119, .putfield 40, 3), (122, .iinc 3 (-1), 3), (125, .aload 4, 2), (127, .invokevirtual 51, 3), (130, .astore 4, 2), (132, .goto (-40), 3), (135, .return_, 1)]
theorem dd_Flex_grow : (D_Flex_grow.all fun q => decide (decode b_Flex_grow q.1 = .ok q.2)) = true := by decide +kernel
def t_Flex_grow : pl_TR := fun P _ _ => s_seq (s_seq (s_seti 2 (e_int 0)) (s_seq (s_seq (s_setr 3 (e_callV id 1 t_Box_firstInFlow n_Box_firstInFlow (a_r a_nil (e_locr 0)))) (s_while (b_nn (e_locr 3)) (s_seq (s_seti 2 (e_bin (fun x y : Int32 => x + y) (e_loc 2) (e_ald 1 (e_getr 1 4 (e_locr 3)) (e_int 4)))) (s_setr 3 (e_callV id 1 t_Box_nextInFlow n_Box_nextInFlow (a_r a_nil (e_locr 3))))))) (s_seq (s_if (b_zero .eq (e_loc 2)) (s_retv P)) (s_seq (s_seti 3 (e_loc 1)) (s_seq (s_seq (s_setr 4 (e_callV id 1 t_Box_firstInFlow n_Box_firstInFlow (a_r a_nil (e_locr 0)))) (s_while (b_nn (e_locr 4)) (s_seq (s_seq (s_seti 5 (e_div (e_bin (fun x y : Int32 => x * y) (e_loc 1) (e_ald 1 (e_getr 1 4 (e_locr 4)) (e_int 4))) (e_loc 2))) (s_seq (s_updi 1 14 (fun x y : Int32 => x + y) (e_locr 4) (e_loc 5)) (s_seti 3 (e_bin (fun x y : Int32 => x - y) (e_loc 3) (e_loc 5))))) (s_setr 4 (e_callV id 1 t_Box_nextInFlow n_Box_nextInFlow (a_r a_nil (e_locr 4))))))) (s_seq (s_setr 4 (e_callV id 1 t_Box_firstInFlow n_Box_firstInFlow (a_r a_nil (e_locr 0)))) (s_while (b_and (b_nn (e_locr 4)) (b_zero .gt (e_loc 3))) (s_seq (s_if (b_zero .gt (e_ald 1 (e_getr 1 4 (e_locr 4)) (e_int 4))) (s_seq (s_updi 1 14 (fun x y : Int32 => x + y) (e_locr 4) (e_int 1)) (s_inc 3 (-1)))) (s_setr 4 (e_callV id 1 t_Box_nextInFlow n_Box_nextInFlow (a_r a_nil (e_locr 4)))))))))))) (s_retv P)
theorem z_Flex_grow (l : Launch) : pl_Ctr l y_Flex_grow b_Flex_grow n_Flex_grow (Option.none : Option Jvm.ClassFile.FieldType) 2 41 0 0 false t_Flex_grow := pl_ctr_of (pe := 0) (by decide) (fun X Y P F Fm => by
  have F : pl_Fx X Y "PageLayouter$Flex" b_Flex_grow := F
  have r_Box_firstInFlow : 1 + 1 ≤ (pl_xR X).frames ∧ 8 + (n_Box_firstInFlow + 11) + 20 ≤ (pl_xR X).locals := ⟨Nat.le_trans (by decide) Fm.2.2.2.2.2.1, Nat.le_trans (by decide) Fm.2.2.2.2.2.2.1⟩
  have r_Box_nextInFlow : 1 + 1 ≤ (pl_xR X).frames ∧ 8 + (n_Box_nextInFlow + 11) + 20 ≤ (pl_xR X).locals := ⟨Nat.le_trans (by decide) Fm.2.2.2.2.2.1, Nat.le_trans (by decide) Fm.2.2.2.2.2.2.1⟩
  have hm : ∀ i, i < 6 → i < (pl_xc X).maxLocals := fun i h => by rw [Fm.2.2.2.1]; exact h
  have k0 : decode b_Flex_grow 0 = .ok (.iconst 0, 1) := pl_dc dd_Flex_grow 0 (q := (0, .iconst 0, 1)) rfl
  have k1 : decode b_Flex_grow 1 = .ok (.istore_n 2, 1) := pl_dc dd_Flex_grow 1 (q := (1, .istore_n 2, 1)) rfl
  have k2 : decode b_Flex_grow 2 = .ok (.aload_n 0, 1) := pl_dc dd_Flex_grow 2 (q := (2, .aload_n 0, 1)) rfl
  have k3 : decode b_Flex_grow 3 = .ok (.invokevirtual 26, 3) := pl_dc dd_Flex_grow 3 (q := (3, .invokevirtual 26, 3)) rfl
  have k6 : decode b_Flex_grow 6 = .ok (.astore_n 3, 1) := pl_dc dd_Flex_grow 4 (q := (6, .astore_n 3, 1)) rfl
  have k7 : decode b_Flex_grow 7 = .ok (.aload_n 3, 1) := pl_dc dd_Flex_grow 5 (q := (7, .aload_n 3, 1)) rfl
  have k8 : decode b_Flex_grow 8 = .ok (.ifnull 20, 3) := pl_dc dd_Flex_grow 6 (q := (8, .ifnull 20, 3)) rfl
  have k11 : decode b_Flex_grow 11 = .ok (.iload_n 2, 1) := pl_dc dd_Flex_grow 7 (q := (11, .iload_n 2, 1)) rfl
  have k12 : decode b_Flex_grow 12 = .ok (.aload_n 3, 1) := pl_dc dd_Flex_grow 8 (q := (12, .aload_n 3, 1)) rfl
  have k13 : decode b_Flex_grow 13 = .ok (.getfield 57, 3) := pl_dc dd_Flex_grow 9 (q := (13, .getfield 57, 3)) rfl
  have k16 : decode b_Flex_grow 16 = .ok (.iconst 4, 1) := pl_dc dd_Flex_grow 10 (q := (16, .iconst 4, 1)) rfl
  have k17 : decode b_Flex_grow 17 = .ok (.iaload, 1) := pl_dc dd_Flex_grow 11 (q := (17, .iaload, 1)) rfl
  have k18 : decode b_Flex_grow 18 = .ok (.iadd, 1) := pl_dc dd_Flex_grow 12 (q := (18, .iadd, 1)) rfl
  have k19 : decode b_Flex_grow 19 = .ok (.istore_n 2, 1) := pl_dc dd_Flex_grow 13 (q := (19, .istore_n 2, 1)) rfl
  have k20 : decode b_Flex_grow 20 = .ok (.aload_n 3, 1) := pl_dc dd_Flex_grow 14 (q := (20, .aload_n 3, 1)) rfl
  have k21 : decode b_Flex_grow 21 = .ok (.invokevirtual 51, 3) := pl_dc dd_Flex_grow 15 (q := (21, .invokevirtual 51, 3)) rfl
  have k24 : decode b_Flex_grow 24 = .ok (.astore_n 3, 1) := pl_dc dd_Flex_grow 16 (q := (24, .astore_n 3, 1)) rfl
  have k25 : decode b_Flex_grow 25 = .ok (.goto (-18), 3) := pl_dc dd_Flex_grow 17 (q := (25, .goto (-18), 3)) rfl
  have k28 : decode b_Flex_grow 28 = .ok (.iload_n 2, 1) := pl_dc dd_Flex_grow 18 (q := (28, .iload_n 2, 1)) rfl
  have k29 : decode b_Flex_grow 29 = .ok (.ifCond .ne 4, 3) := pl_dc dd_Flex_grow 19 (q := (29, .ifCond .ne 4, 3)) rfl
  have k32 : decode b_Flex_grow 32 = .ok (.return_, 1) := pl_dc dd_Flex_grow 20 (q := (32, .return_, 1)) rfl
  have k33 : decode b_Flex_grow 33 = .ok (.iload_n 1, 1) := pl_dc dd_Flex_grow 21 (q := (33, .iload_n 1, 1)) rfl
  have k34 : decode b_Flex_grow 34 = .ok (.istore_n 3, 1) := pl_dc dd_Flex_grow 22 (q := (34, .istore_n 3, 1)) rfl
  have k35 : decode b_Flex_grow 35 = .ok (.aload_n 0, 1) := pl_dc dd_Flex_grow 23 (q := (35, .aload_n 0, 1)) rfl
  have k36 : decode b_Flex_grow 36 = .ok (.invokevirtual 26, 3) := pl_dc dd_Flex_grow 24 (q := (36, .invokevirtual 26, 3)) rfl
  have k39 : decode b_Flex_grow 39 = .ok (.astore 4, 2) := pl_dc dd_Flex_grow 25 (q := (39, .astore 4, 2)) rfl
  have k41 : decode b_Flex_grow 41 = .ok (.aload 4, 2) := pl_dc dd_Flex_grow 26 (q := (41, .aload 4, 2)) rfl
  have k43 : decode b_Flex_grow 43 = .ok (.ifnull 43, 3) := pl_dc dd_Flex_grow 27 (q := (43, .ifnull 43, 3)) rfl
  have k46 : decode b_Flex_grow 46 = .ok (.iload_n 1, 1) := pl_dc dd_Flex_grow 28 (q := (46, .iload_n 1, 1)) rfl
  have k47 : decode b_Flex_grow 47 = .ok (.aload 4, 2) := pl_dc dd_Flex_grow 29 (q := (47, .aload 4, 2)) rfl
  have k49 : decode b_Flex_grow 49 = .ok (.getfield 57, 3) := pl_dc dd_Flex_grow 30 (q := (49, .getfield 57, 3)) rfl
  have k52 : decode b_Flex_grow 52 = .ok (.iconst 4, 1) := pl_dc dd_Flex_grow 31 (q := (52, .iconst 4, 1)) rfl
  have k53 : decode b_Flex_grow 53 = .ok (.iaload, 1) := pl_dc dd_Flex_grow 32 (q := (53, .iaload, 1)) rfl
  have k54 : decode b_Flex_grow 54 = .ok (.imul, 1) := pl_dc dd_Flex_grow 33 (q := (54, .imul, 1)) rfl
  have k55 : decode b_Flex_grow 55 = .ok (.iload_n 2, 1) := pl_dc dd_Flex_grow 34 (q := (55, .iload_n 2, 1)) rfl
  have k56 : decode b_Flex_grow 56 = .ok (.idiv, 1) := pl_dc dd_Flex_grow 35 (q := (56, .idiv, 1)) rfl
  have k57 : decode b_Flex_grow 57 = .ok (.istore 5, 2) := pl_dc dd_Flex_grow 36 (q := (57, .istore 5, 2)) rfl
  have k59 : decode b_Flex_grow 59 = .ok (.aload 4, 2) := pl_dc dd_Flex_grow 37 (q := (59, .aload 4, 2)) rfl
  have k61 : decode b_Flex_grow 61 = .ok (.dup, 1) := pl_dc dd_Flex_grow 38 (q := (61, .dup, 1)) rfl
  have k62 : decode b_Flex_grow 62 = .ok (.getfield 40, 3) := pl_dc dd_Flex_grow 39 (q := (62, .getfield 40, 3)) rfl
  have k65 : decode b_Flex_grow 65 = .ok (.iload 5, 2) := pl_dc dd_Flex_grow 40 (q := (65, .iload 5, 2)) rfl
  have k67 : decode b_Flex_grow 67 = .ok (.iadd, 1) := pl_dc dd_Flex_grow 41 (q := (67, .iadd, 1)) rfl
  have k68 : decode b_Flex_grow 68 = .ok (.putfield 40, 3) := pl_dc dd_Flex_grow 42 (q := (68, .putfield 40, 3)) rfl
  have k71 : decode b_Flex_grow 71 = .ok (.iload_n 3, 1) := pl_dc dd_Flex_grow 43 (q := (71, .iload_n 3, 1)) rfl
  have k72 : decode b_Flex_grow 72 = .ok (.iload 5, 2) := pl_dc dd_Flex_grow 44 (q := (72, .iload 5, 2)) rfl
  have k74 : decode b_Flex_grow 74 = .ok (.isub, 1) := pl_dc dd_Flex_grow 45 (q := (74, .isub, 1)) rfl
  have k75 : decode b_Flex_grow 75 = .ok (.istore_n 3, 1) := pl_dc dd_Flex_grow 46 (q := (75, .istore_n 3, 1)) rfl
  have k76 : decode b_Flex_grow 76 = .ok (.aload 4, 2) := pl_dc dd_Flex_grow 47 (q := (76, .aload 4, 2)) rfl
  have k78 : decode b_Flex_grow 78 = .ok (.invokevirtual 51, 3) := pl_dc dd_Flex_grow 48 (q := (78, .invokevirtual 51, 3)) rfl
  have k81 : decode b_Flex_grow 81 = .ok (.astore 4, 2) := pl_dc dd_Flex_grow 49 (q := (81, .astore 4, 2)) rfl
  have k83 : decode b_Flex_grow 83 = .ok (.goto (-42), 3) := pl_dc dd_Flex_grow 50 (q := (83, .goto (-42), 3)) rfl
  have k86 : decode b_Flex_grow 86 = .ok (.aload_n 0, 1) := pl_dc dd_Flex_grow 51 (q := (86, .aload_n 0, 1)) rfl
  have k87 : decode b_Flex_grow 87 = .ok (.invokevirtual 26, 3) := pl_dc dd_Flex_grow 52 (q := (87, .invokevirtual 26, 3)) rfl
  have k90 : decode b_Flex_grow 90 = .ok (.astore 4, 2) := pl_dc dd_Flex_grow 53 (q := (90, .astore 4, 2)) rfl
  have k92 : decode b_Flex_grow 92 = .ok (.aload 4, 2) := pl_dc dd_Flex_grow 54 (q := (92, .aload 4, 2)) rfl
  have k94 : decode b_Flex_grow 94 = .ok (.ifnull 41, 3) := pl_dc dd_Flex_grow 55 (q := (94, .ifnull 41, 3)) rfl
  have k97 : decode b_Flex_grow 97 = .ok (.iload_n 3, 1) := pl_dc dd_Flex_grow 56 (q := (97, .iload_n 3, 1)) rfl
  have k98 : decode b_Flex_grow 98 = .ok (.ifCond .le 37, 3) := pl_dc dd_Flex_grow 57 (q := (98, .ifCond .le 37, 3)) rfl
  have k101 : decode b_Flex_grow 101 = .ok (.aload 4, 2) := pl_dc dd_Flex_grow 58 (q := (101, .aload 4, 2)) rfl
  have k103 : decode b_Flex_grow 103 = .ok (.getfield 57, 3) := pl_dc dd_Flex_grow 59 (q := (103, .getfield 57, 3)) rfl
  have k106 : decode b_Flex_grow 106 = .ok (.iconst 4, 1) := pl_dc dd_Flex_grow 60 (q := (106, .iconst 4, 1)) rfl
  have k107 : decode b_Flex_grow 107 = .ok (.iaload, 1) := pl_dc dd_Flex_grow 61 (q := (107, .iaload, 1)) rfl
  have k108 : decode b_Flex_grow 108 = .ok (.ifCond .le 17, 3) := pl_dc dd_Flex_grow 62 (q := (108, .ifCond .le 17, 3)) rfl
  have k111 : decode b_Flex_grow 111 = .ok (.aload 4, 2) := pl_dc dd_Flex_grow 63 (q := (111, .aload 4, 2)) rfl
  have k113 : decode b_Flex_grow 113 = .ok (.dup, 1) := pl_dc dd_Flex_grow 64 (q := (113, .dup, 1)) rfl
  have k114 : decode b_Flex_grow 114 = .ok (.getfield 40, 3) := pl_dc dd_Flex_grow 65 (q := (114, .getfield 40, 3)) rfl
  have k117 : decode b_Flex_grow 117 = .ok (.iconst 1, 1) := pl_dc dd_Flex_grow 66 (q := (117, .iconst 1, 1)) rfl
  have k118 : decode b_Flex_grow 118 = .ok (.iadd, 1) := pl_dc dd_Flex_grow 67 (q := (118, .iadd, 1)) rfl
  have k119 : decode b_Flex_grow 119 = .ok (.putfield 40, 3) := pl_dc dd_Flex_grow 68 (q := (119, .putfield 40, 3)) rfl
  have k122 : decode b_Flex_grow 122 = .ok (.iinc 3 (-1), 3) := pl_dc dd_Flex_grow 69 (q := (122, .iinc 3 (-1), 3)) rfl
  have k125 : decode b_Flex_grow 125 = .ok (.aload 4, 2) := pl_dc dd_Flex_grow 70 (q := (125, .aload 4, 2)) rfl
  have k127 : decode b_Flex_grow 127 = .ok (.invokevirtual 51, 3) := pl_dc dd_Flex_grow 71 (q := (127, .invokevirtual 51, 3)) rfl
  have k130 : decode b_Flex_grow 130 = .ok (.astore 4, 2) := pl_dc dd_Flex_grow 72 (q := (130, .astore 4, 2)) rfl
  have k132 : decode b_Flex_grow 132 = .ok (.goto (-40), 3) := pl_dc dd_Flex_grow 73 (q := (132, .goto (-40), 3)) rfl
  have k135 : decode b_Flex_grow 135 = .ok (.return_, 1) := pl_dc dd_Flex_grow 74 (q := (135, .return_, 1)) rfl
  exact (d_seq (p1 := 135) (d_seq (p1 := 2) (d_istore_n (p1 := 1) F (c_iconst F k0 (by decide)) k1 rfl (hm 2 (by decide))) (d_seq (p1 := 28) (d_seq (p1 := 7) (d_astore_n (p1 := 6) F (c_callV (p1 := 3) F (a_r_ok (p1 := 2) a_nil_ok (c_aload_n F k2 rfl)) (z_Box_firstInFlow _) y_Box_firstInFlow_ok lm_Flex_26 k3 r_Box_firstInFlow (by decide) (by decide)) k6 rfl (hm 3 (by decide))) (d_while (p1 := 11) (p2 := 25) F (b_nn_t (p1 := 8) (pj := 28) F (c_aload_n F k7 rfl) k8 (by decide)) (d_seq (p1 := 20) (d_istore_n (p1 := 19) F (c_bin 1 (p1 := 12) (p2 := 18) (c_iload_n F k11 rfl) (c_iald (p1 := 16) (p2 := 17) F (c_getr (p1 := 13) F 1 4 hg_1_4 (c_aload_n F k12 rfl) k13 lf_Flex_57) (c_iconst F k16 (by decide)) k17) pl_c1 (j_iadd F k18)) k19 rfl (hm 2 (by decide))) (d_astore_n (p1 := 24) F (c_callV (p1 := 21) F (a_r_ok (p1 := 20) a_nil_ok (c_aload_n F k20 rfl)) (z_Box_nextInFlow _) y_Box_nextInFlow_ok lm_Flex_51 k21 r_Box_nextInFlow (by decide) (by decide)) k24 rfl (hm 3 (by decide)))) k25 (by decide))) (d_seq (p1 := 33) (d_if (p1 := 32) (p2 := 33) (b_zero_t (p1 := 29) (pj := 33) F (c_iload_n F k28 rfl) k29 (by decide)) (d_retv F Fm.2.1 Fm.2.2.1 k32)) (d_seq (p1 := 35) (d_istore_n (p1 := 34) F (c_iload_n F k33 rfl) k34 rfl (hm 3 (by decide))) (d_seq (p1 := 86) (d_seq (p1 := 41) (d_astore (p1 := 39) F (c_callV (p1 := 36) F (a_r_ok (p1 := 35) a_nil_ok (c_aload_n F k35 rfl)) (z_Box_firstInFlow _) y_Box_firstInFlow_ok lm_Flex_26 k36 r_Box_firstInFlow (by decide) (by decide)) k39 (hm 4 (by decide))) (d_while (p1 := 46) (p2 := 83) F (b_nn_t (p1 := 43) (pj := 86) F (c_aload F k41) k43 (by decide)) (d_seq (p1 := 76) (d_seq (p1 := 59) (d_istore (p1 := 57) F (c_div (p1 := 55) (p2 := 56) F (c_bin 1 (p1 := 47) (p2 := 54) (c_iload_n F k46 rfl) (c_iald (p1 := 52) (p2 := 53) F (c_getr (p1 := 49) F 1 4 hg_1_4 (c_aload F k47) k49 lf_Flex_57) (c_iconst F k52 (by decide)) k53) pl_c1 (j_imul F k54)) (c_iload_n F k55 rfl) k56) k57 (hm 5 (by decide))) (d_seq (p1 := 71) (d_updi (p1 := 61) (p2 := 67) F 1 14 hp_1_14 (c_aload F k59) k61 k62 (c_iload F k65) (j_iadd F k67) k68 lf_Flex_40) (d_istore_n (p1 := 75) F (c_bin 1 (p1 := 72) (p2 := 74) (c_iload_n F k71 rfl) (c_iload F k72) pl_c1 (j_isub F k74)) k75 rfl (hm 3 (by decide))))) (d_astore (p1 := 81) F (c_callV (p1 := 78) F (a_r_ok (p1 := 76) a_nil_ok (c_aload F k76)) (z_Box_nextInFlow _) y_Box_nextInFlow_ok lm_Flex_51 k78 r_Box_nextInFlow (by decide) (by decide)) k81 (hm 4 (by decide)))) k83 (by decide))) (d_seq (p1 := 92) (d_astore (p1 := 90) F (c_callV (p1 := 87) F (a_r_ok (p1 := 86) a_nil_ok (c_aload_n F k86 rfl)) (z_Box_firstInFlow _) y_Box_firstInFlow_ok lm_Flex_26 k87 r_Box_firstInFlow (by decide) (by decide)) k90 (hm 4 (by decide))) (d_while (p1 := 101) (p2 := 132) F (b_and_t (p1 := 97) (b_nn_t (p1 := 94) (pj := 135) F (c_aload F k92) k94 (by decide)) (b_zero_t (p1 := 98) (pj := 135) F (c_iload_n F k97 rfl) k98 (by decide))) (d_seq (p1 := 125) (d_if (p1 := 111) (p2 := 125) (b_zero_t (p1 := 108) (pj := 125) F (c_iald (p1 := 106) (p2 := 107) F (c_getr (p1 := 103) F 1 4 hg_1_4 (c_aload F k101) k103 lf_Flex_57) (c_iconst F k106 (by decide)) k107) k108 (by decide)) (d_seq (p1 := 122) (d_updi (p1 := 113) (p2 := 118) F 1 14 hp_1_14 (c_aload F k111) k113 k114 (c_iconst F k117 (by decide)) (j_iadd F k118) k119 lf_Flex_40) (d_iinc F k122 (by decide) (hm 3 (by decide))))) (d_astore (p1 := 130) F (c_callV (p1 := 127) F (a_r_ok (p1 := 125) a_nil_ok (c_aload F k125)) (z_Box_nextInFlow _) y_Box_nextInFlow_ok lm_Flex_51 k127 r_Box_nextInFlow (by decide) (by decide)) k130 (hm 4 (by decide)))) k132 (by decide)))))))) (d_retv F Fm.2.1 Fm.2.2.1 k135)))
def y_Flex_weightOf : MethodName := ⟨"PageLayouter$Flex", "weightOf", "(LPageLayouter$Box;)J"⟩
abbrev b_Flex_weightOf : ByteArray := prog_5_method_8_code
abbrev n_Flex_weightOf : Nat := 1
theorem y_Flex_weightOf_ok : pl_MS y_Flex_weightOf b_Flex_weightOf n_Flex_weightOf (Option.some Jvm.ClassFile.FieldType.long) 1 := ⟨pl_mem 523 (by decide +kernel) (by decide +kernel), pl_mem 522 (by decide +kernel) (by decide +kernel), pl_mem 57 (by decide +kernel) (by decide +kernel), ⟨by decide, by decide, by decide +kernel⟩⟩
def D_Flex_weightOf : List (Nat × Instr × Nat) := [(0, .aload_n 0, 1), (1, .getfield 57, 3), (4, .iconst 5, 1), (5, .iaload, 1), (6, .i2l, 1), (7, .aload_n 0, 1), (8, .getfield 40, 3), (11, .i2l, 1), (12, .lmul, 1), (13, .lreturn, 1)]
theorem dd_Flex_weightOf : (D_Flex_weightOf.all fun q => decide (decode b_Flex_weightOf q.1 = .ok q.2)) = true := by decide +kernel
def t_Flex_weightOf : pl_TR := fun P _ _ => s_retl P (e_bin (fun x y : Int64 => x * y) (e_un Int32.toInt64 (e_ald 1 (e_getr 1 4 (e_locr 0)) (e_int 5))) (e_un Int32.toInt64 (e_geti 1 14 (e_locr 0))))
theorem z_Flex_weightOf (l : Launch) : pl_Ctr l y_Flex_weightOf b_Flex_weightOf n_Flex_weightOf (Option.some Jvm.ClassFile.FieldType.long) 0 0 0 0 false t_Flex_weightOf := pl_ctr_of (pe := 0) (by decide) (fun X Y P F Fm => by
  have F : pl_Fx X Y "PageLayouter$Flex" b_Flex_weightOf := F
  have k0 : decode b_Flex_weightOf 0 = .ok (.aload_n 0, 1) := pl_dc dd_Flex_weightOf 0 (q := (0, .aload_n 0, 1)) rfl
  have k1 : decode b_Flex_weightOf 1 = .ok (.getfield 57, 3) := pl_dc dd_Flex_weightOf 1 (q := (1, .getfield 57, 3)) rfl
  have k4 : decode b_Flex_weightOf 4 = .ok (.iconst 5, 1) := pl_dc dd_Flex_weightOf 2 (q := (4, .iconst 5, 1)) rfl
  have k5 : decode b_Flex_weightOf 5 = .ok (.iaload, 1) := pl_dc dd_Flex_weightOf 3 (q := (5, .iaload, 1)) rfl
  have k6 : decode b_Flex_weightOf 6 = .ok (.i2l, 1) := pl_dc dd_Flex_weightOf 4 (q := (6, .i2l, 1)) rfl
  have k7 : decode b_Flex_weightOf 7 = .ok (.aload_n 0, 1) := pl_dc dd_Flex_weightOf 5 (q := (7, .aload_n 0, 1)) rfl
  have k8 : decode b_Flex_weightOf 8 = .ok (.getfield 40, 3) := pl_dc dd_Flex_weightOf 6 (q := (8, .getfield 40, 3)) rfl
  have k11 : decode b_Flex_weightOf 11 = .ok (.i2l, 1) := pl_dc dd_Flex_weightOf 7 (q := (11, .i2l, 1)) rfl
  have k12 : decode b_Flex_weightOf 12 = .ok (.lmul, 1) := pl_dc dd_Flex_weightOf 8 (q := (12, .lmul, 1)) rfl
  have k13 : decode b_Flex_weightOf 13 = .ok (.lreturn, 1) := pl_dc dd_Flex_weightOf 9 (q := (13, .lreturn, 1)) rfl
  exact (d_retl (p1 := 13) F Fm.2.1 Fm.2.2.1 (c_bin 2 (p1 := 7) (p2 := 12) (c_un (p1 := 6) (c_iald (p1 := 4) (p2 := 5) F (c_getr (p1 := 1) F 1 4 hg_1_4 (c_aload_n F k0 rfl) k1 lf_Flex_57) (c_iconst F k4 (by decide)) k5) (j_i2l F k6)) (c_un (p1 := 11) (c_geti (p1 := 8) F 1 14 hg_1_14 (c_aload_n F k7 rfl) k8 lf_Flex_40) (j_i2l F k11)) pl_c2 (j_lmul F k12)) k13))
def y_Flex_openChildren : MethodName := ⟨"PageLayouter$Flex", "openChildren", "(LPageLayouter$Box;)V"⟩
abbrev b_Flex_openChildren : ByteArray := prog_5_method_7_code
abbrev n_Flex_openChildren : Nat := 2
theorem y_Flex_openChildren_ok : pl_MS y_Flex_openChildren b_Flex_openChildren n_Flex_openChildren (Option.none : Option Jvm.ClassFile.FieldType) 1 := ⟨pl_mem 520 (by decide +kernel) (by decide +kernel), pl_mem 519 (by decide +kernel) (by decide +kernel), pl_mem 57 (by decide +kernel) (by decide +kernel), ⟨by decide, by decide, by decide +kernel⟩⟩
def D_Flex_openChildren : List (Nat × Instr × Nat) := [(0, .aload_n 0, 1), (1, .invokevirtual 26, 3), (4, .astore_n 1, 1), (5, .aload_n 1, 1), (6, .ifnull 29, 3), (9, .aload_n 1, 1), (10, .aload_n 1, 1), (11, .invokestatic 76, 3), (14, .lconst 0, 1), (15, .lcmp, 1), (16, .ifCond .le 7, 3), (19, .iconst 1, 1), (20, .goto 4, 3), (23, .iconst 0, 1), (24, .putfield 79, 3), (27, .aload_n 1, 1), (28, .invokevirtual 51, 3), (31, .astore_n 1, 1), (32, .goto (-27), 3), (35, .return_, 1)]
theorem dd_Flex_openChildren : (D_Flex_openChildren.all fun q => decide (decode b_Flex_openChildren q.1 = .ok q.2)) = true := by decide +kernel
def t_Flex_openChildren : pl_TR := fun P _ _ => s_seq (s_seq (s_setr 1 (e_callV id 1 t_Box_firstInFlow n_Box_firstInFlow (a_r a_nil (e_locr 0)))) (s_while (b_nn (e_locr 1)) (s_seq (s_putz 1 19 (e_locr 1) (e_if (b_lcmp .gt (e_callS Value.long t_Flex_weightOf n_Flex_weightOf (a_r a_nil (e_locr 1))) (e_long 0)) (e_int 1) (e_int 0))) (s_setr 1 (e_callV id 1 t_Box_nextInFlow n_Box_nextInFlow (a_r a_nil (e_locr 1))))))) (s_retv P)
theorem z_Flex_openChildren (l : Launch) : pl_Ctr l y_Flex_openChildren b_Flex_openChildren n_Flex_openChildren (Option.none : Option Jvm.ClassFile.FieldType) 2 41 0 0 false t_Flex_openChildren := pl_ctr_of (pe := 0) (by decide) (fun X Y P F Fm => by
  have F : pl_Fx X Y "PageLayouter$Flex" b_Flex_openChildren := F
  have r_Box_firstInFlow : 1 + 1 ≤ (pl_xR X).frames ∧ 8 + (n_Box_firstInFlow + 11) + 20 ≤ (pl_xR X).locals := ⟨Nat.le_trans (by decide) Fm.2.2.2.2.2.1, Nat.le_trans (by decide) Fm.2.2.2.2.2.2.1⟩
  have r_Box_nextInFlow : 1 + 1 ≤ (pl_xR X).frames ∧ 8 + (n_Box_nextInFlow + 11) + 20 ≤ (pl_xR X).locals := ⟨Nat.le_trans (by decide) Fm.2.2.2.2.2.1, Nat.le_trans (by decide) Fm.2.2.2.2.2.2.1⟩
  have r_Flex_weightOf : 0 + 1 ≤ (pl_xR X).frames ∧ 8 + (n_Flex_weightOf + 11) + 0 ≤ (pl_xR X).locals := ⟨Nat.le_trans (by decide) Fm.2.2.2.2.2.1, Nat.le_trans (by decide) Fm.2.2.2.2.2.2.1⟩
  have hm : ∀ i, i < 2 → i < (pl_xc X).maxLocals := fun i h => by rw [Fm.2.2.2.1]; exact h
  have k0 : decode b_Flex_openChildren 0 = .ok (.aload_n 0, 1) := pl_dc dd_Flex_openChildren 0 (q := (0, .aload_n 0, 1)) rfl
  have k1 : decode b_Flex_openChildren 1 = .ok (.invokevirtual 26, 3) := pl_dc dd_Flex_openChildren 1 (q := (1, .invokevirtual 26, 3)) rfl
  have k4 : decode b_Flex_openChildren 4 = .ok (.astore_n 1, 1) := pl_dc dd_Flex_openChildren 2 (q := (4, .astore_n 1, 1)) rfl
  have k5 : decode b_Flex_openChildren 5 = .ok (.aload_n 1, 1) := pl_dc dd_Flex_openChildren 3 (q := (5, .aload_n 1, 1)) rfl
  have k6 : decode b_Flex_openChildren 6 = .ok (.ifnull 29, 3) := pl_dc dd_Flex_openChildren 4 (q := (6, .ifnull 29, 3)) rfl
  have k9 : decode b_Flex_openChildren 9 = .ok (.aload_n 1, 1) := pl_dc dd_Flex_openChildren 5 (q := (9, .aload_n 1, 1)) rfl
  have k10 : decode b_Flex_openChildren 10 = .ok (.aload_n 1, 1) := pl_dc dd_Flex_openChildren 6 (q := (10, .aload_n 1, 1)) rfl
  have k11 : decode b_Flex_openChildren 11 = .ok (.invokestatic 76, 3) := pl_dc dd_Flex_openChildren 7 (q := (11, .invokestatic 76, 3)) rfl
  have k14 : decode b_Flex_openChildren 14 = .ok (.lconst 0, 1) := pl_dc dd_Flex_openChildren 8 (q := (14, .lconst 0, 1)) rfl
  have k15 : decode b_Flex_openChildren 15 = .ok (.lcmp, 1) := pl_dc dd_Flex_openChildren 9 (q := (15, .lcmp, 1)) rfl
  have k16 : decode b_Flex_openChildren 16 = .ok (.ifCond .le 7, 3) := pl_dc dd_Flex_openChildren 10 (q := (16, .ifCond .le 7, 3)) rfl
  have k19 : decode b_Flex_openChildren 19 = .ok (.iconst 1, 1) := pl_dc dd_Flex_openChildren 11 (q := (19, .iconst 1, 1)) rfl
  have k20 : decode b_Flex_openChildren 20 = .ok (.goto 4, 3) := pl_dc dd_Flex_openChildren 12 (q := (20, .goto 4, 3)) rfl
  have k23 : decode b_Flex_openChildren 23 = .ok (.iconst 0, 1) := pl_dc dd_Flex_openChildren 13 (q := (23, .iconst 0, 1)) rfl
  have k24 : decode b_Flex_openChildren 24 = .ok (.putfield 79, 3) := pl_dc dd_Flex_openChildren 14 (q := (24, .putfield 79, 3)) rfl
  have k27 : decode b_Flex_openChildren 27 = .ok (.aload_n 1, 1) := pl_dc dd_Flex_openChildren 15 (q := (27, .aload_n 1, 1)) rfl
  have k28 : decode b_Flex_openChildren 28 = .ok (.invokevirtual 51, 3) := pl_dc dd_Flex_openChildren 16 (q := (28, .invokevirtual 51, 3)) rfl
  have k31 : decode b_Flex_openChildren 31 = .ok (.astore_n 1, 1) := pl_dc dd_Flex_openChildren 17 (q := (31, .astore_n 1, 1)) rfl
  have k32 : decode b_Flex_openChildren 32 = .ok (.goto (-27), 3) := pl_dc dd_Flex_openChildren 18 (q := (32, .goto (-27), 3)) rfl
  have k35 : decode b_Flex_openChildren 35 = .ok (.return_, 1) := pl_dc dd_Flex_openChildren 19 (q := (35, .return_, 1)) rfl
  exact (d_seq (p1 := 35) (d_seq (p1 := 5) (d_astore_n (p1 := 4) F (c_callV (p1 := 1) F (a_r_ok (p1 := 0) a_nil_ok (c_aload_n F k0 rfl)) (z_Box_firstInFlow _) y_Box_firstInFlow_ok lm_Flex_26 k1 r_Box_firstInFlow (by decide) (by decide)) k4 rfl (hm 1 (by decide))) (d_while (p1 := 9) (p2 := 32) F (b_nn_t (p1 := 6) (pj := 35) F (c_aload_n F k5 rfl) k6 (by decide)) (d_seq (p1 := 27) (d_putz (p1 := 10) (p2 := 24) F 1 19 hp_1_19 (c_aload_n F k9 rfl) (c_if (p1 := 19) (p2 := 20) (p3 := 24) F (b_lcmp_t (p1 := 14) (p2 := 15) (pj := 23) F (c_callS (p1 := 11) F (a_r_ok (p1 := 10) a_nil_ok (c_aload_n F k10 rfl)) (z_Flex_weightOf _) y_Flex_weightOf_ok lm_Flex_76 k11 r_Flex_weightOf (by decide) (by decide)) (c_lconst F k14 (by decide)) k15 k16 (by decide)) (c_iconst F k19 (by decide)) k20 (by decide) (c_iconst F k23 (by decide))) k24 lf_Flex_79) (d_astore_n (p1 := 31) F (c_callV (p1 := 28) F (a_r_ok (p1 := 27) a_nil_ok (c_aload_n F k27 rfl)) (z_Box_nextInFlow _) y_Box_nextInFlow_ok lm_Flex_51 k28 r_Box_nextInFlow (by decide) (by decide)) k31 rfl (hm 1 (by decide)))) k32 (by decide))) (d_retv F Fm.2.1 Fm.2.2.1 k35)))
def y_Flex_openWeight : MethodName := ⟨"PageLayouter$Flex", "openWeight", "(LPageLayouter$Box;)J"⟩
abbrev b_Flex_openWeight : ByteArray := prog_5_method_9_code
abbrev n_Flex_openWeight : Nat := 4
theorem y_Flex_openWeight_ok : pl_MS y_Flex_openWeight b_Flex_openWeight n_Flex_openWeight (Option.some Jvm.ClassFile.FieldType.long) 1 := ⟨pl_mem 526 (by decide +kernel) (by decide +kernel), pl_mem 525 (by decide +kernel) (by decide +kernel), pl_mem 57 (by decide +kernel) (by decide +kernel), ⟨by decide, by decide, by decide +kernel⟩⟩
def D_Flex_openWeight : List (Nat × Instr × Nat) := [(0, .lconst 0, 1), (1, .lstore_n 1, 1), (2, .aload_n 0, 1), (3, .invokevirtual 26, 3), (6, .astore_n 3, 1), (7, .aload_n 3, 1), (8, .ifnull 25, 3), (11, .aload_n 3, 1), (12, .getfield 79, 3), (15, .ifCond .eq 10, 3), (18, .lload_n 1, 1), (19, .aload_n 3, 1), (20, .invokestatic 76, 3), (23, .ladd, 1), (24, .lstore_n 1, 1), (25, .aload_n 3, 1), (26, .invokevirtual 51, 3), (29, .astore_n 3, 1), (30, .goto (-23), 3), (33, .lload_n 1, 1), (34, .lreturn, 1)]
theorem dd_Flex_openWeight : (D_Flex_openWeight.all fun q => decide (decode b_Flex_openWeight q.1 = .ok q.2)) = true := by decide +kernel
def t_Flex_openWeight : pl_TR := fun P _ _ => s_seq (s_setl 1 (e_long 0)) (s_seq (s_seq (s_setr 3 (e_callV id 1 t_Box_firstInFlow n_Box_firstInFlow (a_r a_nil (e_locr 0)))) (s_while (b_nn (e_locr 3)) (s_seq (s_if (b_zero .ne (e_geti 1 19 (e_locr 3))) (s_setl 1 (e_bin (fun x y : Int64 => x + y) (e_locl 1) (e_callS Value.long t_Flex_weightOf n_Flex_weightOf (a_r a_nil (e_locr 3)))))) (s_setr 3 (e_callV id 1 t_Box_nextInFlow n_Box_nextInFlow (a_r a_nil (e_locr 3))))))) (s_retl P (e_locl 1)))
theorem z_Flex_openWeight (l : Launch) : pl_Ctr l y_Flex_openWeight b_Flex_openWeight n_Flex_openWeight (Option.some Jvm.ClassFile.FieldType.long) 2 41 0 0 false t_Flex_openWeight := pl_ctr_of (pe := 0) (by decide) (fun X Y P F Fm => by
  have F : pl_Fx X Y "PageLayouter$Flex" b_Flex_openWeight := F
  have r_Box_firstInFlow : 1 + 1 ≤ (pl_xR X).frames ∧ 8 + (n_Box_firstInFlow + 11) + 20 ≤ (pl_xR X).locals := ⟨Nat.le_trans (by decide) Fm.2.2.2.2.2.1, Nat.le_trans (by decide) Fm.2.2.2.2.2.2.1⟩
  have r_Box_nextInFlow : 1 + 1 ≤ (pl_xR X).frames ∧ 8 + (n_Box_nextInFlow + 11) + 20 ≤ (pl_xR X).locals := ⟨Nat.le_trans (by decide) Fm.2.2.2.2.2.1, Nat.le_trans (by decide) Fm.2.2.2.2.2.2.1⟩
  have r_Flex_weightOf : 0 + 1 ≤ (pl_xR X).frames ∧ 8 + (n_Flex_weightOf + 11) + 0 ≤ (pl_xR X).locals := ⟨Nat.le_trans (by decide) Fm.2.2.2.2.2.1, Nat.le_trans (by decide) Fm.2.2.2.2.2.2.1⟩
  have hm : ∀ i, i < 4 → i < (pl_xc X).maxLocals := fun i h => by rw [Fm.2.2.2.1]; exact h
  have k0 : decode b_Flex_openWeight 0 = .ok (.lconst 0, 1) := pl_dc dd_Flex_openWeight 0 (q := (0, .lconst 0, 1)) rfl
  have k1 : decode b_Flex_openWeight 1 = .ok (.lstore_n 1, 1) := pl_dc dd_Flex_openWeight 1 (q := (1, .lstore_n 1, 1)) rfl
  have k2 : decode b_Flex_openWeight 2 = .ok (.aload_n 0, 1) := pl_dc dd_Flex_openWeight 2 (q := (2, .aload_n 0, 1)) rfl
  have k3 : decode b_Flex_openWeight 3 = .ok (.invokevirtual 26, 3) := pl_dc dd_Flex_openWeight 3 (q := (3, .invokevirtual 26, 3)) rfl
  have k6 : decode b_Flex_openWeight 6 = .ok (.astore_n 3, 1) := pl_dc dd_Flex_openWeight 4 (q := (6, .astore_n 3, 1)) rfl
  have k7 : decode b_Flex_openWeight 7 = .ok (.aload_n 3, 1) := pl_dc dd_Flex_openWeight 5 (q := (7, .aload_n 3, 1)) rfl
  have k8 : decode b_Flex_openWeight 8 = .ok (.ifnull 25, 3) := pl_dc dd_Flex_openWeight 6 (q := (8, .ifnull 25, 3)) rfl
  have k11 : decode b_Flex_openWeight 11 = .ok (.aload_n 3, 1) := pl_dc dd_Flex_openWeight 7 (q := (11, .aload_n 3, 1)) rfl
  have k12 : decode b_Flex_openWeight 12 = .ok (.getfield 79, 3) := pl_dc dd_Flex_openWeight 8 (q := (12, .getfield 79, 3)) rfl
  have k15 : decode b_Flex_openWeight 15 = .ok (.ifCond .eq 10, 3) := pl_dc dd_Flex_openWeight 9 (q := (15, .ifCond .eq 10, 3)) rfl
  have k18 : decode b_Flex_openWeight 18 = .ok (.lload_n 1, 1) := pl_dc dd_Flex_openWeight 10 (q := (18, .lload_n 1, 1)) rfl
  have k19 : decode b_Flex_openWeight 19 = .ok (.aload_n 3, 1) := pl_dc dd_Flex_openWeight 11 (q := (19, .aload_n 3, 1)) rfl
  have k20 : decode b_Flex_openWeight 20 = .ok (.invokestatic 76, 3) := pl_dc dd_Flex_openWeight 12 (q := (20, .invokestatic 76, 3)) rfl
  have k23 : decode b_Flex_openWeight 23 = .ok (.ladd, 1) := pl_dc dd_Flex_openWeight 13 (q := (23, .ladd, 1)) rfl
  have k24 : decode b_Flex_openWeight 24 = .ok (.lstore_n 1, 1) := pl_dc dd_Flex_openWeight 14 (q := (24, .lstore_n 1, 1)) rfl
  have k25 : decode b_Flex_openWeight 25 = .ok (.aload_n 3, 1) := pl_dc dd_Flex_openWeight 15 (q := (25, .aload_n 3, 1)) rfl
  have k26 : decode b_Flex_openWeight 26 = .ok (.invokevirtual 51, 3) := pl_dc dd_Flex_openWeight 16 (q := (26, .invokevirtual 51, 3)) rfl
  have k29 : decode b_Flex_openWeight 29 = .ok (.astore_n 3, 1) := pl_dc dd_Flex_openWeight 17 (q := (29, .astore_n 3, 1)) rfl
  have k30 : decode b_Flex_openWeight 30 = .ok (.goto (-23), 3) := pl_dc dd_Flex_openWeight 18 (q := (30, .goto (-23), 3)) rfl
  have k33 : decode b_Flex_openWeight 33 = .ok (.lload_n 1, 1) := pl_dc dd_Flex_openWeight 19 (q := (33, .lload_n 1, 1)) rfl
  have k34 : decode b_Flex_openWeight 34 = .ok (.lreturn, 1) := pl_dc dd_Flex_openWeight 20 (q := (34, .lreturn, 1)) rfl
  exact (d_seq (p1 := 2) (d_lstore_n (p1 := 1) F (c_lconst F k0 (by decide)) k1 rfl (hm 2 (by decide))) (d_seq (p1 := 33) (d_seq (p1 := 7) (d_astore_n (p1 := 6) F (c_callV (p1 := 3) F (a_r_ok (p1 := 2) a_nil_ok (c_aload_n F k2 rfl)) (z_Box_firstInFlow _) y_Box_firstInFlow_ok lm_Flex_26 k3 r_Box_firstInFlow (by decide) (by decide)) k6 rfl (hm 3 (by decide))) (d_while (p1 := 11) (p2 := 30) F (b_nn_t (p1 := 8) (pj := 33) F (c_aload_n F k7 rfl) k8 (by decide)) (d_seq (p1 := 25) (d_if (p1 := 18) (p2 := 25) (b_zero_t (p1 := 15) (pj := 25) F (c_geti (p1 := 12) F 1 19 hg_1_19 (c_aload_n F k11 rfl) k12 lf_Flex_79) k15 (by decide)) (d_lstore_n (p1 := 24) F (c_bin 2 (p1 := 19) (p2 := 23) (c_lload_n F k18 rfl) (c_callS (p1 := 20) F (a_r_ok (p1 := 19) a_nil_ok (c_aload_n F k19 rfl)) (z_Flex_weightOf _) y_Flex_weightOf_ok lm_Flex_76 k20 r_Flex_weightOf (by decide) (by decide)) pl_c2 (j_ladd F k23)) k24 rfl (hm 2 (by decide)))) (d_astore_n (p1 := 29) F (c_callV (p1 := 26) F (a_r_ok (p1 := 25) a_nil_ok (c_aload_n F k25 rfl)) (z_Box_nextInFlow _) y_Box_nextInFlow_ok lm_Flex_51 k26 r_Box_nextInFlow (by decide) (by decide)) k29 rfl (hm 3 (by decide)))) k30 (by decide))) (d_retl (p1 := 34) F Fm.2.1 Fm.2.2.1 (c_lload_n F k33 rfl) k34))))
def y_Flex_closeTooNarrow : MethodName := ⟨"PageLayouter$Flex", "closeTooNarrow", "(LPageLayouter$Box;IJ)Z"⟩
abbrev b_Flex_closeTooNarrow : ByteArray := prog_5_method_10_code
abbrev n_Flex_closeTooNarrow : Nat := 6
theorem y_Flex_closeTooNarrow_ok : pl_MS y_Flex_closeTooNarrow b_Flex_closeTooNarrow n_Flex_closeTooNarrow (Option.some Jvm.ClassFile.FieldType.boolean) 3 := ⟨pl_mem 529 (by decide +kernel) (by decide +kernel), pl_mem 528 (by decide +kernel) (by decide +kernel), pl_mem 57 (by decide +kernel) (by decide +kernel), ⟨by decide, by decide, by decide +kernel⟩⟩
def D_Flex_closeTooNarrow : List (Nat × Instr × Nat) := [(0, .iconst 0, 1), (1, .istore 4, 2), (3, .aload_n 0, 1), (4, .invokevirtual 26, 3), (7, .astore 5, 2), (9, .aload 5, 2), (11, .ifnull 75, 3), (14, .aload 5, 2), (16, .getfield 79, 3), (19, .ifCond .eq 57, 3), (22, .aload 5, 2), (24, .getfield 40, 3), (27, .i2l, 1), (28, .iload_n 1, 1), (29, .i2l, 1), (30, .aload 5, 2), (32, .invokestatic 76, 3), (35, .lmul, 1), (36, .lload_n 2, 1), (37, .ldiv, 1), (38, .lsub, 1), (39, .aload 5, 2), (41, .getfield 83, 3), (44, .i2l, 1), (45, .lcmp, 1), (46, .ifCond .ge 30, 3), (49, .aload 5, 2), (51, .aload 5, 2), (53, .getfield 40, 3), (56, .aload 5, 2), (58, .getfield 83, 3), (61, .invokestatic 86, 3), (64, .putfield 40, 3), (67, .aload 5, 2), (69, .iconst 0, 1), (70, .putfield 79, 3), (73, .iconst 1, 1), (74, .istore 4, 2), (76, .aload 5, 2), (78, .invokevirtual 51, 3), (81, .astore 5, 2), (83, .goto (-74), 3), (86, .iload 4, 2), (88, .ireturn, 1)]
theorem dd_Flex_closeTooNarrow : (D_Flex_closeTooNarrow.all fun q => decide (decode b_Flex_closeTooNarrow q.1 = .ok q.2)) = true := by decide +kernel
def t_Flex_closeTooNarrow : pl_TR := fun P _ _ => s_seq (s_seti 4 (e_int 0)) (s_seq (s_seq (s_setr 5 (e_callV id 1 t_Box_firstInFlow n_Box_firstInFlow (a_r a_nil (e_locr 0)))) (s_while (b_nn (e_locr 5)) (s_seq (s_if (b_and (b_zero .ne (e_geti 1 19 (e_locr 5))) (b_lcmp .lt (e_bin (fun x y : Int64 => x - y) (e_un Int32.toInt64 (e_geti 1 14 (e_locr 5))) (e_ldiv (e_bin (fun x y : Int64 => x * y) (e_un Int32.toInt64 (e_loc 1)) (e_callS Value.long t_Flex_weightOf n_Flex_weightOf (a_r a_nil (e_locr 5)))) (e_locl 2))) (e_un Int32.toInt64 (e_geti 1 10 (e_locr 5))))) (s_seq (s_puti 1 14 (e_locr 5) (e_bin pl_min (e_geti 1 14 (e_locr 5)) (e_geti 1 10 (e_locr 5)))) (s_seq (s_putz 1 19 (e_locr 5) (e_int 0)) (s_seti 4 (e_int 1))))) (s_setr 5 (e_callV id 1 t_Box_nextInFlow n_Box_nextInFlow (a_r a_nil (e_locr 5))))))) (s_retz P (e_loc 4)))
theorem z_Flex_closeTooNarrow (l : Launch) : pl_Ctr l y_Flex_closeTooNarrow b_Flex_closeTooNarrow n_Flex_closeTooNarrow (Option.some Jvm.ClassFile.FieldType.boolean) 2 41 0 0 false t_Flex_closeTooNarrow := pl_ctr_of (pe := 0) (by decide) (fun X Y P F Fm => by
  have F : pl_Fx X Y "PageLayouter$Flex" b_Flex_closeTooNarrow := F
  have r_Box_firstInFlow : 1 + 1 ≤ (pl_xR X).frames ∧ 8 + (n_Box_firstInFlow + 11) + 20 ≤ (pl_xR X).locals := ⟨Nat.le_trans (by decide) Fm.2.2.2.2.2.1, Nat.le_trans (by decide) Fm.2.2.2.2.2.2.1⟩
  have r_Box_nextInFlow : 1 + 1 ≤ (pl_xR X).frames ∧ 8 + (n_Box_nextInFlow + 11) + 20 ≤ (pl_xR X).locals := ⟨Nat.le_trans (by decide) Fm.2.2.2.2.2.1, Nat.le_trans (by decide) Fm.2.2.2.2.2.2.1⟩
  have r_Flex_weightOf : 0 + 1 ≤ (pl_xR X).frames ∧ 8 + (n_Flex_weightOf + 11) + 0 ≤ (pl_xR X).locals := ⟨Nat.le_trans (by decide) Fm.2.2.2.2.2.1, Nat.le_trans (by decide) Fm.2.2.2.2.2.2.1⟩
  have R0 : 1 ≤ (pl_xR X).frames ∧ 21 ≤ (pl_xR X).locals := ⟨Nat.le_trans (by decide) Fm.2.2.2.2.2.1, Nat.le_trans (by decide) Fm.2.2.2.2.2.2.1⟩
  have hm : ∀ i, i < 6 → i < (pl_xc X).maxLocals := fun i h => by rw [Fm.2.2.2.1]; exact h
  have k0 : decode b_Flex_closeTooNarrow 0 = .ok (.iconst 0, 1) := pl_dc dd_Flex_closeTooNarrow 0 (q := (0, .iconst 0, 1)) rfl
  have k1 : decode b_Flex_closeTooNarrow 1 = .ok (.istore 4, 2) := pl_dc dd_Flex_closeTooNarrow 1 (q := (1, .istore 4, 2)) rfl
  have k3 : decode b_Flex_closeTooNarrow 3 = .ok (.aload_n 0, 1) := pl_dc dd_Flex_closeTooNarrow 2 (q := (3, .aload_n 0, 1)) rfl
  have k4 : decode b_Flex_closeTooNarrow 4 = .ok (.invokevirtual 26, 3) := pl_dc dd_Flex_closeTooNarrow 3 (q := (4, .invokevirtual 26, 3)) rfl
  have k7 : decode b_Flex_closeTooNarrow 7 = .ok (.astore 5, 2) := pl_dc dd_Flex_closeTooNarrow 4 (q := (7, .astore 5, 2)) rfl
  have k9 : decode b_Flex_closeTooNarrow 9 = .ok (.aload 5, 2) := pl_dc dd_Flex_closeTooNarrow 5 (q := (9, .aload 5, 2)) rfl
  have k11 : decode b_Flex_closeTooNarrow 11 = .ok (.ifnull 75, 3) := pl_dc dd_Flex_closeTooNarrow 6 (q := (11, .ifnull 75, 3)) rfl
  have k14 : decode b_Flex_closeTooNarrow 14 = .ok (.aload 5, 2) := pl_dc dd_Flex_closeTooNarrow 7 (q := (14, .aload 5, 2)) rfl
  have k16 : decode b_Flex_closeTooNarrow 16 = .ok (.getfield 79, 3) := pl_dc dd_Flex_closeTooNarrow 8 (q := (16, .getfield 79, 3)) rfl
  have k19 : decode b_Flex_closeTooNarrow 19 = .ok (.ifCond .eq 57, 3) := pl_dc dd_Flex_closeTooNarrow 9 (q := (19, .ifCond .eq 57, 3)) rfl
  have k22 : decode b_Flex_closeTooNarrow 22 = .ok (.aload 5, 2) := pl_dc dd_Flex_closeTooNarrow 10 (q := (22, .aload 5, 2)) rfl
  have k24 : decode b_Flex_closeTooNarrow 24 = .ok (.getfield 40, 3) := pl_dc dd_Flex_closeTooNarrow 11 (q := (24, .getfield 40, 3)) rfl
  have k27 : decode b_Flex_closeTooNarrow 27 = .ok (.i2l, 1) := pl_dc dd_Flex_closeTooNarrow 12 (q := (27, .i2l, 1)) rfl
  have k28 : decode b_Flex_closeTooNarrow 28 = .ok (.iload_n 1, 1) := pl_dc dd_Flex_closeTooNarrow 13 (q := (28, .iload_n 1, 1)) rfl
  have k29 : decode b_Flex_closeTooNarrow 29 = .ok (.i2l, 1) := pl_dc dd_Flex_closeTooNarrow 14 (q := (29, .i2l, 1)) rfl
  have k30 : decode b_Flex_closeTooNarrow 30 = .ok (.aload 5, 2) := pl_dc dd_Flex_closeTooNarrow 15 (q := (30, .aload 5, 2)) rfl
  have k32 : decode b_Flex_closeTooNarrow 32 = .ok (.invokestatic 76, 3) := pl_dc dd_Flex_closeTooNarrow 16 (q := (32, .invokestatic 76, 3)) rfl
  have k35 : decode b_Flex_closeTooNarrow 35 = .ok (.lmul, 1) := pl_dc dd_Flex_closeTooNarrow 17 (q := (35, .lmul, 1)) rfl
  have k36 : decode b_Flex_closeTooNarrow 36 = .ok (.lload_n 2, 1) := pl_dc dd_Flex_closeTooNarrow 18 (q := (36, .lload_n 2, 1)) rfl
  have k37 : decode b_Flex_closeTooNarrow 37 = .ok (.ldiv, 1) := pl_dc dd_Flex_closeTooNarrow 19 (q := (37, .ldiv, 1)) rfl
  have k38 : decode b_Flex_closeTooNarrow 38 = .ok (.lsub, 1) := pl_dc dd_Flex_closeTooNarrow 20 (q := (38, .lsub, 1)) rfl
  have k39 : decode b_Flex_closeTooNarrow 39 = .ok (.aload 5, 2) := pl_dc dd_Flex_closeTooNarrow 21 (q := (39, .aload 5, 2)) rfl
  have k41 : decode b_Flex_closeTooNarrow 41 = .ok (.getfield 83, 3) := pl_dc dd_Flex_closeTooNarrow 22 (q := (41, .getfield 83, 3)) rfl
  have k44 : decode b_Flex_closeTooNarrow 44 = .ok (.i2l, 1) := pl_dc dd_Flex_closeTooNarrow 23 (q := (44, .i2l, 1)) rfl
  have k45 : decode b_Flex_closeTooNarrow 45 = .ok (.lcmp, 1) := pl_dc dd_Flex_closeTooNarrow 24 (q := (45, .lcmp, 1)) rfl
  have k46 : decode b_Flex_closeTooNarrow 46 = .ok (.ifCond .ge 30, 3) := pl_dc dd_Flex_closeTooNarrow 25 (q := (46, .ifCond .ge 30, 3)) rfl
  have k49 : decode b_Flex_closeTooNarrow 49 = .ok (.aload 5, 2) := pl_dc dd_Flex_closeTooNarrow 26 (q := (49, .aload 5, 2)) rfl
  have k51 : decode b_Flex_closeTooNarrow 51 = .ok (.aload 5, 2) := pl_dc dd_Flex_closeTooNarrow 27 (q := (51, .aload 5, 2)) rfl
  have k53 : decode b_Flex_closeTooNarrow 53 = .ok (.getfield 40, 3) := pl_dc dd_Flex_closeTooNarrow 28 (q := (53, .getfield 40, 3)) rfl
  have k56 : decode b_Flex_closeTooNarrow 56 = .ok (.aload 5, 2) := pl_dc dd_Flex_closeTooNarrow 29 (q := (56, .aload 5, 2)) rfl
  have k58 : decode b_Flex_closeTooNarrow 58 = .ok (.getfield 83, 3) := pl_dc dd_Flex_closeTooNarrow 30 (q := (58, .getfield 83, 3)) rfl
  have k61 : decode b_Flex_closeTooNarrow 61 = .ok (.invokestatic 86, 3) := pl_dc dd_Flex_closeTooNarrow 31 (q := (61, .invokestatic 86, 3)) rfl
  have k64 : decode b_Flex_closeTooNarrow 64 = .ok (.putfield 40, 3) := pl_dc dd_Flex_closeTooNarrow 32 (q := (64, .putfield 40, 3)) rfl
  have k67 : decode b_Flex_closeTooNarrow 67 = .ok (.aload 5, 2) := pl_dc dd_Flex_closeTooNarrow 33 (q := (67, .aload 5, 2)) rfl
  have k69 : decode b_Flex_closeTooNarrow 69 = .ok (.iconst 0, 1) := pl_dc dd_Flex_closeTooNarrow 34 (q := (69, .iconst 0, 1)) rfl
  have k70 : decode b_Flex_closeTooNarrow 70 = .ok (.putfield 79, 3) := pl_dc dd_Flex_closeTooNarrow 35 (q := (70, .putfield 79, 3)) rfl
  have k73 : decode b_Flex_closeTooNarrow 73 = .ok (.iconst 1, 1) := pl_dc dd_Flex_closeTooNarrow 36 (q := (73, .iconst 1, 1)) rfl
  have k74 : decode b_Flex_closeTooNarrow 74 = .ok (.istore 4, 2) := pl_dc dd_Flex_closeTooNarrow 37 (q := (74, .istore 4, 2)) rfl
  have k76 : decode b_Flex_closeTooNarrow 76 = .ok (.aload 5, 2) := pl_dc dd_Flex_closeTooNarrow 38 (q := (76, .aload 5, 2)) rfl
  have k78 : decode b_Flex_closeTooNarrow 78 = .ok (.invokevirtual 51, 3) := pl_dc dd_Flex_closeTooNarrow 39 (q := (78, .invokevirtual 51, 3)) rfl
  have k81 : decode b_Flex_closeTooNarrow 81 = .ok (.astore 5, 2) := pl_dc dd_Flex_closeTooNarrow 40 (q := (81, .astore 5, 2)) rfl
  have k83 : decode b_Flex_closeTooNarrow 83 = .ok (.goto (-74), 3) := pl_dc dd_Flex_closeTooNarrow 41 (q := (83, .goto (-74), 3)) rfl
  have k86 : decode b_Flex_closeTooNarrow 86 = .ok (.iload 4, 2) := pl_dc dd_Flex_closeTooNarrow 42 (q := (86, .iload 4, 2)) rfl
  have k88 : decode b_Flex_closeTooNarrow 88 = .ok (.ireturn, 1) := pl_dc dd_Flex_closeTooNarrow 43 (q := (88, .ireturn, 1)) rfl
  exact (d_seq (p1 := 3) (d_istore (p1 := 1) F (c_iconst F k0 (by decide)) k1 (hm 4 (by decide))) (d_seq (p1 := 86) (d_seq (p1 := 9) (d_astore (p1 := 7) F (c_callV (p1 := 4) F (a_r_ok (p1 := 3) a_nil_ok (c_aload_n F k3 rfl)) (z_Box_firstInFlow _) y_Box_firstInFlow_ok lm_Flex_26 k4 r_Box_firstInFlow (by decide) (by decide)) k7 (hm 5 (by decide))) (d_while (p1 := 14) (p2 := 83) F (b_nn_t (p1 := 11) (pj := 86) F (c_aload F k9) k11 (by decide)) (d_seq (p1 := 76) (d_if (p1 := 49) (p2 := 76) (b_and_t (p1 := 22) (b_zero_t (p1 := 19) (pj := 76) F (c_geti (p1 := 16) F 1 19 hg_1_19 (c_aload F k14) k16 lf_Flex_79) k19 (by decide)) (b_lcmp_t (p1 := 39) (p2 := 45) (pj := 76) F (c_bin 2 (p1 := 28) (p2 := 38) (c_un (p1 := 27) (c_geti (p1 := 24) F 1 14 hg_1_14 (c_aload F k22) k24 lf_Flex_40) (j_i2l F k27)) (c_ldiv (p1 := 36) (p2 := 37) F (c_bin 2 (p1 := 30) (p2 := 35) (c_un (p1 := 29) (c_iload_n F k28 rfl) (j_i2l F k29)) (c_callS (p1 := 32) F (a_r_ok (p1 := 30) a_nil_ok (c_aload F k30)) (z_Flex_weightOf _) y_Flex_weightOf_ok lm_Flex_76 k32 r_Flex_weightOf (by decide) (by decide)) pl_c2 (j_lmul F k35)) (c_lload_n F k36 rfl) k37) pl_c2 (j_lsub F k38)) (c_un (p1 := 44) (c_geti (p1 := 41) F 1 10 hg_1_10 (c_aload F k39) k41 lf_Flex_83) (j_i2l F k44)) k45 k46 (by decide))) (d_seq (p1 := 67) (d_puti (p1 := 51) (p2 := 64) F 1 14 hp_1_14 (c_aload F k49) (c_min (p1 := 56) (p2 := 61) F (c_geti (p1 := 53) F 1 14 hg_1_14 (c_aload F k51) k53 lf_Flex_40) (c_geti (p1 := 58) F 1 10 hg_1_10 (c_aload F k56) k58 lf_Flex_83) k61 lm_Flex_86 hm_min R0 (by decide)) k64 lf_Flex_40) (d_seq (p1 := 73) (d_putz (p1 := 69) (p2 := 70) F 1 19 hp_1_19 (c_aload F k67) (c_iconst F k69 (by decide)) k70 lf_Flex_79) (d_istore (p1 := 74) F (c_iconst F k73 (by decide)) k74 (hm 4 (by decide)))))) (d_astore (p1 := 81) F (c_callV (p1 := 78) F (a_r_ok (p1 := 76) a_nil_ok (c_aload F k76)) (z_Box_nextInFlow _) y_Box_nextInFlow_ok lm_Flex_51 k78 r_Box_nextInFlow (by decide) (by decide)) k81 (hm 5 (by decide)))) k83 (by decide))) (d_retz (p1 := 88) F Fm.2.1 Fm.2.2.1 (c_iload F k86) k88))))
