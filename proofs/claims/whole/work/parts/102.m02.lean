/-! Methods: a transformer for each, and that its bytes do it (laid by wip/whole/drive.py) -/
def y_Flex_narrowOpen : MethodName := ⟨"PageLayouter$Flex", "narrowOpen", "(LPageLayouter$Box;IJ)V"⟩
abbrev b_Flex_narrowOpen : ByteArray := prog_5_method_11_code
abbrev n_Flex_narrowOpen : Nat := 7
theorem y_Flex_narrowOpen_ok : pl_MS y_Flex_narrowOpen b_Flex_narrowOpen n_Flex_narrowOpen (Option.none : Option Jvm.ClassFile.FieldType) 3 := ⟨pl_mem 535 (by decide +kernel) (by decide +kernel), pl_mem 534 (by decide +kernel) (by decide +kernel), pl_mem 57 (by decide +kernel) (by decide +kernel), ⟨by decide, by decide, by decide +kernel⟩⟩
def D_Flex_narrowOpen : List (Nat × Instr × Nat) := [(0, .iload_n 1, 1), (1, .istore 4, 2), (3, .aload_n 0, 1), (4, .invokevirtual 26, 3), (7, .astore 5, 2), (9, .aload 5, 2), (11, .ifnull 53, 3), (14, .aload 5, 2), (16, .getfield 79, 3), (19, .ifCond .eq 35, 3), (22, .iload_n 1, 1), (23, .i2l, 1), (24, .aload 5, 2), (26, .invokestatic 76, 3), (29, .lmul, 1), (30, .lload_n 2, 1), (31, .ldiv, 1), (32, .l2i, 1), (33, .istore 6, 2), (35, .aload 5, 2), (37, .dup, 1), (38, .getfield 40, 3), (41, .iload 6, 2), (43, .isub, 1), (44, .putfield 40, 3), (47, .iload 4, 2), (49, .iload 6, 2), (51, .isub, 1), (52, .istore 4, 2), (54, .aload 5, 2), (56, .invokevirtual 51, 3), (59, .astore 5, 2), (61, .goto (-52), 3), (64, .aload_n 0, 1), (65, .invokevirtual 26, 3), (68, .astore 5, 2), (70, .aload 5, 2), (72, .ifnull 53, 3), (75, .iload 4, 2), (77, .ifCond .le 48, 3), (80, .aload 5, 2), (82, .getfield 79, 3), (85, .ifCond .eq 30, 3), (88, .aload 5, 2), (90, .getfield 40, 3), (93, .aload 5, 2), (95, .getfield 83, 3), (98, .if_icmp .le 17, 3), (101, .aload 5, 2), (103, .dup, 1), (104, .getfield 40, 3), (107, .iconst 1, 1), (108, .isub, 1), (109, .putfield 40, 3), (112, .iinc 4 (-1), 3), (115, .aload 5, 2), (117, .invokevirtual 51, 3), (120, .astore 5, 2), (122, .goto (-52), 3), (125, .return_, 1)]
theorem dd_Flex_narrowOpen : (D_Flex_narrowOpen.all fun q => decide (decode b_Flex_narrowOpen q.1 = .ok q.2)) = true := by decide +kernel
def t_Flex_narrowOpen : pl_TR := fun P _ _ => s_seq (s_seq (s_seti 4 (e_loc 1)) (s_seq (s_seq (s_setr 5 (e_callV id 1 t_Box_firstInFlow n_Box_firstInFlow (a_r a_nil (e_locr 0)))) (s_while (b_nn (e_locr 5)) (s_seq (s_if (b_zero .ne (e_geti 1 19 (e_locr 5))) (s_seq (s_seti 6 (e_un Int64.toInt32 (e_ldiv (e_bin (fun x y : Int64 => x * y) (e_un Int32.toInt64 (e_loc 1)) (e_callS Value.long t_Flex_weightOf n_Flex_weightOf (a_r a_nil (e_locr 5)))) (e_locl 2)))) (s_seq (s_updi 1 14 (fun x y : Int32 => x - y) (e_locr 5) (e_loc 6)) (s_seti 4 (e_bin (fun x y : Int32 => x - y) (e_loc 4) (e_loc 6)))))) (s_setr 5 (e_callV id 1 t_Box_nextInFlow n_Box_nextInFlow (a_r a_nil (e_locr 5))))))) (s_seq (s_setr 5 (e_callV id 1 t_Box_firstInFlow n_Box_firstInFlow (a_r a_nil (e_locr 0)))) (s_while (b_and (b_nn (e_locr 5)) (b_zero .gt (e_loc 4))) (s_seq (s_if (b_and (b_zero .ne (e_geti 1 19 (e_locr 5))) (b_cmp .gt (e_geti 1 14 (e_locr 5)) (e_geti 1 10 (e_locr 5)))) (s_seq (s_updi 1 14 (fun x y : Int32 => x - y) (e_locr 5) (e_int 1)) (s_inc 4 (-1)))) (s_setr 5 (e_callV id 1 t_Box_nextInFlow n_Box_nextInFlow (a_r a_nil (e_locr 5))))))))) (s_retv P)
theorem z_Flex_narrowOpen (l : Launch) : pl_Ctr l y_Flex_narrowOpen b_Flex_narrowOpen n_Flex_narrowOpen (Option.none : Option Jvm.ClassFile.FieldType) 2 41 0 0 false t_Flex_narrowOpen := pl_ctr_of (pe := 0) (by decide) (fun X Y P F Fm => by
  have F : pl_Fx X Y "PageLayouter$Flex" b_Flex_narrowOpen := F
  have r_Box_firstInFlow : 1 + 1 ≤ (pl_xR X).frames ∧ 8 + (n_Box_firstInFlow + 11) + 20 ≤ (pl_xR X).locals := ⟨Nat.le_trans (by decide) Fm.2.2.2.2.2.1, Nat.le_trans (by decide) Fm.2.2.2.2.2.2.1⟩
  have r_Box_nextInFlow : 1 + 1 ≤ (pl_xR X).frames ∧ 8 + (n_Box_nextInFlow + 11) + 20 ≤ (pl_xR X).locals := ⟨Nat.le_trans (by decide) Fm.2.2.2.2.2.1, Nat.le_trans (by decide) Fm.2.2.2.2.2.2.1⟩
  have r_Flex_weightOf : 0 + 1 ≤ (pl_xR X).frames ∧ 8 + (n_Flex_weightOf + 11) + 0 ≤ (pl_xR X).locals := ⟨Nat.le_trans (by decide) Fm.2.2.2.2.2.1, Nat.le_trans (by decide) Fm.2.2.2.2.2.2.1⟩
  have hm : ∀ i, i < 7 → i < (pl_xc X).maxLocals := fun i h => by rw [Fm.2.2.2.1]; exact h
  have k0 : decode b_Flex_narrowOpen 0 = .ok (.iload_n 1, 1) := pl_dc dd_Flex_narrowOpen 0 (q := (0, .iload_n 1, 1)) rfl
  have k1 : decode b_Flex_narrowOpen 1 = .ok (.istore 4, 2) := pl_dc dd_Flex_narrowOpen 1 (q := (1, .istore 4, 2)) rfl
  have k3 : decode b_Flex_narrowOpen 3 = .ok (.aload_n 0, 1) := pl_dc dd_Flex_narrowOpen 2 (q := (3, .aload_n 0, 1)) rfl
  have k4 : decode b_Flex_narrowOpen 4 = .ok (.invokevirtual 26, 3) := pl_dc dd_Flex_narrowOpen 3 (q := (4, .invokevirtual 26, 3)) rfl
  have k7 : decode b_Flex_narrowOpen 7 = .ok (.astore 5, 2) := pl_dc dd_Flex_narrowOpen 4 (q := (7, .astore 5, 2)) rfl
  have k9 : decode b_Flex_narrowOpen 9 = .ok (.aload 5, 2) := pl_dc dd_Flex_narrowOpen 5 (q := (9, .aload 5, 2)) rfl
  have k11 : decode b_Flex_narrowOpen 11 = .ok (.ifnull 53, 3) := pl_dc dd_Flex_narrowOpen 6 (q := (11, .ifnull 53, 3)) rfl
  have k14 : decode b_Flex_narrowOpen 14 = .ok (.aload 5, 2) := pl_dc dd_Flex_narrowOpen 7 (q := (14, .aload 5, 2)) rfl
  have k16 : decode b_Flex_narrowOpen 16 = .ok (.getfield 79, 3) := pl_dc dd_Flex_narrowOpen 8 (q := (16, .getfield 79, 3)) rfl
  have k19 : decode b_Flex_narrowOpen 19 = .ok (.ifCond .eq 35, 3) := pl_dc dd_Flex_narrowOpen 9 (q := (19, .ifCond .eq 35, 3)) rfl
  have k22 : decode b_Flex_narrowOpen 22 = .ok (.iload_n 1, 1) := pl_dc dd_Flex_narrowOpen 10 (q := (22, .iload_n 1, 1)) rfl
  have k23 : decode b_Flex_narrowOpen 23 = .ok (.i2l, 1) := pl_dc dd_Flex_narrowOpen 11 (q := (23, .i2l, 1)) rfl
  have k24 : decode b_Flex_narrowOpen 24 = .ok (.aload 5, 2) := pl_dc dd_Flex_narrowOpen 12 (q := (24, .aload 5, 2)) rfl
  have k26 : decode b_Flex_narrowOpen 26 = .ok (.invokestatic 76, 3) := pl_dc dd_Flex_narrowOpen 13 (q := (26, .invokestatic 76, 3)) rfl
  have k29 : decode b_Flex_narrowOpen 29 = .ok (.lmul, 1) := pl_dc dd_Flex_narrowOpen 14 (q := (29, .lmul, 1)) rfl
  have k30 : decode b_Flex_narrowOpen 30 = .ok (.lload_n 2, 1) := pl_dc dd_Flex_narrowOpen 15 (q := (30, .lload_n 2, 1)) rfl
  have k31 : decode b_Flex_narrowOpen 31 = .ok (.ldiv, 1) := pl_dc dd_Flex_narrowOpen 16 (q := (31, .ldiv, 1)) rfl
  have k32 : decode b_Flex_narrowOpen 32 = .ok (.l2i, 1) := pl_dc dd_Flex_narrowOpen 17 (q := (32, .l2i, 1)) rfl
  have k33 : decode b_Flex_narrowOpen 33 = .ok (.istore 6, 2) := pl_dc dd_Flex_narrowOpen 18 (q := (33, .istore 6, 2)) rfl
  have k35 : decode b_Flex_narrowOpen 35 = .ok (.aload 5, 2) := pl_dc dd_Flex_narrowOpen 19 (q := (35, .aload 5, 2)) rfl
  have k37 : decode b_Flex_narrowOpen 37 = .ok (.dup, 1) := pl_dc dd_Flex_narrowOpen 20 (q := (37, .dup, 1)) rfl
  have k38 : decode b_Flex_narrowOpen 38 = .ok (.getfield 40, 3) := pl_dc dd_Flex_narrowOpen 21 (q := (38, .getfield 40, 3)) rfl
  have k41 : decode b_Flex_narrowOpen 41 = .ok (.iload 6, 2) := pl_dc dd_Flex_narrowOpen 22 (q := (41, .iload 6, 2)) rfl
  have k43 : decode b_Flex_narrowOpen 43 = .ok (.isub, 1) := pl_dc dd_Flex_narrowOpen 23 (q := (43, .isub, 1)) rfl
  have k44 : decode b_Flex_narrowOpen 44 = .ok (.putfield 40, 3) := pl_dc dd_Flex_narrowOpen 24 (q := (44, .putfield 40, 3)) rfl
  have k47 : decode b_Flex_narrowOpen 47 = .ok (.iload 4, 2) := pl_dc dd_Flex_narrowOpen 25 (q := (47, .iload 4, 2)) rfl
  have k49 : decode b_Flex_narrowOpen 49 = .ok (.iload 6, 2) := pl_dc dd_Flex_narrowOpen 26 (q := (49, .iload 6, 2)) rfl
  have k51 : decode b_Flex_narrowOpen 51 = .ok (.isub, 1) := pl_dc dd_Flex_narrowOpen 27 (q := (51, .isub, 1)) rfl
  have k52 : decode b_Flex_narrowOpen 52 = .ok (.istore 4, 2) := pl_dc dd_Flex_narrowOpen 28 (q := (52, .istore 4, 2)) rfl
  have k54 : decode b_Flex_narrowOpen 54 = .ok (.aload 5, 2) := pl_dc dd_Flex_narrowOpen 29 (q := (54, .aload 5, 2)) rfl
  have k56 : decode b_Flex_narrowOpen 56 = .ok (.invokevirtual 51, 3) := pl_dc dd_Flex_narrowOpen 30 (q := (56, .invokevirtual 51, 3)) rfl
  have k59 : decode b_Flex_narrowOpen 59 = .ok (.astore 5, 2) := pl_dc dd_Flex_narrowOpen 31 (q := (59, .astore 5, 2)) rfl
  have k61 : decode b_Flex_narrowOpen 61 = .ok (.goto (-52), 3) := pl_dc dd_Flex_narrowOpen 32 (q := (61, .goto (-52), 3)) rfl
  have k64 : decode b_Flex_narrowOpen 64 = .ok (.aload_n 0, 1) := pl_dc dd_Flex_narrowOpen 33 (q := (64, .aload_n 0, 1)) rfl
  have k65 : decode b_Flex_narrowOpen 65 = .ok (.invokevirtual 26, 3) := pl_dc dd_Flex_narrowOpen 34 (q := (65, .invokevirtual 26, 3)) rfl
  have k68 : decode b_Flex_narrowOpen 68 = .ok (.astore 5, 2) := pl_dc dd_Flex_narrowOpen 35 (q := (68, .astore 5, 2)) rfl
  have k70 : decode b_Flex_narrowOpen 70 = .ok (.aload 5, 2) := pl_dc dd_Flex_narrowOpen 36 (q := (70, .aload 5, 2)) rfl
  have k72 : decode b_Flex_narrowOpen 72 = .ok (.ifnull 53, 3) := pl_dc dd_Flex_narrowOpen 37 (q := (72, .ifnull 53, 3)) rfl
  have k75 : decode b_Flex_narrowOpen 75 = .ok (.iload 4, 2) := pl_dc dd_Flex_narrowOpen 38 (q := (75, .iload 4, 2)) rfl
  have k77 : decode b_Flex_narrowOpen 77 = .ok (.ifCond .le 48, 3) := pl_dc dd_Flex_narrowOpen 39 (q := (77, .ifCond .le 48, 3)) rfl
  have k80 : decode b_Flex_narrowOpen 80 = .ok (.aload 5, 2) := pl_dc dd_Flex_narrowOpen 40 (q := (80, .aload 5, 2)) rfl
  have k82 : decode b_Flex_narrowOpen 82 = .ok (.getfield 79, 3) := pl_dc dd_Flex_narrowOpen 41 (q := (82, .getfield 79, 3)) rfl
  have k85 : decode b_Flex_narrowOpen 85 = .ok (.ifCond .eq 30, 3) := pl_dc dd_Flex_narrowOpen 42 (q := (85, .ifCond .eq 30, 3)) rfl
  have k88 : decode b_Flex_narrowOpen 88 = .ok (.aload 5, 2) := pl_dc dd_Flex_narrowOpen 43 (q := (88, .aload 5, 2)) rfl
  have k90 : decode b_Flex_narrowOpen 90 = .ok (.getfield 40, 3) := pl_dc dd_Flex_narrowOpen 44 (q := (90, .getfield 40, 3)) rfl
  have k93 : decode b_Flex_narrowOpen 93 = .ok (.aload 5, 2) := pl_dc dd_Flex_narrowOpen 45 (q := (93, .aload 5, 2)) rfl
  have k95 : decode b_Flex_narrowOpen 95 = .ok (.getfield 83, 3) := pl_dc dd_Flex_narrowOpen 46 (q := (95, .getfield 83, 3)) rfl
  have k98 : decode b_Flex_narrowOpen 98 = .ok (.if_icmp .le 17, 3) := pl_dc dd_Flex_narrowOpen 47 (q := (98, .if_icmp .le 17, 3)) rfl
  have k101 : decode b_Flex_narrowOpen 101 = .ok (.aload 5, 2) := pl_dc dd_Flex_narrowOpen 48 (q := (101, .aload 5, 2)) rfl
  have k103 : decode b_Flex_narrowOpen 103 = .ok (.dup, 1) := pl_dc dd_Flex_narrowOpen 49 (q := (103, .dup, 1)) rfl
  have k104 : decode b_Flex_narrowOpen 104 = .ok (.getfield 40, 3) := pl_dc dd_Flex_narrowOpen 50 (q := (104, .getfield 40, 3)) rfl
  have k107 : decode b_Flex_narrowOpen 107 = .ok (.iconst 1, 1) := pl_dc dd_Flex_narrowOpen 51 (q := (107, .iconst 1, 1)) rfl
  have k108 : decode b_Flex_narrowOpen 108 = .ok (.isub, 1) := pl_dc dd_Flex_narrowOpen 52 (q := (108, .isub, 1)) rfl
  have k109 : decode b_Flex_narrowOpen 109 = .ok (.putfield 40, 3) := pl_dc dd_Flex_narrowOpen 53 (q := (109, .putfield 40, 3)) rfl
  have k112 : decode b_Flex_narrowOpen 112 = .ok (.iinc 4 (-1), 3) := pl_dc dd_Flex_narrowOpen 54 (q := (112, .iinc 4 (-1), 3)) rfl
  have k115 : decode b_Flex_narrowOpen 115 = .ok (.aload 5, 2) := pl_dc dd_Flex_narrowOpen 55 (q := (115, .aload 5, 2)) rfl
  have k117 : decode b_Flex_narrowOpen 117 = .ok (.invokevirtual 51, 3) := pl_dc dd_Flex_narrowOpen 56 (q := (117, .invokevirtual 51, 3)) rfl
  have k120 : decode b_Flex_narrowOpen 120 = .ok (.astore 5, 2) := pl_dc dd_Flex_narrowOpen 57 (q := (120, .astore 5, 2)) rfl
  have k122 : decode b_Flex_narrowOpen 122 = .ok (.goto (-52), 3) := pl_dc dd_Flex_narrowOpen 58 (q := (122, .goto (-52), 3)) rfl
  have k125 : decode b_Flex_narrowOpen 125 = .ok (.return_, 1) := pl_dc dd_Flex_narrowOpen 59 (q := (125, .return_, 1)) rfl
  exact (d_seq (p1 := 125) (d_seq (p1 := 3) (d_istore (p1 := 1) F (c_iload_n F k0 rfl) k1 (hm 4 (by decide))) (d_seq (p1 := 64) (d_seq (p1 := 9) (d_astore (p1 := 7) F (c_callV (p1 := 4) F (a_r_ok (p1 := 3) a_nil_ok (c_aload_n F k3 rfl)) (z_Box_firstInFlow _) y_Box_firstInFlow_ok lm_Flex_26 k4 r_Box_firstInFlow (by decide) (by decide)) k7 (hm 5 (by decide))) (d_while (p1 := 14) (p2 := 61) F (b_nn_t (p1 := 11) (pj := 64) F (c_aload F k9) k11 (by decide)) (d_seq (p1 := 54) (d_if (p1 := 22) (p2 := 54) (b_zero_t (p1 := 19) (pj := 54) F (c_geti (p1 := 16) F 1 19 hg_1_19 (c_aload F k14) k16 lf_Flex_79) k19 (by decide)) (d_seq (p1 := 35) (d_istore (p1 := 33) F (c_un (p1 := 32) (c_ldiv (p1 := 30) (p2 := 31) F (c_bin 2 (p1 := 24) (p2 := 29) (c_un (p1 := 23) (c_iload_n F k22 rfl) (j_i2l F k23)) (c_callS (p1 := 26) F (a_r_ok (p1 := 24) a_nil_ok (c_aload F k24)) (z_Flex_weightOf _) y_Flex_weightOf_ok lm_Flex_76 k26 r_Flex_weightOf (by decide) (by decide)) pl_c2 (j_lmul F k29)) (c_lload_n F k30 rfl) k31) (j_l2i F k32)) k33 (hm 6 (by decide))) (d_seq (p1 := 47) (d_updi (p1 := 37) (p2 := 43) F 1 14 hp_1_14 (c_aload F k35) k37 k38 (c_iload F k41) (j_isub F k43) k44 lf_Flex_40) (d_istore (p1 := 52) F (c_bin 1 (p1 := 49) (p2 := 51) (c_iload F k47) (c_iload F k49) pl_c1 (j_isub F k51)) k52 (hm 4 (by decide)))))) (d_astore (p1 := 59) F (c_callV (p1 := 56) F (a_r_ok (p1 := 54) a_nil_ok (c_aload F k54)) (z_Box_nextInFlow _) y_Box_nextInFlow_ok lm_Flex_51 k56 r_Box_nextInFlow (by decide) (by decide)) k59 (hm 5 (by decide)))) k61 (by decide))) (d_seq (p1 := 70) (d_astore (p1 := 68) F (c_callV (p1 := 65) F (a_r_ok (p1 := 64) a_nil_ok (c_aload_n F k64 rfl)) (z_Box_firstInFlow _) y_Box_firstInFlow_ok lm_Flex_26 k65 r_Box_firstInFlow (by decide) (by decide)) k68 (hm 5 (by decide))) (d_while (p1 := 80) (p2 := 122) F (b_and_t (p1 := 75) (b_nn_t (p1 := 72) (pj := 125) F (c_aload F k70) k72 (by decide)) (b_zero_t (p1 := 77) (pj := 125) F (c_iload F k75) k77 (by decide))) (d_seq (p1 := 115) (d_if (p1 := 101) (p2 := 115) (b_and_t (p1 := 88) (b_zero_t (p1 := 85) (pj := 115) F (c_geti (p1 := 82) F 1 19 hg_1_19 (c_aload F k80) k82 lf_Flex_79) k85 (by decide)) (b_cmp_t (p1 := 93) (p2 := 98) (pj := 115) F (c_geti (p1 := 90) F 1 14 hg_1_14 (c_aload F k88) k90 lf_Flex_40) (c_geti (p1 := 95) F 1 10 hg_1_10 (c_aload F k93) k95 lf_Flex_83) k98 (by decide))) (d_seq (p1 := 112) (d_updi (p1 := 103) (p2 := 108) F 1 14 hp_1_14 (c_aload F k101) k103 k104 (c_iconst F k107 (by decide)) (j_isub F k108) k109 lf_Flex_40) (d_iinc F k112 (by decide) (hm 4 (by decide))))) (d_astore (p1 := 120) F (c_callV (p1 := 117) F (a_r_ok (p1 := 115) a_nil_ok (c_aload F k115)) (z_Box_nextInFlow _) y_Box_nextInFlow_ok lm_Flex_51 k117 r_Box_nextInFlow (by decide) (by decide)) k120 (hm 5 (by decide)))) k122 (by decide))))) (d_retv F Fm.2.1 Fm.2.2.1 k125)))
def y_Flex_shrink : MethodName := ⟨"PageLayouter$Flex", "shrink", "(LPageLayouter$Box;)V"⟩
abbrev b_Flex_shrink : ByteArray := prog_5_method_6_code
abbrev n_Flex_shrink : Nat := 5
theorem y_Flex_shrink_ok : pl_MS y_Flex_shrink b_Flex_shrink n_Flex_shrink (Option.none : Option Jvm.ClassFile.FieldType) 1 := ⟨pl_mem 517 (by decide +kernel) (by decide +kernel), pl_mem 516 (by decide +kernel) (by decide +kernel), pl_mem 57 (by decide +kernel) (by decide +kernel), ⟨by decide, by decide, by decide +kernel⟩⟩
def D_Flex_shrink : List (Nat × Instr × Nat) := [(0, .aload_n 0, 1), (1, .invokestatic 61, 3), (4, .iconst 0, 1), (5, .istore_n 1, 1), (6, .iload_n 1, 1), (7, .bipush 40, 2), (9, .if_icmp .ge 47, 3), (12, .aload_n 0, 1), (13, .invokestatic 15, 3), (16, .ineg, 1), (17, .istore_n 2, 1), (18, .aload_n 0, 1), (19, .invokestatic 64, 3), (22, .lstore_n 3, 1), (23, .iload_n 2, 1), (24, .ifCond .le 9, 3), (27, .lload_n 3, 1), (28, .lconst 0, 1), (29, .lcmp, 1), (30, .ifCond .ne 4, 3), (33, .return_, 1), (34, .aload_n 0, 1), (35, .iload_n 2, 1), (36, .lload_n 3, 1), (37, .invokestatic 68, 3), (40, .ifCond .ne 10, 3), (43, .aload_n 0, 1), (44, .iload_n 2, 1), (45, .lload_n 3, 1), (46, .invokestatic 72, 3), (49, .return_, 1), (50, .iinc 1 1, 3), (53, .goto (-47), 3), (56, .return_, 1)]
theorem dd_Flex_shrink : (D_Flex_shrink.all fun q => decide (decode b_Flex_shrink q.1 = .ok q.2)) = true := by decide +kernel
def t_Flex_shrink : pl_TR := fun P _ _ => s_seq (s_seq (s_callS t_Flex_openChildren n_Flex_openChildren (a_r a_nil (e_locr 0))) (s_seq (s_seti 1 (e_int 0)) (s_while (b_cmp .lt (e_loc 1) (e_int 40)) (s_seq (s_seq (s_seti 2 (e_un (fun x => -x) (e_callS Value.int t_Flex_spaceLeft n_Flex_spaceLeft (a_r a_nil (e_locr 0))))) (s_seq (s_setl 3 (e_callS Value.long t_Flex_openWeight n_Flex_openWeight (a_r a_nil (e_locr 0)))) (s_seq (s_if (b_or (b_zero .le (e_loc 2)) (b_lcmp .eq (e_locl 3) (e_long 0))) (s_retv P)) (s_if (b_not (b_zero .ne (e_callS Value.int t_Flex_closeTooNarrow n_Flex_closeTooNarrow (a_l (a_i (a_r a_nil (e_locr 0)) (e_loc 2)) (e_locl 3))))) (s_seq (s_callS t_Flex_narrowOpen n_Flex_narrowOpen (a_l (a_i (a_r a_nil (e_locr 0)) (e_loc 2)) (e_locl 3))) (s_retv P)))))) (s_inc 1 1))))) (s_retv P)
theorem z_Flex_shrink (l : Launch) : pl_Ctr l y_Flex_shrink b_Flex_shrink n_Flex_shrink (Option.none : Option Jvm.ClassFile.FieldType) 4 82 0 0 false t_Flex_shrink := pl_ctr_of (pe := 0) (by decide) (fun X Y P F Fm => by
  have F : pl_Fx X Y "PageLayouter$Flex" b_Flex_shrink := F
  have r_Flex_closeTooNarrow : 2 + 1 ≤ (pl_xR X).frames ∧ 8 + (n_Flex_closeTooNarrow + 11) + 41 ≤ (pl_xR X).locals := ⟨Nat.le_trans (by decide) Fm.2.2.2.2.2.1, Nat.le_trans (by decide) Fm.2.2.2.2.2.2.1⟩
  have r_Flex_narrowOpen : 2 + 1 ≤ (pl_xR X).frames ∧ 8 + (n_Flex_narrowOpen + 11) + 41 ≤ (pl_xR X).locals := ⟨Nat.le_trans (by decide) Fm.2.2.2.2.2.1, Nat.le_trans (by decide) Fm.2.2.2.2.2.2.1⟩
  have r_Flex_openChildren : 2 + 1 ≤ (pl_xR X).frames ∧ 8 + (n_Flex_openChildren + 11) + 41 ≤ (pl_xR X).locals := ⟨Nat.le_trans (by decide) Fm.2.2.2.2.2.1, Nat.le_trans (by decide) Fm.2.2.2.2.2.2.1⟩
  have r_Flex_openWeight : 2 + 1 ≤ (pl_xR X).frames ∧ 8 + (n_Flex_openWeight + 11) + 41 ≤ (pl_xR X).locals := ⟨Nat.le_trans (by decide) Fm.2.2.2.2.2.1, Nat.le_trans (by decide) Fm.2.2.2.2.2.2.1⟩
  have r_Flex_spaceLeft : 3 + 1 ≤ (pl_xR X).frames ∧ 8 + (n_Flex_spaceLeft + 11) + 60 ≤ (pl_xR X).locals := ⟨Nat.le_trans (by decide) Fm.2.2.2.2.2.1, Nat.le_trans (by decide) Fm.2.2.2.2.2.2.1⟩
  have hm : ∀ i, i < 5 → i < (pl_xc X).maxLocals := fun i h => by rw [Fm.2.2.2.1]; exact h
  have k0 : decode b_Flex_shrink 0 = .ok (.aload_n 0, 1) := pl_dc dd_Flex_shrink 0 (q := (0, .aload_n 0, 1)) rfl
  have k1 : decode b_Flex_shrink 1 = .ok (.invokestatic 61, 3) := pl_dc dd_Flex_shrink 1 (q := (1, .invokestatic 61, 3)) rfl
  have k4 : decode b_Flex_shrink 4 = .ok (.iconst 0, 1) := pl_dc dd_Flex_shrink 2 (q := (4, .iconst 0, 1)) rfl
  have k5 : decode b_Flex_shrink 5 = .ok (.istore_n 1, 1) := pl_dc dd_Flex_shrink 3 (q := (5, .istore_n 1, 1)) rfl
  have k6 : decode b_Flex_shrink 6 = .ok (.iload_n 1, 1) := pl_dc dd_Flex_shrink 4 (q := (6, .iload_n 1, 1)) rfl
  have k7 : decode b_Flex_shrink 7 = .ok (.bipush 40, 2) := pl_dc dd_Flex_shrink 5 (q := (7, .bipush 40, 2)) rfl
  have k9 : decode b_Flex_shrink 9 = .ok (.if_icmp .ge 47, 3) := pl_dc dd_Flex_shrink 6 (q := (9, .if_icmp .ge 47, 3)) rfl
  have k12 : decode b_Flex_shrink 12 = .ok (.aload_n 0, 1) := pl_dc dd_Flex_shrink 7 (q := (12, .aload_n 0, 1)) rfl
  have k13 : decode b_Flex_shrink 13 = .ok (.invokestatic 15, 3) := pl_dc dd_Flex_shrink 8 (q := (13, .invokestatic 15, 3)) rfl
  have k16 : decode b_Flex_shrink 16 = .ok (.ineg, 1) := pl_dc dd_Flex_shrink 9 (q := (16, .ineg, 1)) rfl
  have k17 : decode b_Flex_shrink 17 = .ok (.istore_n 2, 1) := pl_dc dd_Flex_shrink 10 (q := (17, .istore_n 2, 1)) rfl
  have k18 : decode b_Flex_shrink 18 = .ok (.aload_n 0, 1) := pl_dc dd_Flex_shrink 11 (q := (18, .aload_n 0, 1)) rfl
  have k19 : decode b_Flex_shrink 19 = .ok (.invokestatic 64, 3) := pl_dc dd_Flex_shrink 12 (q := (19, .invokestatic 64, 3)) rfl
  have k22 : decode b_Flex_shrink 22 = .ok (.lstore_n 3, 1) := pl_dc dd_Flex_shrink 13 (q := (22, .lstore_n 3, 1)) rfl
  have k23 : decode b_Flex_shrink 23 = .ok (.iload_n 2, 1) := pl_dc dd_Flex_shrink 14 (q := (23, .iload_n 2, 1)) rfl
  have k24 : decode b_Flex_shrink 24 = .ok (.ifCond .le 9, 3) := pl_dc dd_Flex_shrink 15 (q := (24, .ifCond .le 9, 3)) rfl
  have k27 : decode b_Flex_shrink 27 = .ok (.lload_n 3, 1) := pl_dc dd_Flex_shrink 16 (q := (27, .lload_n 3, 1)) rfl
  have k28 : decode b_Flex_shrink 28 = .ok (.lconst 0, 1) := pl_dc dd_Flex_shrink 17 (q := (28, .lconst 0, 1)) rfl
  have k29 : decode b_Flex_shrink 29 = .ok (.lcmp, 1) := pl_dc dd_Flex_shrink 18 (q := (29, .lcmp, 1)) rfl
  have k30 : decode b_Flex_shrink 30 = .ok (.ifCond .ne 4, 3) := pl_dc dd_Flex_shrink 19 (q := (30, .ifCond .ne 4, 3)) rfl
  have k33 : decode b_Flex_shrink 33 = .ok (.return_, 1) := pl_dc dd_Flex_shrink 20 (q := (33, .return_, 1)) rfl
  have k34 : decode b_Flex_shrink 34 = .ok (.aload_n 0, 1) := pl_dc dd_Flex_shrink 21 (q := (34, .aload_n 0, 1)) rfl
  have k35 : decode b_Flex_shrink 35 = .ok (.iload_n 2, 1) := pl_dc dd_Flex_shrink 22 (q := (35, .iload_n 2, 1)) rfl
  have k36 : decode b_Flex_shrink 36 = .ok (.lload_n 3, 1) := pl_dc dd_Flex_shrink 23 (q := (36, .lload_n 3, 1)) rfl
  have k37 : decode b_Flex_shrink 37 = .ok (.invokestatic 68, 3) := pl_dc dd_Flex_shrink 24 (q := (37, .invokestatic 68, 3)) rfl
  have k40 : decode b_Flex_shrink 40 = .ok (.ifCond .ne 10, 3) := pl_dc dd_Flex_shrink 25 (q := (40, .ifCond .ne 10, 3)) rfl
  have k43 : decode b_Flex_shrink 43 = .ok (.aload_n 0, 1) := pl_dc dd_Flex_shrink 26 (q := (43, .aload_n 0, 1)) rfl
  have k44 : decode b_Flex_shrink 44 = .ok (.iload_n 2, 1) := pl_dc dd_Flex_shrink 27 (q := (44, .iload_n 2, 1)) rfl
  have k45 : decode b_Flex_shrink 45 = .ok (.lload_n 3, 1) := pl_dc dd_Flex_shrink 28 (q := (45, .lload_n 3, 1)) rfl
  have k46 : decode b_Flex_shrink 46 = .ok (.invokestatic 72, 3) := pl_dc dd_Flex_shrink 29 (q := (46, .invokestatic 72, 3)) rfl
  have k49 : decode b_Flex_shrink 49 = .ok (.return_, 1) := pl_dc dd_Flex_shrink 30 (q := (49, .return_, 1)) rfl
  have k50 : decode b_Flex_shrink 50 = .ok (.iinc 1 1, 3) := pl_dc dd_Flex_shrink 31 (q := (50, .iinc 1 1, 3)) rfl
  have k53 : decode b_Flex_shrink 53 = .ok (.goto (-47), 3) := pl_dc dd_Flex_shrink 32 (q := (53, .goto (-47), 3)) rfl
  have k56 : decode b_Flex_shrink 56 = .ok (.return_, 1) := pl_dc dd_Flex_shrink 33 (q := (56, .return_, 1)) rfl
  exact (d_seq (p1 := 56) (d_seq (p1 := 4) (d_callS (p1 := 1) F (a_r_ok (p1 := 0) a_nil_ok (c_aload_n F k0 rfl)) (z_Flex_openChildren _) y_Flex_openChildren_ok lm_Flex_61 k1 r_Flex_openChildren (by decide)) (d_seq (p1 := 6) (d_istore_n (p1 := 5) F (c_iconst F k4 (by decide)) k5 rfl (hm 1 (by decide))) (d_while (p1 := 12) (p2 := 53) F (b_cmp_t (p1 := 7) (p2 := 9) (pj := 56) F (c_iload_n F k6 rfl) (c_bipush F k7 (by decide)) k9 (by decide)) (d_seq (p1 := 50) (d_seq (p1 := 18) (d_istore_n (p1 := 17) F (c_un (p1 := 16) (c_callS (p1 := 13) F (a_r_ok (p1 := 12) a_nil_ok (c_aload_n F k12 rfl)) (z_Flex_spaceLeft _) y_Flex_spaceLeft_ok lm_Flex_15 k13 r_Flex_spaceLeft (by decide) (by decide)) (j_ineg F k16)) k17 rfl (hm 2 (by decide))) (d_seq (p1 := 23) (d_lstore_n (p1 := 22) F (c_callS (p1 := 19) F (a_r_ok (p1 := 18) a_nil_ok (c_aload_n F k18 rfl)) (z_Flex_openWeight _) y_Flex_openWeight_ok lm_Flex_64 k19 r_Flex_openWeight (by decide) (by decide)) k22 rfl (hm 4 (by decide))) (d_seq (p1 := 34) (d_if (p1 := 33) (p2 := 34) (b_or_t (p1 := 27) (b_zero_f (p1 := 24) (pj := 33) F (c_iload_n F k23 rfl) k24 (by decide)) (b_lcmp_t (p1 := 28) (p2 := 29) (pj := 34) F (c_lload_n F k27 rfl) (c_lconst F k28 (by decide)) k29 k30 (by decide))) (d_retv F Fm.2.1 Fm.2.2.1 k33)) (d_if (p1 := 43) (p2 := 50) (b_not_t (b_zero_f (p1 := 40) (pj := 50) F (c_callS (p1 := 37) F (a_l_ok (p1 := 36) (a_i_ok (p1 := 35) (a_r_ok (p1 := 34) a_nil_ok (c_aload_n F k34 rfl)) (c_iload_n F k35 rfl)) (c_lload_n F k36 rfl)) (z_Flex_closeTooNarrow _) y_Flex_closeTooNarrow_ok lm_Flex_68 k37 r_Flex_closeTooNarrow (by decide) (by decide)) k40 (by decide))) (d_seq (p1 := 49) (d_callS (p1 := 46) F (a_l_ok (p1 := 45) (a_i_ok (p1 := 44) (a_r_ok (p1 := 43) a_nil_ok (c_aload_n F k43 rfl)) (c_iload_n F k44 rfl)) (c_lload_n F k45 rfl)) (z_Flex_narrowOpen _) y_Flex_narrowOpen_ok lm_Flex_72 k46 r_Flex_narrowOpen (by decide)) (d_retv F Fm.2.1 Fm.2.2.1 k49)))))) (d_iinc F k50 (by decide) (hm 1 (by decide)))) k53 (by decide)))) (d_retv F Fm.2.1 Fm.2.2.1 k56)))
def y_Flex_shareOut : MethodName := ⟨"PageLayouter$Flex", "shareOut", "(LPageLayouter$Box;)V"⟩
abbrev b_Flex_shareOut : ByteArray := prog_5_method_2_code
abbrev n_Flex_shareOut : Nat := 2
theorem y_Flex_shareOut_ok : pl_MS y_Flex_shareOut b_Flex_shareOut n_Flex_shareOut (Option.none : Option Jvm.ClassFile.FieldType) 1 := ⟨pl_mem 494 (by decide +kernel) (by decide +kernel), pl_mem 493 (by decide +kernel) (by decide +kernel), pl_mem 57 (by decide +kernel) (by decide +kernel), ⟨by decide, by decide, by decide +kernel⟩⟩
def D_Flex_shareOut : List (Nat × Instr × Nat) := [(0, .aload_n 0, 1), (1, .invokestatic 9, 3), (4, .aload_n 0, 1), (5, .invokestatic 15, 3), (8, .istore_n 1, 1), (9, .iload_n 1, 1), (10, .ifCond .le 11, 3), (13, .aload_n 0, 1), (14, .iload_n 1, 1), (15, .invokestatic 19, 3), (18, .goto 11, 3), (21, .iload_n 1, 1), (22, .ifCond .ge 7, 3), (25, .aload_n 0, 1), (26, .invokestatic 23, 3), (29, .return_, 1)]
theorem dd_Flex_shareOut : (D_Flex_shareOut.all fun q => decide (decode b_Flex_shareOut q.1 = .ok q.2)) = true := by decide +kernel
def t_Flex_shareOut : pl_TR := fun P _ _ => s_seq (s_seq (s_callS t_Flex_giveBases n_Flex_giveBases (a_r a_nil (e_locr 0))) (s_seq (s_seti 1 (e_callS Value.int t_Flex_spaceLeft n_Flex_spaceLeft (a_r a_nil (e_locr 0)))) (s_ife (b_zero .gt (e_loc 1)) (s_callS t_Flex_grow n_Flex_grow (a_i (a_r a_nil (e_locr 0)) (e_loc 1))) (s_if (b_zero .lt (e_loc 1)) (s_callS t_Flex_shrink n_Flex_shrink (a_r a_nil (e_locr 0))))))) (s_retv P)
theorem z_Flex_shareOut (l : Launch) : pl_Ctr l y_Flex_shareOut b_Flex_shareOut n_Flex_shareOut (Option.none : Option Jvm.ClassFile.FieldType) 5 106 0 0 false t_Flex_shareOut := pl_ctr_of (pe := 0) (by decide) (fun X Y P F Fm => by
  have F : pl_Fx X Y "PageLayouter$Flex" b_Flex_shareOut := F
  have r_Flex_giveBases : 2 + 1 ≤ (pl_xR X).frames ∧ 8 + (n_Flex_giveBases + 11) + 41 ≤ (pl_xR X).locals := ⟨Nat.le_trans (by decide) Fm.2.2.2.2.2.1, Nat.le_trans (by decide) Fm.2.2.2.2.2.2.1⟩
  have r_Flex_grow : 2 + 1 ≤ (pl_xR X).frames ∧ 8 + (n_Flex_grow + 11) + 41 ≤ (pl_xR X).locals := ⟨Nat.le_trans (by decide) Fm.2.2.2.2.2.1, Nat.le_trans (by decide) Fm.2.2.2.2.2.2.1⟩
  have r_Flex_shrink : 4 + 1 ≤ (pl_xR X).frames ∧ 8 + (n_Flex_shrink + 11) + 82 ≤ (pl_xR X).locals := ⟨Nat.le_trans (by decide) Fm.2.2.2.2.2.1, Nat.le_trans (by decide) Fm.2.2.2.2.2.2.1⟩
  have r_Flex_spaceLeft : 3 + 1 ≤ (pl_xR X).frames ∧ 8 + (n_Flex_spaceLeft + 11) + 60 ≤ (pl_xR X).locals := ⟨Nat.le_trans (by decide) Fm.2.2.2.2.2.1, Nat.le_trans (by decide) Fm.2.2.2.2.2.2.1⟩
  have hm : ∀ i, i < 2 → i < (pl_xc X).maxLocals := fun i h => by rw [Fm.2.2.2.1]; exact h
  have k0 : decode b_Flex_shareOut 0 = .ok (.aload_n 0, 1) := pl_dc dd_Flex_shareOut 0 (q := (0, .aload_n 0, 1)) rfl
  have k1 : decode b_Flex_shareOut 1 = .ok (.invokestatic 9, 3) := pl_dc dd_Flex_shareOut 1 (q := (1, .invokestatic 9, 3)) rfl
  have k4 : decode b_Flex_shareOut 4 = .ok (.aload_n 0, 1) := pl_dc dd_Flex_shareOut 2 (q := (4, .aload_n 0, 1)) rfl
  have k5 : decode b_Flex_shareOut 5 = .ok (.invokestatic 15, 3) := pl_dc dd_Flex_shareOut 3 (q := (5, .invokestatic 15, 3)) rfl
  have k8 : decode b_Flex_shareOut 8 = .ok (.istore_n 1, 1) := pl_dc dd_Flex_shareOut 4 (q := (8, .istore_n 1, 1)) rfl
  have k9 : decode b_Flex_shareOut 9 = .ok (.iload_n 1, 1) := pl_dc dd_Flex_shareOut 5 (q := (9, .iload_n 1, 1)) rfl
  have k10 : decode b_Flex_shareOut 10 = .ok (.ifCond .le 11, 3) := pl_dc dd_Flex_shareOut 6 (q := (10, .ifCond .le 11, 3)) rfl
  have k13 : decode b_Flex_shareOut 13 = .ok (.aload_n 0, 1) := pl_dc dd_Flex_shareOut 7 (q := (13, .aload_n 0, 1)) rfl
  have k14 : decode b_Flex_shareOut 14 = .ok (.iload_n 1, 1) := pl_dc dd_Flex_shareOut 8 (q := (14, .iload_n 1, 1)) rfl
  have k15 : decode b_Flex_shareOut 15 = .ok (.invokestatic 19, 3) := pl_dc dd_Flex_shareOut 9 (q := (15, .invokestatic 19, 3)) rfl
  have k18 : decode b_Flex_shareOut 18 = .ok (.goto 11, 3) := pl_dc dd_Flex_shareOut 10 (q := (18, .goto 11, 3)) rfl
  have k21 : decode b_Flex_shareOut 21 = .ok (.iload_n 1, 1) := pl_dc dd_Flex_shareOut 11 (q := (21, .iload_n 1, 1)) rfl
  have k22 : decode b_Flex_shareOut 22 = .ok (.ifCond .ge 7, 3) := pl_dc dd_Flex_shareOut 12 (q := (22, .ifCond .ge 7, 3)) rfl
  have k25 : decode b_Flex_shareOut 25 = .ok (.aload_n 0, 1) := pl_dc dd_Flex_shareOut 13 (q := (25, .aload_n 0, 1)) rfl
  have k26 : decode b_Flex_shareOut 26 = .ok (.invokestatic 23, 3) := pl_dc dd_Flex_shareOut 14 (q := (26, .invokestatic 23, 3)) rfl
  have k29 : decode b_Flex_shareOut 29 = .ok (.return_, 1) := pl_dc dd_Flex_shareOut 15 (q := (29, .return_, 1)) rfl
  exact (d_seq (p1 := 29) (d_seq (p1 := 4) (d_callS (p1 := 1) F (a_r_ok (p1 := 0) a_nil_ok (c_aload_n F k0 rfl)) (z_Flex_giveBases _) y_Flex_giveBases_ok lm_Flex_9 k1 r_Flex_giveBases (by decide)) (d_seq (p1 := 9) (d_istore_n (p1 := 8) F (c_callS (p1 := 5) F (a_r_ok (p1 := 4) a_nil_ok (c_aload_n F k4 rfl)) (z_Flex_spaceLeft _) y_Flex_spaceLeft_ok lm_Flex_15 k5 r_Flex_spaceLeft (by decide) (by decide)) k8 rfl (hm 1 (by decide))) (d_ife (p1 := 13) (p2 := 18) (p3 := 29) F (b_zero_t (p1 := 10) (pj := 21) F (c_iload_n F k9 rfl) k10 (by decide)) (d_callS (p1 := 15) F (a_i_ok (p1 := 14) (a_r_ok (p1 := 13) a_nil_ok (c_aload_n F k13 rfl)) (c_iload_n F k14 rfl)) (z_Flex_grow _) y_Flex_grow_ok lm_Flex_19 k15 r_Flex_grow (by decide)) k18 (by decide) (d_if (p1 := 25) (p2 := 29) (b_zero_t (p1 := 22) (pj := 29) F (c_iload_n F k21 rfl) k22 (by decide)) (d_callS (p1 := 26) F (a_r_ok (p1 := 25) a_nil_ok (c_aload_n F k25 rfl)) (z_Flex_shrink _) y_Flex_shrink_ok lm_Flex_23 k26 r_Flex_shrink (by decide)))))) (d_retv F Fm.2.1 Fm.2.2.1 k29)))
def y_Widths_ofFree : MethodName := ⟨"PageLayouter$Widths", "ofFree", "(LPageLayouter$Box;I)I"⟩
abbrev b_Widths_ofFree : ByteArray := prog_8_method_4_code
abbrev n_Widths_ofFree : Nat := 3
theorem y_Widths_ofFree_ok : pl_MS y_Widths_ofFree b_Widths_ofFree n_Widths_ofFree (Option.some Jvm.ClassFile.FieldType.int) 2 := ⟨pl_mem 557 (by decide +kernel) (by decide +kernel), pl_mem 556 (by decide +kernel) (by decide +kernel), pl_mem 56 (by decide +kernel) (by decide +kernel), ⟨by decide, by decide, by decide +kernel⟩⟩
def D_Widths_ofFree : List (Nat × Instr × Nat) := [(0, .aload_n 0, 1), (1, .iload_n 1, 1), (2, .invokestatic 32, 3), (5, .istore_n 2, 1), (6, .aload_n 0, 1), (7, .invokevirtual 38, 3), (10, .iconst (-1), 1), (11, .if_icmp .eq 5, 3), (14, .iload_n 2, 1), (15, .ireturn, 1), (16, .iload_n 2, 1), (17, .aload_n 0, 1), (18, .invokevirtual 61, 3), (21, .invokestatic 56, 3), (24, .aload_n 0, 1), (25, .invokevirtual 64, 3), (28, .invokestatic 67, 3), (31, .ireturn, 1)]
theorem dd_Widths_ofFree : (D_Widths_ofFree.all fun q => decide (decode b_Widths_ofFree q.1 = .ok q.2)) = true := by decide +kernel
def t_Widths_ofFree : pl_TR := fun P _ _ => s_seq (s_seti 2 (e_callS Value.int t_Widths_inParent n_Widths_inParent (a_i (a_r a_nil (e_locr 0)) (e_loc 1)))) (s_seq (s_if (b_cmp .ne (e_callV Value.int 1 t_Box_wantedWidth n_Box_wantedWidth (a_r a_nil (e_locr 0))) (e_int (-1))) (s_reti P (e_loc 2))) (s_reti P (e_bin pl_min (e_bin pl_max (e_loc 2) (e_callV Value.int 1 t_Box_leastWidth n_Box_leastWidth (a_r a_nil (e_locr 0)))) (e_callV Value.int 1 t_Box_mostWidth n_Box_mostWidth (a_r a_nil (e_locr 0))))))
theorem z_Widths_ofFree (l : Launch) : pl_Ctr l y_Widths_ofFree b_Widths_ofFree n_Widths_ofFree (Option.some Jvm.ClassFile.FieldType.int) 3 62 0 0 false t_Widths_ofFree := pl_ctr_of (pe := 0) (by decide) (fun X Y P F Fm => by
  have F : pl_Fx X Y "PageLayouter$Widths" b_Widths_ofFree := F
  have r_Box_leastWidth : 1 + 1 ≤ (pl_xR X).frames ∧ 8 + (n_Box_leastWidth + 11) + 20 ≤ (pl_xR X).locals := ⟨Nat.le_trans (by decide) Fm.2.2.2.2.2.1, Nat.le_trans (by decide) Fm.2.2.2.2.2.2.1⟩
  have r_Box_mostWidth : 1 + 1 ≤ (pl_xR X).frames ∧ 8 + (n_Box_mostWidth + 11) + 20 ≤ (pl_xR X).locals := ⟨Nat.le_trans (by decide) Fm.2.2.2.2.2.1, Nat.le_trans (by decide) Fm.2.2.2.2.2.2.1⟩
  have r_Box_wantedWidth : 0 + 1 ≤ (pl_xR X).frames ∧ 8 + (n_Box_wantedWidth + 11) + 0 ≤ (pl_xR X).locals := ⟨Nat.le_trans (by decide) Fm.2.2.2.2.2.1, Nat.le_trans (by decide) Fm.2.2.2.2.2.2.1⟩
  have r_Widths_inParent : 2 + 1 ≤ (pl_xR X).frames ∧ 8 + (n_Widths_inParent + 11) + 40 ≤ (pl_xR X).locals := ⟨Nat.le_trans (by decide) Fm.2.2.2.2.2.1, Nat.le_trans (by decide) Fm.2.2.2.2.2.2.1⟩
  have R0 : 1 ≤ (pl_xR X).frames ∧ 21 ≤ (pl_xR X).locals := ⟨Nat.le_trans (by decide) Fm.2.2.2.2.2.1, Nat.le_trans (by decide) Fm.2.2.2.2.2.2.1⟩
  have hm : ∀ i, i < 3 → i < (pl_xc X).maxLocals := fun i h => by rw [Fm.2.2.2.1]; exact h
  have k0 : decode b_Widths_ofFree 0 = .ok (.aload_n 0, 1) := pl_dc dd_Widths_ofFree 0 (q := (0, .aload_n 0, 1)) rfl
  have k1 : decode b_Widths_ofFree 1 = .ok (.iload_n 1, 1) := pl_dc dd_Widths_ofFree 1 (q := (1, .iload_n 1, 1)) rfl
  have k2 : decode b_Widths_ofFree 2 = .ok (.invokestatic 32, 3) := pl_dc dd_Widths_ofFree 2 (q := (2, .invokestatic 32, 3)) rfl
  have k5 : decode b_Widths_ofFree 5 = .ok (.istore_n 2, 1) := pl_dc dd_Widths_ofFree 3 (q := (5, .istore_n 2, 1)) rfl
  have k6 : decode b_Widths_ofFree 6 = .ok (.aload_n 0, 1) := pl_dc dd_Widths_ofFree 4 (q := (6, .aload_n 0, 1)) rfl
  have k7 : decode b_Widths_ofFree 7 = .ok (.invokevirtual 38, 3) := pl_dc dd_Widths_ofFree 5 (q := (7, .invokevirtual 38, 3)) rfl
  have k10 : decode b_Widths_ofFree 10 = .ok (.iconst (-1), 1) := pl_dc dd_Widths_ofFree 6 (q := (10, .iconst (-1), 1)) rfl
  have k11 : decode b_Widths_ofFree 11 = .ok (.if_icmp .eq 5, 3) := pl_dc dd_Widths_ofFree 7 (q := (11, .if_icmp .eq 5, 3)) rfl
  have k14 : decode b_Widths_ofFree 14 = .ok (.iload_n 2, 1) := pl_dc dd_Widths_ofFree 8 (q := (14, .iload_n 2, 1)) rfl
  have k15 : decode b_Widths_ofFree 15 = .ok (.ireturn, 1) := pl_dc dd_Widths_ofFree 9 (q := (15, .ireturn, 1)) rfl
  have k16 : decode b_Widths_ofFree 16 = .ok (.iload_n 2, 1) := pl_dc dd_Widths_ofFree 10 (q := (16, .iload_n 2, 1)) rfl
  have k17 : decode b_Widths_ofFree 17 = .ok (.aload_n 0, 1) := pl_dc dd_Widths_ofFree 11 (q := (17, .aload_n 0, 1)) rfl
  have k18 : decode b_Widths_ofFree 18 = .ok (.invokevirtual 61, 3) := pl_dc dd_Widths_ofFree 12 (q := (18, .invokevirtual 61, 3)) rfl
  have k21 : decode b_Widths_ofFree 21 = .ok (.invokestatic 56, 3) := pl_dc dd_Widths_ofFree 13 (q := (21, .invokestatic 56, 3)) rfl
  have k24 : decode b_Widths_ofFree 24 = .ok (.aload_n 0, 1) := pl_dc dd_Widths_ofFree 14 (q := (24, .aload_n 0, 1)) rfl
  have k25 : decode b_Widths_ofFree 25 = .ok (.invokevirtual 64, 3) := pl_dc dd_Widths_ofFree 15 (q := (25, .invokevirtual 64, 3)) rfl
  have k28 : decode b_Widths_ofFree 28 = .ok (.invokestatic 67, 3) := pl_dc dd_Widths_ofFree 16 (q := (28, .invokestatic 67, 3)) rfl
  have k31 : decode b_Widths_ofFree 31 = .ok (.ireturn, 1) := pl_dc dd_Widths_ofFree 17 (q := (31, .ireturn, 1)) rfl
  exact (d_seq (p1 := 6) (d_istore_n (p1 := 5) F (c_callS (p1 := 2) F (a_i_ok (p1 := 1) (a_r_ok (p1 := 0) a_nil_ok (c_aload_n F k0 rfl)) (c_iload_n F k1 rfl)) (z_Widths_inParent _) y_Widths_inParent_ok lm_Widths_32 k2 r_Widths_inParent (by decide) (by decide)) k5 rfl (hm 2 (by decide))) (d_seq (p1 := 16) (d_if (p1 := 14) (p2 := 16) (b_cmp_t (p1 := 10) (p2 := 11) (pj := 16) F (c_callV (p1 := 7) F (a_r_ok (p1 := 6) a_nil_ok (c_aload_n F k6 rfl)) (z_Box_wantedWidth _) y_Box_wantedWidth_ok lm_Widths_38 k7 r_Box_wantedWidth (by decide) (by decide)) (c_iconst F k10 (by decide)) k11 (by decide)) (d_reti (p1 := 15) F Fm.2.1 Fm.2.2.1 (c_iload_n F k14 rfl) k15)) (d_reti (p1 := 31) F Fm.2.1 Fm.2.2.1 (c_min (p1 := 24) (p2 := 28) F (c_max (p1 := 17) (p2 := 21) F (c_iload_n F k16 rfl) (c_callV (p1 := 18) F (a_r_ok (p1 := 17) a_nil_ok (c_aload_n F k17 rfl)) (z_Box_leastWidth _) y_Box_leastWidth_ok lm_Widths_61 k18 r_Box_leastWidth (by decide) (by decide)) k21 lm_Widths_56 hm_max R0 (by decide)) (c_callV (p1 := 25) F (a_r_ok (p1 := 24) a_nil_ok (c_aload_n F k24 rfl)) (z_Box_mostWidth _) y_Box_mostWidth_ok lm_Widths_64 k25 r_Box_mostWidth (by decide) (by decide)) k28 lm_Widths_67 hm_min R0 (by decide)) k31))))
def y_Widths_giveOneByOne : MethodName := ⟨"PageLayouter$Widths", "giveOneByOne", "(LPageLayouter$Box;)V"⟩
abbrev b_Widths_giveOneByOne : ByteArray := prog_8_method_2_code
abbrev n_Widths_giveOneByOne : Nat := 2
theorem y_Widths_giveOneByOne_ok : pl_MS y_Widths_giveOneByOne b_Widths_giveOneByOne n_Widths_giveOneByOne (Option.none : Option Jvm.ClassFile.FieldType) 1 := ⟨pl_mem 553 (by decide +kernel) (by decide +kernel), pl_mem 552 (by decide +kernel) (by decide +kernel), pl_mem 56 (by decide +kernel) (by decide +kernel), ⟨by decide, by decide, by decide +kernel⟩⟩
def D_Widths_giveOneByOne : List (Nat × Instr × Nat) := [(0, .aload_n 0, 1), (1, .getfield 9, 3), (4, .astore_n 1, 1), (5, .aload_n 1, 1), (6, .ifnull 52, 3), (9, .aload_n 1, 1), (10, .invokevirtual 15, 3), (13, .ifCond .eq 18, 3), (16, .aload_n 1, 1), (17, .aload_n 1, 1), (18, .aload_n 0, 1), (19, .getfield 19, 3), (22, .invokestatic 23, 3), (25, .putfield 19, 3), (28, .goto 22, 3), (31, .aload_n 0, 1), (32, .getfield 29, 3), (35, .ifCond .ne 15, 3), (38, .aload_n 1, 1), (39, .aload_n 1, 1), (40, .aload_n 0, 1), (41, .getfield 19, 3), (44, .invokestatic 32, 3), (47, .putfield 19, 3), (50, .aload_n 1, 1), (51, .getfield 35, 3), (54, .astore_n 1, 1), (55, .goto (-50), 3), (58, .return_, 1)]
theorem dd_Widths_giveOneByOne : (D_Widths_giveOneByOne.all fun q => decide (decode b_Widths_giveOneByOne q.1 = .ok q.2)) = true := by decide +kernel
def t_Widths_giveOneByOne : pl_TR := fun P _ _ => s_seq (s_seq (s_setr 1 (e_getr 1 5 (e_locr 0))) (s_while (b_nn (e_locr 1)) (s_seq (s_ife (b_zero .ne (e_callV Value.int 1 t_Box_isFree n_Box_isFree (a_r a_nil (e_locr 1)))) (s_puti 1 14 (e_locr 1) (e_callS Value.int t_Widths_ofFree n_Widths_ofFree (a_i (a_r a_nil (e_locr 1)) (e_geti 1 14 (e_locr 0))))) (s_if (b_zero .eq (e_geti 1 8 (e_locr 0))) (s_puti 1 14 (e_locr 1) (e_callS Value.int t_Widths_inParent n_Widths_inParent (a_i (a_r a_nil (e_locr 1)) (e_geti 1 14 (e_locr 0))))))) (s_setr 1 (e_getr 1 7 (e_locr 1)))))) (s_retv P)
theorem z_Widths_giveOneByOne (l : Launch) : pl_Ctr l y_Widths_giveOneByOne b_Widths_giveOneByOne n_Widths_giveOneByOne (Option.none : Option Jvm.ClassFile.FieldType) 4 84 0 0 false t_Widths_giveOneByOne := pl_ctr_of (pe := 0) (by decide) (fun X Y P F Fm => by
  have F : pl_Fx X Y "PageLayouter$Widths" b_Widths_giveOneByOne := F
  have r_Box_isFree : 0 + 1 ≤ (pl_xR X).frames ∧ 8 + (n_Box_isFree + 11) + 0 ≤ (pl_xR X).locals := ⟨Nat.le_trans (by decide) Fm.2.2.2.2.2.1, Nat.le_trans (by decide) Fm.2.2.2.2.2.2.1⟩
  have r_Widths_inParent : 2 + 1 ≤ (pl_xR X).frames ∧ 8 + (n_Widths_inParent + 11) + 40 ≤ (pl_xR X).locals := ⟨Nat.le_trans (by decide) Fm.2.2.2.2.2.1, Nat.le_trans (by decide) Fm.2.2.2.2.2.2.1⟩
  have r_Widths_ofFree : 3 + 1 ≤ (pl_xR X).frames ∧ 8 + (n_Widths_ofFree + 11) + 62 ≤ (pl_xR X).locals := ⟨Nat.le_trans (by decide) Fm.2.2.2.2.2.1, Nat.le_trans (by decide) Fm.2.2.2.2.2.2.1⟩
  have hm : ∀ i, i < 2 → i < (pl_xc X).maxLocals := fun i h => by rw [Fm.2.2.2.1]; exact h
  have k0 : decode b_Widths_giveOneByOne 0 = .ok (.aload_n 0, 1) := pl_dc dd_Widths_giveOneByOne 0 (q := (0, .aload_n 0, 1)) rfl
  have k1 : decode b_Widths_giveOneByOne 1 = .ok (.getfield 9, 3) := pl_dc dd_Widths_giveOneByOne 1 (q := (1, .getfield 9, 3)) rfl
  have k4 : decode b_Widths_giveOneByOne 4 = .ok (.astore_n 1, 1) := pl_dc dd_Widths_giveOneByOne 2 (q := (4, .astore_n 1, 1)) rfl
  have k5 : decode b_Widths_giveOneByOne 5 = .ok (.aload_n 1, 1) := pl_dc dd_Widths_giveOneByOne 3 (q := (5, .aload_n 1, 1)) rfl
  have k6 : decode b_Widths_giveOneByOne 6 = .ok (.ifnull 52, 3) := pl_dc dd_Widths_giveOneByOne 4 (q := (6, .ifnull 52, 3)) rfl
  have k9 : decode b_Widths_giveOneByOne 9 = .ok (.aload_n 1, 1) := pl_dc dd_Widths_giveOneByOne 5 (q := (9, .aload_n 1, 1)) rfl
  have k10 : decode b_Widths_giveOneByOne 10 = .ok (.invokevirtual 15, 3) := pl_dc dd_Widths_giveOneByOne 6 (q := (10, .invokevirtual 15, 3)) rfl
  have k13 : decode b_Widths_giveOneByOne 13 = .ok (.ifCond .eq 18, 3) := pl_dc dd_Widths_giveOneByOne 7 (q := (13, .ifCond .eq 18, 3)) rfl
  have k16 : decode b_Widths_giveOneByOne 16 = .ok (.aload_n 1, 1) := pl_dc dd_Widths_giveOneByOne 8 (q := (16, .aload_n 1, 1)) rfl
  have k17 : decode b_Widths_giveOneByOne 17 = .ok (.aload_n 1, 1) := pl_dc dd_Widths_giveOneByOne 9 (q := (17, .aload_n 1, 1)) rfl
  have k18 : decode b_Widths_giveOneByOne 18 = .ok (.aload_n 0, 1) := pl_dc dd_Widths_giveOneByOne 10 (q := (18, .aload_n 0, 1)) rfl
  have k19 : decode b_Widths_giveOneByOne 19 = .ok (.getfield 19, 3) := pl_dc dd_Widths_giveOneByOne 11 (q := (19, .getfield 19, 3)) rfl
  have k22 : decode b_Widths_giveOneByOne 22 = .ok (.invokestatic 23, 3) := pl_dc dd_Widths_giveOneByOne 12 (q := (22, .invokestatic 23, 3)) rfl
  have k25 : decode b_Widths_giveOneByOne 25 = .ok (.putfield 19, 3) := pl_dc dd_Widths_giveOneByOne 13 (q := (25, .putfield 19, 3)) rfl
  have k28 : decode b_Widths_giveOneByOne 28 = .ok (.goto 22, 3) := pl_dc dd_Widths_giveOneByOne 14 (q := (28, .goto 22, 3)) rfl
  have k31 : decode b_Widths_giveOneByOne 31 = .ok (.aload_n 0, 1) := pl_dc dd_Widths_giveOneByOne 15 (q := (31, .aload_n 0, 1)) rfl
  have k32 : decode b_Widths_giveOneByOne 32 = .ok (.getfield 29, 3) := pl_dc dd_Widths_giveOneByOne 16 (q := (32, .getfield 29, 3)) rfl
  have k35 : decode b_Widths_giveOneByOne 35 = .ok (.ifCond .ne 15, 3) := pl_dc dd_Widths_giveOneByOne 17 (q := (35, .ifCond .ne 15, 3)) rfl
  have k38 : decode b_Widths_giveOneByOne 38 = .ok (.aload_n 1, 1) := pl_dc dd_Widths_giveOneByOne 18 (q := (38, .aload_n 1, 1)) rfl
  have k39 : decode b_Widths_giveOneByOne 39 = .ok (.aload_n 1, 1) := pl_dc dd_Widths_giveOneByOne 19 (q := (39, .aload_n 1, 1)) rfl
  have k40 : decode b_Widths_giveOneByOne 40 = .ok (.aload_n 0, 1) := pl_dc dd_Widths_giveOneByOne 20 (q := (40, .aload_n 0, 1)) rfl
  have k41 : decode b_Widths_giveOneByOne 41 = .ok (.getfield 19, 3) := pl_dc dd_Widths_giveOneByOne 21 (q := (41, .getfield 19, 3)) rfl
  have k44 : decode b_Widths_giveOneByOne 44 = .ok (.invokestatic 32, 3) := pl_dc dd_Widths_giveOneByOne 22 (q := (44, .invokestatic 32, 3)) rfl
  have k47 : decode b_Widths_giveOneByOne 47 = .ok (.putfield 19, 3) := pl_dc dd_Widths_giveOneByOne 23 (q := (47, .putfield 19, 3)) rfl
  have k50 : decode b_Widths_giveOneByOne 50 = .ok (.aload_n 1, 1) := pl_dc dd_Widths_giveOneByOne 24 (q := (50, .aload_n 1, 1)) rfl
  have k51 : decode b_Widths_giveOneByOne 51 = .ok (.getfield 35, 3) := pl_dc dd_Widths_giveOneByOne 25 (q := (51, .getfield 35, 3)) rfl
  have k54 : decode b_Widths_giveOneByOne 54 = .ok (.astore_n 1, 1) := pl_dc dd_Widths_giveOneByOne 26 (q := (54, .astore_n 1, 1)) rfl
  have k55 : decode b_Widths_giveOneByOne 55 = .ok (.goto (-50), 3) := pl_dc dd_Widths_giveOneByOne 27 (q := (55, .goto (-50), 3)) rfl
  have k58 : decode b_Widths_giveOneByOne 58 = .ok (.return_, 1) := pl_dc dd_Widths_giveOneByOne 28 (q := (58, .return_, 1)) rfl
  exact (d_seq (p1 := 58) (d_seq (p1 := 5) (d_astore_n (p1 := 4) F (c_getr (p1 := 1) F 1 5 hg_1_5 (c_aload_n F k0 rfl) k1 lf_Widths_9) k4 rfl (hm 1 (by decide))) (d_while (p1 := 9) (p2 := 55) F (b_nn_t (p1 := 6) (pj := 58) F (c_aload_n F k5 rfl) k6 (by decide)) (d_seq (p1 := 50) (d_ife (p1 := 16) (p2 := 28) (p3 := 50) F (b_zero_t (p1 := 13) (pj := 31) F (c_callV (p1 := 10) F (a_r_ok (p1 := 9) a_nil_ok (c_aload_n F k9 rfl)) (z_Box_isFree _) y_Box_isFree_ok lm_Widths_15 k10 r_Box_isFree (by decide) (by decide)) k13 (by decide)) (d_puti (p1 := 17) (p2 := 25) F 1 14 hp_1_14 (c_aload_n F k16 rfl) (c_callS (p1 := 22) F (a_i_ok (p1 := 18) (a_r_ok (p1 := 17) a_nil_ok (c_aload_n F k17 rfl)) (c_geti (p1 := 19) F 1 14 hg_1_14 (c_aload_n F k18 rfl) k19 lf_Widths_19)) (z_Widths_ofFree _) y_Widths_ofFree_ok lm_Widths_23 k22 r_Widths_ofFree (by decide) (by decide)) k25 lf_Widths_19) k28 (by decide) (d_if (p1 := 38) (p2 := 50) (b_zero_t (p1 := 35) (pj := 50) F (c_geti (p1 := 32) F 1 8 hg_1_8 (c_aload_n F k31 rfl) k32 lf_Widths_29) k35 (by decide)) (d_puti (p1 := 39) (p2 := 47) F 1 14 hp_1_14 (c_aload_n F k38 rfl) (c_callS (p1 := 44) F (a_i_ok (p1 := 40) (a_r_ok (p1 := 39) a_nil_ok (c_aload_n F k39 rfl)) (c_geti (p1 := 41) F 1 14 hg_1_14 (c_aload_n F k40 rfl) k41 lf_Widths_19)) (z_Widths_inParent _) y_Widths_inParent_ok lm_Widths_32 k44 r_Widths_inParent (by decide) (by decide)) k47 lf_Widths_19))) (d_astore_n (p1 := 54) F (c_getr (p1 := 51) F 1 7 hg_1_7 (c_aload_n F k50 rfl) k51 lf_Widths_35) k54 rfl (hm 1 (by decide)))) k55 (by decide))) (d_retv F Fm.2.1 Fm.2.2.1 k58)))
def y_Box_wantedHeight : MethodName := ⟨"PageLayouter$Box", "wantedHeight", "()I"⟩
abbrev b_Box_wantedHeight : ByteArray := prog_2_method_11_code
abbrev n_Box_wantedHeight : Nat := 1
theorem y_Box_wantedHeight_ok : pl_MV 1 y_Box_wantedHeight b_Box_wantedHeight n_Box_wantedHeight (Option.some Jvm.ClassFile.FieldType.int) 0 := ⟨pl_mem 572 (by decide +kernel) (by decide +kernel), pl_mem 570 (by decide +kernel) (by decide +kernel), pl_mem 571 (by decide +kernel) (by decide +kernel), pl_mem 45 (by decide +kernel) (by decide +kernel), ⟨by decide, by decide, by decide +kernel⟩, _, rfl, rfl⟩
def D_Box_wantedHeight : List (Nat × Instr × Nat) := [(0, .aload_n 0, 1), (1, .getfield 37, 3), (4, .iconst 3, 1), (5, .if_icmp .ne 7, 3), (8, .iconst (-1), 1), (9, .goto 9, 3), (12, .aload_n 0, 1), (13, .getfield 34, 3), (16, .iconst 1, 1), (17, .iaload, 1), (18, .ireturn, 1)]
theorem dd_Box_wantedHeight : (D_Box_wantedHeight.all fun q => decide (decode b_Box_wantedHeight q.1 = .ok q.2)) = true := by decide +kernel
def t_Box_wantedHeight : pl_TR := fun P _ _ => s_reti P (e_if (b_cmp .eq (e_geti 1 8 (e_locr 0)) (e_int 3)) (e_int (-1)) (e_ald 1 (e_getr 1 4 (e_locr 0)) (e_int 1)))
theorem z_Box_wantedHeight (l : Launch) : pl_Ctr l y_Box_wantedHeight b_Box_wantedHeight n_Box_wantedHeight (Option.some Jvm.ClassFile.FieldType.int) 0 0 0 0 false t_Box_wantedHeight := pl_ctr_of (pe := 0) (by decide) (fun X Y P F Fm => by
  have F : pl_Fx X Y "PageLayouter$Box" b_Box_wantedHeight := F
  have k0 : decode b_Box_wantedHeight 0 = .ok (.aload_n 0, 1) := pl_dc dd_Box_wantedHeight 0 (q := (0, .aload_n 0, 1)) rfl
  have k1 : decode b_Box_wantedHeight 1 = .ok (.getfield 37, 3) := pl_dc dd_Box_wantedHeight 1 (q := (1, .getfield 37, 3)) rfl
  have k4 : decode b_Box_wantedHeight 4 = .ok (.iconst 3, 1) := pl_dc dd_Box_wantedHeight 2 (q := (4, .iconst 3, 1)) rfl
  have k5 : decode b_Box_wantedHeight 5 = .ok (.if_icmp .ne 7, 3) := pl_dc dd_Box_wantedHeight 3 (q := (5, .if_icmp .ne 7, 3)) rfl
  have k8 : decode b_Box_wantedHeight 8 = .ok (.iconst (-1), 1) := pl_dc dd_Box_wantedHeight 4 (q := (8, .iconst (-1), 1)) rfl
  have k9 : decode b_Box_wantedHeight 9 = .ok (.goto 9, 3) := pl_dc dd_Box_wantedHeight 5 (q := (9, .goto 9, 3)) rfl
  have k12 : decode b_Box_wantedHeight 12 = .ok (.aload_n 0, 1) := pl_dc dd_Box_wantedHeight 6 (q := (12, .aload_n 0, 1)) rfl
  have k13 : decode b_Box_wantedHeight 13 = .ok (.getfield 34, 3) := pl_dc dd_Box_wantedHeight 7 (q := (13, .getfield 34, 3)) rfl
  have k16 : decode b_Box_wantedHeight 16 = .ok (.iconst 1, 1) := pl_dc dd_Box_wantedHeight 8 (q := (16, .iconst 1, 1)) rfl
  have k17 : decode b_Box_wantedHeight 17 = .ok (.iaload, 1) := pl_dc dd_Box_wantedHeight 9 (q := (17, .iaload, 1)) rfl
  have k18 : decode b_Box_wantedHeight 18 = .ok (.ireturn, 1) := pl_dc dd_Box_wantedHeight 10 (q := (18, .ireturn, 1)) rfl
  exact (d_reti (p1 := 18) F Fm.2.1 Fm.2.2.1 (c_if (p1 := 8) (p2 := 9) (p3 := 18) F (b_cmp_t (p1 := 4) (p2 := 5) (pj := 12) F (c_geti (p1 := 1) F 1 8 hg_1_8 (c_aload_n F k0 rfl) k1 lf_Box_37) (c_iconst F k4 (by decide)) k5 (by decide)) (c_iconst F k8 (by decide)) k9 (by decide) (c_iald (p1 := 16) (p2 := 17) F (c_getr (p1 := 13) F 1 4 hg_1_4 (c_aload_n F k12 rfl) k13 lf_Box_34) (c_iconst F k16 (by decide)) k17)) k18))
def y_Heights_fix : MethodName := ⟨"PageLayouter$Heights", "fix", "(LPageLayouter$Box;I)V"⟩
abbrev b_Heights_fix : ByteArray := prog_6_method_2_code
abbrev n_Heights_fix : Nat := 4
theorem y_Heights_fix_ok : pl_MS y_Heights_fix b_Heights_fix n_Heights_fix (Option.none : Option Jvm.ClassFile.FieldType) 2 := ⟨pl_mem 568 (by decide +kernel) (by decide +kernel), pl_mem 567 (by decide +kernel) (by decide +kernel), pl_mem 59 (by decide +kernel) (by decide +kernel), ⟨by decide, by decide, by decide +kernel⟩⟩
def D_Heights_fix : List (Nat × Instr × Nat) := [(0, .aload_n 0, 1), (1, .getfield 9, 3), (4, .ifnonnull 7, 3), (7, .iload_n 1, 1), (8, .goto 10, 3), (11, .aload_n 0, 1), (12, .getfield 9, 3), (15, .getfield 15, 3), (18, .istore_n 2, 1), (19, .aload_n 0, 1), (20, .invokevirtual 19, 3), (23, .istore_n 3, 1), (24, .iload_n 3, 1), (25, .invokestatic 23, 3), (28, .ifCond .eq 11, 3), (31, .aload_n 0, 1), (32, .iload_n 3, 1), (33, .putfield 15, 3), (36, .goto 32, 3), (39, .iload_n 3, 1), (40, .invokestatic 27, 3), (43, .ifCond .eq 20, 3), (46, .iload_n 2, 1), (47, .iconst (-1), 1), (48, .if_icmp .eq 15, 3), (51, .aload_n 0, 1), (52, .iload_n 2, 1), (53, .iload_n 3, 1), (54, .invokestatic 30, 3), (57, .putfield 15, 3), (60, .goto 8, 3), (63, .aload_n 0, 1), (64, .iconst (-1), 1), (65, .putfield 15, 3), (68, .return_, 1)]
theorem dd_Heights_fix : (D_Heights_fix.all fun q => decide (decode b_Heights_fix q.1 = .ok q.2)) = true := by decide +kernel
def t_Heights_fix : pl_TR := fun P _ _ => s_seq (s_seq (s_seti 2 (e_if (b_null (e_getr 1 1 (e_locr 0))) (e_loc 1) (e_geti 1 15 (e_getr 1 1 (e_locr 0))))) (s_seq (s_seti 3 (e_callV Value.int 1 t_Box_wantedHeight n_Box_wantedHeight (a_r a_nil (e_locr 0)))) (s_ife (b_zero .ne (e_callS Value.int t_Pl_isSize n_Pl_isSize (a_i a_nil (e_loc 3)))) (s_puti 1 15 (e_locr 0) (e_loc 3)) (s_ife (b_and (b_zero .ne (e_callS Value.int t_Pl_isPercent n_Pl_isPercent (a_i a_nil (e_loc 3)))) (b_cmp .ne (e_loc 2) (e_int (-1)))) (s_puti 1 15 (e_locr 0) (e_callS Value.int t_Pl_percentOf n_Pl_percentOf (a_i (a_i a_nil (e_loc 2)) (e_loc 3)))) (s_puti 1 15 (e_locr 0) (e_int (-1))))))) (s_retv P)
theorem z_Heights_fix (l : Launch) : pl_Ctr l y_Heights_fix b_Heights_fix n_Heights_fix (Option.none : Option Jvm.ClassFile.FieldType) 1 21 0 0 false t_Heights_fix := pl_ctr_of (pe := 0) (by decide) (fun X Y P F Fm => by
  have F : pl_Fx X Y "PageLayouter$Heights" b_Heights_fix := F
  have r_Box_wantedHeight : 0 + 1 ≤ (pl_xR X).frames ∧ 8 + (n_Box_wantedHeight + 11) + 0 ≤ (pl_xR X).locals := ⟨Nat.le_trans (by decide) Fm.2.2.2.2.2.1, Nat.le_trans (by decide) Fm.2.2.2.2.2.2.1⟩
  have r_Pl_isPercent : 0 + 1 ≤ (pl_xR X).frames ∧ 8 + (n_Pl_isPercent + 11) + 0 ≤ (pl_xR X).locals := ⟨Nat.le_trans (by decide) Fm.2.2.2.2.2.1, Nat.le_trans (by decide) Fm.2.2.2.2.2.2.1⟩
  have r_Pl_isSize : 0 + 1 ≤ (pl_xR X).frames ∧ 8 + (n_Pl_isSize + 11) + 0 ≤ (pl_xR X).locals := ⟨Nat.le_trans (by decide) Fm.2.2.2.2.2.1, Nat.le_trans (by decide) Fm.2.2.2.2.2.2.1⟩
  have r_Pl_percentOf : 0 + 1 ≤ (pl_xR X).frames ∧ 8 + (n_Pl_percentOf + 11) + 0 ≤ (pl_xR X).locals := ⟨Nat.le_trans (by decide) Fm.2.2.2.2.2.1, Nat.le_trans (by decide) Fm.2.2.2.2.2.2.1⟩
  have hm : ∀ i, i < 4 → i < (pl_xc X).maxLocals := fun i h => by rw [Fm.2.2.2.1]; exact h
  have k0 : decode b_Heights_fix 0 = .ok (.aload_n 0, 1) := pl_dc dd_Heights_fix 0 (q := (0, .aload_n 0, 1)) rfl
  have k1 : decode b_Heights_fix 1 = .ok (.getfield 9, 3) := pl_dc dd_Heights_fix 1 (q := (1, .getfield 9, 3)) rfl
  have k4 : decode b_Heights_fix 4 = .ok (.ifnonnull 7, 3) := pl_dc dd_Heights_fix 2 (q := (4, .ifnonnull 7, 3)) rfl
  have k7 : decode b_Heights_fix 7 = .ok (.iload_n 1, 1) := pl_dc dd_Heights_fix 3 (q := (7, .iload_n 1, 1)) rfl
  have k8 : decode b_Heights_fix 8 = .ok (.goto 10, 3) := pl_dc dd_Heights_fix 4 (q := (8, .goto 10, 3)) rfl
  have k11 : decode b_Heights_fix 11 = .ok (.aload_n 0, 1) := pl_dc dd_Heights_fix 5 (q := (11, .aload_n 0, 1)) rfl
  have k12 : decode b_Heights_fix 12 = .ok (.getfield 9, 3) := pl_dc dd_Heights_fix 6 (q := (12, .getfield 9, 3)) rfl
  have k15 : decode b_Heights_fix 15 = .ok (.getfield 15, 3) := pl_dc dd_Heights_fix 7 (q := (15, .getfield 15, 3)) rfl
  have k18 : decode b_Heights_fix 18 = .ok (.istore_n 2, 1) := pl_dc dd_Heights_fix 8 (q := (18, .istore_n 2, 1)) rfl
  have k19 : decode b_Heights_fix 19 = .ok (.aload_n 0, 1) := pl_dc dd_Heights_fix 9 (q := (19, .aload_n 0, 1)) rfl
  have k20 : decode b_Heights_fix 20 = .ok (.invokevirtual 19, 3) := pl_dc dd_Heights_fix 10 (q := (20, .invokevirtual 19, 3)) rfl
  have k23 : decode b_Heights_fix 23 = .ok (.istore_n 3, 1) := pl_dc dd_Heights_fix 11 (q := (23, .istore_n 3, 1)) rfl
  have k24 : decode b_Heights_fix 24 = .ok (.iload_n 3, 1) := pl_dc dd_Heights_fix 12 (q := (24, .iload_n 3, 1)) rfl
  have k25 : decode b_Heights_fix 25 = .ok (.invokestatic 23, 3) := pl_dc dd_Heights_fix 13 (q := (25, .invokestatic 23, 3)) rfl
  have k28 : decode b_Heights_fix 28 = .ok (.ifCond .eq 11, 3) := pl_dc dd_Heights_fix 14 (q := (28, .ifCond .eq 11, 3)) rfl
  have k31 : decode b_Heights_fix 31 = .ok (.aload_n 0, 1) := pl_dc dd_Heights_fix 15 (q := (31, .aload_n 0, 1)) rfl
  have k32 : decode b_Heights_fix 32 = .ok (.iload_n 3, 1) := pl_dc dd_Heights_fix 16 (q := (32, .iload_n 3, 1)) rfl
  have k33 : decode b_Heights_fix 33 = .ok (.putfield 15, 3) := pl_dc dd_Heights_fix 17 (q := (33, .putfield 15, 3)) rfl
  have k36 : decode b_Heights_fix 36 = .ok (.goto 32, 3) := pl_dc dd_Heights_fix 18 (q := (36, .goto 32, 3)) rfl
  have k39 : decode b_Heights_fix 39 = .ok (.iload_n 3, 1) := pl_dc dd_Heights_fix 19 (q := (39, .iload_n 3, 1)) rfl
  have k40 : decode b_Heights_fix 40 = .ok (.invokestatic 27, 3) := pl_dc dd_Heights_fix 20 (q := (40, .invokestatic 27, 3)) rfl
  have k43 : decode b_Heights_fix 43 = .ok (.ifCond .eq 20, 3) := pl_dc dd_Heights_fix 21 (q := (43, .ifCond .eq 20, 3)) rfl
  have k46 : decode b_Heights_fix 46 = .ok (.iload_n 2, 1) := pl_dc dd_Heights_fix 22 (q := (46, .iload_n 2, 1)) rfl
  have k47 : decode b_Heights_fix 47 = .ok (.iconst (-1), 1) := pl_dc dd_Heights_fix 23 (q := (47, .iconst (-1), 1)) rfl
  have k48 : decode b_Heights_fix 48 = .ok (.if_icmp .eq 15, 3) := pl_dc dd_Heights_fix 24 (q := (48, .if_icmp .eq 15, 3)) rfl
  have k51 : decode b_Heights_fix 51 = .ok (.aload_n 0, 1) := pl_dc dd_Heights_fix 25 (q := (51, .aload_n 0, 1)) rfl
  have k52 : decode b_Heights_fix 52 = .ok (.iload_n 2, 1) := pl_dc dd_Heights_fix 26 (q := (52, .iload_n 2, 1)) rfl
  have k53 : decode b_Heights_fix 53 = .ok (.iload_n 3, 1) := pl_dc dd_Heights_fix 27 (q := (53, .iload_n 3, 1)) rfl
  have k54 : decode b_Heights_fix 54 = .ok (.invokestatic 30, 3) := pl_dc dd_Heights_fix 28 (q := (54, .invokestatic 30, 3)) rfl
  have k57 : decode b_Heights_fix 57 = .ok (.putfield 15, 3) := pl_dc dd_Heights_fix 29 (q := (57, .putfield 15, 3)) rfl
  have k60 : decode b_Heights_fix 60 = .ok (.goto 8, 3) := pl_dc dd_Heights_fix 30 (q := (60, .goto 8, 3)) rfl
  have k63 : decode b_Heights_fix 63 = .ok (.aload_n 0, 1) := pl_dc dd_Heights_fix 31 (q := (63, .aload_n 0, 1)) rfl
  have k64 : decode b_Heights_fix 64 = .ok (.iconst (-1), 1) := pl_dc dd_Heights_fix 32 (q := (64, .iconst (-1), 1)) rfl
  have k65 : decode b_Heights_fix 65 = .ok (.putfield 15, 3) := pl_dc dd_Heights_fix 33 (q := (65, .putfield 15, 3)) rfl
  have k68 : decode b_Heights_fix 68 = .ok (.return_, 1) := pl_dc dd_Heights_fix 34 (q := (68, .return_, 1)) rfl
  exact (d_seq (p1 := 68) (d_seq (p1 := 19) (d_istore_n (p1 := 18) F (c_if (p1 := 7) (p2 := 8) (p3 := 18) F (b_null_t (p1 := 4) (pj := 11) F (c_getr (p1 := 1) F 1 1 hg_1_1 (c_aload_n F k0 rfl) k1 lf_Heights_9) k4 (by decide)) (c_iload_n F k7 rfl) k8 (by decide) (c_geti (p1 := 15) F 1 15 hg_1_15 (c_getr (p1 := 12) F 1 1 hg_1_1 (c_aload_n F k11 rfl) k12 lf_Heights_9) k15 lf_Heights_15)) k18 rfl (hm 2 (by decide))) (d_seq (p1 := 24) (d_istore_n (p1 := 23) F (c_callV (p1 := 20) F (a_r_ok (p1 := 19) a_nil_ok (c_aload_n F k19 rfl)) (z_Box_wantedHeight _) y_Box_wantedHeight_ok lm_Heights_19 k20 r_Box_wantedHeight (by decide) (by decide)) k23 rfl (hm 3 (by decide))) (d_ife (p1 := 31) (p2 := 36) (p3 := 68) F (b_zero_t (p1 := 28) (pj := 39) F (c_callSN (p1 := 25) F (a_i_ok (p1 := 24) a_nil_ok (c_iload_n F k24 rfl)) (z_Pl_isSize _) y_Pl_isSize_ok ln_Heights_23 k25 r_Pl_isSize (by decide) (by decide)) k28 (by decide)) (d_puti (p1 := 32) (p2 := 33) F 1 15 hp_1_15 (c_aload_n F k31 rfl) (c_iload_n F k32 rfl) k33 lf_Heights_15) k36 (by decide) (d_ife (p1 := 51) (p2 := 60) (p3 := 68) F (b_and_t (p1 := 46) (b_zero_t (p1 := 43) (pj := 63) F (c_callSN (p1 := 40) F (a_i_ok (p1 := 39) a_nil_ok (c_iload_n F k39 rfl)) (z_Pl_isPercent _) y_Pl_isPercent_ok ln_Heights_27 k40 r_Pl_isPercent (by decide) (by decide)) k43 (by decide)) (b_cmp_t (p1 := 47) (p2 := 48) (pj := 63) F (c_iload_n F k46 rfl) (c_iconst F k47 (by decide)) k48 (by decide))) (d_puti (p1 := 52) (p2 := 57) F 1 15 hp_1_15 (c_aload_n F k51 rfl) (c_callSN (p1 := 54) F (a_i_ok (p1 := 53) (a_i_ok (p1 := 52) a_nil_ok (c_iload_n F k52 rfl)) (c_iload_n F k53 rfl)) (z_Pl_percentOf _) y_Pl_percentOf_ok ln_Heights_30 k54 r_Pl_percentOf (by decide) (by decide)) k57 lf_Heights_15) k60 (by decide) (d_puti (p1 := 64) (p2 := 65) F 1 15 hp_1_15 (c_aload_n F k63 rfl) (c_iconst F k64 (by decide)) k65 lf_Heights_15))))) (d_retv F Fm.2.1 Fm.2.2.1 k68)))
def y_Heights_ofLines : MethodName := ⟨"PageLayouter$Heights", "ofLines", "(LPageLayouter$Box;)I"⟩
abbrev b_Heights_ofLines : ByteArray := prog_6_method_5_code
abbrev n_Heights_ofLines : Nat := 2
theorem y_Heights_ofLines_ok : pl_MS y_Heights_ofLines b_Heights_ofLines n_Heights_ofLines (Option.some Jvm.ClassFile.FieldType.int) 1 := ⟨pl_mem 585 (by decide +kernel) (by decide +kernel), pl_mem 584 (by decide +kernel) (by decide +kernel), pl_mem 59 (by decide +kernel) (by decide +kernel), ⟨by decide, by decide, by decide +kernel⟩⟩
def D_Heights_ofLines : List (Nat × Instr × Nat) := [(0, .iconst 1, 1), (1, .aload_n 0, 1), (2, .getfield 63, 3), (5, .iconst 1, 1), (6, .iadd, 1), (7, .aload_n 0, 1), (8, .getfield 66, 3), (11, .bipush 7, 2), (13, .iaload, 1), (14, .iconst 1, 1), (15, .iadd, 1), (16, .idiv, 1), (17, .invokestatic 70, 3), (20, .istore_n 1, 1), (21, .bipush 10, 2), (23, .aload_n 0, 1), (24, .getfield 66, 3), (27, .bipush 6, 2), (29, .iaload, 1), (30, .iload_n 1, 1), (31, .iadd, 1), (32, .iconst 1, 1), (33, .isub, 1), (34, .iload_n 1, 1), (35, .idiv, 1), (36, .imul, 1), (37, .ireturn, 1)]
theorem dd_Heights_ofLines : (D_Heights_ofLines.all fun q => decide (decode b_Heights_ofLines q.1 = .ok q.2)) = true := by decide +kernel
def t_Heights_ofLines : pl_TR := fun P _ _ => s_seq (s_seti 1 (e_bin pl_max (e_int 1) (e_div (e_bin (fun x y : Int32 => x + y) (e_geti 1 14 (e_locr 0)) (e_int 1)) (e_bin (fun x y : Int32 => x + y) (e_ald 1 (e_getr 1 4 (e_locr 0)) (e_int 7)) (e_int 1))))) (s_reti P (e_bin (fun x y : Int32 => x * y) (e_int 10) (e_div (e_bin (fun x y : Int32 => x - y) (e_bin (fun x y : Int32 => x + y) (e_ald 1 (e_getr 1 4 (e_locr 0)) (e_int 6)) (e_loc 1)) (e_int 1)) (e_loc 1))))
theorem z_Heights_ofLines (l : Launch) : pl_Ctr l y_Heights_ofLines b_Heights_ofLines n_Heights_ofLines (Option.some Jvm.ClassFile.FieldType.int) 1 21 0 0 false t_Heights_ofLines := pl_ctr_of (pe := 0) (by decide) (fun X Y P F Fm => by
  have F : pl_Fx X Y "PageLayouter$Heights" b_Heights_ofLines := F
  have R0 : 1 ≤ (pl_xR X).frames ∧ 21 ≤ (pl_xR X).locals := ⟨Nat.le_trans (by decide) Fm.2.2.2.2.2.1, Nat.le_trans (by decide) Fm.2.2.2.2.2.2.1⟩
  have hm : ∀ i, i < 2 → i < (pl_xc X).maxLocals := fun i h => by rw [Fm.2.2.2.1]; exact h
  have k0 : decode b_Heights_ofLines 0 = .ok (.iconst 1, 1) := pl_dc dd_Heights_ofLines 0 (q := (0, .iconst 1, 1)) rfl
  have k1 : decode b_Heights_ofLines 1 = .ok (.aload_n 0, 1) := pl_dc dd_Heights_ofLines 1 (q := (1, .aload_n 0, 1)) rfl
  have k2 : decode b_Heights_ofLines 2 = .ok (.getfield 63, 3) := pl_dc dd_Heights_ofLines 2 (q := (2, .getfield 63, 3)) rfl
  have k5 : decode b_Heights_ofLines 5 = .ok (.iconst 1, 1) := pl_dc dd_Heights_ofLines 3 (q := (5, .iconst 1, 1)) rfl
  have k6 : decode b_Heights_ofLines 6 = .ok (.iadd, 1) := pl_dc dd_Heights_ofLines 4 (q := (6, .iadd, 1)) rfl
  have k7 : decode b_Heights_ofLines 7 = .ok (.aload_n 0, 1) := pl_dc dd_Heights_ofLines 5 (q := (7, .aload_n 0, 1)) rfl
  have k8 : decode b_Heights_ofLines 8 = .ok (.getfield 66, 3) := pl_dc dd_Heights_ofLines 6 (q := (8, .getfield 66, 3)) rfl
  have k11 : decode b_Heights_ofLines 11 = .ok (.bipush 7, 2) := pl_dc dd_Heights_ofLines 7 (q := (11, .bipush 7, 2)) rfl
  have k13 : decode b_Heights_ofLines 13 = .ok (.iaload, 1) := pl_dc dd_Heights_ofLines 8 (q := (13, .iaload, 1)) rfl
  have k14 : decode b_Heights_ofLines 14 = .ok (.iconst 1, 1) := pl_dc dd_Heights_ofLines 9 (q := (14, .iconst 1, 1)) rfl
  have k15 : decode b_Heights_ofLines 15 = .ok (.iadd, 1) := pl_dc dd_Heights_ofLines 10 (q := (15, .iadd, 1)) rfl
  have k16 : decode b_Heights_ofLines 16 = .ok (.idiv, 1) := pl_dc dd_Heights_ofLines 11 (q := (16, .idiv, 1)) rfl
  have k17 : decode b_Heights_ofLines 17 = .ok (.invokestatic 70, 3) := pl_dc dd_Heights_ofLines 12 (q := (17, .invokestatic 70, 3)) rfl
  have k20 : decode b_Heights_ofLines 20 = .ok (.istore_n 1, 1) := pl_dc dd_Heights_ofLines 13 (q := (20, .istore_n 1, 1)) rfl
  have k21 : decode b_Heights_ofLines 21 = .ok (.bipush 10, 2) := pl_dc dd_Heights_ofLines 14 (q := (21, .bipush 10, 2)) rfl
  have k23 : decode b_Heights_ofLines 23 = .ok (.aload_n 0, 1) := pl_dc dd_Heights_ofLines 15 (q := (23, .aload_n 0, 1)) rfl
  have k24 : decode b_Heights_ofLines 24 = .ok (.getfield 66, 3) := pl_dc dd_Heights_ofLines 16 (q := (24, .getfield 66, 3)) rfl
  have k27 : decode b_Heights_ofLines 27 = .ok (.bipush 6, 2) := pl_dc dd_Heights_ofLines 17 (q := (27, .bipush 6, 2)) rfl
  have k29 : decode b_Heights_ofLines 29 = .ok (.iaload, 1) := pl_dc dd_Heights_ofLines 18 (q := (29, .iaload, 1)) rfl
  have k30 : decode b_Heights_ofLines 30 = .ok (.iload_n 1, 1) := pl_dc dd_Heights_ofLines 19 (q := (30, .iload_n 1, 1)) rfl
  have k31 : decode b_Heights_ofLines 31 = .ok (.iadd, 1) := pl_dc dd_Heights_ofLines 20 (q := (31, .iadd, 1)) rfl
  have k32 : decode b_Heights_ofLines 32 = .ok (.iconst 1, 1) := pl_dc dd_Heights_ofLines 21 (q := (32, .iconst 1, 1)) rfl
  have k33 : decode b_Heights_ofLines 33 = .ok (.isub, 1) := pl_dc dd_Heights_ofLines 22 (q := (33, .isub, 1)) rfl
  have k34 : decode b_Heights_ofLines 34 = .ok (.iload_n 1, 1) := pl_dc dd_Heights_ofLines 23 (q := (34, .iload_n 1, 1)) rfl
  have k35 : decode b_Heights_ofLines 35 = .ok (.idiv, 1) := pl_dc dd_Heights_ofLines 24 (q := (35, .idiv, 1)) rfl
  have k36 : decode b_Heights_ofLines 36 = .ok (.imul, 1) := pl_dc dd_Heights_ofLines 25 (q := (36, .imul, 1)) rfl
  have k37 : decode b_Heights_ofLines 37 = .ok (.ireturn, 1) := pl_dc dd_Heights_ofLines 26 (q := (37, .ireturn, 1)) rfl
  exact (d_seq (p1 := 21) (d_istore_n (p1 := 20) F (c_max (p1 := 1) (p2 := 17) F (c_iconst F k0 (by decide)) (c_div (p1 := 7) (p2 := 16) F (c_bin 1 (p1 := 5) (p2 := 6) (c_geti (p1 := 2) F 1 14 hg_1_14 (c_aload_n F k1 rfl) k2 lf_Heights_63) (c_iconst F k5 (by decide)) pl_c1 (j_iadd F k6)) (c_bin 1 (p1 := 14) (p2 := 15) (c_iald (p1 := 11) (p2 := 13) F (c_getr (p1 := 8) F 1 4 hg_1_4 (c_aload_n F k7 rfl) k8 lf_Heights_66) (c_bipush F k11 (by decide)) k13) (c_iconst F k14 (by decide)) pl_c1 (j_iadd F k15)) k16) k17 lm_Heights_70 hm_max R0 (by decide)) k20 rfl (hm 1 (by decide))) (d_reti (p1 := 37) F Fm.2.1 Fm.2.2.1 (c_bin 1 (p1 := 23) (p2 := 36) (c_bipush F k21 (by decide)) (c_div (p1 := 34) (p2 := 35) F (c_bin 1 (p1 := 32) (p2 := 33) (c_bin 1 (p1 := 30) (p2 := 31) (c_iald (p1 := 27) (p2 := 29) F (c_getr (p1 := 24) F 1 4 hg_1_4 (c_aload_n F k23 rfl) k24 lf_Heights_66) (c_bipush F k27 (by decide)) k29) (c_iload_n F k30 rfl) pl_c1 (j_iadd F k31)) (c_iconst F k32 (by decide)) pl_c1 (j_isub F k33)) (c_iload_n F k34 rfl) k35) pl_c1 (j_imul F k36)) k37)))
def y_Box_roomHeight : MethodName := ⟨"PageLayouter$Box", "roomHeight", "()I"⟩
abbrev b_Box_roomHeight : ByteArray := prog_2_method_18_code
abbrev n_Box_roomHeight : Nat := 1
theorem y_Box_roomHeight_ok : pl_MV 1 y_Box_roomHeight b_Box_roomHeight n_Box_roomHeight (Option.some Jvm.ClassFile.FieldType.int) 0 := ⟨pl_mem 593 (by decide +kernel) (by decide +kernel), pl_mem 591 (by decide +kernel) (by decide +kernel), pl_mem 592 (by decide +kernel) (by decide +kernel), pl_mem 45 (by decide +kernel) (by decide +kernel), ⟨by decide, by decide, by decide +kernel⟩, _, rfl, rfl⟩
def D_Box_roomHeight : List (Nat × Instr × Nat) := [(0, .aload_n 0, 1), (1, .getfield 80, 3), (4, .aload_n 0, 1), (5, .invokevirtual 83, 3), (8, .iadd, 1), (9, .ireturn, 1)]
theorem dd_Box_roomHeight : (D_Box_roomHeight.all fun q => decide (decode b_Box_roomHeight q.1 = .ok q.2)) = true := by decide +kernel
def t_Box_roomHeight : pl_TR := fun P _ _ => s_reti P (e_bin (fun x y : Int32 => x + y) (e_geti 1 16 (e_locr 0)) (e_callV Value.int 1 t_Box_edges n_Box_edges (a_r a_nil (e_locr 0))))
theorem z_Box_roomHeight (l : Launch) : pl_Ctr l y_Box_roomHeight b_Box_roomHeight n_Box_roomHeight (Option.some Jvm.ClassFile.FieldType.int) 2 40 0 0 false t_Box_roomHeight := pl_ctr_of (pe := 0) (by decide) (fun X Y P F Fm => by
  have F : pl_Fx X Y "PageLayouter$Box" b_Box_roomHeight := F
  have r_Box_edges : 1 + 1 ≤ (pl_xR X).frames ∧ 8 + (n_Box_edges + 11) + 20 ≤ (pl_xR X).locals := ⟨Nat.le_trans (by decide) Fm.2.2.2.2.2.1, Nat.le_trans (by decide) Fm.2.2.2.2.2.2.1⟩
  have k0 : decode b_Box_roomHeight 0 = .ok (.aload_n 0, 1) := pl_dc dd_Box_roomHeight 0 (q := (0, .aload_n 0, 1)) rfl
  have k1 : decode b_Box_roomHeight 1 = .ok (.getfield 80, 3) := pl_dc dd_Box_roomHeight 1 (q := (1, .getfield 80, 3)) rfl
  have k4 : decode b_Box_roomHeight 4 = .ok (.aload_n 0, 1) := pl_dc dd_Box_roomHeight 2 (q := (4, .aload_n 0, 1)) rfl
  have k5 : decode b_Box_roomHeight 5 = .ok (.invokevirtual 83, 3) := pl_dc dd_Box_roomHeight 3 (q := (5, .invokevirtual 83, 3)) rfl
  have k8 : decode b_Box_roomHeight 8 = .ok (.iadd, 1) := pl_dc dd_Box_roomHeight 4 (q := (8, .iadd, 1)) rfl
  have k9 : decode b_Box_roomHeight 9 = .ok (.ireturn, 1) := pl_dc dd_Box_roomHeight 5 (q := (9, .ireturn, 1)) rfl
  exact (d_reti (p1 := 9) F Fm.2.1 Fm.2.2.1 (c_bin 1 (p1 := 4) (p2 := 8) (c_geti (p1 := 1) F 1 16 hg_1_16 (c_aload_n F k0 rfl) k1 lf_Box_80) (c_callV (p1 := 5) F (a_r_ok (p1 := 4) a_nil_ok (c_aload_n F k4 rfl)) (z_Box_edges _) y_Box_edges_ok lm_Box_83 k5 r_Box_edges (by decide) (by decide)) pl_c1 (j_iadd F k8)) k9))
def y_Heights_greatestRoom : MethodName := ⟨"PageLayouter$Heights", "greatestRoom", "(LPageLayouter$Box;)I"⟩
abbrev b_Heights_greatestRoom : ByteArray := prog_6_method_6_code
abbrev n_Heights_greatestRoom : Nat := 3
theorem y_Heights_greatestRoom_ok : pl_MS y_Heights_greatestRoom b_Heights_greatestRoom n_Heights_greatestRoom (Option.some Jvm.ClassFile.FieldType.int) 1 := ⟨pl_mem 589 (by decide +kernel) (by decide +kernel), pl_mem 588 (by decide +kernel) (by decide +kernel), pl_mem 59 (by decide +kernel) (by decide +kernel), ⟨by decide, by decide, by decide +kernel⟩⟩
def D_Heights_greatestRoom : List (Nat × Instr × Nat) := [(0, .iconst 0, 1), (1, .istore_n 1, 1), (2, .aload_n 0, 1), (3, .invokevirtual 50, 3), (6, .astore_n 2, 1), (7, .aload_n 2, 1), (8, .ifnull 20, 3), (11, .iload_n 1, 1), (12, .aload_n 2, 1), (13, .invokevirtual 75, 3), (16, .invokestatic 70, 3), (19, .istore_n 1, 1), (20, .aload_n 2, 1), (21, .invokevirtual 78, 3), (24, .astore_n 2, 1), (25, .goto (-18), 3), (28, .iload_n 1, 1), (29, .ireturn, 1)]
theorem dd_Heights_greatestRoom : (D_Heights_greatestRoom.all fun q => decide (decode b_Heights_greatestRoom q.1 = .ok q.2)) = true := by decide +kernel
def t_Heights_greatestRoom : pl_TR := fun P _ _ => s_seq (s_seti 1 (e_int 0)) (s_seq (s_seq (s_setr 2 (e_callV id 1 t_Box_firstInFlow n_Box_firstInFlow (a_r a_nil (e_locr 0)))) (s_while (b_nn (e_locr 2)) (s_seq (s_seti 1 (e_bin pl_max (e_loc 1) (e_callV Value.int 1 t_Box_roomHeight n_Box_roomHeight (a_r a_nil (e_locr 2))))) (s_setr 2 (e_callV id 1 t_Box_nextInFlow n_Box_nextInFlow (a_r a_nil (e_locr 2))))))) (s_reti P (e_loc 1)))
theorem z_Heights_greatestRoom (l : Launch) : pl_Ctr l y_Heights_greatestRoom b_Heights_greatestRoom n_Heights_greatestRoom (Option.some Jvm.ClassFile.FieldType.int) 3 60 0 0 false t_Heights_greatestRoom := pl_ctr_of (pe := 0) (by decide) (fun X Y P F Fm => by
  have F : pl_Fx X Y "PageLayouter$Heights" b_Heights_greatestRoom := F
  have r_Box_firstInFlow : 1 + 1 ≤ (pl_xR X).frames ∧ 8 + (n_Box_firstInFlow + 11) + 20 ≤ (pl_xR X).locals := ⟨Nat.le_trans (by decide) Fm.2.2.2.2.2.1, Nat.le_trans (by decide) Fm.2.2.2.2.2.2.1⟩
  have r_Box_nextInFlow : 1 + 1 ≤ (pl_xR X).frames ∧ 8 + (n_Box_nextInFlow + 11) + 20 ≤ (pl_xR X).locals := ⟨Nat.le_trans (by decide) Fm.2.2.2.2.2.1, Nat.le_trans (by decide) Fm.2.2.2.2.2.2.1⟩
  have r_Box_roomHeight : 2 + 1 ≤ (pl_xR X).frames ∧ 8 + (n_Box_roomHeight + 11) + 40 ≤ (pl_xR X).locals := ⟨Nat.le_trans (by decide) Fm.2.2.2.2.2.1, Nat.le_trans (by decide) Fm.2.2.2.2.2.2.1⟩
  have R0 : 1 ≤ (pl_xR X).frames ∧ 21 ≤ (pl_xR X).locals := ⟨Nat.le_trans (by decide) Fm.2.2.2.2.2.1, Nat.le_trans (by decide) Fm.2.2.2.2.2.2.1⟩
  have hm : ∀ i, i < 3 → i < (pl_xc X).maxLocals := fun i h => by rw [Fm.2.2.2.1]; exact h
  have k0 : decode b_Heights_greatestRoom 0 = .ok (.iconst 0, 1) := pl_dc dd_Heights_greatestRoom 0 (q := (0, .iconst 0, 1)) rfl
  have k1 : decode b_Heights_greatestRoom 1 = .ok (.istore_n 1, 1) := pl_dc dd_Heights_greatestRoom 1 (q := (1, .istore_n 1, 1)) rfl
  have k2 : decode b_Heights_greatestRoom 2 = .ok (.aload_n 0, 1) := pl_dc dd_Heights_greatestRoom 2 (q := (2, .aload_n 0, 1)) rfl
  have k3 : decode b_Heights_greatestRoom 3 = .ok (.invokevirtual 50, 3) := pl_dc dd_Heights_greatestRoom 3 (q := (3, .invokevirtual 50, 3)) rfl
  have k6 : decode b_Heights_greatestRoom 6 = .ok (.astore_n 2, 1) := pl_dc dd_Heights_greatestRoom 4 (q := (6, .astore_n 2, 1)) rfl
  have k7 : decode b_Heights_greatestRoom 7 = .ok (.aload_n 2, 1) := pl_dc dd_Heights_greatestRoom 5 (q := (7, .aload_n 2, 1)) rfl
  have k8 : decode b_Heights_greatestRoom 8 = .ok (.ifnull 20, 3) := pl_dc dd_Heights_greatestRoom 6 (q := (8, .ifnull 20, 3)) rfl
  have k11 : decode b_Heights_greatestRoom 11 = .ok (.iload_n 1, 1) := pl_dc dd_Heights_greatestRoom 7 (q := (11, .iload_n 1, 1)) rfl
  have k12 : decode b_Heights_greatestRoom 12 = .ok (.aload_n 2, 1) := pl_dc dd_Heights_greatestRoom 8 (q := (12, .aload_n 2, 1)) rfl
  have k13 : decode b_Heights_greatestRoom 13 = .ok (.invokevirtual 75, 3) := pl_dc dd_Heights_greatestRoom 9 (q := (13, .invokevirtual 75, 3)) rfl
  have k16 : decode b_Heights_greatestRoom 16 = .ok (.invokestatic 70, 3) := pl_dc dd_Heights_greatestRoom 10 (q := (16, .invokestatic 70, 3)) rfl
  have k19 : decode b_Heights_greatestRoom 19 = .ok (.istore_n 1, 1) := pl_dc dd_Heights_greatestRoom 11 (q := (19, .istore_n 1, 1)) rfl
  have k20 : decode b_Heights_greatestRoom 20 = .ok (.aload_n 2, 1) := pl_dc dd_Heights_greatestRoom 12 (q := (20, .aload_n 2, 1)) rfl
  have k21 : decode b_Heights_greatestRoom 21 = .ok (.invokevirtual 78, 3) := pl_dc dd_Heights_greatestRoom 13 (q := (21, .invokevirtual 78, 3)) rfl
  have k24 : decode b_Heights_greatestRoom 24 = .ok (.astore_n 2, 1) := pl_dc dd_Heights_greatestRoom 14 (q := (24, .astore_n 2, 1)) rfl
  have k25 : decode b_Heights_greatestRoom 25 = .ok (.goto (-18), 3) := pl_dc dd_Heights_greatestRoom 15 (q := (25, .goto (-18), 3)) rfl
  have k28 : decode b_Heights_greatestRoom 28 = .ok (.iload_n 1, 1) := pl_dc dd_Heights_greatestRoom 16 (q := (28, .iload_n 1, 1)) rfl
  have k29 : decode b_Heights_greatestRoom 29 = .ok (.ireturn, 1) := pl_dc dd_Heights_greatestRoom 17 (q := (29, .ireturn, 1)) rfl
  exact (d_seq (p1 := 2) (d_istore_n (p1 := 1) F (c_iconst F k0 (by decide)) k1 rfl (hm 1 (by decide))) (d_seq (p1 := 28) (d_seq (p1 := 7) (d_astore_n (p1 := 6) F (c_callV (p1 := 3) F (a_r_ok (p1 := 2) a_nil_ok (c_aload_n F k2 rfl)) (z_Box_firstInFlow _) y_Box_firstInFlow_ok lm_Heights_50 k3 r_Box_firstInFlow (by decide) (by decide)) k6 rfl (hm 2 (by decide))) (d_while (p1 := 11) (p2 := 25) F (b_nn_t (p1 := 8) (pj := 28) F (c_aload_n F k7 rfl) k8 (by decide)) (d_seq (p1 := 20) (d_istore_n (p1 := 19) F (c_max (p1 := 12) (p2 := 16) F (c_iload_n F k11 rfl) (c_callV (p1 := 13) F (a_r_ok (p1 := 12) a_nil_ok (c_aload_n F k12 rfl)) (z_Box_roomHeight _) y_Box_roomHeight_ok lm_Heights_75 k13 r_Box_roomHeight (by decide) (by decide)) k16 lm_Heights_70 hm_max R0 (by decide)) k19 rfl (hm 1 (by decide))) (d_astore_n (p1 := 24) F (c_callV (p1 := 21) F (a_r_ok (p1 := 20) a_nil_ok (c_aload_n F k20 rfl)) (z_Box_nextInFlow _) y_Box_nextInFlow_ok lm_Heights_78 k21 r_Box_nextInFlow (by decide) (by decide)) k24 rfl (hm 2 (by decide)))) k25 (by decide))) (d_reti (p1 := 29) F Fm.2.1 Fm.2.2.1 (c_iload_n F k28 rfl) k29))))
def y_Box_frameHeight : MethodName := ⟨"PageLayouter$Box", "frameHeight", "()I"⟩
abbrev b_Box_frameHeight : ByteArray := prog_2_method_16_code
abbrev n_Box_frameHeight : Nat := 1
theorem y_Box_frameHeight_ok : pl_MV 1 y_Box_frameHeight b_Box_frameHeight n_Box_frameHeight (Option.some Jvm.ClassFile.FieldType.int) 0 := ⟨pl_mem 602 (by decide +kernel) (by decide +kernel), pl_mem 600 (by decide +kernel) (by decide +kernel), pl_mem 601 (by decide +kernel) (by decide +kernel), pl_mem 45 (by decide +kernel) (by decide +kernel), ⟨by decide, by decide, by decide +kernel⟩, _, rfl, rfl⟩
def D_Box_frameHeight : List (Nat × Instr × Nat) := [(0, .aload_n 0, 1), (1, .getfield 80, 3), (4, .iconst 2, 1), (5, .aload_n 0, 1), (6, .invokevirtual 71, 3), (9, .imul, 1), (10, .iadd, 1), (11, .ireturn, 1)]
theorem dd_Box_frameHeight : (D_Box_frameHeight.all fun q => decide (decode b_Box_frameHeight q.1 = .ok q.2)) = true := by decide +kernel
def t_Box_frameHeight : pl_TR := fun P _ _ => s_reti P (e_bin (fun x y : Int32 => x + y) (e_geti 1 16 (e_locr 0)) (e_bin (fun x y : Int32 => x * y) (e_int 2) (e_callV Value.int 1 t_Box_padding n_Box_padding (a_r a_nil (e_locr 0)))))
theorem z_Box_frameHeight (l : Launch) : pl_Ctr l y_Box_frameHeight b_Box_frameHeight n_Box_frameHeight (Option.some Jvm.ClassFile.FieldType.int) 1 20 0 0 false t_Box_frameHeight := pl_ctr_of (pe := 0) (by decide) (fun X Y P F Fm => by
  have F : pl_Fx X Y "PageLayouter$Box" b_Box_frameHeight := F
  have r_Box_padding : 0 + 1 ≤ (pl_xR X).frames ∧ 8 + (n_Box_padding + 11) + 0 ≤ (pl_xR X).locals := ⟨Nat.le_trans (by decide) Fm.2.2.2.2.2.1, Nat.le_trans (by decide) Fm.2.2.2.2.2.2.1⟩
  have k0 : decode b_Box_frameHeight 0 = .ok (.aload_n 0, 1) := pl_dc dd_Box_frameHeight 0 (q := (0, .aload_n 0, 1)) rfl
  have k1 : decode b_Box_frameHeight 1 = .ok (.getfield 80, 3) := pl_dc dd_Box_frameHeight 1 (q := (1, .getfield 80, 3)) rfl
  have k4 : decode b_Box_frameHeight 4 = .ok (.iconst 2, 1) := pl_dc dd_Box_frameHeight 2 (q := (4, .iconst 2, 1)) rfl
  have k5 : decode b_Box_frameHeight 5 = .ok (.aload_n 0, 1) := pl_dc dd_Box_frameHeight 3 (q := (5, .aload_n 0, 1)) rfl
  have k6 : decode b_Box_frameHeight 6 = .ok (.invokevirtual 71, 3) := pl_dc dd_Box_frameHeight 4 (q := (6, .invokevirtual 71, 3)) rfl
  have k9 : decode b_Box_frameHeight 9 = .ok (.imul, 1) := pl_dc dd_Box_frameHeight 5 (q := (9, .imul, 1)) rfl
  have k10 : decode b_Box_frameHeight 10 = .ok (.iadd, 1) := pl_dc dd_Box_frameHeight 6 (q := (10, .iadd, 1)) rfl
  have k11 : decode b_Box_frameHeight 11 = .ok (.ireturn, 1) := pl_dc dd_Box_frameHeight 7 (q := (11, .ireturn, 1)) rfl
  exact (d_reti (p1 := 11) F Fm.2.1 Fm.2.2.1 (c_bin 1 (p1 := 4) (p2 := 10) (c_geti (p1 := 1) F 1 16 hg_1_16 (c_aload_n F k0 rfl) k1 lf_Box_80) (c_bin 1 (p1 := 5) (p2 := 9) (c_iconst F k4 (by decide)) (c_callV (p1 := 6) F (a_r_ok (p1 := 5) a_nil_ok (c_aload_n F k5 rfl)) (z_Box_padding _) y_Box_padding_ok lm_Box_71 k6 r_Box_padding (by decide) (by decide)) pl_c1 (j_imul F k9)) pl_c1 (j_iadd F k10)) k11))
def y_Heights_ofStack : MethodName := ⟨"PageLayouter$Heights", "ofStack", "(LPageLayouter$Box;)I"⟩
abbrev b_Heights_ofStack : ByteArray := prog_6_method_7_code
abbrev n_Heights_ofStack : Nat := 4
theorem y_Heights_ofStack_ok : pl_MS y_Heights_ofStack b_Heights_ofStack n_Heights_ofStack (Option.some Jvm.ClassFile.FieldType.int) 1 := ⟨pl_mem 597 (by decide +kernel) (by decide +kernel), pl_mem 596 (by decide +kernel) (by decide +kernel), pl_mem 59 (by decide +kernel) (by decide +kernel), ⟨by decide, by decide, by decide +kernel⟩⟩
def D_Heights_ofStack : List (Nat × Instr × Nat) := [(0, .iconst 0, 1), (1, .istore_n 1, 1), (2, .iconst 0, 1), (3, .istore_n 2, 1), (4, .aload_n 0, 1), (5, .invokevirtual 50, 3), (8, .astore_n 3, 1), (9, .aload_n 3, 1), (10, .ifnull 32, 3), (13, .iload_n 1, 1), (14, .iload_n 2, 1), (15, .aload_n 3, 1), (16, .invokevirtual 81, 3), (19, .invokestatic 70, 3), (22, .aload_n 3, 1), (23, .invokevirtual 84, 3), (26, .iadd, 1), (27, .iadd, 1), (28, .istore_n 1, 1), (29, .aload_n 3, 1), (30, .invokevirtual 81, 3), (33, .istore_n 2, 1), (34, .aload_n 3, 1), (35, .invokevirtual 78, 3), (38, .astore_n 3, 1), (39, .goto (-30), 3), (42, .iload_n 1, 1), (43, .iload_n 2, 1), (44, .iadd, 1), (45, .ireturn, 1)]
theorem dd_Heights_ofStack : (D_Heights_ofStack.all fun q => decide (decode b_Heights_ofStack q.1 = .ok q.2)) = true := by decide +kernel
def t_Heights_ofStack : pl_TR := fun P _ _ => s_seq (s_seti 1 (e_int 0)) (s_seq (s_seti 2 (e_int 0)) (s_seq (s_seq (s_setr 3 (e_callV id 1 t_Box_firstInFlow n_Box_firstInFlow (a_r a_nil (e_locr 0)))) (s_while (b_nn (e_locr 3)) (s_seq (s_seq (s_seti 1 (e_bin (fun x y : Int32 => x + y) (e_loc 1) (e_bin (fun x y : Int32 => x + y) (e_bin pl_max (e_loc 2) (e_callV Value.int 1 t_Box_margin n_Box_margin (a_r a_nil (e_locr 3)))) (e_callV Value.int 1 t_Box_frameHeight n_Box_frameHeight (a_r a_nil (e_locr 3)))))) (s_seti 2 (e_callV Value.int 1 t_Box_margin n_Box_margin (a_r a_nil (e_locr 3))))) (s_setr 3 (e_callV id 1 t_Box_nextInFlow n_Box_nextInFlow (a_r a_nil (e_locr 3))))))) (s_reti P (e_bin (fun x y : Int32 => x + y) (e_loc 1) (e_loc 2)))))
theorem z_Heights_ofStack (l : Launch) : pl_Ctr l y_Heights_ofStack b_Heights_ofStack n_Heights_ofStack (Option.some Jvm.ClassFile.FieldType.int) 2 41 0 0 false t_Heights_ofStack := pl_ctr_of (pe := 0) (by decide) (fun X Y P F Fm => by
  have F : pl_Fx X Y "PageLayouter$Heights" b_Heights_ofStack := F
  have r_Box_firstInFlow : 1 + 1 ≤ (pl_xR X).frames ∧ 8 + (n_Box_firstInFlow + 11) + 20 ≤ (pl_xR X).locals := ⟨Nat.le_trans (by decide) Fm.2.2.2.2.2.1, Nat.le_trans (by decide) Fm.2.2.2.2.2.2.1⟩
  have r_Box_frameHeight : 1 + 1 ≤ (pl_xR X).frames ∧ 8 + (n_Box_frameHeight + 11) + 20 ≤ (pl_xR X).locals := ⟨Nat.le_trans (by decide) Fm.2.2.2.2.2.1, Nat.le_trans (by decide) Fm.2.2.2.2.2.2.1⟩
  have r_Box_margin : 0 + 1 ≤ (pl_xR X).frames ∧ 8 + (n_Box_margin + 11) + 0 ≤ (pl_xR X).locals := ⟨Nat.le_trans (by decide) Fm.2.2.2.2.2.1, Nat.le_trans (by decide) Fm.2.2.2.2.2.2.1⟩
  have r_Box_nextInFlow : 1 + 1 ≤ (pl_xR X).frames ∧ 8 + (n_Box_nextInFlow + 11) + 20 ≤ (pl_xR X).locals := ⟨Nat.le_trans (by decide) Fm.2.2.2.2.2.1, Nat.le_trans (by decide) Fm.2.2.2.2.2.2.1⟩
  have R0 : 1 ≤ (pl_xR X).frames ∧ 21 ≤ (pl_xR X).locals := ⟨Nat.le_trans (by decide) Fm.2.2.2.2.2.1, Nat.le_trans (by decide) Fm.2.2.2.2.2.2.1⟩
  have hm : ∀ i, i < 4 → i < (pl_xc X).maxLocals := fun i h => by rw [Fm.2.2.2.1]; exact h
  have k0 : decode b_Heights_ofStack 0 = .ok (.iconst 0, 1) := pl_dc dd_Heights_ofStack 0 (q := (0, .iconst 0, 1)) rfl
  have k1 : decode b_Heights_ofStack 1 = .ok (.istore_n 1, 1) := pl_dc dd_Heights_ofStack 1 (q := (1, .istore_n 1, 1)) rfl
  have k2 : decode b_Heights_ofStack 2 = .ok (.iconst 0, 1) := pl_dc dd_Heights_ofStack 2 (q := (2, .iconst 0, 1)) rfl
  have k3 : decode b_Heights_ofStack 3 = .ok (.istore_n 2, 1) := pl_dc dd_Heights_ofStack 3 (q := (3, .istore_n 2, 1)) rfl
  have k4 : decode b_Heights_ofStack 4 = .ok (.aload_n 0, 1) := pl_dc dd_Heights_ofStack 4 (q := (4, .aload_n 0, 1)) rfl
  have k5 : decode b_Heights_ofStack 5 = .ok (.invokevirtual 50, 3) := pl_dc dd_Heights_ofStack 5 (q := (5, .invokevirtual 50, 3)) rfl
  have k8 : decode b_Heights_ofStack 8 = .ok (.astore_n 3, 1) := pl_dc dd_Heights_ofStack 6 (q := (8, .astore_n 3, 1)) rfl
  have k9 : decode b_Heights_ofStack 9 = .ok (.aload_n 3, 1) := pl_dc dd_Heights_ofStack 7 (q := (9, .aload_n 3, 1)) rfl
  have k10 : decode b_Heights_ofStack 10 = .ok (.ifnull 32, 3) := pl_dc dd_Heights_ofStack 8 (q := (10, .ifnull 32, 3)) rfl
  have k13 : decode b_Heights_ofStack 13 = .ok (.iload_n 1, 1) := pl_dc dd_Heights_ofStack 9 (q := (13, .iload_n 1, 1)) rfl
  have k14 : decode b_Heights_ofStack 14 = .ok (.iload_n 2, 1) := pl_dc dd_Heights_ofStack 10 (q := (14, .iload_n 2, 1)) rfl
  have k15 : decode b_Heights_ofStack 15 = .ok (.aload_n 3, 1) := pl_dc dd_Heights_ofStack 11 (q := (15, .aload_n 3, 1)) rfl
  have k16 : decode b_Heights_ofStack 16 = .ok (.invokevirtual 81, 3) := pl_dc dd_Heights_ofStack 12 (q := (16, .invokevirtual 81, 3)) rfl
  have k19 : decode b_Heights_ofStack 19 = .ok (.invokestatic 70, 3) := pl_dc dd_Heights_ofStack 13 (q := (19, .invokestatic 70, 3)) rfl
  have k22 : decode b_Heights_ofStack 22 = .ok (.aload_n 3, 1) := pl_dc dd_Heights_ofStack 14 (q := (22, .aload_n 3, 1)) rfl
  have k23 : decode b_Heights_ofStack 23 = .ok (.invokevirtual 84, 3) := pl_dc dd_Heights_ofStack 15 (q := (23, .invokevirtual 84, 3)) rfl
  have k26 : decode b_Heights_ofStack 26 = .ok (.iadd, 1) := pl_dc dd_Heights_ofStack 16 (q := (26, .iadd, 1)) rfl
  have k27 : decode b_Heights_ofStack 27 = .ok (.iadd, 1) := pl_dc dd_Heights_ofStack 17 (q := (27, .iadd, 1)) rfl
  have k28 : decode b_Heights_ofStack 28 = .ok (.istore_n 1, 1) := pl_dc dd_Heights_ofStack 18 (q := (28, .istore_n 1, 1)) rfl
  have k29 : decode b_Heights_ofStack 29 = .ok (.aload_n 3, 1) := pl_dc dd_Heights_ofStack 19 (q := (29, .aload_n 3, 1)) rfl
  have k30 : decode b_Heights_ofStack 30 = .ok (.invokevirtual 81, 3) := pl_dc dd_Heights_ofStack 20 (q := (30, .invokevirtual 81, 3)) rfl
  have k33 : decode b_Heights_ofStack 33 = .ok (.istore_n 2, 1) := pl_dc dd_Heights_ofStack 21 (q := (33, .istore_n 2, 1)) rfl
  have k34 : decode b_Heights_ofStack 34 = .ok (.aload_n 3, 1) := pl_dc dd_Heights_ofStack 22 (q := (34, .aload_n 3, 1)) rfl
  have k35 : decode b_Heights_ofStack 35 = .ok (.invokevirtual 78, 3) := pl_dc dd_Heights_ofStack 23 (q := (35, .invokevirtual 78, 3)) rfl
  have k38 : decode b_Heights_ofStack 38 = .ok (.astore_n 3, 1) := pl_dc dd_Heights_ofStack 24 (q := (38, .astore_n 3, 1)) rfl
  have k39 : decode b_Heights_ofStack 39 = .ok (.goto (-30), 3) := pl_dc dd_Heights_ofStack 25 (q := (39, .goto (-30), 3)) rfl
  have k42 : decode b_Heights_ofStack 42 = .ok (.iload_n 1, 1) := pl_dc dd_Heights_ofStack 26 (q := (42, .iload_n 1, 1)) rfl
  have k43 : decode b_Heights_ofStack 43 = .ok (.iload_n 2, 1) := pl_dc dd_Heights_ofStack 27 (q := (43, .iload_n 2, 1)) rfl
  have k44 : decode b_Heights_ofStack 44 = .ok (.iadd, 1) := pl_dc dd_Heights_ofStack 28 (q := (44, .iadd, 1)) rfl
  have k45 : decode b_Heights_ofStack 45 = .ok (.ireturn, 1) := pl_dc dd_Heights_ofStack 29 (q := (45, .ireturn, 1)) rfl
  exact (d_seq (p1 := 2) (d_istore_n (p1 := 1) F (c_iconst F k0 (by decide)) k1 rfl (hm 1 (by decide))) (d_seq (p1 := 4) (d_istore_n (p1 := 3) F (c_iconst F k2 (by decide)) k3 rfl (hm 2 (by decide))) (d_seq (p1 := 42) (d_seq (p1 := 9) (d_astore_n (p1 := 8) F (c_callV (p1 := 5) F (a_r_ok (p1 := 4) a_nil_ok (c_aload_n F k4 rfl)) (z_Box_firstInFlow _) y_Box_firstInFlow_ok lm_Heights_50 k5 r_Box_firstInFlow (by decide) (by decide)) k8 rfl (hm 3 (by decide))) (d_while (p1 := 13) (p2 := 39) F (b_nn_t (p1 := 10) (pj := 42) F (c_aload_n F k9 rfl) k10 (by decide)) (d_seq (p1 := 34) (d_seq (p1 := 29) (d_istore_n (p1 := 28) F (c_bin 1 (p1 := 14) (p2 := 27) (c_iload_n F k13 rfl) (c_bin 1 (p1 := 22) (p2 := 26) (c_max (p1 := 15) (p2 := 19) F (c_iload_n F k14 rfl) (c_callV (p1 := 16) F (a_r_ok (p1 := 15) a_nil_ok (c_aload_n F k15 rfl)) (z_Box_margin _) y_Box_margin_ok lm_Heights_81 k16 r_Box_margin (by decide) (by decide)) k19 lm_Heights_70 hm_max R0 (by decide)) (c_callV (p1 := 23) F (a_r_ok (p1 := 22) a_nil_ok (c_aload_n F k22 rfl)) (z_Box_frameHeight _) y_Box_frameHeight_ok lm_Heights_84 k23 r_Box_frameHeight (by decide) (by decide)) pl_c1 (j_iadd F k26)) pl_c1 (j_iadd F k27)) k28 rfl (hm 1 (by decide))) (d_istore_n (p1 := 33) F (c_callV (p1 := 30) F (a_r_ok (p1 := 29) a_nil_ok (c_aload_n F k29 rfl)) (z_Box_margin _) y_Box_margin_ok lm_Heights_81 k30 r_Box_margin (by decide) (by decide)) k33 rfl (hm 2 (by decide)))) (d_astore_n (p1 := 38) F (c_callV (p1 := 35) F (a_r_ok (p1 := 34) a_nil_ok (c_aload_n F k34 rfl)) (z_Box_nextInFlow _) y_Box_nextInFlow_ok lm_Heights_78 k35 r_Box_nextInFlow (by decide) (by decide)) k38 rfl (hm 3 (by decide)))) k39 (by decide))) (d_reti (p1 := 45) F Fm.2.1 Fm.2.2.1 (c_bin 1 (p1 := 43) (p2 := 44) (c_iload_n F k42 rfl) (c_iload_n F k43 rfl) pl_c1 (j_iadd F k44)) k45)))))
def y_Heights_byContents : MethodName := ⟨"PageLayouter$Heights", "byContents", "(LPageLayouter$Box;)I"⟩
abbrev b_Heights_byContents : ByteArray := prog_6_method_4_code
abbrev n_Heights_byContents : Nat := 1
theorem y_Heights_byContents_ok : pl_MS y_Heights_byContents b_Heights_byContents n_Heights_byContents (Option.some Jvm.ClassFile.FieldType.int) 1 := ⟨pl_mem 581 (by decide +kernel) (by decide +kernel), pl_mem 580 (by decide +kernel) (by decide +kernel), pl_mem 59 (by decide +kernel) (by decide +kernel), ⟨by decide, by decide, by decide +kernel⟩⟩
def D_Heights_byContents : List (Nat × Instr × Nat) := [(0, .aload_n 0, 1), (1, .invokevirtual 50, 3), (4, .ifnonnull 8, 3), (7, .aload_n 0, 1), (8, .invokestatic 54, 3), (11, .ireturn, 1), (12, .aload_n 0, 1), (13, .getfield 43, 3), (16, .iconst 1, 1), (17, .if_icmp .eq 11, 3), (20, .aload_n 0, 1), (21, .getfield 43, 3), (24, .iconst 3, 1), (25, .if_icmp .ne 10, 3), (28, .aload_n 0, 1), (29, .invokestatic 57, 3), (32, .goto 7, 3), (35, .aload_n 0, 1), (36, .invokestatic 60, 3), (39, .ireturn, 1)]
theorem dd_Heights_byContents : (D_Heights_byContents.all fun q => decide (decode b_Heights_byContents q.1 = .ok q.2)) = true := by decide +kernel
def t_Heights_byContents : pl_TR := fun P _ _ => s_seq (s_if (b_null (e_callV id 1 t_Box_firstInFlow n_Box_firstInFlow (a_r a_nil (e_locr 0)))) (s_reti P (e_callS Value.int t_Heights_ofLines n_Heights_ofLines (a_r a_nil (e_locr 0))))) (s_reti P (e_if (b_or (b_cmp .eq (e_geti 1 8 (e_locr 0)) (e_int 1)) (b_cmp .eq (e_geti 1 8 (e_locr 0)) (e_int 3))) (e_callS Value.int t_Heights_greatestRoom n_Heights_greatestRoom (a_r a_nil (e_locr 0))) (e_callS Value.int t_Heights_ofStack n_Heights_ofStack (a_r a_nil (e_locr 0)))))
theorem z_Heights_byContents (l : Launch) : pl_Ctr l y_Heights_byContents b_Heights_byContents n_Heights_byContents (Option.some Jvm.ClassFile.FieldType.int) 4 82 0 0 false t_Heights_byContents := pl_ctr_of (pe := 0) (by decide) (fun X Y P F Fm => by
  have F : pl_Fx X Y "PageLayouter$Heights" b_Heights_byContents := F
  have r_Box_firstInFlow : 1 + 1 ≤ (pl_xR X).frames ∧ 8 + (n_Box_firstInFlow + 11) + 20 ≤ (pl_xR X).locals := ⟨Nat.le_trans (by decide) Fm.2.2.2.2.2.1, Nat.le_trans (by decide) Fm.2.2.2.2.2.2.1⟩
  have r_Heights_greatestRoom : 3 + 1 ≤ (pl_xR X).frames ∧ 8 + (n_Heights_greatestRoom + 11) + 60 ≤ (pl_xR X).locals := ⟨Nat.le_trans (by decide) Fm.2.2.2.2.2.1, Nat.le_trans (by decide) Fm.2.2.2.2.2.2.1⟩
  have r_Heights_ofLines : 1 + 1 ≤ (pl_xR X).frames ∧ 8 + (n_Heights_ofLines + 11) + 21 ≤ (pl_xR X).locals := ⟨Nat.le_trans (by decide) Fm.2.2.2.2.2.1, Nat.le_trans (by decide) Fm.2.2.2.2.2.2.1⟩
  have r_Heights_ofStack : 2 + 1 ≤ (pl_xR X).frames ∧ 8 + (n_Heights_ofStack + 11) + 41 ≤ (pl_xR X).locals := ⟨Nat.le_trans (by decide) Fm.2.2.2.2.2.1, Nat.le_trans (by decide) Fm.2.2.2.2.2.2.1⟩
  have k0 : decode b_Heights_byContents 0 = .ok (.aload_n 0, 1) := pl_dc dd_Heights_byContents 0 (q := (0, .aload_n 0, 1)) rfl
  have k1 : decode b_Heights_byContents 1 = .ok (.invokevirtual 50, 3) := pl_dc dd_Heights_byContents 1 (q := (1, .invokevirtual 50, 3)) rfl
  have k4 : decode b_Heights_byContents 4 = .ok (.ifnonnull 8, 3) := pl_dc dd_Heights_byContents 2 (q := (4, .ifnonnull 8, 3)) rfl
  have k7 : decode b_Heights_byContents 7 = .ok (.aload_n 0, 1) := pl_dc dd_Heights_byContents 3 (q := (7, .aload_n 0, 1)) rfl
  have k8 : decode b_Heights_byContents 8 = .ok (.invokestatic 54, 3) := pl_dc dd_Heights_byContents 4 (q := (8, .invokestatic 54, 3)) rfl
  have k11 : decode b_Heights_byContents 11 = .ok (.ireturn, 1) := pl_dc dd_Heights_byContents 5 (q := (11, .ireturn, 1)) rfl
  have k12 : decode b_Heights_byContents 12 = .ok (.aload_n 0, 1) := pl_dc dd_Heights_byContents 6 (q := (12, .aload_n 0, 1)) rfl
  have k13 : decode b_Heights_byContents 13 = .ok (.getfield 43, 3) := pl_dc dd_Heights_byContents 7 (q := (13, .getfield 43, 3)) rfl
  have k16 : decode b_Heights_byContents 16 = .ok (.iconst 1, 1) := pl_dc dd_Heights_byContents 8 (q := (16, .iconst 1, 1)) rfl
  have k17 : decode b_Heights_byContents 17 = .ok (.if_icmp .eq 11, 3) := pl_dc dd_Heights_byContents 9 (q := (17, .if_icmp .eq 11, 3)) rfl
  have k20 : decode b_Heights_byContents 20 = .ok (.aload_n 0, 1) := pl_dc dd_Heights_byContents 10 (q := (20, .aload_n 0, 1)) rfl
  have k21 : decode b_Heights_byContents 21 = .ok (.getfield 43, 3) := pl_dc dd_Heights_byContents 11 (q := (21, .getfield 43, 3)) rfl
  have k24 : decode b_Heights_byContents 24 = .ok (.iconst 3, 1) := pl_dc dd_Heights_byContents 12 (q := (24, .iconst 3, 1)) rfl
  have k25 : decode b_Heights_byContents 25 = .ok (.if_icmp .ne 10, 3) := pl_dc dd_Heights_byContents 13 (q := (25, .if_icmp .ne 10, 3)) rfl
  have k28 : decode b_Heights_byContents 28 = .ok (.aload_n 0, 1) := pl_dc dd_Heights_byContents 14 (q := (28, .aload_n 0, 1)) rfl
  have k29 : decode b_Heights_byContents 29 = .ok (.invokestatic 57, 3) := pl_dc dd_Heights_byContents 15 (q := (29, .invokestatic 57, 3)) rfl
  have k32 : decode b_Heights_byContents 32 = .ok (.goto 7, 3) := pl_dc dd_Heights_byContents 16 (q := (32, .goto 7, 3)) rfl
  have k35 : decode b_Heights_byContents 35 = .ok (.aload_n 0, 1) := pl_dc dd_Heights_byContents 17 (q := (35, .aload_n 0, 1)) rfl
  have k36 : decode b_Heights_byContents 36 = .ok (.invokestatic 60, 3) := pl_dc dd_Heights_byContents 18 (q := (36, .invokestatic 60, 3)) rfl
  have k39 : decode b_Heights_byContents 39 = .ok (.ireturn, 1) := pl_dc dd_Heights_byContents 19 (q := (39, .ireturn, 1)) rfl
  exact (d_seq (p1 := 12) (d_if (p1 := 7) (p2 := 12) (b_null_t (p1 := 4) (pj := 12) F (c_callV (p1 := 1) F (a_r_ok (p1 := 0) a_nil_ok (c_aload_n F k0 rfl)) (z_Box_firstInFlow _) y_Box_firstInFlow_ok lm_Heights_50 k1 r_Box_firstInFlow (by decide) (by decide)) k4 (by decide)) (d_reti (p1 := 11) F Fm.2.1 Fm.2.2.1 (c_callS (p1 := 8) F (a_r_ok (p1 := 7) a_nil_ok (c_aload_n F k7 rfl)) (z_Heights_ofLines _) y_Heights_ofLines_ok lm_Heights_54 k8 r_Heights_ofLines (by decide) (by decide)) k11)) (d_reti (p1 := 39) F Fm.2.1 Fm.2.2.1 (c_if (p1 := 28) (p2 := 32) (p3 := 39) F (b_or_t (p1 := 20) (b_cmp_f (p1 := 16) (p2 := 17) (pj := 28) F (c_geti (p1 := 13) F 1 8 hg_1_8 (c_aload_n F k12 rfl) k13 lf_Heights_43) (c_iconst F k16 (by decide)) k17 (by decide)) (b_cmp_t (p1 := 24) (p2 := 25) (pj := 35) F (c_geti (p1 := 21) F 1 8 hg_1_8 (c_aload_n F k20 rfl) k21 lf_Heights_43) (c_iconst F k24 (by decide)) k25 (by decide))) (c_callS (p1 := 29) F (a_r_ok (p1 := 28) a_nil_ok (c_aload_n F k28 rfl)) (z_Heights_greatestRoom _) y_Heights_greatestRoom_ok lm_Heights_57 k29 r_Heights_greatestRoom (by decide) (by decide)) k32 (by decide) (c_callS (p1 := 36) F (a_r_ok (p1 := 35) a_nil_ok (c_aload_n F k35 rfl)) (z_Heights_ofStack _) y_Heights_ofStack_ok lm_Heights_60 k36 r_Heights_ofStack (by decide) (by decide))) k39)))
def y_Heights_stretchChildren : MethodName := ⟨"PageLayouter$Heights", "stretchChildren", "(LPageLayouter$Box;)V"⟩
abbrev b_Heights_stretchChildren : ByteArray := prog_6_method_8_code
abbrev n_Heights_stretchChildren : Nat := 2
theorem y_Heights_stretchChildren_ok : pl_MS y_Heights_stretchChildren b_Heights_stretchChildren n_Heights_stretchChildren (Option.none : Option Jvm.ClassFile.FieldType) 1 := ⟨pl_mem 605 (by decide +kernel) (by decide +kernel), pl_mem 604 (by decide +kernel) (by decide +kernel), pl_mem 59 (by decide +kernel) (by decide +kernel), ⟨by decide, by decide, by decide +kernel⟩⟩
def D_Heights_stretchChildren : List (Nat × Instr × Nat) := [(0, .aload_n 0, 1), (1, .invokevirtual 50, 3), (4, .astore_n 1, 1), (5, .aload_n 1, 1), (6, .ifnull 36, 3), (9, .aload_n 1, 1), (10, .invokevirtual 19, 3), (13, .iconst (-1), 1), (14, .if_icmp .ne 20, 3), (17, .aload_n 1, 1), (18, .iconst 0, 1), (19, .aload_n 0, 1), (20, .getfield 40, 3), (23, .aload_n 1, 1), (24, .invokevirtual 87, 3), (27, .isub, 1), (28, .invokestatic 70, 3), (31, .putfield 40, 3), (34, .aload_n 1, 1), (35, .invokevirtual 78, 3), (38, .astore_n 1, 1), (39, .goto (-34), 3), (42, .return_, 1)]
theorem dd_Heights_stretchChildren : (D_Heights_stretchChildren.all fun q => decide (decode b_Heights_stretchChildren q.1 = .ok q.2)) = true := by decide +kernel
def t_Heights_stretchChildren : pl_TR := fun P _ _ => s_seq (s_seq (s_setr 1 (e_callV id 1 t_Box_firstInFlow n_Box_firstInFlow (a_r a_nil (e_locr 0)))) (s_while (b_nn (e_locr 1)) (s_seq (s_if (b_cmp .eq (e_callV Value.int 1 t_Box_wantedHeight n_Box_wantedHeight (a_r a_nil (e_locr 1))) (e_int (-1))) (s_puti 1 16 (e_locr 1) (e_bin pl_max (e_int 0) (e_bin (fun x y : Int32 => x - y) (e_geti 1 16 (e_locr 0)) (e_callV Value.int 1 t_Box_edges n_Box_edges (a_r a_nil (e_locr 1))))))) (s_setr 1 (e_callV id 1 t_Box_nextInFlow n_Box_nextInFlow (a_r a_nil (e_locr 1))))))) (s_retv P)
theorem z_Heights_stretchChildren (l : Launch) : pl_Ctr l y_Heights_stretchChildren b_Heights_stretchChildren n_Heights_stretchChildren (Option.none : Option Jvm.ClassFile.FieldType) 2 41 0 0 false t_Heights_stretchChildren := pl_ctr_of (pe := 0) (by decide) (fun X Y P F Fm => by
  have F : pl_Fx X Y "PageLayouter$Heights" b_Heights_stretchChildren := F
  have r_Box_edges : 1 + 1 ≤ (pl_xR X).frames ∧ 8 + (n_Box_edges + 11) + 20 ≤ (pl_xR X).locals := ⟨Nat.le_trans (by decide) Fm.2.2.2.2.2.1, Nat.le_trans (by decide) Fm.2.2.2.2.2.2.1⟩
  have r_Box_firstInFlow : 1 + 1 ≤ (pl_xR X).frames ∧ 8 + (n_Box_firstInFlow + 11) + 20 ≤ (pl_xR X).locals := ⟨Nat.le_trans (by decide) Fm.2.2.2.2.2.1, Nat.le_trans (by decide) Fm.2.2.2.2.2.2.1⟩
  have r_Box_nextInFlow : 1 + 1 ≤ (pl_xR X).frames ∧ 8 + (n_Box_nextInFlow + 11) + 20 ≤ (pl_xR X).locals := ⟨Nat.le_trans (by decide) Fm.2.2.2.2.2.1, Nat.le_trans (by decide) Fm.2.2.2.2.2.2.1⟩
  have r_Box_wantedHeight : 0 + 1 ≤ (pl_xR X).frames ∧ 8 + (n_Box_wantedHeight + 11) + 0 ≤ (pl_xR X).locals := ⟨Nat.le_trans (by decide) Fm.2.2.2.2.2.1, Nat.le_trans (by decide) Fm.2.2.2.2.2.2.1⟩
  have R0 : 1 ≤ (pl_xR X).frames ∧ 21 ≤ (pl_xR X).locals := ⟨Nat.le_trans (by decide) Fm.2.2.2.2.2.1, Nat.le_trans (by decide) Fm.2.2.2.2.2.2.1⟩
  have hm : ∀ i, i < 2 → i < (pl_xc X).maxLocals := fun i h => by rw [Fm.2.2.2.1]; exact h
  have k0 : decode b_Heights_stretchChildren 0 = .ok (.aload_n 0, 1) := pl_dc dd_Heights_stretchChildren 0 (q := (0, .aload_n 0, 1)) rfl
  have k1 : decode b_Heights_stretchChildren 1 = .ok (.invokevirtual 50, 3) := pl_dc dd_Heights_stretchChildren 1 (q := (1, .invokevirtual 50, 3)) rfl
  have k4 : decode b_Heights_stretchChildren 4 = .ok (.astore_n 1, 1) := pl_dc dd_Heights_stretchChildren 2 (q := (4, .astore_n 1, 1)) rfl
  have k5 : decode b_Heights_stretchChildren 5 = .ok (.aload_n 1, 1) := pl_dc dd_Heights_stretchChildren 3 (q := (5, .aload_n 1, 1)) rfl
  have k6 : decode b_Heights_stretchChildren 6 = .ok (.ifnull 36, 3) := pl_dc dd_Heights_stretchChildren 4 (q := (6, .ifnull 36, 3)) rfl
  have k9 : decode b_Heights_stretchChildren 9 = .ok (.aload_n 1, 1) := pl_dc dd_Heights_stretchChildren 5 (q := (9, .aload_n 1, 1)) rfl
  have k10 : decode b_Heights_stretchChildren 10 = .ok (.invokevirtual 19, 3) := pl_dc dd_Heights_stretchChildren 6 (q := (10, .invokevirtual 19, 3)) rfl
  have k13 : decode b_Heights_stretchChildren 13 = .ok (.iconst (-1), 1) := pl_dc dd_Heights_stretchChildren 7 (q := (13, .iconst (-1), 1)) rfl
  have k14 : decode b_Heights_stretchChildren 14 = .ok (.if_icmp .ne 20, 3) := pl_dc dd_Heights_stretchChildren 8 (q := (14, .if_icmp .ne 20, 3)) rfl
  have k17 : decode b_Heights_stretchChildren 17 = .ok (.aload_n 1, 1) := pl_dc dd_Heights_stretchChildren 9 (q := (17, .aload_n 1, 1)) rfl
  have k18 : decode b_Heights_stretchChildren 18 = .ok (.iconst 0, 1) := pl_dc dd_Heights_stretchChildren 10 (q := (18, .iconst 0, 1)) rfl
  have k19 : decode b_Heights_stretchChildren 19 = .ok (.aload_n 0, 1) := pl_dc dd_Heights_stretchChildren 11 (q := (19, .aload_n 0, 1)) rfl
  have k20 : decode b_Heights_stretchChildren 20 = .ok (.getfield 40, 3) := pl_dc dd_Heights_stretchChildren 12 (q := (20, .getfield 40, 3)) rfl
  have k23 : decode b_Heights_stretchChildren 23 = .ok (.aload_n 1, 1) := pl_dc dd_Heights_stretchChildren 13 (q := (23, .aload_n 1, 1)) rfl
  have k24 : decode b_Heights_stretchChildren 24 = .ok (.invokevirtual 87, 3) := pl_dc dd_Heights_stretchChildren 14 (q := (24, .invokevirtual 87, 3)) rfl
  have k27 : decode b_Heights_stretchChildren 27 = .ok (.isub, 1) := pl_dc dd_Heights_stretchChildren 15 (q := (27, .isub, 1)) rfl
  have k28 : decode b_Heights_stretchChildren 28 = .ok (.invokestatic 70, 3) := pl_dc dd_Heights_stretchChildren 16 (q := (28, .invokestatic 70, 3)) rfl
  have k31 : decode b_Heights_stretchChildren 31 = .ok (.putfield 40, 3) := pl_dc dd_Heights_stretchChildren 17 (q := (31, .putfield 40, 3)) rfl
  have k34 : decode b_Heights_stretchChildren 34 = .ok (.aload_n 1, 1) := pl_dc dd_Heights_stretchChildren 18 (q := (34, .aload_n 1, 1)) rfl
  have k35 : decode b_Heights_stretchChildren 35 = .ok (.invokevirtual 78, 3) := pl_dc dd_Heights_stretchChildren 19 (q := (35, .invokevirtual 78, 3)) rfl
  have k38 : decode b_Heights_stretchChildren 38 = .ok (.astore_n 1, 1) := pl_dc dd_Heights_stretchChildren 20 (q := (38, .astore_n 1, 1)) rfl
  have k39 : decode b_Heights_stretchChildren 39 = .ok (.goto (-34), 3) := pl_dc dd_Heights_stretchChildren 21 (q := (39, .goto (-34), 3)) rfl
  have k42 : decode b_Heights_stretchChildren 42 = .ok (.return_, 1) := pl_dc dd_Heights_stretchChildren 22 (q := (42, .return_, 1)) rfl
  exact (d_seq (p1 := 42) (d_seq (p1 := 5) (d_astore_n (p1 := 4) F (c_callV (p1 := 1) F (a_r_ok (p1 := 0) a_nil_ok (c_aload_n F k0 rfl)) (z_Box_firstInFlow _) y_Box_firstInFlow_ok lm_Heights_50 k1 r_Box_firstInFlow (by decide) (by decide)) k4 rfl (hm 1 (by decide))) (d_while (p1 := 9) (p2 := 39) F (b_nn_t (p1 := 6) (pj := 42) F (c_aload_n F k5 rfl) k6 (by decide)) (d_seq (p1 := 34) (d_if (p1 := 17) (p2 := 34) (b_cmp_t (p1 := 13) (p2 := 14) (pj := 34) F (c_callV (p1 := 10) F (a_r_ok (p1 := 9) a_nil_ok (c_aload_n F k9 rfl)) (z_Box_wantedHeight _) y_Box_wantedHeight_ok lm_Heights_19 k10 r_Box_wantedHeight (by decide) (by decide)) (c_iconst F k13 (by decide)) k14 (by decide)) (d_puti (p1 := 18) (p2 := 31) F 1 16 hp_1_16 (c_aload_n F k17 rfl) (c_max (p1 := 19) (p2 := 28) F (c_iconst F k18 (by decide)) (c_bin 1 (p1 := 23) (p2 := 27) (c_geti (p1 := 20) F 1 16 hg_1_16 (c_aload_n F k19 rfl) k20 lf_Heights_40) (c_callV (p1 := 24) F (a_r_ok (p1 := 23) a_nil_ok (c_aload_n F k23 rfl)) (z_Box_edges _) y_Box_edges_ok lm_Heights_87 k24 r_Box_edges (by decide) (by decide)) pl_c1 (j_isub F k27)) k28 lm_Heights_70 hm_max R0 (by decide)) k31 lf_Heights_40)) (d_astore_n (p1 := 38) F (c_callV (p1 := 35) F (a_r_ok (p1 := 34) a_nil_ok (c_aload_n F k34 rfl)) (z_Box_nextInFlow _) y_Box_nextInFlow_ok lm_Heights_78 k35 r_Box_nextInFlow (by decide) (by decide)) k38 rfl (hm 1 (by decide)))) k39 (by decide))) (d_retv F Fm.2.1 Fm.2.2.1 k42)))
def y_Heights_give : MethodName := ⟨"PageLayouter$Heights", "give", "(LPageLayouter$Box;)V"⟩
abbrev b_Heights_give : ByteArray := prog_6_method_3_code
abbrev n_Heights_give : Nat := 1
theorem y_Heights_give_ok : pl_MS y_Heights_give b_Heights_give n_Heights_give (Option.none : Option Jvm.ClassFile.FieldType) 1 := ⟨pl_mem 578 (by decide +kernel) (by decide +kernel), pl_mem 577 (by decide +kernel) (by decide +kernel), pl_mem 59 (by decide +kernel) (by decide +kernel), ⟨by decide, by decide, by decide +kernel⟩⟩
def D_Heights_give : List (Nat × Instr × Nat) := [(0, .aload_n 0, 1), (1, .aload_n 0, 1), (2, .getfield 15, 3), (5, .iconst (-1), 1), (6, .if_icmp .ne 10, 3), (9, .aload_n 0, 1), (10, .invokestatic 34, 3), (13, .goto 7, 3), (16, .aload_n 0, 1), (17, .getfield 15, 3), (20, .putfield 40, 3), (23, .aload_n 0, 1), (24, .getfield 43, 3), (27, .iconst 1, 1), (28, .if_icmp .eq 11, 3), (31, .aload_n 0, 1), (32, .getfield 43, 3), (35, .iconst 3, 1), (36, .if_icmp .ne 7, 3), (39, .aload_n 0, 1), (40, .invokestatic 46, 3), (43, .return_, 1)]
theorem dd_Heights_give : (D_Heights_give.all fun q => decide (decode b_Heights_give q.1 = .ok q.2)) = true := by decide +kernel
def t_Heights_give : pl_TR := fun P _ _ => s_seq (s_seq (s_puti 1 16 (e_locr 0) (e_if (b_cmp .eq (e_geti 1 15 (e_locr 0)) (e_int (-1))) (e_callS Value.int t_Heights_byContents n_Heights_byContents (a_r a_nil (e_locr 0))) (e_geti 1 15 (e_locr 0)))) (s_if (b_or (b_cmp .eq (e_geti 1 8 (e_locr 0)) (e_int 1)) (b_cmp .eq (e_geti 1 8 (e_locr 0)) (e_int 3))) (s_callS t_Heights_stretchChildren n_Heights_stretchChildren (a_r a_nil (e_locr 0))))) (s_retv P)
theorem z_Heights_give (l : Launch) : pl_Ctr l y_Heights_give b_Heights_give n_Heights_give (Option.none : Option Jvm.ClassFile.FieldType) 5 102 0 0 false t_Heights_give := pl_ctr_of (pe := 0) (by decide) (fun X Y P F Fm => by
  have F : pl_Fx X Y "PageLayouter$Heights" b_Heights_give := F
  have r_Heights_byContents : 4 + 1 ≤ (pl_xR X).frames ∧ 8 + (n_Heights_byContents + 11) + 82 ≤ (pl_xR X).locals := ⟨Nat.le_trans (by decide) Fm.2.2.2.2.2.1, Nat.le_trans (by decide) Fm.2.2.2.2.2.2.1⟩
  have r_Heights_stretchChildren : 2 + 1 ≤ (pl_xR X).frames ∧ 8 + (n_Heights_stretchChildren + 11) + 41 ≤ (pl_xR X).locals := ⟨Nat.le_trans (by decide) Fm.2.2.2.2.2.1, Nat.le_trans (by decide) Fm.2.2.2.2.2.2.1⟩
  have k0 : decode b_Heights_give 0 = .ok (.aload_n 0, 1) := pl_dc dd_Heights_give 0 (q := (0, .aload_n 0, 1)) rfl
  have k1 : decode b_Heights_give 1 = .ok (.aload_n 0, 1) := pl_dc dd_Heights_give 1 (q := (1, .aload_n 0, 1)) rfl
  have k2 : decode b_Heights_give 2 = .ok (.getfield 15, 3) := pl_dc dd_Heights_give 2 (q := (2, .getfield 15, 3)) rfl
  have k5 : decode b_Heights_give 5 = .ok (.iconst (-1), 1) := pl_dc dd_Heights_give 3 (q := (5, .iconst (-1), 1)) rfl
  have k6 : decode b_Heights_give 6 = .ok (.if_icmp .ne 10, 3) := pl_dc dd_Heights_give 4 (q := (6, .if_icmp .ne 10, 3)) rfl
  have k9 : decode b_Heights_give 9 = .ok (.aload_n 0, 1) := pl_dc dd_Heights_give 5 (q := (9, .aload_n 0, 1)) rfl
  have k10 : decode b_Heights_give 10 = .ok (.invokestatic 34, 3) := pl_dc dd_Heights_give 6 (q := (10, .invokestatic 34, 3)) rfl
  have k13 : decode b_Heights_give 13 = .ok (.goto 7, 3) := pl_dc dd_Heights_give 7 (q := (13, .goto 7, 3)) rfl
  have k16 : decode b_Heights_give 16 = .ok (.aload_n 0, 1) := pl_dc dd_Heights_give 8 (q := (16, .aload_n 0, 1)) rfl
  have k17 : decode b_Heights_give 17 = .ok (.getfield 15, 3) := pl_dc dd_Heights_give 9 (q := (17, .getfield 15, 3)) rfl
  have k20 : decode b_Heights_give 20 = .ok (.putfield 40, 3) := pl_dc dd_Heights_give 10 (q := (20, .putfield 40, 3)) rfl
  have k23 : decode b_Heights_give 23 = .ok (.aload_n 0, 1) := pl_dc dd_Heights_give 11 (q := (23, .aload_n 0, 1)) rfl
  have k24 : decode b_Heights_give 24 = .ok (.getfield 43, 3) := pl_dc dd_Heights_give 12 (q := (24, .getfield 43, 3)) rfl
  have k27 : decode b_Heights_give 27 = .ok (.iconst 1, 1) := pl_dc dd_Heights_give 13 (q := (27, .iconst 1, 1)) rfl
  have k28 : decode b_Heights_give 28 = .ok (.if_icmp .eq 11, 3) := pl_dc dd_Heights_give 14 (q := (28, .if_icmp .eq 11, 3)) rfl
  have k31 : decode b_Heights_give 31 = .ok (.aload_n 0, 1) := pl_dc dd_Heights_give 15 (q := (31, .aload_n 0, 1)) rfl
  have k32 : decode b_Heights_give 32 = .ok (.getfield 43, 3) := pl_dc dd_Heights_give 16 (q := (32, .getfield 43, 3)) rfl
  have k35 : decode b_Heights_give 35 = .ok (.iconst 3, 1) := pl_dc dd_Heights_give 17 (q := (35, .iconst 3, 1)) rfl
  have k36 : decode b_Heights_give 36 = .ok (.if_icmp .ne 7, 3) := pl_dc dd_Heights_give 18 (q := (36, .if_icmp .ne 7, 3)) rfl
  have k39 : decode b_Heights_give 39 = .ok (.aload_n 0, 1) := pl_dc dd_Heights_give 19 (q := (39, .aload_n 0, 1)) rfl
  have k40 : decode b_Heights_give 40 = .ok (.invokestatic 46, 3) := pl_dc dd_Heights_give 20 (q := (40, .invokestatic 46, 3)) rfl
  have k43 : decode b_Heights_give 43 = .ok (.return_, 1) := pl_dc dd_Heights_give 21 (q := (43, .return_, 1)) rfl
  exact (d_seq (p1 := 43) (d_seq (p1 := 23) (d_puti (p1 := 1) (p2 := 20) F 1 16 hp_1_16 (c_aload_n F k0 rfl) (c_if (p1 := 9) (p2 := 13) (p3 := 20) F (b_cmp_t (p1 := 5) (p2 := 6) (pj := 16) F (c_geti (p1 := 2) F 1 15 hg_1_15 (c_aload_n F k1 rfl) k2 lf_Heights_15) (c_iconst F k5 (by decide)) k6 (by decide)) (c_callS (p1 := 10) F (a_r_ok (p1 := 9) a_nil_ok (c_aload_n F k9 rfl)) (z_Heights_byContents _) y_Heights_byContents_ok lm_Heights_34 k10 r_Heights_byContents (by decide) (by decide)) k13 (by decide) (c_geti (p1 := 17) F 1 15 hg_1_15 (c_aload_n F k16 rfl) k17 lf_Heights_15)) k20 lf_Heights_40) (d_if (p1 := 39) (p2 := 43) (b_or_t (p1 := 31) (b_cmp_f (p1 := 27) (p2 := 28) (pj := 39) F (c_geti (p1 := 24) F 1 8 hg_1_8 (c_aload_n F k23 rfl) k24 lf_Heights_43) (c_iconst F k27 (by decide)) k28 (by decide)) (b_cmp_t (p1 := 35) (p2 := 36) (pj := 43) F (c_geti (p1 := 32) F 1 8 hg_1_8 (c_aload_n F k31 rfl) k32 lf_Heights_43) (c_iconst F k35 (by decide)) k36 (by decide))) (d_callS (p1 := 40) F (a_r_ok (p1 := 39) a_nil_ok (c_aload_n F k39 rfl)) (z_Heights_stretchChildren _) y_Heights_stretchChildren_ok lm_Heights_46 k40 r_Heights_stretchChildren (by decide)))) (d_retv F Fm.2.1 Fm.2.2.1 k43)))
def y_Pl_giveHeights : MethodName := ⟨"PageLayouter", "giveHeights", "(I)V"⟩
abbrev b_Pl_giveHeights : ByteArray := prog_1_method_20_code
abbrev n_Pl_giveHeights : Nat := 3
theorem y_Pl_giveHeights_ok : pl_MV 0 y_Pl_giveHeights b_Pl_giveHeights n_Pl_giveHeights (Option.none : Option Jvm.ClassFile.FieldType) 1 := ⟨pl_mem 565 (by decide +kernel) (by decide +kernel), pl_mem 564 (by decide +kernel) (by decide +kernel), pl_mem 8 (by decide +kernel) (by decide +kernel), pl_mem 44 (by decide +kernel) (by decide +kernel), ⟨by decide, by decide, by decide +kernel⟩, _, rfl, rfl⟩
def D_Pl_giveHeights : List (Nat × Instr × Nat) := [(0, .iconst 0, 1), (1, .istore_n 2, 1), (2, .iload_n 2, 1), (3, .aload_n 0, 1), (4, .getfield 25, 3), (7, .if_icmp .ge 19, 3), (10, .aload_n 0, 1), (11, .getfield 11, 3), (14, .iload_n 2, 1), (15, .aaload, 1), (16, .iload_n 1, 1), (17, .invokestatic 186, 3), (20, .iinc 2 1, 3), (23, .goto (-21), 3), (26, .aload_n 0, 1), (27, .getfield 25, 3), (30, .iconst 1, 1), (31, .isub, 1), (32, .istore_n 2, 1), (33, .iload_n 2, 1), (34, .ifCond .lt 18, 3), (37, .aload_n 0, 1), (38, .getfield 11, 3), (41, .iload_n 2, 1), (42, .aaload, 1), (43, .invokestatic 192, 3), (46, .iinc 2 (-1), 3), (49, .goto (-16), 3), (52, .return_, 1)]
theorem dd_Pl_giveHeights : (D_Pl_giveHeights.all fun q => decide (decode b_Pl_giveHeights q.1 = .ok q.2)) = true := by decide +kernel
def t_Pl_giveHeights : pl_TR := fun P _ _ => s_seq (s_seq (s_seq (s_seti 2 (e_int 0)) (s_while (b_cmp .lt (e_loc 2) (e_geti 0 2 (e_locr 0))) (s_seq (s_callS t_Heights_fix n_Heights_fix (a_i (a_r a_nil (e_aald (e_getr 0 0 (e_locr 0)) (e_loc 2))) (e_loc 1))) (s_inc 2 1)))) (s_seq (s_seti 2 (e_bin (fun x y : Int32 => x - y) (e_geti 0 2 (e_locr 0)) (e_int 1))) (s_while (b_zero .ge (e_loc 2)) (s_seq (s_callS t_Heights_give n_Heights_give (a_r a_nil (e_aald (e_getr 0 0 (e_locr 0)) (e_loc 2)))) (s_inc 2 (-1)))))) (s_retv P)
theorem z_Pl_giveHeights (l : Launch) : pl_Ctr l y_Pl_giveHeights b_Pl_giveHeights n_Pl_giveHeights (Option.none : Option Jvm.ClassFile.FieldType) 6 122 0 0 false t_Pl_giveHeights := pl_ctr_of (pe := 0) (by decide) (fun X Y P F Fm => by
  have F : pl_Fx X Y "PageLayouter" b_Pl_giveHeights := F
  have r_Heights_fix : 1 + 1 ≤ (pl_xR X).frames ∧ 8 + (n_Heights_fix + 11) + 21 ≤ (pl_xR X).locals := ⟨Nat.le_trans (by decide) Fm.2.2.2.2.2.1, Nat.le_trans (by decide) Fm.2.2.2.2.2.2.1⟩
  have r_Heights_give : 5 + 1 ≤ (pl_xR X).frames ∧ 8 + (n_Heights_give + 11) + 102 ≤ (pl_xR X).locals := ⟨Nat.le_trans (by decide) Fm.2.2.2.2.2.1, Nat.le_trans (by decide) Fm.2.2.2.2.2.2.1⟩
  have hm : ∀ i, i < 3 → i < (pl_xc X).maxLocals := fun i h => by rw [Fm.2.2.2.1]; exact h
  have k0 : decode b_Pl_giveHeights 0 = .ok (.iconst 0, 1) := pl_dc dd_Pl_giveHeights 0 (q := (0, .iconst 0, 1)) rfl
  have k1 : decode b_Pl_giveHeights 1 = .ok (.istore_n 2, 1) := pl_dc dd_Pl_giveHeights 1 (q := (1, .istore_n 2, 1)) rfl
  have k2 : decode b_Pl_giveHeights 2 = .ok (.iload_n 2, 1) := pl_dc dd_Pl_giveHeights 2 (q := (2, .iload_n 2, 1)) rfl
  have k3 : decode b_Pl_giveHeights 3 = .ok (.aload_n 0, 1) := pl_dc dd_Pl_giveHeights 3 (q := (3, .aload_n 0, 1)) rfl
  have k4 : decode b_Pl_giveHeights 4 = .ok (.getfield 25, 3) := pl_dc dd_Pl_giveHeights 4 (q := (4, .getfield 25, 3)) rfl
  have k7 : decode b_Pl_giveHeights 7 = .ok (.if_icmp .ge 19, 3) := pl_dc dd_Pl_giveHeights 5 (q := (7, .if_icmp .ge 19, 3)) rfl
  have k10 : decode b_Pl_giveHeights 10 = .ok (.aload_n 0, 1) := pl_dc dd_Pl_giveHeights 6 (q := (10, .aload_n 0, 1)) rfl
  have k11 : decode b_Pl_giveHeights 11 = .ok (.getfield 11, 3) := pl_dc dd_Pl_giveHeights 7 (q := (11, .getfield 11, 3)) rfl
  have k14 : decode b_Pl_giveHeights 14 = .ok (.iload_n 2, 1) := pl_dc dd_Pl_giveHeights 8 (q := (14, .iload_n 2, 1)) rfl
  have k15 : decode b_Pl_giveHeights 15 = .ok (.aaload, 1) := pl_dc dd_Pl_giveHeights 9 (q := (15, .aaload, 1)) rfl
  have k16 : decode b_Pl_giveHeights 16 = .ok (.iload_n 1, 1) := pl_dc dd_Pl_giveHeights 10 (q := (16, .iload_n 1, 1)) rfl
  have k17 : decode b_Pl_giveHeights 17 = .ok (.invokestatic 186, 3) := pl_dc dd_Pl_giveHeights 11 (q := (17, .invokestatic 186, 3)) rfl
  have k20 : decode b_Pl_giveHeights 20 = .ok (.iinc 2 1, 3) := pl_dc dd_Pl_giveHeights 12 (q := (20, .iinc 2 1, 3)) rfl
  have k23 : decode b_Pl_giveHeights 23 = .ok (.goto (-21), 3) := pl_dc dd_Pl_giveHeights 13 (q := (23, .goto (-21), 3)) rfl
  have k26 : decode b_Pl_giveHeights 26 = .ok (.aload_n 0, 1) := pl_dc dd_Pl_giveHeights 14 (q := (26, .aload_n 0, 1)) rfl
  have k27 : decode b_Pl_giveHeights 27 = .ok (.getfield 25, 3) := pl_dc dd_Pl_giveHeights 15 (q := (27, .getfield 25, 3)) rfl
  have k30 : decode b_Pl_giveHeights 30 = .ok (.iconst 1, 1) := pl_dc dd_Pl_giveHeights 16 (q := (30, .iconst 1, 1)) rfl
  have k31 : decode b_Pl_giveHeights 31 = .ok (.isub, 1) := pl_dc dd_Pl_giveHeights 17 (q := (31, .isub, 1)) rfl
  have k32 : decode b_Pl_giveHeights 32 = .ok (.istore_n 2, 1) := pl_dc dd_Pl_giveHeights 18 (q := (32, .istore_n 2, 1)) rfl
  have k33 : decode b_Pl_giveHeights 33 = .ok (.iload_n 2, 1) := pl_dc dd_Pl_giveHeights 19 (q := (33, .iload_n 2, 1)) rfl
  have k34 : decode b_Pl_giveHeights 34 = .ok (.ifCond .lt 18, 3) := pl_dc dd_Pl_giveHeights 20 (q := (34, .ifCond .lt 18, 3)) rfl
  have k37 : decode b_Pl_giveHeights 37 = .ok (.aload_n 0, 1) := pl_dc dd_Pl_giveHeights 21 (q := (37, .aload_n 0, 1)) rfl
  have k38 : decode b_Pl_giveHeights 38 = .ok (.getfield 11, 3) := pl_dc dd_Pl_giveHeights 22 (q := (38, .getfield 11, 3)) rfl
  have k41 : decode b_Pl_giveHeights 41 = .ok (.iload_n 2, 1) := pl_dc dd_Pl_giveHeights 23 (q := (41, .iload_n 2, 1)) rfl
  have k42 : decode b_Pl_giveHeights 42 = .ok (.aaload, 1) := pl_dc dd_Pl_giveHeights 24 (q := (42, .aaload, 1)) rfl
  have k43 : decode b_Pl_giveHeights 43 = .ok (.invokestatic 192, 3) := pl_dc dd_Pl_giveHeights 25 (q := (43, .invokestatic 192, 3)) rfl
  have k46 : decode b_Pl_giveHeights 46 = .ok (.iinc 2 (-1), 3) := pl_dc dd_Pl_giveHeights 26 (q := (46, .iinc 2 (-1), 3)) rfl
  have k49 : decode b_Pl_giveHeights 49 = .ok (.goto (-16), 3) := pl_dc dd_Pl_giveHeights 27 (q := (49, .goto (-16), 3)) rfl
  have k52 : decode b_Pl_giveHeights 52 = .ok (.return_, 1) := pl_dc dd_Pl_giveHeights 28 (q := (52, .return_, 1)) rfl
  exact (d_seq (p1 := 52) (d_seq (p1 := 26) (d_seq (p1 := 2) (d_istore_n (p1 := 1) F (c_iconst F k0 (by decide)) k1 rfl (hm 2 (by decide))) (d_while (p1 := 10) (p2 := 23) F (b_cmp_t (p1 := 3) (p2 := 7) (pj := 26) F (c_iload_n F k2 rfl) (c_geti (p1 := 4) F 0 2 hg_0_2 (c_aload_n F k3 rfl) k4 lf_PageLayouter_25) k7 (by decide)) (d_seq (p1 := 20) (d_callS (p1 := 17) F (a_i_ok (p1 := 16) (a_r_ok (p1 := 10) a_nil_ok (c_aald (p1 := 14) (p2 := 15) F (c_getr (p1 := 11) F 0 0 hg_0_0 (c_aload_n F k10 rfl) k11 lf_PageLayouter_11) (c_iload_n F k14 rfl) k15)) (c_iload_n F k16 rfl)) (z_Heights_fix _) y_Heights_fix_ok lm_PageLayouter_186 k17 r_Heights_fix (by decide)) (d_iinc F k20 (by decide) (hm 2 (by decide)))) k23 (by decide))) (d_seq (p1 := 33) (d_istore_n (p1 := 32) F (c_bin 1 (p1 := 30) (p2 := 31) (c_geti (p1 := 27) F 0 2 hg_0_2 (c_aload_n F k26 rfl) k27 lf_PageLayouter_25) (c_iconst F k30 (by decide)) pl_c1 (j_isub F k31)) k32 rfl (hm 2 (by decide))) (d_while (p1 := 37) (p2 := 49) F (b_zero_t (p1 := 34) (pj := 52) F (c_iload_n F k33 rfl) k34 (by decide)) (d_seq (p1 := 46) (d_callS (p1 := 43) F (a_r_ok (p1 := 37) a_nil_ok (c_aald (p1 := 41) (p2 := 42) F (c_getr (p1 := 38) F 0 0 hg_0_0 (c_aload_n F k37 rfl) k38 lf_PageLayouter_11) (c_iload_n F k41 rfl) k42)) (z_Heights_give _) y_Heights_give_ok lm_PageLayouter_192 k43 r_Heights_give (by decide)) (d_iinc F k46 (by decide) (hm 2 (by decide)))) k49 (by decide)))) (d_retv F Fm.2.1 Fm.2.2.1 k52)))
def y_Box_moveTo : MethodName := ⟨"PageLayouter$Box", "moveTo", "(II)V"⟩
abbrev b_Box_moveTo : ByteArray := prog_2_method_19_code
abbrev n_Box_moveTo : Nat := 3
theorem y_Box_moveTo_ok : pl_MV 1 y_Box_moveTo b_Box_moveTo n_Box_moveTo (Option.none : Option Jvm.ClassFile.FieldType) 2 := ⟨pl_mem 615 (by decide +kernel) (by decide +kernel), pl_mem 613 (by decide +kernel) (by decide +kernel), pl_mem 614 (by decide +kernel) (by decide +kernel), pl_mem 45 (by decide +kernel) (by decide +kernel), ⟨by decide, by decide, by decide +kernel⟩, _, rfl, rfl⟩
def D_Box_moveTo : List (Nat × Instr × Nat) := [(0, .aload_n 0, 1), (1, .iload_n 1, 1), (2, .aload_n 0, 1), (3, .getfield 34, 3), (6, .bipush 10, 2), (8, .iaload, 1), (9, .iadd, 1), (10, .putfield 86, 3), (13, .aload_n 0, 1), (14, .iload_n 2, 1), (15, .aload_n 0, 1), (16, .getfield 34, 3), (19, .bipush 11, 2), (21, .iaload, 1), (22, .iadd, 1), (23, .putfield 89, 3), (26, .return_, 1)]
theorem dd_Box_moveTo : (D_Box_moveTo.all fun q => decide (decode b_Box_moveTo q.1 = .ok q.2)) = true := by decide +kernel
def t_Box_moveTo : pl_TR := fun P _ _ => s_seq (s_seq (s_puti 1 17 (e_locr 0) (e_bin (fun x y : Int32 => x + y) (e_loc 1) (e_ald 1 (e_getr 1 4 (e_locr 0)) (e_int 10)))) (s_puti 1 18 (e_locr 0) (e_bin (fun x y : Int32 => x + y) (e_loc 2) (e_ald 1 (e_getr 1 4 (e_locr 0)) (e_int 11))))) (s_retv P)
theorem z_Box_moveTo (l : Launch) : pl_Ctr l y_Box_moveTo b_Box_moveTo n_Box_moveTo (Option.none : Option Jvm.ClassFile.FieldType) 0 0 0 0 false t_Box_moveTo := pl_ctr_of (pe := 0) (by decide) (fun X Y P F Fm => by
  have F : pl_Fx X Y "PageLayouter$Box" b_Box_moveTo := F
  have k0 : decode b_Box_moveTo 0 = .ok (.aload_n 0, 1) := pl_dc dd_Box_moveTo 0 (q := (0, .aload_n 0, 1)) rfl
  have k1 : decode b_Box_moveTo 1 = .ok (.iload_n 1, 1) := pl_dc dd_Box_moveTo 1 (q := (1, .iload_n 1, 1)) rfl
  have k2 : decode b_Box_moveTo 2 = .ok (.aload_n 0, 1) := pl_dc dd_Box_moveTo 2 (q := (2, .aload_n 0, 1)) rfl
  have k3 : decode b_Box_moveTo 3 = .ok (.getfield 34, 3) := pl_dc dd_Box_moveTo 3 (q := (3, .getfield 34, 3)) rfl
  have k6 : decode b_Box_moveTo 6 = .ok (.bipush 10, 2) := pl_dc dd_Box_moveTo 4 (q := (6, .bipush 10, 2)) rfl
  have k8 : decode b_Box_moveTo 8 = .ok (.iaload, 1) := pl_dc dd_Box_moveTo 5 (q := (8, .iaload, 1)) rfl
  have k9 : decode b_Box_moveTo 9 = .ok (.iadd, 1) := pl_dc dd_Box_moveTo 6 (q := (9, .iadd, 1)) rfl
  have k10 : decode b_Box_moveTo 10 = .ok (.putfield 86, 3) := pl_dc dd_Box_moveTo 7 (q := (10, .putfield 86, 3)) rfl
  have k13 : decode b_Box_moveTo 13 = .ok (.aload_n 0, 1) := pl_dc dd_Box_moveTo 8 (q := (13, .aload_n 0, 1)) rfl
  have k14 : decode b_Box_moveTo 14 = .ok (.iload_n 2, 1) := pl_dc dd_Box_moveTo 9 (q := (14, .iload_n 2, 1)) rfl
  have k15 : decode b_Box_moveTo 15 = .ok (.aload_n 0, 1) := pl_dc dd_Box_moveTo 10 (q := (15, .aload_n 0, 1)) rfl
  have k16 : decode b_Box_moveTo 16 = .ok (.getfield 34, 3) := pl_dc dd_Box_moveTo 11 (q := (16, .getfield 34, 3)) rfl
  have k19 : decode b_Box_moveTo 19 = .ok (.bipush 11, 2) := pl_dc dd_Box_moveTo 12 (q := (19, .bipush 11, 2)) rfl
  have k21 : decode b_Box_moveTo 21 = .ok (.iaload, 1) := pl_dc dd_Box_moveTo 13 (q := (21, .iaload, 1)) rfl
  have k22 : decode b_Box_moveTo 22 = .ok (.iadd, 1) := pl_dc dd_Box_moveTo 14 (q := (22, .iadd, 1)) rfl
  have k23 : decode b_Box_moveTo 23 = .ok (.putfield 89, 3) := pl_dc dd_Box_moveTo 15 (q := (23, .putfield 89, 3)) rfl
  have k26 : decode b_Box_moveTo 26 = .ok (.return_, 1) := pl_dc dd_Box_moveTo 16 (q := (26, .return_, 1)) rfl
  exact (d_seq (p1 := 26) (d_seq (p1 := 13) (d_puti (p1 := 1) (p2 := 10) F 1 17 hp_1_17 (c_aload_n F k0 rfl) (c_bin 1 (p1 := 2) (p2 := 9) (c_iload_n F k1 rfl) (c_iald (p1 := 6) (p2 := 8) F (c_getr (p1 := 3) F 1 4 hg_1_4 (c_aload_n F k2 rfl) k3 lf_Box_34) (c_bipush F k6 (by decide)) k8) pl_c1 (j_iadd F k9)) k10 lf_Box_86) (d_puti (p1 := 14) (p2 := 23) F 1 18 hp_1_18 (c_aload_n F k13 rfl) (c_bin 1 (p1 := 15) (p2 := 22) (c_iload_n F k14 rfl) (c_iald (p1 := 19) (p2 := 21) F (c_getr (p1 := 16) F 1 4 hg_1_4 (c_aload_n F k15 rfl) k16 lf_Box_34) (c_bipush F k19 (by decide)) k21) pl_c1 (j_iadd F k22)) k23 lf_Box_89)) (d_retv F Fm.2.1 Fm.2.2.1 k26)))
def y_Places_standBeside : MethodName := ⟨"PageLayouter$Places", "standBeside", "(LPageLayouter$Box;II)V"⟩
abbrev b_Places_standBeside : ByteArray := prog_7_method_3_code
abbrev n_Places_standBeside : Nat := 5
theorem y_Places_standBeside_ok : pl_MS y_Places_standBeside b_Places_standBeside n_Places_standBeside (Option.none : Option Jvm.ClassFile.FieldType) 3 := ⟨pl_mem 622 (by decide +kernel) (by decide +kernel), pl_mem 621 (by decide +kernel) (by decide +kernel), pl_mem 60 (by decide +kernel) (by decide +kernel), ⟨by decide, by decide, by decide +kernel⟩⟩
def D_Places_standBeside : List (Nat × Instr × Nat) := [(0, .iload_n 1, 1), (1, .istore_n 3, 1), (2, .aload_n 0, 1), (3, .invokevirtual 52, 3), (6, .astore 4, 2), (8, .aload 4, 2), (10, .ifnull 40, 3), (13, .aload 4, 2), (15, .iload_n 3, 1), (16, .aload 4, 2), (18, .invokevirtual 42, 3), (21, .iadd, 1), (22, .iload_n 2, 1), (23, .aload 4, 2), (25, .invokevirtual 42, 3), (28, .iadd, 1), (29, .invokevirtual 45, 3), (32, .iload_n 3, 1), (33, .aload 4, 2), (35, .invokevirtual 56, 3), (38, .iadd, 1), (39, .istore_n 3, 1), (40, .aload 4, 2), (42, .invokevirtual 59, 3), (45, .astore 4, 2), (47, .goto (-39), 3), (50, .return_, 1)]
theorem dd_Places_standBeside : (D_Places_standBeside.all fun q => decide (decode b_Places_standBeside q.1 = .ok q.2)) = true := by decide +kernel
def t_Places_standBeside : pl_TR := fun P _ _ => s_seq (s_seq (s_seti 3 (e_loc 1)) (s_seq (s_setr 4 (e_callV id 1 t_Box_firstInFlow n_Box_firstInFlow (a_r a_nil (e_locr 0)))) (s_while (b_nn (e_locr 4)) (s_seq (s_seq (s_callV 1 t_Box_moveTo n_Box_moveTo (a_i (a_i (a_r a_nil (e_locr 4)) (e_bin (fun x y : Int32 => x + y) (e_loc 3) (e_callV Value.int 1 t_Box_margin n_Box_margin (a_r a_nil (e_locr 4))))) (e_bin (fun x y : Int32 => x + y) (e_loc 2) (e_callV Value.int 1 t_Box_margin n_Box_margin (a_r a_nil (e_locr 4)))))) (s_seti 3 (e_bin (fun x y : Int32 => x + y) (e_loc 3) (e_callV Value.int 1 t_Box_roomWidth n_Box_roomWidth (a_r a_nil (e_locr 4)))))) (s_setr 4 (e_callV id 1 t_Box_nextInFlow n_Box_nextInFlow (a_r a_nil (e_locr 4)))))))) (s_retv P)
theorem z_Places_standBeside (l : Launch) : pl_Ctr l y_Places_standBeside b_Places_standBeside n_Places_standBeside (Option.none : Option Jvm.ClassFile.FieldType) 3 60 0 0 false t_Places_standBeside := pl_ctr_of (pe := 0) (by decide) (fun X Y P F Fm => by
  have F : pl_Fx X Y "PageLayouter$Places" b_Places_standBeside := F
  have r_Box_firstInFlow : 1 + 1 ≤ (pl_xR X).frames ∧ 8 + (n_Box_firstInFlow + 11) + 20 ≤ (pl_xR X).locals := ⟨Nat.le_trans (by decide) Fm.2.2.2.2.2.1, Nat.le_trans (by decide) Fm.2.2.2.2.2.2.1⟩
  have r_Box_margin : 0 + 1 ≤ (pl_xR X).frames ∧ 8 + (n_Box_margin + 11) + 0 ≤ (pl_xR X).locals := ⟨Nat.le_trans (by decide) Fm.2.2.2.2.2.1, Nat.le_trans (by decide) Fm.2.2.2.2.2.2.1⟩
  have r_Box_moveTo : 0 + 1 ≤ (pl_xR X).frames ∧ 8 + (n_Box_moveTo + 11) + 0 ≤ (pl_xR X).locals := ⟨Nat.le_trans (by decide) Fm.2.2.2.2.2.1, Nat.le_trans (by decide) Fm.2.2.2.2.2.2.1⟩
  have r_Box_nextInFlow : 1 + 1 ≤ (pl_xR X).frames ∧ 8 + (n_Box_nextInFlow + 11) + 20 ≤ (pl_xR X).locals := ⟨Nat.le_trans (by decide) Fm.2.2.2.2.2.1, Nat.le_trans (by decide) Fm.2.2.2.2.2.2.1⟩
  have r_Box_roomWidth : 2 + 1 ≤ (pl_xR X).frames ∧ 8 + (n_Box_roomWidth + 11) + 40 ≤ (pl_xR X).locals := ⟨Nat.le_trans (by decide) Fm.2.2.2.2.2.1, Nat.le_trans (by decide) Fm.2.2.2.2.2.2.1⟩
  have hm : ∀ i, i < 5 → i < (pl_xc X).maxLocals := fun i h => by rw [Fm.2.2.2.1]; exact h
  have k0 : decode b_Places_standBeside 0 = .ok (.iload_n 1, 1) := pl_dc dd_Places_standBeside 0 (q := (0, .iload_n 1, 1)) rfl
  have k1 : decode b_Places_standBeside 1 = .ok (.istore_n 3, 1) := pl_dc dd_Places_standBeside 1 (q := (1, .istore_n 3, 1)) rfl
  have k2 : decode b_Places_standBeside 2 = .ok (.aload_n 0, 1) := pl_dc dd_Places_standBeside 2 (q := (2, .aload_n 0, 1)) rfl
  have k3 : decode b_Places_standBeside 3 = .ok (.invokevirtual 52, 3) := pl_dc dd_Places_standBeside 3 (q := (3, .invokevirtual 52, 3)) rfl
  have k6 : decode b_Places_standBeside 6 = .ok (.astore 4, 2) := pl_dc dd_Places_standBeside 4 (q := (6, .astore 4, 2)) rfl
  have k8 : decode b_Places_standBeside 8 = .ok (.aload 4, 2) := pl_dc dd_Places_standBeside 5 (q := (8, .aload 4, 2)) rfl
  have k10 : decode b_Places_standBeside 10 = .ok (.ifnull 40, 3) := pl_dc dd_Places_standBeside 6 (q := (10, .ifnull 40, 3)) rfl
  have k13 : decode b_Places_standBeside 13 = .ok (.aload 4, 2) := pl_dc dd_Places_standBeside 7 (q := (13, .aload 4, 2)) rfl
  have k15 : decode b_Places_standBeside 15 = .ok (.iload_n 3, 1) := pl_dc dd_Places_standBeside 8 (q := (15, .iload_n 3, 1)) rfl
  have k16 : decode b_Places_standBeside 16 = .ok (.aload 4, 2) := pl_dc dd_Places_standBeside 9 (q := (16, .aload 4, 2)) rfl
  have k18 : decode b_Places_standBeside 18 = .ok (.invokevirtual 42, 3) := pl_dc dd_Places_standBeside 10 (q := (18, .invokevirtual 42, 3)) rfl
  have k21 : decode b_Places_standBeside 21 = .ok (.iadd, 1) := pl_dc dd_Places_standBeside 11 (q := (21, .iadd, 1)) rfl
  have k22 : decode b_Places_standBeside 22 = .ok (.iload_n 2, 1) := pl_dc dd_Places_standBeside 12 (q := (22, .iload_n 2, 1)) rfl
  have k23 : decode b_Places_standBeside 23 = .ok (.aload 4, 2) := pl_dc dd_Places_standBeside 13 (q := (23, .aload 4, 2)) rfl
  have k25 : decode b_Places_standBeside 25 = .ok (.invokevirtual 42, 3) := pl_dc dd_Places_standBeside 14 (q := (25, .invokevirtual 42, 3)) rfl
  have k28 : decode b_Places_standBeside 28 = .ok (.iadd, 1) := pl_dc dd_Places_standBeside 15 (q := (28, .iadd, 1)) rfl
  have k29 : decode b_Places_standBeside 29 = .ok (.invokevirtual 45, 3) := pl_dc dd_Places_standBeside 16 (q := (29, .invokevirtual 45, 3)) rfl
  have k32 : decode b_Places_standBeside 32 = .ok (.iload_n 3, 1) := pl_dc dd_Places_standBeside 17 (q := (32, .iload_n 3, 1)) rfl
  have k33 : decode b_Places_standBeside 33 = .ok (.aload 4, 2) := pl_dc dd_Places_standBeside 18 (q := (33, .aload 4, 2)) rfl
  have k35 : decode b_Places_standBeside 35 = .ok (.invokevirtual 56, 3) := pl_dc dd_Places_standBeside 19 (q := (35, .invokevirtual 56, 3)) rfl
  have k38 : decode b_Places_standBeside 38 = .ok (.iadd, 1) := pl_dc dd_Places_standBeside 20 (q := (38, .iadd, 1)) rfl
  have k39 : decode b_Places_standBeside 39 = .ok (.istore_n 3, 1) := pl_dc dd_Places_standBeside 21 (q := (39, .istore_n 3, 1)) rfl
  have k40 : decode b_Places_standBeside 40 = .ok (.aload 4, 2) := pl_dc dd_Places_standBeside 22 (q := (40, .aload 4, 2)) rfl
  have k42 : decode b_Places_standBeside 42 = .ok (.invokevirtual 59, 3) := pl_dc dd_Places_standBeside 23 (q := (42, .invokevirtual 59, 3)) rfl
  have k45 : decode b_Places_standBeside 45 = .ok (.astore 4, 2) := pl_dc dd_Places_standBeside 24 (q := (45, .astore 4, 2)) rfl
  have k47 : decode b_Places_standBeside 47 = .ok (.goto (-39), 3) := pl_dc dd_Places_standBeside 25 (q := (47, .goto (-39), 3)) rfl
  have k50 : decode b_Places_standBeside 50 = .ok (.return_, 1) := pl_dc dd_Places_standBeside 26 (q := (50, .return_, 1)) rfl
  exact (d_seq (p1 := 50) (d_seq (p1 := 2) (d_istore_n (p1 := 1) F (c_iload_n F k0 rfl) k1 rfl (hm 3 (by decide))) (d_seq (p1 := 8) (d_astore (p1 := 6) F (c_callV (p1 := 3) F (a_r_ok (p1 := 2) a_nil_ok (c_aload_n F k2 rfl)) (z_Box_firstInFlow _) y_Box_firstInFlow_ok lm_Places_52 k3 r_Box_firstInFlow (by decide) (by decide)) k6 (hm 4 (by decide))) (d_while (p1 := 13) (p2 := 47) F (b_nn_t (p1 := 10) (pj := 50) F (c_aload F k8) k10 (by decide)) (d_seq (p1 := 40) (d_seq (p1 := 32) (d_callV (p1 := 29) F (a_i_ok (p1 := 22) (a_i_ok (p1 := 15) (a_r_ok (p1 := 13) a_nil_ok (c_aload F k13)) (c_bin 1 (p1 := 16) (p2 := 21) (c_iload_n F k15 rfl) (c_callV (p1 := 18) F (a_r_ok (p1 := 16) a_nil_ok (c_aload F k16)) (z_Box_margin _) y_Box_margin_ok lm_Places_42 k18 r_Box_margin (by decide) (by decide)) pl_c1 (j_iadd F k21))) (c_bin 1 (p1 := 23) (p2 := 28) (c_iload_n F k22 rfl) (c_callV (p1 := 25) F (a_r_ok (p1 := 23) a_nil_ok (c_aload F k23)) (z_Box_margin _) y_Box_margin_ok lm_Places_42 k25 r_Box_margin (by decide) (by decide)) pl_c1 (j_iadd F k28))) (z_Box_moveTo _) y_Box_moveTo_ok lm_Places_45 k29 r_Box_moveTo (by decide)) (d_istore_n (p1 := 39) F (c_bin 1 (p1 := 33) (p2 := 38) (c_iload_n F k32 rfl) (c_callV (p1 := 35) F (a_r_ok (p1 := 33) a_nil_ok (c_aload F k33)) (z_Box_roomWidth _) y_Box_roomWidth_ok lm_Places_56 k35 r_Box_roomWidth (by decide) (by decide)) pl_c1 (j_iadd F k38)) k39 rfl (hm 3 (by decide)))) (d_astore (p1 := 45) F (c_callV (p1 := 42) F (a_r_ok (p1 := 40) a_nil_ok (c_aload F k40)) (z_Box_nextInFlow _) y_Box_nextInFlow_ok lm_Places_59 k42 r_Box_nextInFlow (by decide) (by decide)) k45 (hm 4 (by decide)))) k47 (by decide)))) (d_retv F Fm.2.1 Fm.2.2.1 k50)))
