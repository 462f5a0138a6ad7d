/-! Methods: a transformer for each, and that its bytes do it (laid by wip/whole/drive.py) -/
def y_Places_standBelow : MethodName := ⟨"PageLayouter$Places", "standBelow", "(LPageLayouter$Box;II)V"⟩
abbrev b_Places_standBelow : ByteArray := prog_7_method_4_code
abbrev n_Places_standBelow : Nat := 6
theorem y_Places_standBelow_ok : pl_MS y_Places_standBelow b_Places_standBelow n_Places_standBelow (Option.none : Option Jvm.ClassFile.FieldType) 3 := ⟨pl_mem 630 (by decide +kernel) (by decide +kernel), pl_mem 629 (by decide +kernel) (by decide +kernel), pl_mem 60 (by decide +kernel) (by decide +kernel), ⟨by decide, by decide, by decide +kernel⟩⟩
def D_Places_standBelow : List (Nat × Instr × Nat) := [(0, .iload_n 2, 1), (1, .istore_n 3, 1), (2, .iconst 0, 1), (3, .istore 4, 2), (5, .aload_n 0, 1), (6, .invokevirtual 52, 3), (9, .astore 5, 2), (11, .aload 5, 2), (13, .ifnull 54, 3), (16, .iload_n 3, 1), (17, .iload 4, 2), (19, .aload 5, 2), (21, .invokevirtual 42, 3), (24, .invokestatic 62, 3), (27, .iadd, 1), (28, .istore_n 3, 1), (29, .aload 5, 2), (31, .iload_n 1, 1), (32, .aload 5, 2), (34, .invokevirtual 42, 3), (37, .iadd, 1), (38, .iload_n 3, 1), (39, .invokevirtual 45, 3), (42, .iload_n 3, 1), (43, .aload 5, 2), (45, .invokevirtual 68, 3), (48, .iadd, 1), (49, .istore_n 3, 1), (50, .aload 5, 2), (52, .invokevirtual 42, 3), (55, .istore 4, 2), (57, .aload 5, 2), (59, .invokevirtual 59, 3), (62, .astore 5, 2), (64, .goto (-53), 3), (67, .return_, 1)]
theorem dd_Places_standBelow : (D_Places_standBelow.all fun q => decide (decode b_Places_standBelow q.1 = .ok q.2)) = true := by decide +kernel
def t_Places_standBelow : pl_TR := fun P _ _ => s_seq (s_seq (s_seti 3 (e_loc 2)) (s_seq (s_seti 4 (e_int 0)) (s_seq (s_setr 5 (e_callV id 1 t_Box_firstInFlow n_Box_firstInFlow (a_r a_nil (e_locr 0)))) (s_while (b_nn (e_locr 5)) (s_seq (s_seq (s_seti 3 (e_bin (fun x y : Int32 => x + y) (e_loc 3) (e_bin pl_max (e_loc 4) (e_callV Value.int 1 t_Box_margin n_Box_margin (a_r a_nil (e_locr 5)))))) (s_seq (s_callV 1 t_Box_moveTo n_Box_moveTo (a_i (a_i (a_r a_nil (e_locr 5)) (e_bin (fun x y : Int32 => x + y) (e_loc 1) (e_callV Value.int 1 t_Box_margin n_Box_margin (a_r a_nil (e_locr 5))))) (e_loc 3))) (s_seq (s_seti 3 (e_bin (fun x y : Int32 => x + y) (e_loc 3) (e_callV Value.int 1 t_Box_frameHeight n_Box_frameHeight (a_r a_nil (e_locr 5))))) (s_seti 4 (e_callV Value.int 1 t_Box_margin n_Box_margin (a_r a_nil (e_locr 5))))))) (s_setr 5 (e_callV id 1 t_Box_nextInFlow n_Box_nextInFlow (a_r a_nil (e_locr 5))))))))) (s_retv P)
theorem z_Places_standBelow (l : Launch) : pl_Ctr l y_Places_standBelow b_Places_standBelow n_Places_standBelow (Option.none : Option Jvm.ClassFile.FieldType) 2 41 0 0 false t_Places_standBelow := pl_ctr_of (pe := 0) (by decide) (fun X Y P F Fm => by
  have F : pl_Fx X Y "PageLayouter$Places" b_Places_standBelow := F
  have r_Box_firstInFlow : 1 + 1 ≤ (pl_xR X).frames ∧ 8 + (n_Box_firstInFlow + 11) + 20 ≤ (pl_xR X).locals := ⟨Nat.le_trans (by decide) Fm.2.2.2.2.2.1, Nat.le_trans (by decide) Fm.2.2.2.2.2.2.1⟩
  have r_Box_frameHeight : 1 + 1 ≤ (pl_xR X).frames ∧ 8 + (n_Box_frameHeight + 11) + 20 ≤ (pl_xR X).locals := ⟨Nat.le_trans (by decide) Fm.2.2.2.2.2.1, Nat.le_trans (by decide) Fm.2.2.2.2.2.2.1⟩
  have r_Box_margin : 0 + 1 ≤ (pl_xR X).frames ∧ 8 + (n_Box_margin + 11) + 0 ≤ (pl_xR X).locals := ⟨Nat.le_trans (by decide) Fm.2.2.2.2.2.1, Nat.le_trans (by decide) Fm.2.2.2.2.2.2.1⟩
  have r_Box_moveTo : 0 + 1 ≤ (pl_xR X).frames ∧ 8 + (n_Box_moveTo + 11) + 0 ≤ (pl_xR X).locals := ⟨Nat.le_trans (by decide) Fm.2.2.2.2.2.1, Nat.le_trans (by decide) Fm.2.2.2.2.2.2.1⟩
  have r_Box_nextInFlow : 1 + 1 ≤ (pl_xR X).frames ∧ 8 + (n_Box_nextInFlow + 11) + 20 ≤ (pl_xR X).locals := ⟨Nat.le_trans (by decide) Fm.2.2.2.2.2.1, Nat.le_trans (by decide) Fm.2.2.2.2.2.2.1⟩
  have R0 : 1 ≤ (pl_xR X).frames ∧ 21 ≤ (pl_xR X).locals := ⟨Nat.le_trans (by decide) Fm.2.2.2.2.2.1, Nat.le_trans (by decide) Fm.2.2.2.2.2.2.1⟩
  have hm : ∀ i, i < 6 → i < (pl_xc X).maxLocals := fun i h => by rw [Fm.2.2.2.1]; exact h
  have k0 : decode b_Places_standBelow 0 = .ok (.iload_n 2, 1) := pl_dc dd_Places_standBelow 0 (q := (0, .iload_n 2, 1)) rfl
  have k1 : decode b_Places_standBelow 1 = .ok (.istore_n 3, 1) := pl_dc dd_Places_standBelow 1 (q := (1, .istore_n 3, 1)) rfl
  have k2 : decode b_Places_standBelow 2 = .ok (.iconst 0, 1) := pl_dc dd_Places_standBelow 2 (q := (2, .iconst 0, 1)) rfl
  have k3 : decode b_Places_standBelow 3 = .ok (.istore 4, 2) := pl_dc dd_Places_standBelow 3 (q := (3, .istore 4, 2)) rfl
  have k5 : decode b_Places_standBelow 5 = .ok (.aload_n 0, 1) := pl_dc dd_Places_standBelow 4 (q := (5, .aload_n 0, 1)) rfl
  have k6 : decode b_Places_standBelow 6 = .ok (.invokevirtual 52, 3) := pl_dc dd_Places_standBelow 5 (q := (6, .invokevirtual 52, 3)) rfl
  have k9 : decode b_Places_standBelow 9 = .ok (.astore 5, 2) := pl_dc dd_Places_standBelow 6 (q := (9, .astore 5, 2)) rfl
  have k11 : decode b_Places_standBelow 11 = .ok (.aload 5, 2) := pl_dc dd_Places_standBelow 7 (q := (11, .aload 5, 2)) rfl
  have k13 : decode b_Places_standBelow 13 = .ok (.ifnull 54, 3) := pl_dc dd_Places_standBelow 8 (q := (13, .ifnull 54, 3)) rfl
  have k16 : decode b_Places_standBelow 16 = .ok (.iload_n 3, 1) := pl_dc dd_Places_standBelow 9 (q := (16, .iload_n 3, 1)) rfl
  have k17 : decode b_Places_standBelow 17 = .ok (.iload 4, 2) := pl_dc dd_Places_standBelow 10 (q := (17, .iload 4, 2)) rfl
  have k19 : decode b_Places_standBelow 19 = .ok (.aload 5, 2) := pl_dc dd_Places_standBelow 11 (q := (19, .aload 5, 2)) rfl
  have k21 : decode b_Places_standBelow 21 = .ok (.invokevirtual 42, 3) := pl_dc dd_Places_standBelow 12 (q := (21, .invokevirtual 42, 3)) rfl
  have k24 : decode b_Places_standBelow 24 = .ok (.invokestatic 62, 3) := pl_dc dd_Places_standBelow 13 (q := (24, .invokestatic 62, 3)) rfl
  have k27 : decode b_Places_standBelow 27 = .ok (.iadd, 1) := pl_dc dd_Places_standBelow 14 (q := (27, .iadd, 1)) rfl
  have k28 : decode b_Places_standBelow 28 = .ok (.istore_n 3, 1) := pl_dc dd_Places_standBelow 15 (q := (28, .istore_n 3, 1)) rfl
  have k29 : decode b_Places_standBelow 29 = .ok (.aload 5, 2) := pl_dc dd_Places_standBelow 16 (q := (29, .aload 5, 2)) rfl
  have k31 : decode b_Places_standBelow 31 = .ok (.iload_n 1, 1) := pl_dc dd_Places_standBelow 17 (q := (31, .iload_n 1, 1)) rfl
  have k32 : decode b_Places_standBelow 32 = .ok (.aload 5, 2) := pl_dc dd_Places_standBelow 18 (q := (32, .aload 5, 2)) rfl
  have k34 : decode b_Places_standBelow 34 = .ok (.invokevirtual 42, 3) := pl_dc dd_Places_standBelow 19 (q := (34, .invokevirtual 42, 3)) rfl
  have k37 : decode b_Places_standBelow 37 = .ok (.iadd, 1) := pl_dc dd_Places_standBelow 20 (q := (37, .iadd, 1)) rfl
  have k38 : decode b_Places_standBelow 38 = .ok (.iload_n 3, 1) := pl_dc dd_Places_standBelow 21 (q := (38, .iload_n 3, 1)) rfl
  have k39 : decode b_Places_standBelow 39 = .ok (.invokevirtual 45, 3) := pl_dc dd_Places_standBelow 22 (q := (39, .invokevirtual 45, 3)) rfl
  have k42 : decode b_Places_standBelow 42 = .ok (.iload_n 3, 1) := pl_dc dd_Places_standBelow 23 (q := (42, .iload_n 3, 1)) rfl
  have k43 : decode b_Places_standBelow 43 = .ok (.aload 5, 2) := pl_dc dd_Places_standBelow 24 (q := (43, .aload 5, 2)) rfl
  have k45 : decode b_Places_standBelow 45 = .ok (.invokevirtual 68, 3) := pl_dc dd_Places_standBelow 25 (q := (45, .invokevirtual 68, 3)) rfl
  have k48 : decode b_Places_standBelow 48 = .ok (.iadd, 1) := pl_dc dd_Places_standBelow 26 (q := (48, .iadd, 1)) rfl
  have k49 : decode b_Places_standBelow 49 = .ok (.istore_n 3, 1) := pl_dc dd_Places_standBelow 27 (q := (49, .istore_n 3, 1)) rfl
  have k50 : decode b_Places_standBelow 50 = .ok (.aload 5, 2) := pl_dc dd_Places_standBelow 28 (q := (50, .aload 5, 2)) rfl
  have k52 : decode b_Places_standBelow 52 = .ok (.invokevirtual 42, 3) := pl_dc dd_Places_standBelow 29 (q := (52, .invokevirtual 42, 3)) rfl
  have k55 : decode b_Places_standBelow 55 = .ok (.istore 4, 2) := pl_dc dd_Places_standBelow 30 (q := (55, .istore 4, 2)) rfl
  have k57 : decode b_Places_standBelow 57 = .ok (.aload 5, 2) := pl_dc dd_Places_standBelow 31 (q := (57, .aload 5, 2)) rfl
  have k59 : decode b_Places_standBelow 59 = .ok (.invokevirtual 59, 3) := pl_dc dd_Places_standBelow 32 (q := (59, .invokevirtual 59, 3)) rfl
  have k62 : decode b_Places_standBelow 62 = .ok (.astore 5, 2) := pl_dc dd_Places_standBelow 33 (q := (62, .astore 5, 2)) rfl
  have k64 : decode b_Places_standBelow 64 = .ok (.goto (-53), 3) := pl_dc dd_Places_standBelow 34 (q := (64, .goto (-53), 3)) rfl
  have k67 : decode b_Places_standBelow 67 = .ok (.return_, 1) := pl_dc dd_Places_standBelow 35 (q := (67, .return_, 1)) rfl
  exact (d_seq (p1 := 67) (d_seq (p1 := 2) (d_istore_n (p1 := 1) F (c_iload_n F k0 rfl) k1 rfl (hm 3 (by decide))) (d_seq (p1 := 5) (d_istore (p1 := 3) F (c_iconst F k2 (by decide)) k3 (hm 4 (by decide))) (d_seq (p1 := 11) (d_astore (p1 := 9) F (c_callV (p1 := 6) F (a_r_ok (p1 := 5) a_nil_ok (c_aload_n F k5 rfl)) (z_Box_firstInFlow _) y_Box_firstInFlow_ok lm_Places_52 k6 r_Box_firstInFlow (by decide) (by decide)) k9 (hm 5 (by decide))) (d_while (p1 := 16) (p2 := 64) F (b_nn_t (p1 := 13) (pj := 67) F (c_aload F k11) k13 (by decide)) (d_seq (p1 := 57) (d_seq (p1 := 29) (d_istore_n (p1 := 28) F (c_bin 1 (p1 := 17) (p2 := 27) (c_iload_n F k16 rfl) (c_max (p1 := 19) (p2 := 24) F (c_iload F k17) (c_callV (p1 := 21) F (a_r_ok (p1 := 19) a_nil_ok (c_aload F k19)) (z_Box_margin _) y_Box_margin_ok lm_Places_42 k21 r_Box_margin (by decide) (by decide)) k24 lm_Places_62 hm_max R0 (by decide)) pl_c1 (j_iadd F k27)) k28 rfl (hm 3 (by decide))) (d_seq (p1 := 42) (d_callV (p1 := 39) F (a_i_ok (p1 := 38) (a_i_ok (p1 := 31) (a_r_ok (p1 := 29) a_nil_ok (c_aload F k29)) (c_bin 1 (p1 := 32) (p2 := 37) (c_iload_n F k31 rfl) (c_callV (p1 := 34) F (a_r_ok (p1 := 32) a_nil_ok (c_aload F k32)) (z_Box_margin _) y_Box_margin_ok lm_Places_42 k34 r_Box_margin (by decide) (by decide)) pl_c1 (j_iadd F k37))) (c_iload_n F k38 rfl)) (z_Box_moveTo _) y_Box_moveTo_ok lm_Places_45 k39 r_Box_moveTo (by decide)) (d_seq (p1 := 50) (d_istore_n (p1 := 49) F (c_bin 1 (p1 := 43) (p2 := 48) (c_iload_n F k42 rfl) (c_callV (p1 := 45) F (a_r_ok (p1 := 43) a_nil_ok (c_aload F k43)) (z_Box_frameHeight _) y_Box_frameHeight_ok lm_Places_68 k45 r_Box_frameHeight (by decide) (by decide)) pl_c1 (j_iadd F k48)) k49 rfl (hm 3 (by decide))) (d_istore (p1 := 55) F (c_callV (p1 := 52) F (a_r_ok (p1 := 50) a_nil_ok (c_aload F k50)) (z_Box_margin _) y_Box_margin_ok lm_Places_42 k52 r_Box_margin (by decide) (by decide)) k55 (hm 4 (by decide)))))) (d_astore (p1 := 62) F (c_callV (p1 := 59) F (a_r_ok (p1 := 57) a_nil_ok (c_aload F k57)) (z_Box_nextInFlow _) y_Box_nextInFlow_ok lm_Places_59 k59 r_Box_nextInFlow (by decide) (by decide)) k62 (hm 5 (by decide)))) k64 (by decide))))) (d_retv F Fm.2.1 Fm.2.2.1 k67)))
def y_Places_giveChildren : MethodName := ⟨"PageLayouter$Places", "giveChildren", "(LPageLayouter$Box;)V"⟩
abbrev b_Places_giveChildren : ByteArray := prog_7_method_2_code
abbrev n_Places_giveChildren : Nat := 4
theorem y_Places_giveChildren_ok : pl_MS y_Places_giveChildren b_Places_giveChildren n_Places_giveChildren (Option.none : Option Jvm.ClassFile.FieldType) 1 := ⟨pl_mem 618 (by decide +kernel) (by decide +kernel), pl_mem 617 (by decide +kernel) (by decide +kernel), pl_mem 60 (by decide +kernel) (by decide +kernel), ⟨by decide, by decide, by decide +kernel⟩⟩
def D_Places_giveChildren : List (Nat × Instr × Nat) := [(0, .aload_n 0, 1), (1, .getfield 9, 3), (4, .aload_n 0, 1), (5, .invokevirtual 15, 3), (8, .iadd, 1), (9, .istore_n 1, 1), (10, .aload_n 0, 1), (11, .getfield 19, 3), (14, .aload_n 0, 1), (15, .invokevirtual 15, 3), (18, .iadd, 1), (19, .istore_n 2, 1), (20, .aload_n 0, 1), (21, .getfield 22, 3), (24, .iconst 1, 1), (25, .if_icmp .eq 11, 3), (28, .aload_n 0, 1), (29, .getfield 22, 3), (32, .iconst 3, 1), (33, .if_icmp .ne 12, 3), (36, .aload_n 0, 1), (37, .iload_n 1, 1), (38, .iload_n 2, 1), (39, .invokestatic 25, 3), (42, .goto 9, 3), (45, .aload_n 0, 1), (46, .iload_n 1, 1), (47, .iload_n 2, 1), (48, .invokestatic 31, 3), (51, .aload_n 0, 1), (52, .getfield 34, 3), (55, .astore_n 3, 1), (56, .aload_n 3, 1), (57, .ifnull 34, 3), (60, .aload_n 3, 1), (61, .invokevirtual 38, 3), (64, .ifCond .eq 19, 3), (67, .aload_n 3, 1), (68, .iload_n 1, 1), (69, .aload_n 3, 1), (70, .invokevirtual 42, 3), (73, .iadd, 1), (74, .iload_n 2, 1), (75, .aload_n 3, 1), (76, .invokevirtual 42, 3), (79, .iadd, 1), (80, .invokevirtual 45, 3), (83, .aload_n 3, 1), (84, .getfield 49, 3), (87, .astore_n 3, 1), (88, .goto (-32), 3), (91, .return_, 1)]
theorem dd_Places_giveChildren : (D_Places_giveChildren.all fun q => decide (decode b_Places_giveChildren q.1 = .ok q.2)) = true := by decide +kernel
def t_Places_giveChildren : pl_TR := fun P _ _ => s_seq (s_seq (s_seti 1 (e_bin (fun x y : Int32 => x + y) (e_geti 1 17 (e_locr 0)) (e_callV Value.int 1 t_Box_padding n_Box_padding (a_r a_nil (e_locr 0))))) (s_seq (s_seti 2 (e_bin (fun x y : Int32 => x + y) (e_geti 1 18 (e_locr 0)) (e_callV Value.int 1 t_Box_padding n_Box_padding (a_r a_nil (e_locr 0))))) (s_seq (s_ife (b_or (b_cmp .eq (e_geti 1 8 (e_locr 0)) (e_int 1)) (b_cmp .eq (e_geti 1 8 (e_locr 0)) (e_int 3))) (s_callS t_Places_standBeside n_Places_standBeside (a_i (a_i (a_r a_nil (e_locr 0)) (e_loc 1)) (e_loc 2))) (s_callS t_Places_standBelow n_Places_standBelow (a_i (a_i (a_r a_nil (e_locr 0)) (e_loc 1)) (e_loc 2)))) (s_seq (s_setr 3 (e_getr 1 5 (e_locr 0))) (s_while (b_nn (e_locr 3)) (s_seq (s_if (b_zero .ne (e_callV Value.int 1 t_Box_isFree n_Box_isFree (a_r a_nil (e_locr 3)))) (s_callV 1 t_Box_moveTo n_Box_moveTo (a_i (a_i (a_r a_nil (e_locr 3)) (e_bin (fun x y : Int32 => x + y) (e_loc 1) (e_callV Value.int 1 t_Box_margin n_Box_margin (a_r a_nil (e_locr 3))))) (e_bin (fun x y : Int32 => x + y) (e_loc 2) (e_callV Value.int 1 t_Box_margin n_Box_margin (a_r a_nil (e_locr 3))))))) (s_setr 3 (e_getr 1 7 (e_locr 3))))))))) (s_retv P)
theorem z_Places_giveChildren (l : Launch) : pl_Ctr l y_Places_giveChildren b_Places_giveChildren n_Places_giveChildren (Option.none : Option Jvm.ClassFile.FieldType) 4 84 0 0 false t_Places_giveChildren := pl_ctr_of (pe := 0) (by decide) (fun X Y P F Fm => by
  have F : pl_Fx X Y "PageLayouter$Places" b_Places_giveChildren := F
  have r_Box_isFree : 0 + 1 ≤ (pl_xR X).frames ∧ 8 + (n_Box_isFree + 11) + 0 ≤ (pl_xR X).locals := ⟨Nat.le_trans (by decide) Fm.2.2.2.2.2.1, Nat.le_trans (by decide) Fm.2.2.2.2.2.2.1⟩
  have r_Box_margin : 0 + 1 ≤ (pl_xR X).frames ∧ 8 + (n_Box_margin + 11) + 0 ≤ (pl_xR X).locals := ⟨Nat.le_trans (by decide) Fm.2.2.2.2.2.1, Nat.le_trans (by decide) Fm.2.2.2.2.2.2.1⟩
  have r_Box_moveTo : 0 + 1 ≤ (pl_xR X).frames ∧ 8 + (n_Box_moveTo + 11) + 0 ≤ (pl_xR X).locals := ⟨Nat.le_trans (by decide) Fm.2.2.2.2.2.1, Nat.le_trans (by decide) Fm.2.2.2.2.2.2.1⟩
  have r_Box_padding : 0 + 1 ≤ (pl_xR X).frames ∧ 8 + (n_Box_padding + 11) + 0 ≤ (pl_xR X).locals := ⟨Nat.le_trans (by decide) Fm.2.2.2.2.2.1, Nat.le_trans (by decide) Fm.2.2.2.2.2.2.1⟩
  have r_Places_standBelow : 2 + 1 ≤ (pl_xR X).frames ∧ 8 + (n_Places_standBelow + 11) + 41 ≤ (pl_xR X).locals := ⟨Nat.le_trans (by decide) Fm.2.2.2.2.2.1, Nat.le_trans (by decide) Fm.2.2.2.2.2.2.1⟩
  have r_Places_standBeside : 3 + 1 ≤ (pl_xR X).frames ∧ 8 + (n_Places_standBeside + 11) + 60 ≤ (pl_xR X).locals := ⟨Nat.le_trans (by decide) Fm.2.2.2.2.2.1, Nat.le_trans (by decide) Fm.2.2.2.2.2.2.1⟩
  have hm : ∀ i, i < 4 → i < (pl_xc X).maxLocals := fun i h => by rw [Fm.2.2.2.1]; exact h
  have k0 : decode b_Places_giveChildren 0 = .ok (.aload_n 0, 1) := pl_dc dd_Places_giveChildren 0 (q := (0, .aload_n 0, 1)) rfl
  have k1 : decode b_Places_giveChildren 1 = .ok (.getfield 9, 3) := pl_dc dd_Places_giveChildren 1 (q := (1, .getfield 9, 3)) rfl
  have k4 : decode b_Places_giveChildren 4 = .ok (.aload_n 0, 1) := pl_dc dd_Places_giveChildren 2 (q := (4, .aload_n 0, 1)) rfl
  have k5 : decode b_Places_giveChildren 5 = .ok (.invokevirtual 15, 3) := pl_dc dd_Places_giveChildren 3 (q := (5, .invokevirtual 15, 3)) rfl
  have k8 : decode b_Places_giveChildren 8 = .ok (.iadd, 1) := pl_dc dd_Places_giveChildren 4 (q := (8, .iadd, 1)) rfl
  have k9 : decode b_Places_giveChildren 9 = .ok (.istore_n 1, 1) := pl_dc dd_Places_giveChildren 5 (q := (9, .istore_n 1, 1)) rfl
  have k10 : decode b_Places_giveChildren 10 = .ok (.aload_n 0, 1) := pl_dc dd_Places_giveChildren 6 (q := (10, .aload_n 0, 1)) rfl
  have k11 : decode b_Places_giveChildren 11 = .ok (.getfield 19, 3) := pl_dc dd_Places_giveChildren 7 (q := (11, .getfield 19, 3)) rfl
  have k14 : decode b_Places_giveChildren 14 = .ok (.aload_n 0, 1) := pl_dc dd_Places_giveChildren 8 (q := (14, .aload_n 0, 1)) rfl
  have k15 : decode b_Places_giveChildren 15 = .ok (.invokevirtual 15, 3) := pl_dc dd_Places_giveChildren 9 (q := (15, .invokevirtual 15, 3)) rfl
  have k18 : decode b_Places_giveChildren 18 = .ok (.iadd, 1) := pl_dc dd_Places_giveChildren 10 (q := (18, .iadd, 1)) rfl
  have k19 : decode b_Places_giveChildren 19 = .ok (.istore_n 2, 1) := pl_dc dd_Places_giveChildren 11 (q := (19, .istore_n 2, 1)) rfl
  have k20 : decode b_Places_giveChildren 20 = .ok (.aload_n 0, 1) := pl_dc dd_Places_giveChildren 12 (q := (20, .aload_n 0, 1)) rfl
  have k21 : decode b_Places_giveChildren 21 = .ok (.getfield 22, 3) := pl_dc dd_Places_giveChildren 13 (q := (21, .getfield 22, 3)) rfl
  have k24 : decode b_Places_giveChildren 24 = .ok (.iconst 1, 1) := pl_dc dd_Places_giveChildren 14 (q := (24, .iconst 1, 1)) rfl
  have k25 : decode b_Places_giveChildren 25 = .ok (.if_icmp .eq 11, 3) := pl_dc dd_Places_giveChildren 15 (q := (25, .if_icmp .eq 11, 3)) rfl
  have k28 : decode b_Places_giveChildren 28 = .ok (.aload_n 0, 1) := pl_dc dd_Places_giveChildren 16 (q := (28, .aload_n 0, 1)) rfl
  have k29 : decode b_Places_giveChildren 29 = .ok (.getfield 22, 3) := pl_dc dd_Places_giveChildren 17 (q := (29, .getfield 22, 3)) rfl
  have k32 : decode b_Places_giveChildren 32 = .ok (.iconst 3, 1) := pl_dc dd_Places_giveChildren 18 (q := (32, .iconst 3, 1)) rfl
  have k33 : decode b_Places_giveChildren 33 = .ok (.if_icmp .ne 12, 3) := pl_dc dd_Places_giveChildren 19 (q := (33, .if_icmp .ne 12, 3)) rfl
  have k36 : decode b_Places_giveChildren 36 = .ok (.aload_n 0, 1) := pl_dc dd_Places_giveChildren 20 (q := (36, .aload_n 0, 1)) rfl
  have k37 : decode b_Places_giveChildren 37 = .ok (.iload_n 1, 1) := pl_dc dd_Places_giveChildren 21 (q := (37, .iload_n 1, 1)) rfl
  have k38 : decode b_Places_giveChildren 38 = .ok (.iload_n 2, 1) := pl_dc dd_Places_giveChildren 22 (q := (38, .iload_n 2, 1)) rfl
  have k39 : decode b_Places_giveChildren 39 = .ok (.invokestatic 25, 3) := pl_dc dd_Places_giveChildren 23 (q := (39, .invokestatic 25, 3)) rfl
  have k42 : decode b_Places_giveChildren 42 = .ok (.goto 9, 3) := pl_dc dd_Places_giveChildren 24 (q := (42, .goto 9, 3)) rfl
  have k45 : decode b_Places_giveChildren 45 = .ok (.aload_n 0, 1) := pl_dc dd_Places_giveChildren 25 (q := (45, .aload_n 0, 1)) rfl
  have k46 : decode b_Places_giveChildren 46 = .ok (.iload_n 1, 1) := pl_dc dd_Places_giveChildren 26 (q := (46, .iload_n 1, 1)) rfl
  have k47 : decode b_Places_giveChildren 47 = .ok (.iload_n 2, 1) := pl_dc dd_Places_giveChildren 27 (q := (47, .iload_n 2, 1)) rfl
  have k48 : decode b_Places_giveChildren 48 = .ok (.invokestatic 31, 3) := pl_dc dd_Places_giveChildren 28 (q := (48, .invokestatic 31, 3)) rfl
  have k51 : decode b_Places_giveChildren 51 = .ok (.aload_n 0, 1) := pl_dc dd_Places_giveChildren 29 (q := (51, .aload_n 0, 1)) rfl
  have k52 : decode b_Places_giveChildren 52 = .ok (.getfield 34, 3) := pl_dc dd_Places_giveChildren 30 (q := (52, .getfield 34, 3)) rfl
  have k55 : decode b_Places_giveChildren 55 = .ok (.astore_n 3, 1) := pl_dc dd_Places_giveChildren 31 (q := (55, .astore_n 3, 1)) rfl
  have k56 : decode b_Places_giveChildren 56 = .ok (.aload_n 3, 1) := pl_dc dd_Places_giveChildren 32 (q := (56, .aload_n 3, 1)) rfl
  have k57 : decode b_Places_giveChildren 57 = .ok (.ifnull 34, 3) := pl_dc dd_Places_giveChildren 33 (q := (57, .ifnull 34, 3)) rfl
  have k60 : decode b_Places_giveChildren 60 = .ok (.aload_n 3, 1) := pl_dc dd_Places_giveChildren 34 (q := (60, .aload_n 3, 1)) rfl
  have k61 : decode b_Places_giveChildren 61 = .ok (.invokevirtual 38, 3) := pl_dc dd_Places_giveChildren 35 (q := (61, .invokevirtual 38, 3)) rfl
  have k64 : decode b_Places_giveChildren 64 = .ok (.ifCond .eq 19, 3) := pl_dc dd_Places_giveChildren 36 (q := (64, .ifCond .eq 19, 3)) rfl
  have k67 : decode b_Places_giveChildren 67 = .ok (.aload_n 3, 1) := pl_dc dd_Places_giveChildren 37 (q := (67, .aload_n 3, 1)) rfl
  have k68 : decode b_Places_giveChildren 68 = .ok (.iload_n 1, 1) := pl_dc dd_Places_giveChildren 38 (q := (68, .iload_n 1, 1)) rfl
  have k69 : decode b_Places_giveChildren 69 = .ok (.aload_n 3, 1) := pl_dc dd_Places_giveChildren 39 (q := (69, .aload_n 3, 1)) rfl
  have k70 : decode b_Places_giveChildren 70 = .ok (.invokevirtual 42, 3) := pl_dc dd_Places_giveChildren 40 (q := (70, .invokevirtual 42, 3)) rfl
  have k73 : decode b_Places_giveChildren 73 = .ok (.iadd, 1) := pl_dc dd_Places_giveChildren 41 (q := (73, .iadd, 1)) rfl
  have k74 : decode b_Places_giveChildren 74 = .ok (.iload_n 2, 1) := pl_dc dd_Places_giveChildren 42 (q := (74, .iload_n 2, 1)) rfl
  have k75 : decode b_Places_giveChildren 75 = .ok (.aload_n 3, 1) := pl_dc dd_Places_giveChildren 43 (q := (75, .aload_n 3, 1)) rfl
  have k76 : decode b_Places_giveChildren 76 = .ok (.invokevirtual 42, 3) := pl_dc dd_Places_giveChildren 44 (q := (76, .invokevirtual 42, 3)) rfl
  have k79 : decode b_Places_giveChildren 79 = .ok (.iadd, 1) := pl_dc dd_Places_giveChildren 45 (q := (79, .iadd, 1)) rfl
  have k80 : decode b_Places_giveChildren 80 = .ok (.invokevirtual 45, 3) := pl_dc dd_Places_giveChildren 46 (q := (80, .invokevirtual 45, 3)) rfl
  have k83 : decode b_Places_giveChildren 83 = .ok (.aload_n 3, 1) := pl_dc dd_Places_giveChildren 47 (q := (83, .aload_n 3, 1)) rfl
  have k84 : decode b_Places_giveChildren 84 = .ok (.getfield 49, 3) := pl_dc dd_Places_giveChildren 48 (q := (84, .getfield 49, 3)) rfl
  have k87 : decode b_Places_giveChildren 87 = .ok (.astore_n 3, 1) := pl_dc dd_Places_giveChildren 49 (q := (87, .astore_n 3, 1)) rfl
  have k88 : decode b_Places_giveChildren 88 = .ok (.goto (-32), 3) := pl_dc dd_Places_giveChildren 50 (q := (88, .goto (-32), 3)) rfl
  have k91 : decode b_Places_giveChildren 91 = .ok (.return_, 1) := pl_dc dd_Places_giveChildren 51 (q := (91, .return_, 1)) rfl
  exact (d_seq (p1 := 91) (d_seq (p1 := 10) (d_istore_n (p1 := 9) F (c_bin 1 (p1 := 4) (p2 := 8) (c_geti (p1 := 1) F 1 17 hg_1_17 (c_aload_n F k0 rfl) k1 lf_Places_9) (c_callV (p1 := 5) F (a_r_ok (p1 := 4) a_nil_ok (c_aload_n F k4 rfl)) (z_Box_padding _) y_Box_padding_ok lm_Places_15 k5 r_Box_padding (by decide) (by decide)) pl_c1 (j_iadd F k8)) k9 rfl (hm 1 (by decide))) (d_seq (p1 := 20) (d_istore_n (p1 := 19) F (c_bin 1 (p1 := 14) (p2 := 18) (c_geti (p1 := 11) F 1 18 hg_1_18 (c_aload_n F k10 rfl) k11 lf_Places_19) (c_callV (p1 := 15) F (a_r_ok (p1 := 14) a_nil_ok (c_aload_n F k14 rfl)) (z_Box_padding _) y_Box_padding_ok lm_Places_15 k15 r_Box_padding (by decide) (by decide)) pl_c1 (j_iadd F k18)) k19 rfl (hm 2 (by decide))) (d_seq (p1 := 51) (d_ife (p1 := 36) (p2 := 42) (p3 := 51) F (b_or_t (p1 := 28) (b_cmp_f (p1 := 24) (p2 := 25) (pj := 36) F (c_geti (p1 := 21) F 1 8 hg_1_8 (c_aload_n F k20 rfl) k21 lf_Places_22) (c_iconst F k24 (by decide)) k25 (by decide)) (b_cmp_t (p1 := 32) (p2 := 33) (pj := 45) F (c_geti (p1 := 29) F 1 8 hg_1_8 (c_aload_n F k28 rfl) k29 lf_Places_22) (c_iconst F k32 (by decide)) k33 (by decide))) (d_callS (p1 := 39) F (a_i_ok (p1 := 38) (a_i_ok (p1 := 37) (a_r_ok (p1 := 36) a_nil_ok (c_aload_n F k36 rfl)) (c_iload_n F k37 rfl)) (c_iload_n F k38 rfl)) (z_Places_standBeside _) y_Places_standBeside_ok lm_Places_25 k39 r_Places_standBeside (by decide)) k42 (by decide) (d_callS (p1 := 48) F (a_i_ok (p1 := 47) (a_i_ok (p1 := 46) (a_r_ok (p1 := 45) a_nil_ok (c_aload_n F k45 rfl)) (c_iload_n F k46 rfl)) (c_iload_n F k47 rfl)) (z_Places_standBelow _) y_Places_standBelow_ok lm_Places_31 k48 r_Places_standBelow (by decide))) (d_seq (p1 := 56) (d_astore_n (p1 := 55) F (c_getr (p1 := 52) F 1 5 hg_1_5 (c_aload_n F k51 rfl) k52 lf_Places_34) k55 rfl (hm 3 (by decide))) (d_while (p1 := 60) (p2 := 88) F (b_nn_t (p1 := 57) (pj := 91) F (c_aload_n F k56 rfl) k57 (by decide)) (d_seq (p1 := 83) (d_if (p1 := 67) (p2 := 83) (b_zero_t (p1 := 64) (pj := 83) F (c_callV (p1 := 61) F (a_r_ok (p1 := 60) a_nil_ok (c_aload_n F k60 rfl)) (z_Box_isFree _) y_Box_isFree_ok lm_Places_38 k61 r_Box_isFree (by decide) (by decide)) k64 (by decide)) (d_callV (p1 := 80) F (a_i_ok (p1 := 74) (a_i_ok (p1 := 68) (a_r_ok (p1 := 67) a_nil_ok (c_aload_n F k67 rfl)) (c_bin 1 (p1 := 69) (p2 := 73) (c_iload_n F k68 rfl) (c_callV (p1 := 70) F (a_r_ok (p1 := 69) a_nil_ok (c_aload_n F k69 rfl)) (z_Box_margin _) y_Box_margin_ok lm_Places_42 k70 r_Box_margin (by decide) (by decide)) pl_c1 (j_iadd F k73))) (c_bin 1 (p1 := 75) (p2 := 79) (c_iload_n F k74 rfl) (c_callV (p1 := 76) F (a_r_ok (p1 := 75) a_nil_ok (c_aload_n F k75 rfl)) (z_Box_margin _) y_Box_margin_ok lm_Places_42 k76 r_Box_margin (by decide) (by decide)) pl_c1 (j_iadd F k79))) (z_Box_moveTo _) y_Box_moveTo_ok lm_Places_45 k80 r_Box_moveTo (by decide))) (d_astore_n (p1 := 87) F (c_getr (p1 := 84) F 1 7 hg_1_7 (c_aload_n F k83 rfl) k84 lf_Places_49) k87 rfl (hm 3 (by decide)))) k88 (by decide)))))) (d_retv F Fm.2.1 Fm.2.2.1 k91)))
def y_Pl_givePlaces : MethodName := ⟨"PageLayouter", "givePlaces", "()V"⟩
abbrev b_Pl_givePlaces : ByteArray := prog_1_method_21_code
abbrev n_Pl_givePlaces : Nat := 3
theorem y_Pl_givePlaces_ok : pl_MV 0 y_Pl_givePlaces b_Pl_givePlaces n_Pl_givePlaces (Option.none : Option Jvm.ClassFile.FieldType) 0 := ⟨pl_mem 610 (by decide +kernel) (by decide +kernel), pl_mem 609 (by decide +kernel) (by decide +kernel), pl_mem 9 (by decide +kernel) (by decide +kernel), pl_mem 44 (by decide +kernel) (by decide +kernel), ⟨by decide, by decide, by decide +kernel⟩, _, rfl, rfl⟩
def D_Pl_givePlaces : List (Nat × Instr × Nat) := [(0, .aload_n 0, 1), (1, .getfield 11, 3), (4, .iconst 0, 1), (5, .aaload, 1), (6, .astore_n 1, 1), (7, .aload_n 1, 1), (8, .aload_n 1, 1), (9, .invokevirtual 195, 3), (12, .aload_n 1, 1), (13, .invokevirtual 195, 3), (16, .invokevirtual 198, 3), (19, .iconst 0, 1), (20, .istore_n 2, 1), (21, .iload_n 2, 1), (22, .aload_n 0, 1), (23, .getfield 25, 3), (26, .if_icmp .ge 18, 3), (29, .aload_n 0, 1), (30, .getfield 11, 3), (33, .iload_n 2, 1), (34, .aaload, 1), (35, .invokestatic 202, 3), (38, .iinc 2 1, 3), (41, .goto (-20), 3), (44, .return_, 1)]
theorem dd_Pl_givePlaces : (D_Pl_givePlaces.all fun q => decide (decode b_Pl_givePlaces q.1 = .ok q.2)) = true := by decide +kernel
def t_Pl_givePlaces : pl_TR := fun P _ _ => s_seq (s_seq (s_setr 1 (e_aald (e_getr 0 0 (e_locr 0)) (e_int 0))) (s_seq (s_callV 1 t_Box_moveTo n_Box_moveTo (a_i (a_i (a_r a_nil (e_locr 1)) (e_callV Value.int 1 t_Box_margin n_Box_margin (a_r a_nil (e_locr 1)))) (e_callV Value.int 1 t_Box_margin n_Box_margin (a_r a_nil (e_locr 1))))) (s_seq (s_seti 2 (e_int 0)) (s_while (b_cmp .lt (e_loc 2) (e_geti 0 2 (e_locr 0))) (s_seq (s_callS t_Places_giveChildren n_Places_giveChildren (a_r a_nil (e_aald (e_getr 0 0 (e_locr 0)) (e_loc 2)))) (s_inc 2 1)))))) (s_retv P)
theorem z_Pl_givePlaces (l : Launch) : pl_Ctr l y_Pl_givePlaces b_Pl_givePlaces n_Pl_givePlaces (Option.none : Option Jvm.ClassFile.FieldType) 5 107 0 0 false t_Pl_givePlaces := pl_ctr_of (pe := 0) (by decide) (fun X Y P F Fm => by
  have F : pl_Fx X Y "PageLayouter" b_Pl_givePlaces := F
  have r_Box_margin : 0 + 1 ≤ (pl_xR X).frames ∧ 8 + (n_Box_margin + 11) + 0 ≤ (pl_xR X).locals := ⟨Nat.le_trans (by decide) Fm.2.2.2.2.2.1, Nat.le_trans (by decide) Fm.2.2.2.2.2.2.1⟩
  have r_Box_moveTo : 0 + 1 ≤ (pl_xR X).frames ∧ 8 + (n_Box_moveTo + 11) + 0 ≤ (pl_xR X).locals := ⟨Nat.le_trans (by decide) Fm.2.2.2.2.2.1, Nat.le_trans (by decide) Fm.2.2.2.2.2.2.1⟩
  have r_Places_giveChildren : 4 + 1 ≤ (pl_xR X).frames ∧ 8 + (n_Places_giveChildren + 11) + 84 ≤ (pl_xR X).locals := ⟨Nat.le_trans (by decide) Fm.2.2.2.2.2.1, Nat.le_trans (by decide) Fm.2.2.2.2.2.2.1⟩
  have hm : ∀ i, i < 3 → i < (pl_xc X).maxLocals := fun i h => by rw [Fm.2.2.2.1]; exact h
  have k0 : decode b_Pl_givePlaces 0 = .ok (.aload_n 0, 1) := pl_dc dd_Pl_givePlaces 0 (q := (0, .aload_n 0, 1)) rfl
  have k1 : decode b_Pl_givePlaces 1 = .ok (.getfield 11, 3) := pl_dc dd_Pl_givePlaces 1 (q := (1, .getfield 11, 3)) rfl
  have k4 : decode b_Pl_givePlaces 4 = .ok (.iconst 0, 1) := pl_dc dd_Pl_givePlaces 2 (q := (4, .iconst 0, 1)) rfl
  have k5 : decode b_Pl_givePlaces 5 = .ok (.aaload, 1) := pl_dc dd_Pl_givePlaces 3 (q := (5, .aaload, 1)) rfl
  have k6 : decode b_Pl_givePlaces 6 = .ok (.astore_n 1, 1) := pl_dc dd_Pl_givePlaces 4 (q := (6, .astore_n 1, 1)) rfl
  have k7 : decode b_Pl_givePlaces 7 = .ok (.aload_n 1, 1) := pl_dc dd_Pl_givePlaces 5 (q := (7, .aload_n 1, 1)) rfl
  have k8 : decode b_Pl_givePlaces 8 = .ok (.aload_n 1, 1) := pl_dc dd_Pl_givePlaces 6 (q := (8, .aload_n 1, 1)) rfl
  have k9 : decode b_Pl_givePlaces 9 = .ok (.invokevirtual 195, 3) := pl_dc dd_Pl_givePlaces 7 (q := (9, .invokevirtual 195, 3)) rfl
  have k12 : decode b_Pl_givePlaces 12 = .ok (.aload_n 1, 1) := pl_dc dd_Pl_givePlaces 8 (q := (12, .aload_n 1, 1)) rfl
  have k13 : decode b_Pl_givePlaces 13 = .ok (.invokevirtual 195, 3) := pl_dc dd_Pl_givePlaces 9 (q := (13, .invokevirtual 195, 3)) rfl
  have k16 : decode b_Pl_givePlaces 16 = .ok (.invokevirtual 198, 3) := pl_dc dd_Pl_givePlaces 10 (q := (16, .invokevirtual 198, 3)) rfl
  have k19 : decode b_Pl_givePlaces 19 = .ok (.iconst 0, 1) := pl_dc dd_Pl_givePlaces 11 (q := (19, .iconst 0, 1)) rfl
  have k20 : decode b_Pl_givePlaces 20 = .ok (.istore_n 2, 1) := pl_dc dd_Pl_givePlaces 12 (q := (20, .istore_n 2, 1)) rfl
  have k21 : decode b_Pl_givePlaces 21 = .ok (.iload_n 2, 1) := pl_dc dd_Pl_givePlaces 13 (q := (21, .iload_n 2, 1)) rfl
  have k22 : decode b_Pl_givePlaces 22 = .ok (.aload_n 0, 1) := pl_dc dd_Pl_givePlaces 14 (q := (22, .aload_n 0, 1)) rfl
  have k23 : decode b_Pl_givePlaces 23 = .ok (.getfield 25, 3) := pl_dc dd_Pl_givePlaces 15 (q := (23, .getfield 25, 3)) rfl
  have k26 : decode b_Pl_givePlaces 26 = .ok (.if_icmp .ge 18, 3) := pl_dc dd_Pl_givePlaces 16 (q := (26, .if_icmp .ge 18, 3)) rfl
  have k29 : decode b_Pl_givePlaces 29 = .ok (.aload_n 0, 1) := pl_dc dd_Pl_givePlaces 17 (q := (29, .aload_n 0, 1)) rfl
  have k30 : decode b_Pl_givePlaces 30 = .ok (.getfield 11, 3) := pl_dc dd_Pl_givePlaces 18 (q := (30, .getfield 11, 3)) rfl
  have k33 : decode b_Pl_givePlaces 33 = .ok (.iload_n 2, 1) := pl_dc dd_Pl_givePlaces 19 (q := (33, .iload_n 2, 1)) rfl
  have k34 : decode b_Pl_givePlaces 34 = .ok (.aaload, 1) := pl_dc dd_Pl_givePlaces 20 (q := (34, .aaload, 1)) rfl
  have k35 : decode b_Pl_givePlaces 35 = .ok (.invokestatic 202, 3) := pl_dc dd_Pl_givePlaces 21 (q := (35, .invokestatic 202, 3)) rfl
  have k38 : decode b_Pl_givePlaces 38 = .ok (.iinc 2 1, 3) := pl_dc dd_Pl_givePlaces 22 (q := (38, .iinc 2 1, 3)) rfl
  have k41 : decode b_Pl_givePlaces 41 = .ok (.goto (-20), 3) := pl_dc dd_Pl_givePlaces 23 (q := (41, .goto (-20), 3)) rfl
  have k44 : decode b_Pl_givePlaces 44 = .ok (.return_, 1) := pl_dc dd_Pl_givePlaces 24 (q := (44, .return_, 1)) rfl
  exact (d_seq (p1 := 44) (d_seq (p1 := 7) (d_astore_n (p1 := 6) F (c_aald (p1 := 4) (p2 := 5) F (c_getr (p1 := 1) F 0 0 hg_0_0 (c_aload_n F k0 rfl) k1 lf_PageLayouter_11) (c_iconst F k4 (by decide)) k5) k6 rfl (hm 1 (by decide))) (d_seq (p1 := 19) (d_callV (p1 := 16) F (a_i_ok (p1 := 12) (a_i_ok (p1 := 8) (a_r_ok (p1 := 7) a_nil_ok (c_aload_n F k7 rfl)) (c_callV (p1 := 9) F (a_r_ok (p1 := 8) a_nil_ok (c_aload_n F k8 rfl)) (z_Box_margin _) y_Box_margin_ok lm_PageLayouter_195 k9 r_Box_margin (by decide) (by decide))) (c_callV (p1 := 13) F (a_r_ok (p1 := 12) a_nil_ok (c_aload_n F k12 rfl)) (z_Box_margin _) y_Box_margin_ok lm_PageLayouter_195 k13 r_Box_margin (by decide) (by decide))) (z_Box_moveTo _) y_Box_moveTo_ok lm_PageLayouter_198 k16 r_Box_moveTo (by decide)) (d_seq (p1 := 21) (d_istore_n (p1 := 20) F (c_iconst F k19 (by decide)) k20 rfl (hm 2 (by decide))) (d_while (p1 := 29) (p2 := 41) F (b_cmp_t (p1 := 22) (p2 := 26) (pj := 44) F (c_iload_n F k21 rfl) (c_geti (p1 := 23) F 0 2 hg_0_2 (c_aload_n F k22 rfl) k23 lf_PageLayouter_25) k26 (by decide)) (d_seq (p1 := 38) (d_callS (p1 := 35) F (a_r_ok (p1 := 29) a_nil_ok (c_aald (p1 := 33) (p2 := 34) F (c_getr (p1 := 30) F 0 0 hg_0_0 (c_aload_n F k29 rfl) k30 lf_PageLayouter_11) (c_iload_n F k33 rfl) k34)) (z_Places_giveChildren _) y_Places_giveChildren_ok lm_PageLayouter_202 k35 r_Places_giveChildren (by decide)) (d_iinc F k38 (by decide) (hm 2 (by decide)))) k41 (by decide))))) (d_retv F Fm.2.1 Fm.2.2.1 k44)))
def y_Box_append : MethodName := ⟨"PageLayouter$Box", "append", "(LPageLayouter$Box;)V"⟩
abbrev b_Box_append : ByteArray := prog_2_method_2_code
abbrev n_Box_append : Nat := 2
theorem y_Box_append_ok : pl_MV 1 y_Box_append b_Box_append n_Box_append (Option.none : Option Jvm.ClassFile.FieldType) 1 := ⟨pl_mem 340 (by decide +kernel) (by decide +kernel), pl_mem 338 (by decide +kernel) (by decide +kernel), pl_mem 339 (by decide +kernel) (by decide +kernel), pl_mem 45 (by decide +kernel) (by decide +kernel), ⟨by decide, by decide, by decide +kernel⟩, _, rfl, rfl⟩
def D_Box_append : List (Nat × Instr × Nat) := [(0, .aload_n 0, 1), (1, .getfield 40, 3), (4, .ifnonnull 11, 3), (7, .aload_n 0, 1), (8, .aload_n 1, 1), (9, .putfield 43, 3), (12, .goto 11, 3), (15, .aload_n 0, 1), (16, .getfield 40, 3), (19, .aload_n 1, 1), (20, .putfield 46, 3), (23, .aload_n 0, 1), (24, .aload_n 1, 1), (25, .putfield 40, 3), (28, .return_, 1)]
theorem dd_Box_append : (D_Box_append.all fun q => decide (decode b_Box_append q.1 = .ok q.2)) = true := by decide +kernel
def t_Box_append : pl_TR := fun P _ _ => s_seq (s_seq (s_ife (b_null (e_getr 1 6 (e_locr 0))) (s_putr 1 5 (e_locr 0) (e_locr 1)) (s_putr 1 7 (e_getr 1 6 (e_locr 0)) (e_locr 1))) (s_putr 1 6 (e_locr 0) (e_locr 1))) (s_retv P)
theorem z_Box_append (l : Launch) : pl_Ctr l y_Box_append b_Box_append n_Box_append (Option.none : Option Jvm.ClassFile.FieldType) 0 0 0 0 false t_Box_append := pl_ctr_of (pe := 0) (by decide) (fun X Y P F Fm => by
  have F : pl_Fx X Y "PageLayouter$Box" b_Box_append := F
  have k0 : decode b_Box_append 0 = .ok (.aload_n 0, 1) := pl_dc dd_Box_append 0 (q := (0, .aload_n 0, 1)) rfl
  have k1 : decode b_Box_append 1 = .ok (.getfield 40, 3) := pl_dc dd_Box_append 1 (q := (1, .getfield 40, 3)) rfl
  have k4 : decode b_Box_append 4 = .ok (.ifnonnull 11, 3) := pl_dc dd_Box_append 2 (q := (4, .ifnonnull 11, 3)) rfl
  have k7 : decode b_Box_append 7 = .ok (.aload_n 0, 1) := pl_dc dd_Box_append 3 (q := (7, .aload_n 0, 1)) rfl
  have k8 : decode b_Box_append 8 = .ok (.aload_n 1, 1) := pl_dc dd_Box_append 4 (q := (8, .aload_n 1, 1)) rfl
  have k9 : decode b_Box_append 9 = .ok (.putfield 43, 3) := pl_dc dd_Box_append 5 (q := (9, .putfield 43, 3)) rfl
  have k12 : decode b_Box_append 12 = .ok (.goto 11, 3) := pl_dc dd_Box_append 6 (q := (12, .goto 11, 3)) rfl
  have k15 : decode b_Box_append 15 = .ok (.aload_n 0, 1) := pl_dc dd_Box_append 7 (q := (15, .aload_n 0, 1)) rfl
  have k16 : decode b_Box_append 16 = .ok (.getfield 40, 3) := pl_dc dd_Box_append 8 (q := (16, .getfield 40, 3)) rfl
  have k19 : decode b_Box_append 19 = .ok (.aload_n 1, 1) := pl_dc dd_Box_append 9 (q := (19, .aload_n 1, 1)) rfl
  have k20 : decode b_Box_append 20 = .ok (.putfield 46, 3) := pl_dc dd_Box_append 10 (q := (20, .putfield 46, 3)) rfl
  have k23 : decode b_Box_append 23 = .ok (.aload_n 0, 1) := pl_dc dd_Box_append 11 (q := (23, .aload_n 0, 1)) rfl
  have k24 : decode b_Box_append 24 = .ok (.aload_n 1, 1) := pl_dc dd_Box_append 12 (q := (24, .aload_n 1, 1)) rfl
  have k25 : decode b_Box_append 25 = .ok (.putfield 40, 3) := pl_dc dd_Box_append 13 (q := (25, .putfield 40, 3)) rfl
  have k28 : decode b_Box_append 28 = .ok (.return_, 1) := pl_dc dd_Box_append 14 (q := (28, .return_, 1)) rfl
  exact (d_seq (p1 := 28) (d_seq (p1 := 23) (d_ife (p1 := 7) (p2 := 12) (p3 := 23) F (b_null_t (p1 := 4) (pj := 15) F (c_getr (p1 := 1) F 1 6 hg_1_6 (c_aload_n F k0 rfl) k1 lf_Box_40) k4 (by decide)) (d_putr (p1 := 8) (p2 := 9) F 1 5 hp_1_5 (c_aload_n F k7 rfl) (c_aload_n F k8 rfl) k9 lf_Box_43) k12 (by decide) (d_putr (p1 := 19) (p2 := 20) F 1 7 hp_1_7 (c_getr (p1 := 16) F 1 6 hg_1_6 (c_aload_n F k15 rfl) k16 lf_Box_40) (c_aload_n F k19 rfl) k20 lf_Box_46)) (d_putr (p1 := 24) (p2 := 25) F 1 6 hp_1_6 (c_aload_n F k23 rfl) (c_aload_n F k24 rfl) k25 lf_Box_40)) (d_retv F Fm.2.1 Fm.2.2.1 k28)))
def y_Box_nextInTree : MethodName := ⟨"PageLayouter$Box", "nextInTree", "()LPageLayouter$Box;"⟩
abbrev b_Box_nextInTree : ByteArray := prog_2_method_7_code
abbrev n_Box_nextInTree : Nat := 2
theorem y_Box_nextInTree_ok : pl_MV 1 y_Box_nextInTree b_Box_nextInTree n_Box_nextInTree (Option.some (Jvm.ClassFile.FieldType.object "PageLayouter$Box")) 0 := ⟨pl_mem 690 (by decide +kernel) (by decide +kernel), pl_mem 688 (by decide +kernel) (by decide +kernel), pl_mem 689 (by decide +kernel) (by decide +kernel), pl_mem 45 (by decide +kernel) (by decide +kernel), ⟨by decide, by decide, by decide +kernel⟩, _, rfl, rfl⟩
def D_Box_nextInTree : List (Nat × Instr × Nat) := [(0, .aload_n 0, 1), (1, .getfield 43, 3), (4, .ifnull 8, 3), (7, .aload_n 0, 1), (8, .getfield 43, 3), (11, .areturn, 1), (12, .aload_n 0, 1), (13, .astore_n 1, 1), (14, .aload_n 1, 1), (15, .ifnull 18, 3), (18, .aload_n 1, 1), (19, .getfield 46, 3), (22, .ifnonnull 11, 3), (25, .aload_n 1, 1), (26, .getfield 15, 3), (29, .astore_n 1, 1), (30, .goto (-16), 3), (33, .aload_n 1, 1), (34, .ifnonnull 7, 3), (37, .aconst_null, 1), (38, .goto 7, 3), (41, .aload_n 1, 1), (42, .getfield 46, 3), (45, .areturn, 1)]
theorem dd_Box_nextInTree : (D_Box_nextInTree.all fun q => decide (decode b_Box_nextInTree q.1 = .ok q.2)) = true := by decide +kernel
def t_Box_nextInTree : pl_TR := fun P _ _ => s_seq (s_if (b_nn (e_getr 1 5 (e_locr 0))) (s_retr P (e_getr 1 5 (e_locr 0)))) (s_seq (s_setr 1 (e_locr 0)) (s_seq (s_while (b_and (b_nn (e_locr 1)) (b_null (e_getr 1 7 (e_locr 1)))) (s_setr 1 (e_getr 1 1 (e_locr 1)))) (s_retr P (e_if (b_null (e_locr 1)) e_null (e_getr 1 7 (e_locr 1))))))
theorem z_Box_nextInTree (l : Launch) : pl_Ctr l y_Box_nextInTree b_Box_nextInTree n_Box_nextInTree (Option.some (Jvm.ClassFile.FieldType.object "PageLayouter$Box")) 0 0 0 0 false t_Box_nextInTree := pl_ctr_of (pe := 0) (by decide) (fun X Y P F Fm => by
  have F : pl_Fx X Y "PageLayouter$Box" b_Box_nextInTree := F
  have hm : ∀ i, i < 2 → i < (pl_xc X).maxLocals := fun i h => by rw [Fm.2.2.2.1]; exact h
  have k0 : decode b_Box_nextInTree 0 = .ok (.aload_n 0, 1) := pl_dc dd_Box_nextInTree 0 (q := (0, .aload_n 0, 1)) rfl
  have k1 : decode b_Box_nextInTree 1 = .ok (.getfield 43, 3) := pl_dc dd_Box_nextInTree 1 (q := (1, .getfield 43, 3)) rfl
  have k4 : decode b_Box_nextInTree 4 = .ok (.ifnull 8, 3) := pl_dc dd_Box_nextInTree 2 (q := (4, .ifnull 8, 3)) rfl
  have k7 : decode b_Box_nextInTree 7 = .ok (.aload_n 0, 1) := pl_dc dd_Box_nextInTree 3 (q := (7, .aload_n 0, 1)) rfl
  have k8 : decode b_Box_nextInTree 8 = .ok (.getfield 43, 3) := pl_dc dd_Box_nextInTree 4 (q := (8, .getfield 43, 3)) rfl
  have k11 : decode b_Box_nextInTree 11 = .ok (.areturn, 1) := pl_dc dd_Box_nextInTree 5 (q := (11, .areturn, 1)) rfl
  have k12 : decode b_Box_nextInTree 12 = .ok (.aload_n 0, 1) := pl_dc dd_Box_nextInTree 6 (q := (12, .aload_n 0, 1)) rfl
  have k13 : decode b_Box_nextInTree 13 = .ok (.astore_n 1, 1) := pl_dc dd_Box_nextInTree 7 (q := (13, .astore_n 1, 1)) rfl
  have k14 : decode b_Box_nextInTree 14 = .ok (.aload_n 1, 1) := pl_dc dd_Box_nextInTree 8 (q := (14, .aload_n 1, 1)) rfl
  have k15 : decode b_Box_nextInTree 15 = .ok (.ifnull 18, 3) := pl_dc dd_Box_nextInTree 9 (q := (15, .ifnull 18, 3)) rfl
  have k18 : decode b_Box_nextInTree 18 = .ok (.aload_n 1, 1) := pl_dc dd_Box_nextInTree 10 (q := (18, .aload_n 1, 1)) rfl
  have k19 : decode b_Box_nextInTree 19 = .ok (.getfield 46, 3) := pl_dc dd_Box_nextInTree 11 (q := (19, .getfield 46, 3)) rfl
  have k22 : decode b_Box_nextInTree 22 = .ok (.ifnonnull 11, 3) := pl_dc dd_Box_nextInTree 12 (q := (22, .ifnonnull 11, 3)) rfl
  have k25 : decode b_Box_nextInTree 25 = .ok (.aload_n 1, 1) := pl_dc dd_Box_nextInTree 13 (q := (25, .aload_n 1, 1)) rfl
  have k26 : decode b_Box_nextInTree 26 = .ok (.getfield 15, 3) := pl_dc dd_Box_nextInTree 14 (q := (26, .getfield 15, 3)) rfl
  have k29 : decode b_Box_nextInTree 29 = .ok (.astore_n 1, 1) := pl_dc dd_Box_nextInTree 15 (q := (29, .astore_n 1, 1)) rfl
  have k30 : decode b_Box_nextInTree 30 = .ok (.goto (-16), 3) := pl_dc dd_Box_nextInTree 16 (q := (30, .goto (-16), 3)) rfl
  have k33 : decode b_Box_nextInTree 33 = .ok (.aload_n 1, 1) := pl_dc dd_Box_nextInTree 17 (q := (33, .aload_n 1, 1)) rfl
  have k34 : decode b_Box_nextInTree 34 = .ok (.ifnonnull 7, 3) := pl_dc dd_Box_nextInTree 18 (q := (34, .ifnonnull 7, 3)) rfl
  have k37 : decode b_Box_nextInTree 37 = .ok (.aconst_null, 1) := pl_dc dd_Box_nextInTree 19 (q := (37, .aconst_null, 1)) rfl
  have k38 : decode b_Box_nextInTree 38 = .ok (.goto 7, 3) := pl_dc dd_Box_nextInTree 20 (q := (38, .goto 7, 3)) rfl
  have k41 : decode b_Box_nextInTree 41 = .ok (.aload_n 1, 1) := pl_dc dd_Box_nextInTree 21 (q := (41, .aload_n 1, 1)) rfl
  have k42 : decode b_Box_nextInTree 42 = .ok (.getfield 46, 3) := pl_dc dd_Box_nextInTree 22 (q := (42, .getfield 46, 3)) rfl
  have k45 : decode b_Box_nextInTree 45 = .ok (.areturn, 1) := pl_dc dd_Box_nextInTree 23 (q := (45, .areturn, 1)) rfl
  exact (d_seq (p1 := 12) (d_if (p1 := 7) (p2 := 12) (b_nn_t (p1 := 4) (pj := 12) F (c_getr (p1 := 1) F 1 5 hg_1_5 (c_aload_n F k0 rfl) k1 lf_Box_43) k4 (by decide)) (d_retr (p1 := 11) F Fm.2.1 Fm.2.2.1 (c_getr (p1 := 8) F 1 5 hg_1_5 (c_aload_n F k7 rfl) k8 lf_Box_43) k11)) (d_seq (p1 := 14) (d_astore_n (p1 := 13) F (c_aload_n F k12 rfl) k13 rfl (hm 1 (by decide))) (d_seq (p1 := 33) (d_while (p1 := 25) (p2 := 30) F (b_and_t (p1 := 18) (b_nn_t (p1 := 15) (pj := 33) F (c_aload_n F k14 rfl) k15 (by decide)) (b_null_t (p1 := 22) (pj := 33) F (c_getr (p1 := 19) F 1 7 hg_1_7 (c_aload_n F k18 rfl) k19 lf_Box_46) k22 (by decide))) (d_astore_n (p1 := 29) F (c_getr (p1 := 26) F 1 1 hg_1_1 (c_aload_n F k25 rfl) k26 lf_Box_15) k29 rfl (hm 1 (by decide))) k30 (by decide)) (d_retr (p1 := 45) F Fm.2.1 Fm.2.2.1 (c_if (p1 := 37) (p2 := 38) (p3 := 45) F (b_null_t (p1 := 34) (pj := 41) F (c_aload_n F k33 rfl) k34 (by decide)) (c_null F k37) k38 (by decide) (c_getr (p1 := 42) F 1 7 hg_1_7 (c_aload_n F k41 rfl) k42 lf_Box_46)) k45)))))
def y_Box_frameWidth : MethodName := ⟨"PageLayouter$Box", "frameWidth", "()I"⟩
abbrev b_Box_frameWidth : ByteArray := prog_2_method_15_code
abbrev n_Box_frameWidth : Nat := 1
theorem y_Box_frameWidth_ok : pl_MV 1 y_Box_frameWidth b_Box_frameWidth n_Box_frameWidth (Option.some Jvm.ClassFile.FieldType.int) 0 := ⟨pl_mem 647 (by decide +kernel) (by decide +kernel), pl_mem 645 (by decide +kernel) (by decide +kernel), pl_mem 646 (by decide +kernel) (by decide +kernel), pl_mem 45 (by decide +kernel) (by decide +kernel), ⟨by decide, by decide, by decide +kernel⟩, _, rfl, rfl⟩
def D_Box_frameWidth : List (Nat × Instr × Nat) := [(0, .aload_n 0, 1), (1, .getfield 77, 3), (4, .iconst 2, 1), (5, .aload_n 0, 1), (6, .invokevirtual 71, 3), (9, .imul, 1), (10, .iadd, 1), (11, .ireturn, 1)]
theorem dd_Box_frameWidth : (D_Box_frameWidth.all fun q => decide (decode b_Box_frameWidth q.1 = .ok q.2)) = true := by decide +kernel
def t_Box_frameWidth : pl_TR := fun P _ _ => s_reti P (e_bin (fun x y : Int32 => x + y) (e_geti 1 14 (e_locr 0)) (e_bin (fun x y : Int32 => x * y) (e_int 2) (e_callV Value.int 1 t_Box_padding n_Box_padding (a_r a_nil (e_locr 0)))))
theorem z_Box_frameWidth (l : Launch) : pl_Ctr l y_Box_frameWidth b_Box_frameWidth n_Box_frameWidth (Option.some Jvm.ClassFile.FieldType.int) 1 20 0 0 false t_Box_frameWidth := pl_ctr_of (pe := 0) (by decide) (fun X Y P F Fm => by
  have F : pl_Fx X Y "PageLayouter$Box" b_Box_frameWidth := F
  have r_Box_padding : 0 + 1 ≤ (pl_xR X).frames ∧ 8 + (n_Box_padding + 11) + 0 ≤ (pl_xR X).locals := ⟨Nat.le_trans (by decide) Fm.2.2.2.2.2.1, Nat.le_trans (by decide) Fm.2.2.2.2.2.2.1⟩
  have k0 : decode b_Box_frameWidth 0 = .ok (.aload_n 0, 1) := pl_dc dd_Box_frameWidth 0 (q := (0, .aload_n 0, 1)) rfl
  have k1 : decode b_Box_frameWidth 1 = .ok (.getfield 77, 3) := pl_dc dd_Box_frameWidth 1 (q := (1, .getfield 77, 3)) rfl
  have k4 : decode b_Box_frameWidth 4 = .ok (.iconst 2, 1) := pl_dc dd_Box_frameWidth 2 (q := (4, .iconst 2, 1)) rfl
  have k5 : decode b_Box_frameWidth 5 = .ok (.aload_n 0, 1) := pl_dc dd_Box_frameWidth 3 (q := (5, .aload_n 0, 1)) rfl
  have k6 : decode b_Box_frameWidth 6 = .ok (.invokevirtual 71, 3) := pl_dc dd_Box_frameWidth 4 (q := (6, .invokevirtual 71, 3)) rfl
  have k9 : decode b_Box_frameWidth 9 = .ok (.imul, 1) := pl_dc dd_Box_frameWidth 5 (q := (9, .imul, 1)) rfl
  have k10 : decode b_Box_frameWidth 10 = .ok (.iadd, 1) := pl_dc dd_Box_frameWidth 6 (q := (10, .iadd, 1)) rfl
  have k11 : decode b_Box_frameWidth 11 = .ok (.ireturn, 1) := pl_dc dd_Box_frameWidth 7 (q := (11, .ireturn, 1)) rfl
  exact (d_reti (p1 := 11) F Fm.2.1 Fm.2.2.1 (c_bin 1 (p1 := 4) (p2 := 10) (c_geti (p1 := 1) F 1 14 hg_1_14 (c_aload_n F k0 rfl) k1 lf_Box_77) (c_bin 1 (p1 := 5) (p2 := 9) (c_iconst F k4 (by decide)) (c_callV (p1 := 6) F (a_r_ok (p1 := 5) a_nil_ok (c_aload_n F k5 rfl)) (z_Box_padding _) y_Box_padding_ok lm_Box_71 k6 r_Box_padding (by decide) (by decide)) pl_c1 (j_imul F k9)) pl_c1 (j_iadd F k10)) k11))
def y_Box_covers : MethodName := ⟨"PageLayouter$Box", "covers", "(II)Z"⟩
abbrev b_Box_covers : ByteArray := prog_2_method_20_code
abbrev n_Box_covers : Nat := 3
theorem y_Box_covers_ok : pl_MV 1 y_Box_covers b_Box_covers n_Box_covers (Option.some Jvm.ClassFile.FieldType.boolean) 2 := ⟨pl_mem 684 (by decide +kernel) (by decide +kernel), pl_mem 682 (by decide +kernel) (by decide +kernel), pl_mem 683 (by decide +kernel) (by decide +kernel), pl_mem 45 (by decide +kernel) (by decide +kernel), ⟨by decide, by decide, by decide +kernel⟩, _, rfl, rfl⟩
def D_Box_covers : List (Nat × Instr × Nat) := [(0, .iload_n 1, 1), (1, .aload_n 0, 1), (2, .getfield 86, 3), (5, .if_icmp .lt 41, 3), (8, .iload_n 1, 1), (9, .aload_n 0, 1), (10, .getfield 86, 3), (13, .aload_n 0, 1), (14, .invokevirtual 92, 3), (17, .iadd, 1), (18, .if_icmp .ge 28, 3), (21, .iload_n 2, 1), (22, .aload_n 0, 1), (23, .getfield 89, 3), (26, .if_icmp .lt 20, 3), (29, .iload_n 2, 1), (30, .aload_n 0, 1), (31, .getfield 89, 3), (34, .aload_n 0, 1), (35, .invokevirtual 95, 3), (38, .iadd, 1), (39, .if_icmp .ge 7, 3), (42, .iconst 1, 1), (43, .goto 4, 3), (46, .iconst 0, 1), (47, .ireturn, 1)]
theorem dd_Box_covers : (D_Box_covers.all fun q => decide (decode b_Box_covers q.1 = .ok q.2)) = true := by decide +kernel
def t_Box_covers : pl_TR := fun P _ _ => s_retz P (e_if (b_and (b_and (b_and (b_cmp .ge (e_loc 1) (e_geti 1 17 (e_locr 0))) (b_cmp .lt (e_loc 1) (e_bin (fun x y : Int32 => x + y) (e_geti 1 17 (e_locr 0)) (e_callV Value.int 1 t_Box_frameWidth n_Box_frameWidth (a_r a_nil (e_locr 0)))))) (b_cmp .ge (e_loc 2) (e_geti 1 18 (e_locr 0)))) (b_cmp .lt (e_loc 2) (e_bin (fun x y : Int32 => x + y) (e_geti 1 18 (e_locr 0)) (e_callV Value.int 1 t_Box_frameHeight n_Box_frameHeight (a_r a_nil (e_locr 0)))))) (e_int 1) (e_int 0))
theorem z_Box_covers (l : Launch) : pl_Ctr l y_Box_covers b_Box_covers n_Box_covers (Option.some Jvm.ClassFile.FieldType.boolean) 2 40 0 0 false t_Box_covers := pl_ctr_of (pe := 0) (by decide) (fun X Y P F Fm => by
  have F : pl_Fx X Y "PageLayouter$Box" b_Box_covers := F
  have r_Box_frameHeight : 1 + 1 ≤ (pl_xR X).frames ∧ 8 + (n_Box_frameHeight + 11) + 20 ≤ (pl_xR X).locals := ⟨Nat.le_trans (by decide) Fm.2.2.2.2.2.1, Nat.le_trans (by decide) Fm.2.2.2.2.2.2.1⟩
  have r_Box_frameWidth : 1 + 1 ≤ (pl_xR X).frames ∧ 8 + (n_Box_frameWidth + 11) + 20 ≤ (pl_xR X).locals := ⟨Nat.le_trans (by decide) Fm.2.2.2.2.2.1, Nat.le_trans (by decide) Fm.2.2.2.2.2.2.1⟩
  have k0 : decode b_Box_covers 0 = .ok (.iload_n 1, 1) := pl_dc dd_Box_covers 0 (q := (0, .iload_n 1, 1)) rfl
  have k1 : decode b_Box_covers 1 = .ok (.aload_n 0, 1) := pl_dc dd_Box_covers 1 (q := (1, .aload_n 0, 1)) rfl
  have k2 : decode b_Box_covers 2 = .ok (.getfield 86, 3) := pl_dc dd_Box_covers 2 (q := (2, .getfield 86, 3)) rfl
  have k5 : decode b_Box_covers 5 = .ok (.if_icmp .lt 41, 3) := pl_dc dd_Box_covers 3 (q := (5, .if_icmp .lt 41, 3)) rfl
  have k8 : decode b_Box_covers 8 = .ok (.iload_n 1, 1) := pl_dc dd_Box_covers 4 (q := (8, .iload_n 1, 1)) rfl
  have k9 : decode b_Box_covers 9 = .ok (.aload_n 0, 1) := pl_dc dd_Box_covers 5 (q := (9, .aload_n 0, 1)) rfl
  have k10 : decode b_Box_covers 10 = .ok (.getfield 86, 3) := pl_dc dd_Box_covers 6 (q := (10, .getfield 86, 3)) rfl
  have k13 : decode b_Box_covers 13 = .ok (.aload_n 0, 1) := pl_dc dd_Box_covers 7 (q := (13, .aload_n 0, 1)) rfl
  have k14 : decode b_Box_covers 14 = .ok (.invokevirtual 92, 3) := pl_dc dd_Box_covers 8 (q := (14, .invokevirtual 92, 3)) rfl
  have k17 : decode b_Box_covers 17 = .ok (.iadd, 1) := pl_dc dd_Box_covers 9 (q := (17, .iadd, 1)) rfl
  have k18 : decode b_Box_covers 18 = .ok (.if_icmp .ge 28, 3) := pl_dc dd_Box_covers 10 (q := (18, .if_icmp .ge 28, 3)) rfl
  have k21 : decode b_Box_covers 21 = .ok (.iload_n 2, 1) := pl_dc dd_Box_covers 11 (q := (21, .iload_n 2, 1)) rfl
  have k22 : decode b_Box_covers 22 = .ok (.aload_n 0, 1) := pl_dc dd_Box_covers 12 (q := (22, .aload_n 0, 1)) rfl
  have k23 : decode b_Box_covers 23 = .ok (.getfield 89, 3) := pl_dc dd_Box_covers 13 (q := (23, .getfield 89, 3)) rfl
  have k26 : decode b_Box_covers 26 = .ok (.if_icmp .lt 20, 3) := pl_dc dd_Box_covers 14 (q := (26, .if_icmp .lt 20, 3)) rfl
  have k29 : decode b_Box_covers 29 = .ok (.iload_n 2, 1) := pl_dc dd_Box_covers 15 (q := (29, .iload_n 2, 1)) rfl
  have k30 : decode b_Box_covers 30 = .ok (.aload_n 0, 1) := pl_dc dd_Box_covers 16 (q := (30, .aload_n 0, 1)) rfl
  have k31 : decode b_Box_covers 31 = .ok (.getfield 89, 3) := pl_dc dd_Box_covers 17 (q := (31, .getfield 89, 3)) rfl
  have k34 : decode b_Box_covers 34 = .ok (.aload_n 0, 1) := pl_dc dd_Box_covers 18 (q := (34, .aload_n 0, 1)) rfl
  have k35 : decode b_Box_covers 35 = .ok (.invokevirtual 95, 3) := pl_dc dd_Box_covers 19 (q := (35, .invokevirtual 95, 3)) rfl
  have k38 : decode b_Box_covers 38 = .ok (.iadd, 1) := pl_dc dd_Box_covers 20 (q := (38, .iadd, 1)) rfl
  have k39 : decode b_Box_covers 39 = .ok (.if_icmp .ge 7, 3) := pl_dc dd_Box_covers 21 (q := (39, .if_icmp .ge 7, 3)) rfl
  have k42 : decode b_Box_covers 42 = .ok (.iconst 1, 1) := pl_dc dd_Box_covers 22 (q := (42, .iconst 1, 1)) rfl
  have k43 : decode b_Box_covers 43 = .ok (.goto 4, 3) := pl_dc dd_Box_covers 23 (q := (43, .goto 4, 3)) rfl
  have k46 : decode b_Box_covers 46 = .ok (.iconst 0, 1) := pl_dc dd_Box_covers 24 (q := (46, .iconst 0, 1)) rfl
  have k47 : decode b_Box_covers 47 = .ok (.ireturn, 1) := pl_dc dd_Box_covers 25 (q := (47, .ireturn, 1)) rfl
  exact (d_retz (p1 := 47) F Fm.2.1 Fm.2.2.1 (c_if (p1 := 42) (p2 := 43) (p3 := 47) F (b_and_t (p1 := 29) (b_and_t (p1 := 21) (b_and_t (p1 := 8) (b_cmp_t (p1 := 1) (p2 := 5) (pj := 46) F (c_iload_n F k0 rfl) (c_geti (p1 := 2) F 1 17 hg_1_17 (c_aload_n F k1 rfl) k2 lf_Box_86) k5 (by decide)) (b_cmp_t (p1 := 9) (p2 := 18) (pj := 46) F (c_iload_n F k8 rfl) (c_bin 1 (p1 := 13) (p2 := 17) (c_geti (p1 := 10) F 1 17 hg_1_17 (c_aload_n F k9 rfl) k10 lf_Box_86) (c_callV (p1 := 14) F (a_r_ok (p1 := 13) a_nil_ok (c_aload_n F k13 rfl)) (z_Box_frameWidth _) y_Box_frameWidth_ok lm_Box_92 k14 r_Box_frameWidth (by decide) (by decide)) pl_c1 (j_iadd F k17)) k18 (by decide))) (b_cmp_t (p1 := 22) (p2 := 26) (pj := 46) F (c_iload_n F k21 rfl) (c_geti (p1 := 23) F 1 18 hg_1_18 (c_aload_n F k22 rfl) k23 lf_Box_89) k26 (by decide))) (b_cmp_t (p1 := 30) (p2 := 39) (pj := 46) F (c_iload_n F k29 rfl) (c_bin 1 (p1 := 34) (p2 := 38) (c_geti (p1 := 31) F 1 18 hg_1_18 (c_aload_n F k30 rfl) k31 lf_Box_89) (c_callV (p1 := 35) F (a_r_ok (p1 := 34) a_nil_ok (c_aload_n F k34 rfl)) (z_Box_frameHeight _) y_Box_frameHeight_ok lm_Box_95 k35 r_Box_frameHeight (by decide) (by decide)) pl_c1 (j_iadd F k38)) k39 (by decide))) (c_iconst F k42 (by decide)) k43 (by decide) (c_iconst F k46 (by decide))) k47))
def y_Columns_widen : MethodName := ⟨"PageLayouter$Columns", "widen", "(LPageLayouter$Box;II)V"⟩
abbrev b_Columns_widen : ByteArray := prog_3_method_8_code
abbrev n_Columns_widen : Nat := 8
theorem y_Columns_widen_ok : pl_MV 2 y_Columns_widen b_Columns_widen n_Columns_widen (Option.none : Option Jvm.ClassFile.FieldType) 3 := ⟨pl_mem 546 (by decide +kernel) (by decide +kernel), pl_mem 545 (by decide +kernel) (by decide +kernel), pl_mem 6 (by decide +kernel) (by decide +kernel), pl_mem 46 (by decide +kernel) (by decide +kernel), ⟨by decide, by decide, by decide +kernel⟩, _, rfl, rfl⟩
def D_Columns_widen : List (Nat × Instr × Nat) := [(0, .aload_n 1, 1), (1, .getfield 25, 3), (4, .aload_n 1, 1), (5, .getfield 41, 3), (8, .iadd, 1), (9, .istore 4, 2), (11, .iload_n 2, 1), (12, .istore 5, 2), (14, .aload_n 1, 1), (15, .getfield 25, 3), (18, .istore 6, 2), (20, .iload 6, 2), (22, .iload 4, 2), (24, .if_icmp .ge 58, 3), (27, .aload_n 0, 1), (28, .getfield 15, 3), (31, .iload 6, 2), (33, .iaload, 1), (34, .aload_n 0, 1), (35, .getfield 9, 3), (38, .iload 6, 2), (40, .iaload, 1), (41, .isub, 1), (42, .i2l, 1), (43, .iload_n 2, 1), (44, .i2l, 1), (45, .lmul, 1), (46, .iload_n 3, 1), (47, .i2l, 1), (48, .ldiv, 1), (49, .l2i, 1), (50, .istore 7, 2), (52, .aload_n 0, 1), (53, .getfield 18, 3), (56, .iload 6, 2), (58, .aload_n 0, 1), (59, .getfield 9, 3), (62, .iload 6, 2), (64, .iaload, 1), (65, .iload 7, 2), (67, .iadd, 1), (68, .iastore, 1), (69, .iload 5, 2), (71, .iload 7, 2), (73, .isub, 1), (74, .istore 5, 2), (76, .iinc 6 1, 3), (79, .goto (-59), 3), (82, .aload_n 1, 1), (83, .getfield 25, 3), (86, .istore 6, 2), (88, .iload 6, 2), (90, .iload 4, 2), (92, .if_icmp .ge 45, 3), (95, .iload 5, 2), (97, .ifCond .le 40, 3), (100, .aload_n 0, 1), (101, .getfield 18, 3), (104, .iload 6, 2), (106, .iaload, 1), (107, .aload_n 0, 1), (108, .getfield 15, 3), (111, .iload 6, 2), (113, .iaload, 1), (114, .if_icmp .ge 17, 3), (117, .aload_n 0, 1), (118, .getfield 18, 3), (121, .iload 6, 2), (123, .dup2, 1), (124, .iaload, 1), (125, .iconst 1, 1), (126, .iadd, 1), (127, .iastore, 1), (128, .iinc 5 (-1), 3), (131, .iinc 6 1, 3), (134, .goto (-46), 3), (137, .return_, 1)]
theorem dd_Columns_widen : (D_Columns_widen.all fun q => decide (decode b_Columns_widen q.1 = .ok q.2)) = true := by decide +kernel
def t_Columns_widen : pl_TR := fun P _ _ => s_seq (s_seq (s_seti 4 (e_bin (fun x y : Int32 => x + y) (e_geti 1 12 (e_locr 1)) (e_geti 1 13 (e_locr 1)))) (s_seq (s_seti 5 (e_loc 2)) (s_seq (s_seq (s_seti 6 (e_geti 1 12 (e_locr 1))) (s_while (b_cmp .lt (e_loc 6) (e_loc 4)) (s_seq (s_seq (s_seti 7 (e_un Int64.toInt32 (e_ldiv (e_bin (fun x y : Int64 => x * y) (e_un Int32.toInt64 (e_bin (fun x y : Int32 => x - y) (e_ald 1 (e_getr 2 1 (e_locr 0)) (e_loc 6)) (e_ald 1 (e_getr 2 0 (e_locr 0)) (e_loc 6)))) (e_un Int32.toInt64 (e_loc 2))) (e_un Int32.toInt64 (e_loc 3))))) (s_seq (s_iast (e_getr 2 2 (e_locr 0)) (e_loc 6) (e_bin (fun x y : Int32 => x + y) (e_ald 1 (e_getr 2 0 (e_locr 0)) (e_loc 6)) (e_loc 7))) (s_seti 5 (e_bin (fun x y : Int32 => x - y) (e_loc 5) (e_loc 7))))) (s_inc 6 1)))) (s_seq (s_seti 6 (e_geti 1 12 (e_locr 1))) (s_while (b_and (b_cmp .lt (e_loc 6) (e_loc 4)) (b_zero .gt (e_loc 5))) (s_seq (s_if (b_cmp .lt (e_ald 1 (e_getr 2 2 (e_locr 0)) (e_loc 6)) (e_ald 1 (e_getr 2 1 (e_locr 0)) (e_loc 6))) (s_seq (s_iupd (fun x y : Int32 => x + y) (e_getr 2 2 (e_locr 0)) (e_loc 6) (e_int 1)) (s_inc 5 (-1)))) (s_inc 6 1))))))) (s_retv P)
theorem z_Columns_widen (l : Launch) : pl_Ctr l y_Columns_widen b_Columns_widen n_Columns_widen (Option.none : Option Jvm.ClassFile.FieldType) 0 0 0 0 false t_Columns_widen := pl_ctr_of (pe := 0) (by decide) (fun X Y P F Fm => by
  have F : pl_Fx X Y "PageLayouter$Columns" b_Columns_widen := F
  have hm : ∀ i, i < 8 → i < (pl_xc X).maxLocals := fun i h => by rw [Fm.2.2.2.1]; exact h
  have k0 : decode b_Columns_widen 0 = .ok (.aload_n 1, 1) := pl_dc dd_Columns_widen 0 (q := (0, .aload_n 1, 1)) rfl
  have k1 : decode b_Columns_widen 1 = .ok (.getfield 25, 3) := pl_dc dd_Columns_widen 1 (q := (1, .getfield 25, 3)) rfl
  have k4 : decode b_Columns_widen 4 = .ok (.aload_n 1, 1) := pl_dc dd_Columns_widen 2 (q := (4, .aload_n 1, 1)) rfl
  have k5 : decode b_Columns_widen 5 = .ok (.getfield 41, 3) := pl_dc dd_Columns_widen 3 (q := (5, .getfield 41, 3)) rfl
  have k8 : decode b_Columns_widen 8 = .ok (.iadd, 1) := pl_dc dd_Columns_widen 4 (q := (8, .iadd, 1)) rfl
  have k9 : decode b_Columns_widen 9 = .ok (.istore 4, 2) := pl_dc dd_Columns_widen 5 (q := (9, .istore 4, 2)) rfl
  have k11 : decode b_Columns_widen 11 = .ok (.iload_n 2, 1) := pl_dc dd_Columns_widen 6 (q := (11, .iload_n 2, 1)) rfl
  have k12 : decode b_Columns_widen 12 = .ok (.istore 5, 2) := pl_dc dd_Columns_widen 7 (q := (12, .istore 5, 2)) rfl
  have k14 : decode b_Columns_widen 14 = .ok (.aload_n 1, 1) := pl_dc dd_Columns_widen 8 (q := (14, .aload_n 1, 1)) rfl
  have k15 : decode b_Columns_widen 15 = .ok (.getfield 25, 3) := pl_dc dd_Columns_widen 9 (q := (15, .getfield 25, 3)) rfl
  have k18 : decode b_Columns_widen 18 = .ok (.istore 6, 2) := pl_dc dd_Columns_widen 10 (q := (18, .istore 6, 2)) rfl
  have k20 : decode b_Columns_widen 20 = .ok (.iload 6, 2) := pl_dc dd_Columns_widen 11 (q := (20, .iload 6, 2)) rfl
  have k22 : decode b_Columns_widen 22 = .ok (.iload 4, 2) := pl_dc dd_Columns_widen 12 (q := (22, .iload 4, 2)) rfl
  have k24 : decode b_Columns_widen 24 = .ok (.if_icmp .ge 58, 3) := pl_dc dd_Columns_widen 13 (q := (24, .if_icmp .ge 58, 3)) rfl
  have k27 : decode b_Columns_widen 27 = .ok (.aload_n 0, 1) := pl_dc dd_Columns_widen 14 (q := (27, .aload_n 0, 1)) rfl
  have k28 : decode b_Columns_widen 28 = .ok (.getfield 15, 3) := pl_dc dd_Columns_widen 15 (q := (28, .getfield 15, 3)) rfl
  have k31 : decode b_Columns_widen 31 = .ok (.iload 6, 2) := pl_dc dd_Columns_widen 16 (q := (31, .iload 6, 2)) rfl
  have k33 : decode b_Columns_widen 33 = .ok (.iaload, 1) := pl_dc dd_Columns_widen 17 (q := (33, .iaload, 1)) rfl
  have k34 : decode b_Columns_widen 34 = .ok (.aload_n 0, 1) := pl_dc dd_Columns_widen 18 (q := (34, .aload_n 0, 1)) rfl
  have k35 : decode b_Columns_widen 35 = .ok (.getfield 9, 3) := pl_dc dd_Columns_widen 19 (q := (35, .getfield 9, 3)) rfl
  have k38 : decode b_Columns_widen 38 = .ok (.iload 6, 2) := pl_dc dd_Columns_widen 20 (q := (38, .iload 6, 2)) rfl
  have k40 : decode b_Columns_widen 40 = .ok (.iaload, 1) := pl_dc dd_Columns_widen 21 (q := (40, .iaload, 1)) rfl
  have k41 : decode b_Columns_widen 41 = .ok (.isub, 1) := pl_dc dd_Columns_widen 22 (q := (41, .isub, 1)) rfl
  have k42 : decode b_Columns_widen 42 = .ok (.i2l, 1) := pl_dc dd_Columns_widen 23 (q := (42, .i2l, 1)) rfl
  have k43 : decode b_Columns_widen 43 = .ok (.iload_n 2, 1) := pl_dc dd_Columns_widen 24 (q := (43, .iload_n 2, 1)) rfl
  have k44 : decode b_Columns_widen 44 = .ok (.i2l, 1) := pl_dc dd_Columns_widen 25 (q := (44, .i2l, 1)) rfl
  have k45 : decode b_Columns_widen 45 = .ok (.lmul, 1) := pl_dc dd_Columns_widen 26 (q := (45, .lmul, 1)) rfl
  have k46 : decode b_Columns_widen 46 = .ok (.iload_n 3, 1) := pl_dc dd_Columns_widen 27 (q := (46, .iload_n 3, 1)) rfl
  have k47 : decode b_Columns_widen 47 = .ok (.i2l, 1) := pl_dc dd_Columns_widen 28 (q := (47, .i2l, 1)) rfl
  have k48 : decode b_Columns_widen 48 = .ok (.ldiv, 1) := pl_dc dd_Columns_widen 29 (q := (48, .ldiv, 1)) rfl
  have k49 : decode b_Columns_widen 49 = .ok (.l2i, 1) := pl_dc dd_Columns_widen 30 (q := (49, .l2i, 1)) rfl
  have k50 : decode b_Columns_widen 50 = .ok (.istore 7, 2) := pl_dc dd_Columns_widen 31 (q := (50, .istore 7, 2)) rfl
  have k52 : decode b_Columns_widen 52 = .ok (.aload_n 0, 1) := pl_dc dd_Columns_widen 32 (q := (52, .aload_n 0, 1)) rfl
  have k53 : decode b_Columns_widen 53 = .ok (.getfield 18, 3) := pl_dc dd_Columns_widen 33 (q := (53, .getfield 18, 3)) rfl
  have k56 : decode b_Columns_widen 56 = .ok (.iload 6, 2) := pl_dc dd_Columns_widen 34 (q := (56, .iload 6, 2)) rfl
  have k58 : decode b_Columns_widen 58 = .ok (.aload_n 0, 1) := pl_dc dd_Columns_widen 35 (q := (58, .aload_n 0, 1)) rfl
  have k59 : decode b_Columns_widen 59 = .ok (.getfield 9, 3) := pl_dc dd_Columns_widen 36 (q := (59, .getfield 9, 3)) rfl
  have k62 : decode b_Columns_widen 62 = .ok (.iload 6, 2) := pl_dc dd_Columns_widen 37 (q := (62, .iload 6, 2)) rfl
  have k64 : decode b_Columns_widen 64 = .ok (.iaload, 1) := pl_dc dd_Columns_widen 38 (q := (64, .iaload, 1)) rfl
  have k65 : decode b_Columns_widen 65 = .ok (.iload 7, 2) := pl_dc dd_Columns_widen 39 (q := (65, .iload 7, 2)) rfl
  have k67 : decode b_Columns_widen 67 = .ok (.iadd, 1) := pl_dc dd_Columns_widen 40 (q := (67, .iadd, 1)) rfl
  have k68 : decode b_Columns_widen 68 = .ok (.iastore, 1) := pl_dc dd_Columns_widen 41 (q := (68, .iastore, 1)) rfl
  have k69 : decode b_Columns_widen 69 = .ok (.iload 5, 2) := pl_dc dd_Columns_widen 42 (q := (69, .iload 5, 2)) rfl
  have k71 : decode b_Columns_widen 71 = .ok (.iload 7, 2) := pl_dc dd_Columns_widen 43 (q := (71, .iload 7, 2)) rfl
  have k73 : decode b_Columns_widen 73 = .ok (.isub, 1) := pl_dc dd_Columns_widen 44 (q := (73, .isub, 1)) rfl
  have k74 : decode b_Columns_widen 74 = .ok (.istore 5, 2) := pl_dc dd_Columns_widen 45 (q := (74, .istore 5, 2)) rfl
  have k76 : decode b_Columns_widen 76 = .ok (.iinc 6 1, 3) := pl_dc dd_Columns_widen 46 (q := (76, .iinc 6 1, 3)) rfl
  have k79 : decode b_Columns_widen 79 = .ok (.goto (-59), 3) := pl_dc dd_Columns_widen 47 (q := (79, .goto (-59), 3)) rfl
  have k82 : decode b_Columns_widen 82 = .ok (.aload_n 1, 1) := pl_dc dd_Columns_widen 48 (q := (82, .aload_n 1, 1)) rfl
  have k83 : decode b_Columns_widen 83 = .ok (.getfield 25, 3) := pl_dc dd_Columns_widen 49 (q := (83, .getfield 25, 3)) rfl
  have k86 : decode b_Columns_widen 86 = .ok (.istore 6, 2) := pl_dc dd_Columns_widen 50 (q := (86, .istore 6, 2)) rfl
  have k88 : decode b_Columns_widen 88 = .ok (.iload 6, 2) := pl_dc dd_Columns_widen 51 (q := (88, .iload 6, 2)) rfl
  have k90 : decode b_Columns_widen 90 = .ok (.iload 4, 2) := pl_dc dd_Columns_widen 52 (q := (90, .iload 4, 2)) rfl
  have k92 : decode b_Columns_widen 92 = .ok (.if_icmp .ge 45, 3) := pl_dc dd_Columns_widen 53 (q := (92, .if_icmp .ge 45, 3)) rfl
  have k95 : decode b_Columns_widen 95 = .ok (.iload 5, 2) := pl_dc dd_Columns_widen 54 (q := (95, .iload 5, 2)) rfl
  have k97 : decode b_Columns_widen 97 = .ok (.ifCond .le 40, 3) := pl_dc dd_Columns_widen 55 (q := (97, .ifCond .le 40, 3)) rfl
  have k100 : decode b_Columns_widen 100 = .ok (.aload_n 0, 1) := pl_dc dd_Columns_widen 56 (q := (100, .aload_n 0, 1)) rfl
  have k101 : decode b_Columns_widen 101 = .ok (.getfield 18, 3) := pl_dc dd_Columns_widen 57 (q := (101, .getfield 18, 3)) rfl
  have k104 : decode b_Columns_widen 104 = .ok (.iload 6, 2) := pl_dc dd_Columns_widen 58 (q := (104, .iload 6, 2)) rfl
  have k106 : decode b_Columns_widen 106 = .ok (.iaload, 1) := pl_dc dd_Columns_widen 59 (q := (106, .iaload, 1)) rfl
  have k107 : decode b_Columns_widen 107 = .ok (.aload_n 0, 1) := pl_dc dd_Columns_widen 60 (q := (107, .aload_n 0, 1)) rfl
  have k108 : decode b_Columns_widen 108 = .ok (.getfield 15, 3) := pl_dc dd_Columns_widen 61 (q := (108, .getfield 15, 3)) rfl
  have k111 : decode b_Columns_widen 111 = .ok (.iload 6, 2) := pl_dc dd_Columns_widen 62 (q := (111, .iload 6, 2)) rfl
  have k113 : decode b_Columns_widen 113 = .ok (.iaload, 1) := pl_dc dd_Columns_widen 63 (q := (113, .iaload, 1)) rfl
  have k114 : decode b_Columns_widen 114 = .ok (.if_icmp .ge 17, 3) := pl_dc dd_Columns_widen 64 (q := (114, .if_icmp .ge 17, 3)) rfl
  have k117 : decode b_Columns_widen 117 = .ok (.aload_n 0, 1) := pl_dc dd_Columns_widen 65 (q := (117, .aload_n 0, 1)) rfl
  have k118 : decode b_Columns_widen 118 = .ok (.getfield 18, 3) := pl_dc dd_Columns_widen 66 (q := (118, .getfield 18, 3)) rfl
  have k121 : decode b_Columns_widen 121 = .ok (.iload 6, 2) := pl_dc dd_Columns_widen 67 (q := (121, .iload 6, 2)) rfl
  have k123 : decode b_Columns_widen 123 = .ok (.dup2, 1) := pl_dc dd_Columns_widen 68 (q := (123, .dup2, 1)) rfl
  have k124 : decode b_Columns_widen 124 = .ok (.iaload, 1) := pl_dc dd_Columns_widen 69 (q := (124, .iaload, 1)) rfl
  have k125 : decode b_Columns_widen 125 = .ok (.iconst 1, 1) := pl_dc dd_Columns_widen 70 (q := (125, .iconst 1, 1)) rfl
  have k126 : decode b_Columns_widen 126 = .ok (.iadd, 1) := pl_dc dd_Columns_widen 71 (q := (126, .iadd, 1)) rfl
  have k127 : decode b_Columns_widen 127 = .ok (.iastore, 1) := pl_dc dd_Columns_widen 72 (q := (127, .iastore, 1)) rfl
  have k128 : decode b_Columns_widen 128 = .ok (.iinc 5 (-1), 3) := pl_dc dd_Columns_widen 73 (q := (128, .iinc 5 (-1), 3)) rfl
  have k131 : decode b_Columns_widen 131 = .ok (.iinc 6 1, 3) := pl_dc dd_Columns_widen 74 (q := (131, .iinc 6 1, 3)) rfl
  have k134 : decode b_Columns_widen 134 = .ok (.goto (-46), 3) := pl_dc dd_Columns_widen 75 (q := (134, .goto (-46), 3)) rfl
  have k137 : decode b_Columns_widen 137 = .ok (.return_, 1) := pl_dc dd_Columns_widen 76 (q := (137, .return_, 1)) rfl
  exact (d_seq (p1 := 137) (d_seq (p1 := 11) (d_istore (p1 := 9) F (c_bin 1 (p1 := 4) (p2 := 8) (c_geti (p1 := 1) F 1 12 hg_1_12 (c_aload_n F k0 rfl) k1 lf_Columns_25) (c_geti (p1 := 5) F 1 13 hg_1_13 (c_aload_n F k4 rfl) k5 lf_Columns_41) pl_c1 (j_iadd F k8)) k9 (hm 4 (by decide))) (d_seq (p1 := 14) (d_istore (p1 := 12) F (c_iload_n F k11 rfl) k12 (hm 5 (by decide))) (d_seq (p1 := 82) (d_seq (p1 := 20) (d_istore (p1 := 18) F (c_geti (p1 := 15) F 1 12 hg_1_12 (c_aload_n F k14 rfl) k15 lf_Columns_25) k18 (hm 6 (by decide))) (d_while (p1 := 27) (p2 := 79) F (b_cmp_t (p1 := 22) (p2 := 24) (pj := 82) F (c_iload F k20) (c_iload F k22) k24 (by decide)) (d_seq (p1 := 76) (d_seq (p1 := 52) (d_istore (p1 := 50) F (c_un (p1 := 49) (c_ldiv (p1 := 46) (p2 := 48) F (c_bin 2 (p1 := 43) (p2 := 45) (c_un (p1 := 42) (c_bin 1 (p1 := 34) (p2 := 41) (c_iald (p1 := 31) (p2 := 33) F (c_getr (p1 := 28) F 2 1 hg_2_1 (c_aload_n F k27 rfl) k28 lf_Columns_15) (c_iload F k31) k33) (c_iald (p1 := 38) (p2 := 40) F (c_getr (p1 := 35) F 2 0 hg_2_0 (c_aload_n F k34 rfl) k35 lf_Columns_9) (c_iload F k38) k40) pl_c1 (j_isub F k41)) (j_i2l F k42)) (c_un (p1 := 44) (c_iload_n F k43 rfl) (j_i2l F k44)) pl_c2 (j_lmul F k45)) (c_un (p1 := 47) (c_iload_n F k46 rfl) (j_i2l F k47)) k48) (j_l2i F k49)) k50 (hm 7 (by decide))) (d_seq (p1 := 69) (d_iast (p1 := 56) (p2 := 58) (p3 := 68) F (c_getr (p1 := 53) F 2 2 hg_2_2 (c_aload_n F k52 rfl) k53 lf_Columns_18) (c_iload F k56) (c_bin 1 (p1 := 65) (p2 := 67) (c_iald (p1 := 62) (p2 := 64) F (c_getr (p1 := 59) F 2 0 hg_2_0 (c_aload_n F k58 rfl) k59 lf_Columns_9) (c_iload F k62) k64) (c_iload F k65) pl_c1 (j_iadd F k67)) k68) (d_istore (p1 := 74) F (c_bin 1 (p1 := 71) (p2 := 73) (c_iload F k69) (c_iload F k71) pl_c1 (j_isub F k73)) k74 (hm 5 (by decide))))) (d_iinc F k76 (by decide) (hm 6 (by decide)))) k79 (by decide))) (d_seq (p1 := 88) (d_istore (p1 := 86) F (c_geti (p1 := 83) F 1 12 hg_1_12 (c_aload_n F k82 rfl) k83 lf_Columns_25) k86 (hm 6 (by decide))) (d_while (p1 := 100) (p2 := 134) F (b_and_t (p1 := 95) (b_cmp_t (p1 := 90) (p2 := 92) (pj := 137) F (c_iload F k88) (c_iload F k90) k92 (by decide)) (b_zero_t (p1 := 97) (pj := 137) F (c_iload F k95) k97 (by decide))) (d_seq (p1 := 131) (d_if (p1 := 117) (p2 := 131) (b_cmp_t (p1 := 107) (p2 := 114) (pj := 131) F (c_iald (p1 := 104) (p2 := 106) F (c_getr (p1 := 101) F 2 2 hg_2_2 (c_aload_n F k100 rfl) k101 lf_Columns_18) (c_iload F k104) k106) (c_iald (p1 := 111) (p2 := 113) F (c_getr (p1 := 108) F 2 1 hg_2_1 (c_aload_n F k107 rfl) k108 lf_Columns_15) (c_iload F k111) k113) k114 (by decide)) (d_seq (p1 := 128) (d_iupd (p1 := 121) (p2 := 123) (p3 := 126) F (c_getr (p1 := 118) F 2 2 hg_2_2 (c_aload_n F k117 rfl) k118 lf_Columns_18) (c_iload F k121) k123 k124 (c_iconst F k125 (by decide)) (j_iadd F k126) k127) (d_iinc F k128 (by decide) (hm 5 (by decide))))) (d_iinc F k131 (by decide) (hm 6 (by decide)))) k134 (by decide)))))) (d_retv F Fm.2.1 Fm.2.2.1 k137)))
def y_Columns_giveRows : MethodName := ⟨"PageLayouter$Columns", "giveRows", "(LPageLayouter$Box;)V"⟩
abbrev b_Columns_giveRows : ByteArray := prog_3_method_9_code
abbrev n_Columns_giveRows : Nat := 6
theorem y_Columns_giveRows_ok : pl_MV 2 y_Columns_giveRows b_Columns_giveRows n_Columns_giveRows (Option.none : Option Jvm.ClassFile.FieldType) 1 := ⟨pl_mem 550 (by decide +kernel) (by decide +kernel), pl_mem 549 (by decide +kernel) (by decide +kernel), pl_mem 7 (by decide +kernel) (by decide +kernel), pl_mem 46 (by decide +kernel) (by decide +kernel), ⟨by decide, by decide, by decide +kernel⟩, _, rfl, rfl⟩
def D_Columns_giveRows : List (Nat × Instr × Nat) := [(0, .aload_n 0, 1), (1, .getfield 18, 3), (4, .aload_n 1, 1), (5, .invokestatic 60, 3), (8, .istore_n 2, 1), (9, .aload_n 1, 1), (10, .invokevirtual 30, 3), (13, .astore_n 3, 1), (14, .aload_n 3, 1), (15, .ifnull 77, 3), (18, .aload_n 3, 1), (19, .iload_n 2, 1), (20, .putfield 70, 3), (23, .aload_n 1, 1), (24, .getfield 25, 3), (27, .istore 4, 2), (29, .aload_n 3, 1), (30, .invokevirtual 30, 3), (33, .astore 5, 2), (35, .aload 5, 2), (37, .ifnull 47, 3), (40, .iload 4, 2), (42, .aload_n 0, 1), (43, .getfield 21, 3), (46, .if_icmp .ge 38, 3), (49, .aload 5, 2), (51, .iconst 0, 1), (52, .aload_n 0, 1), (53, .getfield 18, 3), (56, .iload 4, 2), (58, .iaload, 1), (59, .aload 5, 2), (61, .invokevirtual 48, 3), (64, .isub, 1), (65, .invokestatic 51, 3), (68, .putfield 70, 3), (71, .iinc 4 1, 3), (74, .aload 5, 2), (76, .invokevirtual 38, 3), (79, .astore 5, 2), (81, .goto (-46), 3), (84, .aload_n 3, 1), (85, .invokevirtual 38, 3), (88, .astore_n 3, 1), (89, .goto (-75), 3), (92, .return_, 1)]
theorem dd_Columns_giveRows : (D_Columns_giveRows.all fun q => decide (decode b_Columns_giveRows q.1 = .ok q.2)) = true := by decide +kernel
def t_Columns_giveRows : pl_TR := fun P _ _ => s_seq (s_seq (s_seti 2 (e_callS Value.int t_Columns_sum n_Columns_sum (a_r (a_r a_nil (e_getr 2 2 (e_locr 0))) (e_locr 1)))) (s_seq (s_setr 3 (e_callV id 1 t_Box_firstInFlow n_Box_firstInFlow (a_r a_nil (e_locr 1)))) (s_while (b_nn (e_locr 3)) (s_seq (s_seq (s_puti 1 14 (e_locr 3) (e_loc 2)) (s_seq (s_seti 4 (e_geti 1 12 (e_locr 1))) (s_seq (s_setr 5 (e_callV id 1 t_Box_firstInFlow n_Box_firstInFlow (a_r a_nil (e_locr 3)))) (s_while (b_and (b_nn (e_locr 5)) (b_cmp .lt (e_loc 4) (e_geti 2 3 (e_locr 0)))) (s_seq (s_seq (s_puti 1 14 (e_locr 5) (e_bin pl_max (e_int 0) (e_bin (fun x y : Int32 => x - y) (e_ald 1 (e_getr 2 2 (e_locr 0)) (e_loc 4)) (e_callV Value.int 1 t_Box_edges n_Box_edges (a_r a_nil (e_locr 5)))))) (s_inc 4 1)) (s_setr 5 (e_callV id 1 t_Box_nextInFlow n_Box_nextInFlow (a_r a_nil (e_locr 5))))))))) (s_setr 3 (e_callV id 1 t_Box_nextInFlow n_Box_nextInFlow (a_r a_nil (e_locr 3)))))))) (s_retv P)
theorem z_Columns_giveRows (l : Launch) : pl_Ctr l y_Columns_giveRows b_Columns_giveRows n_Columns_giveRows (Option.none : Option Jvm.ClassFile.FieldType) 2 41 0 0 false t_Columns_giveRows := pl_ctr_of (pe := 0) (by decide) (fun X Y P F Fm => by
  have F : pl_Fx X Y "PageLayouter$Columns" b_Columns_giveRows := F
  have r_Box_edges : 1 + 1 ≤ (pl_xR X).frames ∧ 8 + (n_Box_edges + 11) + 20 ≤ (pl_xR X).locals := ⟨Nat.le_trans (by decide) Fm.2.2.2.2.2.1, Nat.le_trans (by decide) Fm.2.2.2.2.2.2.1⟩
  have r_Box_firstInFlow : 1 + 1 ≤ (pl_xR X).frames ∧ 8 + (n_Box_firstInFlow + 11) + 20 ≤ (pl_xR X).locals := ⟨Nat.le_trans (by decide) Fm.2.2.2.2.2.1, Nat.le_trans (by decide) Fm.2.2.2.2.2.2.1⟩
  have r_Box_nextInFlow : 1 + 1 ≤ (pl_xR X).frames ∧ 8 + (n_Box_nextInFlow + 11) + 20 ≤ (pl_xR X).locals := ⟨Nat.le_trans (by decide) Fm.2.2.2.2.2.1, Nat.le_trans (by decide) Fm.2.2.2.2.2.2.1⟩
  have r_Columns_sum : 0 + 1 ≤ (pl_xR X).frames ∧ 8 + (n_Columns_sum + 11) + 0 ≤ (pl_xR X).locals := ⟨Nat.le_trans (by decide) Fm.2.2.2.2.2.1, Nat.le_trans (by decide) Fm.2.2.2.2.2.2.1⟩
  have R0 : 1 ≤ (pl_xR X).frames ∧ 21 ≤ (pl_xR X).locals := ⟨Nat.le_trans (by decide) Fm.2.2.2.2.2.1, Nat.le_trans (by decide) Fm.2.2.2.2.2.2.1⟩
  have hm : ∀ i, i < 6 → i < (pl_xc X).maxLocals := fun i h => by rw [Fm.2.2.2.1]; exact h
  have k0 : decode b_Columns_giveRows 0 = .ok (.aload_n 0, 1) := pl_dc dd_Columns_giveRows 0 (q := (0, .aload_n 0, 1)) rfl
  have k1 : decode b_Columns_giveRows 1 = .ok (.getfield 18, 3) := pl_dc dd_Columns_giveRows 1 (q := (1, .getfield 18, 3)) rfl
  have k4 : decode b_Columns_giveRows 4 = .ok (.aload_n 1, 1) := pl_dc dd_Columns_giveRows 2 (q := (4, .aload_n 1, 1)) rfl
  have k5 : decode b_Columns_giveRows 5 = .ok (.invokestatic 60, 3) := pl_dc dd_Columns_giveRows 3 (q := (5, .invokestatic 60, 3)) rfl
  have k8 : decode b_Columns_giveRows 8 = .ok (.istore_n 2, 1) := pl_dc dd_Columns_giveRows 4 (q := (8, .istore_n 2, 1)) rfl
  have k9 : decode b_Columns_giveRows 9 = .ok (.aload_n 1, 1) := pl_dc dd_Columns_giveRows 5 (q := (9, .aload_n 1, 1)) rfl
  have k10 : decode b_Columns_giveRows 10 = .ok (.invokevirtual 30, 3) := pl_dc dd_Columns_giveRows 6 (q := (10, .invokevirtual 30, 3)) rfl
  have k13 : decode b_Columns_giveRows 13 = .ok (.astore_n 3, 1) := pl_dc dd_Columns_giveRows 7 (q := (13, .astore_n 3, 1)) rfl
  have k14 : decode b_Columns_giveRows 14 = .ok (.aload_n 3, 1) := pl_dc dd_Columns_giveRows 8 (q := (14, .aload_n 3, 1)) rfl
  have k15 : decode b_Columns_giveRows 15 = .ok (.ifnull 77, 3) := pl_dc dd_Columns_giveRows 9 (q := (15, .ifnull 77, 3)) rfl
  have k18 : decode b_Columns_giveRows 18 = .ok (.aload_n 3, 1) := pl_dc dd_Columns_giveRows 10 (q := (18, .aload_n 3, 1)) rfl
  have k19 : decode b_Columns_giveRows 19 = .ok (.iload_n 2, 1) := pl_dc dd_Columns_giveRows 11 (q := (19, .iload_n 2, 1)) rfl
  have k20 : decode b_Columns_giveRows 20 = .ok (.putfield 70, 3) := pl_dc dd_Columns_giveRows 12 (q := (20, .putfield 70, 3)) rfl
  have k23 : decode b_Columns_giveRows 23 = .ok (.aload_n 1, 1) := pl_dc dd_Columns_giveRows 13 (q := (23, .aload_n 1, 1)) rfl
  have k24 : decode b_Columns_giveRows 24 = .ok (.getfield 25, 3) := pl_dc dd_Columns_giveRows 14 (q := (24, .getfield 25, 3)) rfl
  have k27 : decode b_Columns_giveRows 27 = .ok (.istore 4, 2) := pl_dc dd_Columns_giveRows 15 (q := (27, .istore 4, 2)) rfl
  have k29 : decode b_Columns_giveRows 29 = .ok (.aload_n 3, 1) := pl_dc dd_Columns_giveRows 16 (q := (29, .aload_n 3, 1)) rfl
  have k30 : decode b_Columns_giveRows 30 = .ok (.invokevirtual 30, 3) := pl_dc dd_Columns_giveRows 17 (q := (30, .invokevirtual 30, 3)) rfl
  have k33 : decode b_Columns_giveRows 33 = .ok (.astore 5, 2) := pl_dc dd_Columns_giveRows 18 (q := (33, .astore 5, 2)) rfl
  have k35 : decode b_Columns_giveRows 35 = .ok (.aload 5, 2) := pl_dc dd_Columns_giveRows 19 (q := (35, .aload 5, 2)) rfl
  have k37 : decode b_Columns_giveRows 37 = .ok (.ifnull 47, 3) := pl_dc dd_Columns_giveRows 20 (q := (37, .ifnull 47, 3)) rfl
  have k40 : decode b_Columns_giveRows 40 = .ok (.iload 4, 2) := pl_dc dd_Columns_giveRows 21 (q := (40, .iload 4, 2)) rfl
  have k42 : decode b_Columns_giveRows 42 = .ok (.aload_n 0, 1) := pl_dc dd_Columns_giveRows 22 (q := (42, .aload_n 0, 1)) rfl
  have k43 : decode b_Columns_giveRows 43 = .ok (.getfield 21, 3) := pl_dc dd_Columns_giveRows 23 (q := (43, .getfield 21, 3)) rfl
  have k46 : decode b_Columns_giveRows 46 = .ok (.if_icmp .ge 38, 3) := pl_dc dd_Columns_giveRows 24 (q := (46, .if_icmp .ge 38, 3)) rfl
  have k49 : decode b_Columns_giveRows 49 = .ok (.aload 5, 2) := pl_dc dd_Columns_giveRows 25 (q := (49, .aload 5, 2)) rfl
  have k51 : decode b_Columns_giveRows 51 = .ok (.iconst 0, 1) := pl_dc dd_Columns_giveRows 26 (q := (51, .iconst 0, 1)) rfl
  have k52 : decode b_Columns_giveRows 52 = .ok (.aload_n 0, 1) := pl_dc dd_Columns_giveRows 27 (q := (52, .aload_n 0, 1)) rfl
  have k53 : decode b_Columns_giveRows 53 = .ok (.getfield 18, 3) := pl_dc dd_Columns_giveRows 28 (q := (53, .getfield 18, 3)) rfl
  have k56 : decode b_Columns_giveRows 56 = .ok (.iload 4, 2) := pl_dc dd_Columns_giveRows 29 (q := (56, .iload 4, 2)) rfl
  have k58 : decode b_Columns_giveRows 58 = .ok (.iaload, 1) := pl_dc dd_Columns_giveRows 30 (q := (58, .iaload, 1)) rfl
  have k59 : decode b_Columns_giveRows 59 = .ok (.aload 5, 2) := pl_dc dd_Columns_giveRows 31 (q := (59, .aload 5, 2)) rfl
  have k61 : decode b_Columns_giveRows 61 = .ok (.invokevirtual 48, 3) := pl_dc dd_Columns_giveRows 32 (q := (61, .invokevirtual 48, 3)) rfl
  have k64 : decode b_Columns_giveRows 64 = .ok (.isub, 1) := pl_dc dd_Columns_giveRows 33 (q := (64, .isub, 1)) rfl
  have k65 : decode b_Columns_giveRows 65 = .ok (.invokestatic 51, 3) := pl_dc dd_Columns_giveRows 34 (q := (65, .invokestatic 51, 3)) rfl
  have k68 : decode b_Columns_giveRows 68 = .ok (.putfield 70, 3) := pl_dc dd_Columns_giveRows 35 (q := (68, .putfield 70, 3)) rfl
  have k71 : decode b_Columns_giveRows 71 = .ok (.iinc 4 1, 3) := pl_dc dd_Columns_giveRows 36 (q := (71, .iinc 4 1, 3)) rfl
  have k74 : decode b_Columns_giveRows 74 = .ok (.aload 5, 2) := pl_dc dd_Columns_giveRows 37 (q := (74, .aload 5, 2)) rfl
  have k76 : decode b_Columns_giveRows 76 = .ok (.invokevirtual 38, 3) := pl_dc dd_Columns_giveRows 38 (q := (76, .invokevirtual 38, 3)) rfl
  have k79 : decode b_Columns_giveRows 79 = .ok (.astore 5, 2) := pl_dc dd_Columns_giveRows 39 (q := (79, .astore 5, 2)) rfl
  have k81 : decode b_Columns_giveRows 81 = .ok (.goto (-46), 3) := pl_dc dd_Columns_giveRows 40 (q := (81, .goto (-46), 3)) rfl
  have k84 : decode b_Columns_giveRows 84 = .ok (.aload_n 3, 1) := pl_dc dd_Columns_giveRows 41 (q := (84, .aload_n 3, 1)) rfl
  have k85 : decode b_Columns_giveRows 85 = .ok (.invokevirtual 38, 3) := pl_dc dd_Columns_giveRows 42 (q := (85, .invokevirtual 38, 3)) rfl
  have k88 : decode b_Columns_giveRows 88 = .ok (.astore_n 3, 1) := pl_dc dd_Columns_giveRows 43 (q := (88, .astore_n 3, 1)) rfl
  have k89 : decode b_Columns_giveRows 89 = .ok (.goto (-75), 3) := pl_dc dd_Columns_giveRows 44 (q := (89, .goto (-75), 3)) rfl
  have k92 : decode b_Columns_giveRows 92 = .ok (.return_, 1) := pl_dc dd_Columns_giveRows 45 (q := (92, .return_, 1)) rfl
  exact (d_seq (p1 := 92) (d_seq (p1 := 9) (d_istore_n (p1 := 8) F (c_callS (p1 := 5) F (a_r_ok (p1 := 4) (a_r_ok (p1 := 0) a_nil_ok (c_getr (p1 := 1) F 2 2 hg_2_2 (c_aload_n F k0 rfl) k1 lf_Columns_18)) (c_aload_n F k4 rfl)) (z_Columns_sum _) y_Columns_sum_ok lm_Columns_60 k5 r_Columns_sum (by decide) (by decide)) k8 rfl (hm 2 (by decide))) (d_seq (p1 := 14) (d_astore_n (p1 := 13) F (c_callV (p1 := 10) F (a_r_ok (p1 := 9) a_nil_ok (c_aload_n F k9 rfl)) (z_Box_firstInFlow _) y_Box_firstInFlow_ok lm_Columns_30 k10 r_Box_firstInFlow (by decide) (by decide)) k13 rfl (hm 3 (by decide))) (d_while (p1 := 18) (p2 := 89) F (b_nn_t (p1 := 15) (pj := 92) F (c_aload_n F k14 rfl) k15 (by decide)) (d_seq (p1 := 84) (d_seq (p1 := 23) (d_puti (p1 := 19) (p2 := 20) F 1 14 hp_1_14 (c_aload_n F k18 rfl) (c_iload_n F k19 rfl) k20 lf_Columns_70) (d_seq (p1 := 29) (d_istore (p1 := 27) F (c_geti (p1 := 24) F 1 12 hg_1_12 (c_aload_n F k23 rfl) k24 lf_Columns_25) k27 (hm 4 (by decide))) (d_seq (p1 := 35) (d_astore (p1 := 33) F (c_callV (p1 := 30) F (a_r_ok (p1 := 29) a_nil_ok (c_aload_n F k29 rfl)) (z_Box_firstInFlow _) y_Box_firstInFlow_ok lm_Columns_30 k30 r_Box_firstInFlow (by decide) (by decide)) k33 (hm 5 (by decide))) (d_while (p1 := 49) (p2 := 81) F (b_and_t (p1 := 40) (b_nn_t (p1 := 37) (pj := 84) F (c_aload F k35) k37 (by decide)) (b_cmp_t (p1 := 42) (p2 := 46) (pj := 84) F (c_iload F k40) (c_geti (p1 := 43) F 2 3 hg_2_3 (c_aload_n F k42 rfl) k43 lf_Columns_21) k46 (by decide))) (d_seq (p1 := 74) (d_seq (p1 := 71) (d_puti (p1 := 51) (p2 := 68) F 1 14 hp_1_14 (c_aload F k49) (c_max (p1 := 52) (p2 := 65) F (c_iconst F k51 (by decide)) (c_bin 1 (p1 := 59) (p2 := 64) (c_iald (p1 := 56) (p2 := 58) F (c_getr (p1 := 53) F 2 2 hg_2_2 (c_aload_n F k52 rfl) k53 lf_Columns_18) (c_iload F k56) k58) (c_callV (p1 := 61) F (a_r_ok (p1 := 59) a_nil_ok (c_aload F k59)) (z_Box_edges _) y_Box_edges_ok lm_Columns_48 k61 r_Box_edges (by decide) (by decide)) pl_c1 (j_isub F k64)) k65 lm_Columns_51 hm_max R0 (by decide)) k68 lf_Columns_70) (d_iinc F k71 (by decide) (hm 4 (by decide)))) (d_astore (p1 := 79) F (c_callV (p1 := 76) F (a_r_ok (p1 := 74) a_nil_ok (c_aload F k74)) (z_Box_nextInFlow _) y_Box_nextInFlow_ok lm_Columns_38 k76 r_Box_nextInFlow (by decide) (by decide)) k79 (hm 5 (by decide)))) k81 (by decide))))) (d_astore_n (p1 := 88) F (c_callV (p1 := 85) F (a_r_ok (p1 := 84) a_nil_ok (c_aload_n F k84 rfl)) (z_Box_nextInFlow _) y_Box_nextInFlow_ok lm_Columns_38 k85 r_Box_nextInFlow (by decide) (by decide)) k88 rfl (hm 3 (by decide)))) k89 (by decide)))) (d_retv F Fm.2.1 Fm.2.2.1 k92)))
def y_Mo_thrown : MethodName := ⟨"PageLayouterModel", "thrown", "()I"⟩
abbrev b_Mo_thrown : ByteArray := prog_10_method_2_code
abbrev n_Mo_thrown : Nat := 1
theorem y_Mo_thrown_ok : pl_MV 3 y_Mo_thrown b_Mo_thrown n_Mo_thrown (Option.some Jvm.ClassFile.FieldType.int) 0 := ⟨pl_mem 784 (by decide +kernel) (by decide +kernel), pl_mem 782 (by decide +kernel) (by decide +kernel), pl_mem 783 (by decide +kernel) (by decide +kernel), pl_mem 47 (by decide +kernel) (by decide +kernel), ⟨by decide, by decide, by decide +kernel⟩, _, rfl, rfl⟩
def D_Mo_thrown : List (Nat × Instr × Nat) := [(0, .aload_n 0, 1), (1, .getfield 88, 3), (4, .ireturn, 1)]
theorem dd_Mo_thrown : (D_Mo_thrown.all fun q => decide (decode b_Mo_thrown q.1 = .ok q.2)) = true := by decide +kernel
def t_Mo_thrown : pl_TR := fun P _ _ => s_reti P (e_geti 3 0 (e_locr 0))
theorem z_Mo_thrown (l : Launch) : pl_Ctr l y_Mo_thrown b_Mo_thrown n_Mo_thrown (Option.some Jvm.ClassFile.FieldType.int) 0 0 0 0 false t_Mo_thrown := pl_ctr_of (pe := 0) (by decide) (fun X Y P F Fm => by
  have F : pl_Fx X Y "PageLayouterModel" b_Mo_thrown := F
  have k0 : decode b_Mo_thrown 0 = .ok (.aload_n 0, 1) := pl_dc dd_Mo_thrown 0 (q := (0, .aload_n 0, 1)) rfl
  have k1 : decode b_Mo_thrown 1 = .ok (.getfield 88, 3) := pl_dc dd_Mo_thrown 1 (q := (1, .getfield 88, 3)) rfl
  have k4 : decode b_Mo_thrown 4 = .ok (.ireturn, 1) := pl_dc dd_Mo_thrown 2 (q := (4, .ireturn, 1)) rfl
  exact (d_reti (p1 := 4) F Fm.2.1 Fm.2.2.1 (c_geti (p1 := 1) F 3 0 hg_3_0 (c_aload_n F k0 rfl) k1 lf_PageLayouterModel_88) k4))
def y_Mo_begin : MethodName := ⟨"PageLayouterModel", "begin", "(I)V"⟩
abbrev b_Mo_begin : ByteArray := prog_10_method_3_code
abbrev n_Mo_begin : Nat := 3
theorem y_Mo_begin_ok : pl_MV 3 y_Mo_begin b_Mo_begin n_Mo_begin (Option.none : Option Jvm.ClassFile.FieldType) 1 := ⟨pl_mem 700 (by decide +kernel) (by decide +kernel), pl_mem 699 (by decide +kernel) (by decide +kernel), pl_mem 10 (by decide +kernel) (by decide +kernel), pl_mem 47 (by decide +kernel) (by decide +kernel), ⟨by decide, by decide, by decide +kernel⟩, _, rfl, rfl⟩
def D_Mo_begin : List (Nat × Instr × Nat) := [(0, .iconst 0, 1), (1, .istore_n 2, 1), (2, .iload_n 2, 1), (3, .bipush 12, 2), (5, .if_icmp .ge 45, 3), (8, .aload_n 0, 1), (9, .getfield 23, 3), (12, .bipush 12, 2), (14, .iload_n 1, 1), (15, .imul, 1), (16, .iload_n 2, 1), (17, .iadd, 1), (18, .iload_n 2, 1), (19, .iconst 2, 1), (20, .if_icmp .ge 7, 3), (23, .iconst (-1), 1), (24, .goto 19, 3), (27, .iload_n 2, 1), (28, .iconst 5, 1), (29, .if_icmp .eq 9, 3), (32, .iload_n 2, 1), (33, .bipush 7, 2), (35, .if_icmp .ne 7, 3), (38, .iconst 1, 1), (39, .goto 4, 3), (42, .iconst 0, 1), (43, .iastore, 1), (44, .iinc 2 1, 3), (47, .goto (-45), 3), (50, .return_, 1)]
theorem dd_Mo_begin : (D_Mo_begin.all fun q => decide (decode b_Mo_begin q.1 = .ok q.2)) = true := by decide +kernel
def t_Mo_begin : pl_TR := fun P _ _ => s_seq (s_seq (s_seti 2 (e_int 0)) (s_while (b_cmp .lt (e_loc 2) (e_int 12)) (s_seq (s_iast (e_getr 3 6 (e_locr 0)) (e_bin (fun x y : Int32 => x + y) (e_bin (fun x y : Int32 => x * y) (e_int 12) (e_loc 1)) (e_loc 2)) (e_if (b_cmp .lt (e_loc 2) (e_int 2)) (e_int (-1)) (e_if (b_or (b_cmp .eq (e_loc 2) (e_int 5)) (b_cmp .eq (e_loc 2) (e_int 7))) (e_int 1) (e_int 0)))) (s_inc 2 1)))) (s_retv P)
theorem z_Mo_begin (l : Launch) : pl_Ctr l y_Mo_begin b_Mo_begin n_Mo_begin (Option.none : Option Jvm.ClassFile.FieldType) 0 0 0 0 false t_Mo_begin := pl_ctr_of (pe := 0) (by decide) (fun X Y P F Fm => by
  have F : pl_Fx X Y "PageLayouterModel" b_Mo_begin := F
  have hm : ∀ i, i < 3 → i < (pl_xc X).maxLocals := fun i h => by rw [Fm.2.2.2.1]; exact h
  have k0 : decode b_Mo_begin 0 = .ok (.iconst 0, 1) := pl_dc dd_Mo_begin 0 (q := (0, .iconst 0, 1)) rfl
  have k1 : decode b_Mo_begin 1 = .ok (.istore_n 2, 1) := pl_dc dd_Mo_begin 1 (q := (1, .istore_n 2, 1)) rfl
  have k2 : decode b_Mo_begin 2 = .ok (.iload_n 2, 1) := pl_dc dd_Mo_begin 2 (q := (2, .iload_n 2, 1)) rfl
  have k3 : decode b_Mo_begin 3 = .ok (.bipush 12, 2) := pl_dc dd_Mo_begin 3 (q := (3, .bipush 12, 2)) rfl
  have k5 : decode b_Mo_begin 5 = .ok (.if_icmp .ge 45, 3) := pl_dc dd_Mo_begin 4 (q := (5, .if_icmp .ge 45, 3)) rfl
  have k8 : decode b_Mo_begin 8 = .ok (.aload_n 0, 1) := pl_dc dd_Mo_begin 5 (q := (8, .aload_n 0, 1)) rfl
  have k9 : decode b_Mo_begin 9 = .ok (.getfield 23, 3) := pl_dc dd_Mo_begin 6 (q := (9, .getfield 23, 3)) rfl
  have k12 : decode b_Mo_begin 12 = .ok (.bipush 12, 2) := pl_dc dd_Mo_begin 7 (q := (12, .bipush 12, 2)) rfl
  have k14 : decode b_Mo_begin 14 = .ok (.iload_n 1, 1) := pl_dc dd_Mo_begin 8 (q := (14, .iload_n 1, 1)) rfl
  have k15 : decode b_Mo_begin 15 = .ok (.imul, 1) := pl_dc dd_Mo_begin 9 (q := (15, .imul, 1)) rfl
  have k16 : decode b_Mo_begin 16 = .ok (.iload_n 2, 1) := pl_dc dd_Mo_begin 10 (q := (16, .iload_n 2, 1)) rfl
  have k17 : decode b_Mo_begin 17 = .ok (.iadd, 1) := pl_dc dd_Mo_begin 11 (q := (17, .iadd, 1)) rfl
  have k18 : decode b_Mo_begin 18 = .ok (.iload_n 2, 1) := pl_dc dd_Mo_begin 12 (q := (18, .iload_n 2, 1)) rfl
  have k19 : decode b_Mo_begin 19 = .ok (.iconst 2, 1) := pl_dc dd_Mo_begin 13 (q := (19, .iconst 2, 1)) rfl
  have k20 : decode b_Mo_begin 20 = .ok (.if_icmp .ge 7, 3) := pl_dc dd_Mo_begin 14 (q := (20, .if_icmp .ge 7, 3)) rfl
  have k23 : decode b_Mo_begin 23 = .ok (.iconst (-1), 1) := pl_dc dd_Mo_begin 15 (q := (23, .iconst (-1), 1)) rfl
  have k24 : decode b_Mo_begin 24 = .ok (.goto 19, 3) := pl_dc dd_Mo_begin 16 (q := (24, .goto 19, 3)) rfl
  have k27 : decode b_Mo_begin 27 = .ok (.iload_n 2, 1) := pl_dc dd_Mo_begin 17 (q := (27, .iload_n 2, 1)) rfl
  have k28 : decode b_Mo_begin 28 = .ok (.iconst 5, 1) := pl_dc dd_Mo_begin 18 (q := (28, .iconst 5, 1)) rfl
  have k29 : decode b_Mo_begin 29 = .ok (.if_icmp .eq 9, 3) := pl_dc dd_Mo_begin 19 (q := (29, .if_icmp .eq 9, 3)) rfl
  have k32 : decode b_Mo_begin 32 = .ok (.iload_n 2, 1) := pl_dc dd_Mo_begin 20 (q := (32, .iload_n 2, 1)) rfl
  have k33 : decode b_Mo_begin 33 = .ok (.bipush 7, 2) := pl_dc dd_Mo_begin 21 (q := (33, .bipush 7, 2)) rfl
  have k35 : decode b_Mo_begin 35 = .ok (.if_icmp .ne 7, 3) := pl_dc dd_Mo_begin 22 (q := (35, .if_icmp .ne 7, 3)) rfl
  have k38 : decode b_Mo_begin 38 = .ok (.iconst 1, 1) := pl_dc dd_Mo_begin 23 (q := (38, .iconst 1, 1)) rfl
  have k39 : decode b_Mo_begin 39 = .ok (.goto 4, 3) := pl_dc dd_Mo_begin 24 (q := (39, .goto 4, 3)) rfl
  have k42 : decode b_Mo_begin 42 = .ok (.iconst 0, 1) := pl_dc dd_Mo_begin 25 (q := (42, .iconst 0, 1)) rfl
  have k43 : decode b_Mo_begin 43 = .ok (.iastore, 1) := pl_dc dd_Mo_begin 26 (q := (43, .iastore, 1)) rfl
  have k44 : decode b_Mo_begin 44 = .ok (.iinc 2 1, 3) := pl_dc dd_Mo_begin 27 (q := (44, .iinc 2 1, 3)) rfl
  have k47 : decode b_Mo_begin 47 = .ok (.goto (-45), 3) := pl_dc dd_Mo_begin 28 (q := (47, .goto (-45), 3)) rfl
  have k50 : decode b_Mo_begin 50 = .ok (.return_, 1) := pl_dc dd_Mo_begin 29 (q := (50, .return_, 1)) rfl
  exact (d_seq (p1 := 50) (d_seq (p1 := 2) (d_istore_n (p1 := 1) F (c_iconst F k0 (by decide)) k1 rfl (hm 2 (by decide))) (d_while (p1 := 8) (p2 := 47) F (b_cmp_t (p1 := 3) (p2 := 5) (pj := 50) F (c_iload_n F k2 rfl) (c_bipush F k3 (by decide)) k5 (by decide)) (d_seq (p1 := 44) (d_iast (p1 := 12) (p2 := 18) (p3 := 43) F (c_getr (p1 := 9) F 3 6 hg_3_6 (c_aload_n F k8 rfl) k9 lf_PageLayouterModel_23) (c_bin 1 (p1 := 16) (p2 := 17) (c_bin 1 (p1 := 14) (p2 := 15) (c_bipush F k12 (by decide)) (c_iload_n F k14 rfl) pl_c1 (j_imul F k15)) (c_iload_n F k16 rfl) pl_c1 (j_iadd F k17)) (c_if (p1 := 23) (p2 := 24) (p3 := 43) F (b_cmp_t (p1 := 19) (p2 := 20) (pj := 27) F (c_iload_n F k18 rfl) (c_iconst F k19 (by decide)) k20 (by decide)) (c_iconst F k23 (by decide)) k24 (by decide) (c_if (p1 := 38) (p2 := 39) (p3 := 43) F (b_or_t (p1 := 32) (b_cmp_f (p1 := 28) (p2 := 29) (pj := 38) F (c_iload_n F k27 rfl) (c_iconst F k28 (by decide)) k29 (by decide)) (b_cmp_t (p1 := 33) (p2 := 35) (pj := 42) F (c_iload_n F k32 rfl) (c_bipush F k33 (by decide)) k35 (by decide))) (c_iconst F k38 (by decide)) k39 (by decide) (c_iconst F k42 (by decide)))) k43) (d_iinc F k44 (by decide) (hm 2 (by decide)))) k47 (by decide))) (d_retv F Fm.2.1 Fm.2.2.1 k50)))
def y_Mo_isBox : MethodName := ⟨"PageLayouterModel", "isBox", "(I)Z"⟩
abbrev b_Mo_isBox : ByteArray := prog_10_method_4_code
abbrev n_Mo_isBox : Nat := 2
theorem y_Mo_isBox_ok : pl_MV 3 y_Mo_isBox b_Mo_isBox n_Mo_isBox (Option.some Jvm.ClassFile.FieldType.boolean) 1 := ⟨pl_mem 800 (by decide +kernel) (by decide +kernel), pl_mem 799 (by decide +kernel) (by decide +kernel), pl_mem 11 (by decide +kernel) (by decide +kernel), pl_mem 47 (by decide +kernel) (by decide +kernel), ⟨by decide, by decide, by decide +kernel⟩, _, rfl, rfl⟩
def D_Mo_isBox : List (Nat × Instr × Nat) := [(0, .iload_n 1, 1), (1, .ifCond .lt 15, 3), (4, .iload_n 1, 1), (5, .aload_n 0, 1), (6, .getfield 7, 3), (9, .if_icmp .ge 7, 3), (12, .iconst 1, 1), (13, .goto 4, 3), (16, .iconst 0, 1), (17, .ireturn, 1)]
theorem dd_Mo_isBox : (D_Mo_isBox.all fun q => decide (decode b_Mo_isBox q.1 = .ok q.2)) = true := by decide +kernel
def t_Mo_isBox : pl_TR := fun P _ _ => s_retz P (e_if (b_and (b_zero .ge (e_loc 1)) (b_cmp .lt (e_loc 1) (e_geti 3 1 (e_locr 0)))) (e_int 1) (e_int 0))
theorem z_Mo_isBox (l : Launch) : pl_Ctr l y_Mo_isBox b_Mo_isBox n_Mo_isBox (Option.some Jvm.ClassFile.FieldType.boolean) 0 0 0 0 false t_Mo_isBox := pl_ctr_of (pe := 0) (by decide) (fun X Y P F Fm => by
  have F : pl_Fx X Y "PageLayouterModel" b_Mo_isBox := F
  have k0 : decode b_Mo_isBox 0 = .ok (.iload_n 1, 1) := pl_dc dd_Mo_isBox 0 (q := (0, .iload_n 1, 1)) rfl
  have k1 : decode b_Mo_isBox 1 = .ok (.ifCond .lt 15, 3) := pl_dc dd_Mo_isBox 1 (q := (1, .ifCond .lt 15, 3)) rfl
  have k4 : decode b_Mo_isBox 4 = .ok (.iload_n 1, 1) := pl_dc dd_Mo_isBox 2 (q := (4, .iload_n 1, 1)) rfl
  have k5 : decode b_Mo_isBox 5 = .ok (.aload_n 0, 1) := pl_dc dd_Mo_isBox 3 (q := (5, .aload_n 0, 1)) rfl
  have k6 : decode b_Mo_isBox 6 = .ok (.getfield 7, 3) := pl_dc dd_Mo_isBox 4 (q := (6, .getfield 7, 3)) rfl
  have k9 : decode b_Mo_isBox 9 = .ok (.if_icmp .ge 7, 3) := pl_dc dd_Mo_isBox 5 (q := (9, .if_icmp .ge 7, 3)) rfl
  have k12 : decode b_Mo_isBox 12 = .ok (.iconst 1, 1) := pl_dc dd_Mo_isBox 6 (q := (12, .iconst 1, 1)) rfl
  have k13 : decode b_Mo_isBox 13 = .ok (.goto 4, 3) := pl_dc dd_Mo_isBox 7 (q := (13, .goto 4, 3)) rfl
  have k16 : decode b_Mo_isBox 16 = .ok (.iconst 0, 1) := pl_dc dd_Mo_isBox 8 (q := (16, .iconst 0, 1)) rfl
  have k17 : decode b_Mo_isBox 17 = .ok (.ireturn, 1) := pl_dc dd_Mo_isBox 9 (q := (17, .ireturn, 1)) rfl
  exact (d_retz (p1 := 17) F Fm.2.1 Fm.2.2.1 (c_if (p1 := 12) (p2 := 13) (p3 := 17) F (b_and_t (p1 := 4) (b_zero_t (p1 := 1) (pj := 16) F (c_iload_n F k0 rfl) k1 (by decide)) (b_cmp_t (p1 := 5) (p2 := 9) (pj := 16) F (c_iload_n F k4 rfl) (c_geti (p1 := 6) F 3 1 hg_3_1 (c_aload_n F k5 rfl) k6 lf_PageLayouterModel_7) k9 (by decide))) (c_iconst F k12 (by decide)) k13 (by decide) (c_iconst F k16 (by decide))) k17))
def y_Mo_boxes : MethodName := ⟨"PageLayouterModel", "boxes", "()I"⟩
abbrev b_Mo_boxes : ByteArray := prog_10_method_5_code
abbrev n_Mo_boxes : Nat := 1
theorem y_Mo_boxes_ok : pl_MV 3 y_Mo_boxes b_Mo_boxes n_Mo_boxes (Option.some Jvm.ClassFile.FieldType.int) 0 := ⟨pl_mem 788 (by decide +kernel) (by decide +kernel), pl_mem 786 (by decide +kernel) (by decide +kernel), pl_mem 787 (by decide +kernel) (by decide +kernel), pl_mem 47 (by decide +kernel) (by decide +kernel), ⟨by decide, by decide, by decide +kernel⟩, _, rfl, rfl⟩
def D_Mo_boxes : List (Nat × Instr × Nat) := [(0, .aload_n 0, 1), (1, .iconst 0, 1), (2, .putfield 88, 3), (5, .aload_n 0, 1), (6, .getfield 7, 3), (9, .ireturn, 1)]
theorem dd_Mo_boxes : (D_Mo_boxes.all fun q => decide (decode b_Mo_boxes q.1 = .ok q.2)) = true := by decide +kernel
def t_Mo_boxes : pl_TR := fun P _ _ => s_seq (s_puti 3 0 (e_locr 0) (e_int 0)) (s_reti P (e_geti 3 1 (e_locr 0)))
theorem z_Mo_boxes (l : Launch) : pl_Ctr l y_Mo_boxes b_Mo_boxes n_Mo_boxes (Option.some Jvm.ClassFile.FieldType.int) 0 0 0 0 false t_Mo_boxes := pl_ctr_of (pe := 0) (by decide) (fun X Y P F Fm => by
  have F : pl_Fx X Y "PageLayouterModel" b_Mo_boxes := F
  have k0 : decode b_Mo_boxes 0 = .ok (.aload_n 0, 1) := pl_dc dd_Mo_boxes 0 (q := (0, .aload_n 0, 1)) rfl
  have k1 : decode b_Mo_boxes 1 = .ok (.iconst 0, 1) := pl_dc dd_Mo_boxes 1 (q := (1, .iconst 0, 1)) rfl
  have k2 : decode b_Mo_boxes 2 = .ok (.putfield 88, 3) := pl_dc dd_Mo_boxes 2 (q := (2, .putfield 88, 3)) rfl
  have k5 : decode b_Mo_boxes 5 = .ok (.aload_n 0, 1) := pl_dc dd_Mo_boxes 3 (q := (5, .aload_n 0, 1)) rfl
  have k6 : decode b_Mo_boxes 6 = .ok (.getfield 7, 3) := pl_dc dd_Mo_boxes 4 (q := (6, .getfield 7, 3)) rfl
  have k9 : decode b_Mo_boxes 9 = .ok (.ireturn, 1) := pl_dc dd_Mo_boxes 5 (q := (9, .ireturn, 1)) rfl
  exact (d_seq (p1 := 5) (d_puti (p1 := 1) (p2 := 2) F 3 0 hp_3_0 (c_aload_n F k0 rfl) (c_iconst F k1 (by decide)) k2 lf_PageLayouterModel_88) (d_reti (p1 := 9) F Fm.2.1 Fm.2.2.1 (c_geti (p1 := 6) F 3 1 hg_3_1 (c_aload_n F k5 rfl) k6 lf_PageLayouterModel_7) k9)))
def y_Mo_laidOut : MethodName := ⟨"PageLayouterModel", "laidOut", "()Z"⟩
abbrev b_Mo_laidOut : ByteArray := prog_10_method_6_code
abbrev n_Mo_laidOut : Nat := 1
theorem y_Mo_laidOut_ok : pl_MV 3 y_Mo_laidOut b_Mo_laidOut n_Mo_laidOut (Option.some Jvm.ClassFile.FieldType.boolean) 0 := ⟨pl_mem 792 (by decide +kernel) (by decide +kernel), pl_mem 790 (by decide +kernel) (by decide +kernel), pl_mem 791 (by decide +kernel) (by decide +kernel), pl_mem 47 (by decide +kernel) (by decide +kernel), ⟨by decide, by decide, by decide +kernel⟩, _, rfl, rfl⟩
def D_Mo_laidOut : List (Nat × Instr × Nat) := [(0, .aload_n 0, 1), (1, .iconst 0, 1), (2, .putfield 88, 3), (5, .aload_n 0, 1), (6, .getfield 91, 3), (9, .ireturn, 1)]
theorem dd_Mo_laidOut : (D_Mo_laidOut.all fun q => decide (decode b_Mo_laidOut q.1 = .ok q.2)) = true := by decide +kernel
def t_Mo_laidOut : pl_TR := fun P _ _ => s_seq (s_puti 3 0 (e_locr 0) (e_int 0)) (s_retz P (e_geti 3 2 (e_locr 0)))
theorem z_Mo_laidOut (l : Launch) : pl_Ctr l y_Mo_laidOut b_Mo_laidOut n_Mo_laidOut (Option.some Jvm.ClassFile.FieldType.boolean) 0 0 0 0 false t_Mo_laidOut := pl_ctr_of (pe := 0) (by decide) (fun X Y P F Fm => by
  have F : pl_Fx X Y "PageLayouterModel" b_Mo_laidOut := F
  have k0 : decode b_Mo_laidOut 0 = .ok (.aload_n 0, 1) := pl_dc dd_Mo_laidOut 0 (q := (0, .aload_n 0, 1)) rfl
  have k1 : decode b_Mo_laidOut 1 = .ok (.iconst 0, 1) := pl_dc dd_Mo_laidOut 1 (q := (1, .iconst 0, 1)) rfl
  have k2 : decode b_Mo_laidOut 2 = .ok (.putfield 88, 3) := pl_dc dd_Mo_laidOut 2 (q := (2, .putfield 88, 3)) rfl
  have k5 : decode b_Mo_laidOut 5 = .ok (.aload_n 0, 1) := pl_dc dd_Mo_laidOut 3 (q := (5, .aload_n 0, 1)) rfl
  have k6 : decode b_Mo_laidOut 6 = .ok (.getfield 91, 3) := pl_dc dd_Mo_laidOut 4 (q := (6, .getfield 91, 3)) rfl
  have k9 : decode b_Mo_laidOut 9 = .ok (.ireturn, 1) := pl_dc dd_Mo_laidOut 5 (q := (9, .ireturn, 1)) rfl
  exact (d_seq (p1 := 5) (d_puti (p1 := 1) (p2 := 2) F 3 0 hp_3_0 (c_aload_n F k0 rfl) (c_iconst F k1 (by decide)) k2 lf_PageLayouterModel_88) (d_retz (p1 := 9) F Fm.2.1 Fm.2.2.1 (c_geti (p1 := 6) F 3 2 hg_3_2 (c_aload_n F k5 rfl) k6 lf_PageLayouterModel_91) k9)))
def y_Mo_box : MethodName := ⟨"PageLayouterModel", "box", "(II)I"⟩
abbrev b_Mo_box : ByteArray := prog_10_method_7_code
abbrev n_Mo_box : Nat := 3
theorem y_Mo_box_ok : pl_MV 3 y_Mo_box b_Mo_box n_Mo_box (Option.some Jvm.ClassFile.FieldType.int) 2 := ⟨pl_mem 796 (by decide +kernel) (by decide +kernel), pl_mem 794 (by decide +kernel) (by decide +kernel), pl_mem 795 (by decide +kernel) (by decide +kernel), pl_mem 47 (by decide +kernel) (by decide +kernel), ⟨by decide, by decide, by decide +kernel⟩, _, rfl, rfl⟩
def D_Mo_box : List (Nat × Instr × Nat) := [(0, .aload_n 0, 1), (1, .aload_n 0, 1), (2, .iload_n 1, 1), (3, .invokevirtual 95, 3), (6, .ifCond .ne 7, 3), (9, .iconst 1, 1), (10, .goto 17, 3), (13, .iload_n 2, 1), (14, .ifCond .lt 8, 3), (17, .iload_n 2, 1), (18, .iconst 2, 1), (19, .if_icmp .le 7, 3), (22, .iconst 2, 1), (23, .goto 4, 3), (26, .iconst 0, 1), (27, .putfield 88, 3), (30, .aload_n 0, 1), (31, .getfield 88, 3), (34, .ifCond .ne 28, 3), (37, .aload_n 0, 1), (38, .getfield 7, 3), (41, .bipush 40, 2), (43, .if_icmp .eq 14, 3), (46, .aload_n 0, 1), (47, .getfield 17, 3), (50, .iload_n 1, 1), (51, .iaload, 1), (52, .bipush 9, 2), (54, .if_icmp .ne 8, 3), (57, .aload_n 0, 1), (58, .iconst 3, 1), (59, .putfield 88, 3), (62, .aload_n 0, 1), (63, .getfield 88, 3), (66, .ifCond .le 5, 3), (69, .iconst 0, 1), (70, .ireturn, 1), (71, .aload_n 0, 1), (72, .getfield 13, 3), (75, .aload_n 0, 1), (76, .getfield 7, 3), (79, .iload_n 1, 1), (80, .iastore, 1), (81, .aload_n 0, 1), (82, .getfield 17, 3), (85, .aload_n 0, 1), (86, .getfield 7, 3), (89, .aload_n 0, 1), (90, .getfield 17, 3), (93, .iload_n 1, 1), (94, .iaload, 1), (95, .iconst 1, 1), (96, .iadd, 1), (97, .iastore, 1), (98, .aload_n 0, 1), (99, .getfield 20, 3), (102, .aload_n 0, 1), (103, .getfield 7, 3), (106, .iload_n 2, 1), (107, .iastore, 1), (108, .aload_n 0, 1), (109, .aload_n 0, 1), (110, .getfield 7, 3), (113, .invokevirtual 84, 3), (116, .aload_n 0, 1), (117, .iconst 0, 1), (118, .putfield 91, 3), (121, .aload_n 0, 1), (122, .dup, 1), (123, .getfield 7, 3), (126, .iconst 1, 1), (127, .iadd, 1), (128, .putfield 7, 3), (131, .aload_n 0, 1), (132, .getfield 7, 3), (135, .iconst 1, 1), (136, .isub, 1), (137, .ireturn, 1)]
theorem dd_Mo_box : (D_Mo_box.all fun q => decide (decode b_Mo_box q.1 = .ok q.2)) = true := by decide +kernel
def t_Mo_box : pl_TR := fun P _ _ => s_seq (s_puti 3 0 (e_locr 0) (e_if (b_not (b_zero .ne (e_callV Value.int 3 t_Mo_isBox n_Mo_isBox (a_i (a_r a_nil (e_locr 0)) (e_loc 1))))) (e_int 1) (e_if (b_or (b_zero .lt (e_loc 2)) (b_cmp .gt (e_loc 2) (e_int 2))) (e_int 2) (e_int 0)))) (s_seq (s_if (b_and (b_zero .eq (e_geti 3 0 (e_locr 0))) (b_or (b_cmp .eq (e_geti 3 1 (e_locr 0)) (e_int 40)) (b_cmp .eq (e_ald 1 (e_getr 3 4 (e_locr 0)) (e_loc 1)) (e_int 9)))) (s_puti 3 0 (e_locr 0) (e_int 3))) (s_seq (s_if (b_zero .gt (e_geti 3 0 (e_locr 0))) (s_reti P (e_int 0))) (s_seq (s_iast (e_getr 3 3 (e_locr 0)) (e_geti 3 1 (e_locr 0)) (e_loc 1)) (s_seq (s_iast (e_getr 3 4 (e_locr 0)) (e_geti 3 1 (e_locr 0)) (e_bin (fun x y : Int32 => x + y) (e_ald 1 (e_getr 3 4 (e_locr 0)) (e_loc 1)) (e_int 1))) (s_seq (s_iast (e_getr 3 5 (e_locr 0)) (e_geti 3 1 (e_locr 0)) (e_loc 2)) (s_seq (s_callV 3 t_Mo_begin n_Mo_begin (a_i (a_r a_nil (e_locr 0)) (e_geti 3 1 (e_locr 0)))) (s_seq (s_putz 3 2 (e_locr 0) (e_int 0)) (s_seq (s_updi 3 1 (fun x y : Int32 => x + y) (e_locr 0) (e_int 1)) (s_reti P (e_bin (fun x y : Int32 => x - y) (e_geti 3 1 (e_locr 0)) (e_int 1)))))))))))
theorem z_Mo_box (l : Launch) : pl_Ctr l y_Mo_box b_Mo_box n_Mo_box (Option.some Jvm.ClassFile.FieldType.int) 1 22 0 0 false t_Mo_box := pl_ctr_of (pe := 0) (by decide) (fun X Y P F Fm => by
  have F : pl_Fx X Y "PageLayouterModel" b_Mo_box := F
  have r_Mo_begin : 0 + 1 ≤ (pl_xR X).frames ∧ 8 + (n_Mo_begin + 11) + 0 ≤ (pl_xR X).locals := ⟨Nat.le_trans (by decide) Fm.2.2.2.2.2.1, Nat.le_trans (by decide) Fm.2.2.2.2.2.2.1⟩
  have r_Mo_isBox : 0 + 1 ≤ (pl_xR X).frames ∧ 8 + (n_Mo_isBox + 11) + 0 ≤ (pl_xR X).locals := ⟨Nat.le_trans (by decide) Fm.2.2.2.2.2.1, Nat.le_trans (by decide) Fm.2.2.2.2.2.2.1⟩
  have k0 : decode b_Mo_box 0 = .ok (.aload_n 0, 1) := pl_dc dd_Mo_box 0 (q := (0, .aload_n 0, 1)) rfl
  have k1 : decode b_Mo_box 1 = .ok (.aload_n 0, 1) := pl_dc dd_Mo_box 1 (q := (1, .aload_n 0, 1)) rfl
  have k2 : decode b_Mo_box 2 = .ok (.iload_n 1, 1) := pl_dc dd_Mo_box 2 (q := (2, .iload_n 1, 1)) rfl
  have k3 : decode b_Mo_box 3 = .ok (.invokevirtual 95, 3) := pl_dc dd_Mo_box 3 (q := (3, .invokevirtual 95, 3)) rfl
  have k6 : decode b_Mo_box 6 = .ok (.ifCond .ne 7, 3) := pl_dc dd_Mo_box 4 (q := (6, .ifCond .ne 7, 3)) rfl
  have k9 : decode b_Mo_box 9 = .ok (.iconst 1, 1) := pl_dc dd_Mo_box 5 (q := (9, .iconst 1, 1)) rfl
  have k10 : decode b_Mo_box 10 = .ok (.goto 17, 3) := pl_dc dd_Mo_box 6 (q := (10, .goto 17, 3)) rfl
  have k13 : decode b_Mo_box 13 = .ok (.iload_n 2, 1) := pl_dc dd_Mo_box 7 (q := (13, .iload_n 2, 1)) rfl
  have k14 : decode b_Mo_box 14 = .ok (.ifCond .lt 8, 3) := pl_dc dd_Mo_box 8 (q := (14, .ifCond .lt 8, 3)) rfl
  have k17 : decode b_Mo_box 17 = .ok (.iload_n 2, 1) := pl_dc dd_Mo_box 9 (q := (17, .iload_n 2, 1)) rfl
  have k18 : decode b_Mo_box 18 = .ok (.iconst 2, 1) := pl_dc dd_Mo_box 10 (q := (18, .iconst 2, 1)) rfl
  have k19 : decode b_Mo_box 19 = .ok (.if_icmp .le 7, 3) := pl_dc dd_Mo_box 11 (q := (19, .if_icmp .le 7, 3)) rfl
  have k22 : decode b_Mo_box 22 = .ok (.iconst 2, 1) := pl_dc dd_Mo_box 12 (q := (22, .iconst 2, 1)) rfl
  have k23 : decode b_Mo_box 23 = .ok (.goto 4, 3) := pl_dc dd_Mo_box 13 (q := (23, .goto 4, 3)) rfl
  have k26 : decode b_Mo_box 26 = .ok (.iconst 0, 1) := pl_dc dd_Mo_box 14 (q := (26, .iconst 0, 1)) rfl
  have k27 : decode b_Mo_box 27 = .ok (.putfield 88, 3) := pl_dc dd_Mo_box 15 (q := (27, .putfield 88, 3)) rfl
  have k30 : decode b_Mo_box 30 = .ok (.aload_n 0, 1) := pl_dc dd_Mo_box 16 (q := (30, .aload_n 0, 1)) rfl
  have k31 : decode b_Mo_box 31 = .ok (.getfield 88, 3) := pl_dc dd_Mo_box 17 (q := (31, .getfield 88, 3)) rfl
  have k34 : decode b_Mo_box 34 = .ok (.ifCond .ne 28, 3) := pl_dc dd_Mo_box 18 (q := (34, .ifCond .ne 28, 3)) rfl
  have k37 : decode b_Mo_box 37 = .ok (.aload_n 0, 1) := pl_dc dd_Mo_box 19 (q := (37, .aload_n 0, 1)) rfl
  have k38 : decode b_Mo_box 38 = .ok (.getfield 7, 3) := pl_dc dd_Mo_box 20 (q := (38, .getfield 7, 3)) rfl
  have k41 : decode b_Mo_box 41 = .ok (.bipush 40, 2) := pl_dc dd_Mo_box 21 (q := (41, .bipush 40, 2)) rfl
  have k43 : decode b_Mo_box 43 = .ok (.if_icmp .eq 14, 3) := pl_dc dd_Mo_box 22 (q := (43, .if_icmp .eq 14, 3)) rfl
  have k46 : decode b_Mo_box 46 = .ok (.aload_n 0, 1) := pl_dc dd_Mo_box 23 (q := (46, .aload_n 0, 1)) rfl
  have k47 : decode b_Mo_box 47 = .ok (.getfield 17, 3) := pl_dc dd_Mo_box 24 (q := (47, .getfield 17, 3)) rfl
  have k50 : decode b_Mo_box 50 = .ok (.iload_n 1, 1) := pl_dc dd_Mo_box 25 (q := (50, .iload_n 1, 1)) rfl
  have k51 : decode b_Mo_box 51 = .ok (.iaload, 1) := pl_dc dd_Mo_box 26 (q := (51, .iaload, 1)) rfl
  have k52 : decode b_Mo_box 52 = .ok (.bipush 9, 2) := pl_dc dd_Mo_box 27 (q := (52, .bipush 9, 2)) rfl
  have k54 : decode b_Mo_box 54 = .ok (.if_icmp .ne 8, 3) := pl_dc dd_Mo_box 28 (q := (54, .if_icmp .ne 8, 3)) rfl
  have k57 : decode b_Mo_box 57 = .ok (.aload_n 0, 1) := pl_dc dd_Mo_box 29 (q := (57, .aload_n 0, 1)) rfl
  have k58 : decode b_Mo_box 58 = .ok (.iconst 3, 1) := pl_dc dd_Mo_box 30 (q := (58, .iconst 3, 1)) rfl
  have k59 : decode b_Mo_box 59 = .ok (.putfield 88, 3) := pl_dc dd_Mo_box 31 (q := (59, .putfield 88, 3)) rfl
  have k62 : decode b_Mo_box 62 = .ok (.aload_n 0, 1) := pl_dc dd_Mo_box 32 (q := (62, .aload_n 0, 1)) rfl
  have k63 : decode b_Mo_box 63 = .ok (.getfield 88, 3) := pl_dc dd_Mo_box 33 (q := (63, .getfield 88, 3)) rfl
  have k66 : decode b_Mo_box 66 = .ok (.ifCond .le 5, 3) := pl_dc dd_Mo_box 34 (q := (66, .ifCond .le 5, 3)) rfl
  have k69 : decode b_Mo_box 69 = .ok (.iconst 0, 1) := pl_dc dd_Mo_box 35 (q := (69, .iconst 0, 1)) rfl
  have k70 : decode b_Mo_box 70 = .ok (.ireturn, 1) := pl_dc dd_Mo_box 36 (q := (70, .ireturn, 1)) rfl
  have k71 : decode b_Mo_box 71 = .ok (.aload_n 0, 1) := pl_dc dd_Mo_box 37 (q := (71, .aload_n 0, 1)) rfl
  have k72 : decode b_Mo_box 72 = .ok (.getfield 13, 3) := pl_dc dd_Mo_box 38 (q := (72, .getfield 13, 3)) rfl
  have k75 : decode b_Mo_box 75 = .ok (.aload_n 0, 1) := pl_dc dd_Mo_box 39 (q := (75, .aload_n 0, 1)) rfl
  have k76 : decode b_Mo_box 76 = .ok (.getfield 7, 3) := pl_dc dd_Mo_box 40 (q := (76, .getfield 7, 3)) rfl
  have k79 : decode b_Mo_box 79 = .ok (.iload_n 1, 1) := pl_dc dd_Mo_box 41 (q := (79, .iload_n 1, 1)) rfl
  have k80 : decode b_Mo_box 80 = .ok (.iastore, 1) := pl_dc dd_Mo_box 42 (q := (80, .iastore, 1)) rfl
  have k81 : decode b_Mo_box 81 = .ok (.aload_n 0, 1) := pl_dc dd_Mo_box 43 (q := (81, .aload_n 0, 1)) rfl
  have k82 : decode b_Mo_box 82 = .ok (.getfield 17, 3) := pl_dc dd_Mo_box 44 (q := (82, .getfield 17, 3)) rfl
  have k85 : decode b_Mo_box 85 = .ok (.aload_n 0, 1) := pl_dc dd_Mo_box 45 (q := (85, .aload_n 0, 1)) rfl
  have k86 : decode b_Mo_box 86 = .ok (.getfield 7, 3) := pl_dc dd_Mo_box 46 (q := (86, .getfield 7, 3)) rfl
  have k89 : decode b_Mo_box 89 = .ok (.aload_n 0, 1) := pl_dc dd_Mo_box 47 (q := (89, .aload_n 0, 1)) rfl
  have k90 : decode b_Mo_box 90 = .ok (.getfield 17, 3) := pl_dc dd_Mo_box 48 (q := (90, .getfield 17, 3)) rfl
  have k93 : decode b_Mo_box 93 = .ok (.iload_n 1, 1) := pl_dc dd_Mo_box 49 (q := (93, .iload_n 1, 1)) rfl
  have k94 : decode b_Mo_box 94 = .ok (.iaload, 1) := pl_dc dd_Mo_box 50 (q := (94, .iaload, 1)) rfl
  have k95 : decode b_Mo_box 95 = .ok (.iconst 1, 1) := pl_dc dd_Mo_box 51 (q := (95, .iconst 1, 1)) rfl
  have k96 : decode b_Mo_box 96 = .ok (.iadd, 1) := pl_dc dd_Mo_box 52 (q := (96, .iadd, 1)) rfl
  have k97 : decode b_Mo_box 97 = .ok (.iastore, 1) := pl_dc dd_Mo_box 53 (q := (97, .iastore, 1)) rfl
  have k98 : decode b_Mo_box 98 = .ok (.aload_n 0, 1) := pl_dc dd_Mo_box 54 (q := (98, .aload_n 0, 1)) rfl
  have k99 : decode b_Mo_box 99 = .ok (.getfield 20, 3) := pl_dc dd_Mo_box 55 (q := (99, .getfield 20, 3)) rfl
  have k102 : decode b_Mo_box 102 = .ok (.aload_n 0, 1) := pl_dc dd_Mo_box 56 (q := (102, .aload_n 0, 1)) rfl
  have k103 : decode b_Mo_box 103 = .ok (.getfield 7, 3) := pl_dc dd_Mo_box 57 (q := (103, .getfield 7, 3)) rfl
  have k106 : decode b_Mo_box 106 = .ok (.iload_n 2, 1) := pl_dc dd_Mo_box 58 (q := (106, .iload_n 2, 1)) rfl
  have k107 : decode b_Mo_box 107 = .ok (.iastore, 1) := pl_dc dd_Mo_box 59 (q := (107, .iastore, 1)) rfl
  have k108 : decode b_Mo_box 108 = .ok (.aload_n 0, 1) := pl_dc dd_Mo_box 60 (q := (108, .aload_n 0, 1)) rfl
  have k109 : decode b_Mo_box 109 = .ok (.aload_n 0, 1) := pl_dc dd_Mo_box 61 (q := (109, .aload_n 0, 1)) rfl
  have k110 : decode b_Mo_box 110 = .ok (.getfield 7, 3) := pl_dc dd_Mo_box 62 (q := (110, .getfield 7, 3)) rfl
  have k113 : decode b_Mo_box 113 = .ok (.invokevirtual 84, 3) := pl_dc dd_Mo_box 63 (q := (113, .invokevirtual 84, 3)) rfl
  have k116 : decode b_Mo_box 116 = .ok (.aload_n 0, 1) := pl_dc dd_Mo_box 64 (q := (116, .aload_n 0, 1)) rfl
  have k117 : decode b_Mo_box 117 = .ok (.iconst 0, 1) := pl_dc dd_Mo_box 65 (q := (117, .iconst 0, 1)) rfl
  have k118 : decode b_Mo_box 118 = .ok (.putfield 91, 3) := pl_dc dd_Mo_box 66 (q := (118, .putfield 91, 3)) rfl
  have k121 : decode b_Mo_box 121 = .ok (.aload_n 0, 1) := pl_dc dd_Mo_box 67 (q := (121, .aload_n 0, 1)) rfl
  have k122 : decode b_Mo_box 122 = .ok (.dup, 1) := pl_dc dd_Mo_box 68 (q := (122, .dup, 1)) rfl
  have k123 : decode b_Mo_box 123 = .ok (.getfield 7, 3) := pl_dc dd_Mo_box 69 (q := (123, .getfield 7, 3)) rfl
  have k126 : decode b_Mo_box 126 = .ok (.iconst 1, 1) := pl_dc dd_Mo_box 70 (q := (126, .iconst 1, 1)) rfl
  have k127 : decode b_Mo_box 127 = .ok (.iadd, 1) := pl_dc dd_Mo_box 71 (q := (127, .iadd, 1)) rfl
  have k128 : decode b_Mo_box 128 = .ok (.putfield 7, 3) := pl_dc dd_Mo_box 72 (q := (128, .putfield 7, 3)) rfl
  have k131 : decode b_Mo_box 131 = .ok (.aload_n 0, 1) := pl_dc dd_Mo_box 73 (q := (131, .aload_n 0, 1)) rfl
  have k132 : decode b_Mo_box 132 = .ok (.getfield 7, 3) := pl_dc dd_Mo_box 74 (q := (132, .getfield 7, 3)) rfl
  have k135 : decode b_Mo_box 135 = .ok (.iconst 1, 1) := pl_dc dd_Mo_box 75 (q := (135, .iconst 1, 1)) rfl
  have k136 : decode b_Mo_box 136 = .ok (.isub, 1) := pl_dc dd_Mo_box 76 (q := (136, .isub, 1)) rfl
  have k137 : decode b_Mo_box 137 = .ok (.ireturn, 1) := pl_dc dd_Mo_box 77 (q := (137, .ireturn, 1)) rfl
  exact (d_seq (p1 := 30) (d_puti (p1 := 1) (p2 := 27) F 3 0 hp_3_0 (c_aload_n F k0 rfl) (c_if (p1 := 9) (p2 := 10) (p3 := 27) F (b_not_t (b_zero_f (p1 := 6) (pj := 13) F (c_callV (p1 := 3) F (a_i_ok (p1 := 2) (a_r_ok (p1 := 1) a_nil_ok (c_aload_n F k1 rfl)) (c_iload_n F k2 rfl)) (z_Mo_isBox _) y_Mo_isBox_ok lm_PageLayouterModel_95 k3 r_Mo_isBox (by decide) (by decide)) k6 (by decide))) (c_iconst F k9 (by decide)) k10 (by decide) (c_if (p1 := 22) (p2 := 23) (p3 := 27) F (b_or_t (p1 := 17) (b_zero_f (p1 := 14) (pj := 22) F (c_iload_n F k13 rfl) k14 (by decide)) (b_cmp_t (p1 := 18) (p2 := 19) (pj := 26) F (c_iload_n F k17 rfl) (c_iconst F k18 (by decide)) k19 (by decide))) (c_iconst F k22 (by decide)) k23 (by decide) (c_iconst F k26 (by decide)))) k27 lf_PageLayouterModel_88) (d_seq (p1 := 62) (d_if (p1 := 57) (p2 := 62) (b_and_t (p1 := 37) (b_zero_t (p1 := 34) (pj := 62) F (c_geti (p1 := 31) F 3 0 hg_3_0 (c_aload_n F k30 rfl) k31 lf_PageLayouterModel_88) k34 (by decide)) (b_or_t (p1 := 46) (b_cmp_f (p1 := 41) (p2 := 43) (pj := 57) F (c_geti (p1 := 38) F 3 1 hg_3_1 (c_aload_n F k37 rfl) k38 lf_PageLayouterModel_7) (c_bipush F k41 (by decide)) k43 (by decide)) (b_cmp_t (p1 := 52) (p2 := 54) (pj := 62) F (c_iald (p1 := 50) (p2 := 51) F (c_getr (p1 := 47) F 3 4 hg_3_4 (c_aload_n F k46 rfl) k47 lf_PageLayouterModel_17) (c_iload_n F k50 rfl) k51) (c_bipush F k52 (by decide)) k54 (by decide)))) (d_puti (p1 := 58) (p2 := 59) F 3 0 hp_3_0 (c_aload_n F k57 rfl) (c_iconst F k58 (by decide)) k59 lf_PageLayouterModel_88)) (d_seq (p1 := 71) (d_if (p1 := 69) (p2 := 71) (b_zero_t (p1 := 66) (pj := 71) F (c_geti (p1 := 63) F 3 0 hg_3_0 (c_aload_n F k62 rfl) k63 lf_PageLayouterModel_88) k66 (by decide)) (d_reti (p1 := 70) F Fm.2.1 Fm.2.2.1 (c_iconst F k69 (by decide)) k70)) (d_seq (p1 := 81) (d_iast (p1 := 75) (p2 := 79) (p3 := 80) F (c_getr (p1 := 72) F 3 3 hg_3_3 (c_aload_n F k71 rfl) k72 lf_PageLayouterModel_13) (c_geti (p1 := 76) F 3 1 hg_3_1 (c_aload_n F k75 rfl) k76 lf_PageLayouterModel_7) (c_iload_n F k79 rfl) k80) (d_seq (p1 := 98) (d_iast (p1 := 85) (p2 := 89) (p3 := 97) F (c_getr (p1 := 82) F 3 4 hg_3_4 (c_aload_n F k81 rfl) k82 lf_PageLayouterModel_17) (c_geti (p1 := 86) F 3 1 hg_3_1 (c_aload_n F k85 rfl) k86 lf_PageLayouterModel_7) (c_bin 1 (p1 := 95) (p2 := 96) (c_iald (p1 := 93) (p2 := 94) F (c_getr (p1 := 90) F 3 4 hg_3_4 (c_aload_n F k89 rfl) k90 lf_PageLayouterModel_17) (c_iload_n F k93 rfl) k94) (c_iconst F k95 (by decide)) pl_c1 (j_iadd F k96)) k97) (d_seq (p1 := 108) (d_iast (p1 := 102) (p2 := 106) (p3 := 107) F (c_getr (p1 := 99) F 3 5 hg_3_5 (c_aload_n F k98 rfl) k99 lf_PageLayouterModel_20) (c_geti (p1 := 103) F 3 1 hg_3_1 (c_aload_n F k102 rfl) k103 lf_PageLayouterModel_7) (c_iload_n F k106 rfl) k107) (d_seq (p1 := 116) (d_callV (p1 := 113) F (a_i_ok (p1 := 109) (a_r_ok (p1 := 108) a_nil_ok (c_aload_n F k108 rfl)) (c_geti (p1 := 110) F 3 1 hg_3_1 (c_aload_n F k109 rfl) k110 lf_PageLayouterModel_7)) (z_Mo_begin _) y_Mo_begin_ok lm_PageLayouterModel_84 k113 r_Mo_begin (by decide)) (d_seq (p1 := 121) (d_putz (p1 := 117) (p2 := 118) F 3 2 hp_3_2 (c_aload_n F k116 rfl) (c_iconst F k117 (by decide)) k118 lf_PageLayouterModel_91) (d_seq (p1 := 131) (d_updi (p1 := 122) (p2 := 127) F 3 1 hp_3_1 (c_aload_n F k121 rfl) k122 k123 (c_iconst F k126 (by decide)) (j_iadd F k127) k128 lf_PageLayouterModel_7) (d_reti (p1 := 137) F Fm.2.1 Fm.2.2.1 (c_bin 1 (p1 := 135) (p2 := 136) (c_geti (p1 := 132) F 3 1 hg_3_1 (c_aload_n F k131 rfl) k132 lf_PageLayouterModel_7) (c_iconst F k135 (by decide)) pl_c1 (j_isub F k136)) k137)))))))))))
def y_Mo_flows : MethodName := ⟨"PageLayouterModel", "flows", "(II)Z"⟩
abbrev b_Mo_flows : ByteArray := prog_10_method_10_code
abbrev n_Mo_flows : Nat := 3
theorem y_Mo_flows_ok : pl_MV 3 y_Mo_flows b_Mo_flows n_Mo_flows (Option.some Jvm.ClassFile.FieldType.boolean) 2 := ⟨pl_mem 825 (by decide +kernel) (by decide +kernel), pl_mem 824 (by decide +kernel) (by decide +kernel), pl_mem 14 (by decide +kernel) (by decide +kernel), pl_mem 47 (by decide +kernel) (by decide +kernel), ⟨by decide, by decide, by decide +kernel⟩, _, rfl, rfl⟩
def D_Mo_flows : List (Nat × Instr × Nat) := [(0, .aload_n 0, 1), (1, .getfield 13, 3), (4, .iload_n 1, 1), (5, .iaload, 1), (6, .iload_n 2, 1), (7, .if_icmp .ne 16, 3), (10, .aload_n 0, 1), (11, .getfield 26, 3), (14, .iload_n 1, 1), (15, .baload, 1), (16, .ifCond .ne 7, 3), (19, .iconst 1, 1), (20, .goto 4, 3), (23, .iconst 0, 1), (24, .ireturn, 1)]
theorem dd_Mo_flows : (D_Mo_flows.all fun q => decide (decode b_Mo_flows q.1 = .ok q.2)) = true := by decide +kernel
def t_Mo_flows : pl_TR := fun P _ _ => s_retz P (e_if (b_and (b_cmp .eq (e_ald 1 (e_getr 3 3 (e_locr 0)) (e_loc 1)) (e_loc 2)) (b_not (b_zero .ne (e_ald 2 (e_getr 3 7 (e_locr 0)) (e_loc 1))))) (e_int 1) (e_int 0))
theorem z_Mo_flows (l : Launch) : pl_Ctr l y_Mo_flows b_Mo_flows n_Mo_flows (Option.some Jvm.ClassFile.FieldType.boolean) 0 0 0 0 false t_Mo_flows := pl_ctr_of (pe := 0) (by decide) (fun X Y P F Fm => by
  have F : pl_Fx X Y "PageLayouterModel" b_Mo_flows := F
  have k0 : decode b_Mo_flows 0 = .ok (.aload_n 0, 1) := pl_dc dd_Mo_flows 0 (q := (0, .aload_n 0, 1)) rfl
  have k1 : decode b_Mo_flows 1 = .ok (.getfield 13, 3) := pl_dc dd_Mo_flows 1 (q := (1, .getfield 13, 3)) rfl
  have k4 : decode b_Mo_flows 4 = .ok (.iload_n 1, 1) := pl_dc dd_Mo_flows 2 (q := (4, .iload_n 1, 1)) rfl
  have k5 : decode b_Mo_flows 5 = .ok (.iaload, 1) := pl_dc dd_Mo_flows 3 (q := (5, .iaload, 1)) rfl
  have k6 : decode b_Mo_flows 6 = .ok (.iload_n 2, 1) := pl_dc dd_Mo_flows 4 (q := (6, .iload_n 2, 1)) rfl
  have k7 : decode b_Mo_flows 7 = .ok (.if_icmp .ne 16, 3) := pl_dc dd_Mo_flows 5 (q := (7, .if_icmp .ne 16, 3)) rfl
  have k10 : decode b_Mo_flows 10 = .ok (.aload_n 0, 1) := pl_dc dd_Mo_flows 6 (q := (10, .aload_n 0, 1)) rfl
  have k11 : decode b_Mo_flows 11 = .ok (.getfield 26, 3) := pl_dc dd_Mo_flows 7 (q := (11, .getfield 26, 3)) rfl
  have k14 : decode b_Mo_flows 14 = .ok (.iload_n 1, 1) := pl_dc dd_Mo_flows 8 (q := (14, .iload_n 1, 1)) rfl
  have k15 : decode b_Mo_flows 15 = .ok (.baload, 1) := pl_dc dd_Mo_flows 9 (q := (15, .baload, 1)) rfl
  have k16 : decode b_Mo_flows 16 = .ok (.ifCond .ne 7, 3) := pl_dc dd_Mo_flows 10 (q := (16, .ifCond .ne 7, 3)) rfl
  have k19 : decode b_Mo_flows 19 = .ok (.iconst 1, 1) := pl_dc dd_Mo_flows 11 (q := (19, .iconst 1, 1)) rfl
  have k20 : decode b_Mo_flows 20 = .ok (.goto 4, 3) := pl_dc dd_Mo_flows 12 (q := (20, .goto 4, 3)) rfl
  have k23 : decode b_Mo_flows 23 = .ok (.iconst 0, 1) := pl_dc dd_Mo_flows 13 (q := (23, .iconst 0, 1)) rfl
  have k24 : decode b_Mo_flows 24 = .ok (.ireturn, 1) := pl_dc dd_Mo_flows 14 (q := (24, .ireturn, 1)) rfl
  exact (d_retz (p1 := 24) F Fm.2.1 Fm.2.2.1 (c_if (p1 := 19) (p2 := 20) (p3 := 24) F (b_and_t (p1 := 10) (b_cmp_t (p1 := 6) (p2 := 7) (pj := 23) F (c_iald (p1 := 4) (p2 := 5) F (c_getr (p1 := 1) F 3 3 hg_3_3 (c_aload_n F k0 rfl) k1 lf_PageLayouterModel_13) (c_iload_n F k4 rfl) k5) (c_iload_n F k6 rfl) k7 (by decide)) (b_not_t (b_zero_f (p1 := 16) (pj := 23) F (c_zald (p1 := 14) (p2 := 15) F (c_getr (p1 := 11) F 3 7 hg_3_7 (c_aload_n F k10 rfl) k11 lf_PageLayouterModel_26) (c_iload_n F k14 rfl) k15) k16 (by decide)))) (c_iconst F k19 (by decide)) k20 (by decide) (c_iconst F k23 (by decide))) k24))
def y_Mo_findRoles : MethodName := ⟨"PageLayouterModel", "findRoles", "()V"⟩
abbrev b_Mo_findRoles : ByteArray := prog_10_method_11_code
abbrev n_Mo_findRoles : Nat := 5
theorem y_Mo_findRoles_ok : pl_MV 3 y_Mo_findRoles b_Mo_findRoles n_Mo_findRoles (Option.none : Option Jvm.ClassFile.FieldType) 0 := ⟨pl_mem 821 (by decide +kernel) (by decide +kernel), pl_mem 820 (by decide +kernel) (by decide +kernel), pl_mem 13 (by decide +kernel) (by decide +kernel), pl_mem 47 (by decide +kernel) (by decide +kernel), ⟨by decide, by decide, by decide +kernel⟩, _, rfl, rfl⟩
def D_Mo_findRoles : List (Nat × Instr × Nat) := [(0, .iconst 0, 1), (1, .istore_n 1, 1), (2, .iload_n 1, 1), (3, .aload_n 0, 1), (4, .getfield 7, 3), (7, .if_icmp .ge 194, 3), (10, .aload_n 0, 1), (11, .getfield 13, 3), (14, .iload_n 1, 1), (15, .iaload, 1), (16, .istore_n 2, 1), (17, .aload_n 0, 1), (18, .getfield 26, 3), (21, .iload_n 1, 1), (22, .iload_n 1, 1), (23, .ifCond .le 23, 3), (26, .aload_n 0, 1), (27, .getfield 23, 3), (30, .bipush 12, 2), (32, .iload_n 1, 1), (33, .imul, 1), (34, .bipush 9, 2), (36, .iadd, 1), (37, .iaload, 1), (38, .iconst 1, 1), (39, .if_icmp .ne 7, 3), (42, .iconst 1, 1), (43, .goto 4, 3), (46, .iconst 0, 1), (47, .bastore, 1), (48, .iload_n 1, 1), (49, .ifCond .le 26, 3), (52, .aload_n 0, 1), (53, .getfield 26, 3), (56, .iload_n 1, 1), (57, .baload, 1), (58, .ifCond .ne 17, 3), (61, .aload_n 0, 1), (62, .getfield 30, 3), (65, .iload_n 2, 1), (66, .iaload, 1), (67, .iconst 2, 1), (68, .if_icmp .ne 7, 3), (71, .iconst 1, 1), (72, .goto 4, 3), (75, .iconst 0, 1), (76, .istore_n 3, 1), (77, .aload_n 0, 1), (78, .getfield 33, 3), (81, .iload_n 1, 1), (82, .iload_n 1, 1), (83, .ifCond .le 26, 3), (86, .aload_n 0, 1), (87, .getfield 26, 3), (90, .iload_n 1, 1), (91, .baload, 1), (92, .ifCond .ne 17, 3), (95, .aload_n 0, 1), (96, .getfield 30, 3), (99, .iload_n 2, 1), (100, .iaload, 1), (101, .iconst 3, 1), (102, .if_icmp .ne 7, 3), (105, .iconst 1, 1), (106, .goto 4, 3), (109, .iconst 0, 1), (110, .bastore, 1), (111, .aload_n 0, 1), (112, .getfield 30, 3), (115, .iload_n 1, 1), (116, .iload_n 3, 1), (117, .ifCond .eq 7, 3), (120, .iconst 3, 1), (121, .goto 9, 3), (124, .aload_n 0, 1), (125, .getfield 20, 3), (128, .iload_n 1, 1), (129, .iaload, 1), (130, .iastore, 1), (131, .aload_n 0, 1), (132, .getfield 36, 3), (135, .iload_n 1, 1), (136, .iconst 0, 1), (137, .iastore, 1), (138, .iconst 0, 1), (139, .istore 4, 2), (141, .iload 4, 2), (143, .iload_n 1, 1), (144, .if_icmp .ge 51, 3), (147, .aload_n 0, 1), (148, .getfield 36, 3), (151, .iload_n 1, 1), (152, .aload_n 0, 1), (153, .iload 4, 2), (155, .iload_n 2, 1), (156, .invokevirtual 105, 3), (159, .ifCond .eq 23, 3), (162, .aload_n 0, 1), (163, .getfield 26, 3), (166, .iload_n 1, 1), (167, .baload, 1), (168, .ifCond .ne 14, 3), (171, .aload_n 0, 1), (172, .getfield 36, 3), (175, .iload_n 1, 1), (176, .iaload, 1), (177, .iconst 1, 1), (178, .iadd, 1), (179, .goto 9, 3), (182, .aload_n 0, 1), (183, .getfield 36, 3), (186, .iload_n 1, 1), (187, .iaload, 1), (188, .iastore, 1), (189, .iinc 4 1, 3), (192, .goto (-51), 3), (195, .iinc 1 1, 3), (198, .goto (-196), 3), (201, .return_, 1)]
theorem dd_Mo_findRoles : (D_Mo_findRoles.all fun q => decide (decode b_Mo_findRoles q.1 = .ok q.2)) = true := by decide +kernel
def t_Mo_findRoles : pl_TR := fun P _ _ => s_seq (s_seq (s_seti 1 (e_int 0)) (s_while (b_cmp .lt (e_loc 1) (e_geti 3 1 (e_locr 0))) (s_seq (s_seq (s_seti 2 (e_ald 1 (e_getr 3 3 (e_locr 0)) (e_loc 1))) (s_seq (s_zast (e_getr 3 7 (e_locr 0)) (e_loc 1) (e_if (b_and (b_zero .gt (e_loc 1)) (b_cmp .eq (e_ald 1 (e_getr 3 6 (e_locr 0)) (e_bin (fun x y : Int32 => x + y) (e_bin (fun x y : Int32 => x * y) (e_int 12) (e_loc 1)) (e_int 9))) (e_int 1))) (e_int 1) (e_int 0))) (s_seq (s_seti 3 (e_if (b_and (b_and (b_zero .gt (e_loc 1)) (b_not (b_zero .ne (e_ald 2 (e_getr 3 7 (e_locr 0)) (e_loc 1))))) (b_cmp .eq (e_ald 1 (e_getr 3 8 (e_locr 0)) (e_loc 2)) (e_int 2))) (e_int 1) (e_int 0))) (s_seq (s_zast (e_getr 3 9 (e_locr 0)) (e_loc 1) (e_if (b_and (b_and (b_zero .gt (e_loc 1)) (b_not (b_zero .ne (e_ald 2 (e_getr 3 7 (e_locr 0)) (e_loc 1))))) (b_cmp .eq (e_ald 1 (e_getr 3 8 (e_locr 0)) (e_loc 2)) (e_int 3))) (e_int 1) (e_int 0))) (s_seq (s_iast (e_getr 3 8 (e_locr 0)) (e_loc 1) (e_if (b_zero .ne (e_loc 3)) (e_int 3) (e_ald 1 (e_getr 3 5 (e_locr 0)) (e_loc 1)))) (s_seq (s_iast (e_getr 3 10 (e_locr 0)) (e_loc 1) (e_int 0)) (s_seq (s_seti 4 (e_int 0)) (s_while (b_cmp .lt (e_loc 4) (e_loc 1)) (s_seq (s_iast (e_getr 3 10 (e_locr 0)) (e_loc 1) (e_if (b_and (b_zero .ne (e_callV Value.int 3 t_Mo_flows n_Mo_flows (a_i (a_i (a_r a_nil (e_locr 0)) (e_loc 4)) (e_loc 2)))) (b_not (b_zero .ne (e_ald 2 (e_getr 3 7 (e_locr 0)) (e_loc 1))))) (e_bin (fun x y : Int32 => x + y) (e_ald 1 (e_getr 3 10 (e_locr 0)) (e_loc 1)) (e_int 1)) (e_ald 1 (e_getr 3 10 (e_locr 0)) (e_loc 1)))) (s_inc 4 1)))))))))) (s_inc 1 1)))) (s_retv P)
theorem z_Mo_findRoles (l : Launch) : pl_Ctr l y_Mo_findRoles b_Mo_findRoles n_Mo_findRoles (Option.none : Option Jvm.ClassFile.FieldType) 1 22 0 0 false t_Mo_findRoles := pl_ctr_of (pe := 0) (by decide) (fun X Y P F Fm => by
  have F : pl_Fx X Y "PageLayouterModel" b_Mo_findRoles := F
  have r_Mo_flows : 0 + 1 ≤ (pl_xR X).frames ∧ 8 + (n_Mo_flows + 11) + 0 ≤ (pl_xR X).locals := ⟨Nat.le_trans (by decide) Fm.2.2.2.2.2.1, Nat.le_trans (by decide) Fm.2.2.2.2.2.2.1⟩
  have hm : ∀ i, i < 5 → i < (pl_xc X).maxLocals := fun i h => by rw [Fm.2.2.2.1]; exact h
  have k0 : decode b_Mo_findRoles 0 = .ok (.iconst 0, 1) := pl_dc dd_Mo_findRoles 0 (q := (0, .iconst 0, 1)) rfl
  have k1 : decode b_Mo_findRoles 1 = .ok (.istore_n 1, 1) := pl_dc dd_Mo_findRoles 1 (q := (1, .istore_n 1, 1)) rfl
  have k2 : decode b_Mo_findRoles 2 = .ok (.iload_n 1, 1) := pl_dc dd_Mo_findRoles 2 (q := (2, .iload_n 1, 1)) rfl
  have k3 : decode b_Mo_findRoles 3 = .ok (.aload_n 0, 1) := pl_dc dd_Mo_findRoles 3 (q := (3, .aload_n 0, 1)) rfl
  have k4 : decode b_Mo_findRoles 4 = .ok (.getfield 7, 3) := pl_dc dd_Mo_findRoles 4 (q := (4, .getfield 7, 3)) rfl
  have k7 : decode b_Mo_findRoles 7 = .ok (.if_icmp .ge 194, 3) := pl_dc dd_Mo_findRoles 5 (q := (7, .if_icmp .ge 194, 3)) rfl
  have k10 : decode b_Mo_findRoles 10 = .ok (.aload_n 0, 1) := pl_dc dd_Mo_findRoles 6 (q := (10, .aload_n 0, 1)) rfl
  have k11 : decode b_Mo_findRoles 11 = .ok (.getfield 13, 3) := pl_dc dd_Mo_findRoles 7 (q := (11, .getfield 13, 3)) rfl
  have k14 : decode b_Mo_findRoles 14 = .ok (.iload_n 1, 1) := pl_dc dd_Mo_findRoles 8 (q := (14, .iload_n 1, 1)) rfl
  have k15 : decode b_Mo_findRoles 15 = .ok (.iaload, 1) := pl_dc dd_Mo_findRoles 9 (q := (15, .iaload, 1)) rfl
  have k16 : decode b_Mo_findRoles 16 = .ok (.istore_n 2, 1) := pl_dc dd_Mo_findRoles 10 (q := (16, .istore_n 2, 1)) rfl
  have k17 : decode b_Mo_findRoles 17 = .ok (.aload_n 0, 1) := pl_dc dd_Mo_findRoles 11 (q := (17, .aload_n 0, 1)) rfl
  have k18 : decode b_Mo_findRoles 18 = .ok (.getfield 26, 3) := pl_dc dd_Mo_findRoles 12 (q := (18, .getfield 26, 3)) rfl
  have k21 : decode b_Mo_findRoles 21 = .ok (.iload_n 1, 1) := pl_dc dd_Mo_findRoles 13 (q := (21, .iload_n 1, 1)) rfl
  have k22 : decode b_Mo_findRoles 22 = .ok (.iload_n 1, 1) := pl_dc dd_Mo_findRoles 14 (q := (22, .iload_n 1, 1)) rfl
  have k23 : decode b_Mo_findRoles 23 = .ok (.ifCond .le 23, 3) := pl_dc dd_Mo_findRoles 15 (q := (23, .ifCond .le 23, 3)) rfl
  have k26 : decode b_Mo_findRoles 26 = .ok (.aload_n 0, 1) := pl_dc dd_Mo_findRoles 16 (q := (26, .aload_n 0, 1)) rfl
  have k27 : decode b_Mo_findRoles 27 = .ok (.getfield 23, 3) := pl_dc dd_Mo_findRoles 17 (q := (27, .getfield 23, 3)) rfl
  have k30 : decode b_Mo_findRoles 30 = .ok (.bipush 12, 2) := pl_dc dd_Mo_findRoles 18 (q := (30, .bipush 12, 2)) rfl
  have k32 : decode b_Mo_findRoles 32 = .ok (.iload_n 1, 1) := pl_dc dd_Mo_findRoles 19 (q := (32, .iload_n 1, 1)) rfl
  have k33 : decode b_Mo_findRoles 33 = .ok (.imul, 1) := pl_dc dd_Mo_findRoles 20 (q := (33, .imul, 1)) rfl
  have k34 : decode b_Mo_findRoles 34 = .ok (.bipush 9, 2) := pl_dc dd_Mo_findRoles 21 (q := (34, .bipush 9, 2)) rfl
  have k36 : decode b_Mo_findRoles 36 = .ok (.iadd, 1) := pl_dc dd_Mo_findRoles 22 (q := (36, .iadd, 1)) rfl
  have k37 : decode b_Mo_findRoles 37 = .ok (.iaload, 1) := pl_dc dd_Mo_findRoles 23 (q := (37, .iaload, 1)) rfl
  have k38 : decode b_Mo_findRoles 38 = .ok (.iconst 1, 1) := pl_dc dd_Mo_findRoles 24 (q := (38, .iconst 1, 1)) rfl
  have k39 : decode b_Mo_findRoles 39 = .ok (.if_icmp .ne 7, 3) := pl_dc dd_Mo_findRoles 25 (q := (39, .if_icmp .ne 7, 3)) rfl
  have k42 : decode b_Mo_findRoles 42 = .ok (.iconst 1, 1) := pl_dc dd_Mo_findRoles 26 (q := (42, .iconst 1, 1)) rfl
  have k43 : decode b_Mo_findRoles 43 = .ok (.goto 4, 3) := pl_dc dd_Mo_findRoles 27 (q := (43, .goto 4, 3)) rfl
  have k46 : decode b_Mo_findRoles 46 = .ok (.iconst 0, 1) := pl_dc dd_Mo_findRoles 28 (q := (46, .iconst 0, 1)) rfl
  have k47 : decode b_Mo_findRoles 47 = .ok (.bastore, 1) := pl_dc dd_Mo_findRoles 29 (q := (47, .bastore, 1)) rfl
  have k48 : decode b_Mo_findRoles 48 = .ok (.iload_n 1, 1) := pl_dc dd_Mo_findRoles 30 (q := (48, .iload_n 1, 1)) rfl
  have k49 : decode b_Mo_findRoles 49 = .ok (.ifCond .le 26, 3) := pl_dc dd_Mo_findRoles 31 (q := (49, .ifCond .le 26, 3)) rfl
  have k52 : decode b_Mo_findRoles 52 = .ok (.aload_n 0, 1) := pl_dc dd_Mo_findRoles 32 (q := (52, .aload_n 0, 1)) rfl
  have k53 : decode b_Mo_findRoles 53 = .ok (.getfield 26, 3) := pl_dc dd_Mo_findRoles 33 (q := (53, .getfield 26, 3)) rfl
  have k56 : decode b_Mo_findRoles 56 = .ok (.iload_n 1, 1) := pl_dc dd_Mo_findRoles 34 (q := (56, .iload_n 1, 1)) rfl
  have k57 : decode b_Mo_findRoles 57 = .ok (.baload, 1) := pl_dc dd_Mo_findRoles 35 (q := (57, .baload, 1)) rfl
  have k58 : decode b_Mo_findRoles 58 = .ok (.ifCond .ne 17, 3) := pl_dc dd_Mo_findRoles 36 (q := (58, .ifCond .ne 17, 3)) rfl
  have k61 : decode b_Mo_findRoles 61 = .ok (.aload_n 0, 1) := pl_dc dd_Mo_findRoles 37 (q := (61, .aload_n 0, 1)) rfl
  have k62 : decode b_Mo_findRoles 62 = .ok (.getfield 30, 3) := pl_dc dd_Mo_findRoles 38 (q := (62, .getfield 30, 3)) rfl
  have k65 : decode b_Mo_findRoles 65 = .ok (.iload_n 2, 1) := pl_dc dd_Mo_findRoles 39 (q := (65, .iload_n 2, 1)) rfl
  have k66 : decode b_Mo_findRoles 66 = .ok (.iaload, 1) := pl_dc dd_Mo_findRoles 40 (q := (66, .iaload, 1)) rfl
  have k67 : decode b_Mo_findRoles 67 = .ok (.iconst 2, 1) := pl_dc dd_Mo_findRoles 41 (q := (67, .iconst 2, 1)) rfl
  have k68 : decode b_Mo_findRoles 68 = .ok (.if_icmp .ne 7, 3) := pl_dc dd_Mo_findRoles 42 (q := (68, .if_icmp .ne 7, 3)) rfl
  have k71 : decode b_Mo_findRoles 71 = .ok (.iconst 1, 1) := pl_dc dd_Mo_findRoles 43 (q := (71, .iconst 1, 1)) rfl
  have k72 : decode b_Mo_findRoles 72 = .ok (.goto 4, 3) := pl_dc dd_Mo_findRoles 44 (q := (72, .goto 4, 3)) rfl
  have k75 : decode b_Mo_findRoles 75 = .ok (.iconst 0, 1) := pl_dc dd_Mo_findRoles 45 (q := (75, .iconst 0, 1)) rfl
  have k76 : decode b_Mo_findRoles 76 = .ok (.istore_n 3, 1) := pl_dc dd_Mo_findRoles 46 (q := (76, .istore_n 3, 1)) rfl
  have k77 : decode b_Mo_findRoles 77 = .ok (.aload_n 0, 1) := pl_dc dd_Mo_findRoles 47 (q := (77, .aload_n 0, 1)) rfl
  have k78 : decode b_Mo_findRoles 78 = .ok (.getfield 33, 3) := pl_dc dd_Mo_findRoles 48 (q := (78, .getfield 33, 3)) rfl
  have k81 : decode b_Mo_findRoles 81 = .ok (.iload_n 1, 1) := pl_dc dd_Mo_findRoles 49 (q := (81, .iload_n 1, 1)) rfl
  have k82 : decode b_Mo_findRoles 82 = .ok (.iload_n 1, 1) := pl_dc dd_Mo_findRoles 50 (q := (82, .iload_n 1, 1)) rfl
  have k83 : decode b_Mo_findRoles 83 = .ok (.ifCond .le 26, 3) := pl_dc dd_Mo_findRoles 51 (q := (83, .ifCond .le 26, 3)) rfl
  have k86 : decode b_Mo_findRoles 86 = .ok (.aload_n 0, 1) := pl_dc dd_Mo_findRoles 52 (q := (86, .aload_n 0, 1)) rfl
  have k87 : decode b_Mo_findRoles 87 = .ok (.getfield 26, 3) := pl_dc dd_Mo_findRoles 53 (q := (87, .getfield 26, 3)) rfl
  have k90 : decode b_Mo_findRoles 90 = .ok (.iload_n 1, 1) := pl_dc dd_Mo_findRoles 54 (q := (90, .iload_n 1, 1)) rfl
  have k91 : decode b_Mo_findRoles 91 = .ok (.baload, 1) := pl_dc dd_Mo_findRoles 55 (q := (91, .baload, 1)) rfl
  have k92 : decode b_Mo_findRoles 92 = .ok (.ifCond .ne 17, 3) := pl_dc dd_Mo_findRoles 56 (q := (92, .ifCond .ne 17, 3)) rfl
  have k95 : decode b_Mo_findRoles 95 = .ok (.aload_n 0, 1) := pl_dc dd_Mo_findRoles 57 (q := (95, .aload_n 0, 1)) rfl
  have k96 : decode b_Mo_findRoles 96 = .ok (.getfield 30, 3) := pl_dc dd_Mo_findRoles 58 (q := (96, .getfield 30, 3)) rfl
  have k99 : decode b_Mo_findRoles 99 = .ok (.iload_n 2, 1) := pl_dc dd_Mo_findRoles 59 (q := (99, .iload_n 2, 1)) rfl
  have k100 : decode b_Mo_findRoles 100 = .ok (.iaload, 1) := pl_dc dd_Mo_findRoles 60 (q := (100, .iaload, 1)) rfl
  have k101 : decode b_Mo_findRoles 101 = .ok (.iconst 3, 1) := pl_dc dd_Mo_findRoles 61 (q := (101, .iconst 3, 1)) rfl
  have k102 : decode b_Mo_findRoles 102 = .ok (.if_icmp .ne 7, 3) := pl_dc dd_Mo_findRoles 62 (q := (102, .if_icmp .ne 7, 3)) rfl
  have k105 : decode b_Mo_findRoles 105 = .ok (.iconst 1, 1) := pl_dc dd_Mo_findRoles 63 (q := (105, .iconst 1, 1)) rfl
  have k106 : decode b_Mo_findRoles 106 = .ok (.goto 4, 3) := pl_dc dd_Mo_findRoles 64 (q := (106, .goto 4, 3)) rfl
  have k109 : decode b_Mo_findRoles 109 = .ok (.iconst 0, 1) := pl_dc dd_Mo_findRoles 65 (q := (109, .iconst 0, 1)) rfl
  have k110 : decode b_Mo_findRoles 110 = .ok (.bastore, 1) := pl_dc dd_Mo_findRoles 66 (q := (110, .bastore, 1)) rfl
  have k111 : decode b_Mo_findRoles 111 = .ok (.aload_n 0, 1) := pl_dc dd_Mo_findRoles 67 (q := (111, .aload_n 0, 1)) rfl
  have k112 : decode b_Mo_findRoles 112 = .ok (.getfield 30, 3) := pl_dc dd_Mo_findRoles 68 (q := (112, .getfield 30, 3)) rfl
  have k115 : decode b_Mo_findRoles 115 = .ok (.iload_n 1, 1) := pl_dc dd_Mo_findRoles 69 (q := (115, .iload_n 1, 1)) rfl
  have k116 : decode b_Mo_findRoles 116 = .ok (.iload_n 3, 1) := pl_dc dd_Mo_findRoles 70 (q := (116, .iload_n 3, 1)) rfl
  have k117 : decode b_Mo_findRoles 117 = .ok (.ifCond .eq 7, 3) := pl_dc dd_Mo_findRoles 71 (q := (117, .ifCond .eq 7, 3)) rfl
  have k120 : decode b_Mo_findRoles 120 = .ok (.iconst 3, 1) := pl_dc dd_Mo_findRoles 72 (q := (120, .iconst 3, 1)) rfl
  have k121 : decode b_Mo_findRoles 121 = .ok (.goto 9, 3) := pl_dc dd_Mo_findRoles 73 (q := (121, .goto 9, 3)) rfl
  have k124 : decode b_Mo_findRoles 124 = .ok (.aload_n 0, 1) := pl_dc dd_Mo_findRoles 74 (q := (124, .aload_n 0, 1)) rfl
  have k125 : decode b_Mo_findRoles 125 = .ok (.getfield 20, 3) := pl_dc dd_Mo_findRoles 75 (q := (125, .getfield 20, 3)) rfl
  have k128 : decode b_Mo_findRoles 128 = .ok (.iload_n 1, 1) := pl_dc dd_Mo_findRoles 76 (q := (128, .iload_n 1, 1)) rfl
  have k129 : decode b_Mo_findRoles 129 = .ok (.iaload, 1) := pl_dc dd_Mo_findRoles 77 (q := (129, .iaload, 1)) rfl
  have k130 : decode b_Mo_findRoles 130 = .ok (.iastore, 1) := pl_dc dd_Mo_findRoles 78 (q := (130, .iastore, 1)) rfl
  have k131 : decode b_Mo_findRoles 131 = .ok (.aload_n 0, 1) := pl_dc dd_Mo_findRoles 79 (q := (131, .aload_n 0, 1)) rfl
  have k132 : decode b_Mo_findRoles 132 = .ok (.getfield 36, 3) := pl_dc dd_Mo_findRoles 80 (q := (132, .getfield 36, 3)) rfl
  have k135 : decode b_Mo_findRoles 135 = .ok (.iload_n 1, 1) := pl_dc dd_Mo_findRoles 81 (q := (135, .iload_n 1, 1)) rfl
  have k136 : decode b_Mo_findRoles 136 = .ok (.iconst 0, 1) := pl_dc dd_Mo_findRoles 82 (q := (136, .iconst 0, 1)) rfl
  have k137 : decode b_Mo_findRoles 137 = .ok (.iastore, 1) := pl_dc dd_Mo_findRoles 83 (q := (137, .iastore, 1)) rfl
  have k138 : decode b_Mo_findRoles 138 = .ok (.iconst 0, 1) := pl_dc dd_Mo_findRoles 84 (q := (138, .iconst 0, 1)) rfl
  have k139 : decode b_Mo_findRoles 139 = .ok (.istore 4, 2) := pl_dc dd_Mo_findRoles 85 (q := (139, .istore 4, 2)) rfl
  have k141 : decode b_Mo_findRoles 141 = .ok (.iload 4, 2) := pl_dc dd_Mo_findRoles 86 (q := (141, .iload 4, 2)) rfl
  have k143 : decode b_Mo_findRoles 143 = .ok (.iload_n 1, 1) := pl_dc dd_Mo_findRoles 87 (q := (143, .iload_n 1, 1)) rfl
  have k144 : decode b_Mo_findRoles 144 = .ok (.if_icmp .ge 51, 3) := pl_dc dd_Mo_findRoles 88 (q := (144, .if_icmp .ge 51, 3)) rfl
  have k147 : decode b_Mo_findRoles 147 = .ok (.aload_n 0, 1) := pl_dc dd_Mo_findRoles 89 (q := (147, .aload_n 0, 1)) rfl
  have k148 : decode b_Mo_findRoles 148 = .ok (.getfield 36, 3) := pl_dc dd_Mo_findRoles 90 (q := (148, .getfield 36, 3)) rfl
  have k151 : decode b_Mo_findRoles 151 = .ok (.iload_n 1, 1) := pl_dc dd_Mo_findRoles 91 (q := (151, .iload_n 1, 1)) rfl
  have k152 : decode b_Mo_findRoles 152 = .ok (.aload_n 0, 1) := pl_dc dd_Mo_findRoles 92 (q := (152, .aload_n 0, 1)) rfl
  have k153 : decode b_Mo_findRoles 153 = .ok (.iload 4, 2) := pl_dc dd_Mo_findRoles 93 (q := (153, .iload 4, 2)) rfl
  have k155 : decode b_Mo_findRoles 155 = .ok (.iload_n 2, 1) := pl_dc dd_Mo_findRoles 94 (q := (155, .iload_n 2, 1)) rfl
  have k156 : decode b_Mo_findRoles 156 = .ok (.invokevirtual 105, 3) := pl_dc dd_Mo_findRoles 95 (q := (156, .invokevirtual 105, 3)) rfl
  have k159 : decode b_Mo_findRoles 159 = .ok (.ifCond .eq 23, 3) := pl_dc dd_Mo_findRoles 96 (q := (159, .ifCond .eq 23, 3)) rfl
  have k162 : decode b_Mo_findRoles 162 = .ok (.aload_n 0, 1) := pl_dc dd_Mo_findRoles 97 (q := (162, .aload_n 0, 1)) rfl
  have k163 : decode b_Mo_findRoles 163 = .ok (.getfield 26, 3) := pl_dc dd_Mo_findRoles 98 (q := (163, .getfield 26, 3)) rfl
  have k166 : decode b_Mo_findRoles 166 = .ok (.iload_n 1, 1) := pl_dc dd_Mo_findRoles 99 (q := (166, .iload_n 1, 1)) rfl
  have k167 : decode b_Mo_findRoles 167 = .ok (.baload, 1) := pl_dc dd_Mo_findRoles 100 (q := (167, .baload, 1)) rfl
  have k168 : decode b_Mo_findRoles 168 = .ok (.ifCond .ne 14, 3) := pl_dc dd_Mo_findRoles 101 (q := (168, .ifCond .ne 14, 3)) rfl
  have k171 : decode b_Mo_findRoles 171 = .ok (.aload_n 0, 1) := pl_dc dd_Mo_findRoles 102 (q := (171, .aload_n 0, 1)) rfl
  have k172 : decode b_Mo_findRoles 172 = .ok (.getfield 36, 3) := pl_dc dd_Mo_findRoles 103 (q := (172, .getfield 36, 3)) rfl
  have k175 : decode b_Mo_findRoles 175 = .ok (.iload_n 1, 1) := pl_dc dd_Mo_findRoles 104 (q := (175, .iload_n 1, 1)) rfl
  have k176 : decode b_Mo_findRoles 176 = .ok (.iaload, 1) := pl_dc dd_Mo_findRoles 105 (q := (176, .iaload, 1)) rfl
  have k177 : decode b_Mo_findRoles 177 = .ok (.iconst 1, 1) := pl_dc dd_Mo_findRoles 106 (q := (177, .iconst 1, 1)) rfl
  have k178 : decode b_Mo_findRoles 178 = .ok (.iadd, 1) := pl_dc dd_Mo_findRoles 107 (q := (178, .iadd, 1)) rfl
  have k179 : decode b_Mo_findRoles 179 = .ok (.goto 9, 3) := pl_dc dd_Mo_findRoles 108 (q := (179, .goto 9, 3)) rfl
  have k182 : decode b_Mo_findRoles 182 = .ok (.aload_n 0, 1) := pl_dc dd_Mo_findRoles 109 (q := (182, .aload_n 0, 1)) rfl
  have k183 : decode b_Mo_findRoles 183 = .ok (.getfield 36, 3) := pl_dc dd_Mo_findRoles 110 (q := (183, .getfield 36, 3)) rfl
  have k186 : decode b_Mo_findRoles 186 = .ok (.iload_n 1, 1) := pl_dc dd_Mo_findRoles 111 (q := (186, .iload_n 1, 1)) rfl
  have k187 : decode b_Mo_findRoles 187 = .ok (.iaload, 1) := pl_dc dd_Mo_findRoles 112 (q := (187, .iaload, 1)) rfl
  have k188 : decode b_Mo_findRoles 188 = .ok (.iastore, 1) := pl_dc dd_Mo_findRoles 113 (q := (188, .iastore, 1)) rfl
  have k189 : decode b_Mo_findRoles 189 = .ok (.iinc 4 1, 3) := pl_dc dd_Mo_findRoles 114 (q := (189, .iinc 4 1, 3)) rfl
  have k192 : decode b_Mo_findRoles 192 = .ok (.goto (-51), 3) := pl_dc dd_Mo_findRoles 115 (q := (192, .goto (-51), 3)) rfl
  have k195 : decode b_Mo_findRoles 195 = .ok (.iinc 1 1, 3) := pl_dc dd_Mo_findRoles 116 (q := (195, .iinc 1 1, 3)) rfl
  have k198 : decode b_Mo_findRoles 198 = .ok (.goto (-196), 3) := pl_dc dd_Mo_findRoles 117 (q := (198, .goto (-196), 3)) rfl
  have k201 : decode b_Mo_findRoles 201 = .ok (.return_, 1) := pl_dc dd_Mo_findRoles 118 (q := (201, .return_, 1)) rfl
  exact (d_seq (p1 := 201) (d_seq (p1 := 2) (d_istore_n (p1 := 1) F (c_iconst F k0 (by decide)) k1 rfl (hm 1 (by decide))) (d_while (p1 := 10) (p2 := 198) F (b_cmp_t (p1 := 3) (p2 := 7) (pj := 201) F (c_iload_n F k2 rfl) (c_geti (p1 := 4) F 3 1 hg_3_1 (c_aload_n F k3 rfl) k4 lf_PageLayouterModel_7) k7 (by decide)) (d_seq (p1 := 195) (d_seq (p1 := 17) (d_istore_n (p1 := 16) F (c_iald (p1 := 14) (p2 := 15) F (c_getr (p1 := 11) F 3 3 hg_3_3 (c_aload_n F k10 rfl) k11 lf_PageLayouterModel_13) (c_iload_n F k14 rfl) k15) k16 rfl (hm 2 (by decide))) (d_seq (p1 := 48) (d_zast (p1 := 21) (p2 := 22) (p3 := 47) F (c_getr (p1 := 18) F 3 7 hg_3_7 (c_aload_n F k17 rfl) k18 lf_PageLayouterModel_26) (c_iload_n F k21 rfl) (c_if (p1 := 42) (p2 := 43) (p3 := 47) F (b_and_t (p1 := 26) (b_zero_t (p1 := 23) (pj := 46) F (c_iload_n F k22 rfl) k23 (by decide)) (b_cmp_t (p1 := 38) (p2 := 39) (pj := 46) F (c_iald (p1 := 30) (p2 := 37) F (c_getr (p1 := 27) F 3 6 hg_3_6 (c_aload_n F k26 rfl) k27 lf_PageLayouterModel_23) (c_bin 1 (p1 := 34) (p2 := 36) (c_bin 1 (p1 := 32) (p2 := 33) (c_bipush F k30 (by decide)) (c_iload_n F k32 rfl) pl_c1 (j_imul F k33)) (c_bipush F k34 (by decide)) pl_c1 (j_iadd F k36)) k37) (c_iconst F k38 (by decide)) k39 (by decide))) (c_iconst F k42 (by decide)) k43 (by decide) (c_iconst F k46 (by decide))) k47) (d_seq (p1 := 77) (d_istore_n (p1 := 76) F (c_if (p1 := 71) (p2 := 72) (p3 := 76) F (b_and_t (p1 := 61) (b_and_t (p1 := 52) (b_zero_t (p1 := 49) (pj := 75) F (c_iload_n F k48 rfl) k49 (by decide)) (b_not_t (b_zero_f (p1 := 58) (pj := 75) F (c_zald (p1 := 56) (p2 := 57) F (c_getr (p1 := 53) F 3 7 hg_3_7 (c_aload_n F k52 rfl) k53 lf_PageLayouterModel_26) (c_iload_n F k56 rfl) k57) k58 (by decide)))) (b_cmp_t (p1 := 67) (p2 := 68) (pj := 75) F (c_iald (p1 := 65) (p2 := 66) F (c_getr (p1 := 62) F 3 8 hg_3_8 (c_aload_n F k61 rfl) k62 lf_PageLayouterModel_30) (c_iload_n F k65 rfl) k66) (c_iconst F k67 (by decide)) k68 (by decide))) (c_iconst F k71 (by decide)) k72 (by decide) (c_iconst F k75 (by decide))) k76 rfl (hm 3 (by decide))) (d_seq (p1 := 111) (d_zast (p1 := 81) (p2 := 82) (p3 := 110) F (c_getr (p1 := 78) F 3 9 hg_3_9 (c_aload_n F k77 rfl) k78 lf_PageLayouterModel_33) (c_iload_n F k81 rfl) (c_if (p1 := 105) (p2 := 106) (p3 := 110) F (b_and_t (p1 := 95) (b_and_t (p1 := 86) (b_zero_t (p1 := 83) (pj := 109) F (c_iload_n F k82 rfl) k83 (by decide)) (b_not_t (b_zero_f (p1 := 92) (pj := 109) F (c_zald (p1 := 90) (p2 := 91) F (c_getr (p1 := 87) F 3 7 hg_3_7 (c_aload_n F k86 rfl) k87 lf_PageLayouterModel_26) (c_iload_n F k90 rfl) k91) k92 (by decide)))) (b_cmp_t (p1 := 101) (p2 := 102) (pj := 109) F (c_iald (p1 := 99) (p2 := 100) F (c_getr (p1 := 96) F 3 8 hg_3_8 (c_aload_n F k95 rfl) k96 lf_PageLayouterModel_30) (c_iload_n F k99 rfl) k100) (c_iconst F k101 (by decide)) k102 (by decide))) (c_iconst F k105 (by decide)) k106 (by decide) (c_iconst F k109 (by decide))) k110) (d_seq (p1 := 131) (d_iast (p1 := 115) (p2 := 116) (p3 := 130) F (c_getr (p1 := 112) F 3 8 hg_3_8 (c_aload_n F k111 rfl) k112 lf_PageLayouterModel_30) (c_iload_n F k115 rfl) (c_if (p1 := 120) (p2 := 121) (p3 := 130) F (b_zero_t (p1 := 117) (pj := 124) F (c_iload_n F k116 rfl) k117 (by decide)) (c_iconst F k120 (by decide)) k121 (by decide) (c_iald (p1 := 128) (p2 := 129) F (c_getr (p1 := 125) F 3 5 hg_3_5 (c_aload_n F k124 rfl) k125 lf_PageLayouterModel_20) (c_iload_n F k128 rfl) k129)) k130) (d_seq (p1 := 138) (d_iast (p1 := 135) (p2 := 136) (p3 := 137) F (c_getr (p1 := 132) F 3 10 hg_3_10 (c_aload_n F k131 rfl) k132 lf_PageLayouterModel_36) (c_iload_n F k135 rfl) (c_iconst F k136 (by decide)) k137) (d_seq (p1 := 141) (d_istore (p1 := 139) F (c_iconst F k138 (by decide)) k139 (hm 4 (by decide))) (d_while (p1 := 147) (p2 := 192) F (b_cmp_t (p1 := 143) (p2 := 144) (pj := 195) F (c_iload F k141) (c_iload_n F k143 rfl) k144 (by decide)) (d_seq (p1 := 189) (d_iast (p1 := 151) (p2 := 152) (p3 := 188) F (c_getr (p1 := 148) F 3 10 hg_3_10 (c_aload_n F k147 rfl) k148 lf_PageLayouterModel_36) (c_iload_n F k151 rfl) (c_if (p1 := 171) (p2 := 179) (p3 := 188) F (b_and_t (p1 := 162) (b_zero_t (p1 := 159) (pj := 182) F (c_callV (p1 := 156) F (a_i_ok (p1 := 155) (a_i_ok (p1 := 153) (a_r_ok (p1 := 152) a_nil_ok (c_aload_n F k152 rfl)) (c_iload F k153)) (c_iload_n F k155 rfl)) (z_Mo_flows _) y_Mo_flows_ok lm_PageLayouterModel_105 k156 r_Mo_flows (by decide) (by decide)) k159 (by decide)) (b_not_t (b_zero_f (p1 := 168) (pj := 182) F (c_zald (p1 := 166) (p2 := 167) F (c_getr (p1 := 163) F 3 7 hg_3_7 (c_aload_n F k162 rfl) k163 lf_PageLayouterModel_26) (c_iload_n F k166 rfl) k167) k168 (by decide)))) (c_bin 1 (p1 := 177) (p2 := 178) (c_iald (p1 := 175) (p2 := 176) F (c_getr (p1 := 172) F 3 10 hg_3_10 (c_aload_n F k171 rfl) k172 lf_PageLayouterModel_36) (c_iload_n F k175 rfl) k176) (c_iconst F k177 (by decide)) pl_c1 (j_iadd F k178)) k179 (by decide) (c_iald (p1 := 186) (p2 := 187) F (c_getr (p1 := 183) F 3 10 hg_3_10 (c_aload_n F k182 rfl) k183 lf_PageLayouterModel_36) (c_iload_n F k186 rfl) k187)) k188) (d_iinc F k189 (by decide) (hm 4 (by decide)))) k192 (by decide))))))))) (d_iinc F k195 (by decide) (hm 1 (by decide)))) k198 (by decide))) (d_retv F Fm.2.1 Fm.2.2.1 k201)))
def y_Mo_margin : MethodName := ⟨"PageLayouterModel", "margin", "(I)I"⟩
abbrev b_Mo_margin : ByteArray := prog_10_method_12_code
abbrev n_Mo_margin : Nat := 2
theorem y_Mo_margin_ok : pl_MV 3 y_Mo_margin b_Mo_margin n_Mo_margin (Option.some Jvm.ClassFile.FieldType.int) 1 := ⟨pl_mem 853 (by decide +kernel) (by decide +kernel), pl_mem 852 (by decide +kernel) (by decide +kernel), pl_mem 21 (by decide +kernel) (by decide +kernel), pl_mem 47 (by decide +kernel) (by decide +kernel), ⟨by decide, by decide, by decide +kernel⟩, _, rfl, rfl⟩
def D_Mo_margin : List (Nat × Instr × Nat) := [(0, .aload_n 0, 1), (1, .getfield 30, 3), (4, .iload_n 1, 1), (5, .iaload, 1), (6, .iconst 3, 1), (7, .if_icmp .eq 12, 3), (10, .aload_n 0, 1), (11, .getfield 33, 3), (14, .iload_n 1, 1), (15, .baload, 1), (16, .ifCond .eq 7, 3), (19, .iconst 0, 1), (20, .goto 14, 3), (23, .aload_n 0, 1), (24, .getfield 23, 3), (27, .bipush 12, 2), (29, .iload_n 1, 1), (30, .imul, 1), (31, .iconst 2, 1), (32, .iadd, 1), (33, .iaload, 1), (34, .ireturn, 1)]
theorem dd_Mo_margin : (D_Mo_margin.all fun q => decide (decode b_Mo_margin q.1 = .ok q.2)) = true := by decide +kernel
def t_Mo_margin : pl_TR := fun P _ _ => s_reti P (e_if (b_or (b_cmp .eq (e_ald 1 (e_getr 3 8 (e_locr 0)) (e_loc 1)) (e_int 3)) (b_zero .ne (e_ald 2 (e_getr 3 9 (e_locr 0)) (e_loc 1)))) (e_int 0) (e_ald 1 (e_getr 3 6 (e_locr 0)) (e_bin (fun x y : Int32 => x + y) (e_bin (fun x y : Int32 => x * y) (e_int 12) (e_loc 1)) (e_int 2))))
theorem z_Mo_margin (l : Launch) : pl_Ctr l y_Mo_margin b_Mo_margin n_Mo_margin (Option.some Jvm.ClassFile.FieldType.int) 0 0 0 0 false t_Mo_margin := pl_ctr_of (pe := 0) (by decide) (fun X Y P F Fm => by
  have F : pl_Fx X Y "PageLayouterModel" b_Mo_margin := F
  have k0 : decode b_Mo_margin 0 = .ok (.aload_n 0, 1) := pl_dc dd_Mo_margin 0 (q := (0, .aload_n 0, 1)) rfl
  have k1 : decode b_Mo_margin 1 = .ok (.getfield 30, 3) := pl_dc dd_Mo_margin 1 (q := (1, .getfield 30, 3)) rfl
  have k4 : decode b_Mo_margin 4 = .ok (.iload_n 1, 1) := pl_dc dd_Mo_margin 2 (q := (4, .iload_n 1, 1)) rfl
  have k5 : decode b_Mo_margin 5 = .ok (.iaload, 1) := pl_dc dd_Mo_margin 3 (q := (5, .iaload, 1)) rfl
  have k6 : decode b_Mo_margin 6 = .ok (.iconst 3, 1) := pl_dc dd_Mo_margin 4 (q := (6, .iconst 3, 1)) rfl
  have k7 : decode b_Mo_margin 7 = .ok (.if_icmp .eq 12, 3) := pl_dc dd_Mo_margin 5 (q := (7, .if_icmp .eq 12, 3)) rfl
  have k10 : decode b_Mo_margin 10 = .ok (.aload_n 0, 1) := pl_dc dd_Mo_margin 6 (q := (10, .aload_n 0, 1)) rfl
  have k11 : decode b_Mo_margin 11 = .ok (.getfield 33, 3) := pl_dc dd_Mo_margin 7 (q := (11, .getfield 33, 3)) rfl
  have k14 : decode b_Mo_margin 14 = .ok (.iload_n 1, 1) := pl_dc dd_Mo_margin 8 (q := (14, .iload_n 1, 1)) rfl
  have k15 : decode b_Mo_margin 15 = .ok (.baload, 1) := pl_dc dd_Mo_margin 9 (q := (15, .baload, 1)) rfl
  have k16 : decode b_Mo_margin 16 = .ok (.ifCond .eq 7, 3) := pl_dc dd_Mo_margin 10 (q := (16, .ifCond .eq 7, 3)) rfl
  have k19 : decode b_Mo_margin 19 = .ok (.iconst 0, 1) := pl_dc dd_Mo_margin 11 (q := (19, .iconst 0, 1)) rfl
  have k20 : decode b_Mo_margin 20 = .ok (.goto 14, 3) := pl_dc dd_Mo_margin 12 (q := (20, .goto 14, 3)) rfl
  have k23 : decode b_Mo_margin 23 = .ok (.aload_n 0, 1) := pl_dc dd_Mo_margin 13 (q := (23, .aload_n 0, 1)) rfl
  have k24 : decode b_Mo_margin 24 = .ok (.getfield 23, 3) := pl_dc dd_Mo_margin 14 (q := (24, .getfield 23, 3)) rfl
  have k27 : decode b_Mo_margin 27 = .ok (.bipush 12, 2) := pl_dc dd_Mo_margin 15 (q := (27, .bipush 12, 2)) rfl
  have k29 : decode b_Mo_margin 29 = .ok (.iload_n 1, 1) := pl_dc dd_Mo_margin 16 (q := (29, .iload_n 1, 1)) rfl
  have k30 : decode b_Mo_margin 30 = .ok (.imul, 1) := pl_dc dd_Mo_margin 17 (q := (30, .imul, 1)) rfl
  have k31 : decode b_Mo_margin 31 = .ok (.iconst 2, 1) := pl_dc dd_Mo_margin 18 (q := (31, .iconst 2, 1)) rfl
  have k32 : decode b_Mo_margin 32 = .ok (.iadd, 1) := pl_dc dd_Mo_margin 19 (q := (32, .iadd, 1)) rfl
  have k33 : decode b_Mo_margin 33 = .ok (.iaload, 1) := pl_dc dd_Mo_margin 20 (q := (33, .iaload, 1)) rfl
  have k34 : decode b_Mo_margin 34 = .ok (.ireturn, 1) := pl_dc dd_Mo_margin 21 (q := (34, .ireturn, 1)) rfl
  exact (d_reti (p1 := 34) F Fm.2.1 Fm.2.2.1 (c_if (p1 := 19) (p2 := 20) (p3 := 34) F (b_or_t (p1 := 10) (b_cmp_f (p1 := 6) (p2 := 7) (pj := 19) F (c_iald (p1 := 4) (p2 := 5) F (c_getr (p1 := 1) F 3 8 hg_3_8 (c_aload_n F k0 rfl) k1 lf_PageLayouterModel_30) (c_iload_n F k4 rfl) k5) (c_iconst F k6 (by decide)) k7 (by decide)) (b_zero_t (p1 := 16) (pj := 23) F (c_zald (p1 := 14) (p2 := 15) F (c_getr (p1 := 11) F 3 9 hg_3_9 (c_aload_n F k10 rfl) k11 lf_PageLayouterModel_33) (c_iload_n F k14 rfl) k15) k16 (by decide))) (c_iconst F k19 (by decide)) k20 (by decide) (c_iald (p1 := 27) (p2 := 33) F (c_getr (p1 := 24) F 3 6 hg_3_6 (c_aload_n F k23 rfl) k24 lf_PageLayouterModel_23) (c_bin 1 (p1 := 31) (p2 := 32) (c_bin 1 (p1 := 29) (p2 := 30) (c_bipush F k27 (by decide)) (c_iload_n F k29 rfl) pl_c1 (j_imul F k30)) (c_iconst F k31 (by decide)) pl_c1 (j_iadd F k32)) k33)) k34))
