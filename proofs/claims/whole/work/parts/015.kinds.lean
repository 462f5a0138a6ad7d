/-! 015 What the tables say of the kinds of cell -/
def pl_KK (G : pl_G) (U : State) : Prop := va_K G.1 pl_cl (pl_tys G) U ∧ (∀ q, q < 4 → U.isArrayOf (G.2.2.1 q) .int) ∧ ∀ w ∈ pl_N, va_Nw w U
theorem pl_KK.moved {G : pl_G} {s U : State} (h : pl_KK G s) (hW : s.WarmedH U.vm) : pl_KK G U :=
  ⟨va_K.moved hW.alike h.1, fun q hq => State.isArrayOf_alike hW.alike (h.2.1 q hq), fun w hw => pl_nest_moved (pl_N_nest w hw) hW (h.2.2 w hw)⟩
theorem pl_KK.same {G : pl_G} {u U : State} (hv : u.vm = U.vm) (h : pl_KK G u) : pl_KK G U := by
  have ha : u.vm.Alike U.vm := by rw [hv]; exact Vm.Alike.refl _
  exact ⟨va_K.moved ha h.1, fun q hq => State.isArrayOf_alike ha (h.2.1 q hq), fun w hw => pl_nest_same (pl_N_nest w hw) hv (h.2.2 w hw)⟩
theorem pl_lays_0 : u_ws "PageLayouter" (pl_F 0) 4 = ([205, 207, 209, 211] : List Nat).filterMap (fun i => lw_tbl[i]?) := by decide +kernel
theorem pl_layg_0 : (u_ws "PageLayouter" (pl_F 0) 4).all goodWord = true := by decide +kernel
theorem pl_lays_1 : u_ws "PageLayouter$Box" (pl_F 1) 20 = ([139, 141, 143, 145, 147, 149, 151, 153, 155, 157, 159, 161, 163, 165, 167, 169, 171, 173, 175, 177] : List Nat).filterMap (fun i => lw_tbl[i]?) := by decide +kernel
theorem pl_layg_1 : (u_ws "PageLayouter$Box" (pl_F 1) 20).all goodWord = true := by decide +kernel
theorem pl_lays_2 : u_ws "PageLayouter$Columns" (pl_F 2) 4 = ([192, 194, 196, 198] : List Nat).filterMap (fun i => lw_tbl[i]?) := by decide +kernel
theorem pl_layg_2 : (u_ws "PageLayouter$Columns" (pl_F 2) 4).all goodWord = true := by decide +kernel
theorem pl_lays_3 : u_ws "PageLayouterModel" (pl_F 3) 26 = ([727, 729, 739, 731, 733, 735, 737, 741, 743, 745, 747, 749, 751, 753, 755, 757, 759, 761, 763, 765, 767, 769, 771, 773, 775, 777] : List Nat).filterMap (fun i => lw_tbl[i]?) := by decide +kernel
theorem pl_layg_3 : (u_ws "PageLayouterModel" (pl_F 3) 26).all goodWord = true := by decide +kernel
theorem pl_lays_of {ws : List Cond} {ps : List Nat} (h : ws = ps.filterMap (fun i => lw_tbl[i]?)) (hg : ws.all goodWord = true) : ∀ w ∈ ws, w ∈ pl_T := by
  intro w hw
  have h1 := List.all_eq_true.mp hg w hw
  rw [h] at hw
  obtain ⟨i, -, hi⟩ := List.mem_filterMap.mp hw
  exact pl_mem i hi h1
theorem pl_lays_in : ∀ (c : Nat) (r : vw_C), pl_cl[c]? = some r → ∀ w ∈ u_ws r.1 r.2.1 r.2.2, w ∈ pl_T := by
  intro c r h
  match c, h with
  | 0, h => cases h; exact pl_lays_of pl_lays_0 pl_layg_0
  | 1, h => cases h; exact pl_lays_of pl_lays_1 pl_layg_1
  | 2, h => cases h; exact pl_lays_of pl_lays_2 pl_layg_2
  | 3, h => cases h; exact pl_lays_of pl_lays_3 pl_layg_3
  | n + 4, h => simp [pl_cl] at h
/-- the static fields that the methods read: three arrays of the system's, two of Throwable's -/
def pl_Zs (G : pl_G) (A : Nat → Prop) (U : State) (H : Heap) : Prop :=
  va_Z "PageLayouter" "LOWEST_VALUES" "[I" (.ref (G.2.2.2 1)) A U H ∧ va_Z "PageLayouter" "HIGHEST_VALUES" "[I" (.ref (G.2.2.2 2)) A U H ∧ va_Z "PageLayouter" "FIRST_VALUES" "[I" (.ref (G.2.2.2 3)) A U H ∧
  vx_Zq Bundle.tN "UNASSIGNED_STACK" Bundle.steD A U H ∧ vx_Zq Bundle.tN "SUPPRESSED_SENTINEL" Bundle.listD A U H
theorem pl_Zs.moved {G : pl_G} {A : Nat → Prop} {u U : State} {H : Heap} (hv : u.vm.Alike U.vm) (h : pl_Zs G A u H) : pl_Zs G A U H := ⟨h.1.moved hv, h.2.1.moved hv, h.2.2.1.moved hv, h.2.2.2.1.moved hv, h.2.2.2.2.moved hv⟩
theorem pl_Zs.kept {G : pl_G} {A : Nat → Prop} {U : State} {H H1 : Heap} (h : pl_Zs G A U H) (hq : ∀ a : Nat, a < H.size → ¬ A a → H1[a]? = H[a]?) : pl_Zs G A U H1 := ⟨h.1.kept hq, h.2.1.kept hq, h.2.2.1.kept hq, h.2.2.2.1.kept hq, h.2.2.2.2.kept hq⟩
theorem pl_Zs.narrow {G : pl_G} {A B : Nat → Prop} {U : State} {H : Heap} (h : pl_Zs G A U H) (hAB : ∀ q, B q → A q) : pl_Zs G B U H := ⟨h.1.narrow hAB, h.2.1.narrow hAB, h.2.2.1.narrow hAB, h.2.2.2.1.narrow hAB, h.2.2.2.2.narrow hAB⟩
