/-! 02 The judgement pl_J and a row for each instruction -/
abbrev pl_X := Program × Launch × Env × Room × State × MethodId × Array Value × List Frame × Method × Code × (State → Prop)
abbrev pl_xR (X : pl_X) : Room := X.2.2.2.1
abbrev pl_xs (X : pl_X) : State := X.2.2.2.2.1
abbrev pl_xm (X : pl_X) : MethodId := X.2.2.2.2.2.1
abbrev pl_xa (X : pl_X) : Array Value := X.2.2.2.2.2.2.1
abbrev pl_xb (X : pl_X) : List Frame := X.2.2.2.2.2.2.2.1
abbrev pl_xt (X : pl_X) : Method := X.2.2.2.2.2.2.2.2.1
abbrev pl_xc (X : pl_X) : Code := X.2.2.2.2.2.2.2.2.2.1
abbrev pl_xQ (X : pl_X) : State → Prop := X.2.2.2.2.2.2.2.2.2.2
abbrev pl_WW (X : pl_X) (H : Heap) (locs : List Loc) (cells slots : Nat) (g : JFrame) : Prop :=
  W X.1 X.2.1 X.2.2.1 (pl_xR X) (pl_xs X) (pl_xm X) (pl_xa X) (pl_xb X) (pl_xt X) (pl_xc X) H locs cells slots (pl_xQ X) g
abbrev pl_Y : Type := pl_G × (Nat → Nat) × (Nat → Prop) × Bool × (Nat → Prop) × Nat × Nat × Nat × Nat
abbrev pl_fr (Y : pl_Y) : Nat → Prop := Y.2.2.2.2.1
abbrev pl_c0 (Y : pl_Y) : Nat := Y.2.2.2.2.2.1
abbrev pl_s0 (Y : pl_Y) : Nat := Y.2.2.2.2.2.2.1
abbrev pl_mc (Y : pl_Y) : Nat := Y.2.2.2.2.2.2.2.1
abbrev pl_ms (Y : pl_Y) : Nat := Y.2.2.2.2.2.2.2.2
def pl_Agr (Y : pl_Y) (ad : Nat → Nat) : Prop := (Y.2.2.2.1 = false → ad = Y.2.1) ∧ ∀ q, Y.2.2.1 q → ad q = Y.2.1 q
def pl_In (X : pl_X) (Y : pl_Y) (σ : pl_S) (L : List Value) (ad : Nat → Nat) (H : Heap) (locs : List Loc) (ls : Array Slot) : Prop :=
  pl_Agr Y ad ∧ pl_Rep Y.1 ad σ H ∧ ((pl_xs X).heap.size ≤ H.size ∧ ∀ a : Nat, a < (pl_xs X).heap.size → ¬ pl_fr Y a → H[a]? = (pl_xs X).heap[a]?) ∧ (∀ q ∈ locs, pl_fr Y q.base) ∧ (∀ q, pl_live σ q → (σ.1 q).1 ≠ 9 → pl_fr Y (ad q)) ∧
  pl_LR ad ls L (pl_xc X).maxLocals ∧ (∀ q, Y.2.2.1 q → pl_live σ q) ∧ (pl_c0 Y ≤ σ.2.2.1 ∧ σ.2.2.1 ≤ pl_c0 Y + pl_mc Y ∧ pl_s0 Y ≤ σ.2.2.2 ∧ σ.2.2.2 ≤ pl_s0 Y + pl_ms Y)
/-- every reference among the values is to a cell of the store -/
def pl_lvv (kd : Nat → Nat × Nat) : Value → Prop
  | .ref q => (kd q).1 ≠ 0
  | _ => True
def pl_lvl (kd : Nat → Nat × Nat) : List Value → Prop
  | [] => True
  | v :: l => pl_lvv kd v ∧ pl_lvl kd l
theorem pl_lv_iff {kd : Nat → Nat × Nat} {l : List Value} : pl_lvl kd l ↔ ∀ v ∈ l, pl_lvv kd v := by
  induction l with
  | nil => simp [pl_lvl]
  | cons v l ih => simp [pl_lvl, ih]
theorem pl_lv_at {kd : Nat → Nat × Nat} {l : List Value} (h : pl_lvl kd l) {i : Nat} {v : Value} (hi : l[i]? = some v) : pl_lvv kd v := pl_lv_iff.mp h v (List.mem_of_getElem? hi)
theorem pl_lv_set0 {kd : Nat → Nat × Nat} {l : List Value} (h : pl_lvl kd l) {v : Value} (hv : pl_lvv kd v) (i : Nat) : pl_lvl kd (l.set i v) := pl_lv_iff.mpr (fun w hw => by
  rcases List.mem_or_eq_of_mem_set hw with h1 | h1
  · exact pl_lv_iff.mp h w h1
  · rw [h1]; exact hv)
theorem pl_lv_un {kd : Nat → Nat × Nat} : pl_lvv kd pl_un := trivial
theorem pl_lv_set {kd : Nat → Nat × Nat} {l : List Value} (h : pl_lvl kd l) {v : Value} (hv : pl_lvv kd v) {i : Nat} : pl_lvl kd (pl_set l i v) := by
  unfold pl_set
  cases i with
  | zero => exact pl_lv_set0 h hv 0
  | succ j =>
    simp only
    split
    · exact pl_lv_set0 (pl_lv_set0 h hv _) pl_lv_un _
    · exact pl_lv_set0 h hv _
theorem pl_lv_set2 {kd : Nat → Nat × Nat} {l : List Value} (h : pl_lvl kd l) {v : Value} (hv : pl_lvv kd v) {i : Nat} : pl_lvl kd (pl_set2 l i v) := pl_lv_set0 (pl_lv_set h hv) pl_lv_un _
theorem pl_lv_mono {kd kd' : Nat → Nat × Nat} (hk : ∀ q, (kd q).1 ≠ 0 → (kd' q).1 ≠ 0) {l : List Value} (h : pl_lvl kd l) : pl_lvl kd' l := pl_lv_iff.mpr (fun v hv => by
  have h1 := pl_lv_iff.mp h v hv
  cases v with
  | ref q => exact hk q h1
  | _ => trivial)
theorem pl_lv_app {kd : Nat → Nat × Nat} {a b : List Value} : pl_lvl kd (a ++ b) ↔ pl_lvl kd a ∧ pl_lvl kd b := by
  rw [pl_lv_iff, pl_lv_iff, pl_lv_iff]
  constructor
  · exact fun h => ⟨fun v hv => h v (List.mem_append_left _ hv), fun v hv => h v (List.mem_append_right _ hv)⟩
  · exact fun h v hv => (List.mem_append.mp hv).elim (h.1 v) (h.2 v)
theorem pl_lv_rev {kd : Nat → Nat × Nat} {a : List Value} : pl_lvl kd a.reverse ↔ pl_lvl kd a := by
  rw [pl_lv_iff, pl_lv_iff]
  exact ⟨fun h v hv => h v (List.mem_reverse.mpr hv), fun h v hv => h v (List.mem_reverse.mp hv)⟩
def pl_J (X : pl_X) (Y : pl_Y) (σ : pl_S) (pc : Nat) (L st : List Value) : Prop :=
  ∀ (ad : Nat → Nat) (H : Heap) (locs : List Loc) (ls : Array Slot), pl_In X Y σ L ad H locs ls → pl_lvl σ.1 L → pl_lvl σ.1 st →
    pl_WW X H locs (σ.2.2.1 - pl_c0 Y) (σ.2.2.2 - pl_s0 Y) (F0 (pl_xm X) pc ls (st.map (pl_re ad)))
/-- what a method's rows stand on: the machine, its bytes, whose it is, the words of the tables, the kinds of cell, its room -/
def pl_Fx (X : pl_X) (Y : pl_Y) (own : String) (cc : ByteArray) : Prop :=
  X.1.tables.exec = Jvm.exec ∧ (pl_xc X).code = cc ∧ (pl_xs X).vm.findClass own = some (pl_xm X).cls ∧ (∀ w ∈ pl_T, w.before (pl_xa X) (pl_xs X) = true) ∧
  pl_KK Y.1 (pl_xs X) ∧ (pl_xt X).locks = false ∧ (pl_xR X).cells = pl_mc Y ∧ (pl_xR X).slots = pl_ms Y ∧ (∀ a, (pl_xs X).heap.size ≤ a → pl_fr Y a) ∧ pl_Zs Y.1 (pl_fr Y) (pl_xs X) (pl_xs X).heap
section Rows
variable {X : pl_X} {Y : pl_Y} {own : String} {cc : ByteArray} {σ : pl_S} {pc : Nat} {L st : List Value}
theorem pl_In.get {ad : Nat → Nat} {H : Heap} {locs : List Loc} {ls : Array Slot} (h : pl_In X Y σ L ad H locs ls) {i : Nat} {v : Value} (hi : L[i]? = some v) (hu : pl_isU v = false) : ls[i]? = some (.val (pl_re ad v)) := h.2.2.2.2.2.1.2.2 i v hi hu
theorem pl_In.S {ad : Nat → Nat} {H : Heap} {locs : List Loc} {ls : Array Slot} (h : pl_In X Y σ L ad H locs ls) : va_S (pl_fr Y) (pl_xs X).heap H locs := ⟨h.2.2.1.1, h.2.2.1.2, h.2.2.2.1⟩
theorem pl_In.setL {ad : Nat → Nat} {H : Heap} {locs : List Loc} {ls ls' : Array Slot} {L' : List Value} (h : pl_In X Y σ L ad H locs ls) (h' : pl_LR ad ls' L' (pl_xc X).maxLocals) : pl_In X Y σ L' ad H locs ls' :=
  ⟨h.1, h.2.1, h.2.2.1, h.2.2.2.1, h.2.2.2.2.1, h', h.2.2.2.2.2.2⟩
-- constants
theorem j_iconst (F : pl_Fx X Y own cc) {n : Int} {v : Int32} (hd : decode cc pc = .ok (.iconst n, 1)) (hv : Int32.ofInt n = v) (k : pl_J X Y σ (pc + 1) L (.int v :: st)) : pl_J X Y σ pc L st :=
  fun ad H locs ls h hL hs => lv_iconst F.1 F.2.1 hd hv (k ad H locs ls h hL ⟨trivial, hs⟩)
theorem j_bipush (F : pl_Fx X Y own cc) {n : Int} {v : Int32} (hd : decode cc pc = .ok (.bipush n, 2)) (hv : (Int8.ofInt n).toInt32 = v) (k : pl_J X Y σ (pc + 2) L (.int v :: st)) : pl_J X Y σ pc L st :=
  fun ad H locs ls h hL hs => lv_bipush F.1 F.2.1 hd hv (k ad H locs ls h hL ⟨trivial, hs⟩)
theorem j_sipush (F : pl_Fx X Y own cc) {n : Int} {v : Int32} (hd : decode cc pc = .ok (.sipush n, 3)) (hv : (Int16.ofInt n).toInt32 = v) (k : pl_J X Y σ (pc + 3) L (.int v :: st)) : pl_J X Y σ pc L st :=
  fun ad H locs ls h hL hs => lv_sipush F.1 F.2.1 hd hv (k ad H locs ls h hL ⟨trivial, hs⟩)
theorem j_lconst (F : pl_Fx X Y own cc) {n : Fin 2} {v : Int64} (hd : decode cc pc = .ok (.lconst n, 1)) (hv : Int64.ofNat (n : Nat) = v) (k : pl_J X Y σ (pc + 1) L (.long v :: st)) : pl_J X Y σ pc L st :=
  fun ad H locs ls h hL hs => lv_lconst F.1 F.2.1 hd hv (k ad H locs ls h hL ⟨trivial, hs⟩)
theorem j_null (F : pl_Fx X Y own cc) (hd : decode cc pc = .ok (.aconst_null, 1)) (k : pl_J X Y σ (pc + 1) L (.null :: st)) : pl_J X Y σ pc L st :=
  fun ad H locs ls h hL hs => lv_null F.1 F.2.1 hd (k ad H locs ls h hL ⟨trivial, hs⟩)
theorem j_ldc (F : pl_Fx X Y own cc) {idx : Nat} {v : Int32} (hw : Cond.constant own idx v ∈ pl_T) (hd : decode cc pc = .ok (.ldc idx, 2)) (k : pl_J X Y σ (pc + 2) L (.int v :: st)) : pl_J X Y σ pc L st :=
  fun ad H locs ls h hL hs => lv_ldc F.1 F.2.1 F.2.2.1 (F.2.2.2.1 _ hw) hd (k ad H locs ls h hL ⟨trivial, hs⟩)
-- loads
theorem j_iload_n (F : pl_Fx X Y own cc) {k : Fin 4} {i : Nat} {x : Int32} (hd : decode cc pc = .ok (.iload_n k, 1)) (hi : (k : Nat) = i) (hl : L[i]? = some (.int x)) (kk : pl_J X Y σ (pc + 1) L (.int x :: st)) : pl_J X Y σ pc L st :=
  fun ad H locs ls h hL hs => lv_iload_n F.1 F.2.1 hd hi (h.get hl rfl) (kk ad H locs ls h hL ⟨trivial, hs⟩)
theorem j_iload (F : pl_Fx X Y own cc) {i : Nat} {x : Int32} (hd : decode cc pc = .ok (.iload i, 2)) (hl : L[i]? = some (.int x)) (kk : pl_J X Y σ (pc + 2) L (.int x :: st)) : pl_J X Y σ pc L st :=
  fun ad H locs ls h hL hs => lv_iload F.1 F.2.1 hd (h.get hl rfl) (kk ad H locs ls h hL ⟨trivial, hs⟩)
theorem j_lload_n (F : pl_Fx X Y own cc) {k : Fin 4} {i : Nat} {x : Int64} (hd : decode cc pc = .ok (.lload_n k, 1)) (hi : (k : Nat) = i) (hl : L[i]? = some (.long x)) (kk : pl_J X Y σ (pc + 1) L (.long x :: st)) : pl_J X Y σ pc L st :=
  fun ad H locs ls h hL hs => lv_lload_n F.1 F.2.1 hd hi (h.get hl rfl) (kk ad H locs ls h hL ⟨trivial, hs⟩)
theorem j_lload (F : pl_Fx X Y own cc) {i : Nat} {x : Int64} (hd : decode cc pc = .ok (.lload i, 2)) (hl : L[i]? = some (.long x)) (kk : pl_J X Y σ (pc + 2) L (.long x :: st)) : pl_J X Y σ pc L st :=
  fun ad H locs ls h hL hs => lv_lload F.1 F.2.1 hd (h.get hl rfl) (kk ad H locs ls h hL ⟨trivial, hs⟩)
theorem j_aload_n (F : pl_Fx X Y own cc) {k : Fin 4} {i : Nat} {v : Value} (hd : decode cc pc = .ok (.aload_n k, 1)) (hi : (k : Nat) = i) (hl : L[i]? = some v) (hv : v.isRef = true) (kk : pl_J X Y σ (pc + 1) L (v :: st)) : pl_J X Y σ pc L st := by
  intro ad H locs ls h hL hs
  cases v with
  | ref q => exact lv_aload_n F.1 F.2.1 hd hi (h.get hl rfl) (kk ad H locs ls h hL ⟨pl_lv_at hL hl, hs⟩)
  | null => exact lv_aload_nN F.1 F.2.1 hd hi (h.get hl rfl) (kk ad H locs ls h hL ⟨pl_lv_at hL hl, hs⟩)
  | _ => simp [Value.isRef] at hv
theorem j_aload (F : pl_Fx X Y own cc) {i : Nat} {v : Value} (hd : decode cc pc = .ok (.aload i, 2)) (hl : L[i]? = some v) (hv : v.isRef = true) (kk : pl_J X Y σ (pc + 2) L (v :: st)) : pl_J X Y σ pc L st := by
  intro ad H locs ls h hL hs
  cases v with
  | ref q => exact lv_aload F.1 F.2.1 hd (h.get hl rfl) (kk ad H locs ls h hL ⟨pl_lv_at hL hl, hs⟩)
  | null => exact lv_aloadN F.1 F.2.1 hd (h.get hl rfl) (kk ad H locs ls h hL ⟨pl_lv_at hL hl, hs⟩)
  | _ => simp [Value.isRef] at hv
-- stores
theorem j_istore_n (F : pl_Fx X Y own cc) {k : Fin 4} {i : Nat} {x : Int32} (hd : decode cc pc = .ok (.istore_n k, 1)) (hi : (k : Nat) = i) (hn : i < (pl_xc X).maxLocals) (kk : pl_J X Y σ (pc + 1) (pl_set L i (.int x)) st) : pl_J X Y σ pc L (.int x :: st) :=
  fun ad H locs ls h hL hs => lv_istore_n F.1 F.2.1 hd hi h.2.2.2.2.2.1.has hn rfl (fun ls' h' => kk ad H locs ls' (h.setL (pl_LR.set (v := .int x) h')) (pl_lv_set hL hs.1) hs.2)
theorem j_istore (F : pl_Fx X Y own cc) {i : Nat} {x : Int32} (hd : decode cc pc = .ok (.istore i, 2)) (hn : i < (pl_xc X).maxLocals) (kk : pl_J X Y σ (pc + 2) (pl_set L i (.int x)) st) : pl_J X Y σ pc L (.int x :: st) :=
  fun ad H locs ls h hL hs => lv_istore F.1 F.2.1 hd h.2.2.2.2.2.1.has hn rfl (fun ls' h' => kk ad H locs ls' (h.setL (pl_LR.set (v := .int x) h')) (pl_lv_set hL hs.1) hs.2)
theorem j_lstore_n (F : pl_Fx X Y own cc) {k : Fin 4} {i : Nat} {x : Int64} (hd : decode cc pc = .ok (.lstore_n k, 1)) (hi : (k : Nat) = i) (hn : i + 1 < (pl_xc X).maxLocals) (kk : pl_J X Y σ (pc + 1) (pl_set2 L i (.long x)) st) : pl_J X Y σ pc L (.long x :: st) :=
  fun ad H locs ls h hL hs => lv_lstore_n F.1 F.2.1 hd hi h.2.2.2.2.2.1.has hn rfl (fun ls' h' => kk ad H locs ls' (h.setL (pl_LR.set2 (v := .long x) h')) (pl_lv_set2 hL hs.1) hs.2)
theorem j_lstore (F : pl_Fx X Y own cc) {i : Nat} {x : Int64} (hd : decode cc pc = .ok (.lstore i, 2)) (hn : i + 1 < (pl_xc X).maxLocals) (kk : pl_J X Y σ (pc + 2) (pl_set2 L i (.long x)) st) : pl_J X Y σ pc L (.long x :: st) :=
  fun ad H locs ls h hL hs => lv_lstore F.1 F.2.1 hd h.2.2.2.2.2.1.has hn rfl (fun ls' h' => kk ad H locs ls' (h.setL (pl_LR.set2 (v := .long x) h')) (pl_lv_set2 hL hs.1) hs.2)
theorem j_astore_n (F : pl_Fx X Y own cc) {k : Fin 4} {i : Nat} {v : Value} (hd : decode cc pc = .ok (.astore_n k, 1)) (hi : (k : Nat) = i) (hn : i < (pl_xc X).maxLocals) (hv : v.isRef = true) (kk : pl_J X Y σ (pc + 1) (pl_set L i v) st) : pl_J X Y σ pc L (v :: st) := by
  intro ad H locs ls h hL hs
  cases v with
  | ref q => exact lv_astore_n F.1 F.2.1 hd hi h.2.2.2.2.2.1.has hn rfl (fun ls' h' => kk ad H locs ls' (h.setL (pl_LR.set (v := .ref q) h')) (pl_lv_set hL hs.1) hs.2)
  | null => exact lv_astore_nN F.1 F.2.1 hd hi h.2.2.2.2.2.1.has hn rfl (fun ls' h' => kk ad H locs ls' (h.setL (pl_LR.set (v := .null) h')) (pl_lv_set hL hs.1) hs.2)
  | _ => simp [Value.isRef] at hv
theorem j_astore (F : pl_Fx X Y own cc) {i : Nat} {v : Value} (hd : decode cc pc = .ok (.astore i, 2)) (hn : i < (pl_xc X).maxLocals) (hv : v.isRef = true) (kk : pl_J X Y σ (pc + 2) (pl_set L i v) st) : pl_J X Y σ pc L (v :: st) := by
  intro ad H locs ls h hL hs
  cases v with
  | ref q => exact lv_astore F.1 F.2.1 hd h.2.2.2.2.2.1.has hn rfl (fun ls' h' => kk ad H locs ls' (h.setL (pl_LR.set (v := .ref q) h')) (pl_lv_set hL hs.1) hs.2)
  | null => exact lv_astoreN F.1 F.2.1 hd h.2.2.2.2.2.1.has hn rfl (fun ls' h' => kk ad H locs ls' (h.setL (pl_LR.set (v := .null) h')) (pl_lv_set hL hs.1) hs.2)
  | _ => simp [Value.isRef] at hv
theorem j_iinc (F : pl_Fx X Y own cc) {i : Nat} {n : Int} {x v : Int32} (hd : decode cc pc = .ok (.iinc i n, 3)) (hl : L[i]? = some (.int x)) (hv : x + Int32.ofInt n = v) (hn : i < (pl_xc X).maxLocals) (kk : pl_J X Y σ (pc + 3) (pl_set L i (.int v)) st) : pl_J X Y σ pc L st := by
  intro ad H locs ls h hL hs
  have hm : (i, Value.int x) ∈ pl_al ad L := pl_al_mem.mpr ⟨.int x, hl, rfl, rfl⟩
  obtain ⟨k, hk⟩ := List.getElem?_of_mem hm
  exact lv_iinc F.1 F.2.1 hd h.2.2.2.2.2.1.has hk hv hn rfl (fun ls' h' => kk ad H locs ls' (h.setL (pl_LR.set (v := .int v) h')) (pl_lv_set (v := .int v) hL trivial) hs)
-- arithmetic
theorem j_iadd (F : pl_Fx X Y own cc) {x y : Int32} (hd : decode cc pc = .ok (.iadd, 1)) (k : pl_J X Y σ (pc + 1) L (.int (x + y) :: st)) : pl_J X Y σ pc L (.int y :: .int x :: st) :=
  fun ad H locs ls h hL hs => lv_iadd F.1 F.2.1 hd (k ad H locs ls h hL ⟨trivial, hs.2.2⟩)
theorem j_isub (F : pl_Fx X Y own cc) {x y : Int32} (hd : decode cc pc = .ok (.isub, 1)) (k : pl_J X Y σ (pc + 1) L (.int (x - y) :: st)) : pl_J X Y σ pc L (.int y :: .int x :: st) :=
  fun ad H locs ls h hL hs => lv_isub F.1 F.2.1 hd (k ad H locs ls h hL ⟨trivial, hs.2.2⟩)
theorem j_imul (F : pl_Fx X Y own cc) {x y : Int32} (hd : decode cc pc = .ok (.imul, 1)) (k : pl_J X Y σ (pc + 1) L (.int (x * y) :: st)) : pl_J X Y σ pc L (.int y :: .int x :: st) :=
  fun ad H locs ls h hL hs => lv_imul F.1 F.2.1 hd (k ad H locs ls h hL ⟨trivial, hs.2.2⟩)
theorem j_iand (F : pl_Fx X Y own cc) {x y : Int32} (hd : decode cc pc = .ok (.iand, 1)) (k : pl_J X Y σ (pc + 1) L (.int (x &&& y) :: st)) : pl_J X Y σ pc L (.int y :: .int x :: st) :=
  fun ad H locs ls h hL hs => lv_iand F.1 F.2.1 hd (k ad H locs ls h hL ⟨trivial, hs.2.2⟩)
theorem j_idiv (F : pl_Fx X Y own cc) {x y : Int32} (hd : decode cc pc = .ok (.idiv, 1)) (hne : ¬ y = 0) (k : pl_J X Y σ (pc + 1) L (.int (x / y) :: st)) : pl_J X Y σ pc L (.int y :: .int x :: st) :=
  fun ad H locs ls h hL hs => lv_idiv F.1 F.2.1 hd hne (k ad H locs ls h hL ⟨trivial, hs.2.2⟩)
theorem j_ineg (F : pl_Fx X Y own cc) {x : Int32} (hd : decode cc pc = .ok (.ineg, 1)) (k : pl_J X Y σ (pc + 1) L (.int (-x) :: st)) : pl_J X Y σ pc L (.int x :: st) :=
  fun ad H locs ls h hL hs => lv_ineg F.1 F.2.1 hd (k ad H locs ls h hL ⟨trivial, hs.2⟩)
theorem j_ladd (F : pl_Fx X Y own cc) {x y : Int64} (hd : decode cc pc = .ok (.ladd, 1)) (k : pl_J X Y σ (pc + 1) L (.long (x + y) :: st)) : pl_J X Y σ pc L (.long y :: .long x :: st) :=
  fun ad H locs ls h hL hs => lv_ladd F.1 F.2.1 hd (k ad H locs ls h hL ⟨trivial, hs.2.2⟩)
theorem j_lsub (F : pl_Fx X Y own cc) {x y : Int64} (hd : decode cc pc = .ok (.lsub, 1)) (k : pl_J X Y σ (pc + 1) L (.long (x - y) :: st)) : pl_J X Y σ pc L (.long y :: .long x :: st) :=
  fun ad H locs ls h hL hs => lv_lsub F.1 F.2.1 hd (k ad H locs ls h hL ⟨trivial, hs.2.2⟩)
theorem j_lmul (F : pl_Fx X Y own cc) {x y : Int64} (hd : decode cc pc = .ok (.lmul, 1)) (k : pl_J X Y σ (pc + 1) L (.long (x * y) :: st)) : pl_J X Y σ pc L (.long y :: .long x :: st) :=
  fun ad H locs ls h hL hs => lv_lmul F.1 F.2.1 hd (k ad H locs ls h hL ⟨trivial, hs.2.2⟩)
theorem j_ldiv (F : pl_Fx X Y own cc) {x y : Int64} (hd : decode cc pc = .ok (.ldiv, 1)) (hne : ¬ y = 0) (k : pl_J X Y σ (pc + 1) L (.long (x / y) :: st)) : pl_J X Y σ pc L (.long y :: .long x :: st) :=
  fun ad H locs ls h hL hs => lv_ldiv F.1 F.2.1 hd hne (k ad H locs ls h hL ⟨trivial, hs.2.2⟩)
theorem j_lneg (F : pl_Fx X Y own cc) {x : Int64} (hd : decode cc pc = .ok (.lneg, 1)) (k : pl_J X Y σ (pc + 1) L (.long (-x) :: st)) : pl_J X Y σ pc L (.long x :: st) :=
  fun ad H locs ls h hL hs => lv_lneg F.1 F.2.1 hd (k ad H locs ls h hL ⟨trivial, hs.2⟩)
theorem j_lcmp (F : pl_Fx X Y own cc) {x y : Int64} (hd : decode cc pc = .ok (.lcmp, 1)) (k : pl_J X Y σ (pc + 1) L (.int (lg_cmp x y) :: st)) : pl_J X Y σ pc L (.long y :: .long x :: st) :=
  fun ad H locs ls h hL hs => W.lcmp F.1 F.2.1 hd (k ad H locs ls h hL ⟨trivial, hs.2.2⟩)
theorem j_i2l (F : pl_Fx X Y own cc) {x : Int32} (hd : decode cc pc = .ok (.i2l, 1)) (k : pl_J X Y σ (pc + 1) L (.long x.toInt64 :: st)) : pl_J X Y σ pc L (.int x :: st) :=
  fun ad H locs ls h hL hs => lv_i2l F.1 F.2.1 hd rfl (k ad H locs ls h hL ⟨trivial, hs.2⟩)
theorem j_l2i (F : pl_Fx X Y own cc) {x : Int64} (hd : decode cc pc = .ok (.l2i, 1)) (k : pl_J X Y σ (pc + 1) L (.int x.toInt32 :: st)) : pl_J X Y σ pc L (.long x :: st) :=
  fun ad H locs ls h hL hs => lv_l2i F.1 F.2.1 hd rfl (k ad H locs ls h hL ⟨trivial, hs.2⟩)
-- the stack
theorem j_dup (F : pl_Fx X Y own cc) {v : Value} (hd : decode cc pc = .ok (.dup, 1)) (hv : v.category = 1) (k : pl_J X Y σ (pc + 1) L (v :: v :: st)) : pl_J X Y σ pc L (v :: st) :=
  fun ad H locs ls h hL hs => lv_dup F.1 F.2.1 hd (by rw [pl_re_cat]; exact hv) (k ad H locs ls h hL ⟨hs.1, hs⟩)
theorem j_pop (F : pl_Fx X Y own cc) {v : Value} (hd : decode cc pc = .ok (.pop, 1)) (hv : v.category = 1) (k : pl_J X Y σ (pc + 1) L st) : pl_J X Y σ pc L (v :: st) :=
  fun ad H locs ls h hL hs => lv_pop F.1 F.2.1 hd (by rw [pl_re_cat]; exact hv) (k ad H locs ls h hL hs.2)
theorem j_dup_x1 (F : pl_Fx X Y own cc) {v w : Value} (hd : decode cc pc = .ok (.dup_x1, 1)) (hv : v.category = 1) (hw : w.category = 1) (k : pl_J X Y σ (pc + 1) L (v :: w :: v :: st)) : pl_J X Y σ pc L (v :: w :: st) :=
  fun ad H locs ls h hL hs => lv_dup_x1 F.1 F.2.1 hd (by rw [pl_re_cat]; exact hv) (by rw [pl_re_cat]; exact hw) (k ad H locs ls h hL ⟨hs.1, hs.2.1, hs.1, hs.2.2⟩)
theorem j_dup2 (F : pl_Fx X Y own cc) {v w : Value} (hd : decode cc pc = .ok (.dup2, 1)) (hv : v.category = 1) (hw : w.category = 1) (k : pl_J X Y σ (pc + 1) L (v :: w :: v :: w :: st)) : pl_J X Y σ pc L (v :: w :: st) :=
  fun ad H locs ls h hL hs => lv_dup2_11 F.1 F.2.1 hd (by rw [pl_re_cat]; exact hv) (by rw [pl_re_cat]; exact hw) (k ad H locs ls h hL ⟨hs.1, hs.2.1, hs⟩)
-- jumps
theorem j_goto (F : pl_Fx X Y own cc) {off : Int} {tgt : Nat} (hd : decode cc pc = .ok (.goto off, 3)) (ht : (pc : Int) + off = (tgt : Int)) (k : pl_J X Y σ tgt L st) : pl_J X Y σ pc L st :=
  fun ad H locs ls h hL hs => lv_goto F.1 F.2.1 hd ht (k ad H locs ls h hL hs)
/-- the six comparisons of ints -/
def pl_h (o : ClassFile.Cond) (x y : Int32) : Bool := match o with
  | .eq => decide (x = y)
  | .ne => decide (¬ x = y)
  | .lt => decide (x < y)
  | .ge => decide (y ≤ x)
  | .gt => decide (y < x)
  | .le => decide (x ≤ y)
theorem j_icmp (F : pl_Fx X Y own cc) {o : ClassFile.Cond} {x y : Int32} {off : Int} {tgt : Nat} (hd : decode cc pc = .ok (.if_icmp o off, 3)) (ht : (pc : Int) + off = (tgt : Int))
    (kt : pl_h o x y = true → pl_J X Y σ tgt L st) (kf : pl_h o x y = false → pl_J X Y σ (pc + 3) L st) : pl_J X Y σ pc L (.int y :: .int x :: st) := by
  intro ad H locs ls h hL hs
  cases o with
  | eq => exact lv_icmp_eq F.1 F.2.1 hd ht (fun z => kt (by simp [pl_h, z]) ad H locs ls h hL hs.2.2) (fun z => kf (by simp [pl_h, z]) ad H locs ls h hL hs.2.2)
  | ne => exact lv_icmp_ne F.1 F.2.1 hd ht (fun z => kt (by simp [pl_h, z]) ad H locs ls h hL hs.2.2) (fun z => kf (by simp [pl_h, z]) ad H locs ls h hL hs.2.2)
  | lt => exact lv_icmp_lt F.1 F.2.1 hd ht (fun z => kt (by unfold pl_h; exact decide_eq_true z) ad H locs ls h hL hs.2.2) (fun z => kf (by unfold pl_h; exact decide_eq_false z) ad H locs ls h hL hs.2.2)
  | ge => exact lv_icmp_ge F.1 F.2.1 hd ht (fun z => kt (by unfold pl_h; exact decide_eq_true z) ad H locs ls h hL hs.2.2) (fun z => kf (by unfold pl_h; exact decide_eq_false z) ad H locs ls h hL hs.2.2)
  | gt => exact lv_icmp_gt F.1 F.2.1 hd ht (fun z => kt (by unfold pl_h; exact decide_eq_true z) ad H locs ls h hL hs.2.2) (fun z => kf (by unfold pl_h; exact decide_eq_false z) ad H locs ls h hL hs.2.2)
  | le => exact lv_icmp_le F.1 F.2.1 hd ht (fun z => kt (by unfold pl_h; exact decide_eq_true z) ad H locs ls h hL hs.2.2) (fun z => kf (by unfold pl_h; exact decide_eq_false z) ad H locs ls h hL hs.2.2)
theorem j_if (F : pl_Fx X Y own cc) {o : ClassFile.Cond} {x : Int32} {off : Int} {tgt : Nat} (hd : decode cc pc = .ok (.ifCond o off, 3)) (ht : (pc : Int) + off = (tgt : Int))
    (kt : pl_h o x 0 = true → pl_J X Y σ tgt L st) (kf : pl_h o x 0 = false → pl_J X Y σ (pc + 3) L st) : pl_J X Y σ pc L (.int x :: st) := by
  intro ad H locs ls h hL hs
  cases o with
  | eq => exact lv_if_eq F.1 F.2.1 hd ht (fun z => kt (by simp [pl_h, z]) ad H locs ls h hL hs.2) (fun z => kf (by simp [pl_h, z]) ad H locs ls h hL hs.2)
  | ne => exact lv_if_ne F.1 F.2.1 hd ht (fun z => kt (by simp [pl_h, z]) ad H locs ls h hL hs.2) (fun z => kf (by simp [pl_h, z]) ad H locs ls h hL hs.2)
  | lt => exact lv_if_lt F.1 F.2.1 hd ht (fun z => kt (by unfold pl_h; exact decide_eq_true z) ad H locs ls h hL hs.2) (fun z => kf (by unfold pl_h; exact decide_eq_false z) ad H locs ls h hL hs.2)
  | ge => exact lv_if_ge F.1 F.2.1 hd ht (fun z => kt (by unfold pl_h; exact decide_eq_true z) ad H locs ls h hL hs.2) (fun z => kf (by unfold pl_h; exact decide_eq_false z) ad H locs ls h hL hs.2)
  | gt => exact lv_if_gt F.1 F.2.1 hd ht (fun z => kt (by unfold pl_h; exact decide_eq_true z) ad H locs ls h hL hs.2) (fun z => kf (by unfold pl_h; exact decide_eq_false z) ad H locs ls h hL hs.2)
  | le => exact lv_if_le F.1 F.2.1 hd ht (fun z => kt (by unfold pl_h; exact decide_eq_true z) ad H locs ls h hL hs.2) (fun z => kf (by unfold pl_h; exact decide_eq_false z) ad H locs ls h hL hs.2)
def pl_isN (v : Value) : Bool := match v with
  | .null => true
  | _ => false
theorem j_ifnull (F : pl_Fx X Y own cc) {v : Value} {off : Int} {tgt : Nat} (hd : decode cc pc = .ok (.ifnull off, 3)) (ht : (pc : Int) + off = (tgt : Int)) (hv : v.isRef = true)
    (kt : pl_isN v = true → pl_J X Y σ tgt L st) (kf : pl_isN v = false → pl_J X Y σ (pc + 3) L st) : pl_J X Y σ pc L (v :: st) := by
  intro ad H locs ls h hL hs
  cases v with
  | ref q => exact lv_ifnull F.1 F.2.1 hd (kf rfl ad H locs ls h hL hs.2)
  | null => exact lv_ifnullN F.1 F.2.1 hd ht (kt rfl ad H locs ls h hL hs.2)
  | _ => simp [Value.isRef] at hv
theorem j_ifnonnull (F : pl_Fx X Y own cc) {v : Value} {off : Int} {tgt : Nat} (hd : decode cc pc = .ok (.ifnonnull off, 3)) (ht : (pc : Int) + off = (tgt : Int)) (hv : v.isRef = true)
    (kt : pl_isN v = false → pl_J X Y σ tgt L st) (kf : pl_isN v = true → pl_J X Y σ (pc + 3) L st) : pl_J X Y σ pc L (v :: st) := by
  intro ad H locs ls h hL hs
  cases v with
  | ref q => exact lv_ifnonnull F.1 F.2.1 hd ht (kt rfl ad H locs ls h hL hs.2)
  | null => exact lv_ifnonnullN F.1 F.2.1 hd (kf rfl ad H locs ls h hL hs.2)
  | _ => simp [Value.isRef] at hv
end Rows
