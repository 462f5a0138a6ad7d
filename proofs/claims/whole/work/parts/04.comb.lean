/-! 04 What a piece of code does, as a transformer of what is wanted behind it, and the judgements that bytes do it: pl_C (a value), pl_B (a condition that falls through or jumps), pl_D (a statement) -/
abbrev pl_E (α : Type) : Type := List Value → pl_S → (α → pl_S → Prop) → Prop
abbrev pl_ST : Type := List Value → pl_S → (List Value → pl_S → Prop) → Prop
def pl_wd (st : List Value) : Nat := (st.map fun v => v.category).sum
theorem pl_wd_cons (v : Value) (st : List Value) : pl_wd (v :: st) = v.category + pl_wd st := by simp [pl_wd]
def pl_C (X : pl_X) (Y : pl_Y) {α : Type} (em : α → Value) (n pc : Nat) (e : pl_E α) (pc' : Nat) : Prop :=
  ∀ (L st : List Value) (σ : pl_S) (K : α → pl_S → Prop), pl_wd st ≤ n → (∀ x σ', K x σ' → pl_J X Y σ' pc' L (em x :: st)) → e L σ K → pl_J X Y σ pc L st
def pl_B (X : pl_X) (Y : pl_Y) (n pc : Nat) (c : pl_E Bool) (pol : Bool) (pf pj : Nat) : Prop :=
  ∀ (L st : List Value) (σ : pl_S) (K : Bool → pl_S → Prop), pl_wd st ≤ n → (∀ σ', K pol σ' → pl_J X Y σ' pf L st) → (∀ σ', K (!pol) σ' → pl_J X Y σ' pj L st) → c L σ K → pl_J X Y σ pc L st
def pl_D (X : pl_X) (Y : pl_Y) (pc : Nat) (s : pl_ST) (pc' : Nat) : Prop :=
  ∀ (L : List Value) (σ : pl_S) (K : List Value → pl_S → Prop), (∀ L' σ', K L' σ' → pl_J X Y σ' pc' L' []) → s L σ K → pl_J X Y σ pc L []
-- values
def e_int (v : Int32) : pl_E Int32 := fun _ σ K => K v σ
def e_long (v : Int64) : pl_E Int64 := fun _ σ K => K v σ
def e_null : pl_E Value := fun _ σ K => K .null σ
def e_loc (i : Nat) : pl_E Int32 := fun L σ K => ∃ x, L[i]? = some (.int x) ∧ K x σ
def e_locl (i : Nat) : pl_E Int64 := fun L σ K => ∃ x, L[i]? = some (.long x) ∧ K x σ
def e_locr (i : Nat) : pl_E Value := fun L σ K => ∃ v, L[i]? = some v ∧ v.isRef = true ∧ K v σ
def e_un {α β : Type} (f : α → β) (a : pl_E α) : pl_E β := fun L σ K => a L σ (fun x σ1 => K (f x) σ1)
def e_bin {α β γ : Type} (f : α → β → γ) (a : pl_E α) (b : pl_E β) : pl_E γ := fun L σ K => a L σ (fun x σ1 => b L σ1 (fun y σ2 => K (f x y) σ2))
def e_div (a b : pl_E Int32) : pl_E Int32 := fun L σ K => a L σ (fun x σ1 => b L σ1 (fun y σ2 => ¬ y = 0 ∧ K (x / y) σ2))
def e_ldiv (a b : pl_E Int64) : pl_E Int64 := fun L σ K => a L σ (fun x σ1 => b L σ1 (fun y σ2 => ¬ y = 0 ∧ K (x / y) σ2))
def e_geti (c k : Nat) (o : pl_E Value) : pl_E Int32 := fun L σ K => o L σ (fun v σ1 => ∃ q n, v = .ref q ∧ σ1.1 q = (c + 5, n) ∧ K (σ1.2.1 q k) σ1)
def e_getr (c k : Nat) (o : pl_E Value) : pl_E Value := fun L σ K => o L σ (fun v σ1 => ∃ q n, v = .ref q ∧ σ1.1 q = (c + 5, n) ∧ K (pl_rv (σ1.2.1 q k)) σ1)
def e_ald (t : Nat) (a : pl_E Value) (i : pl_E Int32) : pl_E Int32 := fun L σ K => a L σ (fun v σ1 => i L σ1 (fun x σ2 => ∃ q n, v = .ref q ∧ σ2.1 q = (t, n) ∧ pl_in x n ∧ K (σ2.2.1 q x.toNatClampNeg) σ2))
def e_rald (a : pl_E Value) (i : pl_E Int32) : pl_E Int32 := fun L σ K => a L σ (fun v σ1 => i L σ1 (fun x σ2 => ∃ q n, v = .ref q ∧ σ2.1 q = (9, n) ∧ q < 4 ∧ pl_in x n ∧ K (σ2.2.1 q x.toNatClampNeg) σ2))
def e_lald (a : pl_E Value) (i : pl_E Int32) : pl_E Int64 := fun L σ K => a L σ (fun v σ1 => i L σ1 (fun x σ2 => ∃ q n, v = .ref q ∧ σ2.1 q = (3, n) ∧ pl_in x n ∧ K (σ2.2.1 q x.toNatClampNeg).toInt64 σ2))
def e_aald (a : pl_E Value) (i : pl_E Int32) : pl_E Value := fun L σ K => a L σ (fun v σ1 => i L σ1 (fun x σ2 => ∃ q n, v = .ref q ∧ σ2.1 q = (4, n) ∧ pl_in x n ∧ K (pl_rv (σ2.2.1 q x.toNatClampNeg)) σ2))
def e_rlen (a : pl_E Value) : pl_E Int32 := fun L σ K => a L σ (fun v σ1 => ∃ q n, v = .ref q ∧ σ1.1 q = (9, n) ∧ q < 4 ∧ K (Int32.ofNat n) σ1)
def e_if {α : Type} (c : pl_E Bool) (a b : pl_E α) : pl_E α := fun L σ K => c L σ (fun x σ1 => if x = true then a L σ1 K else b L σ1 K)
-- conditions
def b_cmp (o : ClassFile.Cond) (a b : pl_E Int32) : pl_E Bool := fun L σ K => a L σ (fun x σ1 => b L σ1 (fun y σ2 => K (pl_h o x y) σ2))
def b_zero (o : ClassFile.Cond) (a : pl_E Int32) : pl_E Bool := fun L σ K => a L σ (fun x σ1 => K (pl_h o x 0) σ1)
def b_lcmp (o : ClassFile.Cond) (a b : pl_E Int64) : pl_E Bool := fun L σ K => a L σ (fun x σ1 => b L σ1 (fun y σ2 => K (pl_h o (lg_cmp x y) 0) σ2))
def b_null (a : pl_E Value) : pl_E Bool := fun L σ K => a L σ (fun v σ1 => v.isRef = true ∧ K (pl_isN v) σ1)
def b_nn (a : pl_E Value) : pl_E Bool := fun L σ K => a L σ (fun v σ1 => v.isRef = true ∧ K (!pl_isN v) σ1)
def b_and (a b : pl_E Bool) : pl_E Bool := fun L σ K => a L σ (fun x σ1 => if x = true then b L σ1 K else K false σ1)
def b_or (a b : pl_E Bool) : pl_E Bool := fun L σ K => a L σ (fun x σ1 => if x = true then K true σ1 else b L σ1 K)
def b_not (a : pl_E Bool) : pl_E Bool := fun L σ K => a L σ (fun x σ1 => K (!x) σ1)
-- statements
def s_skip : pl_ST := fun L σ K => K L σ
def s_seq (a b : pl_ST) : pl_ST := fun L σ K => a L σ (fun L1 σ1 => b L1 σ1 K)
def s_seti (i : Nat) (e : pl_E Int32) : pl_ST := fun L σ K => e L σ (fun x σ1 => K (pl_set L i (.int x)) σ1)
def s_setl (i : Nat) (e : pl_E Int64) : pl_ST := fun L σ K => e L σ (fun x σ1 => K (pl_set2 L i (.long x)) σ1)
def s_setr (i : Nat) (e : pl_E Value) : pl_ST := fun L σ K => e L σ (fun v σ1 => v.isRef = true ∧ K (pl_set L i v) σ1)
def s_inc (i : Nat) (n : Int32) : pl_ST := fun L σ K => ∃ x, L[i]? = some (.int x) ∧ K (pl_set L i (.int (x + n))) σ
def s_puti (c k : Nat) (o : pl_E Value) (e : pl_E Int32) : pl_ST := fun L σ K => o L σ (fun v σ1 => e L σ1 (fun x σ2 => ∃ q n, v = .ref q ∧ σ2.1 q = (c + 5, n) ∧ K L (pl_put σ2 q k x)))
def s_putz (c k : Nat) (o : pl_E Value) (e : pl_E Int32) : pl_ST := fun L σ K => o L σ (fun v σ1 => e L σ1 (fun x σ2 => ∃ q n, v = .ref q ∧ σ2.1 q = (c + 5, n) ∧ (x = 0 ∨ x = 1) ∧ K L (pl_put σ2 q k x)))
def s_putr (c k : Nat) (o e : pl_E Value) : pl_ST := fun L σ K => o L σ (fun v σ1 => e L σ1 (fun w σ2 => ∃ q n x, v = .ref q ∧ σ2.1 q = (c + 5, n) ∧ w = pl_rv x ∧ pl_ok σ2 x ∧ K L (pl_put σ2 q k x)))
def s_updi (c k : Nat) (f : Int32 → Int32 → Int32) (o : pl_E Value) (e : pl_E Int32) : pl_ST := fun L σ K => o L σ (fun v σ1 => ∃ q n, v = .ref q ∧ σ1.1 q = (c + 5, n) ∧ e L σ1 (fun y σ2 => σ2.1 q = (c + 5, n) ∧ K L (pl_put σ2 q k (f (σ1.2.1 q k) y))))
def s_iast (a : pl_E Value) (i e : pl_E Int32) : pl_ST := fun L σ K => a L σ (fun v σ1 => i L σ1 (fun j σ2 => e L σ2 (fun x σ3 => ∃ q n, v = .ref q ∧ σ3.1 q = (1, n) ∧ pl_in j n ∧ K L (pl_put σ3 q j.toNatClampNeg x))))
def s_zast (a : pl_E Value) (i e : pl_E Int32) : pl_ST := fun L σ K => a L σ (fun v σ1 => i L σ1 (fun j σ2 => e L σ2 (fun x σ3 => ∃ q n, v = .ref q ∧ σ3.1 q = (2, n) ∧ pl_in j n ∧ (x = 0 ∨ x = 1) ∧ K L (pl_put σ3 q j.toNatClampNeg x))))
def s_last (a : pl_E Value) (i e : pl_E Int32) : pl_ST := fun L σ K => a L σ (fun v σ1 => i L σ1 (fun j σ2 => e L σ2 (fun x σ3 => ∃ q n, v = .ref q ∧ σ3.1 q = (3, n) ∧ pl_in j n ∧ K L (pl_put σ3 q j.toNatClampNeg x))))
def s_aast (a : pl_E Value) (i : pl_E Int32) (e : pl_E Value) : pl_ST := fun L σ K => a L σ (fun v σ1 => i L σ1 (fun j σ2 => e L σ2 (fun w σ3 => ∃ q n x n', v = .ref q ∧ σ3.1 q = (4, n) ∧ pl_in j n ∧ w = pl_rv x ∧ x ≠ -1 ∧ σ3.1 x.toNatClampNeg = (6, n') ∧ K L (pl_put σ3 q j.toNatClampNeg x))))
def s_iupd (f : Int32 → Int32 → Int32) (a : pl_E Value) (i e : pl_E Int32) : pl_ST := fun L σ K => a L σ (fun v σ1 => i L σ1 (fun j σ2 => ∃ q n, v = .ref q ∧ σ2.1 q = (1, n) ∧ pl_in j n ∧ e L σ2 (fun y σ3 => σ3.1 q = (1, n) ∧ K L (pl_put σ3 q j.toNatClampNeg (f (σ2.2.1 q j.toNatClampNeg) y)))))
def s_if (c : pl_E Bool) (a : pl_ST) : pl_ST := fun L σ K => c L σ (fun x σ1 => if x = true then a L σ1 K else K L σ1)
def s_ife (c : pl_E Bool) (a b : pl_ST) : pl_ST := fun L σ K => c L σ (fun x σ1 => if x = true then a L σ1 K else b L σ1 K)
def s_while (c : pl_E Bool) (b : pl_ST) : pl_ST := fun L σ K => ∀ I : List Value → pl_S → Prop, (∀ L1 σ1, c L1 σ1 (fun x σ2 => if x = true then b L1 σ2 I else K L1 σ2) → I L1 σ1) → I L σ
def pl_fg (c k : Nat) (b : Bool) : Prop := c < 4 ∧ k < (pl_fl c).length ∧ pl_rt (c + 5) k = b
def pl_isZ : FieldType → Bool
  | .boolean => true
  | _ => false
def pl_fp (c k : Nat) (b z : Bool) : Prop := pl_fg c k b ∧ (pl_F c k).2.2.2 = false ∧ pl_isZ (pl_ty c k) = z
theorem pl_r_of {c : Nat} (h : c < 4) : ∃ r : vw_C, pl_cl[c]? = some r ∧ r.2.1 = pl_F c ∧ r.2.2 = (pl_fl c).length := by
  match c, h with
  | 0, _ => exact ⟨_, rfl, rfl, rfl⟩
  | 1, _ => exact ⟨_, rfl, rfl, rfl⟩
  | 2, _ => exact ⟨_, rfl, rfl, rfl⟩
  | 3, _ => exact ⟨_, rfl, rfl, rfl⟩
section Comb
variable {X : pl_X} {Y : pl_Y} {own : String} {cc : ByteArray} {n pc p1 p2 p3 p4 pf pj : Nat}
theorem c_iconst (F : pl_Fx X Y own cc) {z : Int} {v : Int32} (hd : decode cc pc = .ok (.iconst z, 1)) (hv : Int32.ofInt z = v) : pl_C X Y Value.int n pc (e_int v) (pc + 1) := fun _ _ _ _ _ hk h => j_iconst F hd hv (hk _ _ h)
theorem c_bipush (F : pl_Fx X Y own cc) {z : Int} {v : Int32} (hd : decode cc pc = .ok (.bipush z, 2)) (hv : (Int8.ofInt z).toInt32 = v) : pl_C X Y Value.int n pc (e_int v) (pc + 2) := fun _ _ _ _ _ hk h => j_bipush F hd hv (hk _ _ h)
theorem c_sipush (F : pl_Fx X Y own cc) {z : Int} {v : Int32} (hd : decode cc pc = .ok (.sipush z, 3)) (hv : (Int16.ofInt z).toInt32 = v) : pl_C X Y Value.int n pc (e_int v) (pc + 3) := fun _ _ _ _ _ hk h => j_sipush F hd hv (hk _ _ h)
theorem c_ldc (F : pl_Fx X Y own cc) {idx : Nat} {v : Int32} (hw : Cond.constant own idx v ∈ pl_T) (hd : decode cc pc = .ok (.ldc idx, 2)) : pl_C X Y Value.int n pc (e_int v) (pc + 2) := fun _ _ _ _ _ hk h => j_ldc F hw hd (hk _ _ h)
theorem c_lconst (F : pl_Fx X Y own cc) {z : Fin 2} {v : Int64} (hd : decode cc pc = .ok (.lconst z, 1)) (hv : Int64.ofNat (z : Nat) = v) : pl_C X Y Value.long n pc (e_long v) (pc + 1) := fun _ _ _ _ _ hk h => j_lconst F hd hv (hk _ _ h)
theorem c_null (F : pl_Fx X Y own cc) (hd : decode cc pc = .ok (.aconst_null, 1)) : pl_C X Y id n pc e_null (pc + 1) := fun _ _ _ _ _ hk h => j_null F hd (hk _ _ h)
theorem c_iload_n (F : pl_Fx X Y own cc) {k : Fin 4} {i : Nat} (hd : decode cc pc = .ok (.iload_n k, 1)) (hi : (k : Nat) = i) : pl_C X Y Value.int n pc (e_loc i) (pc + 1) := fun _ _ _ _ _ hk ⟨_, h1, h2⟩ => j_iload_n F hd hi h1 (hk _ _ h2)
theorem c_iload (F : pl_Fx X Y own cc) {i : Nat} (hd : decode cc pc = .ok (.iload i, 2)) : pl_C X Y Value.int n pc (e_loc i) (pc + 2) := fun _ _ _ _ _ hk ⟨_, h1, h2⟩ => j_iload F hd h1 (hk _ _ h2)
theorem c_lload_n (F : pl_Fx X Y own cc) {k : Fin 4} {i : Nat} (hd : decode cc pc = .ok (.lload_n k, 1)) (hi : (k : Nat) = i) : pl_C X Y Value.long n pc (e_locl i) (pc + 1) := fun _ _ _ _ _ hk ⟨_, h1, h2⟩ => j_lload_n F hd hi h1 (hk _ _ h2)
theorem c_lload (F : pl_Fx X Y own cc) {i : Nat} (hd : decode cc pc = .ok (.lload i, 2)) : pl_C X Y Value.long n pc (e_locl i) (pc + 2) := fun _ _ _ _ _ hk ⟨_, h1, h2⟩ => j_lload F hd h1 (hk _ _ h2)
theorem c_aload_n (F : pl_Fx X Y own cc) {k : Fin 4} {i : Nat} (hd : decode cc pc = .ok (.aload_n k, 1)) (hi : (k : Nat) = i) : pl_C X Y id n pc (e_locr i) (pc + 1) := fun _ _ _ _ _ hk ⟨_, h1, h2, h3⟩ => j_aload_n F hd hi h1 h2 (hk _ _ h3)
theorem c_aload (F : pl_Fx X Y own cc) {i : Nat} (hd : decode cc pc = .ok (.aload i, 2)) : pl_C X Y id n pc (e_locr i) (pc + 2) := fun _ _ _ _ _ hk ⟨_, h1, h2, h3⟩ => j_aload F hd h1 h2 (hk _ _ h3)
theorem c_un {α β : Type} {ea : α → Value} {eb : β → Value} {f : α → β} {a : pl_E α} (ha : pl_C X Y ea n pc a p1) (hj : ∀ {L st : List Value} {σ : pl_S} {x : α}, pl_J X Y σ (p1 + 1) L (eb (f x) :: st) → pl_J X Y σ p1 L (ea x :: st)) : pl_C X Y eb n pc (e_un f a) (p1 + 1) :=
  fun L st σ _ hw hk h => ha L st σ _ hw (fun _ _ h1 => hj (hk _ _ h1)) h
theorem c_bin {α β γ : Type} {ea : α → Value} {eb : β → Value} {eg : γ → Value} {f : α → β → γ} {a : pl_E α} {b : pl_E β} (d : Nat) (ha : pl_C X Y ea n pc a p1) (hb : pl_C X Y eb (n + d) p1 b p2) (hc : ∀ x, (ea x).category ≤ d)
    (hj : ∀ {L st : List Value} {σ : pl_S} {x : α} {y : β}, pl_J X Y σ (p2 + 1) L (eg (f x y) :: st) → pl_J X Y σ p2 L (eb y :: ea x :: st)) : pl_C X Y eg n pc (e_bin f a b) (p2 + 1) :=
  fun L st σ _ hw hk h => ha L st σ _ hw (fun x σ1 h1 => hb L (ea x :: st) σ1 _ (by rw [pl_wd_cons]; have := hc x; omega) (fun _ _ h2 => hj (hk _ _ h2)) h1) h
theorem c_div (F : pl_Fx X Y own cc) {a b : pl_E Int32} (ha : pl_C X Y Value.int n pc a p1) (hb : pl_C X Y Value.int (n + 1) p1 b p2) (hd : decode cc p2 = .ok (.idiv, 1)) : pl_C X Y Value.int n pc (e_div a b) (p2 + 1) :=
  fun L st σ _ hw hk h => ha L st σ _ hw (fun x σ1 h1 => hb L (.int x :: st) σ1 _ (by rw [pl_wd_cons]; simp only [Value.category]; omega) (fun _ _ h2 => j_idiv F hd h2.1 (hk _ _ h2.2)) h1) h
theorem c_ldiv (F : pl_Fx X Y own cc) {a b : pl_E Int64} (ha : pl_C X Y Value.long n pc a p1) (hb : pl_C X Y Value.long (n + 2) p1 b p2) (hd : decode cc p2 = .ok (.ldiv, 1)) : pl_C X Y Value.long n pc (e_ldiv a b) (p2 + 1) :=
  fun L st σ _ hw hk h => ha L st σ _ hw (fun x σ1 h1 => hb L (.long x :: st) σ1 _ (by rw [pl_wd_cons]; simp only [Value.category]; omega) (fun _ _ h2 => j_ldiv F hd h2.1 (hk _ _ h2.2)) h1) h
theorem c_geti (F : pl_Fx X Y own cc) (c k : Nat) {o : pl_E Value} {idx : Nat} (hf : pl_fg c k false) (ho : pl_C X Y id n pc o p1) (hd : decode cc p1 = .ok (.getfield idx, 3)) (hw : Cond.fieldLink own idx (pl_F c k).1 (pl_F c k).2.1 (pl_F c k).2.2.1 ∈ pl_T) : pl_C X Y Value.int n pc (e_geti c k o) (p1 + 3) := by
  obtain ⟨h4, hk, hrt⟩ := hf
  obtain ⟨r, hc, e1, e2⟩ := pl_r_of h4
  intro L st σ K hwd hk' h
  refine ho L st σ _ hwd (fun v σ1 ⟨q, n1, hv, hkd, h1⟩ => ?_) h
  subst hv
  refine j_get F c k hc (by rw [e2]; exact hk) (by rw [e1]; exact hw) (by rw [e1]) hd hkd ?_
  unfold pl_sv
  rw [if_neg (by rw [hrt]; decide)]
  exact hk' _ _ h1
theorem c_getr (F : pl_Fx X Y own cc) (c k : Nat) {o : pl_E Value} {idx : Nat} (hf : pl_fg c k true) (ho : pl_C X Y id n pc o p1) (hd : decode cc p1 = .ok (.getfield idx, 3)) (hw : Cond.fieldLink own idx (pl_F c k).1 (pl_F c k).2.1 (pl_F c k).2.2.1 ∈ pl_T) : pl_C X Y id n pc (e_getr c k o) (p1 + 3) := by
  obtain ⟨h4, hk, hrt⟩ := hf
  obtain ⟨r, hc, e1, e2⟩ := pl_r_of h4
  intro L st σ K hwd hk' h
  refine ho L st σ _ hwd (fun v σ1 ⟨q, n1, hv, hkd, h1⟩ => ?_) h
  subst hv
  refine j_get F c k hc (by rw [e2]; exact hk) (by rw [e1]; exact hw) (by rw [e1]) hd hkd ?_
  unfold pl_sv
  rw [if_pos hrt]
  exact hk' _ _ h1
theorem pl_wd2 {n : Nat} {v : Value} {st : List Value} (h : pl_wd st ≤ n) : pl_wd (v :: st) ≤ n + 2 := by
  rw [pl_wd_cons]
  rcases lv_cat v with hv | hv <;> omega
theorem pl_wd1 {n : Nat} {x : Int32} {st : List Value} (h : pl_wd st ≤ n) : pl_wd (.int x :: st) ≤ n + 1 := by
  rw [pl_wd_cons]
  simp only [Value.category]
  omega
theorem pl_wdl {n : Nat} {x : Int64} {st : List Value} (h : pl_wd st ≤ n) : pl_wd (.long x :: st) ≤ n + 2 := by
  rw [pl_wd_cons]
  simp only [Value.category]
  omega
theorem c_iald (F : pl_Fx X Y own cc) {a : pl_E Value} {i : pl_E Int32} (ha : pl_C X Y id n pc a p1) (hi : pl_C X Y Value.int (n + 2) p1 i p2) (hd : decode cc p2 = .ok (.iaload, 1)) : pl_C X Y Value.int n pc (e_ald 1 a i) (p2 + 1) :=
  fun L st σ _ hw hk h => ha L st σ _ hw (fun v σ1 h1 => hi L (v :: st) σ1 _ (pl_wd2 hw) (fun x σ2 ⟨q, m, hv, hkd, hin, h2⟩ => by subst hv; exact j_iald F hd hkd hin (hk _ _ h2)) h1) h
theorem c_zald (F : pl_Fx X Y own cc) {a : pl_E Value} {i : pl_E Int32} (ha : pl_C X Y id n pc a p1) (hi : pl_C X Y Value.int (n + 2) p1 i p2) (hd : decode cc p2 = .ok (.baload, 1)) : pl_C X Y Value.int n pc (e_ald 2 a i) (p2 + 1) :=
  fun L st σ _ hw hk h => ha L st σ _ hw (fun v σ1 h1 => hi L (v :: st) σ1 _ (pl_wd2 hw) (fun x σ2 ⟨q, m, hv, hkd, hin, h2⟩ => by subst hv; exact j_zald F hd hkd hin (hk _ _ h2)) h1) h
theorem c_rald (F : pl_Fx X Y own cc) {a : pl_E Value} {i : pl_E Int32} (ha : pl_C X Y id n pc a p1) (hi : pl_C X Y Value.int (n + 2) p1 i p2) (hd : decode cc p2 = .ok (.iaload, 1)) : pl_C X Y Value.int n pc (e_rald a i) (p2 + 1) :=
  fun L st σ _ hw hk h => ha L st σ _ hw (fun v σ1 h1 => hi L (v :: st) σ1 _ (pl_wd2 hw) (fun x σ2 ⟨q, m, hv, hkd, h8, hin, h2⟩ => by subst hv; exact j_rald F hd hkd h8 hin (hk _ _ h2)) h1) h
theorem c_lald (F : pl_Fx X Y own cc) {a : pl_E Value} {i : pl_E Int32} (ha : pl_C X Y id n pc a p1) (hi : pl_C X Y Value.int (n + 2) p1 i p2) (hd : decode cc p2 = .ok (.laload, 1)) : pl_C X Y Value.long n pc (e_lald a i) (p2 + 1) :=
  fun L st σ _ hw hk h => ha L st σ _ hw (fun v σ1 h1 => hi L (v :: st) σ1 _ (pl_wd2 hw) (fun x σ2 ⟨q, m, hv, hkd, hin, h2⟩ => by subst hv; exact j_lald F hd hkd hin (hk _ _ h2)) h1) h
theorem c_aald (F : pl_Fx X Y own cc) {a : pl_E Value} {i : pl_E Int32} (ha : pl_C X Y id n pc a p1) (hi : pl_C X Y Value.int (n + 2) p1 i p2) (hd : decode cc p2 = .ok (.aaload, 1)) : pl_C X Y id n pc (e_aald a i) (p2 + 1) :=
  fun L st σ _ hw hk h => ha L st σ _ hw (fun v σ1 h1 => hi L (v :: st) σ1 _ (pl_wd2 hw) (fun x σ2 ⟨q, m, hv, hkd, hin, h2⟩ => by subst hv; exact j_aald F hd hkd hin (hk _ _ h2)) h1) h
theorem c_rlen (F : pl_Fx X Y own cc) {a : pl_E Value} (ha : pl_C X Y id n pc a p1) (hd : decode cc p1 = .ok (.arraylength, 1)) : pl_C X Y Value.int n pc (e_rlen a) (p1 + 1) :=
  fun L st σ _ hw hk h => ha L st σ _ hw (fun v σ1 ⟨q, m, hv, hkd, h8, h2⟩ => by subst hv; exact j_rlen F hd hkd h8 (hk _ _ h2)) h
theorem c_if (F : pl_Fx X Y own cc) {α : Type} {em : α → Value} {c : pl_E Bool} {a b : pl_E α} {off : Int} (hc : pl_B X Y n pc c true p1 (p2 + 3)) (ha : pl_C X Y em n p1 a p2) (hd : decode cc p2 = .ok (.goto off, 3)) (ht : (p2 : Int) + off = (p3 : Int)) (hb : pl_C X Y em n (p2 + 3) b p3) : pl_C X Y em n pc (e_if c a b) p3 :=
  fun L st σ K hw hk h => hc L st σ _ hw (fun σ1 h1 => ha L st σ1 K hw (fun x σ2 h2 => j_goto F hd ht (hk x σ2 h2)) (by simpa using h1)) (fun σ1 h1 => hb L st σ1 K hw hk (by simpa using h1)) h
-- conditions: 'falls through where it is pol, jumps where it isn't'
def pl_neg : ClassFile.Cond → ClassFile.Cond
  | .eq => .ne
  | .ne => .eq
  | .lt => .ge
  | .ge => .lt
  | .gt => .le
  | .le => .gt
theorem pl_h_neg (o : ClassFile.Cond) (x y : Int32) : pl_h (pl_neg o) x y = !pl_h o x y := by
  have e1 : ∀ a b : Int32, decide (a ≤ b) = !decide (b < a) := by
    intro a b
    by_cases h : b < a
    · have : ¬ a ≤ b := Int32.not_le.mpr h
      simp [h, this]
    · have : a ≤ b := Int32.not_lt.mp h
      simp [h, this]
  cases o with
  | eq => simp [pl_h, pl_neg]
  | ne => simp [pl_h, pl_neg]
  | lt => simp only [pl_h, pl_neg]; exact e1 y x
  | ge => simp only [pl_h, pl_neg]; rw [e1 y x, Bool.not_not]
  | gt => simp only [pl_h, pl_neg]; exact e1 x y
  | le => simp only [pl_h, pl_neg]; rw [e1 x y, Bool.not_not]
/-- jumps where the condition holds -/
theorem b_cmp_f (F : pl_Fx X Y own cc) {o : ClassFile.Cond} {a b : pl_E Int32} {off : Int} (ha : pl_C X Y Value.int n pc a p1) (hb : pl_C X Y Value.int (n + 1) p1 b p2) (hd : decode cc p2 = .ok (.if_icmp o off, 3)) (ht : (p2 : Int) + off = (pj : Int)) : pl_B X Y n pc (b_cmp o a b) false (p2 + 3) pj :=
  fun L st σ K hw hf hj h => ha L st σ _ hw (fun x σ1 h1 => hb L (.int x :: st) σ1 _ (pl_wd1 hw) (fun y σ2 h2 => j_icmp F hd ht (fun z => hj σ2 (by rw [z] at h2; exact h2)) (fun z => hf σ2 (by rw [z] at h2; exact h2))) h1) h
theorem b_cmp_t (F : pl_Fx X Y own cc) {o : ClassFile.Cond} {a b : pl_E Int32} {off : Int} (ha : pl_C X Y Value.int n pc a p1) (hb : pl_C X Y Value.int (n + 1) p1 b p2) (hd : decode cc p2 = .ok (.if_icmp (pl_neg o) off, 3)) (ht : (p2 : Int) + off = (pj : Int)) : pl_B X Y n pc (b_cmp o a b) true (p2 + 3) pj :=
  fun L st σ K hw hf hj h => ha L st σ _ hw (fun x σ1 h1 => hb L (.int x :: st) σ1 _ (pl_wd1 hw) (fun y σ2 h2 => j_icmp F hd ht (fun z => hj σ2 (by rw [pl_h_neg] at z; rw [show pl_h o x y = false by simpa using z] at h2; exact h2)) (fun z => hf σ2 (by rw [pl_h_neg] at z; rw [show pl_h o x y = true by simpa using z] at h2; exact h2))) h1) h
theorem b_zero_f (F : pl_Fx X Y own cc) {o : ClassFile.Cond} {a : pl_E Int32} {off : Int} (ha : pl_C X Y Value.int n pc a p1) (hd : decode cc p1 = .ok (.ifCond o off, 3)) (ht : (p1 : Int) + off = (pj : Int)) : pl_B X Y n pc (b_zero o a) false (p1 + 3) pj :=
  fun L st σ K hw hf hj h => ha L st σ _ hw (fun x σ1 h1 => j_if F hd ht (fun z => hj σ1 (by rw [z] at h1; exact h1)) (fun z => hf σ1 (by rw [z] at h1; exact h1))) h
theorem b_zero_t (F : pl_Fx X Y own cc) {o : ClassFile.Cond} {a : pl_E Int32} {off : Int} (ha : pl_C X Y Value.int n pc a p1) (hd : decode cc p1 = .ok (.ifCond (pl_neg o) off, 3)) (ht : (p1 : Int) + off = (pj : Int)) : pl_B X Y n pc (b_zero o a) true (p1 + 3) pj :=
  fun L st σ K hw hf hj h => ha L st σ _ hw (fun x σ1 h1 => j_if F hd ht (fun z => hj σ1 (by rw [pl_h_neg] at z; rw [show pl_h o x 0 = false by simpa using z] at h1; exact h1)) (fun z => hf σ1 (by rw [pl_h_neg] at z; rw [show pl_h o x 0 = true by simpa using z] at h1; exact h1))) h
theorem b_lcmp_f (F : pl_Fx X Y own cc) {o : ClassFile.Cond} {a b : pl_E Int64} {off : Int} (ha : pl_C X Y Value.long n pc a p1) (hb : pl_C X Y Value.long (n + 2) p1 b p2) (hd : decode cc p2 = .ok (.lcmp, 1)) (hd2 : decode cc (p2 + 1) = .ok (.ifCond o off, 3)) (ht : ((p2 + 1 : Nat) : Int) + off = (pj : Int)) : pl_B X Y n pc (b_lcmp o a b) false (p2 + 1 + 3) pj :=
  fun L st σ K hw hf hj h => ha L st σ _ hw (fun x σ1 h1 => hb L (.long x :: st) σ1 _ (pl_wdl hw) (fun y σ2 h2 => j_lcmp F hd (j_if F hd2 ht (fun z => hj σ2 (by rw [z] at h2; exact h2)) (fun z => hf σ2 (by rw [z] at h2; exact h2)))) h1) h
theorem b_lcmp_t (F : pl_Fx X Y own cc) {o : ClassFile.Cond} {a b : pl_E Int64} {off : Int} (ha : pl_C X Y Value.long n pc a p1) (hb : pl_C X Y Value.long (n + 2) p1 b p2) (hd : decode cc p2 = .ok (.lcmp, 1)) (hd2 : decode cc (p2 + 1) = .ok (.ifCond (pl_neg o) off, 3)) (ht : ((p2 + 1 : Nat) : Int) + off = (pj : Int)) : pl_B X Y n pc (b_lcmp o a b) true (p2 + 1 + 3) pj :=
  fun L st σ K hw hf hj h => ha L st σ _ hw (fun x σ1 h1 => hb L (.long x :: st) σ1 _ (pl_wdl hw) (fun y σ2 h2 => j_lcmp F hd (j_if F hd2 ht (fun z => hj σ2 (by rw [pl_h_neg] at z; rw [show pl_h o (lg_cmp x y) 0 = false by simpa using z] at h2; exact h2)) (fun z => hf σ2 (by rw [pl_h_neg] at z; rw [show pl_h o (lg_cmp x y) 0 = true by simpa using z] at h2; exact h2)))) h1) h
theorem b_null_f (F : pl_Fx X Y own cc) {a : pl_E Value} {off : Int} (ha : pl_C X Y id n pc a p1) (hd : decode cc p1 = .ok (.ifnull off, 3)) (ht : (p1 : Int) + off = (pj : Int)) : pl_B X Y n pc (b_null a) false (p1 + 3) pj :=
  fun L st σ K hw hf hj h => ha L st σ _ hw (fun v σ1 h1 => j_ifnull F hd ht h1.1 (fun z => hj σ1 (by have h2 := h1.2; rw [show pl_isN v = true from z] at h2; exact h2)) (fun z => hf σ1 (by have h2 := h1.2; rw [show pl_isN v = false from z] at h2; exact h2))) h
theorem b_null_t (F : pl_Fx X Y own cc) {a : pl_E Value} {off : Int} (ha : pl_C X Y id n pc a p1) (hd : decode cc p1 = .ok (.ifnonnull off, 3)) (ht : (p1 : Int) + off = (pj : Int)) : pl_B X Y n pc (b_null a) true (p1 + 3) pj :=
  fun L st σ K hw hf hj h => ha L st σ _ hw (fun v σ1 h1 => j_ifnonnull F hd ht h1.1 (fun z => hj σ1 (by have h2 := h1.2; rw [show pl_isN v = false from z] at h2; exact h2)) (fun z => hf σ1 (by have h2 := h1.2; rw [show pl_isN v = true from z] at h2; exact h2))) h
theorem b_nn_f (F : pl_Fx X Y own cc) {a : pl_E Value} {off : Int} (ha : pl_C X Y id n pc a p1) (hd : decode cc p1 = .ok (.ifnonnull off, 3)) (ht : (p1 : Int) + off = (pj : Int)) : pl_B X Y n pc (b_nn a) false (p1 + 3) pj :=
  fun L st σ K hw hf hj h => ha L st σ _ hw (fun v σ1 h1 => j_ifnonnull F hd ht h1.1 (fun z => hj σ1 (by have h2 := h1.2; rw [show pl_isN v = false from z] at h2; exact h2)) (fun z => hf σ1 (by have h2 := h1.2; rw [show pl_isN v = true from z] at h2; exact h2))) h
theorem b_nn_t (F : pl_Fx X Y own cc) {a : pl_E Value} {off : Int} (ha : pl_C X Y id n pc a p1) (hd : decode cc p1 = .ok (.ifnull off, 3)) (ht : (p1 : Int) + off = (pj : Int)) : pl_B X Y n pc (b_nn a) true (p1 + 3) pj :=
  fun L st σ K hw hf hj h => ha L st σ _ hw (fun v σ1 h1 => j_ifnull F hd ht h1.1 (fun z => hj σ1 (by have h2 := h1.2; rw [show pl_isN v = true from z] at h2; exact h2)) (fun z => hf σ1 (by have h2 := h1.2; rw [show pl_isN v = false from z] at h2; exact h2))) h
theorem b_and_t {a b : pl_E Bool} (ha : pl_B X Y n pc a true p1 pj) (hb : pl_B X Y n p1 b true pf pj) : pl_B X Y n pc (b_and a b) true pf pj :=
  fun L st σ K hw hf hj h => ha L st σ _ hw (fun σ1 h1 => hb L st σ1 K hw hf hj (by simpa using h1)) (fun σ1 h1 => hj σ1 (by simpa using h1)) h
theorem b_and_f {a b : pl_E Bool} (ha : pl_B X Y n pc a true p1 pf) (hb : pl_B X Y n p1 b false pf pj) : pl_B X Y n pc (b_and a b) false pf pj :=
  fun L st σ K hw hf hj h => ha L st σ _ hw (fun σ1 h1 => hb L st σ1 K hw hf hj (by simpa using h1)) (fun σ1 h1 => hf σ1 (by simpa using h1)) h
theorem b_or_f {a b : pl_E Bool} (ha : pl_B X Y n pc a false p1 pj) (hb : pl_B X Y n p1 b false pf pj) : pl_B X Y n pc (b_or a b) false pf pj :=
  fun L st σ K hw hf hj h => ha L st σ _ hw (fun σ1 h1 => hb L st σ1 K hw hf hj (by simpa using h1)) (fun σ1 h1 => hj σ1 (by simpa using h1)) h
theorem b_or_t {a b : pl_E Bool} (ha : pl_B X Y n pc a false p1 pf) (hb : pl_B X Y n p1 b true pf pj) : pl_B X Y n pc (b_or a b) true pf pj :=
  fun L st σ K hw hf hj h => ha L st σ _ hw (fun σ1 h1 => hb L st σ1 K hw hf hj (by simpa using h1)) (fun σ1 h1 => hf σ1 (by simpa using h1)) h
theorem b_not_t {a : pl_E Bool} (ha : pl_B X Y n pc a false pf pj) : pl_B X Y n pc (b_not a) true pf pj :=
  fun L st σ K hw hf hj h => ha L st σ _ hw (fun σ1 h1 => hf σ1 h1) (fun σ1 h1 => hj σ1 h1) h
theorem b_not_f {a : pl_E Bool} (ha : pl_B X Y n pc a true pf pj) : pl_B X Y n pc (b_not a) false pf pj :=
  fun L st σ K hw hf hj h => ha L st σ _ hw (fun σ1 h1 => hf σ1 h1) (fun σ1 h1 => hj σ1 h1) h
-- statements
theorem d_skip : pl_D X Y pc s_skip pc := fun _ _ _ hk h => hk _ _ h
theorem d_seq {a b : pl_ST} (ha : pl_D X Y pc a p1) (hb : pl_D X Y p1 b p2) : pl_D X Y pc (s_seq a b) p2 := fun L σ K hk h => ha L σ _ (fun L1 σ1 h1 => hb L1 σ1 K hk h1) h
theorem pl_wd0 : pl_wd [] ≤ 0 := by simp [pl_wd]
theorem d_istore_n (F : pl_Fx X Y own cc) {k : Fin 4} {i : Nat} {e : pl_E Int32} (he : pl_C X Y Value.int 0 pc e p1) (hd : decode cc p1 = .ok (.istore_n k, 1)) (hi : (k : Nat) = i) (hn : i < (pl_xc X).maxLocals) : pl_D X Y pc (s_seti i e) (p1 + 1) :=
  fun L σ _ hk h => he L [] σ _ pl_wd0 (fun _ _ h1 => j_istore_n F hd hi hn (hk _ _ h1)) h
theorem d_istore (F : pl_Fx X Y own cc) {i : Nat} {e : pl_E Int32} (he : pl_C X Y Value.int 0 pc e p1) (hd : decode cc p1 = .ok (.istore i, 2)) (hn : i < (pl_xc X).maxLocals) : pl_D X Y pc (s_seti i e) (p1 + 2) :=
  fun L σ _ hk h => he L [] σ _ pl_wd0 (fun _ _ h1 => j_istore F hd hn (hk _ _ h1)) h
theorem d_lstore_n (F : pl_Fx X Y own cc) {k : Fin 4} {i : Nat} {e : pl_E Int64} (he : pl_C X Y Value.long 0 pc e p1) (hd : decode cc p1 = .ok (.lstore_n k, 1)) (hi : (k : Nat) = i) (hn : i + 1 < (pl_xc X).maxLocals) : pl_D X Y pc (s_setl i e) (p1 + 1) :=
  fun L σ _ hk h => he L [] σ _ pl_wd0 (fun _ _ h1 => j_lstore_n F hd hi hn (hk _ _ h1)) h
theorem d_lstore (F : pl_Fx X Y own cc) {i : Nat} {e : pl_E Int64} (he : pl_C X Y Value.long 0 pc e p1) (hd : decode cc p1 = .ok (.lstore i, 2)) (hn : i + 1 < (pl_xc X).maxLocals) : pl_D X Y pc (s_setl i e) (p1 + 2) :=
  fun L σ _ hk h => he L [] σ _ pl_wd0 (fun _ _ h1 => j_lstore F hd hn (hk _ _ h1)) h
theorem d_astore_n (F : pl_Fx X Y own cc) {k : Fin 4} {i : Nat} {e : pl_E Value} (he : pl_C X Y id 0 pc e p1) (hd : decode cc p1 = .ok (.astore_n k, 1)) (hi : (k : Nat) = i) (hn : i < (pl_xc X).maxLocals) : pl_D X Y pc (s_setr i e) (p1 + 1) :=
  fun L σ _ hk h => he L [] σ _ pl_wd0 (fun _ _ h1 => j_astore_n F hd hi hn h1.1 (hk _ _ h1.2)) h
theorem d_astore (F : pl_Fx X Y own cc) {i : Nat} {e : pl_E Value} (he : pl_C X Y id 0 pc e p1) (hd : decode cc p1 = .ok (.astore i, 2)) (hn : i < (pl_xc X).maxLocals) : pl_D X Y pc (s_setr i e) (p1 + 2) :=
  fun L σ _ hk h => he L [] σ _ pl_wd0 (fun _ _ h1 => j_astore F hd hn h1.1 (hk _ _ h1.2)) h
theorem d_iinc (F : pl_Fx X Y own cc) {i : Nat} {z : Int} {v : Int32} (hd : decode cc pc = .ok (.iinc i z, 3)) (hv : Int32.ofInt z = v) (hn : i < (pl_xc X).maxLocals) : pl_D X Y pc (s_inc i v) (pc + 3) :=
  fun L σ _ hk ⟨x, h1, h2⟩ => j_iinc F hd h1 (by rw [hv]) hn (hk _ _ h2)
theorem d_puti (F : pl_Fx X Y own cc) (c k : Nat) {o : pl_E Value} {e : pl_E Int32} {idx : Nat} (hf : pl_fp c k false false) (ho : pl_C X Y id 0 pc o p1) (he : pl_C X Y Value.int 2 p1 e p2) (hd : decode cc p2 = .ok (.putfield idx, 3)) (hw : Cond.fieldLink own idx (pl_F c k).1 (pl_F c k).2.1 (pl_F c k).2.2.1 ∈ pl_T) : pl_D X Y pc (s_puti c k o e) (p2 + 3) := by
  obtain ⟨⟨h4, hk, hrt⟩, hfin, hty⟩ := hf
  obtain ⟨r, hc, e1, e2⟩ := pl_r_of h4
  intro L σ K hk' h
  refine ho L [] σ _ pl_wd0 (fun v σ1 h1 => he L [v] σ1 _ (pl_wd2 pl_wd0) (fun x σ2 ⟨q, n1, hv, hkd, h2⟩ => ?_) h1) h
  subst hv
  have e0 : Value.int x = pl_sv (c + 5) k x := by unfold pl_sv; rw [if_neg (by rw [hrt]; decide)]
  rw [e0]
  exact j_put F c k hc (by rw [e2]; exact hk) (by rw [e1]; exact hw) (by rw [e1]) (by rw [e1]; exact hfin) hd hkd (fun z => by rw [z] at hty; cases hty) (fun z => by rw [hrt] at z; cases z) (hk' _ _ h2)
theorem d_putz (F : pl_Fx X Y own cc) (c k : Nat) {o : pl_E Value} {e : pl_E Int32} {idx : Nat} (hf : pl_fp c k false true) (ho : pl_C X Y id 0 pc o p1) (he : pl_C X Y Value.int 2 p1 e p2) (hd : decode cc p2 = .ok (.putfield idx, 3)) (hw : Cond.fieldLink own idx (pl_F c k).1 (pl_F c k).2.1 (pl_F c k).2.2.1 ∈ pl_T) : pl_D X Y pc (s_putz c k o e) (p2 + 3) := by
  obtain ⟨⟨h4, hk, hrt⟩, hfin, hty⟩ := hf
  obtain ⟨r, hc, e1, e2⟩ := pl_r_of h4
  intro L σ K hk' h
  refine ho L [] σ _ pl_wd0 (fun v σ1 h1 => he L [v] σ1 _ (pl_wd2 pl_wd0) (fun x σ2 ⟨q, n1, hv, hkd, hz, h2⟩ => ?_) h1) h
  subst hv
  have e0 : Value.int x = pl_sv (c + 5) k x := by unfold pl_sv; rw [if_neg (by rw [hrt]; decide)]
  rw [e0]
  exact j_put F c k hc (by rw [e2]; exact hk) (by rw [e1]; exact hw) (by rw [e1]) (by rw [e1]; exact hfin) hd hkd (fun _ => hz) (fun z => by rw [hrt] at z; cases z) (hk' _ _ h2)
theorem d_putr (F : pl_Fx X Y own cc) (c k : Nat) {o e : pl_E Value} {idx : Nat} (hf : pl_fp c k true false) (ho : pl_C X Y id 0 pc o p1) (he : pl_C X Y id 2 p1 e p2) (hd : decode cc p2 = .ok (.putfield idx, 3)) (hw : Cond.fieldLink own idx (pl_F c k).1 (pl_F c k).2.1 (pl_F c k).2.2.1 ∈ pl_T) : pl_D X Y pc (s_putr c k o e) (p2 + 3) := by
  obtain ⟨⟨h4, hk, hrt⟩, hfin, hty⟩ := hf
  obtain ⟨r, hc, e1, e2⟩ := pl_r_of h4
  intro L σ K hk' h
  refine ho L [] σ _ pl_wd0 (fun v σ1 h1 => he L [v] σ1 _ (pl_wd2 pl_wd0) (fun w σ2 ⟨q, n1, x, hv, hkd, hx, hok, h2⟩ => ?_) h1) h
  subst hv
  subst hx
  have e0 : id (pl_rv x) = pl_sv (c + 5) k x := by unfold pl_sv; rw [if_pos hrt]; rfl
  rw [e0]
  exact j_put F c k hc (by rw [e2]; exact hk) (by rw [e1]; exact hw) (by rw [e1]) (by rw [e1]; exact hfin) hd hkd (fun z => by rw [z] at hty; cases hty) (fun _ => hok) (hk' _ _ h2)
/-- o.f op= e -/
theorem d_updi (F : pl_Fx X Y own cc) (c k : Nat) {f : Int32 → Int32 → Int32} {o : pl_E Value} {e : pl_E Int32} {idx : Nat} (hf : pl_fp c k false false) (ho : pl_C X Y id 0 pc o p1) (hd0 : decode cc p1 = .ok (.dup, 1)) (hd1 : decode cc (p1 + 1) = .ok (.getfield idx, 3)) (he : pl_C X Y Value.int 4 (p1 + 1 + 3) e p2)
    (hj : ∀ {L st : List Value} {σ : pl_S} {x y : Int32}, pl_J X Y σ (p2 + 1) L (.int (f x y) :: st) → pl_J X Y σ p2 L (.int y :: .int x :: st)) (hd : decode cc (p2 + 1) = .ok (.putfield idx, 3)) (hw : Cond.fieldLink own idx (pl_F c k).1 (pl_F c k).2.1 (pl_F c k).2.2.1 ∈ pl_T) : pl_D X Y pc (s_updi c k f o e) (p2 + 1 + 3) := by
  obtain ⟨⟨h4, hk, hrt⟩, hfin, hty⟩ := hf
  obtain ⟨r, hc, e1, e2⟩ := pl_r_of h4
  intro L σ K hk' h
  refine ho L [] σ _ pl_wd0 (fun v σ1 ⟨q, n1, hv, hkd, h1⟩ => ?_) h
  subst hv
  refine j_dup F hd0 rfl ?_
  refine j_get F c k hc (by rw [e2]; exact hk) (by rw [e1]; exact hw) (by rw [e1]) hd1 hkd ?_
  have e3 : pl_sv (c + 5) k (σ1.2.1 q k) = .int (σ1.2.1 q k) := by unfold pl_sv; rw [if_neg (by rw [hrt]; decide)]
  rw [e3]
  refine he L [.int (σ1.2.1 q k), .ref q] σ1 _ (by simp [pl_wd, Value.category]) (fun y σ2 ⟨hkd2, h2⟩ => hj ?_) h1
  have e0 : Value.int (f (σ1.2.1 q k) y) = pl_sv (c + 5) k (f (σ1.2.1 q k) y) := by unfold pl_sv; rw [if_neg (by rw [hrt]; decide)]
  rw [e0]
  exact j_put F c k hc (by rw [e2]; exact hk) (by rw [e1]; exact hw) (by rw [e1]) (by rw [e1]; exact hfin) hd hkd2 (fun z => by rw [z] at hty; cases hty) (fun z => by rw [hrt] at z; cases z) (hk' _ _ h2)
theorem d_iast (F : pl_Fx X Y own cc) {a : pl_E Value} {i e : pl_E Int32} (ha : pl_C X Y id 0 pc a p1) (hi : pl_C X Y Value.int 2 p1 i p2) (he : pl_C X Y Value.int 3 p2 e p3) (hd : decode cc p3 = .ok (.iastore, 1)) : pl_D X Y pc (s_iast a i e) (p3 + 1) :=
  fun L σ K hk h => ha L [] σ _ pl_wd0 (fun v σ1 h1 => hi L [v] σ1 _ (pl_wd2 pl_wd0) (fun j σ2 h2 => he L [.int j, v] σ2 _ (pl_wd1 (pl_wd2 pl_wd0)) (fun x σ3 ⟨q, m, hv, hkd, hin, h3⟩ => by subst hv; exact j_iast F hd hkd hin (hk _ _ h3)) h2) h1) h
theorem d_zast (F : pl_Fx X Y own cc) {a : pl_E Value} {i e : pl_E Int32} (ha : pl_C X Y id 0 pc a p1) (hi : pl_C X Y Value.int 2 p1 i p2) (he : pl_C X Y Value.int 3 p2 e p3) (hd : decode cc p3 = .ok (.bastore, 1)) : pl_D X Y pc (s_zast a i e) (p3 + 1) :=
  fun L σ K hk h => ha L [] σ _ pl_wd0 (fun v σ1 h1 => hi L [v] σ1 _ (pl_wd2 pl_wd0) (fun j σ2 h2 => he L [.int j, v] σ2 _ (pl_wd1 (pl_wd2 pl_wd0)) (fun x σ3 ⟨q, m, hv, hkd, hin, hx, h3⟩ => by subst hv; exact j_zast F hd hkd hin hx (hk _ _ h3)) h2) h1) h
/-- a long[] gets an int made long -/
theorem d_last (F : pl_Fx X Y own cc) {a : pl_E Value} {i e : pl_E Int32} (ha : pl_C X Y id 0 pc a p1) (hi : pl_C X Y Value.int 2 p1 i p2) (he : pl_C X Y Value.int 3 p2 e p3) (hd0 : decode cc p3 = .ok (.i2l, 1)) (hd : decode cc (p3 + 1) = .ok (.lastore, 1)) : pl_D X Y pc (s_last a i e) (p3 + 1 + 1) :=
  fun L σ K hk h => ha L [] σ _ pl_wd0 (fun v σ1 h1 => hi L [v] σ1 _ (pl_wd2 pl_wd0) (fun j σ2 h2 => he L [.int j, v] σ2 _ (pl_wd1 (pl_wd2 pl_wd0)) (fun x σ3 ⟨q, m, hv, hkd, hin, h3⟩ => by subst hv; exact j_i2l F hd0 (j_last F hd hkd hin (hk _ _ h3))) h2) h1) h
theorem d_aast (F : pl_Fx X Y own cc) {a e : pl_E Value} {i : pl_E Int32} (ha : pl_C X Y id 0 pc a p1) (hi : pl_C X Y Value.int 2 p1 i p2) (he : pl_C X Y id 3 p2 e p3) (hd : decode cc p3 = .ok (.aastore, 1)) : pl_D X Y pc (s_aast a i e) (p3 + 1) :=
  fun L σ K hk h => ha L [] σ _ pl_wd0 (fun v σ1 h1 => hi L [v] σ1 _ (pl_wd2 pl_wd0) (fun j σ2 h2 => he L [.int j, v] σ2 _ (pl_wd1 (pl_wd2 pl_wd0)) (fun w σ3 ⟨q, m, x, n', hv, hkd, hin, hw, hx, hb, h3⟩ => by subst hv; subst hw; exact j_aast F hd hkd hin hx hb (hk _ _ h3)) h2) h1) h
/-- a[i] op= e -/
theorem d_iupd (F : pl_Fx X Y own cc) {f : Int32 → Int32 → Int32} {a : pl_E Value} {i e : pl_E Int32} (ha : pl_C X Y id 0 pc a p1) (hi : pl_C X Y Value.int 2 p1 i p2) (hd0 : decode cc p2 = .ok (.dup2, 1)) (hd1 : decode cc (p2 + 1) = .ok (.iaload, 1)) (he : pl_C X Y Value.int 4 (p2 + 1 + 1) e p3)
    (hj : ∀ {L st : List Value} {σ : pl_S} {x y : Int32}, pl_J X Y σ (p3 + 1) L (.int (f x y) :: st) → pl_J X Y σ p3 L (.int y :: .int x :: st)) (hd : decode cc (p3 + 1) = .ok (.iastore, 1)) : pl_D X Y pc (s_iupd f a i e) (p3 + 1 + 1) :=
  fun L σ K hk h => ha L [] σ _ pl_wd0 (fun v σ1 h1 => hi L [v] σ1 _ (pl_wd2 pl_wd0) (fun j σ2 ⟨q, m, hv, hkd, hin, h2⟩ => by
    subst hv
    refine j_dup2 F hd0 rfl rfl ?_
    refine j_iald F hd1 hkd hin ?_
    exact he L [.int (σ2.2.1 q j.toNatClampNeg), .int j, .ref q] σ2 _ (by simp [pl_wd, Value.category]) (fun y σ3 ⟨hkd3, h3⟩ => hj (j_iast F hd hkd3 hin (hk _ _ h3))) h2) h1) h
theorem d_if {c : pl_E Bool} {a : pl_ST} (hc : pl_B X Y 0 pc c true p1 p2) (ha : pl_D X Y p1 a p2) : pl_D X Y pc (s_if c a) p2 :=
  fun L σ K hk h => hc L [] σ _ pl_wd0 (fun σ1 h1 => ha L σ1 K hk (by simpa using h1)) (fun σ1 h1 => hk _ _ (by simpa using h1)) h
/-- both arms, the first ends in a goto -/
theorem d_ife (F : pl_Fx X Y own cc) {c : pl_E Bool} {a b : pl_ST} {off : Int} (hc : pl_B X Y 0 pc c true p1 (p2 + 3)) (ha : pl_D X Y p1 a p2) (hd : decode cc p2 = .ok (.goto off, 3)) (ht : (p2 : Int) + off = (p3 : Int)) (hb : pl_D X Y (p2 + 3) b p3) : pl_D X Y pc (s_ife c a b) p3 :=
  fun L σ K hk h => hc L [] σ _ pl_wd0 (fun σ1 h1 => ha L σ1 K (fun L2 σ2 h2 => j_goto F hd ht (hk L2 σ2 h2)) (by simpa using h1)) (fun σ1 h1 => hb L σ1 K hk (by simpa using h1)) h
/-- both arms, the first never falls out -/
theorem d_ifn {c : pl_E Bool} {a b : pl_ST} (hc : pl_B X Y 0 pc c true p1 p2) (ha : pl_D X Y p1 a p3) (hb : pl_D X Y p2 b p3) : pl_D X Y pc (s_ife c a b) p3 :=
  fun L σ K hk h => hc L [] σ _ pl_wd0 (fun σ1 h1 => ha L σ1 K hk (by simpa using h1)) (fun σ1 h1 => hb L σ1 K hk (by simpa using h1)) h
theorem d_while (F : pl_Fx X Y own cc) {c : pl_E Bool} {b : pl_ST} {off : Int} (hc : pl_B X Y 0 pc c true p1 (p2 + 3)) (hb : pl_D X Y p1 b p2) (hd : decode cc p2 = .ok (.goto off, 3)) (ht : (p2 : Int) + off = (pc : Int)) : pl_D X Y pc (s_while c b) (p2 + 3) :=
  fun L σ K hk h => h (fun L1 σ1 => pl_J X Y σ1 pc L1 []) (fun L1 σ1 h1 => hc L1 [] σ1 _ pl_wd0 (fun σ2 h2 => hb L1 σ2 _ (fun L3 σ3 h3 => j_goto F hd ht h3) (by simpa using h2)) (fun σ2 h2 => hk _ _ (by simpa using h2)) h1)
end Comb
