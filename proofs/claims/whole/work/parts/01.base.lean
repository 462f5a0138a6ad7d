/-! 01 The store that stands for the world of both sides, what a heap shows of it, and the judgement pl_J: from here the machine comes to its end. -/
abbrev pl_S : Type := (Nat → Nat × Nat) × (Nat → Nat → Int32) × Nat × Nat
abbrev pl_G : Type := va_G × (Nat → ClassId) × (Nat → Cell) × (Nat → Nat)
def pl_un : Value := .double 0
def pl_isU : Value → Bool
  | .double _ => true
  | _ => false
def pl_re (ad : Nat → Nat) : Value → Value
  | .ref q => .ref (ad q)
  | .int x => .int x
  | .long x => .long x
  | .float x => .float x
  | .double x => .double x
  | .null => .null
  | .retAddr x => .retAddr x
theorem pl_re_cat (ad : Nat → Nat) (v : Value) : (pl_re ad v).category = v.category := by cases v <;> rfl
def pl_gv (ad : Nat → Nat) (b : Bool) (x : Int32) : Value := if b = true then (if x = -1 then .null else .ref (ad x.toNatClampNeg)) else .int x
def pl_rv (x : Int32) : Value := if x = -1 then .null else .ref x.toNatClampNeg
theorem pl_re_rv (ad : Nat → Nat) (x : Int32) : pl_re ad (pl_rv x) = pl_gv ad true x := by
  unfold pl_rv pl_gv
  by_cases h : x = -1
  · simp [h, pl_re]
  · simp [h, pl_re]
theorem pl_rv_cat (x : Int32) : (pl_rv x).category = 1 := by
  unfold pl_rv
  by_cases h : x = -1
  · simp [h, Value.category]
  · simp [h, Value.category]
/-- the fields of the four kinds of object: declarer, name, descriptor, final -/
def pl_fl : Nat → List (String × String × String × Bool)
  | 0 => [("PageLayouter", "made", "[LPageLayouter$Box;", true), ("PageLayouter", "columns", "LPageLayouter$Columns;", true), ("PageLayouter", "count", "I", false), ("PageLayouter", "settled", "Z", false)]
  | 1 => [("PageLayouter$Box", "number", "I", true), ("PageLayouter$Box", "parent", "LPageLayouter$Box;", true), ("PageLayouter$Box", "sort", "I", true), ("PageLayouter$Box", "depth", "I", true), ("PageLayouter$Box", "values", "[I", true), ("PageLayouter$Box", "firstChild", "LPageLayouter$Box;", false), ("PageLayouter$Box", "lastChild", "LPageLayouter$Box;", false), ("PageLayouter$Box", "nextSibling", "LPageLayouter$Box;", false), ("PageLayouter$Box", "kind", "I", false), ("PageLayouter$Box", "cell", "Z", false), ("PageLayouter$Box", "lesserCore", "I", false), ("PageLayouter$Box", "greaterCore", "I", false), ("PageLayouter$Box", "firstColumn", "I", false), ("PageLayouter$Box", "columnCount", "I", false), ("PageLayouter$Box", "width", "I", false), ("PageLayouter$Box", "fixedHeight", "I", false), ("PageLayouter$Box", "height", "I", false), ("PageLayouter$Box", "x", "I", false), ("PageLayouter$Box", "y", "I", false), ("PageLayouter$Box", "open", "Z", false)]
  | 2 => [("PageLayouter$Columns", "least", "[I", true), ("PageLayouter$Columns", "most", "[I", true), ("PageLayouter$Columns", "width", "[I", true), ("PageLayouter$Columns", "used", "I", false)]
  | _ => [("PageLayouterModel", "thrown", "I", false), ("PageLayouterModel", "boxes", "I", false), ("PageLayouterModel", "laid", "Z", false), ("PageLayouterModel", "parent", "[I", false), ("PageLayouterModel", "depth", "[I", false), ("PageLayouterModel", "sort", "[I", false), ("PageLayouterModel", "property", "[I", false), ("PageLayouterModel", "free", "[Z", false), ("PageLayouterModel", "treated", "[I", false), ("PageLayouterModel", "cell", "[Z", false), ("PageLayouterModel", "place", "[I", false), ("PageLayouterModel", "lesser", "[I", false), ("PageLayouterModel", "greater", "[I", false), ("PageLayouterModel", "wide", "[I", false), ("PageLayouterModel", "high", "[I", false), ("PageLayouterModel", "fixed", "[I", false), ("PageLayouterModel", "down", "[I", false), ("PageLayouterModel", "x", "[I", false), ("PageLayouterModel", "y", "[I", false), ("PageLayouterModel", "columns", "[I", false), ("PageLayouterModel", "columnWide", "[I", false), ("PageLayouterModel", "least", "[I", false), ("PageLayouterModel", "most", "[I", false), ("PageLayouterModel", "open", "[Z", false), ("PageLayouterModel", "rank", "[I", false), ("PageLayouterModel", "inside", "[I", false)]
def pl_F (c : Nat) : u_T := fun k => (pl_fl c).getD k ("", "", "", false)
def pl_cl : List vw_C := [("PageLayouter", pl_F 0, 4), ("PageLayouter$Box", pl_F 1, 20), ("PageLayouter$Columns", pl_F 2, 4), ("PageLayouterModel", pl_F 3, 26)]
def pl_ty (c k : Nat) : FieldType := (parseFieldDescriptor (pl_F c k).2.2.1).getD .int
theorem pl_ty_ok : ∀ c, c < 4 → ∀ r, pl_cl[c]? = some r → ∀ k, k < r.2.2 → parseFieldDescriptor (r.2.1 k).2.2.1 = some (pl_ty c k) := by
  intro c hc r hr k hk
  have h0 : ∀ c, c < 4 → ∀ k, k < (pl_fl c).length → parseFieldDescriptor (pl_F c k).2.2.1 = some (pl_ty c k) := by decide +kernel
  match c, hc with
  | 0, _ => cases hr; exact h0 0 (by decide) k hk
  | 1, _ => cases hr; exact h0 1 (by decide) k hk
  | 2, _ => cases hr; exact h0 2 (by decide) k hk
  | 3, _ => cases hr; exact h0 3 (by decide) k hk
theorem pl_nm_ok : ∀ c, c < 4 → ∀ r, pl_cl[c]? = some r → ∀ a, a < r.2.2 → ∀ b, b < r.2.2 → a ≠ b → (r.2.1 a).2.1 ≠ (r.2.1 b).2.1 := by
  intro c hc r hr a ha b hb
  have h0 : ∀ c, c < 4 → ∀ a, a < (pl_fl c).length → ∀ b, b < (pl_fl c).length → a ≠ b → (pl_F c a).2.1 ≠ (pl_F c b).2.1 := by decide +kernel
  match c, hc with
  | 0, _ => cases hr; exact h0 0 (by decide) a ha b hb
  | 1, _ => cases hr; exact h0 1 (by decide) a ha b hb
  | 2, _ => cases hr; exact h0 2 (by decide) a ha b hb
  | 3, _ => cases hr; exact h0 3 (by decide) a ha b hb
/-- which slots hold references: 1 int[], 2 boolean[], 3 long[], 4 Box[], 5 .. 8 the four kinds of object -/
def pl_rt (code k : Nat) : Bool := match code with
  | 4 => true
  | 5 => decide (k < 2)
  | 6 => decide (k = 1) || (decide (4 ≤ k) && decide (k < 8))
  | 7 => decide (k < 3)
  | 8 => decide (3 ≤ k)
  | _ => false
def pl_tys (G : pl_G) : List (ClassId × FieldType) := [(G.2.1 1, .int), (G.2.1 2, .boolean), (G.2.1 3, .long), (G.2.1 4, .object "PageLayouter$Box")]
def pl_av (ad : Nat → Nat) (code : Nat) (x : Int32) : Value := if code = 3 then .long x.toInt64 else pl_gv ad (pl_rt code 0) x
/-- the cell of number q: 9 is an int[] that nobody writes -/
def pl_at (G : pl_G) (ad : Nat → Nat) (q : Nat) (kd : Nat × Nat) (f : Nat → Int32) (H : Heap) : Prop :=
  if kd.1 < 5 then H[ad q]? = some (arrV (G.2.1 kd.1) kd.2 (fun j => pl_av ad kd.1 (f j)))
  else if kd.1 < 9 then ∃ r : vw_C, pl_cl[kd.1 - 5]? = some r ∧ t_OB (ad q) (G.1.1 (kd.1 - 5)) r.2.2 (G.1.2 (kd.1 - 5)) H (fun k => pl_gv ad (pl_rt kd.1 k) (f k))
  else H[ad q]? = some (G.2.2.1 q) ∧ (G.2.2.1 q).vm ≠ .unknown ∧ (G.2.2.1 q).slots.size = kd.2 ∧ ∀ j, j < kd.2 → (G.2.2.1 q).slots[j]? = some (.int (f j))
def pl_live (σ : pl_S) (q : Nat) : Prop := (σ.1 q).1 ≠ 0
def pl_ok (σ : pl_S) (x : Int32) : Prop := x = -1 ∨ pl_live σ x.toNatClampNeg
def pl_Rep (G : pl_G) (ad : Nat → Nat) (σ : pl_S) (H : Heap) : Prop :=
  (∀ q, pl_live σ q → pl_at G ad q (σ.1 q) (σ.2.1 q) H) ∧ (∀ q q', pl_live σ q → pl_live σ q' → ad q = ad q' → q = q') ∧
  (∀ q, pl_live σ q → ∀ k, pl_rt (σ.1 q).1 k = true → pl_ok σ (σ.2.1 q k)) ∧ ∀ q, pl_live σ q → (σ.1 q).1 = 9 → ad q = G.2.2.2 q
def pl_put (σ : pl_S) (q k : Nat) (x : Int32) : pl_S := (σ.1, fun a b => if a = q ∧ b = k then x else σ.2.1 a b, σ.2.2)
theorem pl_at.kept {G : pl_G} {ad : Nat → Nat} {q : Nat} {kd : Nat × Nat} {f : Nat → Int32} {H H1 : Heap} (h : pl_at G ad q kd f H) (hq : H1[ad q]? = H[ad q]?) : pl_at G ad q kd f H1 := by
  unfold pl_at at h ⊢
  by_cases h5 : kd.1 < 5
  · rw [if_pos h5] at h ⊢
    exact hq.trans h
  · rw [if_neg h5] at h ⊢
    by_cases h9 : kd.1 < 9
    · rw [if_pos h9] at h ⊢
      obtain ⟨r, h1, h2⟩ := h
      exact ⟨r, h1, h2.kept hq⟩
    · rw [if_neg h9] at h ⊢
      exact ⟨hq.trans h.1, h.2⟩
theorem pl_at.lt {G : pl_G} {ad : Nat → Nat} {q : Nat} {kd : Nat × Nat} {f : Nat → Int32} {H : Heap} (h : pl_at G ad q kd f H) : ad q < H.size := by
  unfold pl_at at h
  by_cases h5 : kd.1 < 5
  · rw [if_pos h5] at h
    exact (Array.getElem?_eq_some_iff.mp h).1
  · rw [if_neg h5] at h
    by_cases h9 : kd.1 < 9
    · rw [if_pos h9] at h
      obtain ⟨r, h1, cell, h2, -⟩ := h
      exact (Array.getElem?_eq_some_iff.mp h2).1
    · rw [if_neg h9] at h
      exact (Array.getElem?_eq_some_iff.mp h.1).1
theorem pl_Rep.put {G : pl_G} {ad : Nat → Nat} {σ : pl_S} {H H1 : Heap} (h : pl_Rep G ad σ H) {q k : Nat} {x : Int32} (hq : pl_live σ q) (hx : pl_rt (σ.1 q).1 k = true → pl_ok σ x)
    (he : pl_at G ad q (σ.1 q) (fun b => if b = k then x else σ.2.1 q b) H1) (ho : ∀ a, a ≠ ad q → H1[a]? = H[a]?) : pl_Rep G ad (pl_put σ q k x) H1 := by
  refine ⟨fun p hp => ?_, h.2.1, fun p hp j hj => ?_, h.2.2.2⟩
  · by_cases hpq : p = q
    · subst hpq
      simpa [pl_put] using he
    · have hne : ad p ≠ ad q := fun z => hpq (h.2.1 p q hp hq z)
      have h1 := (h.1 p hp).kept (ho _ hne)
      simpa [pl_put, hpq] using h1
  · by_cases hpq : p = q ∧ j = k
    · obtain ⟨rfl, rfl⟩ := hpq
      have := hx hj
      simpa [pl_put, pl_ok, pl_live] using this
    · have := h.2.2.1 p hp j hj
      simpa [pl_put, pl_ok, pl_live, hpq] using this
/-- the locals -/
def pl_LR (ad : Nat → Nat) (ls : Array Slot) (L : List Value) (nL : Nat) : Prop := ls.size = nL ∧ lv_wf ls ∧ ∀ (i : Nat) (v : Value), L[i]? = some v → pl_isU v = false → ls[i]? = some (.val (pl_re ad v))
def pl_set (L : List Value) (i : Nat) (v : Value) : List Value := match i with
  | 0 => L.set 0 v
  | j + 1 => if (L.getD j .null).category = 2 then (L.set (j + 1) v).set j pl_un else L.set (j + 1) v
def pl_set2 (L : List Value) (i : Nat) (v : Value) : List Value := (pl_set L i v).set (i + 1) pl_un
def pl_al (ad : Nat → Nat) (L : List Value) : List (Nat × Value) := (List.range L.length).filterMap (fun j => if pl_isU (L.getD j pl_un) = true then none else some (j, pl_re ad (L.getD j pl_un)))
theorem pl_al_mem {ad : Nat → Nat} {L : List Value} {q : Nat × Value} : q ∈ pl_al ad L ↔ ∃ v, L[q.1]? = some v ∧ pl_isU v = false ∧ q.2 = pl_re ad v := by
  unfold pl_al
  rw [List.mem_filterMap]
  constructor
  · rintro ⟨j, hj, h⟩
    have hj' := List.mem_range.mp hj
    split at h
    · cases h
    · rename_i hu
      cases h
      refine ⟨L.getD j pl_un, ?_, by simpa using hu, rfl⟩
      simp [List.getD_eq_getElem?_getD, hj']
  · rintro ⟨v, h1, h2, h3⟩
    have hlt : q.1 < L.length := (List.getElem?_eq_some_iff.mp h1).1
    refine ⟨q.1, List.mem_range.mpr hlt, ?_⟩
    have hg : L.getD q.1 pl_un = v := by simp [List.getD_eq_getElem?_getD, h1]
    rw [hg, h2]
    simp [← h3]
theorem pl_LR.has {ad : Nat → Nat} {ls : Array Slot} {L : List Value} {nL : Nat} (h : pl_LR ad ls L nL) : lv_has ls nL (pl_al ad L) := by
  refine ⟨h.1, h.2.1, fun q hq => ?_⟩
  obtain ⟨v, h1, h2, h3⟩ := pl_al_mem.mp hq
  rw [h3]
  exact h.2.2 _ _ h1 h2
theorem pl_set_get {L : List Value} {i j : Nat} {v w : Value} (h : (pl_set L i v)[j]? = some w) (hu : pl_isU w = false) : (j = i ∧ w = v) ∨ (j ≠ i ∧ L[j]? = some w ∧ ¬ (j + 1 = i ∧ w.category = 2)) := by
  cases i with
  | zero =>
    unfold pl_set at h
    by_cases hj : j = 0
    · subst hj
      rw [List.getElem?_set] at h
      simp at h
      exact Or.inl ⟨rfl, h.2.symm⟩
    · rw [List.getElem?_set_ne (Ne.symm hj)] at h
      exact Or.inr ⟨hj, h, fun z => by omega⟩
  | succ i =>
    unfold pl_set at h
    simp only at h
    split at h
    · rename_i hc
      by_cases hj : j = i + 1
      · subst hj
        rw [List.getElem?_set_ne (by omega), List.getElem?_set] at h
        simp at h
        exact Or.inl ⟨rfl, h.2.symm⟩
      · by_cases hj2 : j = i
        · subst hj2
          rw [List.getElem?_set] at h
          simp at h
          rw [← h.2] at hu
          simp [pl_un, pl_isU] at hu
        · rw [List.getElem?_set_ne (Ne.symm hj2), List.getElem?_set_ne (Ne.symm hj)] at h
          exact Or.inr ⟨hj, h, fun z => hj2 (by omega)⟩
    · rename_i hc
      by_cases hj : j = i + 1
      · subst hj
        rw [List.getElem?_set] at h
        simp at h
        exact Or.inl ⟨rfl, h.2.symm⟩
      · rw [List.getElem?_set_ne (Ne.symm hj)] at h
        refine Or.inr ⟨hj, h, fun z => hc ?_⟩
        have hji : j = i := by omega
        subst hji
        rw [List.getD_eq_getElem?_getD, h]
        exact z.2
theorem pl_LR.set {ad : Nat → Nat} {ls' : Array Slot} {L : List Value} {nL i : Nat} {v : Value} (h : lv_has ls' nL ((i, pl_re ad v) :: (pl_al ad L).filter (fun q => !(q.1 == i) && !(q.1 + 1 == i && q.2.category == 2)))) : pl_LR ad ls' (pl_set L i v) nL := by
  refine ⟨h.1, h.2.1, fun j w hj hu => ?_⟩
  rcases pl_set_get hj hu with ⟨rfl, rfl⟩ | ⟨h1, h2, h3⟩
  · exact h.2.2 (j, pl_re ad w) List.mem_cons_self
  · refine h.2.2 (j, pl_re ad w) (List.mem_cons_of_mem _ (List.mem_filter.mpr ⟨pl_al_mem.mpr ⟨w, h2, hu, rfl⟩, ?_⟩))
    simp only [pl_re_cat]
    by_cases hji : j + 1 = i
    · have hc : ¬ w.category = 2 := fun z => h3 ⟨hji, z⟩
      simp [h1, hc]
    · simp [h1, hji]
theorem pl_LR.set2 {ad : Nat → Nat} {ls' : Array Slot} {L : List Value} {nL i : Nat} {v : Value} (h : lv_has ls' nL ((i, pl_re ad v) :: (pl_al ad L).filter (fun q => !(q.1 == i) && (!(q.1 == i + 1) && !(q.1 + 1 == i && q.2.category == 2))))) : pl_LR ad ls' (pl_set2 L i v) nL := by
  refine ⟨h.1, h.2.1, fun j w hj hu => ?_⟩
  unfold pl_set2 at hj
  by_cases hj1 : j = i + 1
  · subst hj1
    rw [List.getElem?_set] at hj
    simp at hj
    rw [← hj.2] at hu
    simp [pl_un, pl_isU] at hu
  · rw [List.getElem?_set_ne (Ne.symm hj1)] at hj
    rcases pl_set_get hj hu with ⟨rfl, rfl⟩ | ⟨h1, h2, h3⟩
    · exact h.2.2 (j, pl_re ad w) List.mem_cons_self
    · refine h.2.2 (j, pl_re ad w) (List.mem_cons_of_mem _ (List.mem_filter.mpr ⟨pl_al_mem.mpr ⟨w, h2, hu, rfl⟩, ?_⟩))
      simp only [pl_re_cat]
      by_cases hji : j + 1 = i
      · have hc : ¬ w.category = 2 := fun z => h3 ⟨hji, z⟩
        simp [h1, hj1, hc]
      · simp [h1, hj1, hji]
/-- the locals at a method's entry -/
def pl_fa (vs : List Value) : List Value := vs.flatMap (fun v => if v.category = 2 then [v, pl_un] else [v])
def pl_pad (vs : List Value) (n : Nat) : List Value := pl_fa vs ++ List.replicate (n - (pl_fa vs).length) pl_un
theorem pl_entry_mem (ad : Nat → Nat) : ∀ (vs : List Value) (k i : Nat) (v : Value), (pl_fa vs)[i]? = some v → pl_isU v = false → (k + i, pl_re ad v) ∈ lv_args k (vs.map (pl_re ad))
  | [], k, i, v, h, _ => by simp [pl_fa] at h
  | w :: vs, k, i, v, h, hu => by
    have e : pl_fa (w :: vs) = (if w.category = 2 then [w, pl_un] else [w]) ++ pl_fa vs := by simp [pl_fa]
    rw [e] at h
    show (k + i, pl_re ad v) ∈ (k, pl_re ad w) :: lv_args (if (pl_re ad w).category = 2 then k + 2 else k + 1) (vs.map (pl_re ad))
    rw [pl_re_cat]
    by_cases hc : w.category = 2
    · rw [if_pos hc] at h ⊢
      match i, h with
      | 0, h =>
        simp at h
        subst h
        simp
      | 1, h =>
        simp at h
        subst h
        simp [pl_un, pl_isU] at hu
      | j + 2, h =>
        have h' : (pl_fa vs)[j]? = some v := by simpa using h
        have h2 := pl_entry_mem ad vs (k + 2) j v h' hu
        rw [show k + (j + 2) = k + 2 + j by omega]
        exact List.mem_cons_of_mem _ h2
    · rw [if_neg hc] at h ⊢
      match i, h with
      | 0, h =>
        simp at h
        subst h
        simp
      | j + 1, h =>
        have h' : (pl_fa vs)[j]? = some v := by simpa using h
        have h2 := pl_entry_mem ad vs (k + 1) j v h' hu
        rw [show k + (j + 1) = k + 1 + j by omega]
        exact List.mem_cons_of_mem _ h2
theorem pl_fa_len (ad : Nat → Nat) (vs : List Value) : (lg_sl (vs.map (pl_re ad))).length = (pl_fa vs).length := by
  induction vs with
  | nil => rfl
  | cons w vs ih =>
    have e1 : lg_sl ((w :: vs).map (pl_re ad)) = (if (pl_re ad w).category = 2 then [.val (pl_re ad w), .second] else [.val (pl_re ad w)]) ++ lg_sl (vs.map (pl_re ad)) := by simp [lg_sl]
    have e2 : pl_fa (w :: vs) = (if w.category = 2 then [w, pl_un] else [w]) ++ pl_fa vs := by simp [pl_fa]
    rw [e1, e2, List.length_append, List.length_append, ih, pl_re_cat]
    by_cases hc : w.category = 2
    · simp [hc]
    · simp [hc]
theorem pl_entry (ad : Nat → Nat) (vs : List Value) {n : Nat} (h : (pl_fa vs).length ≤ n) : pl_LR ad ((lg_sl (vs.map (pl_re ad)) ++ List.replicate (n - (lg_sl (vs.map (pl_re ad))).length) Slot.unset).toArray) (pl_pad vs n) n := by
  have h0 := lv_entry (vs.map (pl_re ad)) (n := n) (by rw [pl_fa_len]; exact h)
  refine ⟨h0.1, h0.2.1, fun i v hi hu => ?_⟩
  unfold pl_pad at hi
  by_cases hlt : i < (pl_fa vs).length
  · rw [List.getElem?_append_left hlt] at hi
    have := h0.2.2 _ (pl_entry_mem ad vs 0 i v hi hu)
    simpa using this
  · rw [List.getElem?_append_right (by omega), List.getElem?_replicate] at hi
    split at hi
    · cases hi
      simp [pl_un, pl_isU] at hu
    · cases hi
