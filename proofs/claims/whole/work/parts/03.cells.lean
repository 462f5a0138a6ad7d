/-! 03 Rows for fields and for arrays that are there -/
def pl_sv (code k : Nat) (x : Int32) : Value := if pl_rt code k = true then pl_rv x else .int x
theorem pl_sv_re (ad : Nat → Nat) (code k : Nat) (x : Int32) : pl_re ad (pl_sv code k x) = pl_gv ad (pl_rt code k) x := by
  unfold pl_sv
  by_cases h : pl_rt code k = true
  · rw [if_pos h, pl_re_rv, h]
  · rw [if_neg h]
    simp [pl_gv, h, pl_re]
def pl_in (i : Int32) (n : Nat) : Prop := 0 ≤ i.toInt ∧ i.toInt < (n : Int)
theorem pl_clamp (i : Int32) : i.toNatClampNeg = i.toInt.toNat := rfl
theorem pl_in.not {i : Int32} {n : Nat} (h : pl_in i n) : ¬ (i < 0 ∨ n ≤ i.toNatClampNeg) := by
  obtain ⟨h1, h2⟩ := h
  rw [pl_clamp]
  simp only [Int32.lt_iff_toInt_lt, Int32.toInt_zero]
  omega
theorem pl_in.lt {i : Int32} {n : Nat} (h : pl_in i n) : i.toNatClampNeg < n := by
  obtain ⟨h1, h2⟩ := h
  rw [pl_clamp]
  omega
theorem pl_kinds : ∀ c, c < 4 → ∀ k, k < (pl_fl c).length → (pl_rt (c + 5) k = true ∧ (pl_ty c k).isReference = true) ∨ (pl_rt (c + 5) k = false ∧ (pl_ty c k = .int ∨ pl_ty c k = .boolean)) := by decide +kernel
theorem pl_len : ∀ c r, pl_cl[c]? = some r → c < 4 ∧ r.2.2 = (pl_fl c).length ∧ r.2.1 = pl_F c := by
  intro c r h
  match c, h with
  | 0, h => cases h; exact ⟨by decide, rfl, rfl⟩
  | 1, h => cases h; exact ⟨by decide, rfl, rfl⟩
  | 2, h => cases h; exact ⟨by decide, rfl, rfl⟩
  | 3, h => cases h; exact ⟨by decide, rfl, rfl⟩
  | n + 4, h => simp [pl_cl] at h
theorem pl_and1 {x : Int32} (h : x = 0 ∨ x = 1) : x &&& 1 = x := by
  rcases h with rfl | rfl <;> decide
theorem pl_fit {c k : Nat} {r : vw_C} (hc : pl_cl[c]? = some r) (hk : k < r.2.2) {x : Int32} (hz : pl_ty c k = .boolean → x = 0 ∨ x = 1) (ad : Nat → Nat) :
    narrow (pl_ty c k) (pl_gv ad (pl_rt (c + 5) k) x) = pl_gv ad (pl_rt (c + 5) k) x ∧ fits (pl_ty c k) (pl_gv ad (pl_rt (c + 5) k) x) = true := by
  obtain ⟨h4, hl, -⟩ := pl_len c r hc
  rw [hl] at hk
  rcases pl_kinds c h4 k hk with ⟨h1, h2⟩ | ⟨h1, h2 | h2⟩
  · rw [h1]
    generalize pl_ty c k = t at h2
    unfold pl_gv
    by_cases hx : x = -1
    · cases t <;> simp [FieldType.isReference] at h2 <;> simp [hx, narrow, fits]
    · cases t <;> simp [FieldType.isReference] at h2 <;> simp [hx, narrow, fits]
  · rw [h1, h2]
    simp [pl_gv, narrow, fits]
  · rw [h1, h2]
    have h01 := hz h2
    have h3 := pl_and1 h01
    rcases h01 with rfl | rfl <;> simp [pl_gv, narrow, fits]
section Cells
variable {X : pl_X} {Y : pl_Y} {own : String} {cc : ByteArray} {σ : pl_S} {pc : Nat} {L st : List Value}
theorem pl_In.obj {ad : Nat → Nat} {H : Heap} {locs : List Loc} {ls : Array Slot} (h : pl_In X Y σ L ad H locs ls) {q c n : Nat} {r : vw_C} (hc : pl_cl[c]? = some r) (hkd : σ.1 q = (c + 5, n)) : t_OB (ad q) (Y.1.1.1 c) r.2.2 (Y.1.1.2 c) H (fun k => pl_gv ad (pl_rt (c + 5) k) (σ.2.1 q k)) := by
  have h4 := (pl_len c r hc).1
  have hl : pl_live σ q := by unfold pl_live; rw [hkd]; simp
  have ha := h.2.1.1 q hl
  rw [hkd] at ha
  unfold pl_at at ha
  rw [if_neg (by simp), if_pos (by show c + 5 < 9; omega)] at ha
  obtain ⟨r', h1, h2⟩ := ha
  simp only [Nat.add_sub_cancel] at h1 h2
  have hr : r' = r := Option.some.inj (h1.symm.trans hc)
  rw [hr] at h2
  exact h2
theorem pl_In.arr {ad : Nat → Nat} {H : Heap} {locs : List Loc} {ls : Array Slot} (h : pl_In X Y σ L ad H locs ls) {q c n : Nat} (hkd : σ.1 q = (c, n)) (h0 : c ≠ 0) (h5 : c < 5) : H[ad q]? = some (arrV (Y.1.2.1 c) n (fun j => pl_av ad c (σ.2.1 q j))) := by
  have hl : pl_live σ q := by unfold pl_live; rw [hkd]; exact h0
  have ha := h.2.1.1 q hl
  rw [hkd] at ha
  unfold pl_at at ha
  rw [if_pos h5] at ha
  exact ha
theorem pl_In.put {ad : Nat → Nat} {H H1 : Heap} {locs : List Loc} {ls : Array Slot} (h : pl_In X Y σ L ad H locs ls) {q k : Nat} {x : Int32} (hl : pl_live σ q) (h9 : (σ.1 q).1 ≠ 9) (hx : pl_rt (σ.1 q).1 k = true → pl_ok σ x)
    (he : pl_at Y.1 ad q (σ.1 q) (fun b => if b = k then x else σ.2.1 q b) H1) (hz : H1.size = H.size) (ho : ∀ a, a ≠ ad q → H1[a]? = H[a]?) (j : Nat) : pl_In X Y (pl_put σ q k x) L ad H1 (locs ++ [⟨ad q, j⟩]) ls := by
  refine ⟨h.1, h.2.1.put hl hx he ho, ⟨by rw [hz]; exact h.2.2.1.1, fun a h1 h2 => (ho a (fun z => h2 (by rw [z]; exact h.2.2.2.2.1 q hl h9))).trans (h.2.2.1.2 a h1 h2)⟩, fun p hp => ?_, h.2.2.2.2.1, h.2.2.2.2.2.1, h.2.2.2.2.2.2.1, h.2.2.2.2.2.2.2⟩
  rcases List.mem_append.mp hp with hp | hp
  · exact h.2.2.2.1 p hp
  · rw [List.mem_singleton.mp hp]
    exact h.2.2.2.2.1 q hl h9
theorem pl_lv_rv {x : Int32} (h : pl_ok σ x) : pl_lvv σ.1 (pl_rv x) := by
  unfold pl_rv
  rcases h with h | h
  · rw [if_pos h]; trivial
  · by_cases hx : x = -1
    · rw [if_pos hx]; trivial
    · rw [if_neg hx]; exact h
theorem pl_lv_sv {ad : Nat → Nat} {H : Heap} {locs : List Loc} {ls : Array Slot} (h : pl_In X Y σ L ad H locs ls) {q c n k : Nat} (hkd : σ.1 q = (c + 5, n)) : pl_lvv σ.1 (pl_sv (c + 5) k (σ.2.1 q k)) := by
  unfold pl_sv
  by_cases hr : pl_rt (c + 5) k = true
  · rw [if_pos hr]
    exact pl_lv_rv (h.2.1.2.2.1 q (by unfold pl_live; rw [hkd]; simp) k (by rw [hkd]; exact hr))
  · rw [if_neg hr]; trivial
/-- getfield -/
theorem j_get (F : pl_Fx X Y own cc) (c k : Nat) {ref : String} {idx q n : Nat} {r : vw_C} (hc : pl_cl[c]? = some r) (hk : k < r.2.2) (hw : Cond.fieldLink own idx ref (r.2.1 k).2.1 (r.2.1 k).2.2.1 ∈ pl_T) (href : (r.2.1 k).1 = ref)
    (hd : decode cc pc = .ok (.getfield idx, 3)) (hkd : σ.1 q = (c + 5, n)) (kk : pl_J X Y σ (pc + 3) L (pl_sv (c + 5) k (σ.2.1 q k) :: st)) : pl_J X Y σ pc L (.ref q :: st) := by
  intro ad H locs ls h hL hs
  obtain ⟨cell, q1, q2, q3, q4⟩ := h.obj hc hkd
  obtain ⟨hS, hfc, kC, hkC, hkind⟩ := F.2.2.2.2.1.1.1 c _ hc
  obtain ⟨cf, kf, fi, f, hi, hsl⟩ := hS k hk
  refine W.getf F.1 F.2.1 F.2.2.1 (F.2.2.2.1 _ hw) (href ▸ hi) (u_facts hfc hkC (u_lays F.2.2.2.1 (pl_lays_in c r hc) hk) hi).1 q1 (by rw [q3]; exact fun h => by cases h) (v := pl_re ad (pl_sv (c + 5) k (σ.2.1 q k))) ?_ rfl rfl hd (kk ad H locs ls h hL ⟨pl_lv_sv h hkd, hs.2⟩)
  rw [hsl, q4 k hk, pl_sv_re]
/-- putfield of a field that isn't final -/
theorem j_put (F : pl_Fx X Y own cc) (c k : Nat) {ref : String} {idx q n : Nat} {r : vw_C} (hc : pl_cl[c]? = some r) (hk : k < r.2.2) (hw : Cond.fieldLink own idx ref (r.2.1 k).2.1 (r.2.1 k).2.2.1 ∈ pl_T) (href : (r.2.1 k).1 = ref) (hfin : (r.2.1 k).2.2.2 = false)
    (hd : decode cc pc = .ok (.putfield idx, 3)) (hkd : σ.1 q = (c + 5, n)) {x : Int32} (hz : pl_ty c k = .boolean → x = 0 ∨ x = 1) (hx : pl_rt (c + 5) k = true → pl_ok σ x)
    (kk : pl_J X Y (pl_put σ q k x) (pc + 3) L st) : pl_J X Y σ pc L (pl_sv (c + 5) k x :: .ref q :: st) := by
  intro ad H locs ls h hL hs
  obtain ⟨cell, q1, q2, q3, q4⟩ := h.obj hc hkd
  have hK := F.2.2.2.2.1.1
  obtain ⟨hS, hfc, kC, hkC, hkind⟩ := hK.1 c _ hc
  obtain ⟨cf, kf, fi, f, hi, hsl⟩ := hS k hk
  obtain ⟨h4, hlen, hT⟩ := pl_len c r hc
  have hin := pl_lays_in c r hc
  have hap := va_apart (own := own) (T := r.2.1) (N := r.2.2) F.2.2.2.1 hin (pl_ty c) (pl_ty_ok c h4 r hc) (pl_nm_ok c h4 r hc) hK (show pl_cl[c]? = some (r.1, r.2.1, r.2.2) from hc)
  have hlay := F.2.2.2.1 _ (hin _ (u_in_lay hk))
  unfold u_lay at hlay
  rw [if_neg (by rw [hfin]; decide)] at hlay
  have hst := (u_facts hfc hkC (u_lays F.2.2.2.1 hin hk) hi).1
  obtain ⟨hn, hfit⟩ := pl_fit hc hk hz ad
  have h6 := u_store hfc hkC hkind hlay hi (pl_ty_ok c h4 r hc k hk) hn hfit
  show pl_WW X H locs _ _ (F0 (pl_xm X) pc ls (pl_re ad (pl_sv (c + 5) k x) :: .ref (ad q) :: st.map (pl_re ad)))
  rw [pl_sv_re]
  refine W.putK F.1 F.2.1 (f := f) ⟨F.2.2.1, F.2.2.2.1 _ hw, ⟨_, _, _, href ▸ hi⟩, hst⟩ (by rw [q2]; exact h6) q1 q3 (by rw [hsl]; exact k2_hasslot (q4 k hk)) rfl rfl hd fun H' e1 e2 e3 => ?_
  rw [hsl] at e1 ⊢
  have hl : pl_live σ q := by unfold pl_live; rw [hkd]; simp
  refine kk ad H' _ ls (h.put hl (by rw [hkd]; show c + 5 ≠ 9; omega) (by rw [hkd]; exact hx) ?_ e2 e3 _) hL hs.2.2
  unfold pl_at
  rw [hkd, if_neg (by simp), if_pos (by show c + 5 < 9; omega)]
  simp only [Nat.add_sub_cancel]
  refine ⟨r, hc, t_OB.to (V := updV (fun j => pl_gv ad (pl_rt (c + 5) j) (σ.2.1 q j)) k (pl_gv ad (pl_rt (c + 5) k) x)) ⟨_, e1, q2, q3, t_set q4 hap hk _⟩ (fun j _ => ?_)⟩
  by_cases hj : j = k
  · subst hj
    simp [updV]
  · simp [updV, hj]
theorem pl_av1 (ad : Nat → Nat) (x : Int32) : pl_av ad 1 x = .int x := by simp [pl_av, pl_gv, pl_rt]
theorem pl_av2 (ad : Nat → Nat) (x : Int32) : pl_av ad 2 x = .int x := by simp [pl_av, pl_gv, pl_rt]
theorem pl_av3 (ad : Nat → Nat) (x : Int32) : pl_av ad 3 x = .long x.toInt64 := by simp [pl_av]
theorem pl_av4 (ad : Nat → Nat) (x : Int32) : pl_av ad 4 x = pl_gv ad true x := by simp [pl_av, pl_rt]
theorem pl_arr_upd (ad : Nat → Nat) (cA : ClassId) (n code k : Nat) (f : Nat → Int32) (x : Int32) : (arrV cA n (fun j => pl_av ad code (f j))).setSlot k (pl_av ad code x) = arrV cA n (fun j => pl_av ad code (if j = k then x else f j)) := by
  rw [arrV_store]
  congr 1
  funext j
  by_cases hj : j = k
  · simp [updV, hj]
  · simp [updV, hj]
theorem pl_at_arr {G : pl_G} {ad : Nat → Nat} {q n code k : Nat} {f : Nat → Int32} {x : Int32} {H : Heap} (h5 : code < 5) (h : H[ad q]? = some ((arrV (G.2.1 code) n (fun j => pl_av ad code (f j))).setSlot k (pl_av ad code x))) : pl_at G ad q (code, n) (fun b => if b = k then x else f b) H := by
  unfold pl_at
  rw [if_pos h5, h, pl_arr_upd]
theorem j_iald (F : pl_Fx X Y own cc) {q n : Nat} {i : Int32} (hd : decode cc pc = .ok (.iaload, 1)) (hkd : σ.1 q = (1, n)) (hin : pl_in i n) (kk : pl_J X Y σ (pc + 1) L (.int (σ.2.1 q i.toNatClampNeg) :: st)) : pl_J X Y σ pc L (.int i :: .ref q :: st) := by
  intro ad H locs ls h hL hs
  exact W.iald (v := .int (σ.2.1 q i.toNatClampNeg)) F.1 F.2.1 (h.arr hkd (by decide) (by decide)) ((F.2.2.2.2.1.1.2 0 _ rfl).1 n _) (fun z => by cases z) (by rw [arrV_size]; exact hin.not) (by rw [arrV_read _ _ hin.lt, pl_av1]) rfl rfl hd (kk ad H locs ls h hL ⟨trivial, hs.2.2⟩)
theorem j_zald (F : pl_Fx X Y own cc) {q n : Nat} {i : Int32} (hd : decode cc pc = .ok (.baload, 1)) (hkd : σ.1 q = (2, n)) (hin : pl_in i n) (kk : pl_J X Y σ (pc + 1) L (.int (σ.2.1 q i.toNatClampNeg) :: st)) : pl_J X Y σ pc L (.int i :: .ref q :: st) := by
  intro ad H locs ls h hL hs
  exact W.zald (v := .int (σ.2.1 q i.toNatClampNeg)) F.1 F.2.1 (h.arr hkd (by decide) (by decide)) ((F.2.2.2.2.1.1.2 1 _ rfl).1 n _) (fun z => by cases z) (by rw [arrV_size]; exact hin.not) (by rw [arrV_read _ _ hin.lt, pl_av2]) rfl rfl hd (kk ad H locs ls h hL ⟨trivial, hs.2.2⟩)
theorem j_lald (F : pl_Fx X Y own cc) {q n : Nat} {i : Int32} (hd : decode cc pc = .ok (.laload, 1)) (hkd : σ.1 q = (3, n)) (hin : pl_in i n) (kk : pl_J X Y σ (pc + 1) L (.long (σ.2.1 q i.toNatClampNeg).toInt64 :: st)) : pl_J X Y σ pc L (.int i :: .ref q :: st) := by
  intro ad H locs ls h hL hs
  exact W.lald (v := .long (σ.2.1 q i.toNatClampNeg).toInt64) F.1 F.2.1 (h.arr hkd (by decide) (by decide)) ((F.2.2.2.2.1.1.2 2 _ rfl).1 n _) (fun z => by cases z) (by rw [arrV_size]; exact hin.not) (by rw [arrV_read _ _ hin.lt, pl_av3]) rfl rfl hd (kk ad H locs ls h hL ⟨trivial, hs.2.2⟩)
theorem j_aald (F : pl_Fx X Y own cc) {q n : Nat} {i : Int32} (hd : decode cc pc = .ok (.aaload, 1)) (hkd : σ.1 q = (4, n)) (hin : pl_in i n) (kk : pl_J X Y σ (pc + 1) L (pl_rv (σ.2.1 q i.toNatClampNeg) :: st)) : pl_J X Y σ pc L (.int i :: .ref q :: st) := by
  intro ad H locs ls h hL hs
  exact W.aald (v := pl_re ad (pl_rv (σ.2.1 q i.toNatClampNeg))) (ty := .object "PageLayouter$Box") F.1 F.2.1 (h.arr hkd (by decide) (by decide)) ((F.2.2.2.2.1.1.2 3 _ rfl).1 n _) rfl (fun z => by cases z) (by rw [arrV_size]; exact hin.not) (by rw [arrV_read _ _ hin.lt, pl_av4, pl_re_rv]) rfl rfl hd (kk ad H locs ls h hL ⟨pl_lv_rv (h.2.1.2.2.1 q (by unfold pl_live; rw [hkd]; simp) _ (by rw [hkd]; rfl)), hs.2.2⟩)
/-- an element of an array that nobody writes -/
theorem j_rald (F : pl_Fx X Y own cc) {q n : Nat} {i : Int32} (hd : decode cc pc = .ok (.iaload, 1)) (hkd : σ.1 q = (9, n)) (h8 : q < 4) (hin : pl_in i n) (kk : pl_J X Y σ (pc + 1) L (.int (σ.2.1 q i.toNatClampNeg) :: st)) : pl_J X Y σ pc L (.int i :: .ref q :: st) := by
  intro ad H locs ls h hL hs
  have hl : pl_live σ q := by unfold pl_live; rw [hkd]; simp
  have ha := h.2.1.1 q hl
  rw [hkd] at ha
  unfold pl_at at ha
  rw [if_neg (by simp), if_neg (by simp)] at ha
  obtain ⟨h1, h2, h3, h4⟩ := ha
  exact W.iald (v := .int (σ.2.1 q i.toNatClampNeg)) F.1 F.2.1 h1 (F.2.2.2.2.1.2.1 q h8) h2 (by rw [h3]; exact hin.not) (h4 _ hin.lt) rfl rfl hd (kk ad H locs ls h hL ⟨trivial, hs.2.2⟩)
theorem j_rlen (F : pl_Fx X Y own cc) {q n : Nat} (hd : decode cc pc = .ok (.arraylength, 1)) (hkd : σ.1 q = (9, n)) (h8 : q < 4) (kk : pl_J X Y σ (pc + 1) L (.int (Int32.ofNat n) :: st)) : pl_J X Y σ pc L (.ref q :: st) := by
  intro ad H locs ls h hL hs
  have hl : pl_live σ q := by unfold pl_live; rw [hkd]; simp
  have ha := h.2.1.1 q hl
  rw [hkd] at ha
  unfold pl_at at ha
  rw [if_neg (by simp), if_neg (by simp)] at ha
  obtain ⟨h1, h2, h3, h4⟩ := ha
  exact W.alen (n := Int32.ofNat n) F.1 F.2.1 h1 (F.2.2.2.2.1.2.1 q h8) (by rw [h3] <;> rfl) rfl rfl hd (kk ad H locs ls h hL ⟨trivial, hs.2⟩)
theorem j_iast (F : pl_Fx X Y own cc) {q n : Nat} {i x : Int32} (hd : decode cc pc = .ok (.iastore, 1)) (hkd : σ.1 q = (1, n)) (hin : pl_in i n) (kk : pl_J X Y (pl_put σ q i.toNatClampNeg x) (pc + 1) L st) : pl_J X Y σ pc L (.int x :: .int i :: .ref q :: st) := by
  intro ad H locs ls h hL hs
  have hl : pl_live σ q := by unfold pl_live; rw [hkd]; simp
  refine W.iast F.1 F.2.1 (h.arr hkd (by decide) (by decide)) ((F.2.2.2.2.1.1.2 0 _ rfl).1 n _) (fun z => by cases z) (by rw [arrV_size]; exact hin.not) rfl rfl hd fun H1 e z oq => ?_
  refine kk ad H1 _ ls (h.put hl (by rw [hkd]; simp) (by rw [hkd]; exact fun z => by cases z) ?_ z oq _) hL hs.2.2.2
  rw [hkd]
  exact pl_at_arr (by decide) (by rw [e, pl_av1])
theorem j_zast (F : pl_Fx X Y own cc) {q n : Nat} {i x : Int32} (hd : decode cc pc = .ok (.bastore, 1)) (hkd : σ.1 q = (2, n)) (hin : pl_in i n) (hx : x = 0 ∨ x = 1) (kk : pl_J X Y (pl_put σ q i.toNatClampNeg x) (pc + 1) L st) : pl_J X Y σ pc L (.int x :: .int i :: .ref q :: st) := by
  intro ad H locs ls h hL hs
  have hl : pl_live σ q := by unfold pl_live; rw [hkd]; simp
  refine W.zast F.1 F.2.1 (h.arr hkd (by decide) (by decide)) ((F.2.2.2.2.1.1.2 1 _ rfl).1 n _) (fun z => by cases z) (by rw [arrV_size]; exact hin.not) rfl rfl hd fun H1 e z oq => ?_
  refine kk ad H1 _ ls (h.put hl (by rw [hkd]; simp) (by rw [hkd]; exact fun z => by cases z) ?_ z oq _) hL hs.2.2.2
  rw [hkd]
  exact pl_at_arr (by decide) (by rw [e, pl_av2]; simp only [narrow, pl_and1 hx])
theorem j_last (F : pl_Fx X Y own cc) {q n : Nat} {i x : Int32} (hd : decode cc pc = .ok (.lastore, 1)) (hkd : σ.1 q = (3, n)) (hin : pl_in i n) (kk : pl_J X Y (pl_put σ q i.toNatClampNeg x) (pc + 1) L st) : pl_J X Y σ pc L (.long x.toInt64 :: .int i :: .ref q :: st) := by
  intro ad H locs ls h hL hs
  have hl : pl_live σ q := by unfold pl_live; rw [hkd]; simp
  refine W.last F.1 F.2.1 (h.arr hkd (by decide) (by decide)) ((F.2.2.2.2.1.1.2 2 _ rfl).1 n _) (fun z => by cases z) (by rw [arrV_size]; exact hin.not) rfl rfl hd fun H1 e z oq => ?_
  refine kk ad H1 _ ls (h.put hl (by rw [hkd]; simp) (by rw [hkd]; exact fun z => by cases z) ?_ z oq _) hL hs.2.2.2
  rw [hkd]
  exact pl_at_arr (by decide) (by rw [e, pl_av3])
theorem j_aast (F : pl_Fx X Y own cc) {q n n' : Nat} {i x : Int32} (hd : decode cc pc = .ok (.aastore, 1)) (hkd : σ.1 q = (4, n)) (hin : pl_in i n) (hx : x ≠ -1) (hb : σ.1 x.toNatClampNeg = (6, n')) (kk : pl_J X Y (pl_put σ q i.toNatClampNeg x) (pc + 1) L st) : pl_J X Y σ pc L (pl_rv x :: .int i :: .ref q :: st) := by
  intro ad H locs ls h hL hs
  have hl : pl_live σ q := by unfold pl_live; rw [hkd]; simp
  have hl' : pl_live σ x.toNatClampNeg := by unfold pl_live; rw [hb]; simp
  have hK := F.2.2.2.2.1.1
  obtain ⟨cell, g1, g2, g3, -⟩ := h.obj (c := 1) (r := ("PageLayouter$Box", pl_F 1, 20)) rfl hb
  have hcls := (hK.1 1 ("PageLayouter$Box", pl_F 1, 20) rfl).2
  obtain ⟨kA, comp, k1, k2, k3, -⟩ := (hK.2 3 _ rfl).2
  have hcomp : comp = Y.1.1.1 1 := Option.some.inj (k3.symm.trans hcls.1)
  subst hcomp
  obtain ⟨kC, hkC, -⟩ := hcls.2
  have e0 : pl_rv x = .ref x.toNatClampNeg := by simp [pl_rv, hx]
  have ev : pl_av ad 4 x = .ref (ad x.toNatClampNeg) := by rw [pl_av4]; simp [pl_gv, hx]
  show pl_WW X H locs _ _ (F0 (pl_xm X) pc ls (pl_re ad (pl_rv x) :: .int i :: .ref (ad q) :: st.map (pl_re ad)))
  rw [e0]
  refine W.aast F.1 F.2.1 (h.arr hkd (by decide) (by decide)) (fun z hz => by cases hz) (fun z => by cases z) k1 k2 rfl hkC ⟨fun z => hin.not (Or.inl z), by rw [arrV_size]; exact hin.lt⟩ g1 (fun z hz => by rw [g3] at hz; cases hz) (by rw [g2]; exact hkC) (by rw [g2]; exact va_assign hcls) rfl rfl hd fun H1 e z oq => ?_
  refine kk ad H1 _ ls (h.put hl (by rw [hkd]; simp) (fun _ => Or.inr hl') ?_ z oq _) hL hs.2.2.2
  rw [hkd]
  exact pl_at_arr (by decide) (by rw [e, ev])
/-- a static array of the system's: by its own name, or by a nest mate's -/
theorem j_gets (F : pl_Fx X Y own cc) {idx : Nat} (z : Nat) {nm : String} {n : Nat} (hZ : va_Z "PageLayouter" nm "[I" (.ref (Y.1.2.2.2 z)) (pl_fr Y) (pl_xs X) (pl_xs X).heap) (hw : Cond.fieldLink own idx "PageLayouter" nm "[I" ∈ pl_T) (hd : decode cc pc = .ok (.getstatic idx, 3)) (hkd : σ.1 z = (9, n)) (kk : pl_J X Y σ (pc + 3) L (.ref z :: st)) : pl_J X Y σ pc L st := by
  intro ad H locs ls h hL hs
  have hl : pl_live σ z := by unfold pl_live; rw [hkd]; simp
  have e := h.2.1.2.2.2 z hl (by rw [hkd])
  refine va_gets F.1 F.2.1 hZ h.S F.2.2.1 (F.2.2.2.1 _ hw) (fun x hx => hx) hd ?_
  rw [← e]
  exact kk ad H locs ls h hL ⟨hl, hs⟩
theorem j_getsN (F : pl_Fx X Y own cc) {idx : Nat} (z : Nat) {nm host : String} {n : Nat} (hZ : va_Z "PageLayouter" nm "[I" (.ref (Y.1.2.2.2 z)) (pl_fr Y) (pl_xs X) (pl_xs X).heap) (hw : Cond.fieldLinkNest own idx "PageLayouter" nm "[I" host ∈ pl_N) (hd : decode cc pc = .ok (.getstatic idx, 3)) (hkd : σ.1 z = (9, n)) (kk : pl_J X Y σ (pc + 3) L (.ref z :: st)) : pl_J X Y σ pc L st := by
  intro ad H locs ls h hL hs
  have hl : pl_live σ z := by unfold pl_live; rw [hkd]; simp
  have e := h.2.1.2.2.2 z hl (by rw [hkd])
  refine va_getsN F.1 F.2.1 hZ h.S F.2.2.1 (va_Nw.use rfl (F.2.2.2.2.1.2.2 _ hw)) (fun x hx => hx) hd ?_
  rw [← e]
  exact kk ad H locs ls h hL ⟨hl, hs⟩
end Cells
