/-! 05 A method's end, its contract, and calls -/
abbrev pl_P : Type := Nat → Option Value → pl_S → Prop
def pl_exn : Nat → String
  | 0 => "java/lang/IndexOutOfBoundsException"
  | 1 => "java/lang/IllegalArgumentException"
  | 2 => "java/lang/IllegalStateException"
  | _ => "java/lang/UnsupportedOperationException"
def pl_Qm (Y : pl_Y) (P : pl_P) : Array Value → State → Outcome → State → Prop := fun _ st o t =>
  (st.heap.size ≤ t.heap.size ∧ ∀ a : Nat, a < st.heap.size → ¬ pl_fr Y a → t.heap[a]? = st.heap[a]?) ∧ pl_KK Y.1 t ∧ ∃ (ad : Nat → Nat) (σ : pl_S), pl_Agr Y ad ∧ pl_Rep Y.1 ad σ t.heap ∧ (∀ q, pl_live σ q → (σ.1 q).1 ≠ 9 → pl_fr Y (ad q)) ∧ (∀ q, Y.2.2.1 q → pl_live σ q) ∧
    (pl_c0 Y ≤ σ.2.2.1 ∧ σ.2.2.1 ≤ pl_c0 Y + pl_mc Y ∧ pl_s0 Y ≤ σ.2.2.2 ∧ σ.2.2.2 ≤ pl_s0 Y + pl_ms Y) ∧
    ∃ r : Option Value, o = .returned (r.map (pl_re ad)) ∧ pl_lvl σ.1 r.toList ∧ P 0 r σ
def pl_Rt (X : pl_X) (Y : pl_Y) (P : pl_P) : Prop := ∀ t : State, MQ (pl_xb X) (pl_Qm Y P) (pl_xa X) (pl_xs X) (pl_mc Y) (pl_ms Y) (pl_fr Y) t → pl_xQ X t
theorem pl_Wmono {p : Program} {l : Launch} {e : Env} {R : Room} {s : State} {m : MethodId} {args : Array Value} {below : List Frame} {meth : Method} {c : Code} {H : Heap} {locs : List Loc} {cells slots : Nat} {Q Q' : State → Prop} {g : JFrame} (h : ∀ t, Q t → Q' t) (k : W p l e R s m args below meth c H locs cells slots Q g) : W p l e R s m args below meth c H locs cells slots Q' g := by
  intro T hT X
  obtain ⟨t, a, b⟩ := k T hT X
  exact ⟨t, a, h t b⟩
section Ends
variable {X : pl_X} {Y : pl_Y} {own : String} {cc : ByteArray} {σ : pl_S} {pc : Nat} {L st : List Value} {P : pl_P}
theorem pl_In.done {ad : Nat → Nat} {H : Heap} {locs : List Loc} {ls : Array Slot} (F : pl_Fx X Y own cc) (h : pl_In X Y σ L ad H locs ls) {r : Option Value} (hl : pl_lvl σ.1 r.toList) (hp : P 0 r σ) {t : State} (ht : t.heap = H) (hW : (pl_xs X).WarmedH t.vm) : pl_Qm Y P (pl_xa X) (pl_xs X) (.returned (r.map (pl_re ad))) t :=
  ⟨⟨by rw [ht]; exact h.2.2.1.1, fun a h1 h2 => by rw [ht]; exact h.2.2.1.2 a h1 h2⟩, F.2.2.2.2.1.moved hW, ad, σ, h.1, by rw [ht]; exact h.2.1, h.2.2.2.2.1, h.2.2.2.2.2.2.1, h.2.2.2.2.2.2.2, r, rfl, hl, hp⟩
theorem j_iret (F : pl_Fx X Y own cc) (hq : pl_Rt X Y P) {ty : FieldType} {x : Int32} (hr : (pl_xt X).sig.returnType = some ty) (hn : narrow ty (.int x) = .int x) (hd : decode cc pc = .ok (.ireturn, 1)) (hp : P 0 (some (.int x)) σ) : pl_J X Y σ pc L [.int x] := by
  intro ad H locs ls h hL hs
  have hc := h.2.2.2.2.2.2.2
  show W X.1 X.2.1 X.2.2.1 (pl_xR X) (pl_xs X) (pl_xm X) (pl_xa X) (pl_xb X) (pl_xt X) (pl_xc X) H locs _ _ (pl_xQ X) (F0 (pl_xm X) pc ls [.int x])
  refine pl_Wmono hq ?_
  refine W.widen (k := pl_mc Y) (n := pl_ms Y) (by omega) (by omega) ?_
  exact W.zret F.1 F.2.1 hr hn (fun t ht hW => h.done F (r := (some (.int x))) hs hp ht hW) h.2.2.2.1 hd F.2.2.2.2.2.1
theorem j_lret (F : pl_Fx X Y own cc) (hq : pl_Rt X Y P) {x : Int64} (hr : (pl_xt X).sig.returnType = some .long) (hd : decode cc pc = .ok (.lreturn, 1)) (hp : P 0 (some (.long x)) σ) : pl_J X Y σ pc L [.long x] := by
  intro ad H locs ls h hL hs
  have hc := h.2.2.2.2.2.2.2
  show W X.1 X.2.1 X.2.2.1 (pl_xR X) (pl_xs X) (pl_xm X) (pl_xa X) (pl_xb X) (pl_xt X) (pl_xc X) H locs _ _ (pl_xQ X) (F0 (pl_xm X) pc ls [.long x])
  refine pl_Wmono hq ?_
  refine W.widen (k := pl_mc Y) (n := pl_ms Y) (by omega) (by omega) ?_
  exact W.lret F.1 F.2.1 hr (fun t ht hW => h.done F (r := (some (.long x))) hs hp ht hW) h.2.2.2.1 hd F.2.2.2.2.2.1
theorem j_vret (F : pl_Fx X Y own cc) (hq : pl_Rt X Y P) (hr : (pl_xt X).sig.returnType = none) (hd : decode cc pc = .ok (.return_, 1)) (hp : P 0 none σ) : pl_J X Y σ pc L [] := by
  intro ad H locs ls h hL hs
  have hc := h.2.2.2.2.2.2.2
  show W X.1 X.2.1 X.2.2.1 (pl_xR X) (pl_xs X) (pl_xm X) (pl_xa X) (pl_xb X) (pl_xt X) (pl_xc X) H locs _ _ (pl_xQ X) (F0 (pl_xm X) pc ls [])
  refine pl_Wmono hq ?_
  refine W.widen (k := pl_mc Y) (n := pl_ms Y) (by omega) (by omega) ?_
  exact W.vret F.1 F.2.1 hr (fun t ht hW => h.done F (r := none) hs hp ht hW) h.2.2.2.1 hd F.2.2.2.2.2.1
theorem j_aret (F : pl_Fx X Y own cc) (hq : pl_Rt X Y P) {rt : FieldType} {v : Value} (hr : (pl_xt X).sig.returnType = some rt) (hrt : (∃ n, rt = .object n) ∨ ∃ t, rt = .array t) (hv : v.isRef = true) (hd : decode cc pc = .ok (.areturn, 1)) (hp : P 0 (some v) σ) : pl_J X Y σ pc L [v] := by
  intro ad H locs ls h hL hs
  have hc := h.2.2.2.2.2.2.2
  show W X.1 X.2.1 X.2.2.1 (pl_xR X) (pl_xs X) (pl_xm X) (pl_xa X) (pl_xb X) (pl_xt X) (pl_xc X) H locs _ _ (pl_xQ X) (F0 (pl_xm X) pc ls [pl_re ad v])
  refine pl_Wmono hq ?_
  refine W.widen (k := pl_mc Y) (n := pl_ms Y) (by omega) (by omega) ?_
  refine W.aret F.1 F.2.1 hr hrt ?_ (fun t ht hW => h.done F (r := (some v)) hs hp ht hW) h.2.2.2.1 hd F.2.2.2.2.2.1
  cases v with
  | ref q => exact Or.inr ⟨ad q, rfl⟩
  | null => exact Or.inl rfl
  | _ => simp [Value.isRef] at hv
def s_reti (P : pl_P) (e : pl_E Int32) : pl_ST := fun L σ _ => e L σ (fun x σ1 => P 0 (some (.int x)) σ1)
def s_retz (P : pl_P) (e : pl_E Int32) : pl_ST := fun L σ _ => e L σ (fun x σ1 => (x = 0 ∨ x = 1) ∧ P 0 (some (.int x)) σ1)
def s_retl (P : pl_P) (e : pl_E Int64) : pl_ST := fun L σ _ => e L σ (fun x σ1 => P 0 (some (.long x)) σ1)
def s_retr (P : pl_P) (e : pl_E Value) : pl_ST := fun L σ _ => e L σ (fun v σ1 => v.isRef = true ∧ P 0 (some v) σ1)
def s_retv (P : pl_P) : pl_ST := fun _ σ _ => P 0 none σ
variable {p1 p2 pe : Nat}
theorem d_reti (F : pl_Fx X Y own cc) (hq : pl_Rt X Y P) (hr : (pl_xt X).sig.returnType = some .int) {e : pl_E Int32} (he : pl_C X Y Value.int 0 pc e p1) (hd : decode cc p1 = .ok (.ireturn, 1)) : pl_D X Y pc (s_reti P e) pe :=
  fun L σ K _ h => he L [] σ _ pl_wd0 (fun x σ1 h1 => j_iret F hq hr rfl hd h1) h
theorem d_retz (F : pl_Fx X Y own cc) (hq : pl_Rt X Y P) (hr : (pl_xt X).sig.returnType = some .boolean) {e : pl_E Int32} (he : pl_C X Y Value.int 0 pc e p1) (hd : decode cc p1 = .ok (.ireturn, 1)) : pl_D X Y pc (s_retz P e) pe :=
  fun L σ K _ h => he L [] σ _ pl_wd0 (fun x σ1 h1 => j_iret F hq hr (by simp only [narrow, pl_and1 h1.1]) hd h1.2) h
theorem d_retl (F : pl_Fx X Y own cc) (hq : pl_Rt X Y P) (hr : (pl_xt X).sig.returnType = some .long) {e : pl_E Int64} (he : pl_C X Y Value.long 0 pc e p1) (hd : decode cc p1 = .ok (.lreturn, 1)) : pl_D X Y pc (s_retl P e) pe :=
  fun L σ K _ h => he L [] σ _ pl_wd0 (fun x σ1 h1 => j_lret F hq hr hd h1) h
theorem d_retr (F : pl_Fx X Y own cc) (hq : pl_Rt X Y P) {rt : String} (hr : (pl_xt X).sig.returnType = some (.object rt)) {e : pl_E Value} (he : pl_C X Y id 0 pc e p1) (hd : decode cc p1 = .ok (.areturn, 1)) : pl_D X Y pc (s_retr P e) pe :=
  fun L σ K _ h => he L [] σ _ pl_wd0 (fun v σ1 h1 => j_aret F hq hr (Or.inl ⟨rt, rfl⟩) h1.1 hd h1.2) h
theorem d_retv (F : pl_Fx X Y own cc) (hq : pl_Rt X Y P) (hr : (pl_xt X).sig.returnType = none) (hd : decode cc pc = .ok (.return_, 1)) : pl_D X Y pc (s_retv P) pe :=
  fun L σ K _ h => j_vret F hq hr hd h
end Ends
def pl_frO (ad0 : Nat → Nat) (σ0 : pl_S) (sz : Nat) : Nat → Prop := fun a => (∃ q, pl_live σ0 q ∧ (σ0.1 q).1 ≠ 9 ∧ a = ad0 q) ∨ sz ≤ a
/-- the contract of a method: what its transformer promises -/
def pl_Pm (G : pl_G) (ad0 : Nat → Nat) (σ0 : pl_S) (sz : Nat) (vs : List Value) : Array Value → State → Prop := fun a U => a = (vs.map (pl_re ad0)).toArray ∧ U.heap.size = sz ∧ pl_KK G U ∧ pl_Rep G ad0 σ0 U.heap ∧ pl_Zs G (pl_frO ad0 σ0 sz) U U.heap
theorem pl_Pm_blind (G : pl_G) (ad0 : Nat → Nat) (σ0 : pl_S) (sz : Nat) (vs : List Value) : FrameBlind (pl_Pm G ad0 σ0 sz vs) := fun a U g mk h => ⟨h.1, h.2.1, pl_KK.same (u := U) (U := U.calling g mk a) rfl h.2.2.1, h.2.2.2.1, pl_Zs.moved (u := U) (U := U.calling g mk a) (Vm.Alike.refl U.vm) h.2.2.2.2⟩
def pl_rm (d e mc ms : Nat) : Room := { frames := d, cells := mc, slots := ms, locals := e }
def pl_Yof (G : pl_G) (ad0 : Nat → Nat) (σ0 : pl_S) (al : Bool) (sz mc ms : Nat) : pl_Y := (G, ad0, pl_live σ0, al, pl_frO ad0 σ0 sz, σ0.2.2.1, σ0.2.2.2, mc, ms)
abbrev pl_TR : Type := pl_P → Nat → Nat → pl_ST
def pl_Ctr (l : Launch) (y : MethodName) (cc : ByteArray) (maxL : Nat) (ret : Option FieldType) (d e mc ms : Nat) (al : Bool) (tr : pl_TR) : Prop :=
  ∀ (G : pl_G) (ad0 : Nat → Nat) (σ0 : pl_S) (P : pl_P) (vs : List Value) (sz : Nat), (pl_fa vs).length ≤ maxL → pl_lvl σ0.1 vs → tr P (σ0.2.2.1 + mc) (σ0.2.2.2 + ms) (pl_pad vs maxL) σ0 (fun _ _ => False) →
    Met l y (Cond.code y cc maxL ret :: pl_T) (pl_rm d e mc ms) (pl_Pm G ad0 σ0 sz vs) (pl_Qm (pl_Yof G ad0 σ0 al sz mc ms) P) mc ms (pl_frO ad0 σ0 sz)
/-- what a body knows beside pl_Fx -/
def pl_Fm (X : pl_X) (Y : pl_Y) (P : pl_P) (l : Launch) (nm : String) (maxL : Nat) (ret : Option FieldType) (d e : Nat) (al : Bool) : Prop :=
  X.2.1 = l ∧ pl_Rt X Y P ∧ (pl_xt X).sig.returnType = ret ∧ (pl_xc X).maxLocals = maxL ∧ (pl_xt X).name = nm ∧ d ≤ (pl_xR X).frames ∧ e ≤ (pl_xR X).locals ∧ Y.2.2.2.1 = al
theorem pl_lv_fa {kd : Nat → Nat × Nat} : ∀ {vs : List Value}, pl_lvl kd vs → pl_lvl kd (pl_fa vs)
  | [], _ => trivial
  | w :: vs, h => by
    have e : pl_fa (w :: vs) = (if w.category = 2 then [w, pl_un] else [w]) ++ pl_fa vs := by simp [pl_fa]
    rw [e]
    refine pl_lv_app.mpr ⟨?_, pl_lv_fa h.2⟩
    split
    · exact ⟨h.1, pl_lv_un, trivial⟩
    · exact ⟨h.1, trivial⟩
theorem pl_lv_pad {kd : Nat → Nat × Nat} {vs : List Value} {n : Nat} (h : pl_lvl kd vs) : pl_lvl kd (pl_pad vs n) := by
  unfold pl_pad
  refine pl_lv_app.mpr ⟨pl_lv_fa h, pl_lv_iff.mpr (fun v hv => ?_)⟩
  rw [List.eq_of_mem_replicate hv]
  exact pl_lv_un
theorem pl_ctr_of {l : Launch} {y : MethodName} {cc : ByteArray} {maxL : Nat} {ret : Option FieldType} {d e mc ms pe : Nat} {al : Bool} {tr : pl_TR} (hy : plainName y.cls = true)
    (body : ∀ (X : pl_X) (Y : pl_Y) (P : pl_P), pl_Fx X Y y.cls cc → pl_Fm X Y P l y.name maxL ret d e al → pl_D X Y 0 (tr P (pl_c0 Y + pl_mc Y) (pl_s0 Y + pl_ms Y)) pe) : pl_Ctr l y cc maxL ret d e mc ms al tr := by
  intro G ad0 σ0 P vs sz hlen hlv htr
  refine Met.ofW (cc := cc) (maxL := maxL) (ret := ret) hy rfl ?_
  intro p ev s m args below meth c s₁ B hml hv
  obtain ⟨rfl, hsz, hK, hR, hZ⟩ := hv
  subst hsz
  have hts := atoms_spec (ws := Cond.code y cc maxL ret :: pl_T) B.pre
  let Y : pl_Y := pl_Yof G ad0 σ0 al s.heap.size mc ms
  let X : pl_X := (p, l, ev, pl_rm d e mc ms, s, m, (vs.map (pl_re ad0)).toArray, below, meth, c, MQ below (pl_Qm Y P) (vs.map (pl_re ad0)).toArray s mc ms (pl_frO ad0 σ0 s.heap.size))
  have F : pl_Fx X Y y.cls cc := ⟨B.exec, B.bytes, findClass_of_methodNamed B.named, fun w hw => hts w (List.mem_cons_of_mem _ hw), hK, B.notSynchronized, rfl, rfl, fun a ha => Or.inr ha, hZ⟩
  have Fm : pl_Fm X Y P l y.name maxL ret d e al := ⟨rfl, fun _ h => h, B.returns, hml, (name_of_methodNamed B.named B.method).1, Nat.le_refl _, Nat.le_refl _, rfl⟩
  have hLR : pl_LR ad0 ((lg_sl (vs.map (pl_re ad0)) ++ List.replicate (maxL - (lg_sl (vs.map (pl_re ad0))).length) Slot.unset).toArray) (pl_pad vs maxL) c.maxLocals := by
    rw [hml]
    exact pl_entry ad0 vs hlen
  have hin : pl_In X Y σ0 (pl_pad vs maxL) ad0 s.heap [] ((lg_sl (vs.map (pl_re ad0)) ++ List.replicate (maxL - (lg_sl (vs.map (pl_re ad0))).length) Slot.unset).toArray) :=
    ⟨⟨fun _ => rfl, fun _ _ => rfl⟩, hR, ⟨Nat.le_refl _, fun _ _ _ => rfl⟩, fun q hq => absurd hq List.not_mem_nil, fun q hq h9 => Or.inl ⟨q, hq, h9, rfl⟩, hLR, fun q hq => hq, Nat.le_refl _, Nat.le_add_right _ _, Nat.le_refl _, Nat.le_add_right _ _⟩
  have hj := body X Y P F Fm (pl_pad vs maxL) σ0 (fun _ _ => False) (fun _ _ h => h.elim) htr ad0 s.heap [] _ hin (pl_lv_pad hlv) trivial
  have hj2 : W p l ev (pl_rm d e mc ms) s m (vs.map (pl_re ad0)).toArray below meth c s.heap [] (σ0.2.2.1 - σ0.2.2.1) (σ0.2.2.2 - σ0.2.2.2) (MQ below (pl_Qm Y P) (vs.map (pl_re ad0)).toArray s mc ms (pl_frO ad0 σ0 s.heap.size)) (F0 m 0 ((lg_sl (vs.map (pl_re ad0)) ++ List.replicate (maxL - (lg_sl (vs.map (pl_re ad0))).length) Slot.unset).toArray) []) := hj
  rw [Nat.sub_self, Nat.sub_self] at hj2
  rw [lg_entry_eq]
  exact hj2
section Call
variable {X : pl_X} {Y : pl_Y} {own : String} {cc : ByteArray} {σ : pl_S} {pc : Nat} {L rest vs : List Value} {P : pl_P}
theorem pl_re_wd (ad : Nat → Nat) (st : List Value) : ((st.map (pl_re ad)).map fun v => v.category).sum = pl_wd st := by
  unfold pl_wd
  rw [List.map_map]
  congr 1
  apply List.map_congr_left
  intro v _
  exact pl_re_cat ad v
theorem pl_In.frO {ad : Nat → Nat} {H : Heap} {locs : List Loc} {ls : Array Slot} (F : pl_Fx X Y own cc) (h : pl_In X Y σ L ad H locs ls) : ∀ a, pl_frO ad σ H.size a → pl_fr Y a := by
  intro a ha
  rcases ha with ⟨q, q1, q2, rfl⟩ | ha
  · exact h.2.2.2.2.1 q q1 q2
  · exact F.2.2.2.2.2.2.2.2.1 a (Nat.le_trans h.2.2.1.1 ha)
/-- what a callee may rest on -/
theorem pl_In.pre {ad : Nat → Nat} {H : Heap} {locs : List Loc} {ls : Array Slot} (F : pl_Fx X Y own cc) (h : pl_In X Y σ L ad H locs ls) (vs : List Value) {U : State} (hU : U.heap = H) (hW : (pl_xs X).WarmedH U.vm) : pl_Pm Y.1 ad σ H.size vs (vs.map (pl_re ad)).toArray U := by
  refine ⟨rfl, by rw [hU], F.2.2.2.2.1.moved hW, by rw [hU]; exact h.2.1, ?_⟩
  rw [hU]
  exact ((F.2.2.2.2.2.2.2.2.2.kept (fun a h1 h2 => h.2.2.1.2 a h1 h2)).narrow (h.frO F)).moved hW.alike
/-- behind a call that makes nothing -/
theorem j_after (F : pl_Fx X Y own cc)
    (hrun : pl_lvl σ.1 vs → ∀ (ad : Nat → Nat) (H : Heap) (locs : List Loc) (ls : Array Slot), pl_In X Y σ L ad H locs ls → va_Run X.1 X.2.1 X.2.2.1 (pl_xR X) (pl_xs X) (pl_xm X) (pl_xa X) (pl_xb X) (pl_xt X) (pl_xc X) H locs (σ.2.2.1 - pl_c0 Y) (σ.2.2.2 - pl_s0 Y) 0 0
      (F0 (pl_xm X) pc ls ((vs.reverse ++ rest).map (pl_re ad))) (rest.map (pl_re ad)) (pl_Qm (pl_Yof Y.1 ad σ false H.size 0 0) P (vs.map (pl_re ad)).toArray) (pl_frO ad σ H.size))
    (kk : ∀ r σ', P 0 r σ' → pl_J X Y σ' (pc + 3) L (r.toList ++ rest)) : pl_J X Y σ pc L (vs.reverse ++ rest) := by
  intro ad H locs ls h hL0 hs T hT X0
  have hvs := pl_lv_app.mp hs
  obtain ⟨v, st₀, t, T', L2, h0, X', hL, e1, e2, hQ, st⟩   := hrun (pl_lv_rev.mp hvs.1) ad H locs ls h T hT X0
  obtain ⟨⟨hz, hun⟩, hK, ad', σ', hA, hR, hf, hl, hc, r, hr, hlr, hp⟩ := hQ
  have had : ad' = ad := hA.1 rfl
  subst had
  have hv : v = r.map (pl_re ad') := Outcome.returned.inj hr
  subst hv
  rw [h0] at hz hun
  have hc' : σ'.2.2.1 = σ.2.2.1 ∧ σ'.2.2.2 = σ.2.2.2 := by
    have a1 : σ.2.2.1 ≤ σ'.2.2.1 := hc.1
    have a2 : σ'.2.2.1 ≤ σ.2.2.1 + 0 := hc.2.1
    have a3 : σ.2.2.2 ≤ σ'.2.2.2 := hc.2.2.1
    have a4 : σ'.2.2.2 ≤ σ.2.2.2 + 0 := hc.2.2.2
    exact ⟨by omega, by omega⟩
  have hfr := h.frO F
  have hin : pl_In X Y σ' L ad' T'.heap (locs ++ L2) ls := by
    refine ⟨h.1, by rw [e1]; exact hR, ⟨by rw [e1]; exact Nat.le_trans h.2.2.1.1 hz, fun a h1 h2 => ?_⟩, fun q hq => ?_, fun q hq h9 => hfr _ (hf q hq h9), h.2.2.2.2.2.1, fun q hq => hl q (h.2.2.2.2.2.2.1 q hq), ?_⟩
    · rw [e1, hun a (Nat.lt_of_lt_of_le h1 h.2.2.1.1) (fun z => h2 (hfr a z))]
      exact h.2.2.1.2 a h1 h2
    · rcases List.mem_append.mp hq with hq | hq
      · exact h.2.2.2.1 q hq
      · exact hfr _ (hL q hq)
    · rw [hc'.1, hc'.2]
      exact h.2.2.2.2.2.2.2
  have hg := kk r σ' hp ad' T'.heap (locs ++ L2) ls hin (pl_lv_mono hl hL0) (pl_lv_app.mpr ⟨hlr, pl_lv_mono hl hvs.2⟩)
  rw [hc'.1, hc'.2] at hg
  have hst : (r.toList ++ rest).map (pl_re ad') = (r.map (pl_re ad')).toList ++ rest.map (pl_re ad') := by cases r <;> simp
  rw [hst] at hg
  obtain ⟨t2, a1, b1⟩ := hg T' rfl X'
  exact ⟨t2, st t2 a1, b1⟩
end Call
