/-! 06 Calls by their kinds -/
abbrev pl_A : Type := List Value → pl_S → (List Value → pl_S → Prop) → Prop
def a_nil : pl_A := fun _ σ K => K [] σ
def a_i (a : pl_A) (e : pl_E Int32) : pl_A := fun L σ K => a L σ (fun vs σ1 => e L σ1 (fun x σ2 => K (vs ++ [.int x]) σ2))
def a_l (a : pl_A) (e : pl_E Int64) : pl_A := fun L σ K => a L σ (fun vs σ1 => e L σ1 (fun x σ2 => K (vs ++ [.long x]) σ2))
def a_r (a : pl_A) (e : pl_E Value) : pl_A := fun L σ K => a L σ (fun vs σ1 => e L σ1 (fun v σ2 => v.isRef = true ∧ K (vs ++ [v]) σ2))
def pl_AA (X : pl_X) (Y : pl_Y) (n k m pc : Nat) (a : pl_A) (pc' : Nat) : Prop :=
  ∀ (L st : List Value) (σ : pl_S) (K : List Value → pl_S → Prop), pl_wd st ≤ n → (∀ vs σ', pl_wd vs = k → vs.length = m → K vs σ' → pl_J X Y σ' pc' L (vs.reverse ++ st)) → a L σ K → pl_J X Y σ pc L st
theorem pl_wd_app (a b : List Value) : pl_wd (a ++ b) = pl_wd a + pl_wd b := by simp [pl_wd]
theorem pl_wd_rev (a : List Value) : pl_wd a.reverse = pl_wd a := by
  induction a with
  | nil => rfl
  | cons v a ih => rw [List.reverse_cons, pl_wd_app, ih, pl_wd_cons, pl_wd_cons]; simp [pl_wd]; omega
theorem pl_fa_wd (vs : List Value) : (pl_fa vs).length = pl_wd vs := by
  induction vs with
  | nil => rfl
  | cons w vs ih =>
    have e2 : pl_fa (w :: vs) = (if w.category = 2 then [w, pl_un] else [w]) ++ pl_fa vs := by simp [pl_fa]
    rw [e2, List.length_append, ih, pl_wd_cons]
    rcases lv_cat w with hc | hc
    · simp [hc]
    · simp [hc]
theorem pl_isRef_cat {v : Value} (h : v.isRef = true) : v.category = 1 := by cases v <;> first | rfl | simp [Value.isRef] at h
theorem pl_goodc {y : MethodName} {bytes : ByteArray} {maxL : Nat} {ret : Option FieldType} (h : Cond.code y bytes maxL ret ∈ pl_T) : GoodIn pl_T (Cond.code y bytes maxL ret :: pl_T) := by
  intro w hw
  rcases List.mem_cons.mp hw with rfl | hw
  · exact pl_good _ h
  · exact pl_good _ hw
def pl_MS (y : MethodName) (bytes : ByteArray) (maxL : Nat) (ret : Option FieldType) (n : Nat) : Prop :=
  Cond.code y bytes maxL ret ∈ pl_T ∧ Cond.static y ∈ pl_T ∧ Cond.initialized y.cls ∈ pl_T ∧ (y.cls ≠ "java/lang/invoke/MethodHandle" ∧ y.cls ≠ "java/lang/invoke/VarHandle" ∧ (parseMethodDescriptor y.desc).map (fun d => d.parameters.length) = some n)
def pl_MV (c : Nat) (y : MethodName) (bytes : ByteArray) (maxL : Nat) (ret : Option FieldType) (n : Nat) : Prop :=
  Cond.code y bytes maxL ret ∈ pl_T ∧ Cond.instanceMethod y ∈ pl_T ∧ Cond.selects y.cls y y ∈ pl_T ∧ Cond.initialized y.cls ∈ pl_T ∧ (y.cls ≠ "java/lang/invoke/MethodHandle" ∧ y.cls ≠ "java/lang/invoke/VarHandle" ∧ (parseMethodDescriptor y.desc).map (fun d => d.parameters.length) = some n) ∧ ∃ r : vw_C, pl_cl[c]? = some r ∧ r.1 = y.cls
section Invoke
variable {X : pl_X} {Y : pl_Y} {own : String} {cc : ByteArray} {n k m pc p1 p2 : Nat}
theorem a_nil_ok : pl_AA X Y n 0 0 pc a_nil pc := fun L st σ K hw hk h => hk [] σ rfl rfl h
theorem a_i_ok {a : pl_A} {e : pl_E Int32} (ha : pl_AA X Y n k m pc a p1) (he : pl_C X Y Value.int (n + k) p1 e p2) : pl_AA X Y n (k + 1) (m + 1) pc (a_i a e) p2 :=
  fun L st σ K hw hk h => ha L st σ _ hw (fun vs σ1 h1 h2 h3 => he L (vs.reverse ++ st) σ1 _ (by rw [pl_wd_app, pl_wd_rev]; omega) (fun x σ2 h4 => by
    have h5 := hk (vs ++ [.int x]) σ2 (by rw [pl_wd_app, h1]; simp [pl_wd, Value.category]) (by simp [h2]) h4
    simpa using h5) h3) h
theorem a_l_ok {a : pl_A} {e : pl_E Int64} (ha : pl_AA X Y n k m pc a p1) (he : pl_C X Y Value.long (n + k) p1 e p2) : pl_AA X Y n (k + 2) (m + 1) pc (a_l a e) p2 :=
  fun L st σ K hw hk h => ha L st σ _ hw (fun vs σ1 h1 h2 h3 => he L (vs.reverse ++ st) σ1 _ (by rw [pl_wd_app, pl_wd_rev]; omega) (fun x σ2 h4 => by
    have h5 := hk (vs ++ [.long x]) σ2 (by rw [pl_wd_app, h1]; simp [pl_wd, Value.category]) (by simp [h2]) h4
    simpa using h5) h3) h
theorem a_r_ok {a : pl_A} {e : pl_E Value} (ha : pl_AA X Y n k m pc a p1) (he : pl_C X Y id (n + k) p1 e p2) : pl_AA X Y n (k + 1) (m + 1) pc (a_r a e) p2 :=
  fun L st σ K hw hk h => ha L st σ _ hw (fun vs σ1 h1 h2 h3 => he L (vs.reverse ++ st) σ1 _ (by rw [pl_wd_app, pl_wd_rev]; omega) (fun v σ2 h4 => by
    have hc := pl_isRef_cat h4.1
    have h5 := hk (vs ++ [v]) σ2 (by rw [pl_wd_app, h1]; simp [pl_wd, hc]) (by simp [h2]) h4.2
    simpa using h5) h3) h
variable {σ : pl_S} {L rest vs : List Value} {P : pl_P} {y : MethodName} {bytes : ByteArray} {maxL d e idx c : Nat} {ret : Option FieldType} {tr : pl_TR}
abbrev pl_Run (X : pl_X) (Y : pl_Y) (σ : pl_S) (pc : Nat) (L vs rest : List Value) (P : pl_P) : Prop :=
  pl_lvl σ.1 vs → ∀ (ad : Nat → Nat) (H : Heap) (locs : List Loc) (ls : Array Slot), pl_In X Y σ L ad H locs ls → va_Run X.1 X.2.1 X.2.2.1 (pl_xR X) (pl_xs X) (pl_xm X) (pl_xa X) (pl_xb X) (pl_xt X) (pl_xc X) H locs (σ.2.2.1 - pl_c0 Y) (σ.2.2.2 - pl_s0 Y) 0 0
      (F0 (pl_xm X) pc ls ((vs.reverse ++ rest).map (pl_re ad))) (rest.map (pl_re ad)) (pl_Qm (pl_Yof Y.1 ad σ false H.size 0 0) P (vs.map (pl_re ad)).toArray) (pl_frO ad σ H.size)
theorem pl_room {ad : Nat → Nat} {H : Heap} {locs : List Loc} {ls : Array Slot} (F : pl_Fx X Y own cc) (h : pl_In X Y σ L ad H locs ls) : σ.2.2.1 - pl_c0 Y + 0 ≤ (pl_xR X).cells ∧ σ.2.2.2 - pl_s0 Y + 0 ≤ (pl_xR X).slots := by
  have hc := h.2.2.2.2.2.2.2
  have h1 := F.2.2.2.2.2.2.1
  have h2 := F.2.2.2.2.2.2.2.1
  exact ⟨by omega, by omega⟩
theorem pl_runS (F : pl_Fx X Y own cc) (hM : pl_Ctr X.2.1 y bytes maxL ret d e 0 0 false tr) (hm : pl_MS y bytes maxL ret vs.length) (hl : Cond.methodLink own idx y ∈ pl_T) (hR : d + 1 ≤ (pl_xR X).frames ∧ 8 + (maxL + 11) + e ≤ (pl_xR X).locals) (hw : pl_wd rest ≤ 8) (hdg : decode cc pc = .ok (.invokestatic idx, 3)) (hlen : pl_wd vs ≤ maxL)
    (htr : tr P σ.2.2.1 σ.2.2.2 (pl_pad vs maxL) σ (fun _ _ => False)) : pl_Run X Y σ pc L vs rest P := by
  intro hlv ad H locs ls h
  obtain ⟨h1, h2, h3, h4⟩ := hm
  exact va_runS (As := vs.map (pl_re ad)) (rest := rest.map (pl_re ad)) (nL := (pl_xc X).maxLocals) ⟨F.1, F.2.1, rfl, F.2.2.1, F.2.2.2.1⟩ (hM Y.1 ad σ P vs H.size (by rw [pl_fa_wd]; exact hlen) hlv htr)
    ⟨callB_of vs.length F.2.2.2.1 (pl_goodc h1) rfl rfl rfl (F.2.2.2.1 _ h3) (F.2.2.2.1 _ hl) h4 hR, F.2.2.2.1 _ h2⟩
    ⟨pl_Pm_blind _ _ _ _ _, fun U hU hW => h.pre F vs hU hW⟩ rfl (by simp) h.2.2.2.2.2.1.1 (by simp) (lv_room (by rw [pl_re_wd]; exact hw)) hdg (pl_room F h)
theorem pl_runSN (F : pl_Fx X Y own cc) {host : String} (hM : pl_Ctr X.2.1 y bytes maxL ret d e 0 0 false tr) (hm : pl_MS y bytes maxL ret vs.length) (hl : Cond.methodLinkNest own idx y host ∈ pl_N) (hR : d + 1 ≤ (pl_xR X).frames ∧ 8 + (maxL + 11) + e ≤ (pl_xR X).locals) (hw : pl_wd rest ≤ 8) (hdg : decode cc pc = .ok (.invokestatic idx, 3)) (hlen : pl_wd vs ≤ maxL)
    (htr : tr P σ.2.2.1 σ.2.2.2 (pl_pad vs maxL) σ (fun _ _ => False)) : pl_Run X Y σ pc L vs rest P := by
  intro hlv ad H locs ls h
  obtain ⟨h1, h2, h3, h4⟩ := hm
  exact va_runSN (As := vs.map (pl_re ad)) (rest := rest.map (pl_re ad)) (nL := (pl_xc X).maxLocals) ⟨F.1, F.2.1, rfl, F.2.2.1, F.2.2.2.1⟩ (hM Y.1 ad σ P vs H.size (by rw [pl_fa_wd]; exact hlen) hlv htr)
    ⟨va_cnB vs.length F.2.2.2.1 (pl_goodc h1) rfl rfl rfl (F.2.2.2.2.1.2.2 _ hl) (F.2.2.2.1 _ h3) h4 hR, F.2.2.2.1 _ h2, trivial⟩
    ⟨pl_Pm_blind _ _ _ _ _, fun U hU hW => h.pre F vs hU hW⟩ rfl (by simp) h.2.2.2.2.2.1.1 (by simp) (lv_room (by rw [pl_re_wd]; exact hw)) hdg (pl_room F h)
theorem pl_runV (F : pl_Fx X Y own cc) {q nq : Nat} {as : List Value} (hkd : σ.1 q = (c + 5, nq)) (hM : pl_Ctr X.2.1 y bytes maxL ret d e 0 0 false tr) (hm : pl_MV c y bytes maxL ret as.length) (hl : Cond.methodLink own idx y ∈ pl_T) (hR : d + 1 ≤ (pl_xR X).frames ∧ 8 + (maxL + 11) + e ≤ (pl_xR X).locals) (hw : pl_wd rest ≤ 8) (hdg : decode cc pc = .ok (.invokevirtual idx, 3)) (hlen : pl_wd (.ref q :: as) ≤ maxL)
    (htr : tr P σ.2.2.1 σ.2.2.2 (pl_pad (.ref q :: as) maxL) σ (fun _ _ => False)) : pl_Run X Y σ pc L (.ref q :: as) rest P := by
  intro hlv ad H locs ls h
  obtain ⟨h1, h2, h3, h4, h5, r, hc, hr⟩ := hm
  obtain ⟨cell, g1, g2, g3, -⟩ := h.obj hc hkd
  have hcls := (F.2.2.2.2.1.1.1 c r hc).2.1
  exact va_runV (As := as.map (pl_re ad)) (b := ad q) (C := y.cls) (rest := rest.map (pl_re ad)) (nL := (pl_xc X).maxLocals) ⟨F.1, F.2.1, rfl, F.2.2.1, F.2.2.2.1⟩ (hM Y.1 ad σ P (.ref q :: as) H.size (by rw [pl_fa_wd]; exact hlen) hlv htr)
    ⟨callB_of as.length F.2.2.2.1 (pl_goodc h1) rfl rfl rfl (F.2.2.2.1 _ h4) (F.2.2.2.1 _ hl) h5 hR, F.2.2.2.1 _ h2, F.2.2.2.1 _ h3⟩
    ⟨pl_Pm_blind _ _ _ _ _, ⟨cell, g1, by rw [g3]; rfl, by rw [g2, ← hr]; exact hcls⟩, fun U hU hW => h.pre F (.ref q :: as) hU hW⟩ rfl (by simp) h.2.2.2.2.2.1.1 (by simp [pl_re]) (lv_room (by rw [pl_re_wd]; exact hw)) hdg (pl_room F h)
-- what a call is worth
def pl_PI {α : Type} (em : α → Value) (K : α → pl_S → Prop) : pl_P := fun t r σ => t = 0 ∧ ∃ x, r = some (em x) ∧ K x σ
def pl_PV (K : pl_S → Prop) : pl_P := fun t r σ => t = 0 ∧ r = none ∧ K σ
def e_callS {α : Type} (em : α → Value) (tr : pl_TR) (maxL : Nat) (a : pl_A) : pl_E α := fun L σ K => a L σ (fun vs σ1 => tr (pl_PI em K) σ1.2.2.1 σ1.2.2.2 (pl_pad vs maxL) σ1 (fun _ _ => False))
def e_callV {α : Type} (em : α → Value) (c : Nat) (tr : pl_TR) (maxL : Nat) (a : pl_A) : pl_E α := fun L σ K => a L σ (fun vs σ1 => (∃ q nq as, vs = .ref q :: as ∧ σ1.1 q = (c + 5, nq)) ∧ tr (pl_PI em K) σ1.2.2.1 σ1.2.2.2 (pl_pad vs maxL) σ1 (fun _ _ => False))
def s_callS (tr : pl_TR) (maxL : Nat) (a : pl_A) : pl_ST := fun L σ K => a L σ (fun vs σ1 => tr (pl_PV (K L)) σ1.2.2.1 σ1.2.2.2 (pl_pad vs maxL) σ1 (fun _ _ => False))
def s_callV (c : Nat) (tr : pl_TR) (maxL : Nat) (a : pl_A) : pl_ST := fun L σ K => a L σ (fun vs σ1 => (∃ q nq as, vs = .ref q :: as ∧ σ1.1 q = (c + 5, nq)) ∧ tr (pl_PV (K L)) σ1.2.2.1 σ1.2.2.2 (pl_pad vs maxL) σ1 (fun _ _ => False))
theorem c_callS {α : Type} {em : α → Value} (F : pl_Fx X Y own cc) {a : pl_A} (ha : pl_AA X Y n k m pc a p1) (hM : pl_Ctr X.2.1 y bytes maxL ret d e 0 0 false tr) (hm : pl_MS y bytes maxL ret m) (hl : Cond.methodLink own idx y ∈ pl_T) (hdg : decode cc p1 = .ok (.invokestatic idx, 3)) (hR : d + 1 ≤ (pl_xR X).frames ∧ 8 + (maxL + 11) + e ≤ (pl_xR X).locals) (hn : n ≤ 8) (hk : k ≤ maxL) : pl_C X Y em n pc (e_callS em tr maxL a) (p1 + 3) :=
  fun L st σ K hw hkk h => ha L st σ _ hw (fun vs σ1 h1 h2 h3 => j_after F (pl_runS F hM (by rw [h2]; exact hm) hl hR (Nat.le_trans hw hn) hdg (by rw [h1]; exact hk) h3) (fun r σ' ⟨_, x, hr, hK⟩ => by subst hr; exact hkk x σ' hK)) h
theorem c_callSN {α : Type} {em : α → Value} (F : pl_Fx X Y own cc) {host : String} {a : pl_A} (ha : pl_AA X Y n k m pc a p1) (hM : pl_Ctr X.2.1 y bytes maxL ret d e 0 0 false tr) (hm : pl_MS y bytes maxL ret m) (hl : Cond.methodLinkNest own idx y host ∈ pl_N) (hdg : decode cc p1 = .ok (.invokestatic idx, 3)) (hR : d + 1 ≤ (pl_xR X).frames ∧ 8 + (maxL + 11) + e ≤ (pl_xR X).locals) (hn : n ≤ 8) (hk : k ≤ maxL) : pl_C X Y em n pc (e_callS em tr maxL a) (p1 + 3) :=
  fun L st σ K hw hkk h => ha L st σ _ hw (fun vs σ1 h1 h2 h3 => j_after F (pl_runSN F hM (by rw [h2]; exact hm) hl hR (Nat.le_trans hw hn) hdg (by rw [h1]; exact hk) h3) (fun r σ' ⟨_, x, hr, hK⟩ => by subst hr; exact hkk x σ' hK)) h
theorem c_callV {α : Type} {em : α → Value} (F : pl_Fx X Y own cc) {a : pl_A} (ha : pl_AA X Y n k (m + 1) pc a p1) (hM : pl_Ctr X.2.1 y bytes maxL ret d e 0 0 false tr) (hm : pl_MV c y bytes maxL ret m) (hl : Cond.methodLink own idx y ∈ pl_T) (hdg : decode cc p1 = .ok (.invokevirtual idx, 3)) (hR : d + 1 ≤ (pl_xR X).frames ∧ 8 + (maxL + 11) + e ≤ (pl_xR X).locals) (hn : n ≤ 8) (hk : k ≤ maxL) : pl_C X Y em n pc (e_callV em c tr maxL a) (p1 + 3) :=
  fun L st σ K hw hkk h => ha L st σ _ hw (fun vs σ1 h1 h2 ⟨⟨q, nq, as, hvs, hkd⟩, h3⟩ => by
    subst hvs
    have h4 : as.length = m := by simpa using h2
    exact j_after F (pl_runV F hkd hM (by rw [h4]; exact hm) hl hR (Nat.le_trans hw hn) hdg (by rw [h1]; exact hk) h3) (fun r σ' ⟨_, x, hr, hK⟩ => by subst hr; exact hkk x σ' hK)) h
theorem d_callS (F : pl_Fx X Y own cc) {a : pl_A} (ha : pl_AA X Y 0 k m pc a p1) (hM : pl_Ctr X.2.1 y bytes maxL ret d e 0 0 false tr) (hm : pl_MS y bytes maxL ret m) (hl : Cond.methodLink own idx y ∈ pl_T) (hdg : decode cc p1 = .ok (.invokestatic idx, 3)) (hR : d + 1 ≤ (pl_xR X).frames ∧ 8 + (maxL + 11) + e ≤ (pl_xR X).locals) (hk : k ≤ maxL) : pl_D X Y pc (s_callS tr maxL a) (p1 + 3) :=
  fun L σ K hkk h => ha L [] σ _ pl_wd0 (fun vs σ1 h1 h2 h3 => j_after F (pl_runS F hM (by rw [h2]; exact hm) hl hR (by decide) hdg (by rw [h1]; exact hk) h3) (fun r σ' ⟨_, hr, hK⟩ => by subst hr; exact hkk _ σ' hK)) h
theorem d_callSN (F : pl_Fx X Y own cc) {host : String} {a : pl_A} (ha : pl_AA X Y 0 k m pc a p1) (hM : pl_Ctr X.2.1 y bytes maxL ret d e 0 0 false tr) (hm : pl_MS y bytes maxL ret m) (hl : Cond.methodLinkNest own idx y host ∈ pl_N) (hdg : decode cc p1 = .ok (.invokestatic idx, 3)) (hR : d + 1 ≤ (pl_xR X).frames ∧ 8 + (maxL + 11) + e ≤ (pl_xR X).locals) (hk : k ≤ maxL) : pl_D X Y pc (s_callS tr maxL a) (p1 + 3) :=
  fun L σ K hkk h => ha L [] σ _ pl_wd0 (fun vs σ1 h1 h2 h3 => j_after F (pl_runSN F hM (by rw [h2]; exact hm) hl hR (by decide) hdg (by rw [h1]; exact hk) h3) (fun r σ' ⟨_, hr, hK⟩ => by subst hr; exact hkk _ σ' hK)) h
theorem d_callV (F : pl_Fx X Y own cc) {a : pl_A} (ha : pl_AA X Y 0 k (m + 1) pc a p1) (hM : pl_Ctr X.2.1 y bytes maxL ret d e 0 0 false tr) (hm : pl_MV c y bytes maxL ret m) (hl : Cond.methodLink own idx y ∈ pl_T) (hdg : decode cc p1 = .ok (.invokevirtual idx, 3)) (hR : d + 1 ≤ (pl_xR X).frames ∧ 8 + (maxL + 11) + e ≤ (pl_xR X).locals) (hk : k ≤ maxL) : pl_D X Y pc (s_callV c tr maxL a) (p1 + 3) :=
  fun L σ K hkk h => ha L [] σ _ pl_wd0 (fun vs σ1 h1 h2 ⟨⟨q, nq, as, hvs, hkd⟩, h3⟩ => by
    subst hvs
    have h4 : as.length = m := by simpa using h2
    exact j_after F (pl_runV F hkd hM (by rw [h4]; exact hm) hl hR (by decide) hdg (by rw [h1]; exact hk) h3) (fun r σ' ⟨_, hr, hK⟩ => by subst hr; exact hkk _ σ' hK)) h
/-- Math.max, Math.min -/
def pl_max (x y : Int32) : Int32 := if x < y then y else x
def pl_min (x y : Int32) : Int32 := if y < x then y else x
theorem c_max (F : pl_Fx X Y own cc) {a b : pl_E Int32} (ha : pl_C X Y Value.int n pc a p1) (hb : pl_C X Y Value.int (n + 1) p1 b p2) (hd : decode cc p2 = .ok (.invokestatic idx, 3)) (hl : Cond.methodLink own idx Lib.Math.max.name ∈ pl_T) (hm : Cond.static Lib.Math.max.name ∈ pl_T ∧ Cond.initialized "java/lang/Math" ∈ pl_T ∧ Cond.code Lib.Math.max.name Lib.Math.max.code 2 (some .int) ∈ pl_T) (hR : 1 ≤ (pl_xR X).frames ∧ 21 ≤ (pl_xR X).locals) (hn : n ≤ 8) : pl_C X Y Value.int n pc (e_bin pl_max a b) (p2 + 3) :=
  fun L st σ K hw hk h => ha L st σ _ hw (fun x σ1 h1 => hb L (.int x :: st) σ1 _ (pl_wd1 hw) (fun y σ2 h2 => fun ad H locs ls hI hL hs =>
    va_mmax F.1 F.2.1 hI.2.2.2.2.2.1.1.symm F.2.2.1 (F.2.2.2.1 _ hl) (F.2.2.2.1 _ hm.1) (F.2.2.2.1 _ hm.2.1) (F.2.2.2.1 _ hm.2.2) hR.1 (by rw [pl_re_wd]; omega) (pl_room F hI).1 (pl_room F hI).2 hd (hk _ _ h2 ad H locs ls hI hL ⟨trivial, hs.2.2⟩)) h1) h
theorem c_min (F : pl_Fx X Y own cc) {a b : pl_E Int32} (ha : pl_C X Y Value.int n pc a p1) (hb : pl_C X Y Value.int (n + 1) p1 b p2) (hd : decode cc p2 = .ok (.invokestatic idx, 3)) (hl : Cond.methodLink own idx Lib.Math.min.name ∈ pl_T) (hm : Cond.static Lib.Math.min.name ∈ pl_T ∧ Cond.initialized "java/lang/Math" ∈ pl_T ∧ Cond.code Lib.Math.min.name Lib.Math.min.code 2 (some .int) ∈ pl_T) (hR : 1 ≤ (pl_xR X).frames ∧ 21 ≤ (pl_xR X).locals) (hn : n ≤ 8) : pl_C X Y Value.int n pc (e_bin pl_min a b) (p2 + 3) :=
  fun L st σ K hw hk h => ha L st σ _ hw (fun x σ1 h1 => hb L (.int x :: st) σ1 _ (pl_wd1 hw) (fun y σ2 h2 => fun ad H locs ls hI hL hs =>
    va_mmin F.1 F.2.1 hI.2.2.2.2.2.1.1.symm F.2.2.1 (F.2.2.2.1 _ hl) (F.2.2.2.1 _ hm.1) (F.2.2.2.1 _ hm.2.1) (F.2.2.2.1 _ hm.2.2) hR.1 (by rw [pl_re_wd]; omega) (pl_room F hI).1 (pl_room F hI).2 hd (hk _ _ h2 ad H locs ls hI hL ⟨trivial, hs.2.2⟩)) h1) h
end Invoke
