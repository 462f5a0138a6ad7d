/-! 001 The words of the tables that the rows stand on -/
def pl_T : List Cond := lw_tbl.filter goodWord
theorem pl_good : GoodIn pl_T pl_T := fun w hw => ⟨hw, good_of_word (List.mem_filter.mp hw).2⟩
theorem pl_mem {w : Cond} (i : Nat) (h : lw_tbl[i]? = some w) (hg : goodWord w = true) : w ∈ pl_T := List.mem_filter.mpr ⟨List.mem_of_getElem? h, hg⟩
def pl_isNest : Cond → Bool
  | .fieldLinkNest .. => true
  | .methodLinkNest .. => true
  | _ => false
theorem pl_nest_moved {w : Cond} (hn : pl_isNest w = true) {s U : State} (hW : s.WarmedH U.vm) (hz : va_Nw w s) : va_Nw w U := by
  cases w with
  | fieldLinkNest a i b n d h => exact va_Nw.warmF hW hz
  | methodLinkNest a i x h => exact va_Nw.warmM hW hz
  | _ => simp [pl_isNest] at hn
theorem pl_nest_same {w : Cond} (hn : pl_isNest w = true) {u U : State} (hv : u.vm = U.vm) (hz : va_Nw w u) : va_Nw w U := by
  cases w with
  | fieldLinkNest a i b n d h => exact va_Nw.same rfl hv hz
  | methodLinkNest a i x h => exact va_Nw.same rfl hv hz
  | _ => simp [pl_isNest] at hn
def pl_N : List Cond := [(Jvm.Cond.fieldLinkNest "PageLayouter$Box" (25 : Nat) "PageLayouter" "FIRST_VALUES" "[I" "PageLayouter"), (Jvm.Cond.methodLinkNest "PageLayouter$Box" (61 : Nat) ({ cls := "PageLayouter", name := "isSize", desc := "(I)Z" } : Jvm.MethodName) "PageLayouter"), (Jvm.Cond.methodLinkNest "PageLayouter$Widths" (42 : Nat) ({ cls := "PageLayouter", name := "isSize", desc := "(I)Z" } : Jvm.MethodName) "PageLayouter"), (Jvm.Cond.methodLinkNest "PageLayouter$Widths" (46 : Nat) ({ cls := "PageLayouter", name := "isPercent", desc := "(I)Z" } : Jvm.MethodName) "PageLayouter"), (Jvm.Cond.methodLinkNest "PageLayouter$Widths" (49 : Nat) ({ cls := "PageLayouter", name := "percentOf", desc := "(II)I" } : Jvm.MethodName) "PageLayouter"), (Jvm.Cond.methodLinkNest "PageLayouter$Flex" (36 : Nat) ({ cls := "PageLayouter", name := "isPercent", desc := "(I)Z" } : Jvm.MethodName) "PageLayouter"), (Jvm.Cond.methodLinkNest "PageLayouter$Flex" (44 : Nat) ({ cls := "PageLayouter", name := "percentOf", desc := "(II)I" } : Jvm.MethodName) "PageLayouter"), (Jvm.Cond.methodLinkNest "PageLayouter$Heights" (23 : Nat) ({ cls := "PageLayouter", name := "isSize", desc := "(I)Z" } : Jvm.MethodName) "PageLayouter"), (Jvm.Cond.methodLinkNest "PageLayouter$Heights" (27 : Nat) ({ cls := "PageLayouter", name := "isPercent", desc := "(I)Z" } : Jvm.MethodName) "PageLayouter"), (Jvm.Cond.methodLinkNest "PageLayouter$Heights" (30 : Nat) ({ cls := "PageLayouter", name := "percentOf", desc := "(II)I" } : Jvm.MethodName) "PageLayouter")]
theorem pl_N_nest : ∀ w ∈ pl_N, pl_isNest w = true := by decide
