def R_Qd : String := "QuestionDesk"
def F_Qd : u_T := fun k => match k with
  | 0 => ("QuestionDesk", "places", "[I", true)
  | 1 => ("QuestionDesk", "byRules", "[Z", true)
  | 2 => ("QuestionDesk", "predicates", "I", false)
  | 3 => ("QuestionDesk", "rules", "Ljava/util/ArrayList;", true)
  | 4 => ("QuestionDesk", "begun", "LQuestionDesk$Rule;", false)
  | 5 => ("QuestionDesk", "pairs", "LQuestionDesk$Pairs;", true)
  | 6 => ("QuestionDesk", "matcher", "LQuestionDesk$Matcher;", true)
  | 7 => ("QuestionDesk", "rewritten", "LQuestionDesk$Rule;", true)
  | 8 => ("QuestionDesk", "patterns", "[I", true)
  | 9 => ("QuestionDesk", "rewrittenRules", "I", false)
  | 10 => ("QuestionDesk", "asked", "Z", false)
  | _ => ("QuestionDesk", "predicatesThen", "I", false)
def t_Qd : Nat → FieldType := fun k => match k with
  | 0 => .array .int
  | 1 => .array .boolean
  | 2 => .int
  | 3 => .object "java/util/ArrayList"
  | 4 => .object "QuestionDesk$Rule"
  | 5 => .object "QuestionDesk$Pairs"
  | 6 => .object "QuestionDesk$Matcher"
  | 7 => .object "QuestionDesk$Rule"
  | 8 => .array .int
  | 9 => .int
  | 10 => .boolean
  | _ => .int
theorem n_Qd : ∀ a, a < 12 → ∀ b, b < 12 → a ≠ b → (F_Qd a).2.1 ≠ (F_Qd b).2.1 := by decide +kernel
theorem o_Qd : ∀ k, k < 12 → parseFieldDescriptor (F_Qd k).2.2.1 = some (t_Qd k) := by decide +kernel
def R_Pr : String := "QuestionDesk$Pairs"
def F_Pr : u_T := fun k => match k with
  | _ => ("QuestionDesk$Pairs", "rows", "[I", true)
def t_Pr : Nat → FieldType := fun k => match k with
  | _ => .array .int
theorem n_Pr : ∀ a, a < 1 → ∀ b, b < 1 → a ≠ b → (F_Pr a).2.1 ≠ (F_Pr b).2.1 := by decide +kernel
theorem o_Pr : ∀ k, k < 1 → parseFieldDescriptor (F_Pr k).2.2.1 = some (t_Pr k) := by decide +kernel
def R_Mt : String := "QuestionDesk$Matcher"
def F_Mt : u_T := fun k => match k with
  | 0 => ("QuestionDesk$Matcher", "pairs", "LQuestionDesk$Pairs;", true)
  | _ => ("QuestionDesk$Matcher", "values", "[I", true)
def t_Mt : Nat → FieldType := fun k => match k with
  | 0 => .object "QuestionDesk$Pairs"
  | _ => .array .int
theorem n_Mt : ∀ a, a < 2 → ∀ b, b < 2 → a ≠ b → (F_Mt a).2.1 ≠ (F_Mt b).2.1 := by decide +kernel
theorem o_Mt : ∀ k, k < 2 → parseFieldDescriptor (F_Mt k).2.2.1 = some (t_Mt k) := by decide +kernel
def R_Ru : String := "QuestionDesk$Rule"
def F_Ru : u_T := fun k => match k with
  | 0 => ("QuestionDesk$Rule", "sets", "[I", true)
  | 1 => ("QuestionDesk$Rule", "firsts", "[I", true)
  | 2 => ("QuestionDesk$Rule", "seconds", "[I", true)
  | _ => ("QuestionDesk$Rule", "atoms", "I", false)
def t_Ru : Nat → FieldType := fun k => match k with
  | 0 => .array .int
  | 1 => .array .int
  | 2 => .array .int
  | _ => .int
theorem n_Ru : ∀ a, a < 4 → ∀ b, b < 4 → a ≠ b → (F_Ru a).2.1 ≠ (F_Ru b).2.1 := by decide +kernel
theorem o_Ru : ∀ k, k < 4 → parseFieldDescriptor (F_Ru k).2.2.1 = some (t_Ru k) := by decide +kernel
def R_Mo : String := "QuestionDeskModel"
def F_Mo : u_T := fun k => match k with
  | 0 => ("QuestionDeskModel", "thrown", "I", false)
  | 1 => ("QuestionDeskModel", "places", "[I", true)
  | 2 => ("QuestionDeskModel", "ruled", "[Z", true)
  | 3 => ("QuestionDeskModel", "predicates", "I", false)
  | 4 => ("QuestionDeskModel", "told", "[Z", true)
  | 5 => ("QuestionDeskModel", "model", "[Z", true)
  | 6 => ("QuestionDeskModel", "ofAtom", "[I", true)
  | 7 => ("QuestionDeskModel", "left", "[I", true)
  | 8 => ("QuestionDeskModel", "right", "[I", true)
  | 9 => ("QuestionDeskModel", "size", "[I", true)
  | 10 => ("QuestionDeskModel", "rules", "I", false)
  | 11 => ("QuestionDeskModel", "begun", "Z", false)
  | 12 => ("QuestionDeskModel", "asked", "Z", false)
  | 13 => ("QuestionDeskModel", "asksOf", "I", false)
  | 14 => ("QuestionDeskModel", "asksLeft", "I", false)
  | 15 => ("QuestionDeskModel", "asksRight", "I", false)
  | 16 => ("QuestionDeskModel", "hadPredicates", "I", false)
  | 17 => ("QuestionDeskModel", "calls", "[Z", true)
  | 18 => ("QuestionDeskModel", "row", "[I", true)
  | 19 => ("QuestionDeskModel", "inRow", "I", false)
  | 20 => ("QuestionDeskModel", "patterns", "[Z", true)
  | 21 => ("QuestionDeskModel", "rewritten", "I", false)
  | 22 => ("QuestionDeskModel", "values", "[I", true)
  | 23 => ("QuestionDeskModel", "by", "[I", true)
  | 24 => ("QuestionDeskModel", "choice", "[I", true)
  | 25 => ("QuestionDeskModel", "rule", "I", false)
  | 26 => ("QuestionDeskModel", "atoms", "I", false)
  | _ => ("QuestionDeskModel", "depth", "I", false)
def t_Mo : Nat → FieldType := fun k => match k with
  | 0 => .int
  | 1 => .array .int
  | 2 => .array .boolean
  | 3 => .int
  | 4 => .array .boolean
  | 5 => .array .boolean
  | 6 => .array .int
  | 7 => .array .int
  | 8 => .array .int
  | 9 => .array .int
  | 10 => .int
  | 11 => .boolean
  | 12 => .boolean
  | 13 => .int
  | 14 => .int
  | 15 => .int
  | 16 => .int
  | 17 => .array .boolean
  | 18 => .array .int
  | 19 => .int
  | 20 => .array .boolean
  | 21 => .int
  | 22 => .array .int
  | 23 => .array .int
  | 24 => .array .int
  | 25 => .int
  | 26 => .int
  | _ => .int
theorem n_Mo : ∀ a, a < 28 → ∀ b, b < 28 → a ≠ b → (F_Mo a).2.1 ≠ (F_Mo b).2.1 := by decide +kernel
theorem o_Mo : ∀ k, k < 28 → parseFieldDescriptor (F_Mo k).2.2.1 = some (t_Mo k) := by decide +kernel
def R_Al : String := "java/util/ArrayList"
def F_Al : u_T := fun k => match k with
  | 0 => ("java/util/ArrayList", "elementData", "[Ljava/lang/Object;", false)
  | 1 => ("java/util/ArrayList", "size", "I", false)
  | _ => ("java/util/AbstractList", "modCount", "I", false)
def t_Al : Nat → FieldType := fun k => match k with
  | 0 => .array (.object "java/lang/Object")
  | 1 => .int
  | _ => .int
theorem n_Al : ∀ a, a < 3 → ∀ b, b < 3 → a ≠ b → (F_Al a).2.1 ≠ (F_Al b).2.1 := by decide +kernel
theorem o_Al : ∀ k, k < 3 → parseFieldDescriptor (F_Al k).2.2.1 = some (t_Al k) := by decide +kernel
abbrev xcl : List vw_C := [(R_Qd, F_Qd, 12), (R_Pr, F_Pr, 1), (R_Mt, F_Mt, 2), (R_Ru, F_Ru, 4), (R_Mo, F_Mo, 28), (R_Al, F_Al, 3)]
abbrev xT (cI cZ cJ cO : ClassId) : List (ClassId × FieldType) := [(cI, .int), (cZ, .boolean), (cJ, .long), (cO, .object "java/lang/Object")]
/-! the good words of the tables: one list for all methods -/
def xg : List Cond := lw_tbl.filter goodWord
theorem xg_t {w : Cond} {i : Nat} (h : tables_1[i]? = some w) (g : goodWord w = true) : w ∈ xg := List.mem_filter.mpr ⟨List.mem_append_right _ (List.mem_of_getElem? h), g⟩
theorem xg_p {q : MethodName × Nat} {i : Nat} (h : lw_privs[i]? = some q) (g : goodWord (Cond.selects q.1.cls q.1 q.1) = true) : Cond.selects q.1.cls q.1 q.1 ∈ xg := by
  refine List.mem_filter.mpr ⟨List.mem_append_left _ ?_, g⟩
  unfold k2_sels
  exact List.mem_map.mpr ⟨q, List.mem_of_getElem? h, rfl⟩
theorem xg_in {c0 w : Cond} (h : w ∈ xg) : w ∈ c0 :: xg ∧ ((w.onTables && w.keeps) = true ∨ ∃ ty, w = .arrayClass ty) := ⟨List.mem_cons_of_mem _ h, good_of_word (List.mem_filter.mp h).2⟩
theorem xg_cwV {R : Room} {s : State} {args : Array Value} {own C : String} {index : Nat} {y : MethodName} {bytes : ByteArray} {maxL mc ms : Nat} {ret : Option FieldType} {rm : Room} {c0 : Cond} (n : Nat) (ht : ∀ w ∈ c0 :: xg, w.before args s = true) (hcd : Cond.code y bytes maxL ret ∈ xg) (hl : Cond.methodLink own index y ∈ xg) (hi : Cond.instanceMethod y ∈ xg) (hs : Cond.selects C y y ∈ xg) (hin : Cond.initialized C ∈ xg) (hrc : rm.cells = mc) (hrs : rm.slots = ms)
    (hd : y.cls = C ∧ y.cls ≠ "java/lang/invoke/MethodHandle" ∧ y.cls ≠ "java/lang/invoke/VarHandle" ∧ (parseMethodDescriptor y.desc).map (fun d => d.parameters.length) = some n) (hR : rm.frames + 1 ≤ R.frames ∧ 8 + (maxL + 11) + rm.locals ≤ R.locals) :
    CallW R s args own C index y bytes maxL ret (Cond.code y bytes maxL ret :: xg) rm mc ms n := by
  refine cwV n ht ?_ rfl hrc hrs hd hR
  intro w hw
  unfold wsV at hw
  simp only [List.mem_append, List.mem_cons, List.not_mem_nil, or_false] at hw
  rcases hw with (rfl | rfl | rfl | rfl) | rfl | h
  · exact xg_in hl
  · exact xg_in hi
  · exact xg_in hs
  · exact xg_in hin
  · exact xg_in hcd
  · exact xg_in h
theorem xg_cwS {R : Room} {s : State} {args : Array Value} {own : String} {index : Nat} {y : MethodName} {bytes : ByteArray} {maxL mc ms : Nat} {ret : Option FieldType} {rm : Room} {c0 : Cond} (n : Nat) (ht : ∀ w ∈ c0 :: xg, w.before args s = true) (hcd : Cond.code y bytes maxL ret ∈ xg) (hl : Cond.methodLink own index y ∈ xg) (hs : Cond.static y ∈ xg) (hin : Cond.initialized y.cls ∈ xg) (hrc : rm.cells = mc) (hrs : rm.slots = ms)
    (hd : y.cls ≠ "java/lang/invoke/MethodHandle" ∧ y.cls ≠ "java/lang/invoke/VarHandle" ∧ (parseMethodDescriptor y.desc).map (fun d => d.parameters.length) = some n) (hR : rm.frames + 1 ≤ R.frames ∧ 8 + (maxL + 11) + rm.locals ≤ R.locals) :
    CallB R s args own index y bytes maxL ret (Cond.code y bytes maxL ret :: xg) rm mc ms n ∧ (Cond.static y).before args s = true := by
  refine va_cwS n ht ?_ rfl hrc hrs hd hR
  intro w hw
  unfold va_wsS at hw
  simp only [List.mem_append, List.mem_cons, List.not_mem_nil, or_false] at hw
  rcases hw with (rfl | rfl | rfl) | rfl | h
  · exact xg_in hl
  · exact xg_in hs
  · exact xg_in hin
  · exact xg_in hcd
  · exact xg_in h
theorem xg_cnS {R : Room} {s : State} {args : Array Value} {own host : String} {index : Nat} {y : MethodName} {bytes : ByteArray} {maxL mc ms : Nat} {ret : Option FieldType} {rm : Room} {c0 : Cond} (n : Nat) (ht : ∀ w ∈ c0 :: xg, w.before args s = true) (hcd : Cond.code y bytes maxL ret ∈ xg) (hl : va_Nw (.methodLinkNest own index y host) s) (hin : Cond.initialized y.cls ∈ xg) (hs : Cond.static y ∈ xg) (hrc : rm.cells = mc) (hrs : rm.slots = ms)
    (hd : y.cls ≠ "java/lang/invoke/MethodHandle" ∧ y.cls ≠ "java/lang/invoke/VarHandle" ∧ (parseMethodDescriptor y.desc).map (fun d => d.parameters.length) = some n) (hR : rm.frames + 1 ≤ R.frames ∧ 8 + (maxL + 11) + rm.locals ≤ R.locals) :
    va_CN R s args own index y host bytes maxL ret (Cond.code y bytes maxL ret :: xg) rm mc ms n ∧ (Cond.static y).before args s = true ∧ True := by
  refine ⟨va_cnB n ht ?_ rfl hrc hrs hl (ht _ (List.mem_cons_of_mem _ hin)) hd hR, ht _ (List.mem_cons_of_mem _ hs), trivial⟩
  intro w hw
  rcases List.mem_cons.mp hw with rfl | h
  · exact xg_in hcd
  · exact xg_in h
/-- what the tables say beside: links within the nest -/
def xn_ok (U : State) : Prop := va_Nw (.methodLinkNest "QuestionDesk$Rule" 37 ⟨"QuestionDesk", "variableBit", "(I)I"⟩ "QuestionDesk") U ∧ va_Nw (.methodLinkNest "QuestionDesk$Rule" 44 ⟨"QuestionDesk", "isVariable", "(I)Z"⟩ "QuestionDesk") U ∧ va_Nw (.methodLinkNest "QuestionDesk" 34 ⟨"QuestionDesk$Pairs", "<init>", "()V"⟩ "QuestionDesk") U ∧ va_Nw (.methodLinkNest "QuestionDesk" 50 ⟨"QuestionDesk$Rule", "<init>", "()V"⟩ "QuestionDesk") U
theorem xn_ok.warm {s U : State} (hW : s.WarmedH U.vm) (h : xn_ok s) : xn_ok U := ⟨h.1.warmM hW, h.2.1.warmM hW, h.2.2.1.warmM hW, h.2.2.2.warmM hW⟩
theorem xn_ok.same {u U : State} (h : u.vm = U.vm) (hZ : xn_ok u) : xn_ok U := ⟨hZ.1.same rfl h, hZ.2.1.same rfl h, hZ.2.2.1.same rfl h, hZ.2.2.2.same rfl h⟩

