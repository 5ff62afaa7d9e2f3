theorem xw_574 : (Jvm.Cond.fieldLink "QuestionDeskModel" (155 : Nat) "QuestionDeskModel" "asked" "Z") ∈ xg := xg_t (i := 574) (by decide +kernel) (by decide +kernel)
theorem xw_578 : (Jvm.Cond.fieldLink "QuestionDeskModel" (158 : Nat) "QuestionDeskModel" "hadPredicates" "I") ∈ xg := xg_t (i := 578) (by decide +kernel) (by decide +kernel)
theorem xw_768 : (Jvm.Cond.code ({ cls := "QuestionDeskModel", name := "isAnswer", desc := "(I)Z" } : Jvm.MethodName) prog_6_method_31_code (4 : Nat) (Option.some Jvm.ClassFile.FieldType.boolean)) ∈ xg := xg_t (i := 768) (by decide +kernel) (by decide +kernel)
theorem xw_765 : (Jvm.Cond.methodLink "QuestionDeskModel" (170 : Nat) ({ cls := "QuestionDeskModel", name := "isAnswer", desc := "(I)Z" } : Jvm.MethodName)) ∈ xg := xg_t (i := 765) (by decide +kernel) (by decide +kernel)
theorem xw_767 : (Jvm.Cond.instanceMethod ({ cls := "QuestionDeskModel", name := "isAnswer", desc := "(I)Z" } : Jvm.MethodName)) ∈ xg := xg_t (i := 767) (by decide +kernel) (by decide +kernel)
theorem xw_p42 : Cond.selects "QuestionDeskModel" ⟨"QuestionDeskModel", "isAnswer", "(I)Z"⟩ ⟨"QuestionDeskModel", "isAnswer", "(I)Z"⟩ ∈ xg := xg_p (q := (⟨"QuestionDeskModel", "isAnswer", "(I)Z"⟩, 28)) (i := 42) (by decide +kernel) (by decide +kernel)
theorem xw_760 : (Jvm.Cond.code ({ cls := "QuestionDeskModel", name := "rewrites", desc := "()V" } : Jvm.MethodName) prog_6_method_30_code (7 : Nat) (Option.none : Option Jvm.ClassFile.FieldType)) ∈ xg := xg_t (i := 760) (by decide +kernel) (by decide +kernel)
theorem xw_757 : (Jvm.Cond.methodLink "QuestionDeskModel" (167 : Nat) ({ cls := "QuestionDeskModel", name := "rewrites", desc := "()V" } : Jvm.MethodName)) ∈ xg := xg_t (i := 757) (by decide +kernel) (by decide +kernel)
theorem xw_759 : (Jvm.Cond.instanceMethod ({ cls := "QuestionDeskModel", name := "rewrites", desc := "()V" } : Jvm.MethodName)) ∈ xg := xg_t (i := 759) (by decide +kernel) (by decide +kernel)
theorem xw_p40 : Cond.selects "QuestionDeskModel" ⟨"QuestionDeskModel", "rewrites", "()V"⟩ ⟨"QuestionDeskModel", "rewrites", "()V"⟩ ∈ xg := xg_p (q := (⟨"QuestionDeskModel", "rewrites", "()V"⟩, 28)) (i := 40) (by decide +kernel) (by decide +kernel)
theorem xw_744 : (Jvm.Cond.code ({ cls := "QuestionDeskModel", name := "asks", desc := "()V" } : Jvm.MethodName) prog_6_method_28_code (5 : Nat) (Option.none : Option Jvm.ClassFile.FieldType)) ∈ xg := xg_t (i := 744) (by decide +kernel) (by decide +kernel)
theorem xw_741 : (Jvm.Cond.methodLink "QuestionDeskModel" (164 : Nat) ({ cls := "QuestionDeskModel", name := "asks", desc := "()V" } : Jvm.MethodName)) ∈ xg := xg_t (i := 741) (by decide +kernel) (by decide +kernel)
theorem xw_743 : (Jvm.Cond.instanceMethod ({ cls := "QuestionDeskModel", name := "asks", desc := "()V" } : Jvm.MethodName)) ∈ xg := xg_t (i := 743) (by decide +kernel) (by decide +kernel)
theorem xw_p36 : Cond.selects "QuestionDeskModel" ⟨"QuestionDeskModel", "asks", "()V"⟩ ⟨"QuestionDeskModel", "asks", "()V"⟩ ∈ xg := xg_p (q := (⟨"QuestionDeskModel", "asks", "()V"⟩, 28)) (i := 36) (by decide +kernel) (by decide +kernel)
theorem xw_716 : (Jvm.Cond.code ({ cls := "QuestionDeskModel", name := "models", desc := "()V" } : Jvm.MethodName) prog_6_method_24_code (4 : Nat) (Option.none : Option Jvm.ClassFile.FieldType)) ∈ xg := xg_t (i := 716) (by decide +kernel) (by decide +kernel)
theorem xw_713 : (Jvm.Cond.methodLink "QuestionDeskModel" (161 : Nat) ({ cls := "QuestionDeskModel", name := "models", desc := "()V" } : Jvm.MethodName)) ∈ xg := xg_t (i := 713) (by decide +kernel) (by decide +kernel)
theorem xw_715 : (Jvm.Cond.instanceMethod ({ cls := "QuestionDeskModel", name := "models", desc := "()V" } : Jvm.MethodName)) ∈ xg := xg_t (i := 715) (by decide +kernel) (by decide +kernel)
theorem xw_p29 : Cond.selects "QuestionDeskModel" ⟨"QuestionDeskModel", "models", "()V"⟩ ⟨"QuestionDeskModel", "models", "()V"⟩ ∈ xg := xg_p (q := (⟨"QuestionDeskModel", "models", "()V"⟩, 28)) (i := 29) (by decide +kernel) (by decide +kernel)
def wp_Mo_ask (post : Int32 → Int32 → (Nat → Int32) → Int32 → Int32 → Int32 → Int32 → Int32 → (Nat → Int32) → (Nat → Int32) → Int32 → (Nat → Int32) → Int32 → (Nat → Int32) → (Nat → Int32) → (Nat → Int32) → Int32 → Int32 → Int32 → Prop)  (m_places : Nat → Int32) (m_ruled : Nat → Int32) (m_predicates : Int32) (m_told : Nat → Int32) (m_ofAtom : Nat → Int32) (m_left : Nat → Int32) (m_right : Nat → Int32) (m_size : Nat → Int32) (m_rules : Int32) (m_thrown : Int32) (m_model : Nat → Int32) (m_asked : Int32) (m_asksOf : Int32) (m_asksLeft : Int32) (m_asksRight : Int32) (m_hadPredicates : Int32) (m_calls : Nat → Int32) (m_row : Nat → Int32) (m_inRow : Int32) (m_patterns : Nat → Int32) (m_rewritten : Int32) (m_values : Nat → Int32) (m_by : Nat → Int32) (m_choice : Nat → Int32) (m_rule : Int32) (m_atoms : Int32) (m_depth : Int32) (p0 : Int32) (p1 : Int32) (p2 : Int32) : Prop :=
wp_Mo_isPredicate (fun r_1 =>
xj (fun (v_3 : Int32) =>
((v_3 ≤ 0 →
wp_Mo_models (fun m_model_7 m_values_8 m_by_9 m_choice_10 m_rule_11 m_atoms_12 m_depth_13 =>
wp_Mo_asks (fun m_calls_16 m_row_17 m_inRow_18 m_values_19 m_by_20 m_choice_21 m_rule_22 m_atoms_23 m_depth_24 =>
wp_Mo_rewrites (fun m_patterns_27 m_rewritten_28 =>
xL (fun (K_30 : Int32 × Int32 → Prop) (v_29 : Int32 × Int32) =>
((1000 ≤ v_29.1 →
post v_29.2 v_3 m_model_7 1 p0 p1 p2 m_predicates m_calls_16 m_row_17 m_inRow_18 m_patterns_27 m_rewritten_28 m_values_19 m_by_20 m_choice_21 m_rule_22 m_atoms_23 m_depth_24) ∧ (¬ 1000 ≤ v_29.1 →
wp_Mo_isAnswer (fun r_31 =>
xj (fun (v_33 : Int32) =>
∀ x_35 : Int32, x_35 = v_29.2 + v_33 →
∀ x_36 : Int32, x_36 = v_29.1 + 1 →
K_30 (x_36, x_35)) (fun (J_34 : Int32 → Prop) =>
((r_31 = 0 →
J_34 0) ∧ (¬ r_31 = 0 →
J_34 1)))) m_model_7 p0 p1 p2 v_29.1))) (0, 0)) m_ruled m_ofAtom m_left m_right m_size m_rules p0 p1 p2 m_patterns m_rewritten) m_ruled m_model_7 m_ofAtom m_left m_right m_size m_rules p0 p1 p2 m_calls m_row m_inRow m_values_8 m_by_9 m_choice_10 m_rule_11 m_atoms_12 m_depth_13) m_told m_ofAtom m_left m_right m_size m_rules m_model m_values m_by m_choice m_rule m_atoms m_depth) ∧ (¬ v_3 ≤ 0 →
post 0 v_3 m_model m_asked m_asksOf m_asksLeft m_asksRight m_hadPredicates m_calls m_row m_inRow m_patterns m_rewritten m_values m_by m_choice m_rule m_atoms m_depth))) (fun (J_4 : Int32 → Prop) =>
xj (fun (v_37 : Unit) =>
J_4 1) (fun (J_38 : Unit → Prop) =>
((r_1 = 0 →
J_38 ()) ∧ (¬ r_1 = 0 →
wp_Mo_fit (fun r_39 =>
((r_39 = 0 →
J_38 ()) ∧ (¬ r_39 = 0 →
J_4 0))) m_places p0 p1 p2 17))))) m_predicates p0
abbrev rm_Mo_ask : Room := { frames := 5, cells := 0, slots := 0, locals := 117 }
set_option maxHeartbeats 4000000 in
set_option maxRecDepth 100000 in
theorem c_Mo_ask {l : Launch} {D : va_G} {ad : Nat → Nat} (CE : Int32 → (Nat → Int32) → Int32 → Int32 → Int32 → Int32 → Int32 → (Nat → Int32) → (Nat → Int32) → Int32 → (Nat → Int32) → Int32 → (Nat → Int32) → (Nat → Int32) → (Nat → Int32) → Int32 → Int32 → Int32 → Nat → Option va_E) {cI cZ cJ cO : ClassId} {iM : Nat} {i_places : Nat} {i_ruled : Nat} {i_told : Nat} {i_model : Nat} {i_ofAtom : Nat} {i_left : Nat} {i_right : Nat} {i_size : Nat} {i_calls : Nat} {i_row : Nat} {i_patterns : Nat} {i_values : Nat} {i_by : Nat} {i_choice : Nat} {m_places : Nat → Int32} {m_ruled : Nat → Int32} {m_predicates : Int32} {m_told : Nat → Int32} {m_ofAtom : Nat → Int32} {m_left : Nat → Int32} {m_right : Nat → Int32} {m_size : Nat → Int32} {m_rules : Int32} {m_begun : Int32} (k_M : ∀ (m_thrown : Int32) (m_model : Nat → Int32) (m_asked : Int32) (m_asksOf : Int32) (m_asksLeft : Int32) (m_asksRight : Int32) (m_hadPredicates : Int32) (m_calls : Nat → Int32) (m_row : Nat → Int32) (m_inRow : Int32) (m_patterns : Nat → Int32) (m_rewritten : Int32) (m_values : Nat → Int32) (m_by : Nat → Int32) (m_choice : Nat → Int32) (m_rule : Int32) (m_atoms : Int32) (m_depth : Int32), (CE m_thrown m_model m_asked m_asksOf m_asksLeft m_asksRight m_hadPredicates m_calls m_row m_inRow m_patterns m_rewritten m_values m_by m_choice m_rule m_atoms m_depth) iM = some (.inr (4, [.int m_thrown, .ref (ad i_places), .ref (ad i_ruled), .int m_predicates, .ref (ad i_told), .ref (ad i_model), .ref (ad i_ofAtom), .ref (ad i_left), .ref (ad i_right), .ref (ad i_size), .int m_rules, .int m_begun, .int m_asked, .int m_asksOf, .int m_asksLeft, .int m_asksRight, .int m_hadPredicates, .ref (ad i_calls), .ref (ad i_row), .int m_inRow, .ref (ad i_patterns), .int m_rewritten, .ref (ad i_values), .ref (ad i_by), .ref (ad i_choice), .int m_rule, .int m_atoms, .int m_depth]))) (k_places : ∀ (m_thrown : Int32) (m_model : Nat → Int32) (m_asked : Int32) (m_asksOf : Int32) (m_asksLeft : Int32) (m_asksRight : Int32) (m_hadPredicates : Int32) (m_calls : Nat → Int32) (m_row : Nat → Int32) (m_inRow : Int32) (m_patterns : Nat → Int32) (m_rewritten : Int32) (m_values : Nat → Int32) (m_by : Nat → Int32) (m_choice : Nat → Int32) (m_rule : Int32) (m_atoms : Int32) (m_depth : Int32), (CE m_thrown m_model m_asked m_asksOf m_asksLeft m_asksRight m_hadPredicates m_calls m_row m_inRow m_patterns m_rewritten m_values m_by m_choice m_rule m_atoms m_depth) i_places = some (.inl (cI, 10, .inl m_places))) (k_ruled : ∀ (m_thrown : Int32) (m_model : Nat → Int32) (m_asked : Int32) (m_asksOf : Int32) (m_asksLeft : Int32) (m_asksRight : Int32) (m_hadPredicates : Int32) (m_calls : Nat → Int32) (m_row : Nat → Int32) (m_inRow : Int32) (m_patterns : Nat → Int32) (m_rewritten : Int32) (m_values : Nat → Int32) (m_by : Nat → Int32) (m_choice : Nat → Int32) (m_rule : Int32) (m_atoms : Int32) (m_depth : Int32), (CE m_thrown m_model m_asked m_asksOf m_asksLeft m_asksRight m_hadPredicates m_calls m_row m_inRow m_patterns m_rewritten m_values m_by m_choice m_rule m_atoms m_depth) i_ruled = some (.inl (cZ, 10, .inl m_ruled))) (k_told : ∀ (m_thrown : Int32) (m_model : Nat → Int32) (m_asked : Int32) (m_asksOf : Int32) (m_asksLeft : Int32) (m_asksRight : Int32) (m_hadPredicates : Int32) (m_calls : Nat → Int32) (m_row : Nat → Int32) (m_inRow : Int32) (m_patterns : Nat → Int32) (m_rewritten : Int32) (m_values : Nat → Int32) (m_by : Nat → Int32) (m_choice : Nat → Int32) (m_rule : Int32) (m_atoms : Int32) (m_depth : Int32), (CE m_thrown m_model m_asked m_asksOf m_asksLeft m_asksRight m_hadPredicates m_calls m_row m_inRow m_patterns m_rewritten m_values m_by m_choice m_rule m_atoms m_depth) i_told = some (.inl (cZ, 1000, .inl m_told))) (k_model : ∀ (m_thrown : Int32) (m_model : Nat → Int32) (m_asked : Int32) (m_asksOf : Int32) (m_asksLeft : Int32) (m_asksRight : Int32) (m_hadPredicates : Int32) (m_calls : Nat → Int32) (m_row : Nat → Int32) (m_inRow : Int32) (m_patterns : Nat → Int32) (m_rewritten : Int32) (m_values : Nat → Int32) (m_by : Nat → Int32) (m_choice : Nat → Int32) (m_rule : Int32) (m_atoms : Int32) (m_depth : Int32), (CE m_thrown m_model m_asked m_asksOf m_asksLeft m_asksRight m_hadPredicates m_calls m_row m_inRow m_patterns m_rewritten m_values m_by m_choice m_rule m_atoms m_depth) i_model = some (.inl (cZ, 1000, .inl m_model))) (k_ofAtom : ∀ (m_thrown : Int32) (m_model : Nat → Int32) (m_asked : Int32) (m_asksOf : Int32) (m_asksLeft : Int32) (m_asksRight : Int32) (m_hadPredicates : Int32) (m_calls : Nat → Int32) (m_row : Nat → Int32) (m_inRow : Int32) (m_patterns : Nat → Int32) (m_rewritten : Int32) (m_values : Nat → Int32) (m_by : Nat → Int32) (m_choice : Nat → Int32) (m_rule : Int32) (m_atoms : Int32) (m_depth : Int32), (CE m_thrown m_model m_asked m_asksOf m_asksLeft m_asksRight m_hadPredicates m_calls m_row m_inRow m_patterns m_rewritten m_values m_by m_choice m_rule m_atoms m_depth) i_ofAtom = some (.inl (cI, 124, .inl m_ofAtom))) (k_left : ∀ (m_thrown : Int32) (m_model : Nat → Int32) (m_asked : Int32) (m_asksOf : Int32) (m_asksLeft : Int32) (m_asksRight : Int32) (m_hadPredicates : Int32) (m_calls : Nat → Int32) (m_row : Nat → Int32) (m_inRow : Int32) (m_patterns : Nat → Int32) (m_rewritten : Int32) (m_values : Nat → Int32) (m_by : Nat → Int32) (m_choice : Nat → Int32) (m_rule : Int32) (m_atoms : Int32) (m_depth : Int32), (CE m_thrown m_model m_asked m_asksOf m_asksLeft m_asksRight m_hadPredicates m_calls m_row m_inRow m_patterns m_rewritten m_values m_by m_choice m_rule m_atoms m_depth) i_left = some (.inl (cI, 124, .inl m_left))) (k_right : ∀ (m_thrown : Int32) (m_model : Nat → Int32) (m_asked : Int32) (m_asksOf : Int32) (m_asksLeft : Int32) (m_asksRight : Int32) (m_hadPredicates : Int32) (m_calls : Nat → Int32) (m_row : Nat → Int32) (m_inRow : Int32) (m_patterns : Nat → Int32) (m_rewritten : Int32) (m_values : Nat → Int32) (m_by : Nat → Int32) (m_choice : Nat → Int32) (m_rule : Int32) (m_atoms : Int32) (m_depth : Int32), (CE m_thrown m_model m_asked m_asksOf m_asksLeft m_asksRight m_hadPredicates m_calls m_row m_inRow m_patterns m_rewritten m_values m_by m_choice m_rule m_atoms m_depth) i_right = some (.inl (cI, 124, .inl m_right))) (k_size : ∀ (m_thrown : Int32) (m_model : Nat → Int32) (m_asked : Int32) (m_asksOf : Int32) (m_asksLeft : Int32) (m_asksRight : Int32) (m_hadPredicates : Int32) (m_calls : Nat → Int32) (m_row : Nat → Int32) (m_inRow : Int32) (m_patterns : Nat → Int32) (m_rewritten : Int32) (m_values : Nat → Int32) (m_by : Nat → Int32) (m_choice : Nat → Int32) (m_rule : Int32) (m_atoms : Int32) (m_depth : Int32), (CE m_thrown m_model m_asked m_asksOf m_asksLeft m_asksRight m_hadPredicates m_calls m_row m_inRow m_patterns m_rewritten m_values m_by m_choice m_rule m_atoms m_depth) i_size = some (.inl (cI, 31, .inl m_size))) (k_calls : ∀ (m_thrown : Int32) (m_model : Nat → Int32) (m_asked : Int32) (m_asksOf : Int32) (m_asksLeft : Int32) (m_asksRight : Int32) (m_hadPredicates : Int32) (m_calls : Nat → Int32) (m_row : Nat → Int32) (m_inRow : Int32) (m_patterns : Nat → Int32) (m_rewritten : Int32) (m_values : Nat → Int32) (m_by : Nat → Int32) (m_choice : Nat → Int32) (m_rule : Int32) (m_atoms : Int32) (m_depth : Int32), (CE m_thrown m_model m_asked m_asksOf m_asksLeft m_asksRight m_hadPredicates m_calls m_row m_inRow m_patterns m_rewritten m_values m_by m_choice m_rule m_atoms m_depth) i_calls = some (.inl (cZ, 1210, .inl m_calls))) (k_row : ∀ (m_thrown : Int32) (m_model : Nat → Int32) (m_asked : Int32) (m_asksOf : Int32) (m_asksLeft : Int32) (m_asksRight : Int32) (m_hadPredicates : Int32) (m_calls : Nat → Int32) (m_row : Nat → Int32) (m_inRow : Int32) (m_patterns : Nat → Int32) (m_rewritten : Int32) (m_values : Nat → Int32) (m_by : Nat → Int32) (m_choice : Nat → Int32) (m_rule : Int32) (m_atoms : Int32) (m_depth : Int32), (CE m_thrown m_model m_asked m_asksOf m_asksLeft m_asksRight m_hadPredicates m_calls m_row m_inRow m_patterns m_rewritten m_values m_by m_choice m_rule m_atoms m_depth) i_row = some (.inl (cI, 1210, .inl m_row))) (k_patterns : ∀ (m_thrown : Int32) (m_model : Nat → Int32) (m_asked : Int32) (m_asksOf : Int32) (m_asksLeft : Int32) (m_asksRight : Int32) (m_hadPredicates : Int32) (m_calls : Nat → Int32) (m_row : Nat → Int32) (m_inRow : Int32) (m_patterns : Nat → Int32) (m_rewritten : Int32) (m_values : Nat → Int32) (m_by : Nat → Int32) (m_choice : Nat → Int32) (m_rule : Int32) (m_atoms : Int32) (m_depth : Int32), (CE m_thrown m_model m_asked m_asksOf m_asksLeft m_asksRight m_hadPredicates m_calls m_row m_inRow m_patterns m_rewritten m_values m_by m_choice m_rule m_atoms m_depth) i_patterns = some (.inl (cZ, 40, .inl m_patterns))) (k_values : ∀ (m_thrown : Int32) (m_model : Nat → Int32) (m_asked : Int32) (m_asksOf : Int32) (m_asksLeft : Int32) (m_asksRight : Int32) (m_hadPredicates : Int32) (m_calls : Nat → Int32) (m_row : Nat → Int32) (m_inRow : Int32) (m_patterns : Nat → Int32) (m_rewritten : Int32) (m_values : Nat → Int32) (m_by : Nat → Int32) (m_choice : Nat → Int32) (m_rule : Int32) (m_atoms : Int32) (m_depth : Int32), (CE m_thrown m_model m_asked m_asksOf m_asksLeft m_asksRight m_hadPredicates m_calls m_row m_inRow m_patterns m_rewritten m_values m_by m_choice m_rule m_atoms m_depth) i_values = some (.inl (cI, 8, .inl m_values))) (k_by : ∀ (m_thrown : Int32) (m_model : Nat → Int32) (m_asked : Int32) (m_asksOf : Int32) (m_asksLeft : Int32) (m_asksRight : Int32) (m_hadPredicates : Int32) (m_calls : Nat → Int32) (m_row : Nat → Int32) (m_inRow : Int32) (m_patterns : Nat → Int32) (m_rewritten : Int32) (m_values : Nat → Int32) (m_by : Nat → Int32) (m_choice : Nat → Int32) (m_rule : Int32) (m_atoms : Int32) (m_depth : Int32), (CE m_thrown m_model m_asked m_asksOf m_asksLeft m_asksRight m_hadPredicates m_calls m_row m_inRow m_patterns m_rewritten m_values m_by m_choice m_rule m_atoms m_depth) i_by = some (.inl (cI, 8, .inl m_by))) (k_choice : ∀ (m_thrown : Int32) (m_model : Nat → Int32) (m_asked : Int32) (m_asksOf : Int32) (m_asksLeft : Int32) (m_asksRight : Int32) (m_hadPredicates : Int32) (m_calls : Nat → Int32) (m_row : Nat → Int32) (m_inRow : Int32) (m_patterns : Nat → Int32) (m_rewritten : Int32) (m_values : Nat → Int32) (m_by : Nat → Int32) (m_choice : Nat → Int32) (m_rule : Int32) (m_atoms : Int32) (m_depth : Int32), (CE m_thrown m_model m_asked m_asksOf m_asksLeft m_asksRight m_hadPredicates m_calls m_row m_inRow m_patterns m_rewritten m_values m_by m_choice m_rule m_atoms m_depth) i_choice = some (.inl (cI, 4, .inl m_choice))) (u_M : ∀ (m_thrown : Int32) (m_model : Nat → Int32) (m_asked : Int32) (m_asksOf : Int32) (m_asksLeft : Int32) (m_asksRight : Int32) (m_hadPredicates : Int32) (m_calls : Nat → Int32) (m_row : Nat → Int32) (m_inRow : Int32) (m_patterns : Nat → Int32) (m_rewritten : Int32) (m_values : Nat → Int32) (m_by : Nat → Int32) (m_choice : Nat → Int32) (m_rule : Int32) (m_atoms : Int32) (m_depth : Int32) (m_thrown' : Int32) (m_asked' : Int32) (m_asksOf' : Int32) (m_asksLeft' : Int32) (m_asksRight' : Int32) (m_hadPredicates' : Int32) (m_inRow' : Int32) (m_rewritten' : Int32) (m_rule' : Int32) (m_atoms' : Int32) (m_depth' : Int32), va_up (CE m_thrown m_model m_asked m_asksOf m_asksLeft m_asksRight m_hadPredicates m_calls m_row m_inRow m_patterns m_rewritten m_values m_by m_choice m_rule m_atoms m_depth) iM (some (.inr (4, [.int m_thrown', .ref (ad i_places), .ref (ad i_ruled), .int m_predicates, .ref (ad i_told), .ref (ad i_model), .ref (ad i_ofAtom), .ref (ad i_left), .ref (ad i_right), .ref (ad i_size), .int m_rules, .int m_begun, .int m_asked', .int m_asksOf', .int m_asksLeft', .int m_asksRight', .int m_hadPredicates', .ref (ad i_calls), .ref (ad i_row), .int m_inRow', .ref (ad i_patterns), .int m_rewritten', .ref (ad i_values), .ref (ad i_by), .ref (ad i_choice), .int m_rule', .int m_atoms', .int m_depth']))) = (CE m_thrown' m_model m_asked' m_asksOf' m_asksLeft' m_asksRight' m_hadPredicates' m_calls m_row m_inRow' m_patterns m_rewritten' m_values m_by m_choice m_rule' m_atoms' m_depth')) (u_model : ∀ (m_thrown : Int32) (m_model : Nat → Int32) (m_asked : Int32) (m_asksOf : Int32) (m_asksLeft : Int32) (m_asksRight : Int32) (m_hadPredicates : Int32) (m_calls : Nat → Int32) (m_row : Nat → Int32) (m_inRow : Int32) (m_patterns : Nat → Int32) (m_rewritten : Int32) (m_values : Nat → Int32) (m_by : Nat → Int32) (m_choice : Nat → Int32) (m_rule : Int32) (m_atoms : Int32) (m_depth : Int32) (m_model' : Nat → Int32), va_up (CE m_thrown m_model m_asked m_asksOf m_asksLeft m_asksRight m_hadPredicates m_calls m_row m_inRow m_patterns m_rewritten m_values m_by m_choice m_rule m_atoms m_depth) i_model (some (.inl (cZ, 1000, .inl m_model'))) = (CE m_thrown m_model' m_asked m_asksOf m_asksLeft m_asksRight m_hadPredicates m_calls m_row m_inRow m_patterns m_rewritten m_values m_by m_choice m_rule m_atoms m_depth)) (u_calls : ∀ (m_thrown : Int32) (m_model : Nat → Int32) (m_asked : Int32) (m_asksOf : Int32) (m_asksLeft : Int32) (m_asksRight : Int32) (m_hadPredicates : Int32) (m_calls : Nat → Int32) (m_row : Nat → Int32) (m_inRow : Int32) (m_patterns : Nat → Int32) (m_rewritten : Int32) (m_values : Nat → Int32) (m_by : Nat → Int32) (m_choice : Nat → Int32) (m_rule : Int32) (m_atoms : Int32) (m_depth : Int32) (m_calls' : Nat → Int32), va_up (CE m_thrown m_model m_asked m_asksOf m_asksLeft m_asksRight m_hadPredicates m_calls m_row m_inRow m_patterns m_rewritten m_values m_by m_choice m_rule m_atoms m_depth) i_calls (some (.inl (cZ, 1210, .inl m_calls'))) = (CE m_thrown m_model m_asked m_asksOf m_asksLeft m_asksRight m_hadPredicates m_calls' m_row m_inRow m_patterns m_rewritten m_values m_by m_choice m_rule m_atoms m_depth)) (u_row : ∀ (m_thrown : Int32) (m_model : Nat → Int32) (m_asked : Int32) (m_asksOf : Int32) (m_asksLeft : Int32) (m_asksRight : Int32) (m_hadPredicates : Int32) (m_calls : Nat → Int32) (m_row : Nat → Int32) (m_inRow : Int32) (m_patterns : Nat → Int32) (m_rewritten : Int32) (m_values : Nat → Int32) (m_by : Nat → Int32) (m_choice : Nat → Int32) (m_rule : Int32) (m_atoms : Int32) (m_depth : Int32) (m_row' : Nat → Int32), va_up (CE m_thrown m_model m_asked m_asksOf m_asksLeft m_asksRight m_hadPredicates m_calls m_row m_inRow m_patterns m_rewritten m_values m_by m_choice m_rule m_atoms m_depth) i_row (some (.inl (cI, 1210, .inl m_row'))) = (CE m_thrown m_model m_asked m_asksOf m_asksLeft m_asksRight m_hadPredicates m_calls m_row' m_inRow m_patterns m_rewritten m_values m_by m_choice m_rule m_atoms m_depth)) (u_patterns : ∀ (m_thrown : Int32) (m_model : Nat → Int32) (m_asked : Int32) (m_asksOf : Int32) (m_asksLeft : Int32) (m_asksRight : Int32) (m_hadPredicates : Int32) (m_calls : Nat → Int32) (m_row : Nat → Int32) (m_inRow : Int32) (m_patterns : Nat → Int32) (m_rewritten : Int32) (m_values : Nat → Int32) (m_by : Nat → Int32) (m_choice : Nat → Int32) (m_rule : Int32) (m_atoms : Int32) (m_depth : Int32) (m_patterns' : Nat → Int32), va_up (CE m_thrown m_model m_asked m_asksOf m_asksLeft m_asksRight m_hadPredicates m_calls m_row m_inRow m_patterns m_rewritten m_values m_by m_choice m_rule m_atoms m_depth) i_patterns (some (.inl (cZ, 40, .inl m_patterns'))) = (CE m_thrown m_model m_asked m_asksOf m_asksLeft m_asksRight m_hadPredicates m_calls m_row m_inRow m_patterns' m_rewritten m_values m_by m_choice m_rule m_atoms m_depth)) (u_values : ∀ (m_thrown : Int32) (m_model : Nat → Int32) (m_asked : Int32) (m_asksOf : Int32) (m_asksLeft : Int32) (m_asksRight : Int32) (m_hadPredicates : Int32) (m_calls : Nat → Int32) (m_row : Nat → Int32) (m_inRow : Int32) (m_patterns : Nat → Int32) (m_rewritten : Int32) (m_values : Nat → Int32) (m_by : Nat → Int32) (m_choice : Nat → Int32) (m_rule : Int32) (m_atoms : Int32) (m_depth : Int32) (m_values' : Nat → Int32), va_up (CE m_thrown m_model m_asked m_asksOf m_asksLeft m_asksRight m_hadPredicates m_calls m_row m_inRow m_patterns m_rewritten m_values m_by m_choice m_rule m_atoms m_depth) i_values (some (.inl (cI, 8, .inl m_values'))) = (CE m_thrown m_model m_asked m_asksOf m_asksLeft m_asksRight m_hadPredicates m_calls m_row m_inRow m_patterns m_rewritten m_values' m_by m_choice m_rule m_atoms m_depth)) (u_by : ∀ (m_thrown : Int32) (m_model : Nat → Int32) (m_asked : Int32) (m_asksOf : Int32) (m_asksLeft : Int32) (m_asksRight : Int32) (m_hadPredicates : Int32) (m_calls : Nat → Int32) (m_row : Nat → Int32) (m_inRow : Int32) (m_patterns : Nat → Int32) (m_rewritten : Int32) (m_values : Nat → Int32) (m_by : Nat → Int32) (m_choice : Nat → Int32) (m_rule : Int32) (m_atoms : Int32) (m_depth : Int32) (m_by' : Nat → Int32), va_up (CE m_thrown m_model m_asked m_asksOf m_asksLeft m_asksRight m_hadPredicates m_calls m_row m_inRow m_patterns m_rewritten m_values m_by m_choice m_rule m_atoms m_depth) i_by (some (.inl (cI, 8, .inl m_by'))) = (CE m_thrown m_model m_asked m_asksOf m_asksLeft m_asksRight m_hadPredicates m_calls m_row m_inRow m_patterns m_rewritten m_values m_by' m_choice m_rule m_atoms m_depth)) (u_choice : ∀ (m_thrown : Int32) (m_model : Nat → Int32) (m_asked : Int32) (m_asksOf : Int32) (m_asksLeft : Int32) (m_asksRight : Int32) (m_hadPredicates : Int32) (m_calls : Nat → Int32) (m_row : Nat → Int32) (m_inRow : Int32) (m_patterns : Nat → Int32) (m_rewritten : Int32) (m_values : Nat → Int32) (m_by : Nat → Int32) (m_choice : Nat → Int32) (m_rule : Int32) (m_atoms : Int32) (m_depth : Int32) (m_choice' : Nat → Int32), va_up (CE m_thrown m_model m_asked m_asksOf m_asksLeft m_asksRight m_hadPredicates m_calls m_row m_inRow m_patterns m_rewritten m_values m_by m_choice m_rule m_atoms m_depth) i_choice (some (.inl (cI, 4, .inl m_choice'))) = (CE m_thrown m_model m_asked m_asksOf m_asksLeft m_asksRight m_hadPredicates m_calls m_row m_inRow m_patterns m_rewritten m_values m_by m_choice' m_rule m_atoms m_depth)) {post : Int32 → Int32 → (Nat → Int32) → Int32 → Int32 → Int32 → Int32 → Int32 → (Nat → Int32) → (Nat → Int32) → Int32 → (Nat → Int32) → Int32 → (Nat → Int32) → (Nat → Int32) → (Nat → Int32) → Int32 → Int32 → Int32 → Prop} {m_thrown : Int32} {m_model : Nat → Int32} {m_asked : Int32} {m_asksOf : Int32} {m_asksLeft : Int32} {m_asksRight : Int32} {m_hadPredicates : Int32} {m_calls : Nat → Int32} {m_row : Nat → Int32} {m_inRow : Int32} {m_patterns : Nat → Int32} {m_rewritten : Int32} {m_values : Nat → Int32} {m_by : Nat → Int32} {m_choice : Nat → Int32} {m_rule : Int32} {m_atoms : Int32} {m_depth : Int32} {p0 : Int32} {p1 : Int32} {p2 : Int32} (h : wp_Mo_ask post m_places m_ruled m_predicates m_told m_ofAtom m_left m_right m_size m_rules m_thrown m_model m_asked m_asksOf m_asksLeft m_asksRight m_hadPredicates m_calls m_row m_inRow m_patterns m_rewritten m_values m_by m_choice m_rule m_atoms m_depth p0 p1 p2) : ∀ sz, Met l y_Mo_ask (Cond.code y_Mo_ask b_Mo_ask 6 (some .int) :: xg) rm_Mo_ask (xm_Pc D xcl (xT cI cZ cJ cO) ad (CE m_thrown m_model m_asked m_asksOf m_asksLeft m_asksRight m_hadPredicates m_calls m_row m_inRow m_patterns m_rewritten m_values m_by m_choice m_rule m_atoms m_depth) sz [.ref (ad iM), .int p0, .int p1, .int p2]) (va_Qi (fun (r : Int32) (u : Int32 × (Nat → Int32) × Int32 × Int32 × Int32 × Int32 × Int32 × (Nat → Int32) × (Nat → Int32) × Int32 × (Nat → Int32) × Int32 × (Nat → Int32) × (Nat → Int32) × (Nat → Int32) × Int32 × Int32 × Int32) => post r u.1 u.2.1 u.2.2.1 u.2.2.2.1 u.2.2.2.2.1 u.2.2.2.2.2.1 u.2.2.2.2.2.2.1 u.2.2.2.2.2.2.2.1 u.2.2.2.2.2.2.2.2.1 u.2.2.2.2.2.2.2.2.2.1 u.2.2.2.2.2.2.2.2.2.2.1 u.2.2.2.2.2.2.2.2.2.2.2.1 u.2.2.2.2.2.2.2.2.2.2.2.2.1 u.2.2.2.2.2.2.2.2.2.2.2.2.2.1 u.2.2.2.2.2.2.2.2.2.2.2.2.2.2.1 u.2.2.2.2.2.2.2.2.2.2.2.2.2.2.2.1 u.2.2.2.2.2.2.2.2.2.2.2.2.2.2.2.2.1 u.2.2.2.2.2.2.2.2.2.2.2.2.2.2.2.2.2) (xm_B D xcl (xT cI cZ cJ cO) (xm_A ad (CE m_thrown m_model m_asked m_asksOf m_asksLeft m_asksRight m_hadPredicates m_calls m_row m_inRow m_patterns m_rewritten m_values m_by m_choice m_rule m_atoms m_depth) sz) (fun _ => ad) (fun u : Int32 × (Nat → Int32) × Int32 × Int32 × Int32 × Int32 × Int32 × (Nat → Int32) × (Nat → Int32) × Int32 × (Nat → Int32) × Int32 × (Nat → Int32) × (Nat → Int32) × (Nat → Int32) × Int32 × Int32 × Int32 => CE u.1 u.2.1 u.2.2.1 u.2.2.2.1 u.2.2.2.2.1 u.2.2.2.2.2.1 u.2.2.2.2.2.2.1 u.2.2.2.2.2.2.2.1 u.2.2.2.2.2.2.2.2.1 u.2.2.2.2.2.2.2.2.2.1 u.2.2.2.2.2.2.2.2.2.2.1 u.2.2.2.2.2.2.2.2.2.2.2.1 u.2.2.2.2.2.2.2.2.2.2.2.2.1 u.2.2.2.2.2.2.2.2.2.2.2.2.2.1 u.2.2.2.2.2.2.2.2.2.2.2.2.2.2.1 u.2.2.2.2.2.2.2.2.2.2.2.2.2.2.2.1 u.2.2.2.2.2.2.2.2.2.2.2.2.2.2.2.2.1 u.2.2.2.2.2.2.2.2.2.2.2.2.2.2.2.2.2)) (xm_A ad (CE m_thrown m_model m_asked m_asksOf m_asksLeft m_asksRight m_hadPredicates m_calls m_row m_inRow m_patterns m_rewritten m_values m_by m_choice m_rule m_atoms m_depth) sz)) 0 0 (xm_A ad (CE m_thrown m_model m_asked m_asksOf m_asksLeft m_asksRight m_hadPredicates m_calls m_row m_inRow m_patterns m_rewritten m_values m_by m_choice m_rule m_atoms m_depth) sz) := by
  refine xm_ofW (cc := b_Mo_ask) (maxL := 6) (ret := (some .int)) (by decide) rfl (Nat.le_of_ble_eq_true rfl) ?_
  intro p e s m args below meth c ls QQ hQQ hx hb hml hr hown hlk hnm hts hl hw
  have hl : lv_has ls 6 [(0, .ref (ad iM)), (1, .int p0), (2, .int p1), (3, .int p2)] := hl
  unfold wp_Mo_ask at h
  refine lv_aload_n hx hb d_Mo_ask_0 rfl (lv_at hl 0 rfl) ?_
  refine lv_aload_n hx hb d_Mo_ask_1 rfl (lv_at hl 0 rfl) ?_
  refine lv_iload_n hx hb d_Mo_ask_2 rfl (lv_at hl 1 rfl) ?_
  refine xm_calli (ua := fun _ => ad) (va_runV (As := [.int p0]) (rest := [.ref (ad iM)]) ⟨hx, hb, hml, hown, hts⟩ (c_Mo_isPredicate (D := D) (ad := ad) (CE := ((CE m_thrown m_model m_asked m_asksOf m_asksLeft m_asksRight m_hadPredicates m_calls m_row m_inRow m_patterns m_rewritten m_values m_by m_choice m_rule m_atoms m_depth)))  (k_M m_thrown m_model m_asked m_asksOf m_asksLeft m_asksRight m_hadPredicates m_calls m_row m_inRow m_patterns m_rewritten m_values m_by m_choice m_rule m_atoms m_depth) h _) (xg_cwV 1 hts xw_669 xw_666 xw_668 xw_p24 xw_8 rfl rfl (by decide +kernel) ⟨Nat.le_of_ble_eq_true rfl, Nat.le_of_ble_eq_true rfl⟩) (xm_preV hw (k_M m_thrown m_model m_asked m_asksOf m_asksLeft m_asksRight m_hadPredicates m_calls m_row m_inRow m_patterns m_rewritten m_values m_by m_choice m_rule m_atoms m_depth) rfl _) rfl rfl hl.1 rfl (lv_room (Nat.le_of_ble_eq_true rfl)) d_Mo_ask_3 ⟨Nat.le_of_ble_eq_true rfl, Nat.le_of_ble_eq_true rfl⟩) hw (fun r_1 _ H locs h hw => ?_)
  refine xj_use h (fun (v_3 : Int32) => ∀ (H : Heap) (locs : List Loc) (ls : Array Slot), xm_W D xcl (xT cI cZ cJ cO) (xm_A ad (CE m_thrown m_model m_asked m_asksOf m_asksLeft m_asksRight m_hadPredicates m_calls m_row m_inRow m_patterns m_rewritten m_values m_by m_choice m_rule m_atoms m_depth) s.heap.size) ad (CE m_thrown m_model m_asked m_asksOf m_asksLeft m_asksRight m_hadPredicates m_calls m_row m_inRow m_patterns m_rewritten m_values m_by m_choice m_rule m_atoms m_depth) s s.heap H locs → lv_has ls 6 [(0, .ref (ad iM)), (1, .int p0), (2, .int p1), (3, .int p2)] → W p l e rm_Mo_ask s m args below meth c H locs 0 0 QQ (F0 m 26 ls [.int v_3, .ref (ad iM)])) (fun v_3 h H locs ls hw hl => ?_) (fun J_4 hJ_4 h => ?_)
  · refine xm_put (D := D) (v := .int v_3) (ty := .int) (C := R_Mo) (T := F_Mo) (N := 28) hx hb hts (fun w h => List.mem_cons_of_mem _ (i_Mo w h)) t_Mo o_Mo n_Mo hown hw (k_M m_thrown m_model m_asked m_asksOf m_asksLeft m_asksRight m_hadPredicates m_calls m_row m_inRow m_patterns m_rewritten m_values m_by m_choice m_rule m_atoms m_depth) rfl 0 (by decide) (hts _ (List.mem_cons_of_mem _ xw_562)) (fun _ h9 => h9) rfl (by decide +kernel) rfl rfl (Nat.le_of_ble_eq_true rfl) d_Mo_ask_26 (fun H locs hw => ?_)
    have hw : xm_W D xcl (xT cI cZ cJ cO) (xm_A ad (CE m_thrown m_model m_asked m_asksOf m_asksLeft m_asksRight m_hadPredicates m_calls m_row m_inRow m_patterns m_rewritten m_values m_by m_choice m_rule m_atoms m_depth) s.heap.size) ad (CE v_3 m_model m_asked m_asksOf m_asksLeft m_asksRight m_hadPredicates m_calls m_row m_inRow m_patterns m_rewritten m_values m_by m_choice m_rule m_atoms m_depth) s s.heap H locs := xm_W.cast (u_M m_thrown m_model m_asked m_asksOf m_asksLeft m_asksRight m_hadPredicates m_calls m_row m_inRow m_patterns m_rewritten m_values m_by m_choice m_rule m_atoms m_depth v_3 m_asked m_asksOf m_asksLeft m_asksRight m_hadPredicates m_inRow m_rewritten m_rule m_atoms m_depth) hw
    refine lv_aload_n hx hb d_Mo_ask_29 rfl (lv_at hl 0 rfl) ?_
    refine xm_get (D := D) (v := .int v_3) (C := R_Mo) (T := F_Mo) (N := 28) hx hb hts (fun w h => List.mem_cons_of_mem _ (i_Mo w h)) hown hw (k_M v_3 m_model m_asked m_asksOf m_asksLeft m_asksRight m_hadPredicates m_calls m_row m_inRow m_patterns m_rewritten m_values m_by m_choice m_rule m_atoms m_depth) rfl 0 (by decide) (hts _ (List.mem_cons_of_mem _ xw_562)) (fun _ h9 => h9) rfl d_Mo_ask_30 ?_
    refine lv_if_le (tgt := 38) hx hb d_Mo_ask_33 (by decide) (fun hc => ?_) (fun hc => ?_)
    · have h := h.1 hc
      refine lv_aload_n hx hb d_Mo_ask_38 rfl (lv_at hl 0 rfl) ?_
      refine lv_iconst (v := 1) hx hb d_Mo_ask_39 (by decide) ?_
      refine xm_put (D := D) (v := .int 1) (ty := .boolean) (C := R_Mo) (T := F_Mo) (N := 28) hx hb hts (fun w h => List.mem_cons_of_mem _ (i_Mo w h)) t_Mo o_Mo n_Mo hown hw (k_M v_3 m_model m_asked m_asksOf m_asksLeft m_asksRight m_hadPredicates m_calls m_row m_inRow m_patterns m_rewritten m_values m_by m_choice m_rule m_atoms m_depth) rfl 12 (by decide) (hts _ (List.mem_cons_of_mem _ xw_574)) (fun _ h9 => h9) rfl (by decide +kernel) rfl rfl (Nat.le_of_ble_eq_true rfl) d_Mo_ask_40 (fun H locs hw => ?_)
      have hw : xm_W D xcl (xT cI cZ cJ cO) (xm_A ad (CE m_thrown m_model m_asked m_asksOf m_asksLeft m_asksRight m_hadPredicates m_calls m_row m_inRow m_patterns m_rewritten m_values m_by m_choice m_rule m_atoms m_depth) s.heap.size) ad (CE v_3 m_model 1 m_asksOf m_asksLeft m_asksRight m_hadPredicates m_calls m_row m_inRow m_patterns m_rewritten m_values m_by m_choice m_rule m_atoms m_depth) s s.heap H locs := xm_W.cast (u_M v_3 m_model m_asked m_asksOf m_asksLeft m_asksRight m_hadPredicates m_calls m_row m_inRow m_patterns m_rewritten m_values m_by m_choice m_rule m_atoms m_depth v_3 1 m_asksOf m_asksLeft m_asksRight m_hadPredicates m_inRow m_rewritten m_rule m_atoms m_depth) hw
      refine lv_aload_n hx hb d_Mo_ask_43 rfl (lv_at hl 0 rfl) ?_
      refine lv_iload_n hx hb d_Mo_ask_44 rfl (lv_at hl 1 rfl) ?_
      refine xm_put (D := D) (v := .int p0) (ty := .int) (C := R_Mo) (T := F_Mo) (N := 28) hx hb hts (fun w h => List.mem_cons_of_mem _ (i_Mo w h)) t_Mo o_Mo n_Mo hown hw (k_M v_3 m_model 1 m_asksOf m_asksLeft m_asksRight m_hadPredicates m_calls m_row m_inRow m_patterns m_rewritten m_values m_by m_choice m_rule m_atoms m_depth) rfl 13 (by decide) (hts _ (List.mem_cons_of_mem _ xw_575)) (fun _ h9 => h9) rfl (by decide +kernel) rfl rfl (Nat.le_of_ble_eq_true rfl) d_Mo_ask_45 (fun H locs hw => ?_)
      have hw : xm_W D xcl (xT cI cZ cJ cO) (xm_A ad (CE m_thrown m_model m_asked m_asksOf m_asksLeft m_asksRight m_hadPredicates m_calls m_row m_inRow m_patterns m_rewritten m_values m_by m_choice m_rule m_atoms m_depth) s.heap.size) ad (CE v_3 m_model 1 p0 m_asksLeft m_asksRight m_hadPredicates m_calls m_row m_inRow m_patterns m_rewritten m_values m_by m_choice m_rule m_atoms m_depth) s s.heap H locs := xm_W.cast (u_M v_3 m_model 1 m_asksOf m_asksLeft m_asksRight m_hadPredicates m_calls m_row m_inRow m_patterns m_rewritten m_values m_by m_choice m_rule m_atoms m_depth v_3 1 p0 m_asksLeft m_asksRight m_hadPredicates m_inRow m_rewritten m_rule m_atoms m_depth) hw
      refine lv_aload_n hx hb d_Mo_ask_48 rfl (lv_at hl 0 rfl) ?_
      refine lv_iload_n hx hb d_Mo_ask_49 rfl (lv_at hl 2 rfl) ?_
      refine xm_put (D := D) (v := .int p1) (ty := .int) (C := R_Mo) (T := F_Mo) (N := 28) hx hb hts (fun w h => List.mem_cons_of_mem _ (i_Mo w h)) t_Mo o_Mo n_Mo hown hw (k_M v_3 m_model 1 p0 m_asksLeft m_asksRight m_hadPredicates m_calls m_row m_inRow m_patterns m_rewritten m_values m_by m_choice m_rule m_atoms m_depth) rfl 14 (by decide) (hts _ (List.mem_cons_of_mem _ xw_576)) (fun _ h9 => h9) rfl (by decide +kernel) rfl rfl (Nat.le_of_ble_eq_true rfl) d_Mo_ask_50 (fun H locs hw => ?_)
      have hw : xm_W D xcl (xT cI cZ cJ cO) (xm_A ad (CE m_thrown m_model m_asked m_asksOf m_asksLeft m_asksRight m_hadPredicates m_calls m_row m_inRow m_patterns m_rewritten m_values m_by m_choice m_rule m_atoms m_depth) s.heap.size) ad (CE v_3 m_model 1 p0 p1 m_asksRight m_hadPredicates m_calls m_row m_inRow m_patterns m_rewritten m_values m_by m_choice m_rule m_atoms m_depth) s s.heap H locs := xm_W.cast (u_M v_3 m_model 1 p0 m_asksLeft m_asksRight m_hadPredicates m_calls m_row m_inRow m_patterns m_rewritten m_values m_by m_choice m_rule m_atoms m_depth v_3 1 p0 p1 m_asksRight m_hadPredicates m_inRow m_rewritten m_rule m_atoms m_depth) hw
      refine lv_aload_n hx hb d_Mo_ask_53 rfl (lv_at hl 0 rfl) ?_
      refine lv_iload_n hx hb d_Mo_ask_54 rfl (lv_at hl 3 rfl) ?_
      refine xm_put (D := D) (v := .int p2) (ty := .int) (C := R_Mo) (T := F_Mo) (N := 28) hx hb hts (fun w h => List.mem_cons_of_mem _ (i_Mo w h)) t_Mo o_Mo n_Mo hown hw (k_M v_3 m_model 1 p0 p1 m_asksRight m_hadPredicates m_calls m_row m_inRow m_patterns m_rewritten m_values m_by m_choice m_rule m_atoms m_depth) rfl 15 (by decide) (hts _ (List.mem_cons_of_mem _ xw_577)) (fun _ h9 => h9) rfl (by decide +kernel) rfl rfl (Nat.le_of_ble_eq_true rfl) d_Mo_ask_55 (fun H locs hw => ?_)
      have hw : xm_W D xcl (xT cI cZ cJ cO) (xm_A ad (CE m_thrown m_model m_asked m_asksOf m_asksLeft m_asksRight m_hadPredicates m_calls m_row m_inRow m_patterns m_rewritten m_values m_by m_choice m_rule m_atoms m_depth) s.heap.size) ad (CE v_3 m_model 1 p0 p1 p2 m_hadPredicates m_calls m_row m_inRow m_patterns m_rewritten m_values m_by m_choice m_rule m_atoms m_depth) s s.heap H locs := xm_W.cast (u_M v_3 m_model 1 p0 p1 m_asksRight m_hadPredicates m_calls m_row m_inRow m_patterns m_rewritten m_values m_by m_choice m_rule m_atoms m_depth v_3 1 p0 p1 p2 m_hadPredicates m_inRow m_rewritten m_rule m_atoms m_depth) hw
      refine lv_aload_n hx hb d_Mo_ask_58 rfl (lv_at hl 0 rfl) ?_
      refine lv_aload_n hx hb d_Mo_ask_59 rfl (lv_at hl 0 rfl) ?_
      refine xm_get (D := D) (v := .int m_predicates) (C := R_Mo) (T := F_Mo) (N := 28) hx hb hts (fun w h => List.mem_cons_of_mem _ (i_Mo w h)) hown hw (k_M v_3 m_model 1 p0 p1 p2 m_hadPredicates m_calls m_row m_inRow m_patterns m_rewritten m_values m_by m_choice m_rule m_atoms m_depth) rfl 3 (by decide) (hts _ (List.mem_cons_of_mem _ xw_565)) (fun _ h9 => h9) rfl d_Mo_ask_60 ?_
      refine xm_put (D := D) (v := .int m_predicates) (ty := .int) (C := R_Mo) (T := F_Mo) (N := 28) hx hb hts (fun w h => List.mem_cons_of_mem _ (i_Mo w h)) t_Mo o_Mo n_Mo hown hw (k_M v_3 m_model 1 p0 p1 p2 m_hadPredicates m_calls m_row m_inRow m_patterns m_rewritten m_values m_by m_choice m_rule m_atoms m_depth) rfl 16 (by decide) (hts _ (List.mem_cons_of_mem _ xw_578)) (fun _ h9 => h9) rfl (by decide +kernel) rfl rfl (Nat.le_of_ble_eq_true rfl) d_Mo_ask_63 (fun H locs hw => ?_)
      have hw : xm_W D xcl (xT cI cZ cJ cO) (xm_A ad (CE m_thrown m_model m_asked m_asksOf m_asksLeft m_asksRight m_hadPredicates m_calls m_row m_inRow m_patterns m_rewritten m_values m_by m_choice m_rule m_atoms m_depth) s.heap.size) ad (CE v_3 m_model 1 p0 p1 p2 m_predicates m_calls m_row m_inRow m_patterns m_rewritten m_values m_by m_choice m_rule m_atoms m_depth) s s.heap H locs := xm_W.cast (u_M v_3 m_model 1 p0 p1 p2 m_hadPredicates m_calls m_row m_inRow m_patterns m_rewritten m_values m_by m_choice m_rule m_atoms m_depth v_3 1 p0 p1 p2 m_predicates m_inRow m_rewritten m_rule m_atoms m_depth) hw
      refine lv_aload_n hx hb d_Mo_ask_66 rfl (lv_at hl 0 rfl) ?_
      refine xm_callv (ua := fun _ => ad) (va_runV (As := []) (rest := []) ⟨hx, hb, hml, hown, hts⟩ (c_Mo_models (D := D) (ad := ad) (CE := (fun m_model m_values m_by m_choice m_rule m_atoms m_depth => (CE v_3 m_model 1 p0 p1 p2 m_predicates m_calls m_row m_inRow m_patterns m_rewritten m_values m_by m_choice m_rule m_atoms m_depth)))  (fun m_model m_values m_by m_choice m_rule m_atoms m_depth => k_M v_3 m_model 1 p0 p1 p2 m_predicates m_calls m_row m_inRow m_patterns m_rewritten m_values m_by m_choice m_rule m_atoms m_depth) (fun m_model m_values m_by m_choice m_rule m_atoms m_depth => k_told v_3 m_model 1 p0 p1 p2 m_predicates m_calls m_row m_inRow m_patterns m_rewritten m_values m_by m_choice m_rule m_atoms m_depth) (fun m_model m_values m_by m_choice m_rule m_atoms m_depth => k_model v_3 m_model 1 p0 p1 p2 m_predicates m_calls m_row m_inRow m_patterns m_rewritten m_values m_by m_choice m_rule m_atoms m_depth) (fun m_model m_values m_by m_choice m_rule m_atoms m_depth => k_ofAtom v_3 m_model 1 p0 p1 p2 m_predicates m_calls m_row m_inRow m_patterns m_rewritten m_values m_by m_choice m_rule m_atoms m_depth) (fun m_model m_values m_by m_choice m_rule m_atoms m_depth => k_left v_3 m_model 1 p0 p1 p2 m_predicates m_calls m_row m_inRow m_patterns m_rewritten m_values m_by m_choice m_rule m_atoms m_depth) (fun m_model m_values m_by m_choice m_rule m_atoms m_depth => k_right v_3 m_model 1 p0 p1 p2 m_predicates m_calls m_row m_inRow m_patterns m_rewritten m_values m_by m_choice m_rule m_atoms m_depth) (fun m_model m_values m_by m_choice m_rule m_atoms m_depth => k_size v_3 m_model 1 p0 p1 p2 m_predicates m_calls m_row m_inRow m_patterns m_rewritten m_values m_by m_choice m_rule m_atoms m_depth) (fun m_model m_values m_by m_choice m_rule m_atoms m_depth => k_values v_3 m_model 1 p0 p1 p2 m_predicates m_calls m_row m_inRow m_patterns m_rewritten m_values m_by m_choice m_rule m_atoms m_depth) (fun m_model m_values m_by m_choice m_rule m_atoms m_depth => k_by v_3 m_model 1 p0 p1 p2 m_predicates m_calls m_row m_inRow m_patterns m_rewritten m_values m_by m_choice m_rule m_atoms m_depth) (fun m_model m_values m_by m_choice m_rule m_atoms m_depth => k_choice v_3 m_model 1 p0 p1 p2 m_predicates m_calls m_row m_inRow m_patterns m_rewritten m_values m_by m_choice m_rule m_atoms m_depth) (fun m_model m_values m_by m_choice m_rule m_atoms m_depth m_rule' m_atoms' m_depth' => u_M v_3 m_model 1 p0 p1 p2 m_predicates m_calls m_row m_inRow m_patterns m_rewritten m_values m_by m_choice m_rule m_atoms m_depth v_3 1 p0 p1 p2 m_predicates m_inRow m_rewritten m_rule' m_atoms' m_depth') (fun m_model m_values m_by m_choice m_rule m_atoms m_depth m_model' => u_model v_3 m_model 1 p0 p1 p2 m_predicates m_calls m_row m_inRow m_patterns m_rewritten m_values m_by m_choice m_rule m_atoms m_depth m_model') (fun m_model m_values m_by m_choice m_rule m_atoms m_depth m_values' => u_values v_3 m_model 1 p0 p1 p2 m_predicates m_calls m_row m_inRow m_patterns m_rewritten m_values m_by m_choice m_rule m_atoms m_depth m_values') (fun m_model m_values m_by m_choice m_rule m_atoms m_depth m_by' => u_by v_3 m_model 1 p0 p1 p2 m_predicates m_calls m_row m_inRow m_patterns m_rewritten m_values m_by m_choice m_rule m_atoms m_depth m_by') (fun m_model m_values m_by m_choice m_rule m_atoms m_depth m_choice' => u_choice v_3 m_model 1 p0 p1 p2 m_predicates m_calls m_row m_inRow m_patterns m_rewritten m_values m_by m_choice m_rule m_atoms m_depth m_choice') h _) (xg_cwV 0 hts xw_716 xw_713 xw_715 xw_p29 xw_8 rfl rfl (by decide +kernel) ⟨Nat.le_of_ble_eq_true rfl, Nat.le_of_ble_eq_true rfl⟩) (xm_preV hw (k_M v_3 m_model 1 p0 p1 p2 m_predicates m_calls m_row m_inRow m_patterns m_rewritten m_values m_by m_choice m_rule m_atoms m_depth) rfl _) rfl rfl hl.1 rfl (lv_room (Nat.le_of_ble_eq_true rfl)) d_Mo_ask_67 ⟨Nat.le_of_ble_eq_true rfl, Nat.le_of_ble_eq_true rfl⟩) hw (fun u_6 H locs h hw => ?_)
      obtain ⟨m_model_7, em_model_7⟩ : ∃ z, z = u_6.1 := ⟨_, rfl⟩
      obtain ⟨m_values_8, em_values_8⟩ : ∃ z, z = u_6.2.1 := ⟨_, rfl⟩
      obtain ⟨m_by_9, em_by_9⟩ : ∃ z, z = u_6.2.2.1 := ⟨_, rfl⟩
      obtain ⟨m_choice_10, em_choice_10⟩ : ∃ z, z = u_6.2.2.2.1 := ⟨_, rfl⟩
      obtain ⟨m_rule_11, em_rule_11⟩ : ∃ z, z = u_6.2.2.2.2.1 := ⟨_, rfl⟩
      obtain ⟨m_atoms_12, em_atoms_12⟩ : ∃ z, z = u_6.2.2.2.2.2.1 := ⟨_, rfl⟩
      obtain ⟨m_depth_13, em_depth_13⟩ : ∃ z, z = u_6.2.2.2.2.2.2 := ⟨_, rfl⟩
      try dsimp only at h hw
      rw [← em_model_7, ← em_values_8, ← em_by_9, ← em_choice_10, ← em_rule_11, ← em_atoms_12, ← em_depth_13] at h hw
      refine lv_aload_n hx hb d_Mo_ask_70 rfl (lv_at hl 0 rfl) ?_
      refine xm_callv (ua := fun _ => ad) (va_runV (As := []) (rest := []) ⟨hx, hb, hml, hown, hts⟩ (c_Mo_asks (D := D) (ad := ad) (CE := (fun m_calls m_row m_inRow m_values m_by m_choice m_rule m_atoms m_depth => (CE v_3 m_model_7 1 p0 p1 p2 m_predicates m_calls m_row m_inRow m_patterns m_rewritten m_values m_by m_choice m_rule m_atoms m_depth)))  (fun m_calls m_row m_inRow m_values m_by m_choice m_rule m_atoms m_depth => k_M v_3 m_model_7 1 p0 p1 p2 m_predicates m_calls m_row m_inRow m_patterns m_rewritten m_values m_by m_choice m_rule m_atoms m_depth) (fun m_calls m_row m_inRow m_values m_by m_choice m_rule m_atoms m_depth => k_ruled v_3 m_model_7 1 p0 p1 p2 m_predicates m_calls m_row m_inRow m_patterns m_rewritten m_values m_by m_choice m_rule m_atoms m_depth) (fun m_calls m_row m_inRow m_values m_by m_choice m_rule m_atoms m_depth => k_model v_3 m_model_7 1 p0 p1 p2 m_predicates m_calls m_row m_inRow m_patterns m_rewritten m_values m_by m_choice m_rule m_atoms m_depth) (fun m_calls m_row m_inRow m_values m_by m_choice m_rule m_atoms m_depth => k_ofAtom v_3 m_model_7 1 p0 p1 p2 m_predicates m_calls m_row m_inRow m_patterns m_rewritten m_values m_by m_choice m_rule m_atoms m_depth) (fun m_calls m_row m_inRow m_values m_by m_choice m_rule m_atoms m_depth => k_left v_3 m_model_7 1 p0 p1 p2 m_predicates m_calls m_row m_inRow m_patterns m_rewritten m_values m_by m_choice m_rule m_atoms m_depth) (fun m_calls m_row m_inRow m_values m_by m_choice m_rule m_atoms m_depth => k_right v_3 m_model_7 1 p0 p1 p2 m_predicates m_calls m_row m_inRow m_patterns m_rewritten m_values m_by m_choice m_rule m_atoms m_depth) (fun m_calls m_row m_inRow m_values m_by m_choice m_rule m_atoms m_depth => k_size v_3 m_model_7 1 p0 p1 p2 m_predicates m_calls m_row m_inRow m_patterns m_rewritten m_values m_by m_choice m_rule m_atoms m_depth) (fun m_calls m_row m_inRow m_values m_by m_choice m_rule m_atoms m_depth => k_calls v_3 m_model_7 1 p0 p1 p2 m_predicates m_calls m_row m_inRow m_patterns m_rewritten m_values m_by m_choice m_rule m_atoms m_depth) (fun m_calls m_row m_inRow m_values m_by m_choice m_rule m_atoms m_depth => k_row v_3 m_model_7 1 p0 p1 p2 m_predicates m_calls m_row m_inRow m_patterns m_rewritten m_values m_by m_choice m_rule m_atoms m_depth) (fun m_calls m_row m_inRow m_values m_by m_choice m_rule m_atoms m_depth => k_values v_3 m_model_7 1 p0 p1 p2 m_predicates m_calls m_row m_inRow m_patterns m_rewritten m_values m_by m_choice m_rule m_atoms m_depth) (fun m_calls m_row m_inRow m_values m_by m_choice m_rule m_atoms m_depth => k_by v_3 m_model_7 1 p0 p1 p2 m_predicates m_calls m_row m_inRow m_patterns m_rewritten m_values m_by m_choice m_rule m_atoms m_depth) (fun m_calls m_row m_inRow m_values m_by m_choice m_rule m_atoms m_depth => k_choice v_3 m_model_7 1 p0 p1 p2 m_predicates m_calls m_row m_inRow m_patterns m_rewritten m_values m_by m_choice m_rule m_atoms m_depth) (fun m_calls m_row m_inRow m_values m_by m_choice m_rule m_atoms m_depth m_inRow' m_rule' m_atoms' m_depth' => u_M v_3 m_model_7 1 p0 p1 p2 m_predicates m_calls m_row m_inRow m_patterns m_rewritten m_values m_by m_choice m_rule m_atoms m_depth v_3 1 p0 p1 p2 m_predicates m_inRow' m_rewritten m_rule' m_atoms' m_depth') (fun m_calls m_row m_inRow m_values m_by m_choice m_rule m_atoms m_depth m_calls' => u_calls v_3 m_model_7 1 p0 p1 p2 m_predicates m_calls m_row m_inRow m_patterns m_rewritten m_values m_by m_choice m_rule m_atoms m_depth m_calls') (fun m_calls m_row m_inRow m_values m_by m_choice m_rule m_atoms m_depth m_row' => u_row v_3 m_model_7 1 p0 p1 p2 m_predicates m_calls m_row m_inRow m_patterns m_rewritten m_values m_by m_choice m_rule m_atoms m_depth m_row') (fun m_calls m_row m_inRow m_values m_by m_choice m_rule m_atoms m_depth m_values' => u_values v_3 m_model_7 1 p0 p1 p2 m_predicates m_calls m_row m_inRow m_patterns m_rewritten m_values m_by m_choice m_rule m_atoms m_depth m_values') (fun m_calls m_row m_inRow m_values m_by m_choice m_rule m_atoms m_depth m_by' => u_by v_3 m_model_7 1 p0 p1 p2 m_predicates m_calls m_row m_inRow m_patterns m_rewritten m_values m_by m_choice m_rule m_atoms m_depth m_by') (fun m_calls m_row m_inRow m_values m_by m_choice m_rule m_atoms m_depth m_choice' => u_choice v_3 m_model_7 1 p0 p1 p2 m_predicates m_calls m_row m_inRow m_patterns m_rewritten m_values m_by m_choice m_rule m_atoms m_depth m_choice') h _) (xg_cwV 0 hts xw_744 xw_741 xw_743 xw_p36 xw_8 rfl rfl (by decide +kernel) ⟨Nat.le_of_ble_eq_true rfl, Nat.le_of_ble_eq_true rfl⟩) (xm_preV hw (k_M v_3 m_model_7 1 p0 p1 p2 m_predicates m_calls m_row m_inRow m_patterns m_rewritten m_values_8 m_by_9 m_choice_10 m_rule_11 m_atoms_12 m_depth_13) rfl _) rfl rfl hl.1 rfl (lv_room (Nat.le_of_ble_eq_true rfl)) d_Mo_ask_71 ⟨Nat.le_of_ble_eq_true rfl, Nat.le_of_ble_eq_true rfl⟩) hw (fun u_15 H locs h hw => ?_)
      obtain ⟨m_calls_16, em_calls_16⟩ : ∃ z, z = u_15.1 := ⟨_, rfl⟩
      obtain ⟨m_row_17, em_row_17⟩ : ∃ z, z = u_15.2.1 := ⟨_, rfl⟩
      obtain ⟨m_inRow_18, em_inRow_18⟩ : ∃ z, z = u_15.2.2.1 := ⟨_, rfl⟩
      obtain ⟨m_values_19, em_values_19⟩ : ∃ z, z = u_15.2.2.2.1 := ⟨_, rfl⟩
      obtain ⟨m_by_20, em_by_20⟩ : ∃ z, z = u_15.2.2.2.2.1 := ⟨_, rfl⟩
      obtain ⟨m_choice_21, em_choice_21⟩ : ∃ z, z = u_15.2.2.2.2.2.1 := ⟨_, rfl⟩
      obtain ⟨m_rule_22, em_rule_22⟩ : ∃ z, z = u_15.2.2.2.2.2.2.1 := ⟨_, rfl⟩
      obtain ⟨m_atoms_23, em_atoms_23⟩ : ∃ z, z = u_15.2.2.2.2.2.2.2.1 := ⟨_, rfl⟩
      obtain ⟨m_depth_24, em_depth_24⟩ : ∃ z, z = u_15.2.2.2.2.2.2.2.2 := ⟨_, rfl⟩
      try dsimp only at h hw
      rw [← em_calls_16, ← em_row_17, ← em_inRow_18, ← em_values_19, ← em_by_20, ← em_choice_21, ← em_rule_22, ← em_atoms_23, ← em_depth_24] at h hw
      refine lv_aload_n hx hb d_Mo_ask_74 rfl (lv_at hl 0 rfl) ?_
      refine xm_callv (ua := fun _ => ad) (va_runV (As := []) (rest := []) ⟨hx, hb, hml, hown, hts⟩ (c_Mo_rewrites (D := D) (ad := ad) (CE := (fun m_patterns m_rewritten => (CE v_3 m_model_7 1 p0 p1 p2 m_predicates m_calls_16 m_row_17 m_inRow_18 m_patterns m_rewritten m_values_19 m_by_20 m_choice_21 m_rule_22 m_atoms_23 m_depth_24)))  (fun m_patterns m_rewritten => k_M v_3 m_model_7 1 p0 p1 p2 m_predicates m_calls_16 m_row_17 m_inRow_18 m_patterns m_rewritten m_values_19 m_by_20 m_choice_21 m_rule_22 m_atoms_23 m_depth_24) (fun m_patterns m_rewritten => k_ruled v_3 m_model_7 1 p0 p1 p2 m_predicates m_calls_16 m_row_17 m_inRow_18 m_patterns m_rewritten m_values_19 m_by_20 m_choice_21 m_rule_22 m_atoms_23 m_depth_24) (fun m_patterns m_rewritten => k_ofAtom v_3 m_model_7 1 p0 p1 p2 m_predicates m_calls_16 m_row_17 m_inRow_18 m_patterns m_rewritten m_values_19 m_by_20 m_choice_21 m_rule_22 m_atoms_23 m_depth_24) (fun m_patterns m_rewritten => k_left v_3 m_model_7 1 p0 p1 p2 m_predicates m_calls_16 m_row_17 m_inRow_18 m_patterns m_rewritten m_values_19 m_by_20 m_choice_21 m_rule_22 m_atoms_23 m_depth_24) (fun m_patterns m_rewritten => k_right v_3 m_model_7 1 p0 p1 p2 m_predicates m_calls_16 m_row_17 m_inRow_18 m_patterns m_rewritten m_values_19 m_by_20 m_choice_21 m_rule_22 m_atoms_23 m_depth_24) (fun m_patterns m_rewritten => k_size v_3 m_model_7 1 p0 p1 p2 m_predicates m_calls_16 m_row_17 m_inRow_18 m_patterns m_rewritten m_values_19 m_by_20 m_choice_21 m_rule_22 m_atoms_23 m_depth_24) (fun m_patterns m_rewritten => k_patterns v_3 m_model_7 1 p0 p1 p2 m_predicates m_calls_16 m_row_17 m_inRow_18 m_patterns m_rewritten m_values_19 m_by_20 m_choice_21 m_rule_22 m_atoms_23 m_depth_24) (fun m_patterns m_rewritten m_rewritten' => u_M v_3 m_model_7 1 p0 p1 p2 m_predicates m_calls_16 m_row_17 m_inRow_18 m_patterns m_rewritten m_values_19 m_by_20 m_choice_21 m_rule_22 m_atoms_23 m_depth_24 v_3 1 p0 p1 p2 m_predicates m_inRow_18 m_rewritten' m_rule_22 m_atoms_23 m_depth_24) (fun m_patterns m_rewritten m_patterns' => u_patterns v_3 m_model_7 1 p0 p1 p2 m_predicates m_calls_16 m_row_17 m_inRow_18 m_patterns m_rewritten m_values_19 m_by_20 m_choice_21 m_rule_22 m_atoms_23 m_depth_24 m_patterns') h _) (xg_cwV 0 hts xw_760 xw_757 xw_759 xw_p40 xw_8 rfl rfl (by decide +kernel) ⟨Nat.le_of_ble_eq_true rfl, Nat.le_of_ble_eq_true rfl⟩) (xm_preV hw (k_M v_3 m_model_7 1 p0 p1 p2 m_predicates m_calls_16 m_row_17 m_inRow_18 m_patterns m_rewritten m_values_19 m_by_20 m_choice_21 m_rule_22 m_atoms_23 m_depth_24) rfl _) rfl rfl hl.1 rfl (lv_room (Nat.le_of_ble_eq_true rfl)) d_Mo_ask_75 ⟨Nat.le_of_ble_eq_true rfl, Nat.le_of_ble_eq_true rfl⟩) hw (fun u_26 H locs h hw => ?_)
      obtain ⟨m_patterns_27, em_patterns_27⟩ : ∃ z, z = u_26.1 := ⟨_, rfl⟩
      obtain ⟨m_rewritten_28, em_rewritten_28⟩ : ∃ z, z = u_26.2 := ⟨_, rfl⟩
      try dsimp only at h hw
      rw [← em_patterns_27, ← em_rewritten_28] at h hw
      refine lv_iconst (v := 0) hx hb d_Mo_ask_78 (by decide) ?_
      refine lv_istore (lv' := [(4, .int 0), (0, .ref (ad iM)), (1, .int p0), (2, .int p1), (3, .int p2)]) hx hb d_Mo_ask_79 hl (by decide) rfl (fun ls hl => ?_)
      refine lv_iconst (v := 0) hx hb d_Mo_ask_81 (by decide) ?_
      refine lv_istore (lv' := [(5, .int 0), (4, .int 0), (0, .ref (ad iM)), (1, .int p0), (2, .int p1), (3, .int p2)]) hx hb d_Mo_ask_82 hl (by decide) rfl (fun ls hl => ?_)
      refine xL_use h (fun (v_29 : Int32 × Int32) => ∀ (H : Heap) (locs : List Loc) (ls : Array Slot), xm_W D xcl (xT cI cZ cJ cO) (xm_A ad (CE m_thrown m_model m_asked m_asksOf m_asksLeft m_asksRight m_hadPredicates m_calls m_row m_inRow m_patterns m_rewritten m_values m_by m_choice m_rule m_atoms m_depth) s.heap.size) ad (CE v_3 m_model_7 1 p0 p1 p2 m_predicates m_calls_16 m_row_17 m_inRow_18 m_patterns_27 m_rewritten_28 m_values_19 m_by_20 m_choice_21 m_rule_22 m_atoms_23 m_depth_24) s s.heap H locs → lv_has ls 6 [(5, .int v_29.1), (4, .int v_29.2), (0, .ref (ad iM))] → W p l e rm_Mo_ask s m args below meth c H locs 0 0 QQ (F0 m 84 ls [])) (fun K_30 hK_30 v_29 h H locs ls hw hl => ?_) _ _ _ hw (lv_sub hl [0, 1, 2] rfl)
      refine lv_iload hx hb d_Mo_ask_84 (lv_at hl 0 rfl) ?_
      refine lv_sipush (v := 1000) hx hb d_Mo_ask_86 (by decide) ?_
      refine lv_icmp_ge (tgt := 117) hx hb d_Mo_ask_89 (by decide) (fun hc => ?_) (fun hc => ?_)
      · have h := h.1 hc
        refine lv_iload hx hb d_Mo_ask_117 (lv_at hl 1 rfl) ?_
        subst hQQ
        exact xm_iret hx hb hr hlk hw (v_3, m_model_7, 1, p0, p1, p2, m_predicates, m_calls_16, m_row_17, m_inRow_18, m_patterns_27, m_rewritten_28, m_values_19, m_by_20, m_choice_21, m_rule_22, m_atoms_23, m_depth_24) rfl rfl h d_Mo_ask_119
      · have h := h.2 hc
        refine lv_iload hx hb d_Mo_ask_92 (lv_at hl 1 rfl) ?_
        refine lv_aload_n hx hb d_Mo_ask_94 rfl (lv_at hl 2 rfl) ?_
        refine lv_iload hx hb d_Mo_ask_95 (lv_at hl 0 rfl) ?_
        refine xm_calli (ua := fun _ => ad) (va_runV (As := [.int v_29.1]) (rest := [.int v_29.2]) ⟨hx, hb, hml, hown, hts⟩ (c_Mo_isAnswer (D := D) (ad := ad) (CE := ((CE v_3 m_model_7 1 p0 p1 p2 m_predicates m_calls_16 m_row_17 m_inRow_18 m_patterns_27 m_rewritten_28 m_values_19 m_by_20 m_choice_21 m_rule_22 m_atoms_23 m_depth_24)))  (k_M v_3 m_model_7 1 p0 p1 p2 m_predicates m_calls_16 m_row_17 m_inRow_18 m_patterns_27 m_rewritten_28 m_values_19 m_by_20 m_choice_21 m_rule_22 m_atoms_23 m_depth_24) (k_model v_3 m_model_7 1 p0 p1 p2 m_predicates m_calls_16 m_row_17 m_inRow_18 m_patterns_27 m_rewritten_28 m_values_19 m_by_20 m_choice_21 m_rule_22 m_atoms_23 m_depth_24) h _) (xg_cwV 1 hts xw_768 xw_765 xw_767 xw_p42 xw_8 rfl rfl (by decide +kernel) ⟨Nat.le_of_ble_eq_true rfl, Nat.le_of_ble_eq_true rfl⟩) (xm_preV hw (k_M v_3 m_model_7 1 p0 p1 p2 m_predicates m_calls_16 m_row_17 m_inRow_18 m_patterns_27 m_rewritten_28 m_values_19 m_by_20 m_choice_21 m_rule_22 m_atoms_23 m_depth_24) rfl _) rfl rfl hl.1 rfl (lv_room (Nat.le_of_ble_eq_true rfl)) d_Mo_ask_97 ⟨Nat.le_of_ble_eq_true rfl, Nat.le_of_ble_eq_true rfl⟩) hw (fun r_31 _ H locs h hw => ?_)
        refine xj_use h (fun (v_33 : Int32) => ∀ (H : Heap) (locs : List Loc) (ls : Array Slot), xm_W D xcl (xT cI cZ cJ cO) (xm_A ad (CE m_thrown m_model m_asked m_asksOf m_asksLeft m_asksRight m_hadPredicates m_calls m_row m_inRow m_patterns m_rewritten m_values m_by m_choice m_rule m_atoms m_depth) s.heap.size) ad (CE v_3 m_model_7 1 p0 p1 p2 m_predicates m_calls_16 m_row_17 m_inRow_18 m_patterns_27 m_rewritten_28 m_values_19 m_by_20 m_choice_21 m_rule_22 m_atoms_23 m_depth_24) s s.heap H locs → lv_has ls 6 [(0, .ref (ad iM)), (5, .int v_29.1)] → W p l e rm_Mo_ask s m args below meth c H locs 0 0 QQ (F0 m 108 ls [.int v_33, .int v_29.2])) (fun v_33 h H locs ls hw hl => ?_) (fun J_34 hJ_34 h => ?_)
        · refine lv_iadd hx hb d_Mo_ask_108 ?_
          refine lv_topi (fun x_35 ex_35 => ?_)
          have h := h x_35 ex_35
          refine lv_istore (lv' := [(4, .int x_35), (0, .ref (ad iM)), (5, .int v_29.1)]) hx hb d_Mo_ask_109 hl (by decide) rfl (fun ls hl => ?_)
          obtain ⟨x_36, ex_36⟩ : ∃ y : Int32, y = v_29.1 + 1 := ⟨_, rfl⟩
          have h := h x_36 ex_36
          refine lv_iinc (v := x_36) (lv' := [(5, .int x_36), (4, .int x_35), (0, .ref (ad iM))]) hx hb d_Mo_ask_111 hl (k := 2) rfl (by rw [ex_36]; rfl) (by decide) rfl (fun ls hl => ?_)
          refine lv_goto (tgt := 84) hx hb d_Mo_ask_114 (by decide) ?_
          exact hK_30 (x_36, x_35) h _ _ _ hw (lv_sub hl [0, 1, 2] rfl)
        · refine lv_if_eq (tgt := 107) hx hb d_Mo_ask_100 (by decide) (fun hc => ?_) (fun hc => ?_)
          · have h := h.1 hc
            refine lv_iconst (v := 0) hx hb d_Mo_ask_107 (by decide) ?_
            exact hJ_34 0 h _ _ _ hw (lv_sub hl [2, 0] rfl)
          · have h := h.2 hc
            refine lv_iconst (v := 1) hx hb d_Mo_ask_103 (by decide) ?_
            refine lv_goto (tgt := 108) hx hb d_Mo_ask_104 (by decide) ?_
            exact hJ_34 1 h _ _ _ hw (lv_sub hl [2, 0] rfl)
    · have h := h.2 hc
      refine lv_iconst (v := 0) hx hb d_Mo_ask_36 (by decide) ?_
      subst hQQ
      exact xm_iret hx hb hr hlk hw (v_3, m_model, m_asked, m_asksOf, m_asksLeft, m_asksRight, m_hadPredicates, m_calls, m_row, m_inRow, m_patterns, m_rewritten, m_values, m_by, m_choice, m_rule, m_atoms, m_depth) rfl rfl h d_Mo_ask_37
  · refine xj_use h (fun (v_37 : Unit) => ∀ (H : Heap) (locs : List Loc) (ls : Array Slot), xm_W D xcl (xT cI cZ cJ cO) (xm_A ad (CE m_thrown m_model m_asked m_asksOf m_asksLeft m_asksRight m_hadPredicates m_calls m_row m_inRow m_patterns m_rewritten m_values m_by m_choice m_rule m_atoms m_depth) s.heap.size) ad (CE m_thrown m_model m_asked m_asksOf m_asksLeft m_asksRight m_hadPredicates m_calls m_row m_inRow m_patterns m_rewritten m_values m_by m_choice m_rule m_atoms m_depth) s s.heap H locs → lv_has ls 6 [(0, .ref (ad iM)), (1, .int p0), (2, .int p1), (3, .int p2)] → W p l e rm_Mo_ask s m args below meth c H locs 0 0 QQ (F0 m 25 ls [.ref (ad iM)])) (fun v_37 h H locs ls hw hl => ?_) (fun J_38 hJ_38 h => ?_)
    · refine lv_iconst (v := 1) hx hb d_Mo_ask_25 (by decide) ?_
      exact hJ_4 1 h _ _ _ hw (lv_sub hl [0, 1, 2, 3] rfl)
    · refine lv_if_eq (tgt := 25) hx hb d_Mo_ask_6 (by decide) (fun hc => ?_) (fun hc => ?_)
      · have h := h.1 hc
        exact hJ_38 () h _ _ _ hw (lv_sub hl [0, 1, 2, 3] rfl)
      · have h := h.2 hc
        refine lv_aload_n hx hb d_Mo_ask_9 rfl (lv_at hl 0 rfl) ?_
        refine lv_iload_n hx hb d_Mo_ask_10 rfl (lv_at hl 1 rfl) ?_
        refine lv_iload_n hx hb d_Mo_ask_11 rfl (lv_at hl 2 rfl) ?_
        refine lv_iload_n hx hb d_Mo_ask_12 rfl (lv_at hl 3 rfl) ?_
        refine lv_bipush (v := 17) hx hb d_Mo_ask_13 (by decide) ?_
        refine xm_calli (ua := fun _ => ad) (va_runV (As := [.int p0, .int p1, .int p2, .int 17]) (rest := [.ref (ad iM)]) ⟨hx, hb, hml, hown, hts⟩ (c_Mo_fit (D := D) (ad := ad) (CE := ((CE m_thrown m_model m_asked m_asksOf m_asksLeft m_asksRight m_hadPredicates m_calls m_row m_inRow m_patterns m_rewritten m_values m_by m_choice m_rule m_atoms m_depth)))  (k_M m_thrown m_model m_asked m_asksOf m_asksLeft m_asksRight m_hadPredicates m_calls m_row m_inRow m_patterns m_rewritten m_values m_by m_choice m_rule m_atoms m_depth) (k_places m_thrown m_model m_asked m_asksOf m_asksLeft m_asksRight m_hadPredicates m_calls m_row m_inRow m_patterns m_rewritten m_values m_by m_choice m_rule m_atoms m_depth) h _) (xg_cwV 4 hts xw_673 xw_670 xw_672 xw_p25 xw_8 rfl rfl (by decide +kernel) ⟨Nat.le_of_ble_eq_true rfl, Nat.le_of_ble_eq_true rfl⟩) (xm_preV hw (k_M m_thrown m_model m_asked m_asksOf m_asksLeft m_asksRight m_hadPredicates m_calls m_row m_inRow m_patterns m_rewritten m_values m_by m_choice m_rule m_atoms m_depth) rfl _) rfl rfl hl.1 rfl (lv_room (Nat.le_of_ble_eq_true rfl)) d_Mo_ask_15 ⟨Nat.le_of_ble_eq_true rfl, Nat.le_of_ble_eq_true rfl⟩) hw (fun r_39 _ H locs h hw => ?_)
        refine lv_if_eq (tgt := 25) hx hb d_Mo_ask_18 (by decide) (fun hc => ?_) (fun hc => ?_)
        · have h := h.1 hc
          exact hJ_38 () h _ _ _ hw (lv_sub hl [0, 1, 2, 3] rfl)
        · have h := h.2 hc
          refine lv_iconst (v := 0) hx hb d_Mo_ask_21 (by decide) ?_
          refine lv_goto (tgt := 26) hx hb d_Mo_ask_22 (by decide) ?_
          exact hJ_4 0 h _ _ _ hw (lv_sub hl [0, 1, 2, 3] rfl)
def wp_Mo_answer (post : Int32 → Int32 → Prop)  (m_places : Nat → Int32) (m_model : Nat → Int32) (m_asked : Int32) (m_asksOf : Int32) (m_asksLeft : Int32) (m_asksRight : Int32) (m_thrown : Int32) (p0 : Int32) : Prop :=
xL (fun (K_2 : Int32 × Int32 → Prop) (v_1 : Int32 × Int32) =>
xj (fun (v_3 : Unit) =>
post (-1) 0) (fun (J_4 : Unit → Prop) =>
((1000 ≤ v_1.1 →
J_4 ()) ∧ (¬ 1000 ≤ v_1.1 →
((m_asked = 0 →
J_4 ()) ∧ (¬ m_asked = 0 →
wp_Mo_isAnswer (fun r_5 =>
xj (fun (v_7 : Int32) =>
∀ x_9 : Int32, x_9 = v_1.1 + 1 →
K_2 (x_9, v_7)) (fun (J_8 : Int32 → Prop) =>
((r_5 = 0 →
J_8 v_1.2) ∧ (¬ r_5 = 0 →
((¬ v_1.2 = p0 →
∀ x_10 : Int32, x_10 = v_1.2 + 1 →
J_8 x_10) ∧ (v_1.2 = p0 →
vp_in m_asksOf 10 ∧
xj (fun (v_11 : Int32) =>
post v_11 0) (fun (J_12 : Int32 → Prop) =>
((¬ (m_places (Int32.toNatClampNeg m_asksOf)) = 1 →
J_12 (v_1.1 - (v_1.1 / 100) * 100)) ∧ ((m_places (Int32.toNatClampNeg m_asksOf)) = 1 →
J_12 ((v_1.1 / 10) - ((v_1.1 / 10) / 10) * 10)))))))))) m_model m_asksOf m_asksLeft m_asksRight v_1.1)))))) (0, 0)
abbrev rm_Mo_answer : Room := { frames := 2, cells := 0, slots := 0, locals := 45 }
set_option maxHeartbeats 4000000 in
set_option maxRecDepth 100000 in
theorem c_Mo_answer {l : Launch} {D : va_G} {ad : Nat → Nat} (CE : Int32 → Nat → Option va_E) {cI cZ cJ cO : ClassId} {iM : Nat} {i_places : Nat} {i_ruled : Nat} {i_told : Nat} {i_model : Nat} {i_ofAtom : Nat} {i_left : Nat} {i_right : Nat} {i_size : Nat} {i_calls : Nat} {i_row : Nat} {i_patterns : Nat} {i_values : Nat} {i_by : Nat} {i_choice : Nat} {m_places : Nat → Int32} {m_model : Nat → Int32} {m_asked : Int32} {m_asksOf : Int32} {m_asksLeft : Int32} {m_asksRight : Int32} {m_predicates : Int32} {m_rules : Int32} {m_begun : Int32} {m_hadPredicates : Int32} {m_inRow : Int32} {m_rewritten : Int32} {m_rule : Int32} {m_atoms : Int32} {m_depth : Int32} (k_M : ∀ (m_thrown : Int32), (CE m_thrown) iM = some (.inr (4, [.int m_thrown, .ref (ad i_places), .ref (ad i_ruled), .int m_predicates, .ref (ad i_told), .ref (ad i_model), .ref (ad i_ofAtom), .ref (ad i_left), .ref (ad i_right), .ref (ad i_size), .int m_rules, .int m_begun, .int m_asked, .int m_asksOf, .int m_asksLeft, .int m_asksRight, .int m_hadPredicates, .ref (ad i_calls), .ref (ad i_row), .int m_inRow, .ref (ad i_patterns), .int m_rewritten, .ref (ad i_values), .ref (ad i_by), .ref (ad i_choice), .int m_rule, .int m_atoms, .int m_depth]))) (k_places : ∀ (m_thrown : Int32), (CE m_thrown) i_places = some (.inl (cI, 10, .inl m_places))) (k_model : ∀ (m_thrown : Int32), (CE m_thrown) i_model = some (.inl (cZ, 1000, .inl m_model))) (u_M : ∀ (m_thrown : Int32) (m_thrown' : Int32), va_up (CE m_thrown) iM (some (.inr (4, [.int m_thrown', .ref (ad i_places), .ref (ad i_ruled), .int m_predicates, .ref (ad i_told), .ref (ad i_model), .ref (ad i_ofAtom), .ref (ad i_left), .ref (ad i_right), .ref (ad i_size), .int m_rules, .int m_begun, .int m_asked, .int m_asksOf, .int m_asksLeft, .int m_asksRight, .int m_hadPredicates, .ref (ad i_calls), .ref (ad i_row), .int m_inRow, .ref (ad i_patterns), .int m_rewritten, .ref (ad i_values), .ref (ad i_by), .ref (ad i_choice), .int m_rule, .int m_atoms, .int m_depth]))) = (CE m_thrown')) {post : Int32 → Int32 → Prop} {m_thrown : Int32} {p0 : Int32} (h : wp_Mo_answer post m_places m_model m_asked m_asksOf m_asksLeft m_asksRight m_thrown p0) : ∀ sz, Met l y_Mo_answer (Cond.code y_Mo_answer b_Mo_answer 4 (some .int) :: xg) rm_Mo_answer (xm_Pc D xcl (xT cI cZ cJ cO) ad (CE m_thrown) sz [.ref (ad iM), .int p0]) (va_Qi (fun (r : Int32) (u : Int32) => post r u) (xm_B D xcl (xT cI cZ cJ cO) (xm_A ad (CE m_thrown) sz) (fun _ => ad) (fun u : Int32 => CE u)) (xm_A ad (CE m_thrown) sz)) 0 0 (xm_A ad (CE m_thrown) sz) := by
  refine xm_ofW (cc := b_Mo_answer) (maxL := 4) (ret := (some .int)) (by decide) rfl (Nat.le_of_ble_eq_true rfl) ?_
  intro p e s m args below meth c ls QQ hQQ hx hb hml hr hown hlk hnm hts hl hw
  have hl : lv_has ls 4 [(0, .ref (ad iM)), (1, .int p0)] := hl
  unfold wp_Mo_answer at h
  refine lv_aload_n hx hb d_Mo_answer_0 rfl (lv_at hl 0 rfl) ?_
  refine lv_iconst (v := 0) hx hb d_Mo_answer_1 (by decide) ?_
  refine xm_put (D := D) (v := .int 0) (ty := .int) (C := R_Mo) (T := F_Mo) (N := 28) hx hb hts (fun w h => List.mem_cons_of_mem _ (i_Mo w h)) t_Mo o_Mo n_Mo hown hw (k_M m_thrown) rfl 0 (by decide) (hts _ (List.mem_cons_of_mem _ xw_562)) (fun _ h9 => h9) rfl (by decide +kernel) rfl rfl (Nat.le_of_ble_eq_true rfl) d_Mo_answer_2 (fun H locs hw => ?_)
  have hw : xm_W D xcl (xT cI cZ cJ cO) (xm_A ad (CE m_thrown) s.heap.size) ad (CE 0) s s.heap H locs := xm_W.cast (u_M m_thrown 0) hw
  refine lv_iconst (v := 0) hx hb d_Mo_answer_5 (by decide) ?_
  refine lv_istore_n (lv' := [(2, .int 0), (0, .ref (ad iM)), (1, .int p0)]) hx hb d_Mo_answer_6 rfl hl (by decide) rfl (fun ls hl => ?_)
  refine lv_iconst (v := 0) hx hb d_Mo_answer_7 (by decide) ?_
  refine lv_istore_n (lv' := [(3, .int 0), (2, .int 0), (0, .ref (ad iM)), (1, .int p0)]) hx hb d_Mo_answer_8 rfl hl (by decide) rfl (fun ls hl => ?_)
  refine xL_use h (fun (v_1 : Int32 × Int32) => ∀ (H : Heap) (locs : List Loc) (ls : Array Slot), xm_W D xcl (xT cI cZ cJ cO) (xm_A ad (CE m_thrown) s.heap.size) ad (CE 0) s s.heap H locs → lv_has ls 4 [(3, .int v_1.1), (2, .int v_1.2), (0, .ref (ad iM)), (1, .int p0)] → W p l e rm_Mo_answer s m args below meth c H locs 0 0 QQ (F0 m 9 ls [])) (fun K_2 hK_2 v_1 h H locs ls hw hl => ?_) _ _ _ hw (lv_sub hl [0, 1, 2, 3] rfl)
  refine lv_iload_n hx hb d_Mo_answer_9 rfl (lv_at hl 0 rfl) ?_
  refine lv_sipush (v := 1000) hx hb d_Mo_answer_10 (by decide) ?_
  refine xj_use h (fun (v_3 : Unit) => ∀ (H : Heap) (locs : List Loc) (ls : Array Slot), xm_W D xcl (xT cI cZ cJ cO) (xm_A ad (CE m_thrown) s.heap.size) ad (CE 0) s s.heap H locs → lv_has ls 4 [] → W p l e rm_Mo_answer s m args below meth c H locs 0 0 QQ (F0 m 73 ls [])) (fun v_3 h H locs ls hw hl => ?_) (fun J_4 hJ_4 h => ?_)
  · refine lv_iconst (v := (-1)) hx hb d_Mo_answer_73 (by decide) ?_
    subst hQQ
    exact xm_iret hx hb hr hlk hw (0) rfl rfl h d_Mo_answer_74
  · refine lv_icmp_ge (tgt := 73) hx hb d_Mo_answer_13 (by decide) (fun hc => ?_) (fun hc => ?_)
    · have h := h.1 hc
      exact hJ_4 () h _ _ _ hw (lv_sub hl [] rfl)
    · have h := h.2 hc
      refine lv_aload_n hx hb d_Mo_answer_16 rfl (lv_at hl 2 rfl) ?_
      refine xm_get (D := D) (v := .int m_asked) (C := R_Mo) (T := F_Mo) (N := 28) hx hb hts (fun w h => List.mem_cons_of_mem _ (i_Mo w h)) hown hw (k_M 0) rfl 12 (by decide) (hts _ (List.mem_cons_of_mem _ xw_574)) (fun _ h9 => h9) rfl d_Mo_answer_17 ?_
      refine lv_if_eq (tgt := 73) hx hb d_Mo_answer_20 (by decide) (fun hc => ?_) (fun hc => ?_)
      · have h := h.1 hc
        exact hJ_4 () h _ _ _ hw (lv_sub hl [] rfl)
      · have h := h.2 hc
        refine lv_aload_n hx hb d_Mo_answer_23 rfl (lv_at hl 2 rfl) ?_
        refine lv_iload_n hx hb d_Mo_answer_24 rfl (lv_at hl 0 rfl) ?_
        refine xm_calli (ua := fun _ => ad) (va_runV (As := [.int v_1.1]) (rest := []) ⟨hx, hb, hml, hown, hts⟩ (c_Mo_isAnswer (D := D) (ad := ad) (CE := ((CE 0)))  (k_M 0) (k_model 0) h _) (xg_cwV 1 hts xw_768 xw_765 xw_767 xw_p42 xw_8 rfl rfl (by decide +kernel) ⟨Nat.le_of_ble_eq_true rfl, Nat.le_of_ble_eq_true rfl⟩) (xm_preV hw (k_M 0) rfl _) rfl rfl hl.1 rfl (lv_room (Nat.le_of_ble_eq_true rfl)) d_Mo_answer_25 ⟨Nat.le_of_ble_eq_true rfl, Nat.le_of_ble_eq_true rfl⟩) hw (fun r_5 _ H locs h hw => ?_)
        refine xj_use h (fun (v_7 : Int32) => ∀ (H : Heap) (locs : List Loc) (ls : Array Slot), xm_W D xcl (xT cI cZ cJ cO) (xm_A ad (CE m_thrown) s.heap.size) ad (CE 0) s s.heap H locs → lv_has ls 4 [(0, .ref (ad iM)), (1, .int p0), (2, .int v_7), (3, .int v_1.1)] → W p l e rm_Mo_answer s m args below meth c H locs 0 0 QQ (F0 m 67 ls [])) (fun v_7 h H locs ls hw hl => ?_) (fun J_8 hJ_8 h => ?_)
        · obtain ⟨x_9, ex_9⟩ : ∃ y : Int32, y = v_1.1 + 1 := ⟨_, rfl⟩
          have h := h x_9 ex_9
          refine lv_iinc (v := x_9) (lv' := [(3, .int x_9), (0, .ref (ad iM)), (1, .int p0), (2, .int v_7)]) hx hb d_Mo_answer_67 hl (k := 3) rfl (by rw [ex_9]; rfl) (by decide) rfl (fun ls hl => ?_)
          refine lv_goto (tgt := 9) hx hb d_Mo_answer_70 (by decide) ?_
          exact hK_2 (x_9, v_7) h _ _ _ hw (lv_sub hl [0, 3, 1, 2] rfl)
        · refine lv_if_eq (tgt := 67) hx hb d_Mo_answer_28 (by decide) (fun hc => ?_) (fun hc => ?_)
          · have h := h.1 hc
            exact hJ_8 v_1.2 h _ _ _ hw (lv_sub hl [2, 3, 1, 0] rfl)
          · have h := h.2 hc
            refine lv_iload_n hx hb d_Mo_answer_31 rfl (lv_at hl 1 rfl) ?_
            refine lv_iload_n hx hb d_Mo_answer_32 rfl (lv_at hl 3 rfl) ?_
            refine lv_icmp_ne (tgt := 64) hx hb d_Mo_answer_33 (by decide) (fun hc => ?_) (fun hc => ?_)
            · have h := h.1 hc
              obtain ⟨x_10, ex_10⟩ : ∃ y : Int32, y = v_1.2 + 1 := ⟨_, rfl⟩
              have h := h x_10 ex_10
              refine lv_iinc (v := x_10) (lv' := [(2, .int x_10), (3, .int v_1.1), (0, .ref (ad iM)), (1, .int p0)]) hx hb d_Mo_answer_64 hl (k := 1) rfl (by rw [ex_10]; rfl) (by decide) rfl (fun ls hl => ?_)
              exact hJ_8 x_10 h _ _ _ hw (lv_sub hl [2, 3, 0, 1] rfl)
            · have h := h.2 hc
              refine lv_aload_n hx hb d_Mo_answer_36 rfl (lv_at hl 2 rfl) ?_
              refine xm_get (D := D) (v := .ref (ad i_places)) (C := R_Mo) (T := F_Mo) (N := 28) hx hb hts (fun w h => List.mem_cons_of_mem _ (i_Mo w h)) hown hw (k_M 0) rfl 1 (by decide) (hts _ (List.mem_cons_of_mem _ xw_563)) (fun _ h9 => h9) rfl d_Mo_answer_37 ?_
              refine lv_aload_n hx hb d_Mo_answer_40 rfl (lv_at hl 2 rfl) ?_
              refine xm_get (D := D) (v := .int m_asksOf) (C := R_Mo) (T := F_Mo) (N := 28) hx hb hts (fun w h => List.mem_cons_of_mem _ (i_Mo w h)) hown hw (k_M 0) rfl 13 (by decide) (hts _ (List.mem_cons_of_mem _ xw_575)) (fun _ h9 => h9) rfl d_Mo_answer_41 ?_
              obtain ⟨hin, h⟩ := h
              refine xm_iald hx hb hw 0 (k_places 0) rfl hin d_Mo_answer_44 ?_
              refine lv_iconst (v := 1) hx hb d_Mo_answer_45 (by decide) ?_
              refine xj_use h (fun (v_11 : Int32) => ∀ (H : Heap) (locs : List Loc) (ls : Array Slot), xm_W D xcl (xT cI cZ cJ cO) (xm_A ad (CE m_thrown) s.heap.size) ad (CE 0) s s.heap H locs → lv_has ls 4 [] → W p l e rm_Mo_answer s m args below meth c H locs 0 0 QQ (F0 m 63 ls [.int v_11])) (fun v_11 h H locs ls hw hl => ?_) (fun J_12 hJ_12 h => ?_)
              · subst hQQ
                exact xm_iret hx hb hr hlk hw (0) rfl rfl h d_Mo_answer_63
              · refine lv_icmp_ne (tgt := 59) hx hb d_Mo_answer_46 (by decide) (fun hc => ?_) (fun hc => ?_)
                · have h := h.1 hc
                  refine lv_iload_n hx hb d_Mo_answer_59 rfl (lv_at hl 0 rfl) ?_
                  refine lv_bipush (v := 100) hx hb d_Mo_answer_60 (by decide) ?_
                  refine lv_irem hx hb d_Mo_answer_62 (by decide) ?_
                  exact hJ_12 (v_1.1 - (v_1.1 / 100) * 100) h _ _ _ hw (lv_sub hl [] rfl)
                · have h := h.2 hc
                  refine lv_iload_n hx hb d_Mo_answer_49 rfl (lv_at hl 0 rfl) ?_
                  refine lv_bipush (v := 10) hx hb d_Mo_answer_50 (by decide) ?_
                  refine lv_idiv hx hb d_Mo_answer_52 (by decide) ?_
                  refine lv_bipush (v := 10) hx hb d_Mo_answer_53 (by decide) ?_
                  refine lv_irem hx hb d_Mo_answer_55 (by decide) ?_
                  refine lv_goto (tgt := 63) hx hb d_Mo_answer_56 (by decide) ?_
                  exact hJ_12 ((v_1.1 / 10) - ((v_1.1 / 10) / 10) * 10) h _ _ _ hw (lv_sub hl [] rfl)
def wp_Mo_holds (post : Int32 → Int32 → Prop)  (m_places : Nat → Int32) (m_predicates : Int32) (m_model : Nat → Int32) (m_asked : Int32) (m_thrown : Int32) (p0 : Int32) (p1 : Int32) (p2 : Int32) : Prop :=
wp_Mo_isPredicate (fun r_1 =>
xj (fun (v_3 : Int32) =>
xj (fun (v_5 : Int32) =>
(narrow .boolean (.int v_5) = .int v_5 ∧ post v_5 v_3)) (fun (J_6 : Int32 → Prop) =>
xj (fun (v_7 : Unit) =>
J_6 0) (fun (J_8 : Unit → Prop) =>
((¬ v_3 = 0 →
J_8 ()) ∧ (v_3 = 0 →
((m_asked = 0 →
J_8 ()) ∧ (¬ m_asked = 0 →
wp_Mo_place (fun r_9 =>
vp_in r_9 1000 ∧
(((m_model (Int32.toNatClampNeg r_9)) = 0 →
J_8 ()) ∧ (¬ (m_model (Int32.toNatClampNeg r_9)) = 0 →
J_6 1))) p0 p1 p2))))))) (fun (J_4 : Int32 → Prop) =>
xj (fun (v_11 : Unit) =>
J_4 1) (fun (J_12 : Unit → Prop) =>
((r_1 = 0 →
J_12 ()) ∧ (¬ r_1 = 0 →
wp_Mo_fit (fun r_13 =>
((r_13 = 0 →
J_12 ()) ∧ (¬ r_13 = 0 →
J_4 0))) m_places p0 p1 p2 9))))) m_predicates p0
abbrev rm_Mo_holds : Room := { frames := 2, cells := 0, slots := 0, locals := 46 }
set_option maxHeartbeats 4000000 in
set_option maxRecDepth 100000 in
theorem c_Mo_holds {l : Launch} {D : va_G} {ad : Nat → Nat} (CE : Int32 → Nat → Option va_E) {cI cZ cJ cO : ClassId} {iM : Nat} {i_places : Nat} {i_ruled : Nat} {i_told : Nat} {i_model : Nat} {i_ofAtom : Nat} {i_left : Nat} {i_right : Nat} {i_size : Nat} {i_calls : Nat} {i_row : Nat} {i_patterns : Nat} {i_values : Nat} {i_by : Nat} {i_choice : Nat} {m_places : Nat → Int32} {m_predicates : Int32} {m_model : Nat → Int32} {m_asked : Int32} {m_rules : Int32} {m_begun : Int32} {m_asksOf : Int32} {m_asksLeft : Int32} {m_asksRight : Int32} {m_hadPredicates : Int32} {m_inRow : Int32} {m_rewritten : Int32} {m_rule : Int32} {m_atoms : Int32} {m_depth : Int32} (k_M : ∀ (m_thrown : Int32), (CE m_thrown) iM = some (.inr (4, [.int m_thrown, .ref (ad i_places), .ref (ad i_ruled), .int m_predicates, .ref (ad i_told), .ref (ad i_model), .ref (ad i_ofAtom), .ref (ad i_left), .ref (ad i_right), .ref (ad i_size), .int m_rules, .int m_begun, .int m_asked, .int m_asksOf, .int m_asksLeft, .int m_asksRight, .int m_hadPredicates, .ref (ad i_calls), .ref (ad i_row), .int m_inRow, .ref (ad i_patterns), .int m_rewritten, .ref (ad i_values), .ref (ad i_by), .ref (ad i_choice), .int m_rule, .int m_atoms, .int m_depth]))) (k_places : ∀ (m_thrown : Int32), (CE m_thrown) i_places = some (.inl (cI, 10, .inl m_places))) (k_model : ∀ (m_thrown : Int32), (CE m_thrown) i_model = some (.inl (cZ, 1000, .inl m_model))) (u_M : ∀ (m_thrown : Int32) (m_thrown' : Int32), va_up (CE m_thrown) iM (some (.inr (4, [.int m_thrown', .ref (ad i_places), .ref (ad i_ruled), .int m_predicates, .ref (ad i_told), .ref (ad i_model), .ref (ad i_ofAtom), .ref (ad i_left), .ref (ad i_right), .ref (ad i_size), .int m_rules, .int m_begun, .int m_asked, .int m_asksOf, .int m_asksLeft, .int m_asksRight, .int m_hadPredicates, .ref (ad i_calls), .ref (ad i_row), .int m_inRow, .ref (ad i_patterns), .int m_rewritten, .ref (ad i_values), .ref (ad i_by), .ref (ad i_choice), .int m_rule, .int m_atoms, .int m_depth]))) = (CE m_thrown')) {post : Int32 → Int32 → Prop} {m_thrown : Int32} {p0 : Int32} {p1 : Int32} {p2 : Int32} (h : wp_Mo_holds post m_places m_predicates m_model m_asked m_thrown p0 p1 p2) : ∀ sz, Met l y_Mo_holds (Cond.code y_Mo_holds b_Mo_holds 4 (some .boolean) :: xg) rm_Mo_holds (xm_Pc D xcl (xT cI cZ cJ cO) ad (CE m_thrown) sz [.ref (ad iM), .int p0, .int p1, .int p2]) (va_Qi (fun (r : Int32) (u : Int32) => post r u) (xm_B D xcl (xT cI cZ cJ cO) (xm_A ad (CE m_thrown) sz) (fun _ => ad) (fun u : Int32 => CE u)) (xm_A ad (CE m_thrown) sz)) 0 0 (xm_A ad (CE m_thrown) sz) := by
  refine xm_ofW (cc := b_Mo_holds) (maxL := 4) (ret := (some .boolean)) (by decide) rfl (Nat.le_of_ble_eq_true rfl) ?_
  intro p e s m args below meth c ls QQ hQQ hx hb hml hr hown hlk hnm hts hl hw
  have hl : lv_has ls 4 [(0, .ref (ad iM)), (1, .int p0), (2, .int p1), (3, .int p2)] := hl
  unfold wp_Mo_holds at h
  refine lv_aload_n hx hb d_Mo_holds_0 rfl (lv_at hl 0 rfl) ?_
  refine lv_aload_n hx hb d_Mo_holds_1 rfl (lv_at hl 0 rfl) ?_
  refine lv_iload_n hx hb d_Mo_holds_2 rfl (lv_at hl 1 rfl) ?_
  refine xm_calli (ua := fun _ => ad) (va_runV (As := [.int p0]) (rest := [.ref (ad iM)]) ⟨hx, hb, hml, hown, hts⟩ (c_Mo_isPredicate (D := D) (ad := ad) (CE := ((CE m_thrown)))  (k_M m_thrown) h _) (xg_cwV 1 hts xw_669 xw_666 xw_668 xw_p24 xw_8 rfl rfl (by decide +kernel) ⟨Nat.le_of_ble_eq_true rfl, Nat.le_of_ble_eq_true rfl⟩) (xm_preV hw (k_M m_thrown) rfl _) rfl rfl hl.1 rfl (lv_room (Nat.le_of_ble_eq_true rfl)) d_Mo_holds_3 ⟨Nat.le_of_ble_eq_true rfl, Nat.le_of_ble_eq_true rfl⟩) hw (fun r_1 _ H locs h hw => ?_)
  refine xj_use h (fun (v_3 : Int32) => ∀ (H : Heap) (locs : List Loc) (ls : Array Slot), xm_W D xcl (xT cI cZ cJ cO) (xm_A ad (CE m_thrown) s.heap.size) ad (CE m_thrown) s s.heap H locs → lv_has ls 4 [(0, .ref (ad iM)), (1, .int p0), (2, .int p1), (3, .int p2)] → W p l e rm_Mo_holds s m args below meth c H locs 0 0 QQ (F0 m 26 ls [.int v_3, .ref (ad iM)])) (fun v_3 h H locs ls hw hl => ?_) (fun J_4 hJ_4 h => ?_)
  · refine xm_put (D := D) (v := .int v_3) (ty := .int) (C := R_Mo) (T := F_Mo) (N := 28) hx hb hts (fun w h => List.mem_cons_of_mem _ (i_Mo w h)) t_Mo o_Mo n_Mo hown hw (k_M m_thrown) rfl 0 (by decide) (hts _ (List.mem_cons_of_mem _ xw_562)) (fun _ h9 => h9) rfl (by decide +kernel) rfl rfl (Nat.le_of_ble_eq_true rfl) d_Mo_holds_26 (fun H locs hw => ?_)
    have hw : xm_W D xcl (xT cI cZ cJ cO) (xm_A ad (CE m_thrown) s.heap.size) ad (CE v_3) s s.heap H locs := xm_W.cast (u_M m_thrown v_3) hw
    refine lv_aload_n hx hb d_Mo_holds_29 rfl (lv_at hl 0 rfl) ?_
    refine xm_get (D := D) (v := .int v_3) (C := R_Mo) (T := F_Mo) (N := 28) hx hb hts (fun w h => List.mem_cons_of_mem _ (i_Mo w h)) hown hw (k_M v_3) rfl 0 (by decide) (hts _ (List.mem_cons_of_mem _ xw_562)) (fun _ h9 => h9) rfl d_Mo_holds_30 ?_
    refine xj_use h (fun (v_5 : Int32) => ∀ (H : Heap) (locs : List Loc) (ls : Array Slot), xm_W D xcl (xT cI cZ cJ cO) (xm_A ad (CE m_thrown) s.heap.size) ad (CE v_3) s s.heap H locs → lv_has ls 4 [] → W p l e rm_Mo_holds s m args below meth c H locs 0 0 QQ (F0 m 62 ls [.int v_5])) (fun v_5 h H locs ls hw hl => ?_) (fun J_6 hJ_6 h => ?_)
    · subst hQQ
      exact xm_zret hx hb hr hlk h.1 hw (v_3) rfl rfl h.2 d_Mo_holds_62
    · refine xj_use h (fun (v_7 : Unit) => ∀ (H : Heap) (locs : List Loc) (ls : Array Slot), xm_W D xcl (xT cI cZ cJ cO) (xm_A ad (CE m_thrown) s.heap.size) ad (CE v_3) s s.heap H locs → lv_has ls 4 [] → W p l e rm_Mo_holds s m args below meth c H locs 0 0 QQ (F0 m 61 ls [])) (fun v_7 h H locs ls hw hl => ?_) (fun J_8 hJ_8 h => ?_)
      · refine lv_iconst (v := 0) hx hb d_Mo_holds_61 (by decide) ?_
        exact hJ_6 0 h _ _ _ hw (lv_sub hl [] rfl)
      · refine lv_if_ne (tgt := 61) hx hb d_Mo_holds_33 (by decide) (fun hc => ?_) (fun hc => ?_)
        · have h := h.1 hc
          exact hJ_8 () h _ _ _ hw (lv_sub hl [] rfl)
        · have h := h.2 hc
          refine lv_aload_n hx hb d_Mo_holds_36 rfl (lv_at hl 0 rfl) ?_
          refine xm_get (D := D) (v := .int m_asked) (C := R_Mo) (T := F_Mo) (N := 28) hx hb hts (fun w h => List.mem_cons_of_mem _ (i_Mo w h)) hown hw (k_M v_3) rfl 12 (by decide) (hts _ (List.mem_cons_of_mem _ xw_574)) (fun _ h9 => h9) rfl d_Mo_holds_37 ?_
          refine lv_if_eq (tgt := 61) hx hb d_Mo_holds_40 (by decide) (fun hc => ?_) (fun hc => ?_)
          · have h := h.1 hc
            exact hJ_8 () h _ _ _ hw (lv_sub hl [] rfl)
          · have h := h.2 hc
            refine lv_aload_n hx hb d_Mo_holds_43 rfl (lv_at hl 0 rfl) ?_
            refine xm_get (D := D) (v := .ref (ad i_model)) (C := R_Mo) (T := F_Mo) (N := 28) hx hb hts (fun w h => List.mem_cons_of_mem _ (i_Mo w h)) hown hw (k_M v_3) rfl 5 (by decide) (hts _ (List.mem_cons_of_mem _ xw_567)) (fun _ h9 => h9) rfl d_Mo_holds_44 ?_
            refine lv_iload_n hx hb d_Mo_holds_47 rfl (lv_at hl 1 rfl) ?_
            refine lv_iload_n hx hb d_Mo_holds_48 rfl (lv_at hl 2 rfl) ?_
            refine lv_iload_n hx hb d_Mo_holds_49 rfl (lv_at hl 3 rfl) ?_
            refine xm_calli (ua := fun _ => ad) (va_runS (As := [.int p0, .int p1, .int p2]) (rest := [.ref (ad i_model)]) ⟨hx, hb, hml, hown, hts⟩ (c_Mo_place (D := D) (ad := ad) (CE := ((CE v_3)))   h _) (xg_cwS 3 hts xw_676 xw_674 xw_675 xw_8 rfl rfl (by decide +kernel) ⟨Nat.le_of_ble_eq_true rfl, Nat.le_of_ble_eq_true rfl⟩) (xm_pre hw _) rfl rfl hl.1 rfl (lv_room (Nat.le_of_ble_eq_true rfl)) d_Mo_holds_50 ⟨Nat.le_of_ble_eq_true rfl, Nat.le_of_ble_eq_true rfl⟩) hw (fun r_9 _ H locs h hw => ?_)
            obtain ⟨hin, h⟩ := h
            refine xm_zald hx hb hw 1 (k_model v_3) rfl hin d_Mo_holds_53 ?_
            refine lv_if_eq (tgt := 61) hx hb d_Mo_holds_54 (by decide) (fun hc => ?_) (fun hc => ?_)
            · have h := h.1 hc
              exact hJ_8 () h _ _ _ hw (lv_sub hl [] rfl)
            · have h := h.2 hc
              refine lv_iconst (v := 1) hx hb d_Mo_holds_57 (by decide) ?_
              refine lv_goto (tgt := 62) hx hb d_Mo_holds_58 (by decide) ?_
              exact hJ_6 1 h _ _ _ hw (lv_sub hl [] rfl)
  · refine xj_use h (fun (v_11 : Unit) => ∀ (H : Heap) (locs : List Loc) (ls : Array Slot), xm_W D xcl (xT cI cZ cJ cO) (xm_A ad (CE m_thrown) s.heap.size) ad (CE m_thrown) s s.heap H locs → lv_has ls 4 [(0, .ref (ad iM)), (1, .int p0), (2, .int p1), (3, .int p2)] → W p l e rm_Mo_holds s m args below meth c H locs 0 0 QQ (F0 m 25 ls [.ref (ad iM)])) (fun v_11 h H locs ls hw hl => ?_) (fun J_12 hJ_12 h => ?_)
    · refine lv_iconst (v := 1) hx hb d_Mo_holds_25 (by decide) ?_
      exact hJ_4 1 h _ _ _ hw (lv_sub hl [0, 1, 2, 3] rfl)
    · refine lv_if_eq (tgt := 25) hx hb d_Mo_holds_6 (by decide) (fun hc => ?_) (fun hc => ?_)
      · have h := h.1 hc
        exact hJ_12 () h _ _ _ hw (lv_sub hl [0, 1, 2, 3] rfl)
      · have h := h.2 hc
        refine lv_aload_n hx hb d_Mo_holds_9 rfl (lv_at hl 0 rfl) ?_
        refine lv_iload_n hx hb d_Mo_holds_10 rfl (lv_at hl 1 rfl) ?_
        refine lv_iload_n hx hb d_Mo_holds_11 rfl (lv_at hl 2 rfl) ?_
        refine lv_iload_n hx hb d_Mo_holds_12 rfl (lv_at hl 3 rfl) ?_
        refine lv_bipush (v := 9) hx hb d_Mo_holds_13 (by decide) ?_
        refine xm_calli (ua := fun _ => ad) (va_runV (As := [.int p0, .int p1, .int p2, .int 9]) (rest := [.ref (ad iM)]) ⟨hx, hb, hml, hown, hts⟩ (c_Mo_fit (D := D) (ad := ad) (CE := ((CE m_thrown)))  (k_M m_thrown) (k_places m_thrown) h _) (xg_cwV 4 hts xw_673 xw_670 xw_672 xw_p25 xw_8 rfl rfl (by decide +kernel) ⟨Nat.le_of_ble_eq_true rfl, Nat.le_of_ble_eq_true rfl⟩) (xm_preV hw (k_M m_thrown) rfl _) rfl rfl hl.1 rfl (lv_room (Nat.le_of_ble_eq_true rfl)) d_Mo_holds_15 ⟨Nat.le_of_ble_eq_true rfl, Nat.le_of_ble_eq_true rfl⟩) hw (fun r_13 _ H locs h hw => ?_)
        refine lv_if_eq (tgt := 25) hx hb d_Mo_holds_18 (by decide) (fun hc => ?_) (fun hc => ?_)
        · have h := h.1 hc
          exact hJ_12 () h _ _ _ hw (lv_sub hl [0, 1, 2, 3] rfl)
        · have h := h.2 hc
          refine lv_iconst (v := 0) hx hb d_Mo_holds_21 (by decide) ?_
          refine lv_goto (tgt := 26) hx hb d_Mo_holds_22 (by decide) ?_
          exact hJ_4 0 h _ _ _ hw (lv_sub hl [0, 1, 2, 3] rfl)
def wp_Mo_isWanted (post : Int32 → Prop)  (m_model : Nat → Int32) (m_calls : Nat → Int32) (p0 : Int32) : Prop :=
∀ x_1 : Int32, x_1 = 121 * (p0 / 100) →
xL (fun (K_3 : Int32 × Int32 → Prop) (v_2 : Int32 × Int32) =>
((((121 * (p0 / 100)) + 121) ≤ v_2.1 →
xj (fun (v_4 : Int32) =>
(narrow .boolean (.int v_4) = .int v_4 ∧ post v_4)) (fun (J_5 : Int32 → Prop) =>
xj (fun (v_6 : Unit) =>
J_5 0) (fun (J_7 : Unit → Prop) =>
((v_2.2 = 0 →
J_7 ()) ∧ (¬ v_2.2 = 0 →
vp_in p0 1000 ∧
(((m_model (Int32.toNatClampNeg p0)) = 0 →
J_7 ()) ∧ (¬ (m_model (Int32.toNatClampNeg p0)) = 0 →
J_5 1))))))) ∧ (¬ ((121 * (p0 / 100)) + 121) ≤ v_2.1 →
∀ x_8 : Int32, x_8 = (v_2.1 / 11) - ((v_2.1 / 11) / 11) * 11 →
∀ x_9 : Int32, x_9 = v_2.1 - (v_2.1 / 11) * 11 →
xj (fun (v_10 : Int32) =>
∀ x_12 : Int32, x_12 = v_2.1 + 1 →
K_3 (x_12, v_10)) (fun (J_11 : Int32 → Prop) =>
xj (fun (v_13 : Unit) =>
J_11 1) (fun (J_14 : Unit → Prop) =>
((¬ v_2.2 = 0 →
J_14 ()) ∧ (v_2.2 = 0 →
vp_in v_2.1 1210 ∧
xj (fun (v_15 : Unit) =>
J_11 0) (fun (J_16 : Unit → Prop) =>
(((m_calls (Int32.toNatClampNeg v_2.1)) = 0 →
J_16 ()) ∧ (¬ (m_calls (Int32.toNatClampNeg v_2.1)) = 0 →
xj (fun (v_17 : Unit) =>
((x_9 = 10 →
J_14 ()) ∧ (¬ x_9 = 10 →
((¬ x_9 = (p0 - (p0 / 10) * 10) →
J_16 ()) ∧ (x_9 = (p0 - (p0 / 10) * 10) →
J_14 ()))))) (fun (J_18 : Unit → Prop) =>
((x_8 = 10 →
J_18 ()) ∧ (¬ x_8 = 10 →
((¬ x_8 = ((p0 / 10) - ((p0 / 10) / 10) * 10) →
J_16 ()) ∧ (x_8 = ((p0 / 10) - ((p0 / 10) / 10) * 10) →
J_18 ()))))))))))))))) (x_1, 0)
abbrev rm_Mo_isWanted : Room := { frames := 0, cells := 0, slots := 0, locals := 0 }
set_option maxHeartbeats 4000000 in
set_option maxRecDepth 100000 in
theorem c_Mo_isWanted {l : Launch} {D : va_G} {ad : Nat → Nat} (CE : Nat → Option va_E) {cI cZ cJ cO : ClassId} {iM : Nat} {i_places : Nat} {i_ruled : Nat} {i_told : Nat} {i_model : Nat} {i_ofAtom : Nat} {i_left : Nat} {i_right : Nat} {i_size : Nat} {i_calls : Nat} {i_row : Nat} {i_patterns : Nat} {i_values : Nat} {i_by : Nat} {i_choice : Nat} {m_model : Nat → Int32} {m_calls : Nat → Int32} {m_thrown : Int32} {m_predicates : Int32} {m_rules : Int32} {m_begun : Int32} {m_asked : Int32} {m_asksOf : Int32} {m_asksLeft : Int32} {m_asksRight : Int32} {m_hadPredicates : Int32} {m_inRow : Int32} {m_rewritten : Int32} {m_rule : Int32} {m_atoms : Int32} {m_depth : Int32} (k_M : CE iM = some (.inr (4, [.int m_thrown, .ref (ad i_places), .ref (ad i_ruled), .int m_predicates, .ref (ad i_told), .ref (ad i_model), .ref (ad i_ofAtom), .ref (ad i_left), .ref (ad i_right), .ref (ad i_size), .int m_rules, .int m_begun, .int m_asked, .int m_asksOf, .int m_asksLeft, .int m_asksRight, .int m_hadPredicates, .ref (ad i_calls), .ref (ad i_row), .int m_inRow, .ref (ad i_patterns), .int m_rewritten, .ref (ad i_values), .ref (ad i_by), .ref (ad i_choice), .int m_rule, .int m_atoms, .int m_depth]))) (k_model : CE i_model = some (.inl (cZ, 1000, .inl m_model))) (k_calls : CE i_calls = some (.inl (cZ, 1210, .inl m_calls))) {post : Int32 → Prop} {p0 : Int32} (h : wp_Mo_isWanted post m_model m_calls p0) : ∀ sz, Met l y_Mo_isWanted (Cond.code y_Mo_isWanted b_Mo_isWanted 6 (some .boolean) :: xg) rm_Mo_isWanted (xm_Pc D xcl (xT cI cZ cJ cO) ad CE sz [.ref (ad iM), .int p0]) (va_Qi (fun (r : Int32) (_ : Unit) => post r) (xm_B D xcl (xT cI cZ cJ cO) (xm_A ad CE sz) (fun _ => ad) (fun _ : Unit => CE)) (xm_A ad CE sz)) 0 0 (xm_A ad CE sz) := by
  refine xm_ofW (cc := b_Mo_isWanted) (maxL := 6) (ret := (some .boolean)) (by decide) rfl (Nat.le_of_ble_eq_true rfl) ?_
  intro p e s m args below meth c ls QQ hQQ hx hb hml hr hown hlk hnm hts hl hw
  have hl : lv_has ls 6 [(0, .ref (ad iM)), (1, .int p0)] := hl
  unfold wp_Mo_isWanted at h
  refine lv_iconst (v := 0) hx hb d_Mo_isWanted_0 (by decide) ?_
  refine lv_istore_n (lv' := [(2, .int 0), (0, .ref (ad iM)), (1, .int p0)]) hx hb d_Mo_isWanted_1 rfl hl (by decide) rfl (fun ls hl => ?_)
  refine lv_bipush (v := 121) hx hb d_Mo_isWanted_2 (by decide) ?_
  refine lv_iload_n hx hb d_Mo_isWanted_4 rfl (lv_at hl 2 rfl) ?_
  refine lv_bipush (v := 100) hx hb d_Mo_isWanted_5 (by decide) ?_
  refine lv_idiv hx hb d_Mo_isWanted_7 (by decide) ?_
  refine lv_imul hx hb d_Mo_isWanted_8 ?_
  refine lv_topi (fun x_1 ex_1 => ?_)
  have h := h x_1 ex_1
  refine lv_istore_n (lv' := [(3, .int x_1), (2, .int 0), (0, .ref (ad iM)), (1, .int p0)]) hx hb d_Mo_isWanted_9 rfl hl (by decide) rfl (fun ls hl => ?_)
  refine xL_use h (fun (v_2 : Int32 × Int32) => ∀ (H : Heap) (locs : List Loc) (ls : Array Slot), xm_W D xcl (xT cI cZ cJ cO) (xm_A ad CE s.heap.size) ad CE s s.heap H locs → lv_has ls 6 [(3, .int v_2.1), (2, .int v_2.2), (0, .ref (ad iM)), (1, .int p0)] → W p l e rm_Mo_isWanted s m args below meth c H locs 0 0 QQ (F0 m 10 ls [])) (fun K_3 hK_3 v_2 h H locs ls hw hl => ?_) _ _ _ hw (lv_sub hl [0, 1, 2, 3] rfl)
  refine lv_iload_n hx hb d_Mo_isWanted_10 rfl (lv_at hl 0 rfl) ?_
  refine lv_bipush (v := 121) hx hb d_Mo_isWanted_11 (by decide) ?_
  refine lv_iload_n hx hb d_Mo_isWanted_13 rfl (lv_at hl 3 rfl) ?_
  refine lv_bipush (v := 100) hx hb d_Mo_isWanted_14 (by decide) ?_
  refine lv_idiv hx hb d_Mo_isWanted_16 (by decide) ?_
  refine lv_imul hx hb d_Mo_isWanted_17 ?_
  refine lv_bipush (v := 121) hx hb d_Mo_isWanted_18 (by decide) ?_
  refine lv_iadd hx hb d_Mo_isWanted_20 ?_
  refine lv_icmp_ge (tgt := 99) hx hb d_Mo_isWanted_21 (by decide) (fun hc => ?_) (fun hc => ?_)
  · have h := h.1 hc
    refine lv_iload_n hx hb d_Mo_isWanted_99 rfl (lv_at hl 1 rfl) ?_
    refine xj_use h (fun (v_4 : Int32) => ∀ (H : Heap) (locs : List Loc) (ls : Array Slot), xm_W D xcl (xT cI cZ cJ cO) (xm_A ad CE s.heap.size) ad CE s s.heap H locs → lv_has ls 6 [] → W p l e rm_Mo_isWanted s m args below meth c H locs 0 0 QQ (F0 m 117 ls [.int v_4])) (fun v_4 h H locs ls hw hl => ?_) (fun J_5 hJ_5 h => ?_)
    · subst hQQ
      exact xm_zret hx hb hr hlk h.1 hw () rfl rfl h.2 d_Mo_isWanted_117
    · refine xj_use h (fun (v_6 : Unit) => ∀ (H : Heap) (locs : List Loc) (ls : Array Slot), xm_W D xcl (xT cI cZ cJ cO) (xm_A ad CE s.heap.size) ad CE s s.heap H locs → lv_has ls 6 [] → W p l e rm_Mo_isWanted s m args below meth c H locs 0 0 QQ (F0 m 116 ls [])) (fun v_6 h H locs ls hw hl => ?_) (fun J_7 hJ_7 h => ?_)
      · refine lv_iconst (v := 0) hx hb d_Mo_isWanted_116 (by decide) ?_
        exact hJ_5 0 h _ _ _ hw (lv_sub hl [] rfl)
      · refine lv_if_eq (tgt := 116) hx hb d_Mo_isWanted_100 (by decide) (fun hc => ?_) (fun hc => ?_)
        · have h := h.1 hc
          exact hJ_7 () h _ _ _ hw (lv_sub hl [] rfl)
        · have h := h.2 hc
          refine lv_aload_n hx hb d_Mo_isWanted_103 rfl (lv_at hl 2 rfl) ?_
          refine xm_get (D := D) (v := .ref (ad i_model)) (C := R_Mo) (T := F_Mo) (N := 28) hx hb hts (fun w h => List.mem_cons_of_mem _ (i_Mo w h)) hown hw k_M rfl 5 (by decide) (hts _ (List.mem_cons_of_mem _ xw_567)) (fun _ h9 => h9) rfl d_Mo_isWanted_104 ?_
          refine lv_iload_n hx hb d_Mo_isWanted_107 rfl (lv_at hl 3 rfl) ?_
          obtain ⟨hin, h⟩ := h
          refine xm_zald hx hb hw 1 k_model rfl hin d_Mo_isWanted_108 ?_
          refine lv_if_eq (tgt := 116) hx hb d_Mo_isWanted_109 (by decide) (fun hc => ?_) (fun hc => ?_)
          · have h := h.1 hc
            exact hJ_7 () h _ _ _ hw (lv_sub hl [] rfl)
          · have h := h.2 hc
            refine lv_iconst (v := 1) hx hb d_Mo_isWanted_112 (by decide) ?_
            refine lv_goto (tgt := 117) hx hb d_Mo_isWanted_113 (by decide) ?_
            exact hJ_5 1 h _ _ _ hw (lv_sub hl [] rfl)
  · have h := h.2 hc
    refine lv_iload_n hx hb d_Mo_isWanted_24 rfl (lv_at hl 0 rfl) ?_
    refine lv_bipush (v := 11) hx hb d_Mo_isWanted_25 (by decide) ?_
    refine lv_idiv hx hb d_Mo_isWanted_27 (by decide) ?_
    refine lv_bipush (v := 11) hx hb d_Mo_isWanted_28 (by decide) ?_
    refine lv_irem hx hb d_Mo_isWanted_30 (by decide) ?_
    refine lv_topi (fun x_8 ex_8 => ?_)
    have h := h x_8 ex_8
    refine lv_istore (lv' := [(4, .int x_8), (3, .int v_2.1), (2, .int v_2.2), (0, .ref (ad iM)), (1, .int p0)]) hx hb d_Mo_isWanted_31 hl (by decide) rfl (fun ls hl => ?_)
    refine lv_iload_n hx hb d_Mo_isWanted_33 rfl (lv_at hl 1 rfl) ?_
    refine lv_bipush (v := 11) hx hb d_Mo_isWanted_34 (by decide) ?_
    refine lv_irem hx hb d_Mo_isWanted_36 (by decide) ?_
    refine lv_topi (fun x_9 ex_9 => ?_)
    have h := h x_9 ex_9
    refine lv_istore (lv' := [(5, .int x_9), (4, .int x_8), (3, .int v_2.1), (2, .int v_2.2), (0, .ref (ad iM)), (1, .int p0)]) hx hb d_Mo_isWanted_37 hl (by decide) rfl (fun ls hl => ?_)
    refine lv_iload_n hx hb d_Mo_isWanted_39 rfl (lv_at hl 3 rfl) ?_
    refine xj_use h (fun (v_10 : Int32) => ∀ (H : Heap) (locs : List Loc) (ls : Array Slot), xm_W D xcl (xT cI cZ cJ cO) (xm_A ad CE s.heap.size) ad CE s s.heap H locs → lv_has ls 6 [(0, .ref (ad iM)), (1, .int p0), (3, .int v_2.1)] → W p l e rm_Mo_isWanted s m args below meth c H locs 0 0 QQ (F0 m 92 ls [.int v_10])) (fun v_10 h H locs ls hw hl => ?_) (fun J_11 hJ_11 h => ?_)
    · refine lv_istore_n (lv' := [(2, .int v_10), (0, .ref (ad iM)), (1, .int p0), (3, .int v_2.1)]) hx hb d_Mo_isWanted_92 rfl hl (by decide) rfl (fun ls hl => ?_)
      obtain ⟨x_12, ex_12⟩ : ∃ y : Int32, y = v_2.1 + 1 := ⟨_, rfl⟩
      have h := h x_12 ex_12
      refine lv_iinc (v := x_12) (lv' := [(3, .int x_12), (2, .int v_10), (0, .ref (ad iM)), (1, .int p0)]) hx hb d_Mo_isWanted_93 hl (k := 3) rfl (by rw [ex_12]; rfl) (by decide) rfl (fun ls hl => ?_)
      refine lv_goto (tgt := 10) hx hb d_Mo_isWanted_96 (by decide) ?_
      exact hK_3 (x_12, v_10) h _ _ _ hw (lv_sub hl [0, 1, 2, 3] rfl)
    · refine xj_use h (fun (v_13 : Unit) => ∀ (H : Heap) (locs : List Loc) (ls : Array Slot), xm_W D xcl (xT cI cZ cJ cO) (xm_A ad CE s.heap.size) ad CE s s.heap H locs → lv_has ls 6 [(0, .ref (ad iM)), (1, .int p0), (3, .int v_2.1)] → W p l e rm_Mo_isWanted s m args below meth c H locs 0 0 QQ (F0 m 87 ls [])) (fun v_13 h H locs ls hw hl => ?_) (fun J_14 hJ_14 h => ?_)
      · refine lv_iconst (v := 1) hx hb d_Mo_isWanted_87 (by decide) ?_
        refine lv_goto (tgt := 92) hx hb d_Mo_isWanted_88 (by decide) ?_
        exact hJ_11 1 h _ _ _ hw (lv_sub hl [0, 1, 2] rfl)
      · refine lv_if_ne (tgt := 87) hx hb d_Mo_isWanted_40 (by decide) (fun hc => ?_) (fun hc => ?_)
        · have h := h.1 hc
          exact hJ_14 () h _ _ _ hw (lv_sub hl [4, 5, 2] rfl)
        · have h := h.2 hc
          refine lv_aload_n hx hb d_Mo_isWanted_43 rfl (lv_at hl 4 rfl) ?_
          refine xm_get (D := D) (v := .ref (ad i_calls)) (C := R_Mo) (T := F_Mo) (N := 28) hx hb hts (fun w h => List.mem_cons_of_mem _ (i_Mo w h)) hown hw k_M rfl 17 (by decide) (hts _ (List.mem_cons_of_mem _ xw_579)) (fun _ h9 => h9) rfl d_Mo_isWanted_44 ?_
          refine lv_iload_n hx hb d_Mo_isWanted_47 rfl (lv_at hl 2 rfl) ?_
          obtain ⟨hin, h⟩ := h
          refine xm_zald hx hb hw 1 k_calls rfl hin d_Mo_isWanted_48 ?_
          refine xj_use h (fun (v_15 : Unit) => ∀ (H : Heap) (locs : List Loc) (ls : Array Slot), xm_W D xcl (xT cI cZ cJ cO) (xm_A ad CE s.heap.size) ad CE s s.heap H locs → lv_has ls 6 [(0, .ref (ad iM)), (1, .int p0), (3, .int v_2.1)] → W p l e rm_Mo_isWanted s m args below meth c H locs 0 0 QQ (F0 m 91 ls [])) (fun v_15 h H locs ls hw hl => ?_) (fun J_16 hJ_16 h => ?_)
          · refine lv_iconst (v := 0) hx hb d_Mo_isWanted_91 (by decide) ?_
            exact hJ_11 0 h _ _ _ hw (lv_sub hl [0, 1, 2] rfl)
          · refine lv_if_eq (tgt := 91) hx hb d_Mo_isWanted_49 (by decide) (fun hc => ?_) (fun hc => ?_)
            · have h := h.1 hc
              exact hJ_16 () h _ _ _ hw (lv_sub hl [4, 5, 2] rfl)
            · have h := h.2 hc
              refine lv_iload hx hb d_Mo_isWanted_52 (lv_at hl 1 rfl) ?_
              refine lv_bipush (v := 10) hx hb d_Mo_isWanted_54 (by decide) ?_
              refine xj_use h (fun (v_17 : Unit) => ∀ (H : Heap) (locs : List Loc) (ls : Array Slot), xm_W D xcl (xT cI cZ cJ cO) (xm_A ad CE s.heap.size) ad CE s s.heap H locs → lv_has ls 6 [(0, .ref (ad iM)), (1, .int p0), (3, .int v_2.1), (5, .int x_9)] → W p l e rm_Mo_isWanted s m args below meth c H locs 0 0 QQ (F0 m 71 ls [])) (fun v_17 h H locs ls hw hl => ?_) (fun J_18 hJ_18 h => ?_)
              · refine lv_iload hx hb d_Mo_isWanted_71 (lv_at hl 3 rfl) ?_
                refine lv_bipush (v := 10) hx hb d_Mo_isWanted_73 (by decide) ?_
                refine lv_icmp_eq (tgt := 87) hx hb d_Mo_isWanted_75 (by decide) (fun hc => ?_) (fun hc => ?_)
                · have h := h.1 hc
                  exact hJ_14 () h _ _ _ hw (lv_sub hl [0, 1, 2] rfl)
                · have h := h.2 hc
                  refine lv_iload hx hb d_Mo_isWanted_78 (lv_at hl 3 rfl) ?_
                  refine lv_iload_n hx hb d_Mo_isWanted_80 rfl (lv_at hl 1 rfl) ?_
                  refine lv_bipush (v := 10) hx hb d_Mo_isWanted_81 (by decide) ?_
                  refine lv_irem hx hb d_Mo_isWanted_83 (by decide) ?_
                  refine lv_icmp_ne (tgt := 91) hx hb d_Mo_isWanted_84 (by decide) (fun hc => ?_) (fun hc => ?_)
                  · have h := h.1 hc
                    exact hJ_16 () h _ _ _ hw (lv_sub hl [0, 1, 2] rfl)
                  · have h := h.2 hc
                    exact hJ_14 () h _ _ _ hw (lv_sub hl [0, 1, 2] rfl)
              · refine lv_icmp_eq (tgt := 71) hx hb d_Mo_isWanted_56 (by decide) (fun hc => ?_) (fun hc => ?_)
                · have h := h.1 hc
                  exact hJ_18 () h _ _ _ hw (lv_sub hl [4, 5, 2, 0] rfl)
                · have h := h.2 hc
                  refine lv_iload hx hb d_Mo_isWanted_59 (lv_at hl 1 rfl) ?_
                  refine lv_iload_n hx hb d_Mo_isWanted_61 rfl (lv_at hl 5 rfl) ?_
                  refine lv_bipush (v := 10) hx hb d_Mo_isWanted_62 (by decide) ?_
                  refine lv_idiv hx hb d_Mo_isWanted_64 (by decide) ?_
                  refine lv_bipush (v := 10) hx hb d_Mo_isWanted_65 (by decide) ?_
                  refine lv_irem hx hb d_Mo_isWanted_67 (by decide) ?_
                  refine lv_icmp_ne (tgt := 91) hx hb d_Mo_isWanted_68 (by decide) (fun hc => ?_) (fun hc => ?_)
                  · have h := h.1 hc
                    exact hJ_16 () h _ _ _ hw (lv_sub hl [4, 5, 2] rfl)
                  · have h := h.2 hc
                    exact hJ_18 () h _ _ _ hw (lv_sub hl [4, 5, 2, 0] rfl)
theorem xw_784 : (Jvm.Cond.code ({ cls := "QuestionDeskModel", name := "isWanted", desc := "(I)Z" } : Jvm.MethodName) prog_6_method_35_code (6 : Nat) (Option.some Jvm.ClassFile.FieldType.boolean)) ∈ xg := xg_t (i := 784) (by decide +kernel) (by decide +kernel)
theorem xw_781 : (Jvm.Cond.methodLink "QuestionDeskModel" (173 : Nat) ({ cls := "QuestionDeskModel", name := "isWanted", desc := "(I)Z" } : Jvm.MethodName)) ∈ xg := xg_t (i := 781) (by decide +kernel) (by decide +kernel)
theorem xw_783 : (Jvm.Cond.instanceMethod ({ cls := "QuestionDeskModel", name := "isWanted", desc := "(I)Z" } : Jvm.MethodName)) ∈ xg := xg_t (i := 783) (by decide +kernel) (by decide +kernel)
theorem xw_p43 : Cond.selects "QuestionDeskModel" ⟨"QuestionDeskModel", "isWanted", "(I)Z"⟩ ⟨"QuestionDeskModel", "isWanted", "(I)Z"⟩ ∈ xg := xg_p (q := (⟨"QuestionDeskModel", "isWanted", "(I)Z"⟩, 28)) (i := 43) (by decide +kernel) (by decide +kernel)
def wp_Mo_wanted (post : Int32 → Int32 → Prop)  (m_places : Nat → Int32) (m_ruled : Nat → Int32) (m_predicates : Int32) (m_model : Nat → Int32) (m_asked : Int32) (m_calls : Nat → Int32) (m_thrown : Int32) (p0 : Int32) (p1 : Int32) (p2 : Int32) : Prop :=
wp_Mo_isPredicate (fun r_1 =>
xj (fun (v_3 : Int32) =>
xj (fun (v_5 : Int32) =>
(narrow .boolean (.int v_5) = .int v_5 ∧ post v_5 v_3)) (fun (J_6 : Int32 → Prop) =>
xj (fun (v_7 : Unit) =>
J_6 0) (fun (J_8 : Unit → Prop) =>
((¬ v_3 = 0 →
J_8 ()) ∧ (v_3 = 0 →
((m_asked = 0 →
J_8 ()) ∧ (¬ m_asked = 0 →
vp_in p0 10 ∧
(((m_ruled (Int32.toNatClampNeg p0)) = 0 →
J_8 ()) ∧ (¬ (m_ruled (Int32.toNatClampNeg p0)) = 0 →
wp_Mo_place (fun r_9 =>
wp_Mo_isWanted (fun r_11 =>
((r_11 = 0 →
J_8 ()) ∧ (¬ r_11 = 0 →
J_6 1))) m_model m_calls r_9) p0 p1 p2))))))))) (fun (J_4 : Int32 → Prop) =>
xj (fun (v_13 : Unit) =>
J_4 1) (fun (J_14 : Unit → Prop) =>
((r_1 = 0 →
J_14 ()) ∧ (¬ r_1 = 0 →
wp_Mo_fit (fun r_15 =>
((r_15 = 0 →
J_14 ()) ∧ (¬ r_15 = 0 →
J_4 0))) m_places p0 p1 p2 9))))) m_predicates p0
abbrev rm_Mo_wanted : Room := { frames := 2, cells := 0, slots := 0, locals := 46 }
set_option maxHeartbeats 4000000 in
set_option maxRecDepth 100000 in
theorem c_Mo_wanted {l : Launch} {D : va_G} {ad : Nat → Nat} (CE : Int32 → Nat → Option va_E) {cI cZ cJ cO : ClassId} {iM : Nat} {i_places : Nat} {i_ruled : Nat} {i_told : Nat} {i_model : Nat} {i_ofAtom : Nat} {i_left : Nat} {i_right : Nat} {i_size : Nat} {i_calls : Nat} {i_row : Nat} {i_patterns : Nat} {i_values : Nat} {i_by : Nat} {i_choice : Nat} {m_places : Nat → Int32} {m_ruled : Nat → Int32} {m_predicates : Int32} {m_model : Nat → Int32} {m_asked : Int32} {m_calls : Nat → Int32} {m_rules : Int32} {m_begun : Int32} {m_asksOf : Int32} {m_asksLeft : Int32} {m_asksRight : Int32} {m_hadPredicates : Int32} {m_inRow : Int32} {m_rewritten : Int32} {m_rule : Int32} {m_atoms : Int32} {m_depth : Int32} (k_M : ∀ (m_thrown : Int32), (CE m_thrown) iM = some (.inr (4, [.int m_thrown, .ref (ad i_places), .ref (ad i_ruled), .int m_predicates, .ref (ad i_told), .ref (ad i_model), .ref (ad i_ofAtom), .ref (ad i_left), .ref (ad i_right), .ref (ad i_size), .int m_rules, .int m_begun, .int m_asked, .int m_asksOf, .int m_asksLeft, .int m_asksRight, .int m_hadPredicates, .ref (ad i_calls), .ref (ad i_row), .int m_inRow, .ref (ad i_patterns), .int m_rewritten, .ref (ad i_values), .ref (ad i_by), .ref (ad i_choice), .int m_rule, .int m_atoms, .int m_depth]))) (k_places : ∀ (m_thrown : Int32), (CE m_thrown) i_places = some (.inl (cI, 10, .inl m_places))) (k_ruled : ∀ (m_thrown : Int32), (CE m_thrown) i_ruled = some (.inl (cZ, 10, .inl m_ruled))) (k_model : ∀ (m_thrown : Int32), (CE m_thrown) i_model = some (.inl (cZ, 1000, .inl m_model))) (k_calls : ∀ (m_thrown : Int32), (CE m_thrown) i_calls = some (.inl (cZ, 1210, .inl m_calls))) (u_M : ∀ (m_thrown : Int32) (m_thrown' : Int32), va_up (CE m_thrown) iM (some (.inr (4, [.int m_thrown', .ref (ad i_places), .ref (ad i_ruled), .int m_predicates, .ref (ad i_told), .ref (ad i_model), .ref (ad i_ofAtom), .ref (ad i_left), .ref (ad i_right), .ref (ad i_size), .int m_rules, .int m_begun, .int m_asked, .int m_asksOf, .int m_asksLeft, .int m_asksRight, .int m_hadPredicates, .ref (ad i_calls), .ref (ad i_row), .int m_inRow, .ref (ad i_patterns), .int m_rewritten, .ref (ad i_values), .ref (ad i_by), .ref (ad i_choice), .int m_rule, .int m_atoms, .int m_depth]))) = (CE m_thrown')) {post : Int32 → Int32 → Prop} {m_thrown : Int32} {p0 : Int32} {p1 : Int32} {p2 : Int32} (h : wp_Mo_wanted post m_places m_ruled m_predicates m_model m_asked m_calls m_thrown p0 p1 p2) : ∀ sz, Met l y_Mo_wanted (Cond.code y_Mo_wanted b_Mo_wanted 4 (some .boolean) :: xg) rm_Mo_wanted (xm_Pc D xcl (xT cI cZ cJ cO) ad (CE m_thrown) sz [.ref (ad iM), .int p0, .int p1, .int p2]) (va_Qi (fun (r : Int32) (u : Int32) => post r u) (xm_B D xcl (xT cI cZ cJ cO) (xm_A ad (CE m_thrown) sz) (fun _ => ad) (fun u : Int32 => CE u)) (xm_A ad (CE m_thrown) sz)) 0 0 (xm_A ad (CE m_thrown) sz) := by
  refine xm_ofW (cc := b_Mo_wanted) (maxL := 4) (ret := (some .boolean)) (by decide) rfl (Nat.le_of_ble_eq_true rfl) ?_
  intro p e s m args below meth c ls QQ hQQ hx hb hml hr hown hlk hnm hts hl hw
  have hl : lv_has ls 4 [(0, .ref (ad iM)), (1, .int p0), (2, .int p1), (3, .int p2)] := hl
  unfold wp_Mo_wanted at h
  refine lv_aload_n hx hb d_Mo_wanted_0 rfl (lv_at hl 0 rfl) ?_
  refine lv_aload_n hx hb d_Mo_wanted_1 rfl (lv_at hl 0 rfl) ?_
  refine lv_iload_n hx hb d_Mo_wanted_2 rfl (lv_at hl 1 rfl) ?_
  refine xm_calli (ua := fun _ => ad) (va_runV (As := [.int p0]) (rest := [.ref (ad iM)]) ⟨hx, hb, hml, hown, hts⟩ (c_Mo_isPredicate (D := D) (ad := ad) (CE := ((CE m_thrown)))  (k_M m_thrown) h _) (xg_cwV 1 hts xw_669 xw_666 xw_668 xw_p24 xw_8 rfl rfl (by decide +kernel) ⟨Nat.le_of_ble_eq_true rfl, Nat.le_of_ble_eq_true rfl⟩) (xm_preV hw (k_M m_thrown) rfl _) rfl rfl hl.1 rfl (lv_room (Nat.le_of_ble_eq_true rfl)) d_Mo_wanted_3 ⟨Nat.le_of_ble_eq_true rfl, Nat.le_of_ble_eq_true rfl⟩) hw (fun r_1 _ H locs h hw => ?_)
  refine xj_use h (fun (v_3 : Int32) => ∀ (H : Heap) (locs : List Loc) (ls : Array Slot), xm_W D xcl (xT cI cZ cJ cO) (xm_A ad (CE m_thrown) s.heap.size) ad (CE m_thrown) s s.heap H locs → lv_has ls 4 [(0, .ref (ad iM)), (1, .int p0), (2, .int p1), (3, .int p2)] → W p l e rm_Mo_wanted s m args below meth c H locs 0 0 QQ (F0 m 26 ls [.int v_3, .ref (ad iM)])) (fun v_3 h H locs ls hw hl => ?_) (fun J_4 hJ_4 h => ?_)
  · refine xm_put (D := D) (v := .int v_3) (ty := .int) (C := R_Mo) (T := F_Mo) (N := 28) hx hb hts (fun w h => List.mem_cons_of_mem _ (i_Mo w h)) t_Mo o_Mo n_Mo hown hw (k_M m_thrown) rfl 0 (by decide) (hts _ (List.mem_cons_of_mem _ xw_562)) (fun _ h9 => h9) rfl (by decide +kernel) rfl rfl (Nat.le_of_ble_eq_true rfl) d_Mo_wanted_26 (fun H locs hw => ?_)
    have hw : xm_W D xcl (xT cI cZ cJ cO) (xm_A ad (CE m_thrown) s.heap.size) ad (CE v_3) s s.heap H locs := xm_W.cast (u_M m_thrown v_3) hw
    refine lv_aload_n hx hb d_Mo_wanted_29 rfl (lv_at hl 0 rfl) ?_
    refine xm_get (D := D) (v := .int v_3) (C := R_Mo) (T := F_Mo) (N := 28) hx hb hts (fun w h => List.mem_cons_of_mem _ (i_Mo w h)) hown hw (k_M v_3) rfl 0 (by decide) (hts _ (List.mem_cons_of_mem _ xw_562)) (fun _ h9 => h9) rfl d_Mo_wanted_30 ?_
    refine xj_use h (fun (v_5 : Int32) => ∀ (H : Heap) (locs : List Loc) (ls : Array Slot), xm_W D xcl (xT cI cZ cJ cO) (xm_A ad (CE m_thrown) s.heap.size) ad (CE v_3) s s.heap H locs → lv_has ls 4 [] → W p l e rm_Mo_wanted s m args below meth c H locs 0 0 QQ (F0 m 70 ls [.int v_5])) (fun v_5 h H locs ls hw hl => ?_) (fun J_6 hJ_6 h => ?_)
    · subst hQQ
      exact xm_zret hx hb hr hlk h.1 hw (v_3) rfl rfl h.2 d_Mo_wanted_70
    · refine xj_use h (fun (v_7 : Unit) => ∀ (H : Heap) (locs : List Loc) (ls : Array Slot), xm_W D xcl (xT cI cZ cJ cO) (xm_A ad (CE m_thrown) s.heap.size) ad (CE v_3) s s.heap H locs → lv_has ls 4 [] → W p l e rm_Mo_wanted s m args below meth c H locs 0 0 QQ (F0 m 69 ls [])) (fun v_7 h H locs ls hw hl => ?_) (fun J_8 hJ_8 h => ?_)
      · refine lv_iconst (v := 0) hx hb d_Mo_wanted_69 (by decide) ?_
        exact hJ_6 0 h _ _ _ hw (lv_sub hl [] rfl)
      · refine lv_if_ne (tgt := 69) hx hb d_Mo_wanted_33 (by decide) (fun hc => ?_) (fun hc => ?_)
        · have h := h.1 hc
          exact hJ_8 () h _ _ _ hw (lv_sub hl [] rfl)
        · have h := h.2 hc
          refine lv_aload_n hx hb d_Mo_wanted_36 rfl (lv_at hl 0 rfl) ?_
          refine xm_get (D := D) (v := .int m_asked) (C := R_Mo) (T := F_Mo) (N := 28) hx hb hts (fun w h => List.mem_cons_of_mem _ (i_Mo w h)) hown hw (k_M v_3) rfl 12 (by decide) (hts _ (List.mem_cons_of_mem _ xw_574)) (fun _ h9 => h9) rfl d_Mo_wanted_37 ?_
          refine lv_if_eq (tgt := 69) hx hb d_Mo_wanted_40 (by decide) (fun hc => ?_) (fun hc => ?_)
          · have h := h.1 hc
            exact hJ_8 () h _ _ _ hw (lv_sub hl [] rfl)
          · have h := h.2 hc
            refine lv_aload_n hx hb d_Mo_wanted_43 rfl (lv_at hl 0 rfl) ?_
            refine xm_get (D := D) (v := .ref (ad i_ruled)) (C := R_Mo) (T := F_Mo) (N := 28) hx hb hts (fun w h => List.mem_cons_of_mem _ (i_Mo w h)) hown hw (k_M v_3) rfl 2 (by decide) (hts _ (List.mem_cons_of_mem _ xw_564)) (fun _ h9 => h9) rfl d_Mo_wanted_44 ?_
            refine lv_iload_n hx hb d_Mo_wanted_47 rfl (lv_at hl 1 rfl) ?_
            obtain ⟨hin, h⟩ := h
            refine xm_zald hx hb hw 1 (k_ruled v_3) rfl hin d_Mo_wanted_48 ?_
            refine lv_if_eq (tgt := 69) hx hb d_Mo_wanted_49 (by decide) (fun hc => ?_) (fun hc => ?_)
            · have h := h.1 hc
              exact hJ_8 () h _ _ _ hw (lv_sub hl [] rfl)
            · have h := h.2 hc
              refine lv_aload_n hx hb d_Mo_wanted_52 rfl (lv_at hl 0 rfl) ?_
              refine lv_iload_n hx hb d_Mo_wanted_53 rfl (lv_at hl 1 rfl) ?_
              refine lv_iload_n hx hb d_Mo_wanted_54 rfl (lv_at hl 2 rfl) ?_
              refine lv_iload_n hx hb d_Mo_wanted_55 rfl (lv_at hl 3 rfl) ?_
              refine xm_calli (ua := fun _ => ad) (va_runS (As := [.int p0, .int p1, .int p2]) (rest := [.ref (ad iM)]) ⟨hx, hb, hml, hown, hts⟩ (c_Mo_place (D := D) (ad := ad) (CE := ((CE v_3)))   h _) (xg_cwS 3 hts xw_676 xw_674 xw_675 xw_8 rfl rfl (by decide +kernel) ⟨Nat.le_of_ble_eq_true rfl, Nat.le_of_ble_eq_true rfl⟩) (xm_pre hw _) rfl rfl hl.1 rfl (lv_room (Nat.le_of_ble_eq_true rfl)) d_Mo_wanted_56 ⟨Nat.le_of_ble_eq_true rfl, Nat.le_of_ble_eq_true rfl⟩) hw (fun r_9 _ H locs h hw => ?_)
              refine xm_calli (ua := fun _ => ad) (va_runV (As := [.int r_9]) (rest := []) ⟨hx, hb, hml, hown, hts⟩ (c_Mo_isWanted (D := D) (ad := ad) (CE := ((CE v_3)))  (k_M v_3) (k_model v_3) (k_calls v_3) h _) (xg_cwV 1 hts xw_784 xw_781 xw_783 xw_p43 xw_8 rfl rfl (by decide +kernel) ⟨Nat.le_of_ble_eq_true rfl, Nat.le_of_ble_eq_true rfl⟩) (xm_preV hw (k_M v_3) rfl _) rfl rfl hl.1 rfl (lv_room (Nat.le_of_ble_eq_true rfl)) d_Mo_wanted_59 ⟨Nat.le_of_ble_eq_true rfl, Nat.le_of_ble_eq_true rfl⟩) hw (fun r_11 _ H locs h hw => ?_)
              refine lv_if_eq (tgt := 69) hx hb d_Mo_wanted_62 (by decide) (fun hc => ?_) (fun hc => ?_)
              · have h := h.1 hc
                exact hJ_8 () h _ _ _ hw (lv_sub hl [] rfl)
              · have h := h.2 hc
                refine lv_iconst (v := 1) hx hb d_Mo_wanted_65 (by decide) ?_
                refine lv_goto (tgt := 70) hx hb d_Mo_wanted_66 (by decide) ?_
                exact hJ_6 1 h _ _ _ hw (lv_sub hl [] rfl)
  · refine xj_use h (fun (v_13 : Unit) => ∀ (H : Heap) (locs : List Loc) (ls : Array Slot), xm_W D xcl (xT cI cZ cJ cO) (xm_A ad (CE m_thrown) s.heap.size) ad (CE m_thrown) s s.heap H locs → lv_has ls 4 [(0, .ref (ad iM)), (1, .int p0), (2, .int p1), (3, .int p2)] → W p l e rm_Mo_wanted s m args below meth c H locs 0 0 QQ (F0 m 25 ls [.ref (ad iM)])) (fun v_13 h H locs ls hw hl => ?_) (fun J_14 hJ_14 h => ?_)
    · refine lv_iconst (v := 1) hx hb d_Mo_wanted_25 (by decide) ?_
      exact hJ_4 1 h _ _ _ hw (lv_sub hl [0, 1, 2, 3] rfl)
    · refine lv_if_eq (tgt := 25) hx hb d_Mo_wanted_6 (by decide) (fun hc => ?_) (fun hc => ?_)
      · have h := h.1 hc
        exact hJ_14 () h _ _ _ hw (lv_sub hl [0, 1, 2, 3] rfl)
      · have h := h.2 hc
        refine lv_aload_n hx hb d_Mo_wanted_9 rfl (lv_at hl 0 rfl) ?_
        refine lv_iload_n hx hb d_Mo_wanted_10 rfl (lv_at hl 1 rfl) ?_
        refine lv_iload_n hx hb d_Mo_wanted_11 rfl (lv_at hl 2 rfl) ?_
        refine lv_iload_n hx hb d_Mo_wanted_12 rfl (lv_at hl 3 rfl) ?_
        refine lv_bipush (v := 9) hx hb d_Mo_wanted_13 (by decide) ?_
        refine xm_calli (ua := fun _ => ad) (va_runV (As := [.int p0, .int p1, .int p2, .int 9]) (rest := [.ref (ad iM)]) ⟨hx, hb, hml, hown, hts⟩ (c_Mo_fit (D := D) (ad := ad) (CE := ((CE m_thrown)))  (k_M m_thrown) (k_places m_thrown) h _) (xg_cwV 4 hts xw_673 xw_670 xw_672 xw_p25 xw_8 rfl rfl (by decide +kernel) ⟨Nat.le_of_ble_eq_true rfl, Nat.le_of_ble_eq_true rfl⟩) (xm_preV hw (k_M m_thrown) rfl _) rfl rfl hl.1 rfl (lv_room (Nat.le_of_ble_eq_true rfl)) d_Mo_wanted_15 ⟨Nat.le_of_ble_eq_true rfl, Nat.le_of_ble_eq_true rfl⟩) hw (fun r_15 _ H locs h hw => ?_)
        refine lv_if_eq (tgt := 25) hx hb d_Mo_wanted_18 (by decide) (fun hc => ?_) (fun hc => ?_)
        · have h := h.1 hc
          exact hJ_14 () h _ _ _ hw (lv_sub hl [0, 1, 2, 3] rfl)
        · have h := h.2 hc
          refine lv_iconst (v := 0) hx hb d_Mo_wanted_21 (by decide) ?_
          refine lv_goto (tgt := 26) hx hb d_Mo_wanted_22 (by decide) ?_
          exact hJ_4 0 h _ _ _ hw (lv_sub hl [0, 1, 2, 3] rfl)
def wp_Mo_called_IIIZ (post : Int32 → Int32 → Prop)  (m_places : Nat → Int32) (m_predicates : Int32) (m_asked : Int32) (m_calls : Nat → Int32) (m_thrown : Int32) (p0 : Int32) (p1 : Int32) (p2 : Int32) : Prop :=
wp_Mo_isPredicate (fun r_1 =>
xj (fun (v_3 : Int32) =>
xj (fun (v_5 : Int32) =>
xj (fun (v_7 : Int32) =>
(narrow .boolean (.int v_7) = .int v_7 ∧ post v_7 v_5)) (fun (J_8 : Int32 → Prop) =>
xj (fun (v_9 : Unit) =>
J_8 0) (fun (J_10 : Unit → Prop) =>
((v_3 = 0 →
J_10 ()) ∧ (¬ v_3 = 0 →
((m_asked = 0 →
J_10 ()) ∧ (¬ m_asked = 0 →
xj (fun (v_11 : Int32) =>
xj (fun (v_13 : Int32) =>
vp_in (((121 * p0) + (11 * v_11)) + v_13) 1210 ∧
(((m_calls (Int32.toNatClampNeg (((121 * p0) + (11 * v_11)) + v_13))) = 0 →
J_10 ()) ∧ (¬ (m_calls (Int32.toNatClampNeg (((121 * p0) + (11 * v_11)) + v_13))) = 0 →
J_8 1))) (fun (J_14 : Int32 → Prop) =>
((0 ≤ p2 →
J_14 p2) ∧ (¬ 0 ≤ p2 →
J_14 10)))) (fun (J_12 : Int32 → Prop) =>
((0 ≤ p1 →
J_12 p1) ∧ (¬ 0 ≤ p1 →
J_12 10)))))))))) (fun (J_6 : Int32 → Prop) =>
((v_3 = 0 →
J_6 1) ∧ (¬ v_3 = 0 →
J_6 0)))) (fun (J_4 : Int32 → Prop) =>
xj (fun (v_15 : Unit) =>
J_4 0) (fun (J_16 : Unit → Prop) =>
((r_1 = 0 →
J_16 ()) ∧ (¬ r_1 = 0 →
wp_Mo_in (fun r_17 =>
((r_17 = 0 →
J_16 ()) ∧ (¬ r_17 = 0 →
vp_in p0 10 ∧
xj (fun (v_19 : Unit) =>
J_4 1) (fun (J_20 : Unit → Prop) =>
((¬ (m_places (Int32.toNatClampNeg p0)) = 1 →
wp_Mo_in (fun r_21 =>
((r_21 = 0 →
J_16 ()) ∧ (¬ r_21 = 0 →
J_20 ()))) p2 (-1) 9) ∧ ((m_places (Int32.toNatClampNeg p0)) = 1 →
((¬ p2 = (-1) →
J_16 ()) ∧ (p2 = (-1) →
J_20 ())))))))) p1 (-1) 9))))) m_predicates p0
abbrev rm_Mo_called_IIIZ : Room := { frames := 2, cells := 0, slots := 0, locals := 43 }
set_option maxHeartbeats 4000000 in
set_option maxRecDepth 100000 in
theorem c_Mo_called_IIIZ {l : Launch} {D : va_G} {ad : Nat → Nat} (CE : Int32 → Nat → Option va_E) {cI cZ cJ cO : ClassId} {iM : Nat} {i_places : Nat} {i_ruled : Nat} {i_told : Nat} {i_model : Nat} {i_ofAtom : Nat} {i_left : Nat} {i_right : Nat} {i_size : Nat} {i_calls : Nat} {i_row : Nat} {i_patterns : Nat} {i_values : Nat} {i_by : Nat} {i_choice : Nat} {m_places : Nat → Int32} {m_predicates : Int32} {m_asked : Int32} {m_calls : Nat → Int32} {m_rules : Int32} {m_begun : Int32} {m_asksOf : Int32} {m_asksLeft : Int32} {m_asksRight : Int32} {m_hadPredicates : Int32} {m_inRow : Int32} {m_rewritten : Int32} {m_rule : Int32} {m_atoms : Int32} {m_depth : Int32} (k_M : ∀ (m_thrown : Int32), (CE m_thrown) iM = some (.inr (4, [.int m_thrown, .ref (ad i_places), .ref (ad i_ruled), .int m_predicates, .ref (ad i_told), .ref (ad i_model), .ref (ad i_ofAtom), .ref (ad i_left), .ref (ad i_right), .ref (ad i_size), .int m_rules, .int m_begun, .int m_asked, .int m_asksOf, .int m_asksLeft, .int m_asksRight, .int m_hadPredicates, .ref (ad i_calls), .ref (ad i_row), .int m_inRow, .ref (ad i_patterns), .int m_rewritten, .ref (ad i_values), .ref (ad i_by), .ref (ad i_choice), .int m_rule, .int m_atoms, .int m_depth]))) (k_places : ∀ (m_thrown : Int32), (CE m_thrown) i_places = some (.inl (cI, 10, .inl m_places))) (k_calls : ∀ (m_thrown : Int32), (CE m_thrown) i_calls = some (.inl (cZ, 1210, .inl m_calls))) (u_M : ∀ (m_thrown : Int32) (m_thrown' : Int32), va_up (CE m_thrown) iM (some (.inr (4, [.int m_thrown', .ref (ad i_places), .ref (ad i_ruled), .int m_predicates, .ref (ad i_told), .ref (ad i_model), .ref (ad i_ofAtom), .ref (ad i_left), .ref (ad i_right), .ref (ad i_size), .int m_rules, .int m_begun, .int m_asked, .int m_asksOf, .int m_asksLeft, .int m_asksRight, .int m_hadPredicates, .ref (ad i_calls), .ref (ad i_row), .int m_inRow, .ref (ad i_patterns), .int m_rewritten, .ref (ad i_values), .ref (ad i_by), .ref (ad i_choice), .int m_rule, .int m_atoms, .int m_depth]))) = (CE m_thrown')) {post : Int32 → Int32 → Prop} {m_thrown : Int32} {p0 : Int32} {p1 : Int32} {p2 : Int32} (h : wp_Mo_called_IIIZ post m_places m_predicates m_asked m_calls m_thrown p0 p1 p2) : ∀ sz, Met l y_Mo_called_IIIZ (Cond.code y_Mo_called_IIIZ b_Mo_called_IIIZ 5 (some .boolean) :: xg) rm_Mo_called_IIIZ (xm_Pc D xcl (xT cI cZ cJ cO) ad (CE m_thrown) sz [.ref (ad iM), .int p0, .int p1, .int p2]) (va_Qi (fun (r : Int32) (u : Int32) => post r u) (xm_B D xcl (xT cI cZ cJ cO) (xm_A ad (CE m_thrown) sz) (fun _ => ad) (fun u : Int32 => CE u)) (xm_A ad (CE m_thrown) sz)) 0 0 (xm_A ad (CE m_thrown) sz) := by
  refine xm_ofW (cc := b_Mo_called_IIIZ) (maxL := 5) (ret := (some .boolean)) (by decide) rfl (Nat.le_of_ble_eq_true rfl) ?_
  intro p e s m args below meth c ls QQ hQQ hx hb hml hr hown hlk hnm hts hl hw
  have hl : lv_has ls 5 [(0, .ref (ad iM)), (1, .int p0), (2, .int p1), (3, .int p2)] := hl
  unfold wp_Mo_called_IIIZ at h
  refine lv_aload_n hx hb d_Mo_called_IIIZ_0 rfl (lv_at hl 0 rfl) ?_
  refine lv_iload_n hx hb d_Mo_called_IIIZ_1 rfl (lv_at hl 1 rfl) ?_
  refine xm_calli (ua := fun _ => ad) (va_runV (As := [.int p0]) (rest := []) ⟨hx, hb, hml, hown, hts⟩ (c_Mo_isPredicate (D := D) (ad := ad) (CE := ((CE m_thrown)))  (k_M m_thrown) h _) (xg_cwV 1 hts xw_669 xw_666 xw_668 xw_p24 xw_8 rfl rfl (by decide +kernel) ⟨Nat.le_of_ble_eq_true rfl, Nat.le_of_ble_eq_true rfl⟩) (xm_preV hw (k_M m_thrown) rfl _) rfl rfl hl.1 rfl (lv_room (Nat.le_of_ble_eq_true rfl)) d_Mo_called_IIIZ_2 ⟨Nat.le_of_ble_eq_true rfl, Nat.le_of_ble_eq_true rfl⟩) hw (fun r_1 _ H locs h hw => ?_)
  refine xj_use h (fun (v_3 : Int32) => ∀ (H : Heap) (locs : List Loc) (ls : Array Slot), xm_W D xcl (xT cI cZ cJ cO) (xm_A ad (CE m_thrown) s.heap.size) ad (CE m_thrown) s s.heap H locs → lv_has ls 5 [(0, .ref (ad iM)), (1, .int p0), (2, .int p1), (3, .int p2)] → W p l e rm_Mo_called_IIIZ s m args below meth c H locs 0 0 QQ (F0 m 51 ls [.int v_3])) (fun v_3 h H locs ls hw hl => ?_) (fun J_4 hJ_4 h => ?_)
  · refine lv_istore (lv' := [(4, .int v_3), (0, .ref (ad iM)), (1, .int p0), (2, .int p1), (3, .int p2)]) hx hb d_Mo_called_IIIZ_51 hl (by decide) rfl (fun ls hl => ?_)
    refine lv_aload_n hx hb d_Mo_called_IIIZ_53 rfl (lv_at hl 1 rfl) ?_
    refine lv_iload hx hb d_Mo_called_IIIZ_54 (lv_at hl 0 rfl) ?_
    refine xj_use h (fun (v_5 : Int32) => ∀ (H : Heap) (locs : List Loc) (ls : Array Slot), xm_W D xcl (xT cI cZ cJ cO) (xm_A ad (CE m_thrown) s.heap.size) ad (CE m_thrown) s s.heap H locs → lv_has ls 5 [(0, .ref (ad iM)), (1, .int p0), (2, .int p1), (3, .int p2), (4, .int v_3)] → W p l e rm_Mo_called_IIIZ s m args below meth c H locs 0 0 QQ (F0 m 64 ls [.int v_5, .ref (ad iM)])) (fun v_5 h H locs ls hw hl => ?_) (fun J_6 hJ_6 h => ?_)
    · refine xm_put (D := D) (v := .int v_5) (ty := .int) (C := R_Mo) (T := F_Mo) (N := 28) hx hb hts (fun w h => List.mem_cons_of_mem _ (i_Mo w h)) t_Mo o_Mo n_Mo hown hw (k_M m_thrown) rfl 0 (by decide) (hts _ (List.mem_cons_of_mem _ xw_562)) (fun _ h9 => h9) rfl (by decide +kernel) rfl rfl (Nat.le_of_ble_eq_true rfl) d_Mo_called_IIIZ_64 (fun H locs hw => ?_)
      have hw : xm_W D xcl (xT cI cZ cJ cO) (xm_A ad (CE m_thrown) s.heap.size) ad (CE v_5) s s.heap H locs := xm_W.cast (u_M m_thrown v_5) hw
      refine lv_iload hx hb d_Mo_called_IIIZ_67 (lv_at hl 4 rfl) ?_
      refine xj_use h (fun (v_7 : Int32) => ∀ (H : Heap) (locs : List Loc) (ls : Array Slot), xm_W D xcl (xT cI cZ cJ cO) (xm_A ad (CE m_thrown) s.heap.size) ad (CE v_5) s s.heap H locs → lv_has ls 5 [] → W p l e rm_Mo_called_IIIZ s m args below meth c H locs 0 0 QQ (F0 m 121 ls [.int v_7])) (fun v_7 h H locs ls hw hl => ?_) (fun J_8 hJ_8 h => ?_)
      · subst hQQ
        exact xm_zret hx hb hr hlk h.1 hw (v_5) rfl rfl h.2 d_Mo_called_IIIZ_121
      · refine xj_use h (fun (v_9 : Unit) => ∀ (H : Heap) (locs : List Loc) (ls : Array Slot), xm_W D xcl (xT cI cZ cJ cO) (xm_A ad (CE m_thrown) s.heap.size) ad (CE v_5) s s.heap H locs → lv_has ls 5 [] → W p l e rm_Mo_called_IIIZ s m args below meth c H locs 0 0 QQ (F0 m 120 ls [])) (fun v_9 h H locs ls hw hl => ?_) (fun J_10 hJ_10 h => ?_)
        · refine lv_iconst (v := 0) hx hb d_Mo_called_IIIZ_120 (by decide) ?_
          exact hJ_8 0 h _ _ _ hw (lv_sub hl [] rfl)
        · refine lv_if_eq (tgt := 120) hx hb d_Mo_called_IIIZ_69 (by decide) (fun hc => ?_) (fun hc => ?_)
          · have h := h.1 hc
            exact hJ_10 () h _ _ _ hw (lv_sub hl [] rfl)
          · have h := h.2 hc
            refine lv_aload_n hx hb d_Mo_called_IIIZ_72 rfl (lv_at hl 0 rfl) ?_
            refine xm_get (D := D) (v := .int m_asked) (C := R_Mo) (T := F_Mo) (N := 28) hx hb hts (fun w h => List.mem_cons_of_mem _ (i_Mo w h)) hown hw (k_M v_5) rfl 12 (by decide) (hts _ (List.mem_cons_of_mem _ xw_574)) (fun _ h9 => h9) rfl d_Mo_called_IIIZ_73 ?_
            refine lv_if_eq (tgt := 120) hx hb d_Mo_called_IIIZ_76 (by decide) (fun hc => ?_) (fun hc => ?_)
            · have h := h.1 hc
              exact hJ_10 () h _ _ _ hw (lv_sub hl [] rfl)
            · have h := h.2 hc
              refine lv_aload_n hx hb d_Mo_called_IIIZ_79 rfl (lv_at hl 0 rfl) ?_
              refine xm_get (D := D) (v := .ref (ad i_calls)) (C := R_Mo) (T := F_Mo) (N := 28) hx hb hts (fun w h => List.mem_cons_of_mem _ (i_Mo w h)) hown hw (k_M v_5) rfl 17 (by decide) (hts _ (List.mem_cons_of_mem _ xw_579)) (fun _ h9 => h9) rfl d_Mo_called_IIIZ_80 ?_
              refine lv_bipush (v := 121) hx hb d_Mo_called_IIIZ_83 (by decide) ?_
              refine lv_iload_n hx hb d_Mo_called_IIIZ_85 rfl (lv_at hl 1 rfl) ?_
              refine lv_imul hx hb d_Mo_called_IIIZ_86 ?_
              refine lv_bipush (v := 11) hx hb d_Mo_called_IIIZ_87 (by decide) ?_
              refine lv_iload_n hx hb d_Mo_called_IIIZ_89 rfl (lv_at hl 2 rfl) ?_
              refine xj_use h (fun (v_11 : Int32) => ∀ (H : Heap) (locs : List Loc) (ls : Array Slot), xm_W D xcl (xT cI cZ cJ cO) (xm_A ad (CE m_thrown) s.heap.size) ad (CE v_5) s s.heap H locs → lv_has ls 5 [(3, .int p2)] → W p l e rm_Mo_called_IIIZ s m args below meth c H locs 0 0 QQ (F0 m 99 ls [.int v_11, .int 11, .int (121 * p0), .ref (ad i_calls)])) (fun v_11 h H locs ls hw hl => ?_) (fun J_12 hJ_12 h => ?_)
              · refine lv_imul hx hb d_Mo_called_IIIZ_99 ?_
                refine lv_iadd hx hb d_Mo_called_IIIZ_100 ?_
                refine lv_iload_n hx hb d_Mo_called_IIIZ_101 rfl (lv_at hl 0 rfl) ?_
                refine xj_use h (fun (v_13 : Int32) => ∀ (H : Heap) (locs : List Loc) (ls : Array Slot), xm_W D xcl (xT cI cZ cJ cO) (xm_A ad (CE m_thrown) s.heap.size) ad (CE v_5) s s.heap H locs → lv_has ls 5 [] → W p l e rm_Mo_called_IIIZ s m args below meth c H locs 0 0 QQ (F0 m 111 ls [.int v_13, .int ((121 * p0) + (11 * v_11)), .ref (ad i_calls)])) (fun v_13 h H locs ls hw hl => ?_) (fun J_14 hJ_14 h => ?_)
                · refine lv_iadd hx hb d_Mo_called_IIIZ_111 ?_
                  obtain ⟨hin, h⟩ := h
                  refine xm_zald hx hb hw 1 (k_calls v_5) rfl hin d_Mo_called_IIIZ_112 ?_
                  refine lv_if_eq (tgt := 120) hx hb d_Mo_called_IIIZ_113 (by decide) (fun hc => ?_) (fun hc => ?_)
                  · have h := h.1 hc
                    exact hJ_10 () h _ _ _ hw (lv_sub hl [] rfl)
                  · have h := h.2 hc
                    refine lv_iconst (v := 1) hx hb d_Mo_called_IIIZ_116 (by decide) ?_
                    refine lv_goto (tgt := 121) hx hb d_Mo_called_IIIZ_117 (by decide) ?_
                    exact hJ_8 1 h _ _ _ hw (lv_sub hl [] rfl)
                · refine lv_if_ge (tgt := 110) hx hb d_Mo_called_IIIZ_102 (by decide) (fun hc => ?_) (fun hc => ?_)
                  · have h := h.1 hc
                    refine lv_iload_n hx hb d_Mo_called_IIIZ_110 rfl (lv_at hl 0 rfl) ?_
                    exact hJ_14 p2 h _ _ _ hw (lv_sub hl [] rfl)
                  · have h := h.2 hc
                    refine lv_bipush (v := 10) hx hb d_Mo_called_IIIZ_105 (by decide) ?_
                    refine lv_goto (tgt := 111) hx hb d_Mo_called_IIIZ_107 (by decide) ?_
                    exact hJ_14 10 h _ _ _ hw (lv_sub hl [] rfl)
              · refine lv_if_ge (tgt := 98) hx hb d_Mo_called_IIIZ_90 (by decide) (fun hc => ?_) (fun hc => ?_)
                · have h := h.1 hc
                  refine lv_iload_n hx hb d_Mo_called_IIIZ_98 rfl (lv_at hl 2 rfl) ?_
                  exact hJ_12 p1 h _ _ _ hw (lv_sub hl [3] rfl)
                · have h := h.2 hc
                  refine lv_bipush (v := 10) hx hb d_Mo_called_IIIZ_93 (by decide) ?_
                  refine lv_goto (tgt := 99) hx hb d_Mo_called_IIIZ_95 (by decide) ?_
                  exact hJ_12 10 h _ _ _ hw (lv_sub hl [3] rfl)
    · refine lv_if_eq (tgt := 63) hx hb d_Mo_called_IIIZ_56 (by decide) (fun hc => ?_) (fun hc => ?_)
      · have h := h.1 hc
        refine lv_iconst (v := 1) hx hb d_Mo_called_IIIZ_63 (by decide) ?_
        exact hJ_6 1 h _ _ _ hw (lv_sub hl [1, 2, 3, 4, 0] rfl)
      · have h := h.2 hc
        refine lv_iconst (v := 0) hx hb d_Mo_called_IIIZ_59 (by decide) ?_
        refine lv_goto (tgt := 64) hx hb d_Mo_called_IIIZ_60 (by decide) ?_
        exact hJ_6 0 h _ _ _ hw (lv_sub hl [1, 2, 3, 4, 0] rfl)
  · refine xj_use h (fun (v_15 : Unit) => ∀ (H : Heap) (locs : List Loc) (ls : Array Slot), xm_W D xcl (xT cI cZ cJ cO) (xm_A ad (CE m_thrown) s.heap.size) ad (CE m_thrown) s s.heap H locs → lv_has ls 5 [(0, .ref (ad iM)), (1, .int p0), (2, .int p1), (3, .int p2)] → W p l e rm_Mo_called_IIIZ s m args below meth c H locs 0 0 QQ (F0 m 50 ls [])) (fun v_15 h H locs ls hw hl => ?_) (fun J_16 hJ_16 h => ?_)
    · refine lv_iconst (v := 0) hx hb d_Mo_called_IIIZ_50 (by decide) ?_
      exact hJ_4 0 h _ _ _ hw (lv_sub hl [0, 1, 2, 3] rfl)
    · refine lv_if_eq (tgt := 50) hx hb d_Mo_called_IIIZ_5 (by decide) (fun hc => ?_) (fun hc => ?_)
      · have h := h.1 hc
        exact hJ_16 () h _ _ _ hw (lv_sub hl [0, 1, 2, 3] rfl)
      · have h := h.2 hc
        refine lv_iload_n hx hb d_Mo_called_IIIZ_8 rfl (lv_at hl 2 rfl) ?_
        refine lv_iconst (v := (-1)) hx hb d_Mo_called_IIIZ_9 (by decide) ?_
        refine lv_bipush (v := 9) hx hb d_Mo_called_IIIZ_10 (by decide) ?_
        refine xm_calli (ua := fun _ => ad) (va_runS (As := [.int p1, .int (-1), .int 9]) (rest := []) ⟨hx, hb, hml, hown, hts⟩ (c_Mo_in (D := D) (ad := ad) (CE := ((CE m_thrown)))   h _) (xg_cwS 3 hts xw_657 xw_655 xw_656 xw_8 rfl rfl (by decide +kernel) ⟨Nat.le_of_ble_eq_true rfl, Nat.le_of_ble_eq_true rfl⟩) (xm_pre hw _) rfl rfl hl.1 rfl (lv_room (Nat.le_of_ble_eq_true rfl)) d_Mo_called_IIIZ_12 ⟨Nat.le_of_ble_eq_true rfl, Nat.le_of_ble_eq_true rfl⟩) hw (fun r_17 _ H locs h hw => ?_)
        refine lv_if_eq (tgt := 50) hx hb d_Mo_called_IIIZ_15 (by decide) (fun hc => ?_) (fun hc => ?_)
        · have h := h.1 hc
          exact hJ_16 () h _ _ _ hw (lv_sub hl [0, 1, 2, 3] rfl)
        · have h := h.2 hc
          refine lv_aload_n hx hb d_Mo_called_IIIZ_18 rfl (lv_at hl 0 rfl) ?_
          refine xm_get (D := D) (v := .ref (ad i_places)) (C := R_Mo) (T := F_Mo) (N := 28) hx hb hts (fun w h => List.mem_cons_of_mem _ (i_Mo w h)) hown hw (k_M m_thrown) rfl 1 (by decide) (hts _ (List.mem_cons_of_mem _ xw_563)) (fun _ h9 => h9) rfl d_Mo_called_IIIZ_19 ?_
          refine lv_iload_n hx hb d_Mo_called_IIIZ_22 rfl (lv_at hl 1 rfl) ?_
          obtain ⟨hin, h⟩ := h
          refine xm_iald hx hb hw 0 (k_places m_thrown) rfl hin d_Mo_called_IIIZ_23 ?_
          refine lv_iconst (v := 1) hx hb d_Mo_called_IIIZ_24 (by decide) ?_
          refine xj_use h (fun (v_19 : Unit) => ∀ (H : Heap) (locs : List Loc) (ls : Array Slot), xm_W D xcl (xT cI cZ cJ cO) (xm_A ad (CE m_thrown) s.heap.size) ad (CE m_thrown) s s.heap H locs → lv_has ls 5 [(0, .ref (ad iM)), (1, .int p0), (2, .int p1), (3, .int p2)] → W p l e rm_Mo_called_IIIZ s m args below meth c H locs 0 0 QQ (F0 m 46 ls [])) (fun v_19 h H locs ls hw hl => ?_) (fun J_20 hJ_20 h => ?_)
          · refine lv_iconst (v := 1) hx hb d_Mo_called_IIIZ_46 (by decide) ?_
            refine lv_goto (tgt := 51) hx hb d_Mo_called_IIIZ_47 (by decide) ?_
            exact hJ_4 1 h _ _ _ hw (lv_sub hl [0, 1, 2, 3] rfl)
          · refine lv_icmp_ne (tgt := 36) hx hb d_Mo_called_IIIZ_25 (by decide) (fun hc => ?_) (fun hc => ?_)
            · have h := h.1 hc
              refine lv_iload_n hx hb d_Mo_called_IIIZ_36 rfl (lv_at hl 3 rfl) ?_
              refine lv_iconst (v := (-1)) hx hb d_Mo_called_IIIZ_37 (by decide) ?_
              refine lv_bipush (v := 9) hx hb d_Mo_called_IIIZ_38 (by decide) ?_
              refine xm_calli (ua := fun _ => ad) (va_runS (As := [.int p2, .int (-1), .int 9]) (rest := []) ⟨hx, hb, hml, hown, hts⟩ (c_Mo_in (D := D) (ad := ad) (CE := ((CE m_thrown)))   h _) (xg_cwS 3 hts xw_657 xw_655 xw_656 xw_8 rfl rfl (by decide +kernel) ⟨Nat.le_of_ble_eq_true rfl, Nat.le_of_ble_eq_true rfl⟩) (xm_pre hw _) rfl rfl hl.1 rfl (lv_room (Nat.le_of_ble_eq_true rfl)) d_Mo_called_IIIZ_40 ⟨Nat.le_of_ble_eq_true rfl, Nat.le_of_ble_eq_true rfl⟩) hw (fun r_21 _ H locs h hw => ?_)
              refine lv_if_eq (tgt := 50) hx hb d_Mo_called_IIIZ_43 (by decide) (fun hc => ?_) (fun hc => ?_)
              · have h := h.1 hc
                exact hJ_16 () h _ _ _ hw (lv_sub hl [0, 1, 2, 3] rfl)
              · have h := h.2 hc
                exact hJ_20 () h _ _ _ hw (lv_sub hl [0, 1, 2, 3] rfl)
            · have h := h.2 hc
              refine lv_iload_n hx hb d_Mo_called_IIIZ_28 rfl (lv_at hl 3 rfl) ?_
              refine lv_iconst (v := (-1)) hx hb d_Mo_called_IIIZ_29 (by decide) ?_
              refine lv_icmp_ne (tgt := 50) hx hb d_Mo_called_IIIZ_30 (by decide) (fun hc => ?_) (fun hc => ?_)
              · have h := h.1 hc
                exact hJ_16 () h _ _ _ hw (lv_sub hl [0, 1, 2, 3] rfl)
              · have h := h.2 hc
                refine lv_goto (tgt := 46) hx hb d_Mo_called_IIIZ_33 (by decide) ?_
                exact hJ_20 () h _ _ _ hw (lv_sub hl [0, 1, 2, 3] rfl)
def wp_Mo_of (post : Int32 → Int32 → Prop)  (m_ruled : Nat → Int32) (m_model : Nat → Int32) (m_asked : Int32) (m_hadPredicates : Int32) (m_calls : Nat → Int32) (m_patterns : Nat → Int32) (m_thrown : Int32) (p0 : Int32) (p1 : Int32) : Prop :=
xj (fun (v_1 : Unit) =>
post (-1) 0) (fun (J_2 : Unit → Prop) =>
((m_asked = 0 →
J_2 ()) ∧ (¬ m_asked = 0 →
wp_Mo_in (fun r_3 =>
((r_3 = 0 →
J_2 ()) ∧ (¬ r_3 = 0 →
wp_Mo_in (fun r_5 =>
((¬ r_5 = 0 →
∀ x_7 : Int32, x_7 = 100 * p0 →
xL (fun (K_9 : Int32 × Int32 → Prop) (v_8 : Int32 × Int32) =>
xj (fun (v_10 : Unit) =>
∀ x_12 : Int32, x_12 = 121 * p0 →
xL (fun (K_14 : Int32 × Int32 → Prop) (v_13 : Int32 × Int32) =>
xj (fun (v_15 : Unit) =>
∀ x_17 : Int32, x_17 = 4 * p0 →
xL (fun (K_19 : Int32 × Int32 → Prop) (v_18 : Int32 × Int32) =>
xj (fun (v_20 : Unit) =>
post v_18.2 0) (fun (J_21 : Unit → Prop) =>
((((4 * p0) + 4) ≤ v_18.1 →
J_21 ()) ∧ (¬ ((4 * p0) + 4) ≤ v_18.1 →
((¬ p1 = 3 →
J_21 ()) ∧ (p1 = 3 →
vp_in v_18.1 40 ∧
xj (fun (v_22 : Int32) =>
∀ x_24 : Int32, x_24 = v_18.2 + v_22 →
∀ x_25 : Int32, x_25 = v_18.1 + 1 →
K_19 (x_25, x_24)) (fun (J_23 : Int32 → Prop) =>
(((m_patterns (Int32.toNatClampNeg v_18.1)) = 0 →
J_23 0) ∧ (¬ (m_patterns (Int32.toNatClampNeg v_18.1)) = 0 →
J_23 1))))))))) (x_17, v_13.2)) (fun (J_16 : Unit → Prop) =>
((((121 * p0) + 121) ≤ v_13.1 →
J_16 ()) ∧ (¬ ((121 * p0) + 121) ≤ v_13.1 →
((¬ p1 = 2 →
J_16 ()) ∧ (p1 = 2 →
vp_in v_13.1 1210 ∧
xj (fun (v_26 : Int32) =>
∀ x_28 : Int32, x_28 = v_13.2 + v_26 →
∀ x_29 : Int32, x_29 = v_13.1 + 1 →
K_14 (x_29, x_28)) (fun (J_27 : Int32 → Prop) =>
(((m_calls (Int32.toNatClampNeg v_13.1)) = 0 →
J_27 0) ∧ (¬ (m_calls (Int32.toNatClampNeg v_13.1)) = 0 →
J_27 1))))))))) (x_12, v_8.2)) (fun (J_11 : Unit → Prop) =>
((((100 * p0) + 100) ≤ v_8.1 →
J_11 ()) ∧ (¬ ((100 * p0) + 100) ≤ v_8.1 →
((2 ≤ p1 →
J_11 ()) ∧ (¬ 2 ≤ p1 →
xj (fun (v_30 : Int32) =>
∀ x_32 : Int32, x_32 = v_8.2 + v_30 →
∀ x_33 : Int32, x_33 = v_8.1 + 1 →
K_9 (x_33, x_32)) (fun (J_31 : Int32 → Prop) =>
((¬ p1 = 0 →
vp_in p0 10 ∧
xj (fun (v_34 : Unit) =>
J_31 0) (fun (J_35 : Unit → Prop) =>
(((m_ruled (Int32.toNatClampNeg p0)) = 0 →
J_35 ()) ∧ (¬ (m_ruled (Int32.toNatClampNeg p0)) = 0 →
wp_Mo_isWanted (fun r_36 =>
((r_36 = 0 →
J_35 ()) ∧ (¬ r_36 = 0 →
J_31 1))) m_model m_calls v_8.1)))) ∧ (p1 = 0 →
vp_in v_8.1 1000 ∧
(((m_model (Int32.toNatClampNeg v_8.1)) = 0 →
J_31 0) ∧ (¬ (m_model (Int32.toNatClampNeg v_8.1)) = 0 →
J_31 1))))))))))) (x_7, 0)) ∧ (r_5 = 0 →
J_2 ()))) p1 0 3))) p0 0 (m_hadPredicates - 1))))
abbrev rm_Mo_of : Room := { frames := 1, cells := 0, slots := 0, locals := 25 }
set_option maxHeartbeats 4000000 in
set_option maxRecDepth 100000 in
theorem c_Mo_of {l : Launch} {D : va_G} {ad : Nat → Nat} (CE : Int32 → Nat → Option va_E) {cI cZ cJ cO : ClassId} {iM : Nat} {i_places : Nat} {i_ruled : Nat} {i_told : Nat} {i_model : Nat} {i_ofAtom : Nat} {i_left : Nat} {i_right : Nat} {i_size : Nat} {i_calls : Nat} {i_row : Nat} {i_patterns : Nat} {i_values : Nat} {i_by : Nat} {i_choice : Nat} {m_ruled : Nat → Int32} {m_model : Nat → Int32} {m_asked : Int32} {m_hadPredicates : Int32} {m_calls : Nat → Int32} {m_patterns : Nat → Int32} {m_predicates : Int32} {m_rules : Int32} {m_begun : Int32} {m_asksOf : Int32} {m_asksLeft : Int32} {m_asksRight : Int32} {m_inRow : Int32} {m_rewritten : Int32} {m_rule : Int32} {m_atoms : Int32} {m_depth : Int32} (k_M : ∀ (m_thrown : Int32), (CE m_thrown) iM = some (.inr (4, [.int m_thrown, .ref (ad i_places), .ref (ad i_ruled), .int m_predicates, .ref (ad i_told), .ref (ad i_model), .ref (ad i_ofAtom), .ref (ad i_left), .ref (ad i_right), .ref (ad i_size), .int m_rules, .int m_begun, .int m_asked, .int m_asksOf, .int m_asksLeft, .int m_asksRight, .int m_hadPredicates, .ref (ad i_calls), .ref (ad i_row), .int m_inRow, .ref (ad i_patterns), .int m_rewritten, .ref (ad i_values), .ref (ad i_by), .ref (ad i_choice), .int m_rule, .int m_atoms, .int m_depth]))) (k_ruled : ∀ (m_thrown : Int32), (CE m_thrown) i_ruled = some (.inl (cZ, 10, .inl m_ruled))) (k_model : ∀ (m_thrown : Int32), (CE m_thrown) i_model = some (.inl (cZ, 1000, .inl m_model))) (k_calls : ∀ (m_thrown : Int32), (CE m_thrown) i_calls = some (.inl (cZ, 1210, .inl m_calls))) (k_patterns : ∀ (m_thrown : Int32), (CE m_thrown) i_patterns = some (.inl (cZ, 40, .inl m_patterns))) (u_M : ∀ (m_thrown : Int32) (m_thrown' : Int32), va_up (CE m_thrown) iM (some (.inr (4, [.int m_thrown', .ref (ad i_places), .ref (ad i_ruled), .int m_predicates, .ref (ad i_told), .ref (ad i_model), .ref (ad i_ofAtom), .ref (ad i_left), .ref (ad i_right), .ref (ad i_size), .int m_rules, .int m_begun, .int m_asked, .int m_asksOf, .int m_asksLeft, .int m_asksRight, .int m_hadPredicates, .ref (ad i_calls), .ref (ad i_row), .int m_inRow, .ref (ad i_patterns), .int m_rewritten, .ref (ad i_values), .ref (ad i_by), .ref (ad i_choice), .int m_rule, .int m_atoms, .int m_depth]))) = (CE m_thrown')) {post : Int32 → Int32 → Prop} {m_thrown : Int32} {p0 : Int32} {p1 : Int32} (h : wp_Mo_of post m_ruled m_model m_asked m_hadPredicates m_calls m_patterns m_thrown p0 p1) : ∀ sz, Met l y_Mo_of (Cond.code y_Mo_of b_Mo_of 5 (some .int) :: xg) rm_Mo_of (xm_Pc D xcl (xT cI cZ cJ cO) ad (CE m_thrown) sz [.ref (ad iM), .int p0, .int p1]) (va_Qi (fun (r : Int32) (u : Int32) => post r u) (xm_B D xcl (xT cI cZ cJ cO) (xm_A ad (CE m_thrown) sz) (fun _ => ad) (fun u : Int32 => CE u)) (xm_A ad (CE m_thrown) sz)) 0 0 (xm_A ad (CE m_thrown) sz) := by
  refine xm_ofW (cc := b_Mo_of) (maxL := 5) (ret := (some .int)) (by decide) rfl (Nat.le_of_ble_eq_true rfl) ?_
  intro p e s m args below meth c ls QQ hQQ hx hb hml hr hown hlk hnm hts hl hw
  have hl : lv_has ls 5 [(0, .ref (ad iM)), (1, .int p0), (2, .int p1)] := hl
  unfold wp_Mo_of at h
  refine lv_aload_n hx hb d_Mo_of_0 rfl (lv_at hl 0 rfl) ?_
  refine lv_iconst (v := 0) hx hb d_Mo_of_1 (by decide) ?_
  refine xm_put (D := D) (v := .int 0) (ty := .int) (C := R_Mo) (T := F_Mo) (N := 28) hx hb hts (fun w h => List.mem_cons_of_mem _ (i_Mo w h)) t_Mo o_Mo n_Mo hown hw (k_M m_thrown) rfl 0 (by decide) (hts _ (List.mem_cons_of_mem _ xw_562)) (fun _ h9 => h9) rfl (by decide +kernel) rfl rfl (Nat.le_of_ble_eq_true rfl) d_Mo_of_2 (fun H locs hw => ?_)
  have hw : xm_W D xcl (xT cI cZ cJ cO) (xm_A ad (CE m_thrown) s.heap.size) ad (CE 0) s s.heap H locs := xm_W.cast (u_M m_thrown 0) hw
  refine lv_aload_n hx hb d_Mo_of_5 rfl (lv_at hl 0 rfl) ?_
  refine xm_get (D := D) (v := .int m_asked) (C := R_Mo) (T := F_Mo) (N := 28) hx hb hts (fun w h => List.mem_cons_of_mem _ (i_Mo w h)) hown hw (k_M 0) rfl 12 (by decide) (hts _ (List.mem_cons_of_mem _ xw_574)) (fun _ h9 => h9) rfl d_Mo_of_6 ?_
  refine xj_use h (fun (v_1 : Unit) => ∀ (H : Heap) (locs : List Loc) (ls : Array Slot), xm_W D xcl (xT cI cZ cJ cO) (xm_A ad (CE m_thrown) s.heap.size) ad (CE 0) s s.heap H locs → lv_has ls 5 [] → W p l e rm_Mo_of s m args below meth c H locs 0 0 QQ (F0 m 35 ls [])) (fun v_1 h H locs ls hw hl => ?_) (fun J_2 hJ_2 h => ?_)
  · refine lv_iconst (v := (-1)) hx hb d_Mo_of_35 (by decide) ?_
    subst hQQ
    exact xm_iret hx hb hr hlk hw (0) rfl rfl h d_Mo_of_36
  · refine lv_if_eq (tgt := 35) hx hb d_Mo_of_9 (by decide) (fun hc => ?_) (fun hc => ?_)
    · have h := h.1 hc
      exact hJ_2 () h _ _ _ hw (lv_sub hl [] rfl)
    · have h := h.2 hc
      refine lv_iload_n hx hb d_Mo_of_12 rfl (lv_at hl 1 rfl) ?_
      refine lv_iconst (v := 0) hx hb d_Mo_of_13 (by decide) ?_
      refine lv_aload_n hx hb d_Mo_of_14 rfl (lv_at hl 0 rfl) ?_
      refine xm_get (D := D) (v := .int m_hadPredicates) (C := R_Mo) (T := F_Mo) (N := 28) hx hb hts (fun w h => List.mem_cons_of_mem _ (i_Mo w h)) hown hw (k_M 0) rfl 16 (by decide) (hts _ (List.mem_cons_of_mem _ xw_578)) (fun _ h9 => h9) rfl d_Mo_of_15 ?_
      refine lv_iconst (v := 1) hx hb d_Mo_of_18 (by decide) ?_
      refine lv_isub hx hb d_Mo_of_19 ?_
      refine xm_calli (ua := fun _ => ad) (va_runS (As := [.int p0, .int 0, .int (m_hadPredicates - 1)]) (rest := []) ⟨hx, hb, hml, hown, hts⟩ (c_Mo_in (D := D) (ad := ad) (CE := ((CE 0)))   h _) (xg_cwS 3 hts xw_657 xw_655 xw_656 xw_8 rfl rfl (by decide +kernel) ⟨Nat.le_of_ble_eq_true rfl, Nat.le_of_ble_eq_true rfl⟩) (xm_pre hw _) rfl rfl hl.1 rfl (lv_room (Nat.le_of_ble_eq_true rfl)) d_Mo_of_20 ⟨Nat.le_of_ble_eq_true rfl, Nat.le_of_ble_eq_true rfl⟩) hw (fun r_3 _ H locs h hw => ?_)
      refine lv_if_eq (tgt := 35) hx hb d_Mo_of_23 (by decide) (fun hc => ?_) (fun hc => ?_)
      · have h := h.1 hc
        exact hJ_2 () h _ _ _ hw (lv_sub hl [] rfl)
      · have h := h.2 hc
        refine lv_iload_n hx hb d_Mo_of_26 rfl (lv_at hl 2 rfl) ?_
        refine lv_iconst (v := 0) hx hb d_Mo_of_27 (by decide) ?_
        refine lv_iconst (v := 3) hx hb d_Mo_of_28 (by decide) ?_
        refine xm_calli (ua := fun _ => ad) (va_runS (As := [.int p1, .int 0, .int 3]) (rest := []) ⟨hx, hb, hml, hown, hts⟩ (c_Mo_in (D := D) (ad := ad) (CE := ((CE 0)))   h _) (xg_cwS 3 hts xw_657 xw_655 xw_656 xw_8 rfl rfl (by decide +kernel) ⟨Nat.le_of_ble_eq_true rfl, Nat.le_of_ble_eq_true rfl⟩) (xm_pre hw _) rfl rfl hl.1 rfl (lv_room (Nat.le_of_ble_eq_true rfl)) d_Mo_of_29 ⟨Nat.le_of_ble_eq_true rfl, Nat.le_of_ble_eq_true rfl⟩) hw (fun r_5 _ H locs h hw => ?_)
        refine lv_if_ne (tgt := 37) hx hb d_Mo_of_32 (by decide) (fun hc => ?_) (fun hc => ?_)
        · have h := h.1 hc
          refine lv_iconst (v := 0) hx hb d_Mo_of_37 (by decide) ?_
          refine lv_istore_n (lv' := [(3, .int 0), (0, .ref (ad iM)), (1, .int p0), (2, .int p1)]) hx hb d_Mo_of_38 rfl hl (by decide) rfl (fun ls hl => ?_)
          refine lv_bipush (v := 100) hx hb d_Mo_of_39 (by decide) ?_
          refine lv_iload_n hx hb d_Mo_of_41 rfl (lv_at hl 2 rfl) ?_
          refine lv_imul hx hb d_Mo_of_42 ?_
          refine lv_topi (fun x_7 ex_7 => ?_)
          have h := h x_7 ex_7
          refine lv_istore (lv' := [(4, .int x_7), (3, .int 0), (0, .ref (ad iM)), (1, .int p0), (2, .int p1)]) hx hb d_Mo_of_43 hl (by decide) rfl (fun ls hl => ?_)
          refine xL_use h (fun (v_8 : Int32 × Int32) => ∀ (H : Heap) (locs : List Loc) (ls : Array Slot), xm_W D xcl (xT cI cZ cJ cO) (xm_A ad (CE m_thrown) s.heap.size) ad (CE 0) s s.heap H locs → lv_has ls 5 [(4, .int v_8.1), (3, .int v_8.2), (0, .ref (ad iM)), (1, .int p0), (2, .int p1)] → W p l e rm_Mo_of s m args below meth c H locs 0 0 QQ (F0 m 45 ls [])) (fun K_9 hK_9 v_8 h H locs ls hw hl => ?_) _ _ _ hw (lv_sub hl [0, 1, 2, 3, 4] rfl)
          refine lv_iload hx hb d_Mo_of_45 (lv_at hl 0 rfl) ?_
          refine lv_bipush (v := 100) hx hb d_Mo_of_47 (by decide) ?_
          refine lv_iload_n hx hb d_Mo_of_49 rfl (lv_at hl 3 rfl) ?_
          refine lv_imul hx hb d_Mo_of_50 ?_
          refine lv_bipush (v := 100) hx hb d_Mo_of_51 (by decide) ?_
          refine lv_iadd hx hb d_Mo_of_53 ?_
          refine xj_use h (fun (v_10 : Unit) => ∀ (H : Heap) (locs : List Loc) (ls : Array Slot), xm_W D xcl (xT cI cZ cJ cO) (xm_A ad (CE m_thrown) s.heap.size) ad (CE 0) s s.heap H locs → lv_has ls 5 [(0, .ref (ad iM)), (1, .int p0), (2, .int p1), (3, .int v_8.2)] → W p l e rm_Mo_of s m args below meth c H locs 0 0 QQ (F0 m 116 ls [])) (fun v_10 h H locs ls hw hl => ?_) (fun J_11 hJ_11 h => ?_)
          · refine lv_bipush (v := 121) hx hb d_Mo_of_116 (by decide) ?_
            refine lv_iload_n hx hb d_Mo_of_118 rfl (lv_at hl 1 rfl) ?_
            refine lv_imul hx hb d_Mo_of_119 ?_
            refine lv_topi (fun x_12 ex_12 => ?_)
            have h := h x_12 ex_12
            refine lv_istore (lv' := [(4, .int x_12), (0, .ref (ad iM)), (1, .int p0), (2, .int p1), (3, .int v_8.2)]) hx hb d_Mo_of_120 hl (by decide) rfl (fun ls hl => ?_)
            refine xL_use h (fun (v_13 : Int32 × Int32) => ∀ (H : Heap) (locs : List Loc) (ls : Array Slot), xm_W D xcl (xT cI cZ cJ cO) (xm_A ad (CE m_thrown) s.heap.size) ad (CE 0) s s.heap H locs → lv_has ls 5 [(4, .int v_13.1), (0, .ref (ad iM)), (1, .int p0), (2, .int p1), (3, .int v_13.2)] → W p l e rm_Mo_of s m args below meth c H locs 0 0 QQ (F0 m 122 ls [])) (fun K_14 hK_14 v_13 h H locs ls hw hl => ?_) _ _ _ hw (lv_sub hl [0, 1, 2, 3, 4] rfl)
            refine lv_iload hx hb d_Mo_of_122 (lv_at hl 0 rfl) ?_
            refine lv_bipush (v := 121) hx hb d_Mo_of_124 (by decide) ?_
            refine lv_iload_n hx hb d_Mo_of_126 rfl (lv_at hl 2 rfl) ?_
            refine lv_imul hx hb d_Mo_of_127 ?_
            refine lv_bipush (v := 121) hx hb d_Mo_of_128 (by decide) ?_
            refine lv_iadd hx hb d_Mo_of_130 ?_
            refine xj_use h (fun (v_15 : Unit) => ∀ (H : Heap) (locs : List Loc) (ls : Array Slot), xm_W D xcl (xT cI cZ cJ cO) (xm_A ad (CE m_thrown) s.heap.size) ad (CE 0) s s.heap H locs → lv_has ls 5 [(0, .ref (ad iM)), (1, .int p0), (2, .int p1), (3, .int v_13.2)] → W p l e rm_Mo_of s m args below meth c H locs 0 0 QQ (F0 m 163 ls [])) (fun v_15 h H locs ls hw hl => ?_) (fun J_16 hJ_16 h => ?_)
            · refine lv_iconst (v := 4) hx hb d_Mo_of_163 (by decide) ?_
              refine lv_iload_n hx hb d_Mo_of_164 rfl (lv_at hl 1 rfl) ?_
              refine lv_imul hx hb d_Mo_of_165 ?_
              refine lv_topi (fun x_17 ex_17 => ?_)
              have h := h x_17 ex_17
              refine lv_istore (lv' := [(4, .int x_17), (0, .ref (ad iM)), (1, .int p0), (2, .int p1), (3, .int v_13.2)]) hx hb d_Mo_of_166 hl (by decide) rfl (fun ls hl => ?_)
              refine xL_use h (fun (v_18 : Int32 × Int32) => ∀ (H : Heap) (locs : List Loc) (ls : Array Slot), xm_W D xcl (xT cI cZ cJ cO) (xm_A ad (CE m_thrown) s.heap.size) ad (CE 0) s s.heap H locs → lv_has ls 5 [(4, .int v_18.1), (0, .ref (ad iM)), (1, .int p0), (2, .int p1), (3, .int v_18.2)] → W p l e rm_Mo_of s m args below meth c H locs 0 0 QQ (F0 m 168 ls [])) (fun K_19 hK_19 v_18 h H locs ls hw hl => ?_) _ _ _ hw (lv_sub hl [0, 1, 2, 3, 4] rfl)
              refine lv_iload hx hb d_Mo_of_168 (lv_at hl 0 rfl) ?_
              refine lv_iconst (v := 4) hx hb d_Mo_of_170 (by decide) ?_
              refine lv_iload_n hx hb d_Mo_of_171 rfl (lv_at hl 2 rfl) ?_
              refine lv_imul hx hb d_Mo_of_172 ?_
              refine lv_iconst (v := 4) hx hb d_Mo_of_173 (by decide) ?_
              refine lv_iadd hx hb d_Mo_of_174 ?_
              refine xj_use h (fun (v_20 : Unit) => ∀ (H : Heap) (locs : List Loc) (ls : Array Slot), xm_W D xcl (xT cI cZ cJ cO) (xm_A ad (CE m_thrown) s.heap.size) ad (CE 0) s s.heap H locs → lv_has ls 5 [(3, .int v_18.2)] → W p l e rm_Mo_of s m args below meth c H locs 0 0 QQ (F0 m 207 ls [])) (fun v_20 h H locs ls hw hl => ?_) (fun J_21 hJ_21 h => ?_)
              · refine lv_iload_n hx hb d_Mo_of_207 rfl (lv_at hl 0 rfl) ?_
                subst hQQ
                exact xm_iret hx hb hr hlk hw (0) rfl rfl h d_Mo_of_208
              · refine lv_icmp_ge (tgt := 207) hx hb d_Mo_of_175 (by decide) (fun hc => ?_) (fun hc => ?_)
                · have h := h.1 hc
                  exact hJ_21 () h _ _ _ hw (lv_sub hl [4] rfl)
                · have h := h.2 hc
                  refine lv_iload_n hx hb d_Mo_of_178 rfl (lv_at hl 3 rfl) ?_
                  refine lv_iconst (v := 3) hx hb d_Mo_of_179 (by decide) ?_
                  refine lv_icmp_ne (tgt := 207) hx hb d_Mo_of_180 (by decide) (fun hc => ?_) (fun hc => ?_)
                  · have h := h.1 hc
                    exact hJ_21 () h _ _ _ hw (lv_sub hl [4] rfl)
                  · have h := h.2 hc
                    refine lv_iload_n hx hb d_Mo_of_183 rfl (lv_at hl 4 rfl) ?_
                    refine lv_aload_n hx hb d_Mo_of_184 rfl (lv_at hl 1 rfl) ?_
                    refine xm_get (D := D) (v := .ref (ad i_patterns)) (C := R_Mo) (T := F_Mo) (N := 28) hx hb hts (fun w h => List.mem_cons_of_mem _ (i_Mo w h)) hown hw (k_M 0) rfl 20 (by decide) (hts _ (List.mem_cons_of_mem _ xw_582)) (fun _ h9 => h9) rfl d_Mo_of_185 ?_
                    refine lv_iload hx hb d_Mo_of_188 (lv_at hl 0 rfl) ?_
                    obtain ⟨hin, h⟩ := h
                    refine xm_zald hx hb hw 1 (k_patterns 0) rfl hin d_Mo_of_190 ?_
                    refine xj_use h (fun (v_22 : Int32) => ∀ (H : Heap) (locs : List Loc) (ls : Array Slot), xm_W D xcl (xT cI cZ cJ cO) (xm_A ad (CE m_thrown) s.heap.size) ad (CE 0) s s.heap H locs → lv_has ls 5 [(0, .ref (ad iM)), (1, .int p0), (2, .int p1), (4, .int v_18.1)] → W p l e rm_Mo_of s m args below meth c H locs 0 0 QQ (F0 m 199 ls [.int v_22, .int v_18.2])) (fun v_22 h H locs ls hw hl => ?_) (fun J_23 hJ_23 h => ?_)
                    · refine lv_iadd hx hb d_Mo_of_199 ?_
                      refine lv_topi (fun x_24 ex_24 => ?_)
                      have h := h x_24 ex_24
                      refine lv_istore_n (lv' := [(3, .int x_24), (0, .ref (ad iM)), (1, .int p0), (2, .int p1), (4, .int v_18.1)]) hx hb d_Mo_of_200 rfl hl (by decide) rfl (fun ls hl => ?_)
                      obtain ⟨x_25, ex_25⟩ : ∃ y : Int32, y = v_18.1 + 1 := ⟨_, rfl⟩
                      have h := h x_25 ex_25
                      refine lv_iinc (v := x_25) (lv' := [(4, .int x_25), (3, .int x_24), (0, .ref (ad iM)), (1, .int p0), (2, .int p1)]) hx hb d_Mo_of_201 hl (k := 4) rfl (by rw [ex_25]; rfl) (by decide) rfl (fun ls hl => ?_)
                      refine lv_goto (tgt := 168) hx hb d_Mo_of_204 (by decide) ?_
                      exact hK_19 (x_25, x_24) h _ _ _ hw (lv_sub hl [0, 2, 3, 4, 1] rfl)
                    · refine lv_if_eq (tgt := 198) hx hb d_Mo_of_191 (by decide) (fun hc => ?_) (fun hc => ?_)
                      · have h := h.1 hc
                        refine lv_iconst (v := 0) hx hb d_Mo_of_198 (by decide) ?_
                        exact hJ_23 0 h _ _ _ hw (lv_sub hl [1, 2, 3, 0] rfl)
                      · have h := h.2 hc
                        refine lv_iconst (v := 1) hx hb d_Mo_of_194 (by decide) ?_
                        refine lv_goto (tgt := 199) hx hb d_Mo_of_195 (by decide) ?_
                        exact hJ_23 1 h _ _ _ hw (lv_sub hl [1, 2, 3, 0] rfl)
            · refine lv_icmp_ge (tgt := 163) hx hb d_Mo_of_131 (by decide) (fun hc => ?_) (fun hc => ?_)
              · have h := h.1 hc
                exact hJ_16 () h _ _ _ hw (lv_sub hl [1, 2, 3, 4] rfl)
              · have h := h.2 hc
                refine lv_iload_n hx hb d_Mo_of_134 rfl (lv_at hl 3 rfl) ?_
                refine lv_iconst (v := 2) hx hb d_Mo_of_135 (by decide) ?_
                refine lv_icmp_ne (tgt := 163) hx hb d_Mo_of_136 (by decide) (fun hc => ?_) (fun hc => ?_)
                · have h := h.1 hc
                  exact hJ_16 () h _ _ _ hw (lv_sub hl [1, 2, 3, 4] rfl)
                · have h := h.2 hc
                  refine lv_iload_n hx hb d_Mo_of_139 rfl (lv_at hl 4 rfl) ?_
                  refine lv_aload_n hx hb d_Mo_of_140 rfl (lv_at hl 1 rfl) ?_
                  refine xm_get (D := D) (v := .ref (ad i_calls)) (C := R_Mo) (T := F_Mo) (N := 28) hx hb hts (fun w h => List.mem_cons_of_mem _ (i_Mo w h)) hown hw (k_M 0) rfl 17 (by decide) (hts _ (List.mem_cons_of_mem _ xw_579)) (fun _ h9 => h9) rfl d_Mo_of_141 ?_
                  refine lv_iload hx hb d_Mo_of_144 (lv_at hl 0 rfl) ?_
                  obtain ⟨hin, h⟩ := h
                  refine xm_zald hx hb hw 1 (k_calls 0) rfl hin d_Mo_of_146 ?_
                  refine xj_use h (fun (v_26 : Int32) => ∀ (H : Heap) (locs : List Loc) (ls : Array Slot), xm_W D xcl (xT cI cZ cJ cO) (xm_A ad (CE m_thrown) s.heap.size) ad (CE 0) s s.heap H locs → lv_has ls 5 [(0, .ref (ad iM)), (1, .int p0), (2, .int p1), (4, .int v_13.1)] → W p l e rm_Mo_of s m args below meth c H locs 0 0 QQ (F0 m 155 ls [.int v_26, .int v_13.2])) (fun v_26 h H locs ls hw hl => ?_) (fun J_27 hJ_27 h => ?_)
                  · refine lv_iadd hx hb d_Mo_of_155 ?_
                    refine lv_topi (fun x_28 ex_28 => ?_)
                    have h := h x_28 ex_28
                    refine lv_istore_n (lv' := [(3, .int x_28), (0, .ref (ad iM)), (1, .int p0), (2, .int p1), (4, .int v_13.1)]) hx hb d_Mo_of_156 rfl hl (by decide) rfl (fun ls hl => ?_)
                    obtain ⟨x_29, ex_29⟩ : ∃ y : Int32, y = v_13.1 + 1 := ⟨_, rfl⟩
                    have h := h x_29 ex_29
                    refine lv_iinc (v := x_29) (lv' := [(4, .int x_29), (3, .int x_28), (0, .ref (ad iM)), (1, .int p0), (2, .int p1)]) hx hb d_Mo_of_157 hl (k := 4) rfl (by rw [ex_29]; rfl) (by decide) rfl (fun ls hl => ?_)
                    refine lv_goto (tgt := 122) hx hb d_Mo_of_160 (by decide) ?_
                    exact hK_14 (x_29, x_28) h _ _ _ hw (lv_sub hl [0, 2, 3, 4, 1] rfl)
                  · refine lv_if_eq (tgt := 154) hx hb d_Mo_of_147 (by decide) (fun hc => ?_) (fun hc => ?_)
                    · have h := h.1 hc
                      refine lv_iconst (v := 0) hx hb d_Mo_of_154 (by decide) ?_
                      exact hJ_27 0 h _ _ _ hw (lv_sub hl [1, 2, 3, 0] rfl)
                    · have h := h.2 hc
                      refine lv_iconst (v := 1) hx hb d_Mo_of_150 (by decide) ?_
                      refine lv_goto (tgt := 155) hx hb d_Mo_of_151 (by decide) ?_
                      exact hJ_27 1 h _ _ _ hw (lv_sub hl [1, 2, 3, 0] rfl)
          · refine lv_icmp_ge (tgt := 116) hx hb d_Mo_of_54 (by decide) (fun hc => ?_) (fun hc => ?_)
            · have h := h.1 hc
              exact hJ_11 () h _ _ _ hw (lv_sub hl [2, 3, 4, 1] rfl)
            · have h := h.2 hc
              refine lv_iload_n hx hb d_Mo_of_57 rfl (lv_at hl 4 rfl) ?_
              refine lv_iconst (v := 2) hx hb d_Mo_of_58 (by decide) ?_
              refine lv_icmp_ge (tgt := 116) hx hb d_Mo_of_59 (by decide) (fun hc => ?_) (fun hc => ?_)
              · have h := h.1 hc
                exact hJ_11 () h _ _ _ hw (lv_sub hl [2, 3, 4, 1] rfl)
              · have h := h.2 hc
                refine lv_iload_n hx hb d_Mo_of_62 rfl (lv_at hl 1 rfl) ?_
                refine lv_iload_n hx hb d_Mo_of_63 rfl (lv_at hl 4 rfl) ?_
                refine xj_use h (fun (v_30 : Int32) => ∀ (H : Heap) (locs : List Loc) (ls : Array Slot), xm_W D xcl (xT cI cZ cJ cO) (xm_A ad (CE m_thrown) s.heap.size) ad (CE 0) s s.heap H locs → lv_has ls 5 [(0, .ref (ad iM)), (1, .int p0), (2, .int p1), (4, .int v_8.1)] → W p l e rm_Mo_of s m args below meth c H locs 0 0 QQ (F0 m 108 ls [.int v_30, .int v_8.2])) (fun v_30 h H locs ls hw hl => ?_) (fun J_31 hJ_31 h => ?_)
                · refine lv_iadd hx hb d_Mo_of_108 ?_
                  refine lv_topi (fun x_32 ex_32 => ?_)
                  have h := h x_32 ex_32
                  refine lv_istore_n (lv' := [(3, .int x_32), (0, .ref (ad iM)), (1, .int p0), (2, .int p1), (4, .int v_8.1)]) hx hb d_Mo_of_109 rfl hl (by decide) rfl (fun ls hl => ?_)
                  obtain ⟨x_33, ex_33⟩ : ∃ y : Int32, y = v_8.1 + 1 := ⟨_, rfl⟩
                  have h := h x_33 ex_33
                  refine lv_iinc (v := x_33) (lv' := [(4, .int x_33), (3, .int x_32), (0, .ref (ad iM)), (1, .int p0), (2, .int p1)]) hx hb d_Mo_of_110 hl (k := 4) rfl (by rw [ex_33]; rfl) (by decide) rfl (fun ls hl => ?_)
                  refine lv_goto (tgt := 45) hx hb d_Mo_of_113 (by decide) ?_
                  exact hK_9 (x_33, x_32) h _ _ _ hw (lv_sub hl [0, 1, 2, 3, 4] rfl)
                · refine lv_if_ne (tgt := 85) hx hb d_Mo_of_64 (by decide) (fun hc => ?_) (fun hc => ?_)
                  · have h := h.1 hc
                    refine lv_aload_n hx hb d_Mo_of_85 rfl (lv_at hl 2 rfl) ?_
                    refine xm_get (D := D) (v := .ref (ad i_ruled)) (C := R_Mo) (T := F_Mo) (N := 28) hx hb hts (fun w h => List.mem_cons_of_mem _ (i_Mo w h)) hown hw (k_M 0) rfl 2 (by decide) (hts _ (List.mem_cons_of_mem _ xw_564)) (fun _ h9 => h9) rfl d_Mo_of_86 ?_
                    refine lv_iload_n hx hb d_Mo_of_89 rfl (lv_at hl 3 rfl) ?_
                    obtain ⟨hin, h⟩ := h
                    refine xm_zald hx hb hw 1 (k_ruled 0) rfl hin d_Mo_of_90 ?_
                    refine xj_use h (fun (v_34 : Unit) => ∀ (H : Heap) (locs : List Loc) (ls : Array Slot), xm_W D xcl (xT cI cZ cJ cO) (xm_A ad (CE m_thrown) s.heap.size) ad (CE 0) s s.heap H locs → lv_has ls 5 [(0, .ref (ad iM)), (1, .int p0), (2, .int p1), (4, .int v_8.1)] → W p l e rm_Mo_of s m args below meth c H locs 0 0 QQ (F0 m 107 ls [.int v_8.2])) (fun v_34 h H locs ls hw hl => ?_) (fun J_35 hJ_35 h => ?_)
                    · refine lv_iconst (v := 0) hx hb d_Mo_of_107 (by decide) ?_
                      exact hJ_31 0 h _ _ _ hw (lv_sub hl [0, 1, 2, 3] rfl)
                    · refine lv_if_eq (tgt := 107) hx hb d_Mo_of_91 (by decide) (fun hc => ?_) (fun hc => ?_)
                      · have h := h.1 hc
                        exact hJ_35 () h _ _ _ hw (lv_sub hl [2, 3, 4, 0] rfl)
                      · have h := h.2 hc
                        refine lv_aload_n hx hb d_Mo_of_94 rfl (lv_at hl 2 rfl) ?_
                        refine lv_iload hx hb d_Mo_of_95 (lv_at hl 0 rfl) ?_
                        refine xm_calli (ua := fun _ => ad) (va_runV (As := [.int v_8.1]) (rest := [.int v_8.2]) ⟨hx, hb, hml, hown, hts⟩ (c_Mo_isWanted (D := D) (ad := ad) (CE := ((CE 0)))  (k_M 0) (k_model 0) (k_calls 0) h _) (xg_cwV 1 hts xw_784 xw_781 xw_783 xw_p43 xw_8 rfl rfl (by decide +kernel) ⟨Nat.le_of_ble_eq_true rfl, Nat.le_of_ble_eq_true rfl⟩) (xm_preV hw (k_M 0) rfl _) rfl rfl hl.1 rfl (lv_room (Nat.le_of_ble_eq_true rfl)) d_Mo_of_97 ⟨Nat.le_of_ble_eq_true rfl, Nat.le_of_ble_eq_true rfl⟩) hw (fun r_36 _ H locs h hw => ?_)
                        refine lv_if_eq (tgt := 107) hx hb d_Mo_of_100 (by decide) (fun hc => ?_) (fun hc => ?_)
                        · have h := h.1 hc
                          exact hJ_35 () h _ _ _ hw (lv_sub hl [2, 3, 4, 0] rfl)
                        · have h := h.2 hc
                          refine lv_iconst (v := 1) hx hb d_Mo_of_103 (by decide) ?_
                          refine lv_goto (tgt := 108) hx hb d_Mo_of_104 (by decide) ?_
                          exact hJ_31 1 h _ _ _ hw (lv_sub hl [2, 3, 4, 0] rfl)
                  · have h := h.2 hc
                    refine lv_aload_n hx hb d_Mo_of_67 rfl (lv_at hl 2 rfl) ?_
                    refine xm_get (D := D) (v := .ref (ad i_model)) (C := R_Mo) (T := F_Mo) (N := 28) hx hb hts (fun w h => List.mem_cons_of_mem _ (i_Mo w h)) hown hw (k_M 0) rfl 5 (by decide) (hts _ (List.mem_cons_of_mem _ xw_567)) (fun _ h9 => h9) rfl d_Mo_of_68 ?_
                    refine lv_iload hx hb d_Mo_of_71 (lv_at hl 0 rfl) ?_
                    obtain ⟨hin, h⟩ := h
                    refine xm_zald hx hb hw 1 (k_model 0) rfl hin d_Mo_of_73 ?_
                    refine lv_if_eq (tgt := 81) hx hb d_Mo_of_74 (by decide) (fun hc => ?_) (fun hc => ?_)
                    · have h := h.1 hc
                      refine lv_iconst (v := 0) hx hb d_Mo_of_81 (by decide) ?_
                      refine lv_goto (tgt := 108) hx hb d_Mo_of_82 (by decide) ?_
                      exact hJ_31 0 h _ _ _ hw (lv_sub hl [2, 3, 4, 0] rfl)
                    · have h := h.2 hc
                      refine lv_iconst (v := 1) hx hb d_Mo_of_77 (by decide) ?_
                      refine lv_goto (tgt := 108) hx hb d_Mo_of_78 (by decide) ?_
                      exact hJ_31 1 h _ _ _ hw (lv_sub hl [2, 3, 4, 0] rfl)
        · have h := h.2 hc
          exact hJ_2 () h _ _ _ hw (lv_sub hl [] rfl)
theorem xw_792 : (Jvm.Cond.code ({ cls := "QuestionDeskModel", name := "of", desc := "(II)I" } : Jvm.MethodName) prog_6_method_38_code (5 : Nat) (Option.some Jvm.ClassFile.FieldType.int)) ∈ xg := xg_t (i := 792) (by decide +kernel) (by decide +kernel)
theorem xw_797 : (Jvm.Cond.methodLink "QuestionDeskModel" (176 : Nat) ({ cls := "QuestionDeskModel", name := "of", desc := "(II)I" } : Jvm.MethodName)) ∈ xg := xg_t (i := 797) (by decide +kernel) (by decide +kernel)
theorem xw_790 : (Jvm.Cond.instanceMethod ({ cls := "QuestionDeskModel", name := "of", desc := "(II)I" } : Jvm.MethodName)) ∈ xg := xg_t (i := 790) (by decide +kernel) (by decide +kernel)
theorem xw_791 : (Jvm.Cond.selects "QuestionDeskModel" ({ cls := "QuestionDeskModel", name := "of", desc := "(II)I" } : Jvm.MethodName) ({ cls := "QuestionDeskModel", name := "of", desc := "(II)I" } : Jvm.MethodName)) ∈ xg := xg_t (i := 791) (by decide +kernel) (by decide +kernel)
def wp_Mo_count (post : Int32 → Int32 → Prop)  (m_ruled : Nat → Int32) (m_predicates : Int32) (m_told : Nat → Int32) (m_model : Nat → Int32) (m_rules : Int32) (m_asked : Int32) (m_hadPredicates : Int32) (m_calls : Nat → Int32) (m_patterns : Nat → Int32) (m_rewritten : Int32) (m_thrown : Int32) (p0 : Int32) : Prop :=
xj (fun (v_1 : Int32) =>
xL (fun (K_4 : Int32 × Int32 × Int32 → Prop) (v_3 : Int32 × Int32 × Int32) =>
xj (fun (v_5 : Unit) =>
xL (fun (K_8 : Int32 × Int32 → Prop) (v_7 : Int32 × Int32) =>
xj (fun (v_9 : Unit) =>
((p0 = 0 →
post m_predicates 0) ∧ (p0 = 1 →
post m_rules 0) ∧ (p0 = 2 →
post v_7.2 0) ∧ (p0 = 3 →
xj (fun (v_11 : Int32) =>
post v_11 0) (fun (J_12 : Int32 → Prop) =>
((m_asked = 0 →
J_12 (-1)) ∧ (¬ m_asked = 0 →
J_12 v_7.2)))) ∧ (p0 = 4 →
xj (fun (v_13 : Int32) =>
post v_13 0) (fun (J_14 : Int32 → Prop) =>
((m_asked = 0 →
J_14 (-1)) ∧ (¬ m_asked = 0 →
J_14 m_rewritten)))) ∧ (p0 = 5 →
xj (fun (v_15 : Int32) =>
post v_15 0) (fun (J_16 : Int32 → Prop) =>
((m_asked = 0 →
J_16 (-1)) ∧ (¬ m_asked = 0 →
J_16 v_7.2)))) ∧ (p0 = 6 →
xj (fun (v_17 : Int32) =>
post v_17 0) (fun (J_18 : Int32 → Prop) =>
((m_asked = 0 →
J_18 (-1)) ∧ (¬ m_asked = 0 →
J_18 v_7.2)))) ∧ (p0.toInt < 0 ∨ 6 < p0.toInt →
post (-1) 0))) (fun (J_10 : Unit → Prop) =>
((1000 ≤ v_7.1 →
J_10 ()) ∧ (¬ 1000 ≤ v_7.1 →
((¬ p0 = 2 →
J_10 ()) ∧ (p0 = 2 →
vp_in v_7.1 1000 ∧
xj (fun (v_19 : Int32) =>
∀ x_21 : Int32, x_21 = v_7.2 + v_19 →
∀ x_22 : Int32, x_22 = v_7.1 + 1 →
K_8 (x_22, x_21)) (fun (J_20 : Int32 → Prop) =>
(((m_told (Int32.toNatClampNeg v_7.1)) = 0 →
J_20 0) ∧ (¬ (m_told (Int32.toNatClampNeg v_7.1)) = 0 →
J_20 1))))))))) (0, v_3.2.1)) (fun (J_6 : Unit → Prop) =>
((m_hadPredicates ≤ v_3.1 →
J_6 ()) ∧ (¬ m_hadPredicates ≤ v_3.1 →
((m_asked = 0 →
J_6 ()) ∧ (¬ m_asked = 0 →
wp_Mo_in (fun r_23 =>
((r_23 = 0 →
J_6 ()) ∧ (¬ r_23 = 0 →
xj (fun (v_25 : Int32 × Int32) =>
∀ x_27 : Int32, x_27 = v_3.2.1 + v_25.1 →
∀ x_28 : Int32, x_28 = v_3.1 + 1 →
K_4 (x_28, x_27, v_25.2)) (fun (J_26 : Int32 × Int32 → Prop) =>
((¬ p0 = 4 →
wp_Mo_of (fun r_29 m_thrown_31 =>
J_26 (r_29, m_thrown_31)) m_ruled m_model m_asked m_hadPredicates m_calls m_patterns v_3.2.2 v_3.1 v_1) ∧ (p0 = 4 →
J_26 (0, v_3.2.2))))))) p0 3 6)))))) (0, 0, m_thrown)) (fun (J_2 : Int32 → Prop) =>
((¬ p0 = 3 →
((¬ p0 = 5 →
J_2 1) ∧ (p0 = 5 →
J_2 2))) ∧ (p0 = 3 →
J_2 3)))
abbrev rm_Mo_count : Room := { frames := 2, cells := 0, slots := 0, locals := 49 }
set_option maxHeartbeats 4000000 in
set_option maxRecDepth 100000 in
theorem c_Mo_count {l : Launch} {D : va_G} {ad : Nat → Nat} (CE : Int32 → Nat → Option va_E) {cI cZ cJ cO : ClassId} {iM : Nat} {i_places : Nat} {i_ruled : Nat} {i_told : Nat} {i_model : Nat} {i_ofAtom : Nat} {i_left : Nat} {i_right : Nat} {i_size : Nat} {i_calls : Nat} {i_row : Nat} {i_patterns : Nat} {i_values : Nat} {i_by : Nat} {i_choice : Nat} {m_ruled : Nat → Int32} {m_predicates : Int32} {m_told : Nat → Int32} {m_model : Nat → Int32} {m_rules : Int32} {m_asked : Int32} {m_hadPredicates : Int32} {m_calls : Nat → Int32} {m_patterns : Nat → Int32} {m_rewritten : Int32} {m_begun : Int32} {m_asksOf : Int32} {m_asksLeft : Int32} {m_asksRight : Int32} {m_inRow : Int32} {m_rule : Int32} {m_atoms : Int32} {m_depth : Int32} (k_M : ∀ (m_thrown : Int32), (CE m_thrown) iM = some (.inr (4, [.int m_thrown, .ref (ad i_places), .ref (ad i_ruled), .int m_predicates, .ref (ad i_told), .ref (ad i_model), .ref (ad i_ofAtom), .ref (ad i_left), .ref (ad i_right), .ref (ad i_size), .int m_rules, .int m_begun, .int m_asked, .int m_asksOf, .int m_asksLeft, .int m_asksRight, .int m_hadPredicates, .ref (ad i_calls), .ref (ad i_row), .int m_inRow, .ref (ad i_patterns), .int m_rewritten, .ref (ad i_values), .ref (ad i_by), .ref (ad i_choice), .int m_rule, .int m_atoms, .int m_depth]))) (k_ruled : ∀ (m_thrown : Int32), (CE m_thrown) i_ruled = some (.inl (cZ, 10, .inl m_ruled))) (k_told : ∀ (m_thrown : Int32), (CE m_thrown) i_told = some (.inl (cZ, 1000, .inl m_told))) (k_model : ∀ (m_thrown : Int32), (CE m_thrown) i_model = some (.inl (cZ, 1000, .inl m_model))) (k_calls : ∀ (m_thrown : Int32), (CE m_thrown) i_calls = some (.inl (cZ, 1210, .inl m_calls))) (k_patterns : ∀ (m_thrown : Int32), (CE m_thrown) i_patterns = some (.inl (cZ, 40, .inl m_patterns))) (u_M : ∀ (m_thrown : Int32) (m_thrown' : Int32), va_up (CE m_thrown) iM (some (.inr (4, [.int m_thrown', .ref (ad i_places), .ref (ad i_ruled), .int m_predicates, .ref (ad i_told), .ref (ad i_model), .ref (ad i_ofAtom), .ref (ad i_left), .ref (ad i_right), .ref (ad i_size), .int m_rules, .int m_begun, .int m_asked, .int m_asksOf, .int m_asksLeft, .int m_asksRight, .int m_hadPredicates, .ref (ad i_calls), .ref (ad i_row), .int m_inRow, .ref (ad i_patterns), .int m_rewritten, .ref (ad i_values), .ref (ad i_by), .ref (ad i_choice), .int m_rule, .int m_atoms, .int m_depth]))) = (CE m_thrown')) {post : Int32 → Int32 → Prop} {m_thrown : Int32} {p0 : Int32} (h : wp_Mo_count post m_ruled m_predicates m_told m_model m_rules m_asked m_hadPredicates m_calls m_patterns m_rewritten m_thrown p0) : ∀ sz, Met l y_Mo_count (Cond.code y_Mo_count b_Mo_count 5 (some .int) :: xg) rm_Mo_count (xm_Pc D xcl (xT cI cZ cJ cO) ad (CE m_thrown) sz [.ref (ad iM), .int p0]) (va_Qi (fun (r : Int32) (u : Int32) => post r u) (xm_B D xcl (xT cI cZ cJ cO) (xm_A ad (CE m_thrown) sz) (fun _ => ad) (fun u : Int32 => CE u)) (xm_A ad (CE m_thrown) sz)) 0 0 (xm_A ad (CE m_thrown) sz) := by
  refine xm_ofW (cc := b_Mo_count) (maxL := 5) (ret := (some .int)) (by decide) rfl (Nat.le_of_ble_eq_true rfl) ?_
  intro p e s m args below meth c ls QQ hQQ hx hb hml hr hown hlk hnm hts hl hw
  have hl : lv_has ls 5 [(0, .ref (ad iM)), (1, .int p0)] := hl
  unfold wp_Mo_count at h
  refine lv_iconst (v := 0) hx hb d_Mo_count_0 (by decide) ?_
  refine lv_istore_n (lv' := [(2, .int 0), (0, .ref (ad iM)), (1, .int p0)]) hx hb d_Mo_count_1 rfl hl (by decide) rfl (fun ls hl => ?_)
  refine lv_iload_n hx hb d_Mo_count_2 rfl (lv_at hl 2 rfl) ?_
  refine lv_iconst (v := 3) hx hb d_Mo_count_3 (by decide) ?_
  refine xj_use h (fun (v_1 : Int32) => ∀ (H : Heap) (locs : List Loc) (ls : Array Slot), xm_W D xcl (xT cI cZ cJ cO) (xm_A ad (CE m_thrown) s.heap.size) ad (CE m_thrown) s s.heap H locs → lv_has ls 5 [(0, .ref (ad iM)), (1, .int p0), (2, .int 0)] → W p l e rm_Mo_count s m args below meth c H locs 0 0 QQ (F0 m 21 ls [.int v_1])) (fun v_1 h H locs ls hw hl => ?_) (fun J_2 hJ_2 h => ?_)
  · refine lv_istore_n (lv' := [(3, .int v_1), (0, .ref (ad iM)), (1, .int p0), (2, .int 0)]) hx hb d_Mo_count_21 rfl hl (by decide) rfl (fun ls hl => ?_)
    refine lv_iconst (v := 0) hx hb d_Mo_count_22 (by decide) ?_
    refine lv_istore (lv' := [(4, .int 0), (3, .int v_1), (0, .ref (ad iM)), (1, .int p0), (2, .int 0)]) hx hb d_Mo_count_23 hl (by decide) rfl (fun ls hl => ?_)
    refine xL_use h (fun (v_3 : Int32 × Int32 × Int32) => ∀ (H : Heap) (locs : List Loc) (ls : Array Slot), xm_W D xcl (xT cI cZ cJ cO) (xm_A ad (CE m_thrown) s.heap.size) ad (CE v_3.2.2) s s.heap H locs → lv_has ls 5 [(4, .int v_3.1), (3, .int v_1), (0, .ref (ad iM)), (1, .int p0), (2, .int v_3.2.1)] → W p l e rm_Mo_count s m args below meth c H locs 0 0 QQ (F0 m 25 ls [])) (fun K_4 hK_4 v_3 h H locs ls hw hl => ?_) _ _ _ hw (lv_sub hl [0, 1, 2, 3, 4] rfl)
    refine lv_iload hx hb d_Mo_count_25 (lv_at hl 0 rfl) ?_
    refine lv_aload_n hx hb d_Mo_count_27 rfl (lv_at hl 2 rfl) ?_
    refine xm_get (D := D) (v := .int m_hadPredicates) (C := R_Mo) (T := F_Mo) (N := 28) hx hb hts (fun w h => List.mem_cons_of_mem _ (i_Mo w h)) hown hw (k_M v_3.2.2) rfl 16 (by decide) (hts _ (List.mem_cons_of_mem _ xw_578)) (fun _ h9 => h9) rfl d_Mo_count_28 ?_
    refine xj_use h (fun (v_5 : Unit) => ∀ (H : Heap) (locs : List Loc) (ls : Array Slot), xm_W D xcl (xT cI cZ cJ cO) (xm_A ad (CE m_thrown) s.heap.size) ad (CE v_3.2.2) s s.heap H locs → lv_has ls 5 [(0, .ref (ad iM)), (1, .int p0), (2, .int v_3.2.1)] → W p l e rm_Mo_count s m args below meth c H locs 0 0 QQ (F0 m 76 ls [])) (fun v_5 h H locs ls hw hl => ?_) (fun J_6 hJ_6 h => ?_)
    · refine lv_aload_n hx hb d_Mo_count_76 rfl (lv_at hl 0 rfl) ?_
      refine lv_iconst (v := 0) hx hb d_Mo_count_77 (by decide) ?_
      refine xm_put (D := D) (v := .int 0) (ty := .int) (C := R_Mo) (T := F_Mo) (N := 28) hx hb hts (fun w h => List.mem_cons_of_mem _ (i_Mo w h)) t_Mo o_Mo n_Mo hown hw (k_M v_3.2.2) rfl 0 (by decide) (hts _ (List.mem_cons_of_mem _ xw_562)) (fun _ h9 => h9) rfl (by decide +kernel) rfl rfl (Nat.le_of_ble_eq_true rfl) d_Mo_count_78 (fun H locs hw => ?_)
      have hw : xm_W D xcl (xT cI cZ cJ cO) (xm_A ad (CE m_thrown) s.heap.size) ad (CE 0) s s.heap H locs := xm_W.cast (u_M v_3.2.2 0) hw
      refine lv_iconst (v := 0) hx hb d_Mo_count_81 (by decide) ?_
      refine lv_istore (lv' := [(4, .int 0), (0, .ref (ad iM)), (1, .int p0), (2, .int v_3.2.1)]) hx hb d_Mo_count_82 hl (by decide) rfl (fun ls hl => ?_)
      refine xL_use h (fun (v_7 : Int32 × Int32) => ∀ (H : Heap) (locs : List Loc) (ls : Array Slot), xm_W D xcl (xT cI cZ cJ cO) (xm_A ad (CE m_thrown) s.heap.size) ad (CE 0) s s.heap H locs → lv_has ls 5 [(4, .int v_7.1), (0, .ref (ad iM)), (1, .int p0), (2, .int v_7.2)] → W p l e rm_Mo_count s m args below meth c H locs 0 0 QQ (F0 m 84 ls [])) (fun K_8 hK_8 v_7 h H locs ls hw hl => ?_) _ _ _ hw (lv_sub hl [0, 1, 2, 3] rfl)
      refine lv_iload hx hb d_Mo_count_84 (lv_at hl 0 rfl) ?_
      refine lv_sipush (v := 1000) hx hb d_Mo_count_86 (by decide) ?_
      refine xj_use h (fun (v_9 : Unit) => ∀ (H : Heap) (locs : List Loc) (ls : Array Slot), xm_W D xcl (xT cI cZ cJ cO) (xm_A ad (CE m_thrown) s.heap.size) ad (CE 0) s s.heap H locs → lv_has ls 5 [(0, .ref (ad iM)), (1, .int p0), (2, .int v_7.2)] → W p l e rm_Mo_count s m args below meth c H locs 0 0 QQ (F0 m 121 ls [])) (fun v_9 h H locs ls hw hl => ?_) (fun J_10 hJ_10 h => ?_)
      · refine lv_iload_n hx hb d_Mo_count_121 rfl (lv_at hl 1 rfl) ?_
        by_cases hc0 : p0 = 0
        · have h := h.1 hc0
          refine lv_tableIn (tgt := 164) hx hb d_Mo_count_122 (by rw [hc0]; decide) (by rw [hc0]; decide) (by rw [hc0]; rfl) (by decide) ?_
          refine lv_aload_n hx hb d_Mo_count_164 rfl (lv_at hl 0 rfl) ?_
          refine xm_get (D := D) (v := .int m_predicates) (C := R_Mo) (T := F_Mo) (N := 28) hx hb hts (fun w h => List.mem_cons_of_mem _ (i_Mo w h)) hown hw (k_M 0) rfl 3 (by decide) (hts _ (List.mem_cons_of_mem _ xw_565)) (fun _ h9 => h9) rfl d_Mo_count_165 ?_
          subst hQQ
          exact xm_iret hx hb hr hlk hw (0) rfl rfl h d_Mo_count_168
        by_cases hc1 : p0 = 1
        · have h := h.2.1 hc1
          refine lv_tableIn (tgt := 169) hx hb d_Mo_count_122 (by rw [hc1]; decide) (by rw [hc1]; decide) (by rw [hc1]; rfl) (by decide) ?_
          refine lv_aload_n hx hb d_Mo_count_169 rfl (lv_at hl 0 rfl) ?_
          refine xm_get (D := D) (v := .int m_rules) (C := R_Mo) (T := F_Mo) (N := 28) hx hb hts (fun w h => List.mem_cons_of_mem _ (i_Mo w h)) hown hw (k_M 0) rfl 10 (by decide) (hts _ (List.mem_cons_of_mem _ xw_572)) (fun _ h9 => h9) rfl d_Mo_count_170 ?_
          subst hQQ
          exact xm_iret hx hb hr hlk hw (0) rfl rfl h d_Mo_count_173
        by_cases hc2 : p0 = 2
        · have h := h.2.2.1 hc2
          refine lv_tableIn (tgt := 174) hx hb d_Mo_count_122 (by rw [hc2]; decide) (by rw [hc2]; decide) (by rw [hc2]; rfl) (by decide) ?_
          refine lv_iload_n hx hb d_Mo_count_174 rfl (lv_at hl 2 rfl) ?_
          subst hQQ
          exact xm_iret hx hb hr hlk hw (0) rfl rfl h d_Mo_count_175
        by_cases hc3 : p0 = 3
        · have h := h.2.2.2.1 hc3
          refine lv_tableIn (tgt := 176) hx hb d_Mo_count_122 (by rw [hc3]; decide) (by rw [hc3]; decide) (by rw [hc3]; rfl) (by decide) ?_
          refine lv_aload_n hx hb d_Mo_count_176 rfl (lv_at hl 0 rfl) ?_
          refine xm_get (D := D) (v := .int m_asked) (C := R_Mo) (T := F_Mo) (N := 28) hx hb hts (fun w h => List.mem_cons_of_mem _ (i_Mo w h)) hown hw (k_M 0) rfl 12 (by decide) (hts _ (List.mem_cons_of_mem _ xw_574)) (fun _ h9 => h9) rfl d_Mo_count_177 ?_
          refine xj_use h (fun (v_11 : Int32) => ∀ (H : Heap) (locs : List Loc) (ls : Array Slot), xm_W D xcl (xT cI cZ cJ cO) (xm_A ad (CE m_thrown) s.heap.size) ad (CE 0) s s.heap H locs → lv_has ls 5 [] → W p l e rm_Mo_count s m args below meth c H locs 0 0 QQ (F0 m 188 ls [.int v_11])) (fun v_11 h H locs ls hw hl => ?_) (fun J_12 hJ_12 h => ?_)
          · subst hQQ
            exact xm_iret hx hb hr hlk hw (0) rfl rfl h d_Mo_count_188
          · refine lv_if_eq (tgt := 187) hx hb d_Mo_count_180 (by decide) (fun hc => ?_) (fun hc => ?_)
            · have h := h.1 hc
              refine lv_iconst (v := (-1)) hx hb d_Mo_count_187 (by decide) ?_
              exact hJ_12 (-1) h _ _ _ hw (lv_sub hl [] rfl)
            · have h := h.2 hc
              refine lv_iload_n hx hb d_Mo_count_183 rfl (lv_at hl 2 rfl) ?_
              refine lv_goto (tgt := 188) hx hb d_Mo_count_184 (by decide) ?_
              exact hJ_12 v_7.2 h _ _ _ hw (lv_sub hl [] rfl)
        by_cases hc4 : p0 = 4
        · have h := h.2.2.2.2.1 hc4
          refine lv_tableIn (tgt := 189) hx hb d_Mo_count_122 (by rw [hc4]; decide) (by rw [hc4]; decide) (by rw [hc4]; rfl) (by decide) ?_
          refine lv_aload_n hx hb d_Mo_count_189 rfl (lv_at hl 0 rfl) ?_
          refine xm_get (D := D) (v := .int m_asked) (C := R_Mo) (T := F_Mo) (N := 28) hx hb hts (fun w h => List.mem_cons_of_mem _ (i_Mo w h)) hown hw (k_M 0) rfl 12 (by decide) (hts _ (List.mem_cons_of_mem _ xw_574)) (fun _ h9 => h9) rfl d_Mo_count_190 ?_
          refine xj_use h (fun (v_13 : Int32) => ∀ (H : Heap) (locs : List Loc) (ls : Array Slot), xm_W D xcl (xT cI cZ cJ cO) (xm_A ad (CE m_thrown) s.heap.size) ad (CE 0) s s.heap H locs → lv_has ls 5 [] → W p l e rm_Mo_count s m args below meth c H locs 0 0 QQ (F0 m 204 ls [.int v_13])) (fun v_13 h H locs ls hw hl => ?_) (fun J_14 hJ_14 h => ?_)
          · subst hQQ
            exact xm_iret hx hb hr hlk hw (0) rfl rfl h d_Mo_count_204
          · refine lv_if_eq (tgt := 203) hx hb d_Mo_count_193 (by decide) (fun hc => ?_) (fun hc => ?_)
            · have h := h.1 hc
              refine lv_iconst (v := (-1)) hx hb d_Mo_count_203 (by decide) ?_
              exact hJ_14 (-1) h _ _ _ hw (lv_sub hl [] rfl)
            · have h := h.2 hc
              refine lv_aload_n hx hb d_Mo_count_196 rfl (lv_at hl 0 rfl) ?_
              refine xm_get (D := D) (v := .int m_rewritten) (C := R_Mo) (T := F_Mo) (N := 28) hx hb hts (fun w h => List.mem_cons_of_mem _ (i_Mo w h)) hown hw (k_M 0) rfl 21 (by decide) (hts _ (List.mem_cons_of_mem _ xw_583)) (fun _ h9 => h9) rfl d_Mo_count_197 ?_
              refine lv_goto (tgt := 204) hx hb d_Mo_count_200 (by decide) ?_
              exact hJ_14 m_rewritten h _ _ _ hw (lv_sub hl [] rfl)
        by_cases hc5 : p0 = 5
        · have h := h.2.2.2.2.2.1 hc5
          refine lv_tableIn (tgt := 176) hx hb d_Mo_count_122 (by rw [hc5]; decide) (by rw [hc5]; decide) (by rw [hc5]; rfl) (by decide) ?_
          refine lv_aload_n hx hb d_Mo_count_176 rfl (lv_at hl 0 rfl) ?_
          refine xm_get (D := D) (v := .int m_asked) (C := R_Mo) (T := F_Mo) (N := 28) hx hb hts (fun w h => List.mem_cons_of_mem _ (i_Mo w h)) hown hw (k_M 0) rfl 12 (by decide) (hts _ (List.mem_cons_of_mem _ xw_574)) (fun _ h9 => h9) rfl d_Mo_count_177 ?_
          refine xj_use h (fun (v_15 : Int32) => ∀ (H : Heap) (locs : List Loc) (ls : Array Slot), xm_W D xcl (xT cI cZ cJ cO) (xm_A ad (CE m_thrown) s.heap.size) ad (CE 0) s s.heap H locs → lv_has ls 5 [] → W p l e rm_Mo_count s m args below meth c H locs 0 0 QQ (F0 m 188 ls [.int v_15])) (fun v_15 h H locs ls hw hl => ?_) (fun J_16 hJ_16 h => ?_)
          · subst hQQ
            exact xm_iret hx hb hr hlk hw (0) rfl rfl h d_Mo_count_188
          · refine lv_if_eq (tgt := 187) hx hb d_Mo_count_180 (by decide) (fun hc => ?_) (fun hc => ?_)
            · have h := h.1 hc
              refine lv_iconst (v := (-1)) hx hb d_Mo_count_187 (by decide) ?_
              exact hJ_16 (-1) h _ _ _ hw (lv_sub hl [] rfl)
            · have h := h.2 hc
              refine lv_iload_n hx hb d_Mo_count_183 rfl (lv_at hl 2 rfl) ?_
              refine lv_goto (tgt := 188) hx hb d_Mo_count_184 (by decide) ?_
              exact hJ_16 v_7.2 h _ _ _ hw (lv_sub hl [] rfl)
        by_cases hc6 : p0 = 6
        · have h := h.2.2.2.2.2.2.1 hc6
          refine lv_tableIn (tgt := 176) hx hb d_Mo_count_122 (by rw [hc6]; decide) (by rw [hc6]; decide) (by rw [hc6]; rfl) (by decide) ?_
          refine lv_aload_n hx hb d_Mo_count_176 rfl (lv_at hl 0 rfl) ?_
          refine xm_get (D := D) (v := .int m_asked) (C := R_Mo) (T := F_Mo) (N := 28) hx hb hts (fun w h => List.mem_cons_of_mem _ (i_Mo w h)) hown hw (k_M 0) rfl 12 (by decide) (hts _ (List.mem_cons_of_mem _ xw_574)) (fun _ h9 => h9) rfl d_Mo_count_177 ?_
          refine xj_use h (fun (v_17 : Int32) => ∀ (H : Heap) (locs : List Loc) (ls : Array Slot), xm_W D xcl (xT cI cZ cJ cO) (xm_A ad (CE m_thrown) s.heap.size) ad (CE 0) s s.heap H locs → lv_has ls 5 [] → W p l e rm_Mo_count s m args below meth c H locs 0 0 QQ (F0 m 188 ls [.int v_17])) (fun v_17 h H locs ls hw hl => ?_) (fun J_18 hJ_18 h => ?_)
          · subst hQQ
            exact xm_iret hx hb hr hlk hw (0) rfl rfl h d_Mo_count_188
          · refine lv_if_eq (tgt := 187) hx hb d_Mo_count_180 (by decide) (fun hc => ?_) (fun hc => ?_)
            · have h := h.1 hc
              refine lv_iconst (v := (-1)) hx hb d_Mo_count_187 (by decide) ?_
              exact hJ_18 (-1) h _ _ _ hw (lv_sub hl [] rfl)
            · have h := h.2 hc
              refine lv_iload_n hx hb d_Mo_count_183 rfl (lv_at hl 2 rfl) ?_
              refine lv_goto (tgt := 188) hx hb d_Mo_count_184 (by decide) ?_
              exact hJ_18 v_7.2 h _ _ _ hw (lv_sub hl [] rfl)
        have hdf : p0.toInt < 0 ∨ 6 < p0.toInt := by
          have q0 := xs_ne hc0 (show (0 : Int32).toInt = 0 by decide)
          have q1 := xs_ne hc1 (show (1 : Int32).toInt = 1 by decide)
          have q2 := xs_ne hc2 (show (2 : Int32).toInt = 2 by decide)
          have q3 := xs_ne hc3 (show (3 : Int32).toInt = 3 by decide)
          have q4 := xs_ne hc4 (show (4 : Int32).toInt = 4 by decide)
          have q5 := xs_ne hc5 (show (5 : Int32).toInt = 5 by decide)
          have q6 := xs_ne hc6 (show (6 : Int32).toInt = 6 by decide)
          omega
        have h := h.2.2.2.2.2.2.2 hdf
        refine lv_tableOut (tgt := 205) hx hb d_Mo_count_122 hdf (by decide) ?_
        refine lv_iconst (v := (-1)) hx hb d_Mo_count_205 (by decide) ?_
        subst hQQ
        exact xm_iret hx hb hr hlk hw (0) rfl rfl h d_Mo_count_206
      · refine lv_icmp_ge (tgt := 121) hx hb d_Mo_count_89 (by decide) (fun hc => ?_) (fun hc => ?_)
        · have h := h.1 hc
          exact hJ_10 () h _ _ _ hw (lv_sub hl [1, 2, 3] rfl)
        · have h := h.2 hc
          refine lv_iload_n hx hb d_Mo_count_92 rfl (lv_at hl 2 rfl) ?_
          refine lv_iconst (v := 2) hx hb d_Mo_count_93 (by decide) ?_
          refine lv_icmp_ne (tgt := 121) hx hb d_Mo_count_94 (by decide) (fun hc => ?_) (fun hc => ?_)
          · have h := h.1 hc
            exact hJ_10 () h _ _ _ hw (lv_sub hl [1, 2, 3] rfl)
          · have h := h.2 hc
            refine lv_iload_n hx hb d_Mo_count_97 rfl (lv_at hl 3 rfl) ?_
            refine lv_aload_n hx hb d_Mo_count_98 rfl (lv_at hl 1 rfl) ?_
            refine xm_get (D := D) (v := .ref (ad i_told)) (C := R_Mo) (T := F_Mo) (N := 28) hx hb hts (fun w h => List.mem_cons_of_mem _ (i_Mo w h)) hown hw (k_M 0) rfl 4 (by decide) (hts _ (List.mem_cons_of_mem _ xw_566)) (fun _ h9 => h9) rfl d_Mo_count_99 ?_
            refine lv_iload hx hb d_Mo_count_102 (lv_at hl 0 rfl) ?_
            obtain ⟨hin, h⟩ := h
            refine xm_zald hx hb hw 1 (k_told 0) rfl hin d_Mo_count_104 ?_
            refine xj_use h (fun (v_19 : Int32) => ∀ (H : Heap) (locs : List Loc) (ls : Array Slot), xm_W D xcl (xT cI cZ cJ cO) (xm_A ad (CE m_thrown) s.heap.size) ad (CE 0) s s.heap H locs → lv_has ls 5 [(0, .ref (ad iM)), (1, .int p0), (4, .int v_7.1)] → W p l e rm_Mo_count s m args below meth c H locs 0 0 QQ (F0 m 113 ls [.int v_19, .int v_7.2])) (fun v_19 h H locs ls hw hl => ?_) (fun J_20 hJ_20 h => ?_)
            · refine lv_iadd hx hb d_Mo_count_113 ?_
              refine lv_topi (fun x_21 ex_21 => ?_)
              have h := h x_21 ex_21
              refine lv_istore_n (lv' := [(2, .int x_21), (0, .ref (ad iM)), (1, .int p0), (4, .int v_7.1)]) hx hb d_Mo_count_114 rfl hl (by decide) rfl (fun ls hl => ?_)
              obtain ⟨x_22, ex_22⟩ : ∃ y : Int32, y = v_7.1 + 1 := ⟨_, rfl⟩
              have h := h x_22 ex_22
              refine lv_iinc (v := x_22) (lv' := [(4, .int x_22), (2, .int x_21), (0, .ref (ad iM)), (1, .int p0)]) hx hb d_Mo_count_115 hl (k := 3) rfl (by rw [ex_22]; rfl) (by decide) rfl (fun ls hl => ?_)
              refine lv_goto (tgt := 84) hx hb d_Mo_count_118 (by decide) ?_
              exact hK_8 (x_22, x_21) h _ _ _ hw (lv_sub hl [0, 2, 3, 1] rfl)
            · refine lv_if_eq (tgt := 112) hx hb d_Mo_count_105 (by decide) (fun hc => ?_) (fun hc => ?_)
              · have h := h.1 hc
                refine lv_iconst (v := 0) hx hb d_Mo_count_112 (by decide) ?_
                exact hJ_20 0 h _ _ _ hw (lv_sub hl [1, 2, 0] rfl)
              · have h := h.2 hc
                refine lv_iconst (v := 1) hx hb d_Mo_count_108 (by decide) ?_
                refine lv_goto (tgt := 113) hx hb d_Mo_count_109 (by decide) ?_
                exact hJ_20 1 h _ _ _ hw (lv_sub hl [1, 2, 0] rfl)
    · refine lv_icmp_ge (tgt := 76) hx hb d_Mo_count_31 (by decide) (fun hc => ?_) (fun hc => ?_)
      · have h := h.1 hc
        exact hJ_6 () h _ _ _ hw (lv_sub hl [2, 3, 4] rfl)
      · have h := h.2 hc
        refine lv_aload_n hx hb d_Mo_count_34 rfl (lv_at hl 2 rfl) ?_
        refine xm_get (D := D) (v := .int m_asked) (C := R_Mo) (T := F_Mo) (N := 28) hx hb hts (fun w h => List.mem_cons_of_mem _ (i_Mo w h)) hown hw (k_M v_3.2.2) rfl 12 (by decide) (hts _ (List.mem_cons_of_mem _ xw_574)) (fun _ h9 => h9) rfl d_Mo_count_35 ?_
        refine lv_if_eq (tgt := 76) hx hb d_Mo_count_38 (by decide) (fun hc => ?_) (fun hc => ?_)
        · have h := h.1 hc
          exact hJ_6 () h _ _ _ hw (lv_sub hl [2, 3, 4] rfl)
        · have h := h.2 hc
          refine lv_iload_n hx hb d_Mo_count_41 rfl (lv_at hl 3 rfl) ?_
          refine lv_iconst (v := 3) hx hb d_Mo_count_42 (by decide) ?_
          refine lv_bipush (v := 6) hx hb d_Mo_count_43 (by decide) ?_
          refine xm_calli (ua := fun _ => ad) (va_runS (As := [.int p0, .int 3, .int 6]) (rest := []) ⟨hx, hb, hml, hown, hts⟩ (c_Mo_in (D := D) (ad := ad) (CE := ((CE v_3.2.2)))   h _) (xg_cwS 3 hts xw_657 xw_655 xw_656 xw_8 rfl rfl (by decide +kernel) ⟨Nat.le_of_ble_eq_true rfl, Nat.le_of_ble_eq_true rfl⟩) (xm_pre hw _) rfl rfl hl.1 rfl (lv_room (Nat.le_of_ble_eq_true rfl)) d_Mo_count_45 ⟨Nat.le_of_ble_eq_true rfl, Nat.le_of_ble_eq_true rfl⟩) hw (fun r_23 _ H locs h hw => ?_)
          refine lv_if_eq (tgt := 76) hx hb d_Mo_count_48 (by decide) (fun hc => ?_) (fun hc => ?_)
          · have h := h.1 hc
            exact hJ_6 () h _ _ _ hw (lv_sub hl [2, 3, 4] rfl)
          · have h := h.2 hc
            refine lv_iload_n hx hb d_Mo_count_51 rfl (lv_at hl 4 rfl) ?_
            refine lv_iload_n hx hb d_Mo_count_52 rfl (lv_at hl 3 rfl) ?_
            refine lv_iconst (v := 4) hx hb d_Mo_count_53 (by decide) ?_
            refine xj_use h (fun (v_25 : Int32 × Int32) => ∀ (H : Heap) (locs : List Loc) (ls : Array Slot), xm_W D xcl (xT cI cZ cJ cO) (xm_A ad (CE m_thrown) s.heap.size) ad (CE v_25.2) s s.heap H locs → lv_has ls 5 [(0, .ref (ad iM)), (1, .int p0), (3, .int v_1), (4, .int v_3.1)] → W p l e rm_Mo_count s m args below meth c H locs 0 0 QQ (F0 m 68 ls [.int v_25.1, .int v_3.2.1])) (fun v_25 h H locs ls hw hl => ?_) (fun J_26 hJ_26 h => ?_)
            · refine lv_iadd hx hb d_Mo_count_68 ?_
              refine lv_topi (fun x_27 ex_27 => ?_)
              have h := h x_27 ex_27
              refine lv_istore_n (lv' := [(2, .int x_27), (0, .ref (ad iM)), (1, .int p0), (3, .int v_1), (4, .int v_3.1)]) hx hb d_Mo_count_69 rfl hl (by decide) rfl (fun ls hl => ?_)
              obtain ⟨x_28, ex_28⟩ : ∃ y : Int32, y = v_3.1 + 1 := ⟨_, rfl⟩
              have h := h x_28 ex_28
              refine lv_iinc (v := x_28) (lv' := [(4, .int x_28), (2, .int x_27), (0, .ref (ad iM)), (1, .int p0), (3, .int v_1)]) hx hb d_Mo_count_70 hl (k := 4) rfl (by rw [ex_28]; rfl) (by decide) rfl (fun ls hl => ?_)
              refine lv_goto (tgt := 25) hx hb d_Mo_count_73 (by decide) ?_
              exact hK_4 (x_28, x_27, v_25.2) h _ _ _ hw (lv_sub hl [0, 4, 2, 3, 1] rfl)
            · refine lv_icmp_ne (tgt := 61) hx hb d_Mo_count_54 (by decide) (fun hc => ?_) (fun hc => ?_)
              · have h := h.1 hc
                refine lv_aload_n hx hb d_Mo_count_61 rfl (lv_at hl 2 rfl) ?_
                refine lv_iload hx hb d_Mo_count_62 (lv_at hl 0 rfl) ?_
                refine lv_iload_n hx hb d_Mo_count_64 rfl (lv_at hl 1 rfl) ?_
                refine xm_calli (ua := fun _ => ad) (va_runV (As := [.int v_3.1, .int v_1]) (rest := [.int v_3.2.1]) ⟨hx, hb, hml, hown, hts⟩ (c_Mo_of (D := D) (ad := ad) (CE := (fun m_thrown => (CE m_thrown)))  (fun m_thrown => k_M m_thrown) (fun m_thrown => k_ruled m_thrown) (fun m_thrown => k_model m_thrown) (fun m_thrown => k_calls m_thrown) (fun m_thrown => k_patterns m_thrown) (fun m_thrown m_thrown' => u_M m_thrown m_thrown') h _) (xg_cwV 2 hts xw_792 xw_797 xw_790 xw_791 xw_8 rfl rfl (by decide +kernel) ⟨Nat.le_of_ble_eq_true rfl, Nat.le_of_ble_eq_true rfl⟩) (xm_preV hw (k_M v_3.2.2) rfl _) rfl rfl hl.1 rfl (lv_room (Nat.le_of_ble_eq_true rfl)) d_Mo_count_65 ⟨Nat.le_of_ble_eq_true rfl, Nat.le_of_ble_eq_true rfl⟩) hw (fun r_29 u_30 H locs h hw => ?_)
                obtain ⟨m_thrown_31, em_thrown_31⟩ : ∃ z, z = u_30 := ⟨_, rfl⟩
                try dsimp only at h hw
                rw [← em_thrown_31] at h hw
                exact hJ_26 (r_29, m_thrown_31) h _ _ _ hw (lv_sub hl [2, 3, 1, 0] rfl)
              · have h := h.2 hc
                refine lv_iconst (v := 0) hx hb d_Mo_count_57 (by decide) ?_
                refine lv_goto (tgt := 68) hx hb d_Mo_count_58 (by decide) ?_
                exact hJ_26 (0, v_3.2.2) h _ _ _ hw (lv_sub hl [2, 3, 1, 0] rfl)
  · refine lv_icmp_ne (tgt := 11) hx hb d_Mo_count_4 (by decide) (fun hc => ?_) (fun hc => ?_)
    · have h := h.1 hc
      refine lv_iload_n hx hb d_Mo_count_11 rfl (lv_at hl 2 rfl) ?_
      refine lv_iconst (v := 5) hx hb d_Mo_count_12 (by decide) ?_
      refine lv_icmp_ne (tgt := 20) hx hb d_Mo_count_13 (by decide) (fun hc => ?_) (fun hc => ?_)
      · have h := h.1 hc
        refine lv_iconst (v := 1) hx hb d_Mo_count_20 (by decide) ?_
        exact hJ_2 1 h _ _ _ hw (lv_sub hl [1, 2, 0] rfl)
      · have h := h.2 hc
        refine lv_iconst (v := 2) hx hb d_Mo_count_16 (by decide) ?_
        refine lv_goto (tgt := 21) hx hb d_Mo_count_17 (by decide) ?_
        exact hJ_2 2 h _ _ _ hw (lv_sub hl [1, 2, 0] rfl)
    · have h := h.2 hc
      refine lv_iconst (v := 3) hx hb d_Mo_count_7 (by decide) ?_
      refine lv_goto (tgt := 21) hx hb d_Mo_count_8 (by decide) ?_
      exact hJ_2 3 h _ _ _ hw (lv_sub hl [1, 2, 0] rfl)
