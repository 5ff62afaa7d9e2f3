theorem xw_732 : (Jvm.Cond.code ({ cls := "QuestionDeskModel", name := "finds", desc := "()Z" } : Jvm.MethodName) prog_6_method_21_code (3 : Nat) (Option.some Jvm.ClassFile.FieldType.boolean)) ∈ xg := xg_t (i := 732) (by decide +kernel) (by decide +kernel)
theorem xw_729 : (Jvm.Cond.methodLink "QuestionDeskModel" (114 : Nat) ({ cls := "QuestionDeskModel", name := "finds", desc := "()Z" } : Jvm.MethodName)) ∈ xg := xg_t (i := 729) (by decide +kernel) (by decide +kernel)
theorem xw_731 : (Jvm.Cond.instanceMethod ({ cls := "QuestionDeskModel", name := "finds", desc := "()Z" } : Jvm.MethodName)) ∈ xg := xg_t (i := 731) (by decide +kernel) (by decide +kernel)
theorem xw_p33 : Cond.selects "QuestionDeskModel" ⟨"QuestionDeskModel", "finds", "()Z"⟩ ⟨"QuestionDeskModel", "finds", "()Z"⟩ ∈ xg := xg_p (q := (⟨"QuestionDeskModel", "finds", "()Z"⟩, 28)) (i := 33) (by decide +kernel) (by decide +kernel)
def wp_Mo_goes (post : Int32 → (Nat → Int32) → (Nat → Int32) → (Nat → Int32) → Int32 → Int32 → Prop)  (m_model : Nat → Int32) (m_ofAtom : Nat → Int32) (m_left : Nat → Int32) (m_right : Nat → Int32) (m_rule : Int32) (m_values : Nat → Int32) (m_by : Nat → Int32) (m_choice : Nat → Int32) (m_atoms : Int32) (m_depth : Int32) : Prop :=
((¬ m_depth = m_atoms →
xL (fun (K_2 : (Nat → Int32) × (Nat → Int32) × (Nat → Int32) × Int32 × Int32 → Prop) (v_1 : (Nat → Int32) × (Nat → Int32) × (Nat → Int32) × Int32 × Int32) =>
((v_1.2.2.2.1 ≤ v_1.2.2.2.2 →
post 1 v_1.1 v_1.2.1 v_1.2.2.1 v_1.2.2.2.1 v_1.2.2.2.2) ∧ (¬ v_1.2.2.2.1 ≤ v_1.2.2.2.2 →
wp_Mo_finds (fun r_3 m_values_5 m_by_6 m_choice_7 =>
((r_3 = 0 →
((0 ≤ (v_1.2.2.2.2 - 1) →
wp_Mo_frees (fun m_values_10 m_by_11 =>
K_2 (m_values_10, m_by_11, m_choice_7, v_1.2.2.2.1, v_1.2.2.2.2 - 1)) m_values_5 m_by_6 (v_1.2.2.2.2 - 1)) ∧ (¬ 0 ≤ (v_1.2.2.2.2 - 1) →
post 0 m_values_5 m_by_6 m_choice_7 0 0))) ∧ (¬ r_3 = 0 →
vp_in (v_1.2.2.2.2 + 1) 4 ∧
∀ m_choice_12 : Nat → Int32, m_choice_12 = upd m_choice_7 (Int32.toNatClampNeg (v_1.2.2.2.2 + 1)) (-1) →
K_2 (m_values_5, m_by_6, m_choice_12, v_1.2.2.2.1, v_1.2.2.2.2 + 1)))) m_model m_ofAtom m_left m_right m_rule v_1.2.2.2.2 v_1.1 v_1.2.1 v_1.2.2.1))) (m_values, m_by, m_choice, m_atoms, m_depth)) ∧ (m_depth = m_atoms →
((0 ≤ (m_depth - 1) →
wp_Mo_frees (fun m_values_15 m_by_16 =>
xL (fun (K_18 : (Nat → Int32) × (Nat → Int32) × (Nat → Int32) × Int32 × Int32 → Prop) (v_17 : (Nat → Int32) × (Nat → Int32) × (Nat → Int32) × Int32 × Int32) =>
((v_17.2.2.2.1 ≤ v_17.2.2.2.2 →
post 1 v_17.1 v_17.2.1 v_17.2.2.1 v_17.2.2.2.1 v_17.2.2.2.2) ∧ (¬ v_17.2.2.2.1 ≤ v_17.2.2.2.2 →
wp_Mo_finds (fun r_19 m_values_21 m_by_22 m_choice_23 =>
((r_19 = 0 →
((0 ≤ (v_17.2.2.2.2 - 1) →
wp_Mo_frees (fun m_values_26 m_by_27 =>
K_18 (m_values_26, m_by_27, m_choice_23, v_17.2.2.2.1, v_17.2.2.2.2 - 1)) m_values_21 m_by_22 (v_17.2.2.2.2 - 1)) ∧ (¬ 0 ≤ (v_17.2.2.2.2 - 1) →
post 0 m_values_21 m_by_22 m_choice_23 0 0))) ∧ (¬ r_19 = 0 →
vp_in (v_17.2.2.2.2 + 1) 4 ∧
∀ m_choice_28 : Nat → Int32, m_choice_28 = upd m_choice_23 (Int32.toNatClampNeg (v_17.2.2.2.2 + 1)) (-1) →
K_18 (m_values_21, m_by_22, m_choice_28, v_17.2.2.2.1, v_17.2.2.2.2 + 1)))) m_model m_ofAtom m_left m_right m_rule v_17.2.2.2.2 v_17.1 v_17.2.1 v_17.2.2.1))) (m_values_15, m_by_16, m_choice, m_atoms, m_depth - 1)) m_values m_by (m_depth - 1)) ∧ (¬ 0 ≤ (m_depth - 1) →
post 0 m_values m_by m_choice m_atoms (m_depth - 1)))))
abbrev rm_Mo_goes : Room := { frames := 2, cells := 0, slots := 0, locals := 46 }
set_option maxHeartbeats 4000000 in
set_option maxRecDepth 100000 in
theorem c_Mo_goes {l : Launch} {D : va_G} {ad : Nat → Nat} (CE : (Nat → Int32) → (Nat → Int32) → (Nat → Int32) → Int32 → Int32 → Nat → Option va_E) {cI cZ cJ cO : ClassId} {iM : Nat} {i_places : Nat} {i_ruled : Nat} {i_told : Nat} {i_model : Nat} {i_ofAtom : Nat} {i_left : Nat} {i_right : Nat} {i_size : Nat} {i_calls : Nat} {i_row : Nat} {i_patterns : Nat} {i_values : Nat} {i_by : Nat} {i_choice : Nat} {m_model : Nat → Int32} {m_ofAtom : Nat → Int32} {m_left : Nat → Int32} {m_right : Nat → Int32} {m_rule : Int32} {m_thrown : Int32} {m_predicates : Int32} {m_rules : Int32} {m_begun : Int32} {m_asked : Int32} {m_asksOf : Int32} {m_asksLeft : Int32} {m_asksRight : Int32} {m_hadPredicates : Int32} {m_inRow : Int32} {m_rewritten : Int32} (k_M : ∀ (m_values : Nat → Int32) (m_by : Nat → Int32) (m_choice : Nat → Int32) (m_atoms : Int32) (m_depth : Int32), (CE m_values m_by m_choice m_atoms m_depth) iM = some (.inr (4, [.int m_thrown, .ref (ad i_places), .ref (ad i_ruled), .int m_predicates, .ref (ad i_told), .ref (ad i_model), .ref (ad i_ofAtom), .ref (ad i_left), .ref (ad i_right), .ref (ad i_size), .int m_rules, .int m_begun, .int m_asked, .int m_asksOf, .int m_asksLeft, .int m_asksRight, .int m_hadPredicates, .ref (ad i_calls), .ref (ad i_row), .int m_inRow, .ref (ad i_patterns), .int m_rewritten, .ref (ad i_values), .ref (ad i_by), .ref (ad i_choice), .int m_rule, .int m_atoms, .int m_depth]))) (k_model : ∀ (m_values : Nat → Int32) (m_by : Nat → Int32) (m_choice : Nat → Int32) (m_atoms : Int32) (m_depth : Int32), (CE m_values m_by m_choice m_atoms m_depth) i_model = some (.inl (cZ, 1000, .inl m_model))) (k_ofAtom : ∀ (m_values : Nat → Int32) (m_by : Nat → Int32) (m_choice : Nat → Int32) (m_atoms : Int32) (m_depth : Int32), (CE m_values m_by m_choice m_atoms m_depth) i_ofAtom = some (.inl (cI, 124, .inl m_ofAtom))) (k_left : ∀ (m_values : Nat → Int32) (m_by : Nat → Int32) (m_choice : Nat → Int32) (m_atoms : Int32) (m_depth : Int32), (CE m_values m_by m_choice m_atoms m_depth) i_left = some (.inl (cI, 124, .inl m_left))) (k_right : ∀ (m_values : Nat → Int32) (m_by : Nat → Int32) (m_choice : Nat → Int32) (m_atoms : Int32) (m_depth : Int32), (CE m_values m_by m_choice m_atoms m_depth) i_right = some (.inl (cI, 124, .inl m_right))) (k_values : ∀ (m_values : Nat → Int32) (m_by : Nat → Int32) (m_choice : Nat → Int32) (m_atoms : Int32) (m_depth : Int32), (CE m_values m_by m_choice m_atoms m_depth) i_values = some (.inl (cI, 8, .inl m_values))) (k_by : ∀ (m_values : Nat → Int32) (m_by : Nat → Int32) (m_choice : Nat → Int32) (m_atoms : Int32) (m_depth : Int32), (CE m_values m_by m_choice m_atoms m_depth) i_by = some (.inl (cI, 8, .inl m_by))) (k_choice : ∀ (m_values : Nat → Int32) (m_by : Nat → Int32) (m_choice : Nat → Int32) (m_atoms : Int32) (m_depth : Int32), (CE m_values m_by m_choice m_atoms m_depth) i_choice = some (.inl (cI, 4, .inl m_choice))) (u_M : ∀ (m_values : Nat → Int32) (m_by : Nat → Int32) (m_choice : Nat → Int32) (m_atoms : Int32) (m_depth : Int32) (m_atoms' : Int32) (m_depth' : Int32), va_up (CE m_values m_by m_choice m_atoms m_depth) iM (some (.inr (4, [.int m_thrown, .ref (ad i_places), .ref (ad i_ruled), .int m_predicates, .ref (ad i_told), .ref (ad i_model), .ref (ad i_ofAtom), .ref (ad i_left), .ref (ad i_right), .ref (ad i_size), .int m_rules, .int m_begun, .int m_asked, .int m_asksOf, .int m_asksLeft, .int m_asksRight, .int m_hadPredicates, .ref (ad i_calls), .ref (ad i_row), .int m_inRow, .ref (ad i_patterns), .int m_rewritten, .ref (ad i_values), .ref (ad i_by), .ref (ad i_choice), .int m_rule, .int m_atoms', .int m_depth']))) = (CE m_values m_by m_choice m_atoms' m_depth')) (u_values : ∀ (m_values : Nat → Int32) (m_by : Nat → Int32) (m_choice : Nat → Int32) (m_atoms : Int32) (m_depth : Int32) (m_values' : Nat → Int32), va_up (CE m_values m_by m_choice m_atoms m_depth) i_values (some (.inl (cI, 8, .inl m_values'))) = (CE m_values' m_by m_choice m_atoms m_depth)) (u_by : ∀ (m_values : Nat → Int32) (m_by : Nat → Int32) (m_choice : Nat → Int32) (m_atoms : Int32) (m_depth : Int32) (m_by' : Nat → Int32), va_up (CE m_values m_by m_choice m_atoms m_depth) i_by (some (.inl (cI, 8, .inl m_by'))) = (CE m_values m_by' m_choice m_atoms m_depth)) (u_choice : ∀ (m_values : Nat → Int32) (m_by : Nat → Int32) (m_choice : Nat → Int32) (m_atoms : Int32) (m_depth : Int32) (m_choice' : Nat → Int32), va_up (CE m_values m_by m_choice m_atoms m_depth) i_choice (some (.inl (cI, 4, .inl m_choice'))) = (CE m_values m_by m_choice' m_atoms m_depth)) {post : Int32 → (Nat → Int32) → (Nat → Int32) → (Nat → Int32) → Int32 → Int32 → Prop} {m_values : Nat → Int32} {m_by : Nat → Int32} {m_choice : Nat → Int32} {m_atoms : Int32} {m_depth : Int32} (h : wp_Mo_goes post m_model m_ofAtom m_left m_right m_rule m_values m_by m_choice m_atoms m_depth) : ∀ sz, Met l y_Mo_goes (Cond.code y_Mo_goes b_Mo_goes 1 (some .boolean) :: xg) rm_Mo_goes (xm_Pc D xcl (xT cI cZ cJ cO) ad (CE m_values m_by m_choice m_atoms m_depth) sz [.ref (ad iM)]) (va_Qi (fun (r : Int32) (u : (Nat → Int32) × (Nat → Int32) × (Nat → Int32) × Int32 × Int32) => post r u.1 u.2.1 u.2.2.1 u.2.2.2.1 u.2.2.2.2) (xm_B D xcl (xT cI cZ cJ cO) (xm_A ad (CE m_values m_by m_choice m_atoms m_depth) sz) (fun _ => ad) (fun u : (Nat → Int32) × (Nat → Int32) × (Nat → Int32) × Int32 × Int32 => CE u.1 u.2.1 u.2.2.1 u.2.2.2.1 u.2.2.2.2)) (xm_A ad (CE m_values m_by m_choice m_atoms m_depth) sz)) 0 0 (xm_A ad (CE m_values m_by m_choice m_atoms m_depth) sz) := by
  refine xm_ofW (cc := b_Mo_goes) (maxL := 1) (ret := (some .boolean)) (by decide) rfl (Nat.le_of_ble_eq_true rfl) ?_
  intro p e s m args below meth c ls QQ hQQ hx hb hml hr hown hlk hnm hts hl hw
  have hl : lv_has ls 1 [(0, .ref (ad iM))] := hl
  unfold wp_Mo_goes at h
  refine lv_aload_n hx hb d_Mo_goes_0 rfl (lv_at hl 0 rfl) ?_
  refine xm_get (D := D) (v := .int m_depth) (C := R_Mo) (T := F_Mo) (N := 28) hx hb hts (fun w h => List.mem_cons_of_mem _ (i_Mo w h)) hown hw (k_M m_values m_by m_choice m_atoms m_depth) rfl 27 (by decide) (hts _ (List.mem_cons_of_mem _ xw_589)) (fun _ h9 => h9) rfl d_Mo_goes_1 ?_
  refine lv_aload_n hx hb d_Mo_goes_4 rfl (lv_at hl 0 rfl) ?_
  refine xm_get (D := D) (v := .int m_atoms) (C := R_Mo) (T := F_Mo) (N := 28) hx hb hts (fun w h => List.mem_cons_of_mem _ (i_Mo w h)) hown hw (k_M m_values m_by m_choice m_atoms m_depth) rfl 26 (by decide) (hts _ (List.mem_cons_of_mem _ xw_588)) (fun _ h9 => h9) rfl d_Mo_goes_5 ?_
  refine lv_icmp_ne (tgt := 38) hx hb d_Mo_goes_8 (by decide) (fun hc => ?_) (fun hc => ?_)
  · have h := h.1 hc
    refine xL_use h (fun (v_1 : (Nat → Int32) × (Nat → Int32) × (Nat → Int32) × Int32 × Int32) => ∀ (H : Heap) (locs : List Loc) (ls : Array Slot), xm_W D xcl (xT cI cZ cJ cO) (xm_A ad (CE m_values m_by m_choice m_atoms m_depth) s.heap.size) ad (CE v_1.1 v_1.2.1 v_1.2.2.1 v_1.2.2.2.1 v_1.2.2.2.2) s s.heap H locs → lv_has ls 1 [(0, .ref (ad iM))] → W p l e rm_Mo_goes s m args below meth c H locs 0 0 QQ (F0 m 38 ls [])) (fun K_2 hK_2 v_1 h H locs ls hw hl => ?_) _ _ _ hw (lv_sub hl [0] rfl)
    refine lv_aload_n hx hb d_Mo_goes_38 rfl (lv_at hl 0 rfl) ?_
    refine xm_get (D := D) (v := .int v_1.2.2.2.2) (C := R_Mo) (T := F_Mo) (N := 28) hx hb hts (fun w h => List.mem_cons_of_mem _ (i_Mo w h)) hown hw (k_M v_1.1 v_1.2.1 v_1.2.2.1 v_1.2.2.2.1 v_1.2.2.2.2) rfl 27 (by decide) (hts _ (List.mem_cons_of_mem _ xw_589)) (fun _ h9 => h9) rfl d_Mo_goes_39 ?_
    refine lv_aload_n hx hb d_Mo_goes_42 rfl (lv_at hl 0 rfl) ?_
    refine xm_get (D := D) (v := .int v_1.2.2.2.1) (C := R_Mo) (T := F_Mo) (N := 28) hx hb hts (fun w h => List.mem_cons_of_mem _ (i_Mo w h)) hown hw (k_M v_1.1 v_1.2.1 v_1.2.2.1 v_1.2.2.2.1 v_1.2.2.2.2) rfl 26 (by decide) (hts _ (List.mem_cons_of_mem _ xw_588)) (fun _ h9 => h9) rfl d_Mo_goes_43 ?_
    refine lv_icmp_ge (tgt := 119) hx hb d_Mo_goes_46 (by decide) (fun hc => ?_) (fun hc => ?_)
    · have h := h.1 hc
      refine lv_iconst (v := 1) hx hb d_Mo_goes_119 (by decide) ?_
      subst hQQ
      exact xm_zret hx hb hr hlk rfl hw (v_1.1, v_1.2.1, v_1.2.2.1, v_1.2.2.2.1, v_1.2.2.2.2) rfl rfl h d_Mo_goes_120
    · have h := h.2 hc
      refine lv_aload_n hx hb d_Mo_goes_49 rfl (lv_at hl 0 rfl) ?_
      refine xm_calli (ua := fun _ => ad) (va_runV (As := []) (rest := []) ⟨hx, hb, hml, hown, hts⟩ (c_Mo_finds (D := D) (ad := ad) (CE := (fun m_values m_by m_choice => (CE m_values m_by m_choice v_1.2.2.2.1 v_1.2.2.2.2)))  (fun m_values m_by m_choice => k_M m_values m_by m_choice v_1.2.2.2.1 v_1.2.2.2.2) (fun m_values m_by m_choice => k_model m_values m_by m_choice v_1.2.2.2.1 v_1.2.2.2.2) (fun m_values m_by m_choice => k_ofAtom m_values m_by m_choice v_1.2.2.2.1 v_1.2.2.2.2) (fun m_values m_by m_choice => k_left m_values m_by m_choice v_1.2.2.2.1 v_1.2.2.2.2) (fun m_values m_by m_choice => k_right m_values m_by m_choice v_1.2.2.2.1 v_1.2.2.2.2) (fun m_values m_by m_choice => k_values m_values m_by m_choice v_1.2.2.2.1 v_1.2.2.2.2) (fun m_values m_by m_choice => k_by m_values m_by m_choice v_1.2.2.2.1 v_1.2.2.2.2) (fun m_values m_by m_choice => k_choice m_values m_by m_choice v_1.2.2.2.1 v_1.2.2.2.2) (fun m_values m_by m_choice m_values' => u_values m_values m_by m_choice v_1.2.2.2.1 v_1.2.2.2.2 m_values') (fun m_values m_by m_choice m_by' => u_by m_values m_by m_choice v_1.2.2.2.1 v_1.2.2.2.2 m_by') (fun m_values m_by m_choice m_choice' => u_choice m_values m_by m_choice v_1.2.2.2.1 v_1.2.2.2.2 m_choice') h _) (xg_cwV 0 hts xw_732 xw_729 xw_731 xw_p33 xw_8 rfl rfl (by decide +kernel) ⟨Nat.le_of_ble_eq_true rfl, Nat.le_of_ble_eq_true rfl⟩) (xm_preV hw (k_M v_1.1 v_1.2.1 v_1.2.2.1 v_1.2.2.2.1 v_1.2.2.2.2) rfl _) rfl rfl hl.1 rfl (lv_room (Nat.le_of_ble_eq_true rfl)) d_Mo_goes_50 ⟨Nat.le_of_ble_eq_true rfl, Nat.le_of_ble_eq_true rfl⟩) hw (fun r_3 u_4 H locs h hw => ?_)
      obtain ⟨m_values_5, em_values_5⟩ : ∃ z, z = u_4.1 := ⟨_, rfl⟩
      obtain ⟨m_by_6, em_by_6⟩ : ∃ z, z = u_4.2.1 := ⟨_, rfl⟩
      obtain ⟨m_choice_7, em_choice_7⟩ : ∃ z, z = u_4.2.2 := ⟨_, rfl⟩
      try dsimp only at h hw
      rw [← em_values_5, ← em_by_6, ← em_choice_7] at h hw
      refine lv_if_eq (tgt := 79) hx hb d_Mo_goes_53 (by decide) (fun hc => ?_) (fun hc => ?_)
      · have h := h.1 hc
        refine lv_aload_n hx hb d_Mo_goes_79 rfl (lv_at hl 0 rfl) ?_
        refine lv_dup hx hb d_Mo_goes_80 rfl ?_
        refine xm_get (D := D) (v := .int v_1.2.2.2.2) (C := R_Mo) (T := F_Mo) (N := 28) hx hb hts (fun w h => List.mem_cons_of_mem _ (i_Mo w h)) hown hw (k_M m_values_5 m_by_6 m_choice_7 v_1.2.2.2.1 v_1.2.2.2.2) rfl 27 (by decide) (hts _ (List.mem_cons_of_mem _ xw_589)) (fun _ h9 => h9) rfl d_Mo_goes_81 ?_
        refine lv_iconst (v := 1) hx hb d_Mo_goes_84 (by decide) ?_
        refine lv_isub hx hb d_Mo_goes_85 ?_
        refine xm_put (D := D) (v := .int (v_1.2.2.2.2 - 1)) (ty := .int) (C := R_Mo) (T := F_Mo) (N := 28) hx hb hts (fun w h => List.mem_cons_of_mem _ (i_Mo w h)) t_Mo o_Mo n_Mo hown hw (k_M m_values_5 m_by_6 m_choice_7 v_1.2.2.2.1 v_1.2.2.2.2) rfl 27 (by decide) (hts _ (List.mem_cons_of_mem _ xw_589)) (fun _ h9 => h9) rfl (by decide +kernel) rfl rfl (Nat.le_of_ble_eq_true rfl) d_Mo_goes_86 (fun H locs hw => ?_)
        have hw : xm_W D xcl (xT cI cZ cJ cO) (xm_A ad (CE m_values m_by m_choice m_atoms m_depth) s.heap.size) ad (CE m_values_5 m_by_6 m_choice_7 v_1.2.2.2.1 (v_1.2.2.2.2 - 1)) s s.heap H locs := xm_W.cast (u_M m_values_5 m_by_6 m_choice_7 v_1.2.2.2.1 v_1.2.2.2.2 v_1.2.2.2.1 (v_1.2.2.2.2 - 1)) hw
        refine lv_aload_n hx hb d_Mo_goes_89 rfl (lv_at hl 0 rfl) ?_
        refine xm_get (D := D) (v := .int (v_1.2.2.2.2 - 1)) (C := R_Mo) (T := F_Mo) (N := 28) hx hb hts (fun w h => List.mem_cons_of_mem _ (i_Mo w h)) hown hw (k_M m_values_5 m_by_6 m_choice_7 v_1.2.2.2.1 (v_1.2.2.2.2 - 1)) rfl 27 (by decide) (hts _ (List.mem_cons_of_mem _ xw_589)) (fun _ h9 => h9) rfl d_Mo_goes_90 ?_
        refine lv_if_ge (tgt := 108) hx hb d_Mo_goes_93 (by decide) (fun hc => ?_) (fun hc => ?_)
        · have h := h.1 hc
          refine lv_aload_n hx hb d_Mo_goes_108 rfl (lv_at hl 0 rfl) ?_
          refine lv_aload_n hx hb d_Mo_goes_109 rfl (lv_at hl 0 rfl) ?_
          refine xm_get (D := D) (v := .int (v_1.2.2.2.2 - 1)) (C := R_Mo) (T := F_Mo) (N := 28) hx hb hts (fun w h => List.mem_cons_of_mem _ (i_Mo w h)) hown hw (k_M m_values_5 m_by_6 m_choice_7 v_1.2.2.2.1 (v_1.2.2.2.2 - 1)) rfl 27 (by decide) (hts _ (List.mem_cons_of_mem _ xw_589)) (fun _ h9 => h9) rfl d_Mo_goes_110 ?_
          refine xm_callv (ua := fun _ => ad) (va_runV (As := [.int (v_1.2.2.2.2 - 1)]) (rest := []) ⟨hx, hb, hml, hown, hts⟩ (c_Mo_frees (D := D) (ad := ad) (CE := (fun m_values m_by => (CE m_values m_by m_choice_7 v_1.2.2.2.1 (v_1.2.2.2.2 - 1))))  (fun m_values m_by => k_M m_values m_by m_choice_7 v_1.2.2.2.1 (v_1.2.2.2.2 - 1)) (fun m_values m_by => k_values m_values m_by m_choice_7 v_1.2.2.2.1 (v_1.2.2.2.2 - 1)) (fun m_values m_by => k_by m_values m_by m_choice_7 v_1.2.2.2.1 (v_1.2.2.2.2 - 1)) (fun m_values m_by m_values' => u_values m_values m_by m_choice_7 v_1.2.2.2.1 (v_1.2.2.2.2 - 1) m_values') (fun m_values m_by m_by' => u_by m_values m_by m_choice_7 v_1.2.2.2.1 (v_1.2.2.2.2 - 1) m_by') h _) (xg_cwV 1 hts xw_728 xw_725 xw_727 xw_p32 xw_8 rfl rfl (by decide +kernel) ⟨Nat.le_of_ble_eq_true rfl, Nat.le_of_ble_eq_true rfl⟩) (xm_preV hw (k_M m_values_5 m_by_6 m_choice_7 v_1.2.2.2.1 (v_1.2.2.2.2 - 1)) rfl _) rfl rfl hl.1 rfl (lv_room (Nat.le_of_ble_eq_true rfl)) d_Mo_goes_113 ⟨Nat.le_of_ble_eq_true rfl, Nat.le_of_ble_eq_true rfl⟩) hw (fun u_9 H locs h hw => ?_)
          obtain ⟨m_values_10, em_values_10⟩ : ∃ z, z = u_9.1 := ⟨_, rfl⟩
          obtain ⟨m_by_11, em_by_11⟩ : ∃ z, z = u_9.2 := ⟨_, rfl⟩
          try dsimp only at h hw
          rw [← em_values_10, ← em_by_11] at h hw
          refine lv_goto (tgt := 38) hx hb d_Mo_goes_116 (by decide) ?_
          exact hK_2 (m_values_10, m_by_11, m_choice_7, v_1.2.2.2.1, v_1.2.2.2.2 - 1) h _ _ _ hw (lv_sub hl [0] rfl)
        · have h := h.2 hc
          refine lv_aload_n hx hb d_Mo_goes_96 rfl (lv_at hl 0 rfl) ?_
          refine lv_iconst (v := 0) hx hb d_Mo_goes_97 (by decide) ?_
          refine xm_put (D := D) (v := .int 0) (ty := .int) (C := R_Mo) (T := F_Mo) (N := 28) hx hb hts (fun w h => List.mem_cons_of_mem _ (i_Mo w h)) t_Mo o_Mo n_Mo hown hw (k_M m_values_5 m_by_6 m_choice_7 v_1.2.2.2.1 (v_1.2.2.2.2 - 1)) rfl 27 (by decide) (hts _ (List.mem_cons_of_mem _ xw_589)) (fun _ h9 => h9) rfl (by decide +kernel) rfl rfl (Nat.le_of_ble_eq_true rfl) d_Mo_goes_98 (fun H locs hw => ?_)
          have hw : xm_W D xcl (xT cI cZ cJ cO) (xm_A ad (CE m_values m_by m_choice m_atoms m_depth) s.heap.size) ad (CE m_values_5 m_by_6 m_choice_7 v_1.2.2.2.1 0) s s.heap H locs := xm_W.cast (u_M m_values_5 m_by_6 m_choice_7 v_1.2.2.2.1 (v_1.2.2.2.2 - 1) v_1.2.2.2.1 0) hw
          refine lv_aload_n hx hb d_Mo_goes_101 rfl (lv_at hl 0 rfl) ?_
          refine lv_iconst (v := 0) hx hb d_Mo_goes_102 (by decide) ?_
          refine xm_put (D := D) (v := .int 0) (ty := .int) (C := R_Mo) (T := F_Mo) (N := 28) hx hb hts (fun w h => List.mem_cons_of_mem _ (i_Mo w h)) t_Mo o_Mo n_Mo hown hw (k_M m_values_5 m_by_6 m_choice_7 v_1.2.2.2.1 0) rfl 26 (by decide) (hts _ (List.mem_cons_of_mem _ xw_588)) (fun _ h9 => h9) rfl (by decide +kernel) rfl rfl (Nat.le_of_ble_eq_true rfl) d_Mo_goes_103 (fun H locs hw => ?_)
          have hw : xm_W D xcl (xT cI cZ cJ cO) (xm_A ad (CE m_values m_by m_choice m_atoms m_depth) s.heap.size) ad (CE m_values_5 m_by_6 m_choice_7 0 0) s s.heap H locs := xm_W.cast (u_M m_values_5 m_by_6 m_choice_7 v_1.2.2.2.1 0 0 0) hw
          refine lv_iconst (v := 0) hx hb d_Mo_goes_106 (by decide) ?_
          subst hQQ
          exact xm_zret hx hb hr hlk rfl hw (m_values_5, m_by_6, m_choice_7, 0, 0) rfl rfl h d_Mo_goes_107
      · have h := h.2 hc
        refine lv_aload_n hx hb d_Mo_goes_56 rfl (lv_at hl 0 rfl) ?_
        refine lv_dup hx hb d_Mo_goes_57 rfl ?_
        refine xm_get (D := D) (v := .int v_1.2.2.2.2) (C := R_Mo) (T := F_Mo) (N := 28) hx hb hts (fun w h => List.mem_cons_of_mem _ (i_Mo w h)) hown hw (k_M m_values_5 m_by_6 m_choice_7 v_1.2.2.2.1 v_1.2.2.2.2) rfl 27 (by decide) (hts _ (List.mem_cons_of_mem _ xw_589)) (fun _ h9 => h9) rfl d_Mo_goes_58 ?_
        refine lv_iconst (v := 1) hx hb d_Mo_goes_61 (by decide) ?_
        refine lv_iadd hx hb d_Mo_goes_62 ?_
        refine xm_put (D := D) (v := .int (v_1.2.2.2.2 + 1)) (ty := .int) (C := R_Mo) (T := F_Mo) (N := 28) hx hb hts (fun w h => List.mem_cons_of_mem _ (i_Mo w h)) t_Mo o_Mo n_Mo hown hw (k_M m_values_5 m_by_6 m_choice_7 v_1.2.2.2.1 v_1.2.2.2.2) rfl 27 (by decide) (hts _ (List.mem_cons_of_mem _ xw_589)) (fun _ h9 => h9) rfl (by decide +kernel) rfl rfl (Nat.le_of_ble_eq_true rfl) d_Mo_goes_63 (fun H locs hw => ?_)
        have hw : xm_W D xcl (xT cI cZ cJ cO) (xm_A ad (CE m_values m_by m_choice m_atoms m_depth) s.heap.size) ad (CE m_values_5 m_by_6 m_choice_7 v_1.2.2.2.1 (v_1.2.2.2.2 + 1)) s s.heap H locs := xm_W.cast (u_M m_values_5 m_by_6 m_choice_7 v_1.2.2.2.1 v_1.2.2.2.2 v_1.2.2.2.1 (v_1.2.2.2.2 + 1)) hw
        refine lv_aload_n hx hb d_Mo_goes_66 rfl (lv_at hl 0 rfl) ?_
        refine xm_get (D := D) (v := .ref (ad i_choice)) (C := R_Mo) (T := F_Mo) (N := 28) hx hb hts (fun w h => List.mem_cons_of_mem _ (i_Mo w h)) hown hw (k_M m_values_5 m_by_6 m_choice_7 v_1.2.2.2.1 (v_1.2.2.2.2 + 1)) rfl 24 (by decide) (hts _ (List.mem_cons_of_mem _ xw_586)) (fun _ h9 => h9) rfl d_Mo_goes_67 ?_
        refine lv_aload_n hx hb d_Mo_goes_70 rfl (lv_at hl 0 rfl) ?_
        refine xm_get (D := D) (v := .int (v_1.2.2.2.2 + 1)) (C := R_Mo) (T := F_Mo) (N := 28) hx hb hts (fun w h => List.mem_cons_of_mem _ (i_Mo w h)) hown hw (k_M m_values_5 m_by_6 m_choice_7 v_1.2.2.2.1 (v_1.2.2.2.2 + 1)) rfl 27 (by decide) (hts _ (List.mem_cons_of_mem _ xw_589)) (fun _ h9 => h9) rfl d_Mo_goes_71 ?_
        refine lv_iconst (v := (-1)) hx hb d_Mo_goes_74 (by decide) ?_
        obtain ⟨hin, h⟩ := h
        refine xm_iast hx hb hw 0 (k_choice m_values_5 m_by_6 m_choice_7 v_1.2.2.2.1 (v_1.2.2.2.2 + 1)) rfl hin d_Mo_goes_75 (fun H locs hw => ?_)
        have hw : xm_W D xcl (xT cI cZ cJ cO) (xm_A ad (CE m_values m_by m_choice m_atoms m_depth) s.heap.size) ad (CE m_values_5 m_by_6 (upd m_choice_7 (Int32.toNatClampNeg (v_1.2.2.2.2 + 1)) (-1)) v_1.2.2.2.1 (v_1.2.2.2.2 + 1)) s s.heap H locs := xm_W.cast (u_choice m_values_5 m_by_6 m_choice_7 v_1.2.2.2.1 (v_1.2.2.2.2 + 1) (upd m_choice_7 (Int32.toNatClampNeg (v_1.2.2.2.2 + 1)) (-1))) hw
        obtain ⟨m_choice_12, em_choice_12⟩ : ∃ z : Nat → Int32, z = upd m_choice_7 (Int32.toNatClampNeg (v_1.2.2.2.2 + 1)) (-1) := ⟨_, rfl⟩
        have h := h m_choice_12 em_choice_12
        rw [← em_choice_12] at hw
        refine lv_goto (tgt := 38) hx hb d_Mo_goes_76 (by decide) ?_
        exact hK_2 (m_values_5, m_by_6, m_choice_12, v_1.2.2.2.1, v_1.2.2.2.2 + 1) h _ _ _ hw (lv_sub hl [0] rfl)
  · have h := h.2 hc
    refine lv_aload_n hx hb d_Mo_goes_11 rfl (lv_at hl 0 rfl) ?_
    refine lv_dup hx hb d_Mo_goes_12 rfl ?_
    refine xm_get (D := D) (v := .int m_depth) (C := R_Mo) (T := F_Mo) (N := 28) hx hb hts (fun w h => List.mem_cons_of_mem _ (i_Mo w h)) hown hw (k_M m_values m_by m_choice m_atoms m_depth) rfl 27 (by decide) (hts _ (List.mem_cons_of_mem _ xw_589)) (fun _ h9 => h9) rfl d_Mo_goes_13 ?_
    refine lv_iconst (v := 1) hx hb d_Mo_goes_16 (by decide) ?_
    refine lv_isub hx hb d_Mo_goes_17 ?_
    refine xm_put (D := D) (v := .int (m_depth - 1)) (ty := .int) (C := R_Mo) (T := F_Mo) (N := 28) hx hb hts (fun w h => List.mem_cons_of_mem _ (i_Mo w h)) t_Mo o_Mo n_Mo hown hw (k_M m_values m_by m_choice m_atoms m_depth) rfl 27 (by decide) (hts _ (List.mem_cons_of_mem _ xw_589)) (fun _ h9 => h9) rfl (by decide +kernel) rfl rfl (Nat.le_of_ble_eq_true rfl) d_Mo_goes_18 (fun H locs hw => ?_)
    have hw : xm_W D xcl (xT cI cZ cJ cO) (xm_A ad (CE m_values m_by m_choice m_atoms m_depth) s.heap.size) ad (CE m_values m_by m_choice m_atoms (m_depth - 1)) s s.heap H locs := xm_W.cast (u_M m_values m_by m_choice m_atoms m_depth m_atoms (m_depth - 1)) hw
    refine lv_aload_n hx hb d_Mo_goes_21 rfl (lv_at hl 0 rfl) ?_
    refine xm_get (D := D) (v := .int (m_depth - 1)) (C := R_Mo) (T := F_Mo) (N := 28) hx hb hts (fun w h => List.mem_cons_of_mem _ (i_Mo w h)) hown hw (k_M m_values m_by m_choice m_atoms (m_depth - 1)) rfl 27 (by decide) (hts _ (List.mem_cons_of_mem _ xw_589)) (fun _ h9 => h9) rfl d_Mo_goes_22 ?_
    refine lv_if_ge (tgt := 30) hx hb d_Mo_goes_25 (by decide) (fun hc => ?_) (fun hc => ?_)
    · have h := h.1 hc
      refine lv_aload_n hx hb d_Mo_goes_30 rfl (lv_at hl 0 rfl) ?_
      refine lv_aload_n hx hb d_Mo_goes_31 rfl (lv_at hl 0 rfl) ?_
      refine xm_get (D := D) (v := .int (m_depth - 1)) (C := R_Mo) (T := F_Mo) (N := 28) hx hb hts (fun w h => List.mem_cons_of_mem _ (i_Mo w h)) hown hw (k_M m_values m_by m_choice m_atoms (m_depth - 1)) rfl 27 (by decide) (hts _ (List.mem_cons_of_mem _ xw_589)) (fun _ h9 => h9) rfl d_Mo_goes_32 ?_
      refine xm_callv (ua := fun _ => ad) (va_runV (As := [.int (m_depth - 1)]) (rest := []) ⟨hx, hb, hml, hown, hts⟩ (c_Mo_frees (D := D) (ad := ad) (CE := (fun m_values m_by => (CE m_values m_by m_choice m_atoms (m_depth - 1))))  (fun m_values m_by => k_M m_values m_by m_choice m_atoms (m_depth - 1)) (fun m_values m_by => k_values m_values m_by m_choice m_atoms (m_depth - 1)) (fun m_values m_by => k_by m_values m_by m_choice m_atoms (m_depth - 1)) (fun m_values m_by m_values' => u_values m_values m_by m_choice m_atoms (m_depth - 1) m_values') (fun m_values m_by m_by' => u_by m_values m_by m_choice m_atoms (m_depth - 1) m_by') h _) (xg_cwV 1 hts xw_728 xw_725 xw_727 xw_p32 xw_8 rfl rfl (by decide +kernel) ⟨Nat.le_of_ble_eq_true rfl, Nat.le_of_ble_eq_true rfl⟩) (xm_preV hw (k_M m_values m_by m_choice m_atoms (m_depth - 1)) rfl _) rfl rfl hl.1 rfl (lv_room (Nat.le_of_ble_eq_true rfl)) d_Mo_goes_35 ⟨Nat.le_of_ble_eq_true rfl, Nat.le_of_ble_eq_true rfl⟩) hw (fun u_14 H locs h hw => ?_)
      obtain ⟨m_values_15, em_values_15⟩ : ∃ z, z = u_14.1 := ⟨_, rfl⟩
      obtain ⟨m_by_16, em_by_16⟩ : ∃ z, z = u_14.2 := ⟨_, rfl⟩
      try dsimp only at h hw
      rw [← em_values_15, ← em_by_16] at h hw
      refine xL_use h (fun (v_17 : (Nat → Int32) × (Nat → Int32) × (Nat → Int32) × Int32 × Int32) => ∀ (H : Heap) (locs : List Loc) (ls : Array Slot), xm_W D xcl (xT cI cZ cJ cO) (xm_A ad (CE m_values m_by m_choice m_atoms m_depth) s.heap.size) ad (CE v_17.1 v_17.2.1 v_17.2.2.1 v_17.2.2.2.1 v_17.2.2.2.2) s s.heap H locs → lv_has ls 1 [(0, .ref (ad iM))] → W p l e rm_Mo_goes s m args below meth c H locs 0 0 QQ (F0 m 38 ls [])) (fun K_18 hK_18 v_17 h H locs ls hw hl => ?_) _ _ _ hw (lv_sub hl [0] rfl)
      refine lv_aload_n hx hb d_Mo_goes_38 rfl (lv_at hl 0 rfl) ?_
      refine xm_get (D := D) (v := .int v_17.2.2.2.2) (C := R_Mo) (T := F_Mo) (N := 28) hx hb hts (fun w h => List.mem_cons_of_mem _ (i_Mo w h)) hown hw (k_M v_17.1 v_17.2.1 v_17.2.2.1 v_17.2.2.2.1 v_17.2.2.2.2) rfl 27 (by decide) (hts _ (List.mem_cons_of_mem _ xw_589)) (fun _ h9 => h9) rfl d_Mo_goes_39 ?_
      refine lv_aload_n hx hb d_Mo_goes_42 rfl (lv_at hl 0 rfl) ?_
      refine xm_get (D := D) (v := .int v_17.2.2.2.1) (C := R_Mo) (T := F_Mo) (N := 28) hx hb hts (fun w h => List.mem_cons_of_mem _ (i_Mo w h)) hown hw (k_M v_17.1 v_17.2.1 v_17.2.2.1 v_17.2.2.2.1 v_17.2.2.2.2) rfl 26 (by decide) (hts _ (List.mem_cons_of_mem _ xw_588)) (fun _ h9 => h9) rfl d_Mo_goes_43 ?_
      refine lv_icmp_ge (tgt := 119) hx hb d_Mo_goes_46 (by decide) (fun hc => ?_) (fun hc => ?_)
      · have h := h.1 hc
        refine lv_iconst (v := 1) hx hb d_Mo_goes_119 (by decide) ?_
        subst hQQ
        exact xm_zret hx hb hr hlk rfl hw (v_17.1, v_17.2.1, v_17.2.2.1, v_17.2.2.2.1, v_17.2.2.2.2) rfl rfl h d_Mo_goes_120
      · have h := h.2 hc
        refine lv_aload_n hx hb d_Mo_goes_49 rfl (lv_at hl 0 rfl) ?_
        refine xm_calli (ua := fun _ => ad) (va_runV (As := []) (rest := []) ⟨hx, hb, hml, hown, hts⟩ (c_Mo_finds (D := D) (ad := ad) (CE := (fun m_values m_by m_choice => (CE m_values m_by m_choice v_17.2.2.2.1 v_17.2.2.2.2)))  (fun m_values m_by m_choice => k_M m_values m_by m_choice v_17.2.2.2.1 v_17.2.2.2.2) (fun m_values m_by m_choice => k_model m_values m_by m_choice v_17.2.2.2.1 v_17.2.2.2.2) (fun m_values m_by m_choice => k_ofAtom m_values m_by m_choice v_17.2.2.2.1 v_17.2.2.2.2) (fun m_values m_by m_choice => k_left m_values m_by m_choice v_17.2.2.2.1 v_17.2.2.2.2) (fun m_values m_by m_choice => k_right m_values m_by m_choice v_17.2.2.2.1 v_17.2.2.2.2) (fun m_values m_by m_choice => k_values m_values m_by m_choice v_17.2.2.2.1 v_17.2.2.2.2) (fun m_values m_by m_choice => k_by m_values m_by m_choice v_17.2.2.2.1 v_17.2.2.2.2) (fun m_values m_by m_choice => k_choice m_values m_by m_choice v_17.2.2.2.1 v_17.2.2.2.2) (fun m_values m_by m_choice m_values' => u_values m_values m_by m_choice v_17.2.2.2.1 v_17.2.2.2.2 m_values') (fun m_values m_by m_choice m_by' => u_by m_values m_by m_choice v_17.2.2.2.1 v_17.2.2.2.2 m_by') (fun m_values m_by m_choice m_choice' => u_choice m_values m_by m_choice v_17.2.2.2.1 v_17.2.2.2.2 m_choice') h _) (xg_cwV 0 hts xw_732 xw_729 xw_731 xw_p33 xw_8 rfl rfl (by decide +kernel) ⟨Nat.le_of_ble_eq_true rfl, Nat.le_of_ble_eq_true rfl⟩) (xm_preV hw (k_M v_17.1 v_17.2.1 v_17.2.2.1 v_17.2.2.2.1 v_17.2.2.2.2) rfl _) rfl rfl hl.1 rfl (lv_room (Nat.le_of_ble_eq_true rfl)) d_Mo_goes_50 ⟨Nat.le_of_ble_eq_true rfl, Nat.le_of_ble_eq_true rfl⟩) hw (fun r_19 u_20 H locs h hw => ?_)
        obtain ⟨m_values_21, em_values_21⟩ : ∃ z, z = u_20.1 := ⟨_, rfl⟩
        obtain ⟨m_by_22, em_by_22⟩ : ∃ z, z = u_20.2.1 := ⟨_, rfl⟩
        obtain ⟨m_choice_23, em_choice_23⟩ : ∃ z, z = u_20.2.2 := ⟨_, rfl⟩
        try dsimp only at h hw
        rw [← em_values_21, ← em_by_22, ← em_choice_23] at h hw
        refine lv_if_eq (tgt := 79) hx hb d_Mo_goes_53 (by decide) (fun hc => ?_) (fun hc => ?_)
        · have h := h.1 hc
          refine lv_aload_n hx hb d_Mo_goes_79 rfl (lv_at hl 0 rfl) ?_
          refine lv_dup hx hb d_Mo_goes_80 rfl ?_
          refine xm_get (D := D) (v := .int v_17.2.2.2.2) (C := R_Mo) (T := F_Mo) (N := 28) hx hb hts (fun w h => List.mem_cons_of_mem _ (i_Mo w h)) hown hw (k_M m_values_21 m_by_22 m_choice_23 v_17.2.2.2.1 v_17.2.2.2.2) rfl 27 (by decide) (hts _ (List.mem_cons_of_mem _ xw_589)) (fun _ h9 => h9) rfl d_Mo_goes_81 ?_
          refine lv_iconst (v := 1) hx hb d_Mo_goes_84 (by decide) ?_
          refine lv_isub hx hb d_Mo_goes_85 ?_
          refine xm_put (D := D) (v := .int (v_17.2.2.2.2 - 1)) (ty := .int) (C := R_Mo) (T := F_Mo) (N := 28) hx hb hts (fun w h => List.mem_cons_of_mem _ (i_Mo w h)) t_Mo o_Mo n_Mo hown hw (k_M m_values_21 m_by_22 m_choice_23 v_17.2.2.2.1 v_17.2.2.2.2) rfl 27 (by decide) (hts _ (List.mem_cons_of_mem _ xw_589)) (fun _ h9 => h9) rfl (by decide +kernel) rfl rfl (Nat.le_of_ble_eq_true rfl) d_Mo_goes_86 (fun H locs hw => ?_)
          have hw : xm_W D xcl (xT cI cZ cJ cO) (xm_A ad (CE m_values m_by m_choice m_atoms m_depth) s.heap.size) ad (CE m_values_21 m_by_22 m_choice_23 v_17.2.2.2.1 (v_17.2.2.2.2 - 1)) s s.heap H locs := xm_W.cast (u_M m_values_21 m_by_22 m_choice_23 v_17.2.2.2.1 v_17.2.2.2.2 v_17.2.2.2.1 (v_17.2.2.2.2 - 1)) hw
          refine lv_aload_n hx hb d_Mo_goes_89 rfl (lv_at hl 0 rfl) ?_
          refine xm_get (D := D) (v := .int (v_17.2.2.2.2 - 1)) (C := R_Mo) (T := F_Mo) (N := 28) hx hb hts (fun w h => List.mem_cons_of_mem _ (i_Mo w h)) hown hw (k_M m_values_21 m_by_22 m_choice_23 v_17.2.2.2.1 (v_17.2.2.2.2 - 1)) rfl 27 (by decide) (hts _ (List.mem_cons_of_mem _ xw_589)) (fun _ h9 => h9) rfl d_Mo_goes_90 ?_
          refine lv_if_ge (tgt := 108) hx hb d_Mo_goes_93 (by decide) (fun hc => ?_) (fun hc => ?_)
          · have h := h.1 hc
            refine lv_aload_n hx hb d_Mo_goes_108 rfl (lv_at hl 0 rfl) ?_
            refine lv_aload_n hx hb d_Mo_goes_109 rfl (lv_at hl 0 rfl) ?_
            refine xm_get (D := D) (v := .int (v_17.2.2.2.2 - 1)) (C := R_Mo) (T := F_Mo) (N := 28) hx hb hts (fun w h => List.mem_cons_of_mem _ (i_Mo w h)) hown hw (k_M m_values_21 m_by_22 m_choice_23 v_17.2.2.2.1 (v_17.2.2.2.2 - 1)) rfl 27 (by decide) (hts _ (List.mem_cons_of_mem _ xw_589)) (fun _ h9 => h9) rfl d_Mo_goes_110 ?_
            refine xm_callv (ua := fun _ => ad) (va_runV (As := [.int (v_17.2.2.2.2 - 1)]) (rest := []) ⟨hx, hb, hml, hown, hts⟩ (c_Mo_frees (D := D) (ad := ad) (CE := (fun m_values m_by => (CE m_values m_by m_choice_23 v_17.2.2.2.1 (v_17.2.2.2.2 - 1))))  (fun m_values m_by => k_M m_values m_by m_choice_23 v_17.2.2.2.1 (v_17.2.2.2.2 - 1)) (fun m_values m_by => k_values m_values m_by m_choice_23 v_17.2.2.2.1 (v_17.2.2.2.2 - 1)) (fun m_values m_by => k_by m_values m_by m_choice_23 v_17.2.2.2.1 (v_17.2.2.2.2 - 1)) (fun m_values m_by m_values' => u_values m_values m_by m_choice_23 v_17.2.2.2.1 (v_17.2.2.2.2 - 1) m_values') (fun m_values m_by m_by' => u_by m_values m_by m_choice_23 v_17.2.2.2.1 (v_17.2.2.2.2 - 1) m_by') h _) (xg_cwV 1 hts xw_728 xw_725 xw_727 xw_p32 xw_8 rfl rfl (by decide +kernel) ⟨Nat.le_of_ble_eq_true rfl, Nat.le_of_ble_eq_true rfl⟩) (xm_preV hw (k_M m_values_21 m_by_22 m_choice_23 v_17.2.2.2.1 (v_17.2.2.2.2 - 1)) rfl _) rfl rfl hl.1 rfl (lv_room (Nat.le_of_ble_eq_true rfl)) d_Mo_goes_113 ⟨Nat.le_of_ble_eq_true rfl, Nat.le_of_ble_eq_true rfl⟩) hw (fun u_25 H locs h hw => ?_)
            obtain ⟨m_values_26, em_values_26⟩ : ∃ z, z = u_25.1 := ⟨_, rfl⟩
            obtain ⟨m_by_27, em_by_27⟩ : ∃ z, z = u_25.2 := ⟨_, rfl⟩
            try dsimp only at h hw
            rw [← em_values_26, ← em_by_27] at h hw
            refine lv_goto (tgt := 38) hx hb d_Mo_goes_116 (by decide) ?_
            exact hK_18 (m_values_26, m_by_27, m_choice_23, v_17.2.2.2.1, v_17.2.2.2.2 - 1) h _ _ _ hw (lv_sub hl [0] rfl)
          · have h := h.2 hc
            refine lv_aload_n hx hb d_Mo_goes_96 rfl (lv_at hl 0 rfl) ?_
            refine lv_iconst (v := 0) hx hb d_Mo_goes_97 (by decide) ?_
            refine xm_put (D := D) (v := .int 0) (ty := .int) (C := R_Mo) (T := F_Mo) (N := 28) hx hb hts (fun w h => List.mem_cons_of_mem _ (i_Mo w h)) t_Mo o_Mo n_Mo hown hw (k_M m_values_21 m_by_22 m_choice_23 v_17.2.2.2.1 (v_17.2.2.2.2 - 1)) rfl 27 (by decide) (hts _ (List.mem_cons_of_mem _ xw_589)) (fun _ h9 => h9) rfl (by decide +kernel) rfl rfl (Nat.le_of_ble_eq_true rfl) d_Mo_goes_98 (fun H locs hw => ?_)
            have hw : xm_W D xcl (xT cI cZ cJ cO) (xm_A ad (CE m_values m_by m_choice m_atoms m_depth) s.heap.size) ad (CE m_values_21 m_by_22 m_choice_23 v_17.2.2.2.1 0) s s.heap H locs := xm_W.cast (u_M m_values_21 m_by_22 m_choice_23 v_17.2.2.2.1 (v_17.2.2.2.2 - 1) v_17.2.2.2.1 0) hw
            refine lv_aload_n hx hb d_Mo_goes_101 rfl (lv_at hl 0 rfl) ?_
            refine lv_iconst (v := 0) hx hb d_Mo_goes_102 (by decide) ?_
            refine xm_put (D := D) (v := .int 0) (ty := .int) (C := R_Mo) (T := F_Mo) (N := 28) hx hb hts (fun w h => List.mem_cons_of_mem _ (i_Mo w h)) t_Mo o_Mo n_Mo hown hw (k_M m_values_21 m_by_22 m_choice_23 v_17.2.2.2.1 0) rfl 26 (by decide) (hts _ (List.mem_cons_of_mem _ xw_588)) (fun _ h9 => h9) rfl (by decide +kernel) rfl rfl (Nat.le_of_ble_eq_true rfl) d_Mo_goes_103 (fun H locs hw => ?_)
            have hw : xm_W D xcl (xT cI cZ cJ cO) (xm_A ad (CE m_values m_by m_choice m_atoms m_depth) s.heap.size) ad (CE m_values_21 m_by_22 m_choice_23 0 0) s s.heap H locs := xm_W.cast (u_M m_values_21 m_by_22 m_choice_23 v_17.2.2.2.1 0 0 0) hw
            refine lv_iconst (v := 0) hx hb d_Mo_goes_106 (by decide) ?_
            subst hQQ
            exact xm_zret hx hb hr hlk rfl hw (m_values_21, m_by_22, m_choice_23, 0, 0) rfl rfl h d_Mo_goes_107
        · have h := h.2 hc
          refine lv_aload_n hx hb d_Mo_goes_56 rfl (lv_at hl 0 rfl) ?_
          refine lv_dup hx hb d_Mo_goes_57 rfl ?_
          refine xm_get (D := D) (v := .int v_17.2.2.2.2) (C := R_Mo) (T := F_Mo) (N := 28) hx hb hts (fun w h => List.mem_cons_of_mem _ (i_Mo w h)) hown hw (k_M m_values_21 m_by_22 m_choice_23 v_17.2.2.2.1 v_17.2.2.2.2) rfl 27 (by decide) (hts _ (List.mem_cons_of_mem _ xw_589)) (fun _ h9 => h9) rfl d_Mo_goes_58 ?_
          refine lv_iconst (v := 1) hx hb d_Mo_goes_61 (by decide) ?_
          refine lv_iadd hx hb d_Mo_goes_62 ?_
          refine xm_put (D := D) (v := .int (v_17.2.2.2.2 + 1)) (ty := .int) (C := R_Mo) (T := F_Mo) (N := 28) hx hb hts (fun w h => List.mem_cons_of_mem _ (i_Mo w h)) t_Mo o_Mo n_Mo hown hw (k_M m_values_21 m_by_22 m_choice_23 v_17.2.2.2.1 v_17.2.2.2.2) rfl 27 (by decide) (hts _ (List.mem_cons_of_mem _ xw_589)) (fun _ h9 => h9) rfl (by decide +kernel) rfl rfl (Nat.le_of_ble_eq_true rfl) d_Mo_goes_63 (fun H locs hw => ?_)
          have hw : xm_W D xcl (xT cI cZ cJ cO) (xm_A ad (CE m_values m_by m_choice m_atoms m_depth) s.heap.size) ad (CE m_values_21 m_by_22 m_choice_23 v_17.2.2.2.1 (v_17.2.2.2.2 + 1)) s s.heap H locs := xm_W.cast (u_M m_values_21 m_by_22 m_choice_23 v_17.2.2.2.1 v_17.2.2.2.2 v_17.2.2.2.1 (v_17.2.2.2.2 + 1)) hw
          refine lv_aload_n hx hb d_Mo_goes_66 rfl (lv_at hl 0 rfl) ?_
          refine xm_get (D := D) (v := .ref (ad i_choice)) (C := R_Mo) (T := F_Mo) (N := 28) hx hb hts (fun w h => List.mem_cons_of_mem _ (i_Mo w h)) hown hw (k_M m_values_21 m_by_22 m_choice_23 v_17.2.2.2.1 (v_17.2.2.2.2 + 1)) rfl 24 (by decide) (hts _ (List.mem_cons_of_mem _ xw_586)) (fun _ h9 => h9) rfl d_Mo_goes_67 ?_
          refine lv_aload_n hx hb d_Mo_goes_70 rfl (lv_at hl 0 rfl) ?_
          refine xm_get (D := D) (v := .int (v_17.2.2.2.2 + 1)) (C := R_Mo) (T := F_Mo) (N := 28) hx hb hts (fun w h => List.mem_cons_of_mem _ (i_Mo w h)) hown hw (k_M m_values_21 m_by_22 m_choice_23 v_17.2.2.2.1 (v_17.2.2.2.2 + 1)) rfl 27 (by decide) (hts _ (List.mem_cons_of_mem _ xw_589)) (fun _ h9 => h9) rfl d_Mo_goes_71 ?_
          refine lv_iconst (v := (-1)) hx hb d_Mo_goes_74 (by decide) ?_
          obtain ⟨hin, h⟩ := h
          refine xm_iast hx hb hw 0 (k_choice m_values_21 m_by_22 m_choice_23 v_17.2.2.2.1 (v_17.2.2.2.2 + 1)) rfl hin d_Mo_goes_75 (fun H locs hw => ?_)
          have hw : xm_W D xcl (xT cI cZ cJ cO) (xm_A ad (CE m_values m_by m_choice m_atoms m_depth) s.heap.size) ad (CE m_values_21 m_by_22 (upd m_choice_23 (Int32.toNatClampNeg (v_17.2.2.2.2 + 1)) (-1)) v_17.2.2.2.1 (v_17.2.2.2.2 + 1)) s s.heap H locs := xm_W.cast (u_choice m_values_21 m_by_22 m_choice_23 v_17.2.2.2.1 (v_17.2.2.2.2 + 1) (upd m_choice_23 (Int32.toNatClampNeg (v_17.2.2.2.2 + 1)) (-1))) hw
          obtain ⟨m_choice_28, em_choice_28⟩ : ∃ z : Nat → Int32, z = upd m_choice_23 (Int32.toNatClampNeg (v_17.2.2.2.2 + 1)) (-1) := ⟨_, rfl⟩
          have h := h m_choice_28 em_choice_28
          rw [← em_choice_28] at hw
          refine lv_goto (tgt := 38) hx hb d_Mo_goes_76 (by decide) ?_
          exact hK_18 (m_values_21, m_by_22, m_choice_28, v_17.2.2.2.1, v_17.2.2.2.2 + 1) h _ _ _ hw (lv_sub hl [0] rfl)
    · have h := h.2 hc
      refine lv_iconst (v := 0) hx hb d_Mo_goes_28 (by decide) ?_
      subst hQQ
      exact xm_zret hx hb hr hlk rfl hw (m_values, m_by, m_choice, m_atoms, m_depth - 1) rfl rfl h d_Mo_goes_29
def wp_Mo_value (post : Int32 → Prop)  (m_values : Nat → Int32) (p0 : Int32) : Prop :=
xj (fun (v_1 : Int32) =>
post v_1) (fun (J_2 : Int32 → Prop) =>
((10 ≤ p0 →
vp_in (p0 - 10) 8 ∧
J_2 (m_values (Int32.toNatClampNeg (p0 - 10)))) ∧ (¬ 10 ≤ p0 →
J_2 p0)))
abbrev rm_Mo_value : Room := { frames := 0, cells := 0, slots := 0, locals := 0 }
set_option maxHeartbeats 4000000 in
set_option maxRecDepth 100000 in
theorem c_Mo_value {l : Launch} {D : va_G} {ad : Nat → Nat} (CE : Nat → Option va_E) {cI cZ cJ cO : ClassId} {iM : Nat} {i_places : Nat} {i_ruled : Nat} {i_told : Nat} {i_model : Nat} {i_ofAtom : Nat} {i_left : Nat} {i_right : Nat} {i_size : Nat} {i_calls : Nat} {i_row : Nat} {i_patterns : Nat} {i_values : Nat} {i_by : Nat} {i_choice : Nat} {m_values : Nat → Int32} {m_thrown : Int32} {m_predicates : Int32} {m_rules : Int32} {m_begun : Int32} {m_asked : Int32} {m_asksOf : Int32} {m_asksLeft : Int32} {m_asksRight : Int32} {m_hadPredicates : Int32} {m_inRow : Int32} {m_rewritten : Int32} {m_rule : Int32} {m_atoms : Int32} {m_depth : Int32} (k_M : CE iM = some (.inr (4, [.int m_thrown, .ref (ad i_places), .ref (ad i_ruled), .int m_predicates, .ref (ad i_told), .ref (ad i_model), .ref (ad i_ofAtom), .ref (ad i_left), .ref (ad i_right), .ref (ad i_size), .int m_rules, .int m_begun, .int m_asked, .int m_asksOf, .int m_asksLeft, .int m_asksRight, .int m_hadPredicates, .ref (ad i_calls), .ref (ad i_row), .int m_inRow, .ref (ad i_patterns), .int m_rewritten, .ref (ad i_values), .ref (ad i_by), .ref (ad i_choice), .int m_rule, .int m_atoms, .int m_depth]))) (k_values : CE i_values = some (.inl (cI, 8, .inl m_values))) {post : Int32 → Prop} {p0 : Int32} (h : wp_Mo_value post m_values p0) : ∀ sz, Met l y_Mo_value (Cond.code y_Mo_value b_Mo_value 2 (some .int) :: xg) rm_Mo_value (xm_Pc D xcl (xT cI cZ cJ cO) ad CE sz [.ref (ad iM), .int p0]) (va_Qi (fun (r : Int32) (_ : Unit) => post r) (xm_B D xcl (xT cI cZ cJ cO) (xm_A ad CE sz) (fun _ => ad) (fun _ : Unit => CE)) (xm_A ad CE sz)) 0 0 (xm_A ad CE sz) := by
  refine xm_ofW (cc := b_Mo_value) (maxL := 2) (ret := (some .int)) (by decide) rfl (Nat.le_of_ble_eq_true rfl) ?_
  intro p e s m args below meth c ls QQ hQQ hx hb hml hr hown hlk hnm hts hl hw
  have hl : lv_has ls 2 [(0, .ref (ad iM)), (1, .int p0)] := hl
  unfold wp_Mo_value at h
  refine lv_iload_n hx hb d_Mo_value_0 rfl (lv_at hl 1 rfl) ?_
  refine lv_bipush (v := 10) hx hb d_Mo_value_1 (by decide) ?_
  refine xj_use h (fun (v_1 : Int32) => ∀ (H : Heap) (locs : List Loc) (ls : Array Slot), xm_W D xcl (xT cI cZ cJ cO) (xm_A ad CE s.heap.size) ad CE s s.heap H locs → lv_has ls 2 [] → W p l e rm_Mo_value s m args below meth c H locs 0 0 QQ (F0 m 19 ls [.int v_1])) (fun v_1 h H locs ls hw hl => ?_) (fun J_2 hJ_2 h => ?_)
  · subst hQQ
    exact xm_iret hx hb hr hlk hw () rfl rfl h d_Mo_value_19
  · refine lv_icmp_ge (tgt := 10) hx hb d_Mo_value_3 (by decide) (fun hc => ?_) (fun hc => ?_)
    · have h := h.1 hc
      refine lv_aload_n hx hb d_Mo_value_10 rfl (lv_at hl 0 rfl) ?_
      refine xm_get (D := D) (v := .ref (ad i_values)) (C := R_Mo) (T := F_Mo) (N := 28) hx hb hts (fun w h => List.mem_cons_of_mem _ (i_Mo w h)) hown hw k_M rfl 22 (by decide) (hts _ (List.mem_cons_of_mem _ xw_584)) (fun _ h9 => h9) rfl d_Mo_value_11 ?_
      refine lv_iload_n hx hb d_Mo_value_14 rfl (lv_at hl 1 rfl) ?_
      refine lv_bipush (v := 10) hx hb d_Mo_value_15 (by decide) ?_
      refine lv_isub hx hb d_Mo_value_17 ?_
      obtain ⟨hin, h⟩ := h
      refine xm_iald hx hb hw 0 k_values rfl hin d_Mo_value_18 ?_
      exact hJ_2 (m_values (Int32.toNatClampNeg (p0 - 10))) h _ _ _ hw (lv_sub hl [] rfl)
    · have h := h.2 hc
      refine lv_iload_n hx hb d_Mo_value_6 rfl (lv_at hl 1 rfl) ?_
      refine lv_goto (tgt := 19) hx hb d_Mo_value_7 (by decide) ?_
      exact hJ_2 p0 h _ _ _ hw (lv_sub hl [] rfl)
theorem xw_740 : (Jvm.Cond.code ({ cls := "QuestionDeskModel", name := "value", desc := "(I)I" } : Jvm.MethodName) prog_6_method_23_code (2 : Nat) (Option.some Jvm.ClassFile.FieldType.int)) ∈ xg := xg_t (i := 740) (by decide +kernel) (by decide +kernel)
theorem xw_737 : (Jvm.Cond.methodLink "QuestionDeskModel" (124 : Nat) ({ cls := "QuestionDeskModel", name := "value", desc := "(I)I" } : Jvm.MethodName)) ∈ xg := xg_t (i := 737) (by decide +kernel) (by decide +kernel)
theorem xw_739 : (Jvm.Cond.instanceMethod ({ cls := "QuestionDeskModel", name := "value", desc := "(I)I" } : Jvm.MethodName)) ∈ xg := xg_t (i := 739) (by decide +kernel) (by decide +kernel)
theorem xw_p35 : Cond.selects "QuestionDeskModel" ⟨"QuestionDeskModel", "value", "(I)I"⟩ ⟨"QuestionDeskModel", "value", "(I)I"⟩ ∈ xg := xg_p (q := (⟨"QuestionDeskModel", "value", "(I)I"⟩, 28)) (i := 35) (by decide +kernel) (by decide +kernel)
theorem xw_724 : (Jvm.Cond.code ({ cls := "QuestionDeskModel", name := "goes", desc := "()Z" } : Jvm.MethodName) prog_6_method_22_code (1 : Nat) (Option.some Jvm.ClassFile.FieldType.boolean)) ∈ xg := xg_t (i := 724) (by decide +kernel) (by decide +kernel)
theorem xw_721 : (Jvm.Cond.methodLink "QuestionDeskModel" (121 : Nat) ({ cls := "QuestionDeskModel", name := "goes", desc := "()Z" } : Jvm.MethodName)) ∈ xg := xg_t (i := 721) (by decide +kernel) (by decide +kernel)
theorem xw_723 : (Jvm.Cond.instanceMethod ({ cls := "QuestionDeskModel", name := "goes", desc := "()Z" } : Jvm.MethodName)) ∈ xg := xg_t (i := 723) (by decide +kernel) (by decide +kernel)
theorem xw_p31 : Cond.selects "QuestionDeskModel" ⟨"QuestionDeskModel", "goes", "()Z"⟩ ⟨"QuestionDeskModel", "goes", "()Z"⟩ ∈ xg := xg_p (q := (⟨"QuestionDeskModel", "goes", "()Z"⟩, 28)) (i := 31) (by decide +kernel) (by decide +kernel)
theorem xw_720 : (Jvm.Cond.code ({ cls := "QuestionDeskModel", name := "begins", desc := "(II)V" } : Jvm.MethodName) prog_6_method_20_code (4 : Nat) (Option.none : Option Jvm.ClassFile.FieldType)) ∈ xg := xg_t (i := 720) (by decide +kernel) (by decide +kernel)
theorem xw_717 : (Jvm.Cond.methodLink "QuestionDeskModel" (118 : Nat) ({ cls := "QuestionDeskModel", name := "begins", desc := "(II)V" } : Jvm.MethodName)) ∈ xg := xg_t (i := 717) (by decide +kernel) (by decide +kernel)
theorem xw_719 : (Jvm.Cond.instanceMethod ({ cls := "QuestionDeskModel", name := "begins", desc := "(II)V" } : Jvm.MethodName)) ∈ xg := xg_t (i := 719) (by decide +kernel) (by decide +kernel)
theorem xw_p30 : Cond.selects "QuestionDeskModel" ⟨"QuestionDeskModel", "begins", "(II)V"⟩ ⟨"QuestionDeskModel", "begins", "(II)V"⟩ ∈ xg := xg_p (q := (⟨"QuestionDeskModel", "begins", "(II)V"⟩, 28)) (i := 30) (by decide +kernel) (by decide +kernel)
def wp_Mo_models (post : (Nat → Int32) → (Nat → Int32) → (Nat → Int32) → (Nat → Int32) → Int32 → Int32 → Int32 → Prop)  (m_told : Nat → Int32) (m_ofAtom : Nat → Int32) (m_left : Nat → Int32) (m_right : Nat → Int32) (m_size : Nat → Int32) (m_rules : Int32) (m_model : Nat → Int32) (m_values : Nat → Int32) (m_by : Nat → Int32) (m_choice : Nat → Int32) (m_rule : Int32) (m_atoms : Int32) (m_depth : Int32) : Prop :=
xL (fun (K_2 : Int32 × (Nat → Int32) × (Nat → Int32) × (Nat → Int32) × (Nat → Int32) × Int32 × Int32 × Int32 → Prop) (v_1 : Int32 × (Nat → Int32) × (Nat → Int32) × (Nat → Int32) × (Nat → Int32) × Int32 × Int32 × Int32) =>
((1000 ≤ v_1.1 →
xL (fun (K_4 : Int32 × (Nat → Int32) × (Nat → Int32) × (Nat → Int32) × (Nat → Int32) × Int32 × Int32 × Int32 → Prop) (v_3 : Int32 × (Nat → Int32) × (Nat → Int32) × (Nat → Int32) × (Nat → Int32) × Int32 × Int32 × Int32) =>
((v_3.1 = 0 →
post v_3.2.1 v_3.2.2.1 v_3.2.2.2.1 v_3.2.2.2.2.1 v_3.2.2.2.2.2.1 v_3.2.2.2.2.2.2.1 v_3.2.2.2.2.2.2.2) ∧ (¬ v_3.1 = 0 →
xL (fun (K_6 : Int32 × Int32 × (Nat → Int32) × (Nat → Int32) × (Nat → Int32) × (Nat → Int32) × Int32 × Int32 × Int32 → Prop) (v_5 : Int32 × Int32 × (Nat → Int32) × (Nat → Int32) × (Nat → Int32) × (Nat → Int32) × Int32 × Int32 × Int32) =>
((m_rules ≤ v_5.1 →
K_4 (v_5.2.1, v_5.2.2.1, v_5.2.2.2.1, v_5.2.2.2.2.1, v_5.2.2.2.2.2.1, v_5.2.2.2.2.2.2.1, v_5.2.2.2.2.2.2.2.1, v_5.2.2.2.2.2.2.2.2)) ∧ (¬ m_rules ≤ v_5.1 →
vp_in v_5.1 31 ∧
wp_Mo_begins (fun m_values_9 m_by_10 m_choice_11 m_rule_12 m_atoms_13 m_depth_14 =>
xL (fun (K_16 : Int32 × (Nat → Int32) × (Nat → Int32) × (Nat → Int32) × (Nat → Int32) × Int32 × Int32 × Int32 → Prop) (v_15 : Int32 × (Nat → Int32) × (Nat → Int32) × (Nat → Int32) × (Nat → Int32) × Int32 × Int32 × Int32) =>
wp_Mo_goes (fun r_17 m_values_19 m_by_20 m_choice_21 m_atoms_22 m_depth_23 =>
((r_17 = 0 →
∀ x_24 : Int32, x_24 = v_5.1 + 1 →
K_6 (x_24, v_15.1, v_15.2.1, m_values_19, m_by_20, m_choice_21, v_15.2.2.2.2.2.1, m_atoms_22, m_depth_23)) ∧ (¬ r_17 = 0 →
vp_in (4 * v_5.1) 124 ∧
vp_in (4 * v_5.1) 124 ∧
wp_Mo_value (fun r_25 =>
vp_in (4 * v_5.1) 124 ∧
wp_Mo_value (fun r_27 =>
wp_Mo_place (fun r_29 =>
xj (fun (v_31 : Int32) =>
vp_in r_29 1000 ∧
∀ m_model_33 : Nat → Int32, m_model_33 = upd v_15.2.1 (Int32.toNatClampNeg r_29) (vp_nar .boolean 1) →
K_16 (v_31, m_model_33, m_values_19, m_by_20, m_choice_21, v_15.2.2.2.2.2.1, m_atoms_22, m_depth_23)) (fun (J_32 : Int32 → Prop) =>
xj (fun (v_34 : Unit) =>
J_32 1) (fun (J_35 : Unit → Prop) =>
((¬ v_15.1 = 0 →
J_35 ()) ∧ (v_15.1 = 0 →
vp_in r_29 1000 ∧
((¬ (v_15.2.1 (Int32.toNatClampNeg r_29)) = 0 →
J_32 0) ∧ ((v_15.2.1 (Int32.toNatClampNeg r_29)) = 0 →
J_35 ()))))))) (m_ofAtom (Int32.toNatClampNeg (4 * v_5.1))) r_25 r_27) m_values_19 (m_right (Int32.toNatClampNeg (4 * v_5.1)))) m_values_19 (m_left (Int32.toNatClampNeg (4 * v_5.1)))))) v_15.2.1 m_ofAtom m_left m_right v_15.2.2.2.2.2.1 v_15.2.2.1 v_15.2.2.2.1 v_15.2.2.2.2.1 v_15.2.2.2.2.2.2.1 v_15.2.2.2.2.2.2.2) (v_5.2.1, v_5.2.2.1, m_values_9, m_by_10, m_choice_11, m_rule_12, m_atoms_13, m_depth_14)) v_5.2.2.2.1 v_5.2.2.2.2.1 v_5.2.2.2.2.2.1 v_5.2.2.2.2.2.2.1 v_5.2.2.2.2.2.2.2.1 v_5.2.2.2.2.2.2.2.2 v_5.1 (m_size (Int32.toNatClampNeg v_5.1))))) (0, 0, v_3.2.1, v_3.2.2.1, v_3.2.2.2.1, v_3.2.2.2.2.1, v_3.2.2.2.2.2.1, v_3.2.2.2.2.2.2.1, v_3.2.2.2.2.2.2.2)))) (1, v_1.2.1, v_1.2.2.1, v_1.2.2.2.1, v_1.2.2.2.2.1, v_1.2.2.2.2.2.1, v_1.2.2.2.2.2.2.1, v_1.2.2.2.2.2.2.2)) ∧ (¬ 1000 ≤ v_1.1 →
vp_in v_1.1 1000 ∧
vp_in v_1.1 1000 ∧
∀ m_model_36 : Nat → Int32, m_model_36 = upd v_1.2.1 (Int32.toNatClampNeg v_1.1) (vp_nar .boolean (m_told (Int32.toNatClampNeg v_1.1))) →
∀ x_37 : Int32, x_37 = v_1.1 + 1 →
K_2 (x_37, m_model_36, v_1.2.2.1, v_1.2.2.2.1, v_1.2.2.2.2.1, v_1.2.2.2.2.2.1, v_1.2.2.2.2.2.2.1, v_1.2.2.2.2.2.2.2)))) (0, m_model, m_values, m_by, m_choice, m_rule, m_atoms, m_depth)
abbrev rm_Mo_models : Room := { frames := 3, cells := 0, slots := 0, locals := 66 }
set_option maxHeartbeats 4000000 in
set_option maxRecDepth 100000 in
theorem c_Mo_models {l : Launch} {D : va_G} {ad : Nat → Nat} (CE : (Nat → Int32) → (Nat → Int32) → (Nat → Int32) → (Nat → Int32) → Int32 → Int32 → Int32 → Nat → Option va_E) {cI cZ cJ cO : ClassId} {iM : Nat} {i_places : Nat} {i_ruled : Nat} {i_told : Nat} {i_model : Nat} {i_ofAtom : Nat} {i_left : Nat} {i_right : Nat} {i_size : Nat} {i_calls : Nat} {i_row : Nat} {i_patterns : Nat} {i_values : Nat} {i_by : Nat} {i_choice : Nat} {m_told : Nat → Int32} {m_ofAtom : Nat → Int32} {m_left : Nat → Int32} {m_right : Nat → Int32} {m_size : Nat → Int32} {m_rules : Int32} {m_thrown : Int32} {m_predicates : Int32} {m_begun : Int32} {m_asked : Int32} {m_asksOf : Int32} {m_asksLeft : Int32} {m_asksRight : Int32} {m_hadPredicates : Int32} {m_inRow : Int32} {m_rewritten : Int32} (k_M : ∀ (m_model : Nat → Int32) (m_values : Nat → Int32) (m_by : Nat → Int32) (m_choice : Nat → Int32) (m_rule : Int32) (m_atoms : Int32) (m_depth : Int32), (CE m_model m_values m_by m_choice m_rule m_atoms m_depth) iM = some (.inr (4, [.int m_thrown, .ref (ad i_places), .ref (ad i_ruled), .int m_predicates, .ref (ad i_told), .ref (ad i_model), .ref (ad i_ofAtom), .ref (ad i_left), .ref (ad i_right), .ref (ad i_size), .int m_rules, .int m_begun, .int m_asked, .int m_asksOf, .int m_asksLeft, .int m_asksRight, .int m_hadPredicates, .ref (ad i_calls), .ref (ad i_row), .int m_inRow, .ref (ad i_patterns), .int m_rewritten, .ref (ad i_values), .ref (ad i_by), .ref (ad i_choice), .int m_rule, .int m_atoms, .int m_depth]))) (k_told : ∀ (m_model : Nat → Int32) (m_values : Nat → Int32) (m_by : Nat → Int32) (m_choice : Nat → Int32) (m_rule : Int32) (m_atoms : Int32) (m_depth : Int32), (CE m_model m_values m_by m_choice m_rule m_atoms m_depth) i_told = some (.inl (cZ, 1000, .inl m_told))) (k_model : ∀ (m_model : Nat → Int32) (m_values : Nat → Int32) (m_by : Nat → Int32) (m_choice : Nat → Int32) (m_rule : Int32) (m_atoms : Int32) (m_depth : Int32), (CE m_model m_values m_by m_choice m_rule m_atoms m_depth) i_model = some (.inl (cZ, 1000, .inl m_model))) (k_ofAtom : ∀ (m_model : Nat → Int32) (m_values : Nat → Int32) (m_by : Nat → Int32) (m_choice : Nat → Int32) (m_rule : Int32) (m_atoms : Int32) (m_depth : Int32), (CE m_model m_values m_by m_choice m_rule m_atoms m_depth) i_ofAtom = some (.inl (cI, 124, .inl m_ofAtom))) (k_left : ∀ (m_model : Nat → Int32) (m_values : Nat → Int32) (m_by : Nat → Int32) (m_choice : Nat → Int32) (m_rule : Int32) (m_atoms : Int32) (m_depth : Int32), (CE m_model m_values m_by m_choice m_rule m_atoms m_depth) i_left = some (.inl (cI, 124, .inl m_left))) (k_right : ∀ (m_model : Nat → Int32) (m_values : Nat → Int32) (m_by : Nat → Int32) (m_choice : Nat → Int32) (m_rule : Int32) (m_atoms : Int32) (m_depth : Int32), (CE m_model m_values m_by m_choice m_rule m_atoms m_depth) i_right = some (.inl (cI, 124, .inl m_right))) (k_size : ∀ (m_model : Nat → Int32) (m_values : Nat → Int32) (m_by : Nat → Int32) (m_choice : Nat → Int32) (m_rule : Int32) (m_atoms : Int32) (m_depth : Int32), (CE m_model m_values m_by m_choice m_rule m_atoms m_depth) i_size = some (.inl (cI, 31, .inl m_size))) (k_values : ∀ (m_model : Nat → Int32) (m_values : Nat → Int32) (m_by : Nat → Int32) (m_choice : Nat → Int32) (m_rule : Int32) (m_atoms : Int32) (m_depth : Int32), (CE m_model m_values m_by m_choice m_rule m_atoms m_depth) i_values = some (.inl (cI, 8, .inl m_values))) (k_by : ∀ (m_model : Nat → Int32) (m_values : Nat → Int32) (m_by : Nat → Int32) (m_choice : Nat → Int32) (m_rule : Int32) (m_atoms : Int32) (m_depth : Int32), (CE m_model m_values m_by m_choice m_rule m_atoms m_depth) i_by = some (.inl (cI, 8, .inl m_by))) (k_choice : ∀ (m_model : Nat → Int32) (m_values : Nat → Int32) (m_by : Nat → Int32) (m_choice : Nat → Int32) (m_rule : Int32) (m_atoms : Int32) (m_depth : Int32), (CE m_model m_values m_by m_choice m_rule m_atoms m_depth) i_choice = some (.inl (cI, 4, .inl m_choice))) (u_M : ∀ (m_model : Nat → Int32) (m_values : Nat → Int32) (m_by : Nat → Int32) (m_choice : Nat → Int32) (m_rule : Int32) (m_atoms : Int32) (m_depth : Int32) (m_rule' : Int32) (m_atoms' : Int32) (m_depth' : Int32), va_up (CE m_model m_values m_by m_choice m_rule m_atoms m_depth) iM (some (.inr (4, [.int m_thrown, .ref (ad i_places), .ref (ad i_ruled), .int m_predicates, .ref (ad i_told), .ref (ad i_model), .ref (ad i_ofAtom), .ref (ad i_left), .ref (ad i_right), .ref (ad i_size), .int m_rules, .int m_begun, .int m_asked, .int m_asksOf, .int m_asksLeft, .int m_asksRight, .int m_hadPredicates, .ref (ad i_calls), .ref (ad i_row), .int m_inRow, .ref (ad i_patterns), .int m_rewritten, .ref (ad i_values), .ref (ad i_by), .ref (ad i_choice), .int m_rule', .int m_atoms', .int m_depth']))) = (CE m_model m_values m_by m_choice m_rule' m_atoms' m_depth')) (u_model : ∀ (m_model : Nat → Int32) (m_values : Nat → Int32) (m_by : Nat → Int32) (m_choice : Nat → Int32) (m_rule : Int32) (m_atoms : Int32) (m_depth : Int32) (m_model' : Nat → Int32), va_up (CE m_model m_values m_by m_choice m_rule m_atoms m_depth) i_model (some (.inl (cZ, 1000, .inl m_model'))) = (CE m_model' m_values m_by m_choice m_rule m_atoms m_depth)) (u_values : ∀ (m_model : Nat → Int32) (m_values : Nat → Int32) (m_by : Nat → Int32) (m_choice : Nat → Int32) (m_rule : Int32) (m_atoms : Int32) (m_depth : Int32) (m_values' : Nat → Int32), va_up (CE m_model m_values m_by m_choice m_rule m_atoms m_depth) i_values (some (.inl (cI, 8, .inl m_values'))) = (CE m_model m_values' m_by m_choice m_rule m_atoms m_depth)) (u_by : ∀ (m_model : Nat → Int32) (m_values : Nat → Int32) (m_by : Nat → Int32) (m_choice : Nat → Int32) (m_rule : Int32) (m_atoms : Int32) (m_depth : Int32) (m_by' : Nat → Int32), va_up (CE m_model m_values m_by m_choice m_rule m_atoms m_depth) i_by (some (.inl (cI, 8, .inl m_by'))) = (CE m_model m_values m_by' m_choice m_rule m_atoms m_depth)) (u_choice : ∀ (m_model : Nat → Int32) (m_values : Nat → Int32) (m_by : Nat → Int32) (m_choice : Nat → Int32) (m_rule : Int32) (m_atoms : Int32) (m_depth : Int32) (m_choice' : Nat → Int32), va_up (CE m_model m_values m_by m_choice m_rule m_atoms m_depth) i_choice (some (.inl (cI, 4, .inl m_choice'))) = (CE m_model m_values m_by m_choice' m_rule m_atoms m_depth)) {post : (Nat → Int32) → (Nat → Int32) → (Nat → Int32) → (Nat → Int32) → Int32 → Int32 → Int32 → Prop} {m_model : Nat → Int32} {m_values : Nat → Int32} {m_by : Nat → Int32} {m_choice : Nat → Int32} {m_rule : Int32} {m_atoms : Int32} {m_depth : Int32} (h : wp_Mo_models post m_told m_ofAtom m_left m_right m_size m_rules m_model m_values m_by m_choice m_rule m_atoms m_depth) : ∀ sz, Met l y_Mo_models (Cond.code y_Mo_models b_Mo_models 4 none :: xg) rm_Mo_models (xm_Pc D xcl (xT cI cZ cJ cO) ad (CE m_model m_values m_by m_choice m_rule m_atoms m_depth) sz [.ref (ad iM)]) (va_Qv (fun u : (Nat → Int32) × (Nat → Int32) × (Nat → Int32) × (Nat → Int32) × Int32 × Int32 × Int32 => post u.1 u.2.1 u.2.2.1 u.2.2.2.1 u.2.2.2.2.1 u.2.2.2.2.2.1 u.2.2.2.2.2.2) (xm_B D xcl (xT cI cZ cJ cO) (xm_A ad (CE m_model m_values m_by m_choice m_rule m_atoms m_depth) sz) (fun _ => ad) (fun u : (Nat → Int32) × (Nat → Int32) × (Nat → Int32) × (Nat → Int32) × Int32 × Int32 × Int32 => CE u.1 u.2.1 u.2.2.1 u.2.2.2.1 u.2.2.2.2.1 u.2.2.2.2.2.1 u.2.2.2.2.2.2)) (xm_A ad (CE m_model m_values m_by m_choice m_rule m_atoms m_depth) sz)) 0 0 (xm_A ad (CE m_model m_values m_by m_choice m_rule m_atoms m_depth) sz) := by
  refine xm_ofW (cc := b_Mo_models) (maxL := 4) (ret := none) (by decide) rfl (Nat.le_of_ble_eq_true rfl) ?_
  intro p e s m args below meth c ls QQ hQQ hx hb hml hr hown hlk hnm hts hl hw
  have hl : lv_has ls 4 [(0, .ref (ad iM))] := hl
  unfold wp_Mo_models at h
  refine lv_iconst (v := 0) hx hb d_Mo_models_0 (by decide) ?_
  refine lv_istore_n (lv' := [(1, .int 0), (0, .ref (ad iM))]) hx hb d_Mo_models_1 rfl hl (by decide) rfl (fun ls hl => ?_)
  refine xL_use h (fun (v_1 : Int32 × (Nat → Int32) × (Nat → Int32) × (Nat → Int32) × (Nat → Int32) × Int32 × Int32 × Int32) => ∀ (H : Heap) (locs : List Loc) (ls : Array Slot), xm_W D xcl (xT cI cZ cJ cO) (xm_A ad (CE m_model m_values m_by m_choice m_rule m_atoms m_depth) s.heap.size) ad (CE v_1.2.1 v_1.2.2.1 v_1.2.2.2.1 v_1.2.2.2.2.1 v_1.2.2.2.2.2.1 v_1.2.2.2.2.2.2.1 v_1.2.2.2.2.2.2.2) s s.heap H locs → lv_has ls 4 [(1, .int v_1.1), (0, .ref (ad iM))] → W p l e rm_Mo_models s m args below meth c H locs 0 0 QQ (F0 m 2 ls [])) (fun K_2 hK_2 v_1 h H locs ls hw hl => ?_) _ _ _ hw (lv_sub hl [0, 1] rfl)
  refine lv_iload_n hx hb d_Mo_models_2 rfl (lv_at hl 0 rfl) ?_
  refine lv_sipush (v := 1000) hx hb d_Mo_models_3 (by decide) ?_
  refine lv_icmp_ge (tgt := 27) hx hb d_Mo_models_6 (by decide) (fun hc => ?_) (fun hc => ?_)
  · have h := h.1 hc
    refine lv_iconst (v := 1) hx hb d_Mo_models_27 (by decide) ?_
    refine lv_istore_n (lv' := [(1, .int 1), (0, .ref (ad iM))]) hx hb d_Mo_models_28 rfl hl (by decide) rfl (fun ls hl => ?_)
    refine xL_use h (fun (v_3 : Int32 × (Nat → Int32) × (Nat → Int32) × (Nat → Int32) × (Nat → Int32) × Int32 × Int32 × Int32) => ∀ (H : Heap) (locs : List Loc) (ls : Array Slot), xm_W D xcl (xT cI cZ cJ cO) (xm_A ad (CE m_model m_values m_by m_choice m_rule m_atoms m_depth) s.heap.size) ad (CE v_3.2.1 v_3.2.2.1 v_3.2.2.2.1 v_3.2.2.2.2.1 v_3.2.2.2.2.2.1 v_3.2.2.2.2.2.2.1 v_3.2.2.2.2.2.2.2) s s.heap H locs → lv_has ls 4 [(1, .int v_3.1), (0, .ref (ad iM))] → W p l e rm_Mo_models s m args below meth c H locs 0 0 QQ (F0 m 29 ls [])) (fun K_4 hK_4 v_3 h H locs ls hw hl => ?_) _ _ _ hw (lv_sub hl [0, 1] rfl)
    refine lv_iload_n hx hb d_Mo_models_29 rfl (lv_at hl 0 rfl) ?_
    refine lv_if_eq (tgt := 137) hx hb d_Mo_models_30 (by decide) (fun hc => ?_) (fun hc => ?_)
    · have h := h.1 hc
      subst hQQ
      exact xm_vret hx hb hr hlk hw (v_3.2.1, v_3.2.2.1, v_3.2.2.2.1, v_3.2.2.2.2.1, v_3.2.2.2.2.2.1, v_3.2.2.2.2.2.2.1, v_3.2.2.2.2.2.2.2) rfl rfl h d_Mo_models_137
    · have h := h.2 hc
      refine lv_iconst (v := 0) hx hb d_Mo_models_33 (by decide) ?_
      refine lv_istore_n (lv' := [(1, .int 0), (0, .ref (ad iM))]) hx hb d_Mo_models_34 rfl hl (by decide) rfl (fun ls hl => ?_)
      refine lv_iconst (v := 0) hx hb d_Mo_models_35 (by decide) ?_
      refine lv_istore_n (lv' := [(2, .int 0), (1, .int 0), (0, .ref (ad iM))]) hx hb d_Mo_models_36 rfl hl (by decide) rfl (fun ls hl => ?_)
      refine xL_use h (fun (v_5 : Int32 × Int32 × (Nat → Int32) × (Nat → Int32) × (Nat → Int32) × (Nat → Int32) × Int32 × Int32 × Int32) => ∀ (H : Heap) (locs : List Loc) (ls : Array Slot), xm_W D xcl (xT cI cZ cJ cO) (xm_A ad (CE m_model m_values m_by m_choice m_rule m_atoms m_depth) s.heap.size) ad (CE v_5.2.2.1 v_5.2.2.2.1 v_5.2.2.2.2.1 v_5.2.2.2.2.2.1 v_5.2.2.2.2.2.2.1 v_5.2.2.2.2.2.2.2.1 v_5.2.2.2.2.2.2.2.2) s s.heap H locs → lv_has ls 4 [(2, .int v_5.1), (1, .int v_5.2.1), (0, .ref (ad iM))] → W p l e rm_Mo_models s m args below meth c H locs 0 0 QQ (F0 m 37 ls [])) (fun K_6 hK_6 v_5 h H locs ls hw hl => ?_) _ _ _ hw (lv_sub hl [0, 1, 2] rfl)
      refine lv_iload_n hx hb d_Mo_models_37 rfl (lv_at hl 0 rfl) ?_
      refine lv_aload_n hx hb d_Mo_models_38 rfl (lv_at hl 2 rfl) ?_
      refine xm_get (D := D) (v := .int m_rules) (C := R_Mo) (T := F_Mo) (N := 28) hx hb hts (fun w h => List.mem_cons_of_mem _ (i_Mo w h)) hown hw (k_M v_5.2.2.1 v_5.2.2.2.1 v_5.2.2.2.2.1 v_5.2.2.2.2.2.1 v_5.2.2.2.2.2.2.1 v_5.2.2.2.2.2.2.2.1 v_5.2.2.2.2.2.2.2.2) rfl 10 (by decide) (hts _ (List.mem_cons_of_mem _ xw_572)) (fun _ h9 => h9) rfl d_Mo_models_39 ?_
      refine lv_icmp_ge (tgt := 134) hx hb d_Mo_models_42 (by decide) (fun hc => ?_) (fun hc => ?_)
      · have h := h.1 hc
        refine lv_goto (tgt := 29) hx hb d_Mo_models_134 (by decide) ?_
        exact hK_4 (v_5.2.1, v_5.2.2.1, v_5.2.2.2.1, v_5.2.2.2.2.1, v_5.2.2.2.2.2.1, v_5.2.2.2.2.2.2.1, v_5.2.2.2.2.2.2.2.1, v_5.2.2.2.2.2.2.2.2) h _ _ _ hw (lv_sub hl [1, 2] rfl)
      · have h := h.2 hc
        refine lv_aload_n hx hb d_Mo_models_45 rfl (lv_at hl 2 rfl) ?_
        refine lv_iload_n hx hb d_Mo_models_46 rfl (lv_at hl 0 rfl) ?_
        refine lv_aload_n hx hb d_Mo_models_47 rfl (lv_at hl 2 rfl) ?_
        refine xm_get (D := D) (v := .ref (ad i_size)) (C := R_Mo) (T := F_Mo) (N := 28) hx hb hts (fun w h => List.mem_cons_of_mem _ (i_Mo w h)) hown hw (k_M v_5.2.2.1 v_5.2.2.2.1 v_5.2.2.2.2.1 v_5.2.2.2.2.2.1 v_5.2.2.2.2.2.2.1 v_5.2.2.2.2.2.2.2.1 v_5.2.2.2.2.2.2.2.2) rfl 9 (by decide) (hts _ (List.mem_cons_of_mem _ xw_571)) (fun _ h9 => h9) rfl d_Mo_models_48 ?_
        refine lv_iload_n hx hb d_Mo_models_51 rfl (lv_at hl 0 rfl) ?_
        obtain ⟨hin, h⟩ := h
        refine xm_iald hx hb hw 0 (k_size v_5.2.2.1 v_5.2.2.2.1 v_5.2.2.2.2.1 v_5.2.2.2.2.2.1 v_5.2.2.2.2.2.2.1 v_5.2.2.2.2.2.2.2.1 v_5.2.2.2.2.2.2.2.2) rfl hin d_Mo_models_52 ?_
        refine xm_callv (ua := fun _ => ad) (va_runV (As := [.int v_5.1, .int (m_size (Int32.toNatClampNeg v_5.1))]) (rest := []) ⟨hx, hb, hml, hown, hts⟩ (c_Mo_begins (D := D) (ad := ad) (CE := (fun m_values m_by m_choice m_rule m_atoms m_depth => (CE v_5.2.2.1 m_values m_by m_choice m_rule m_atoms m_depth)))  (fun m_values m_by m_choice m_rule m_atoms m_depth => k_M v_5.2.2.1 m_values m_by m_choice m_rule m_atoms m_depth) (fun m_values m_by m_choice m_rule m_atoms m_depth => k_values v_5.2.2.1 m_values m_by m_choice m_rule m_atoms m_depth) (fun m_values m_by m_choice m_rule m_atoms m_depth => k_by v_5.2.2.1 m_values m_by m_choice m_rule m_atoms m_depth) (fun m_values m_by m_choice m_rule m_atoms m_depth => k_choice v_5.2.2.1 m_values m_by m_choice m_rule m_atoms m_depth) (fun m_values m_by m_choice m_rule m_atoms m_depth m_rule' m_atoms' m_depth' => u_M v_5.2.2.1 m_values m_by m_choice m_rule m_atoms m_depth m_rule' m_atoms' m_depth') (fun m_values m_by m_choice m_rule m_atoms m_depth m_values' => u_values v_5.2.2.1 m_values m_by m_choice m_rule m_atoms m_depth m_values') (fun m_values m_by m_choice m_rule m_atoms m_depth m_by' => u_by v_5.2.2.1 m_values m_by m_choice m_rule m_atoms m_depth m_by') (fun m_values m_by m_choice m_rule m_atoms m_depth m_choice' => u_choice v_5.2.2.1 m_values m_by m_choice m_rule m_atoms m_depth m_choice') h _) (xg_cwV 2 hts xw_720 xw_717 xw_719 xw_p30 xw_8 rfl rfl (by decide +kernel) ⟨Nat.le_of_ble_eq_true rfl, Nat.le_of_ble_eq_true rfl⟩) (xm_preV hw (k_M v_5.2.2.1 v_5.2.2.2.1 v_5.2.2.2.2.1 v_5.2.2.2.2.2.1 v_5.2.2.2.2.2.2.1 v_5.2.2.2.2.2.2.2.1 v_5.2.2.2.2.2.2.2.2) rfl _) rfl rfl hl.1 rfl (lv_room (Nat.le_of_ble_eq_true rfl)) d_Mo_models_53 ⟨Nat.le_of_ble_eq_true rfl, Nat.le_of_ble_eq_true rfl⟩) hw (fun u_8 H locs h hw => ?_)
        obtain ⟨m_values_9, em_values_9⟩ : ∃ z, z = u_8.1 := ⟨_, rfl⟩
        obtain ⟨m_by_10, em_by_10⟩ : ∃ z, z = u_8.2.1 := ⟨_, rfl⟩
        obtain ⟨m_choice_11, em_choice_11⟩ : ∃ z, z = u_8.2.2.1 := ⟨_, rfl⟩
        obtain ⟨m_rule_12, em_rule_12⟩ : ∃ z, z = u_8.2.2.2.1 := ⟨_, rfl⟩
        obtain ⟨m_atoms_13, em_atoms_13⟩ : ∃ z, z = u_8.2.2.2.2.1 := ⟨_, rfl⟩
        obtain ⟨m_depth_14, em_depth_14⟩ : ∃ z, z = u_8.2.2.2.2.2 := ⟨_, rfl⟩
        try dsimp only at h hw
        rw [← em_values_9, ← em_by_10, ← em_choice_11, ← em_rule_12, ← em_atoms_13, ← em_depth_14] at h hw
        refine xL_use h (fun (v_15 : Int32 × (Nat → Int32) × (Nat → Int32) × (Nat → Int32) × (Nat → Int32) × Int32 × Int32 × Int32) => ∀ (H : Heap) (locs : List Loc) (ls : Array Slot), xm_W D xcl (xT cI cZ cJ cO) (xm_A ad (CE m_model m_values m_by m_choice m_rule m_atoms m_depth) s.heap.size) ad (CE v_15.2.1 v_15.2.2.1 v_15.2.2.2.1 v_15.2.2.2.2.1 v_15.2.2.2.2.2.1 v_15.2.2.2.2.2.2.1 v_15.2.2.2.2.2.2.2) s s.heap H locs → lv_has ls 4 [(2, .int v_5.1), (1, .int v_15.1), (0, .ref (ad iM))] → W p l e rm_Mo_models s m args below meth c H locs 0 0 QQ (F0 m 56 ls [])) (fun K_16 hK_16 v_15 h H locs ls hw hl => ?_) _ _ _ hw (lv_sub hl [0, 1, 2] rfl)
        refine lv_aload_n hx hb d_Mo_models_56 rfl (lv_at hl 2 rfl) ?_
        refine xm_calli (ua := fun _ => ad) (va_runV (As := []) (rest := []) ⟨hx, hb, hml, hown, hts⟩ (c_Mo_goes (D := D) (ad := ad) (CE := (fun m_values m_by m_choice m_atoms m_depth => (CE v_15.2.1 m_values m_by m_choice v_15.2.2.2.2.2.1 m_atoms m_depth)))  (fun m_values m_by m_choice m_atoms m_depth => k_M v_15.2.1 m_values m_by m_choice v_15.2.2.2.2.2.1 m_atoms m_depth) (fun m_values m_by m_choice m_atoms m_depth => k_model v_15.2.1 m_values m_by m_choice v_15.2.2.2.2.2.1 m_atoms m_depth) (fun m_values m_by m_choice m_atoms m_depth => k_ofAtom v_15.2.1 m_values m_by m_choice v_15.2.2.2.2.2.1 m_atoms m_depth) (fun m_values m_by m_choice m_atoms m_depth => k_left v_15.2.1 m_values m_by m_choice v_15.2.2.2.2.2.1 m_atoms m_depth) (fun m_values m_by m_choice m_atoms m_depth => k_right v_15.2.1 m_values m_by m_choice v_15.2.2.2.2.2.1 m_atoms m_depth) (fun m_values m_by m_choice m_atoms m_depth => k_values v_15.2.1 m_values m_by m_choice v_15.2.2.2.2.2.1 m_atoms m_depth) (fun m_values m_by m_choice m_atoms m_depth => k_by v_15.2.1 m_values m_by m_choice v_15.2.2.2.2.2.1 m_atoms m_depth) (fun m_values m_by m_choice m_atoms m_depth => k_choice v_15.2.1 m_values m_by m_choice v_15.2.2.2.2.2.1 m_atoms m_depth) (fun m_values m_by m_choice m_atoms m_depth m_atoms' m_depth' => u_M v_15.2.1 m_values m_by m_choice v_15.2.2.2.2.2.1 m_atoms m_depth v_15.2.2.2.2.2.1 m_atoms' m_depth') (fun m_values m_by m_choice m_atoms m_depth m_values' => u_values v_15.2.1 m_values m_by m_choice v_15.2.2.2.2.2.1 m_atoms m_depth m_values') (fun m_values m_by m_choice m_atoms m_depth m_by' => u_by v_15.2.1 m_values m_by m_choice v_15.2.2.2.2.2.1 m_atoms m_depth m_by') (fun m_values m_by m_choice m_atoms m_depth m_choice' => u_choice v_15.2.1 m_values m_by m_choice v_15.2.2.2.2.2.1 m_atoms m_depth m_choice') h _) (xg_cwV 0 hts xw_724 xw_721 xw_723 xw_p31 xw_8 rfl rfl (by decide +kernel) ⟨Nat.le_of_ble_eq_true rfl, Nat.le_of_ble_eq_true rfl⟩) (xm_preV hw (k_M v_15.2.1 v_15.2.2.1 v_15.2.2.2.1 v_15.2.2.2.2.1 v_15.2.2.2.2.2.1 v_15.2.2.2.2.2.2.1 v_15.2.2.2.2.2.2.2) rfl _) rfl rfl hl.1 rfl (lv_room (Nat.le_of_ble_eq_true rfl)) d_Mo_models_57 ⟨Nat.le_of_ble_eq_true rfl, Nat.le_of_ble_eq_true rfl⟩) hw (fun r_17 u_18 H locs h hw => ?_)
        obtain ⟨m_values_19, em_values_19⟩ : ∃ z, z = u_18.1 := ⟨_, rfl⟩
        obtain ⟨m_by_20, em_by_20⟩ : ∃ z, z = u_18.2.1 := ⟨_, rfl⟩
        obtain ⟨m_choice_21, em_choice_21⟩ : ∃ z, z = u_18.2.2.1 := ⟨_, rfl⟩
        obtain ⟨m_atoms_22, em_atoms_22⟩ : ∃ z, z = u_18.2.2.2.1 := ⟨_, rfl⟩
        obtain ⟨m_depth_23, em_depth_23⟩ : ∃ z, z = u_18.2.2.2.2 := ⟨_, rfl⟩
        try dsimp only at h hw
        rw [← em_values_19, ← em_by_20, ← em_choice_21, ← em_atoms_22, ← em_depth_23] at h hw
        refine lv_if_eq (tgt := 128) hx hb d_Mo_models_60 (by decide) (fun hc => ?_) (fun hc => ?_)
        · have h := h.1 hc
          obtain ⟨x_24, ex_24⟩ : ∃ y : Int32, y = v_5.1 + 1 := ⟨_, rfl⟩
          have h := h x_24 ex_24
          refine lv_iinc (v := x_24) (lv' := [(2, .int x_24), (1, .int v_15.1), (0, .ref (ad iM))]) hx hb d_Mo_models_128 hl (k := 0) rfl (by rw [ex_24]; rfl) (by decide) rfl (fun ls hl => ?_)
          refine lv_goto (tgt := 37) hx hb d_Mo_models_131 (by decide) ?_
          exact hK_6 (x_24, v_15.1, v_15.2.1, m_values_19, m_by_20, m_choice_21, v_15.2.2.2.2.2.1, m_atoms_22, m_depth_23) h _ _ _ hw (lv_sub hl [0, 1, 2] rfl)
        · have h := h.2 hc
          refine lv_aload_n hx hb d_Mo_models_63 rfl (lv_at hl 2 rfl) ?_
          refine xm_get (D := D) (v := .ref (ad i_ofAtom)) (C := R_Mo) (T := F_Mo) (N := 28) hx hb hts (fun w h => List.mem_cons_of_mem _ (i_Mo w h)) hown hw (k_M v_15.2.1 m_values_19 m_by_20 m_choice_21 v_15.2.2.2.2.2.1 m_atoms_22 m_depth_23) rfl 6 (by decide) (hts _ (List.mem_cons_of_mem _ xw_568)) (fun _ h9 => h9) rfl d_Mo_models_64 ?_
          refine lv_iconst (v := 4) hx hb d_Mo_models_67 (by decide) ?_
          refine lv_iload_n hx hb d_Mo_models_68 rfl (lv_at hl 0 rfl) ?_
          refine lv_imul hx hb d_Mo_models_69 ?_
          obtain ⟨hin, h⟩ := h
          refine xm_iald hx hb hw 0 (k_ofAtom v_15.2.1 m_values_19 m_by_20 m_choice_21 v_15.2.2.2.2.2.1 m_atoms_22 m_depth_23) rfl hin d_Mo_models_70 ?_
          refine lv_aload_n hx hb d_Mo_models_71 rfl (lv_at hl 2 rfl) ?_
          refine lv_aload_n hx hb d_Mo_models_72 rfl (lv_at hl 2 rfl) ?_
          refine xm_get (D := D) (v := .ref (ad i_left)) (C := R_Mo) (T := F_Mo) (N := 28) hx hb hts (fun w h => List.mem_cons_of_mem _ (i_Mo w h)) hown hw (k_M v_15.2.1 m_values_19 m_by_20 m_choice_21 v_15.2.2.2.2.2.1 m_atoms_22 m_depth_23) rfl 7 (by decide) (hts _ (List.mem_cons_of_mem _ xw_569)) (fun _ h9 => h9) rfl d_Mo_models_73 ?_
          refine lv_iconst (v := 4) hx hb d_Mo_models_76 (by decide) ?_
          refine lv_iload_n hx hb d_Mo_models_77 rfl (lv_at hl 0 rfl) ?_
          refine lv_imul hx hb d_Mo_models_78 ?_
          obtain ⟨hin, h⟩ := h
          refine xm_iald hx hb hw 0 (k_left v_15.2.1 m_values_19 m_by_20 m_choice_21 v_15.2.2.2.2.2.1 m_atoms_22 m_depth_23) rfl hin d_Mo_models_79 ?_
          refine xm_calli (ua := fun _ => ad) (va_runV (As := [.int (m_left (Int32.toNatClampNeg (4 * v_5.1)))]) (rest := [.int (m_ofAtom (Int32.toNatClampNeg (4 * v_5.1)))]) ⟨hx, hb, hml, hown, hts⟩ (c_Mo_value (D := D) (ad := ad) (CE := ((CE v_15.2.1 m_values_19 m_by_20 m_choice_21 v_15.2.2.2.2.2.1 m_atoms_22 m_depth_23)))  (k_M v_15.2.1 m_values_19 m_by_20 m_choice_21 v_15.2.2.2.2.2.1 m_atoms_22 m_depth_23) (k_values v_15.2.1 m_values_19 m_by_20 m_choice_21 v_15.2.2.2.2.2.1 m_atoms_22 m_depth_23) h _) (xg_cwV 1 hts xw_740 xw_737 xw_739 xw_p35 xw_8 rfl rfl (by decide +kernel) ⟨Nat.le_of_ble_eq_true rfl, Nat.le_of_ble_eq_true rfl⟩) (xm_preV hw (k_M v_15.2.1 m_values_19 m_by_20 m_choice_21 v_15.2.2.2.2.2.1 m_atoms_22 m_depth_23) rfl _) rfl rfl hl.1 rfl (lv_room (Nat.le_of_ble_eq_true rfl)) d_Mo_models_80 ⟨Nat.le_of_ble_eq_true rfl, Nat.le_of_ble_eq_true rfl⟩) hw (fun r_25 _ H locs h hw => ?_)
          refine lv_aload_n hx hb d_Mo_models_83 rfl (lv_at hl 2 rfl) ?_
          refine lv_aload_n hx hb d_Mo_models_84 rfl (lv_at hl 2 rfl) ?_
          refine xm_get (D := D) (v := .ref (ad i_right)) (C := R_Mo) (T := F_Mo) (N := 28) hx hb hts (fun w h => List.mem_cons_of_mem _ (i_Mo w h)) hown hw (k_M v_15.2.1 m_values_19 m_by_20 m_choice_21 v_15.2.2.2.2.2.1 m_atoms_22 m_depth_23) rfl 8 (by decide) (hts _ (List.mem_cons_of_mem _ xw_570)) (fun _ h9 => h9) rfl d_Mo_models_85 ?_
          refine lv_iconst (v := 4) hx hb d_Mo_models_88 (by decide) ?_
          refine lv_iload_n hx hb d_Mo_models_89 rfl (lv_at hl 0 rfl) ?_
          refine lv_imul hx hb d_Mo_models_90 ?_
          obtain ⟨hin, h⟩ := h
          refine xm_iald hx hb hw 0 (k_right v_15.2.1 m_values_19 m_by_20 m_choice_21 v_15.2.2.2.2.2.1 m_atoms_22 m_depth_23) rfl hin d_Mo_models_91 ?_
          refine xm_calli (ua := fun _ => ad) (va_runV (As := [.int (m_right (Int32.toNatClampNeg (4 * v_5.1)))]) (rest := [.int r_25, .int (m_ofAtom (Int32.toNatClampNeg (4 * v_5.1)))]) ⟨hx, hb, hml, hown, hts⟩ (c_Mo_value (D := D) (ad := ad) (CE := ((CE v_15.2.1 m_values_19 m_by_20 m_choice_21 v_15.2.2.2.2.2.1 m_atoms_22 m_depth_23)))  (k_M v_15.2.1 m_values_19 m_by_20 m_choice_21 v_15.2.2.2.2.2.1 m_atoms_22 m_depth_23) (k_values v_15.2.1 m_values_19 m_by_20 m_choice_21 v_15.2.2.2.2.2.1 m_atoms_22 m_depth_23) h _) (xg_cwV 1 hts xw_740 xw_737 xw_739 xw_p35 xw_8 rfl rfl (by decide +kernel) ⟨Nat.le_of_ble_eq_true rfl, Nat.le_of_ble_eq_true rfl⟩) (xm_preV hw (k_M v_15.2.1 m_values_19 m_by_20 m_choice_21 v_15.2.2.2.2.2.1 m_atoms_22 m_depth_23) rfl _) rfl rfl hl.1 rfl (lv_room (Nat.le_of_ble_eq_true rfl)) d_Mo_models_92 ⟨Nat.le_of_ble_eq_true rfl, Nat.le_of_ble_eq_true rfl⟩) hw (fun r_27 _ H locs h hw => ?_)
          refine xm_calli (ua := fun _ => ad) (va_runS (As := [.int (m_ofAtom (Int32.toNatClampNeg (4 * v_5.1))), .int r_25, .int r_27]) (rest := []) ⟨hx, hb, hml, hown, hts⟩ (c_Mo_place (D := D) (ad := ad) (CE := ((CE v_15.2.1 m_values_19 m_by_20 m_choice_21 v_15.2.2.2.2.2.1 m_atoms_22 m_depth_23)))   h _) (xg_cwS 3 hts xw_676 xw_674 xw_675 xw_8 rfl rfl (by decide +kernel) ⟨Nat.le_of_ble_eq_true rfl, Nat.le_of_ble_eq_true rfl⟩) (xm_pre hw _) rfl rfl hl.1 rfl (lv_room (Nat.le_of_ble_eq_true rfl)) d_Mo_models_95 ⟨Nat.le_of_ble_eq_true rfl, Nat.le_of_ble_eq_true rfl⟩) hw (fun r_29 _ H locs h hw => ?_)
          refine lv_istore_n (lv' := [(3, .int r_29), (2, .int v_5.1), (1, .int v_15.1), (0, .ref (ad iM))]) hx hb d_Mo_models_98 rfl hl (by decide) rfl (fun ls hl => ?_)
          refine lv_iload_n hx hb d_Mo_models_99 rfl (lv_at hl 2 rfl) ?_
          refine xj_use h (fun (v_31 : Int32) => ∀ (H : Heap) (locs : List Loc) (ls : Array Slot), xm_W D xcl (xT cI cZ cJ cO) (xm_A ad (CE m_model m_values m_by m_choice m_rule m_atoms m_depth) s.heap.size) ad (CE v_15.2.1 m_values_19 m_by_20 m_choice_21 v_15.2.2.2.2.2.1 m_atoms_22 m_depth_23) s s.heap H locs → lv_has ls 4 [(0, .ref (ad iM)), (2, .int v_5.1), (3, .int r_29)] → W p l e rm_Mo_models s m args below meth c H locs 0 0 QQ (F0 m 117 ls [.int v_31])) (fun v_31 h H locs ls hw hl => ?_) (fun J_32 hJ_32 h => ?_)
          · refine lv_istore_n (lv' := [(1, .int v_31), (0, .ref (ad iM)), (2, .int v_5.1), (3, .int r_29)]) hx hb d_Mo_models_117 rfl hl (by decide) rfl (fun ls hl => ?_)
            refine lv_aload_n hx hb d_Mo_models_118 rfl (lv_at hl 1 rfl) ?_
            refine xm_get (D := D) (v := .ref (ad i_model)) (C := R_Mo) (T := F_Mo) (N := 28) hx hb hts (fun w h => List.mem_cons_of_mem _ (i_Mo w h)) hown hw (k_M v_15.2.1 m_values_19 m_by_20 m_choice_21 v_15.2.2.2.2.2.1 m_atoms_22 m_depth_23) rfl 5 (by decide) (hts _ (List.mem_cons_of_mem _ xw_567)) (fun _ h9 => h9) rfl d_Mo_models_119 ?_
            refine lv_iload_n hx hb d_Mo_models_122 rfl (lv_at hl 3 rfl) ?_
            refine lv_iconst (v := 1) hx hb d_Mo_models_123 (by decide) ?_
            obtain ⟨hin, h⟩ := h
            refine xm_zast hx hb hw 1 (k_model v_15.2.1 m_values_19 m_by_20 m_choice_21 v_15.2.2.2.2.2.1 m_atoms_22 m_depth_23) rfl hin d_Mo_models_124 (fun H locs hw => ?_)
            have hw : xm_W D xcl (xT cI cZ cJ cO) (xm_A ad (CE m_model m_values m_by m_choice m_rule m_atoms m_depth) s.heap.size) ad (CE (upd v_15.2.1 (Int32.toNatClampNeg r_29) (vp_nar .boolean 1)) m_values_19 m_by_20 m_choice_21 v_15.2.2.2.2.2.1 m_atoms_22 m_depth_23) s s.heap H locs := xm_W.cast (u_model v_15.2.1 m_values_19 m_by_20 m_choice_21 v_15.2.2.2.2.2.1 m_atoms_22 m_depth_23 (upd v_15.2.1 (Int32.toNatClampNeg r_29) (vp_nar .boolean 1))) hw
            obtain ⟨m_model_33, em_model_33⟩ : ∃ z : Nat → Int32, z = upd v_15.2.1 (Int32.toNatClampNeg r_29) (vp_nar .boolean 1) := ⟨_, rfl⟩
            have h := h m_model_33 em_model_33
            rw [← em_model_33] at hw
            refine lv_goto (tgt := 56) hx hb d_Mo_models_125 (by decide) ?_
            exact hK_16 (v_31, m_model_33, m_values_19, m_by_20, m_choice_21, v_15.2.2.2.2.2.1, m_atoms_22, m_depth_23) h _ _ _ hw (lv_sub hl [2, 0, 1] rfl)
          · refine xj_use h (fun (v_34 : Unit) => ∀ (H : Heap) (locs : List Loc) (ls : Array Slot), xm_W D xcl (xT cI cZ cJ cO) (xm_A ad (CE m_model m_values m_by m_choice m_rule m_atoms m_depth) s.heap.size) ad (CE v_15.2.1 m_values_19 m_by_20 m_choice_21 v_15.2.2.2.2.2.1 m_atoms_22 m_depth_23) s s.heap H locs → lv_has ls 4 [(0, .ref (ad iM)), (2, .int v_5.1), (3, .int r_29)] → W p l e rm_Mo_models s m args below meth c H locs 0 0 QQ (F0 m 112 ls [])) (fun v_34 h H locs ls hw hl => ?_) (fun J_35 hJ_35 h => ?_)
            · refine lv_iconst (v := 1) hx hb d_Mo_models_112 (by decide) ?_
              refine lv_goto (tgt := 117) hx hb d_Mo_models_113 (by decide) ?_
              exact hJ_32 1 h _ _ _ hw (lv_sub hl [0, 1, 2] rfl)
            · refine lv_if_ne (tgt := 112) hx hb d_Mo_models_100 (by decide) (fun hc => ?_) (fun hc => ?_)
              · have h := h.1 hc
                exact hJ_35 () h _ _ _ hw (lv_sub hl [3, 1, 0] rfl)
              · have h := h.2 hc
                refine lv_aload_n hx hb d_Mo_models_103 rfl (lv_at hl 3 rfl) ?_
                refine xm_get (D := D) (v := .ref (ad i_model)) (C := R_Mo) (T := F_Mo) (N := 28) hx hb hts (fun w h => List.mem_cons_of_mem _ (i_Mo w h)) hown hw (k_M v_15.2.1 m_values_19 m_by_20 m_choice_21 v_15.2.2.2.2.2.1 m_atoms_22 m_depth_23) rfl 5 (by decide) (hts _ (List.mem_cons_of_mem _ xw_567)) (fun _ h9 => h9) rfl d_Mo_models_104 ?_
                refine lv_iload_n hx hb d_Mo_models_107 rfl (lv_at hl 0 rfl) ?_
                obtain ⟨hin, h⟩ := h
                refine xm_zald hx hb hw 1 (k_model v_15.2.1 m_values_19 m_by_20 m_choice_21 v_15.2.2.2.2.2.1 m_atoms_22 m_depth_23) rfl hin d_Mo_models_108 ?_
                refine lv_if_ne (tgt := 116) hx hb d_Mo_models_109 (by decide) (fun hc => ?_) (fun hc => ?_)
                · have h := h.1 hc
                  refine lv_iconst (v := 0) hx hb d_Mo_models_116 (by decide) ?_
                  exact hJ_32 0 h _ _ _ hw (lv_sub hl [3, 1, 0] rfl)
                · have h := h.2 hc
                  exact hJ_35 () h _ _ _ hw (lv_sub hl [3, 1, 0] rfl)
  · have h := h.2 hc
    refine lv_aload_n hx hb d_Mo_models_9 rfl (lv_at hl 1 rfl) ?_
    refine xm_get (D := D) (v := .ref (ad i_model)) (C := R_Mo) (T := F_Mo) (N := 28) hx hb hts (fun w h => List.mem_cons_of_mem _ (i_Mo w h)) hown hw (k_M v_1.2.1 v_1.2.2.1 v_1.2.2.2.1 v_1.2.2.2.2.1 v_1.2.2.2.2.2.1 v_1.2.2.2.2.2.2.1 v_1.2.2.2.2.2.2.2) rfl 5 (by decide) (hts _ (List.mem_cons_of_mem _ xw_567)) (fun _ h9 => h9) rfl d_Mo_models_10 ?_
    refine lv_iload_n hx hb d_Mo_models_13 rfl (lv_at hl 0 rfl) ?_
    refine lv_aload_n hx hb d_Mo_models_14 rfl (lv_at hl 1 rfl) ?_
    refine xm_get (D := D) (v := .ref (ad i_told)) (C := R_Mo) (T := F_Mo) (N := 28) hx hb hts (fun w h => List.mem_cons_of_mem _ (i_Mo w h)) hown hw (k_M v_1.2.1 v_1.2.2.1 v_1.2.2.2.1 v_1.2.2.2.2.1 v_1.2.2.2.2.2.1 v_1.2.2.2.2.2.2.1 v_1.2.2.2.2.2.2.2) rfl 4 (by decide) (hts _ (List.mem_cons_of_mem _ xw_566)) (fun _ h9 => h9) rfl d_Mo_models_15 ?_
    refine lv_iload_n hx hb d_Mo_models_18 rfl (lv_at hl 0 rfl) ?_
    obtain ⟨hin, h⟩ := h
    refine xm_zald hx hb hw 1 (k_told v_1.2.1 v_1.2.2.1 v_1.2.2.2.1 v_1.2.2.2.2.1 v_1.2.2.2.2.2.1 v_1.2.2.2.2.2.2.1 v_1.2.2.2.2.2.2.2) rfl hin d_Mo_models_19 ?_
    obtain ⟨hin, h⟩ := h
    refine xm_zast hx hb hw 1 (k_model v_1.2.1 v_1.2.2.1 v_1.2.2.2.1 v_1.2.2.2.2.1 v_1.2.2.2.2.2.1 v_1.2.2.2.2.2.2.1 v_1.2.2.2.2.2.2.2) rfl hin d_Mo_models_20 (fun H locs hw => ?_)
    have hw : xm_W D xcl (xT cI cZ cJ cO) (xm_A ad (CE m_model m_values m_by m_choice m_rule m_atoms m_depth) s.heap.size) ad (CE (upd v_1.2.1 (Int32.toNatClampNeg v_1.1) (vp_nar .boolean (m_told (Int32.toNatClampNeg v_1.1)))) v_1.2.2.1 v_1.2.2.2.1 v_1.2.2.2.2.1 v_1.2.2.2.2.2.1 v_1.2.2.2.2.2.2.1 v_1.2.2.2.2.2.2.2) s s.heap H locs := xm_W.cast (u_model v_1.2.1 v_1.2.2.1 v_1.2.2.2.1 v_1.2.2.2.2.1 v_1.2.2.2.2.2.1 v_1.2.2.2.2.2.2.1 v_1.2.2.2.2.2.2.2 (upd v_1.2.1 (Int32.toNatClampNeg v_1.1) (vp_nar .boolean (m_told (Int32.toNatClampNeg v_1.1))))) hw
    obtain ⟨m_model_36, em_model_36⟩ : ∃ z : Nat → Int32, z = upd v_1.2.1 (Int32.toNatClampNeg v_1.1) (vp_nar .boolean (m_told (Int32.toNatClampNeg v_1.1))) := ⟨_, rfl⟩
    have h := h m_model_36 em_model_36
    rw [← em_model_36] at hw
    obtain ⟨x_37, ex_37⟩ : ∃ y : Int32, y = v_1.1 + 1 := ⟨_, rfl⟩
    have h := h x_37 ex_37
    refine lv_iinc (v := x_37) (lv' := [(1, .int x_37), (0, .ref (ad iM))]) hx hb d_Mo_models_21 hl (k := 0) rfl (by rw [ex_37]; rfl) (by decide) rfl (fun ls hl => ?_)
    refine lv_goto (tgt := 2) hx hb d_Mo_models_24 (by decide) ?_
    exact hK_2 (x_37, m_model_36, v_1.2.2.1, v_1.2.2.2.1, v_1.2.2.2.2.1, v_1.2.2.2.2.2.1, v_1.2.2.2.2.2.2.1, v_1.2.2.2.2.2.2.2) h _ _ _ hw (lv_sub hl [0, 1] rfl)
theorem xw_579 : (Jvm.Cond.fieldLink "QuestionDeskModel" (35 : Nat) "QuestionDeskModel" "calls" "[Z") ∈ xg := xg_t (i := 579) (by decide +kernel) (by decide +kernel)
theorem xw_580 : (Jvm.Cond.fieldLink "QuestionDeskModel" (38 : Nat) "QuestionDeskModel" "row" "[I") ∈ xg := xg_t (i := 580) (by decide +kernel) (by decide +kernel)
theorem xw_581 : (Jvm.Cond.fieldLink "QuestionDeskModel" (128 : Nat) "QuestionDeskModel" "inRow" "I") ∈ xg := xg_t (i := 581) (by decide +kernel) (by decide +kernel)
def wp_Mo_calls (post : (Nat → Int32) → (Nat → Int32) → Int32 → Prop)  (m_calls : Nat → Int32) (m_row : Nat → Int32) (m_inRow : Int32) (p0 : Int32) (p1 : Int32) (p2 : Int32) : Prop :=
∀ x_1 : Int32, x_1 = ((121 * p0) + (11 * p1)) + p2 →
vp_in x_1 1210 ∧
xj (fun (v_2 : (Nat → Int32) × (Nat → Int32) × Int32) =>
post v_2.1 v_2.2.1 v_2.2.2) (fun (J_3 : (Nat → Int32) × (Nat → Int32) × Int32 → Prop) =>
((¬ (m_calls (Int32.toNatClampNeg x_1)) = 0 →
J_3 (m_calls, m_row, m_inRow)) ∧ ((m_calls (Int32.toNatClampNeg x_1)) = 0 →
vp_in x_1 1210 ∧
∀ m_calls_4 : Nat → Int32, m_calls_4 = upd m_calls (Int32.toNatClampNeg x_1) (vp_nar .boolean 1) →
vp_in m_inRow 1210 ∧
∀ m_row_5 : Nat → Int32, m_row_5 = upd m_row (Int32.toNatClampNeg m_inRow) x_1 →
J_3 (m_calls_4, m_row_5, m_inRow + 1))))
abbrev rm_Mo_calls : Room := { frames := 0, cells := 0, slots := 0, locals := 0 }
set_option maxHeartbeats 4000000 in
set_option maxRecDepth 100000 in
theorem c_Mo_calls {l : Launch} {D : va_G} {ad : Nat → Nat} (CE : (Nat → Int32) → (Nat → Int32) → Int32 → Nat → Option va_E) {cI cZ cJ cO : ClassId} {iM : Nat} {i_places : Nat} {i_ruled : Nat} {i_told : Nat} {i_model : Nat} {i_ofAtom : Nat} {i_left : Nat} {i_right : Nat} {i_size : Nat} {i_calls : Nat} {i_row : Nat} {i_patterns : Nat} {i_values : Nat} {i_by : Nat} {i_choice : Nat} {m_thrown : Int32} {m_predicates : Int32} {m_rules : Int32} {m_begun : Int32} {m_asked : Int32} {m_asksOf : Int32} {m_asksLeft : Int32} {m_asksRight : Int32} {m_hadPredicates : Int32} {m_rewritten : Int32} {m_rule : Int32} {m_atoms : Int32} {m_depth : Int32} (k_M : ∀ (m_calls : Nat → Int32) (m_row : Nat → Int32) (m_inRow : Int32), (CE m_calls m_row m_inRow) iM = some (.inr (4, [.int m_thrown, .ref (ad i_places), .ref (ad i_ruled), .int m_predicates, .ref (ad i_told), .ref (ad i_model), .ref (ad i_ofAtom), .ref (ad i_left), .ref (ad i_right), .ref (ad i_size), .int m_rules, .int m_begun, .int m_asked, .int m_asksOf, .int m_asksLeft, .int m_asksRight, .int m_hadPredicates, .ref (ad i_calls), .ref (ad i_row), .int m_inRow, .ref (ad i_patterns), .int m_rewritten, .ref (ad i_values), .ref (ad i_by), .ref (ad i_choice), .int m_rule, .int m_atoms, .int m_depth]))) (k_calls : ∀ (m_calls : Nat → Int32) (m_row : Nat → Int32) (m_inRow : Int32), (CE m_calls m_row m_inRow) i_calls = some (.inl (cZ, 1210, .inl m_calls))) (k_row : ∀ (m_calls : Nat → Int32) (m_row : Nat → Int32) (m_inRow : Int32), (CE m_calls m_row m_inRow) i_row = some (.inl (cI, 1210, .inl m_row))) (u_M : ∀ (m_calls : Nat → Int32) (m_row : Nat → Int32) (m_inRow : Int32) (m_inRow' : Int32), va_up (CE m_calls m_row m_inRow) iM (some (.inr (4, [.int m_thrown, .ref (ad i_places), .ref (ad i_ruled), .int m_predicates, .ref (ad i_told), .ref (ad i_model), .ref (ad i_ofAtom), .ref (ad i_left), .ref (ad i_right), .ref (ad i_size), .int m_rules, .int m_begun, .int m_asked, .int m_asksOf, .int m_asksLeft, .int m_asksRight, .int m_hadPredicates, .ref (ad i_calls), .ref (ad i_row), .int m_inRow', .ref (ad i_patterns), .int m_rewritten, .ref (ad i_values), .ref (ad i_by), .ref (ad i_choice), .int m_rule, .int m_atoms, .int m_depth]))) = (CE m_calls m_row m_inRow')) (u_calls : ∀ (m_calls : Nat → Int32) (m_row : Nat → Int32) (m_inRow : Int32) (m_calls' : Nat → Int32), va_up (CE m_calls m_row m_inRow) i_calls (some (.inl (cZ, 1210, .inl m_calls'))) = (CE m_calls' m_row m_inRow)) (u_row : ∀ (m_calls : Nat → Int32) (m_row : Nat → Int32) (m_inRow : Int32) (m_row' : Nat → Int32), va_up (CE m_calls m_row m_inRow) i_row (some (.inl (cI, 1210, .inl m_row'))) = (CE m_calls m_row' m_inRow)) {post : (Nat → Int32) → (Nat → Int32) → Int32 → Prop} {m_calls : Nat → Int32} {m_row : Nat → Int32} {m_inRow : Int32} {p0 : Int32} {p1 : Int32} {p2 : Int32} (h : wp_Mo_calls post m_calls m_row m_inRow p0 p1 p2) : ∀ sz, Met l y_Mo_calls (Cond.code y_Mo_calls b_Mo_calls 5 none :: xg) rm_Mo_calls (xm_Pc D xcl (xT cI cZ cJ cO) ad (CE m_calls m_row m_inRow) sz [.ref (ad iM), .int p0, .int p1, .int p2]) (va_Qv (fun u : (Nat → Int32) × (Nat → Int32) × Int32 => post u.1 u.2.1 u.2.2) (xm_B D xcl (xT cI cZ cJ cO) (xm_A ad (CE m_calls m_row m_inRow) sz) (fun _ => ad) (fun u : (Nat → Int32) × (Nat → Int32) × Int32 => CE u.1 u.2.1 u.2.2)) (xm_A ad (CE m_calls m_row m_inRow) sz)) 0 0 (xm_A ad (CE m_calls m_row m_inRow) sz) := by
  refine xm_ofW (cc := b_Mo_calls) (maxL := 5) (ret := none) (by decide) rfl (Nat.le_of_ble_eq_true rfl) ?_
  intro p e s m args below meth c ls QQ hQQ hx hb hml hr hown hlk hnm hts hl hw
  have hl : lv_has ls 5 [(0, .ref (ad iM)), (1, .int p0), (2, .int p1), (3, .int p2)] := hl
  unfold wp_Mo_calls at h
  refine lv_bipush (v := 121) hx hb d_Mo_calls_0 (by decide) ?_
  refine lv_iload_n hx hb d_Mo_calls_2 rfl (lv_at hl 1 rfl) ?_
  refine lv_imul hx hb d_Mo_calls_3 ?_
  refine lv_bipush (v := 11) hx hb d_Mo_calls_4 (by decide) ?_
  refine lv_iload_n hx hb d_Mo_calls_6 rfl (lv_at hl 2 rfl) ?_
  refine lv_imul hx hb d_Mo_calls_7 ?_
  refine lv_iadd hx hb d_Mo_calls_8 ?_
  refine lv_iload_n hx hb d_Mo_calls_9 rfl (lv_at hl 3 rfl) ?_
  refine lv_iadd hx hb d_Mo_calls_10 ?_
  refine lv_topi (fun x_1 ex_1 => ?_)
  have h := h x_1 ex_1
  refine lv_istore (lv' := [(4, .int x_1), (0, .ref (ad iM)), (1, .int p0), (2, .int p1), (3, .int p2)]) hx hb d_Mo_calls_11 hl (by decide) rfl (fun ls hl => ?_)
  refine lv_aload_n hx hb d_Mo_calls_13 rfl (lv_at hl 1 rfl) ?_
  refine xm_get (D := D) (v := .ref (ad i_calls)) (C := R_Mo) (T := F_Mo) (N := 28) hx hb hts (fun w h => List.mem_cons_of_mem _ (i_Mo w h)) hown hw (k_M m_calls m_row m_inRow) rfl 17 (by decide) (hts _ (List.mem_cons_of_mem _ xw_579)) (fun _ h9 => h9) rfl d_Mo_calls_14 ?_
  refine lv_iload hx hb d_Mo_calls_17 (lv_at hl 0 rfl) ?_
  obtain ⟨hin, h⟩ := h
  refine xm_zald hx hb hw 1 (k_calls m_calls m_row m_inRow) rfl hin d_Mo_calls_19 ?_
  refine xj_use h (fun (v_2 : (Nat → Int32) × (Nat → Int32) × Int32) => ∀ (H : Heap) (locs : List Loc) (ls : Array Slot), xm_W D xcl (xT cI cZ cJ cO) (xm_A ad (CE m_calls m_row m_inRow) s.heap.size) ad (CE v_2.1 v_2.2.1 v_2.2.2) s s.heap H locs → lv_has ls 5 [] → W p l e rm_Mo_calls s m args below meth c H locs 0 0 QQ (F0 m 52 ls [])) (fun v_2 h H locs ls hw hl => ?_) (fun J_3 hJ_3 h => ?_)
  · subst hQQ
    exact xm_vret hx hb hr hlk hw (v_2.1, v_2.2.1, v_2.2.2) rfl rfl h d_Mo_calls_52
  · refine lv_if_ne (tgt := 52) hx hb d_Mo_calls_20 (by decide) (fun hc => ?_) (fun hc => ?_)
    · have h := h.1 hc
      exact hJ_3 (m_calls, m_row, m_inRow) h _ _ _ hw (lv_sub hl [] rfl)
    · have h := h.2 hc
      refine lv_aload_n hx hb d_Mo_calls_23 rfl (lv_at hl 1 rfl) ?_
      refine xm_get (D := D) (v := .ref (ad i_calls)) (C := R_Mo) (T := F_Mo) (N := 28) hx hb hts (fun w h => List.mem_cons_of_mem _ (i_Mo w h)) hown hw (k_M m_calls m_row m_inRow) rfl 17 (by decide) (hts _ (List.mem_cons_of_mem _ xw_579)) (fun _ h9 => h9) rfl d_Mo_calls_24 ?_
      refine lv_iload hx hb d_Mo_calls_27 (lv_at hl 0 rfl) ?_
      refine lv_iconst (v := 1) hx hb d_Mo_calls_29 (by decide) ?_
      obtain ⟨hin, h⟩ := h
      refine xm_zast hx hb hw 1 (k_calls m_calls m_row m_inRow) rfl hin d_Mo_calls_30 (fun H locs hw => ?_)
      have hw : xm_W D xcl (xT cI cZ cJ cO) (xm_A ad (CE m_calls m_row m_inRow) s.heap.size) ad (CE (upd m_calls (Int32.toNatClampNeg x_1) (vp_nar .boolean 1)) m_row m_inRow) s s.heap H locs := xm_W.cast (u_calls m_calls m_row m_inRow (upd m_calls (Int32.toNatClampNeg x_1) (vp_nar .boolean 1))) hw
      obtain ⟨m_calls_4, em_calls_4⟩ : ∃ z : Nat → Int32, z = upd m_calls (Int32.toNatClampNeg x_1) (vp_nar .boolean 1) := ⟨_, rfl⟩
      have h := h m_calls_4 em_calls_4
      rw [← em_calls_4] at hw
      refine lv_aload_n hx hb d_Mo_calls_31 rfl (lv_at hl 1 rfl) ?_
      refine xm_get (D := D) (v := .ref (ad i_row)) (C := R_Mo) (T := F_Mo) (N := 28) hx hb hts (fun w h => List.mem_cons_of_mem _ (i_Mo w h)) hown hw (k_M m_calls_4 m_row m_inRow) rfl 18 (by decide) (hts _ (List.mem_cons_of_mem _ xw_580)) (fun _ h9 => h9) rfl d_Mo_calls_32 ?_
      refine lv_aload_n hx hb d_Mo_calls_35 rfl (lv_at hl 1 rfl) ?_
      refine xm_get (D := D) (v := .int m_inRow) (C := R_Mo) (T := F_Mo) (N := 28) hx hb hts (fun w h => List.mem_cons_of_mem _ (i_Mo w h)) hown hw (k_M m_calls_4 m_row m_inRow) rfl 19 (by decide) (hts _ (List.mem_cons_of_mem _ xw_581)) (fun _ h9 => h9) rfl d_Mo_calls_36 ?_
      refine lv_iload hx hb d_Mo_calls_39 (lv_at hl 0 rfl) ?_
      obtain ⟨hin, h⟩ := h
      refine xm_iast hx hb hw 0 (k_row m_calls_4 m_row m_inRow) rfl hin d_Mo_calls_41 (fun H locs hw => ?_)
      have hw : xm_W D xcl (xT cI cZ cJ cO) (xm_A ad (CE m_calls m_row m_inRow) s.heap.size) ad (CE m_calls_4 (upd m_row (Int32.toNatClampNeg m_inRow) x_1) m_inRow) s s.heap H locs := xm_W.cast (u_row m_calls_4 m_row m_inRow (upd m_row (Int32.toNatClampNeg m_inRow) x_1)) hw
      obtain ⟨m_row_5, em_row_5⟩ : ∃ z : Nat → Int32, z = upd m_row (Int32.toNatClampNeg m_inRow) x_1 := ⟨_, rfl⟩
      have h := h m_row_5 em_row_5
      rw [← em_row_5] at hw
      refine lv_aload_n hx hb d_Mo_calls_42 rfl (lv_at hl 1 rfl) ?_
      refine lv_dup hx hb d_Mo_calls_43 rfl ?_
      refine xm_get (D := D) (v := .int m_inRow) (C := R_Mo) (T := F_Mo) (N := 28) hx hb hts (fun w h => List.mem_cons_of_mem _ (i_Mo w h)) hown hw (k_M m_calls_4 m_row_5 m_inRow) rfl 19 (by decide) (hts _ (List.mem_cons_of_mem _ xw_581)) (fun _ h9 => h9) rfl d_Mo_calls_44 ?_
      refine lv_iconst (v := 1) hx hb d_Mo_calls_47 (by decide) ?_
      refine lv_iadd hx hb d_Mo_calls_48 ?_
      refine xm_put (D := D) (v := .int (m_inRow + 1)) (ty := .int) (C := R_Mo) (T := F_Mo) (N := 28) hx hb hts (fun w h => List.mem_cons_of_mem _ (i_Mo w h)) t_Mo o_Mo n_Mo hown hw (k_M m_calls_4 m_row_5 m_inRow) rfl 19 (by decide) (hts _ (List.mem_cons_of_mem _ xw_581)) (fun _ h9 => h9) rfl (by decide +kernel) rfl rfl (Nat.le_of_ble_eq_true rfl) d_Mo_calls_49 (fun H locs hw => ?_)
      have hw : xm_W D xcl (xT cI cZ cJ cO) (xm_A ad (CE m_calls m_row m_inRow) s.heap.size) ad (CE m_calls_4 m_row_5 (m_inRow + 1)) s s.heap H locs := xm_W.cast (u_M m_calls_4 m_row_5 m_inRow (m_inRow + 1)) hw
      exact hJ_3 (m_calls_4, m_row_5, m_inRow + 1) h _ _ _ hw (lv_sub hl [] rfl)
def wp_Mo_called_II (post : Int32 → Prop)  (m_values : Nat → Int32) (p0 : Int32) : Prop :=
((0 ≤ p0 →
wp_Mo_value (fun r_1 =>
xj (fun (v_3 : Int32) =>
post v_3) (fun (J_4 : Int32 → Prop) =>
((¬ r_1 = (-1) →
J_4 r_1) ∧ (r_1 = (-1) →
J_4 10)))) m_values p0) ∧ (¬ 0 ≤ p0 →
post 10))
abbrev rm_Mo_called_II : Room := { frames := 1, cells := 0, slots := 0, locals := 21 }
set_option maxHeartbeats 4000000 in
set_option maxRecDepth 100000 in
theorem c_Mo_called_II {l : Launch} {D : va_G} {ad : Nat → Nat} (CE : Nat → Option va_E) {cI cZ cJ cO : ClassId} {iM : Nat} {i_places : Nat} {i_ruled : Nat} {i_told : Nat} {i_model : Nat} {i_ofAtom : Nat} {i_left : Nat} {i_right : Nat} {i_size : Nat} {i_calls : Nat} {i_row : Nat} {i_patterns : Nat} {i_values : Nat} {i_by : Nat} {i_choice : Nat} {m_values : Nat → Int32} {m_thrown : Int32} {m_predicates : Int32} {m_rules : Int32} {m_begun : Int32} {m_asked : Int32} {m_asksOf : Int32} {m_asksLeft : Int32} {m_asksRight : Int32} {m_hadPredicates : Int32} {m_inRow : Int32} {m_rewritten : Int32} {m_rule : Int32} {m_atoms : Int32} {m_depth : Int32} (k_M : CE iM = some (.inr (4, [.int m_thrown, .ref (ad i_places), .ref (ad i_ruled), .int m_predicates, .ref (ad i_told), .ref (ad i_model), .ref (ad i_ofAtom), .ref (ad i_left), .ref (ad i_right), .ref (ad i_size), .int m_rules, .int m_begun, .int m_asked, .int m_asksOf, .int m_asksLeft, .int m_asksRight, .int m_hadPredicates, .ref (ad i_calls), .ref (ad i_row), .int m_inRow, .ref (ad i_patterns), .int m_rewritten, .ref (ad i_values), .ref (ad i_by), .ref (ad i_choice), .int m_rule, .int m_atoms, .int m_depth]))) (k_values : CE i_values = some (.inl (cI, 8, .inl m_values))) {post : Int32 → Prop} {p0 : Int32} (h : wp_Mo_called_II post m_values p0) : ∀ sz, Met l y_Mo_called_II (Cond.code y_Mo_called_II b_Mo_called_II 3 (some .int) :: xg) rm_Mo_called_II (xm_Pc D xcl (xT cI cZ cJ cO) ad CE sz [.ref (ad iM), .int p0]) (va_Qi (fun (r : Int32) (_ : Unit) => post r) (xm_B D xcl (xT cI cZ cJ cO) (xm_A ad CE sz) (fun _ => ad) (fun _ : Unit => CE)) (xm_A ad CE sz)) 0 0 (xm_A ad CE sz) := by
  refine xm_ofW (cc := b_Mo_called_II) (maxL := 3) (ret := (some .int)) (by decide) rfl (Nat.le_of_ble_eq_true rfl) ?_
  intro p e s m args below meth c ls QQ hQQ hx hb hml hr hown hlk hnm hts hl hw
  have hl : lv_has ls 3 [(0, .ref (ad iM)), (1, .int p0)] := hl
  unfold wp_Mo_called_II at h
  refine lv_iload_n hx hb d_Mo_called_II_0 rfl (lv_at hl 1 rfl) ?_
  refine lv_if_ge (tgt := 7) hx hb d_Mo_called_II_1 (by decide) (fun hc => ?_) (fun hc => ?_)
  · have h := h.1 hc
    refine lv_aload_n hx hb d_Mo_called_II_7 rfl (lv_at hl 0 rfl) ?_
    refine lv_iload_n hx hb d_Mo_called_II_8 rfl (lv_at hl 1 rfl) ?_
    refine xm_calli (ua := fun _ => ad) (va_runV (As := [.int p0]) (rest := []) ⟨hx, hb, hml, hown, hts⟩ (c_Mo_value (D := D) (ad := ad) (CE := (CE))  k_M k_values h _) (xg_cwV 1 hts xw_740 xw_737 xw_739 xw_p35 xw_8 rfl rfl (by decide +kernel) ⟨Nat.le_of_ble_eq_true rfl, Nat.le_of_ble_eq_true rfl⟩) (xm_preV hw k_M rfl _) rfl rfl hl.1 rfl (lv_room (Nat.le_of_ble_eq_true rfl)) d_Mo_called_II_9 ⟨Nat.le_of_ble_eq_true rfl, Nat.le_of_ble_eq_true rfl⟩) hw (fun r_1 _ H locs h hw => ?_)
    refine lv_istore_n (lv' := [(2, .int r_1), (0, .ref (ad iM)), (1, .int p0)]) hx hb d_Mo_called_II_12 rfl hl (by decide) rfl (fun ls hl => ?_)
    refine lv_iload_n hx hb d_Mo_called_II_13 rfl (lv_at hl 0 rfl) ?_
    refine lv_iconst (v := (-1)) hx hb d_Mo_called_II_14 (by decide) ?_
    refine xj_use h (fun (v_3 : Int32) => ∀ (H : Heap) (locs : List Loc) (ls : Array Slot), xm_W D xcl (xT cI cZ cJ cO) (xm_A ad CE s.heap.size) ad CE s s.heap H locs → lv_has ls 3 [] → W p l e rm_Mo_called_II s m args below meth c H locs 0 0 QQ (F0 m 24 ls [.int v_3])) (fun v_3 h H locs ls hw hl => ?_) (fun J_4 hJ_4 h => ?_)
    · subst hQQ
      exact xm_iret hx hb hr hlk hw () rfl rfl h d_Mo_called_II_24
    · refine lv_icmp_ne (tgt := 23) hx hb d_Mo_called_II_15 (by decide) (fun hc => ?_) (fun hc => ?_)
      · have h := h.1 hc
        refine lv_iload_n hx hb d_Mo_called_II_23 rfl (lv_at hl 0 rfl) ?_
        exact hJ_4 r_1 h _ _ _ hw (lv_sub hl [] rfl)
      · have h := h.2 hc
        refine lv_bipush (v := 10) hx hb d_Mo_called_II_18 (by decide) ?_
        refine lv_goto (tgt := 24) hx hb d_Mo_called_II_20 (by decide) ?_
        exact hJ_4 10 h _ _ _ hw (lv_sub hl [] rfl)
  · have h := h.2 hc
    refine lv_bipush (v := 10) hx hb d_Mo_called_II_4 (by decide) ?_
    subst hQQ
    exact xm_iret hx hb hr hlk hw () rfl rfl h d_Mo_called_II_6
theorem xw_748 : (Jvm.Cond.code ({ cls := "QuestionDeskModel", name := "calls", desc := "(III)V" } : Jvm.MethodName) prog_6_method_25_code (5 : Nat) (Option.none : Option Jvm.ClassFile.FieldType)) ∈ xg := xg_t (i := 748) (by decide +kernel) (by decide +kernel)
theorem xw_745 : (Jvm.Cond.methodLink "QuestionDeskModel" (134 : Nat) ({ cls := "QuestionDeskModel", name := "calls", desc := "(III)V" } : Jvm.MethodName)) ∈ xg := xg_t (i := 745) (by decide +kernel) (by decide +kernel)
theorem xw_747 : (Jvm.Cond.instanceMethod ({ cls := "QuestionDeskModel", name := "calls", desc := "(III)V" } : Jvm.MethodName)) ∈ xg := xg_t (i := 747) (by decide +kernel) (by decide +kernel)
theorem xw_p37 : Cond.selects "QuestionDeskModel" ⟨"QuestionDeskModel", "calls", "(III)V"⟩ ⟨"QuestionDeskModel", "calls", "(III)V"⟩ ∈ xg := xg_p (q := (⟨"QuestionDeskModel", "calls", "(III)V"⟩, 28)) (i := 37) (by decide +kernel) (by decide +kernel)
theorem xw_756 : (Jvm.Cond.code ({ cls := "QuestionDeskModel", name := "called", desc := "(I)I" } : Jvm.MethodName) prog_6_method_26_code (3 : Nat) (Option.some Jvm.ClassFile.FieldType.int)) ∈ xg := xg_t (i := 756) (by decide +kernel) (by decide +kernel)
theorem xw_753 : (Jvm.Cond.methodLink "QuestionDeskModel" (131 : Nat) ({ cls := "QuestionDeskModel", name := "called", desc := "(I)I" } : Jvm.MethodName)) ∈ xg := xg_t (i := 753) (by decide +kernel) (by decide +kernel)
theorem xw_755 : (Jvm.Cond.instanceMethod ({ cls := "QuestionDeskModel", name := "called", desc := "(I)I" } : Jvm.MethodName)) ∈ xg := xg_t (i := 755) (by decide +kernel) (by decide +kernel)
theorem xw_p39 : Cond.selects "QuestionDeskModel" ⟨"QuestionDeskModel", "called", "(I)I"⟩ ⟨"QuestionDeskModel", "called", "(I)I"⟩ ∈ xg := xg_p (q := (⟨"QuestionDeskModel", "called", "(I)I"⟩, 28)) (i := 39) (by decide +kernel) (by decide +kernel)
def wp_Mo_follows (post : (Nat → Int32) → (Nat → Int32) → Int32 → (Nat → Int32) → (Nat → Int32) → (Nat → Int32) → Int32 → Int32 → Int32 → Prop)  (m_model : Nat → Int32) (m_ofAtom : Nat → Int32) (m_left : Nat → Int32) (m_right : Nat → Int32) (m_calls : Nat → Int32) (m_row : Nat → Int32) (m_inRow : Int32) (m_values : Nat → Int32) (m_by : Nat → Int32) (m_choice : Nat → Int32) (m_rule : Int32) (m_atoms : Int32) (m_depth : Int32) (p0 : Int32) (p1 : Int32) (p2 : Int32) (p3 : Int32) : Prop :=
∀ x_1 : Int32, x_1 = 4 * p0 →
∀ x_2 : Int32, x_2 = (x_1 + 1) + p1 →
wp_Mo_begins (fun m_values_5 m_by_6 m_choice_7 m_rule_8 m_atoms_9 m_depth_10 =>
xj (fun (v_11 : Int32 × (Nat → Int32) × (Nat → Int32) × Int32 × (Nat → Int32) × (Nat → Int32) × (Nat → Int32) × Int32 × Int32 × Int32) =>
((¬ v_11.1 = 0 →
((¬ p1 = 0 →
xL (fun (K_14 : (Nat → Int32) × (Nat → Int32) × Int32 × (Nat → Int32) × (Nat → Int32) × (Nat → Int32) × Int32 × Int32 × Int32 → Prop) (v_13 : (Nat → Int32) × (Nat → Int32) × Int32 × (Nat → Int32) × (Nat → Int32) × (Nat → Int32) × Int32 × Int32 × Int32) =>
wp_Mo_goes (fun r_15 m_values_17 m_by_18 m_choice_19 m_atoms_20 m_depth_21 =>
((r_15 = 0 →
post v_13.1 v_13.2.1 v_13.2.2.1 m_values_17 m_by_18 m_choice_19 v_13.2.2.2.2.2.2.1 m_atoms_20 m_depth_21) ∧ (¬ r_15 = 0 →
vp_in x_2 124 ∧
vp_in x_2 124 ∧
wp_Mo_called_II (fun r_22 =>
vp_in x_2 124 ∧
wp_Mo_called_II (fun r_24 =>
wp_Mo_calls (fun m_calls_28 m_row_29 m_inRow_30 =>
K_14 (m_calls_28, m_row_29, m_inRow_30, m_values_17, m_by_18, m_choice_19, v_13.2.2.2.2.2.2.1, m_atoms_20, m_depth_21)) v_13.1 v_13.2.1 v_13.2.2.1 (m_ofAtom (Int32.toNatClampNeg x_2)) r_22 r_24) m_values_17 (m_right (Int32.toNatClampNeg x_2))) m_values_17 (m_left (Int32.toNatClampNeg x_2))))) m_model m_ofAtom m_left m_right v_13.2.2.2.2.2.2.1 v_13.2.2.2.1 v_13.2.2.2.2.1 v_13.2.2.2.2.2.1 v_13.2.2.2.2.2.2.2.1 v_13.2.2.2.2.2.2.2.2) (v_11.2.1, v_11.2.2.1, v_11.2.2.2.1, v_11.2.2.2.2.1, v_11.2.2.2.2.2.1, v_11.2.2.2.2.2.2.1, v_11.2.2.2.2.2.2.2.1, v_11.2.2.2.2.2.2.2.2.1, v_11.2.2.2.2.2.2.2.2.2)) ∧ (p1 = 0 →
vp_in x_2 124 ∧
vp_in x_2 124 ∧
wp_Mo_called_II (fun r_31 =>
vp_in x_2 124 ∧
wp_Mo_called_II (fun r_33 =>
wp_Mo_calls (fun m_calls_37 m_row_38 m_inRow_39 =>
post m_calls_37 m_row_38 m_inRow_39 v_11.2.2.2.2.1 v_11.2.2.2.2.2.1 v_11.2.2.2.2.2.2.1 v_11.2.2.2.2.2.2.2.1 v_11.2.2.2.2.2.2.2.2.1 v_11.2.2.2.2.2.2.2.2.2) v_11.2.1 v_11.2.2.1 v_11.2.2.2.1 (m_ofAtom (Int32.toNatClampNeg x_2)) r_31 r_33) v_11.2.2.2.2.1 (m_right (Int32.toNatClampNeg x_2))) v_11.2.2.2.2.1 (m_left (Int32.toNatClampNeg x_2))))) ∧ (v_11.1 = 0 →
post v_11.2.1 v_11.2.2.1 v_11.2.2.2.1 v_11.2.2.2.2.1 v_11.2.2.2.2.2.1 v_11.2.2.2.2.2.2.1 v_11.2.2.2.2.2.2.2.1 v_11.2.2.2.2.2.2.2.2.1 v_11.2.2.2.2.2.2.2.2.2))) (fun (J_12 : Int32 × (Nat → Int32) × (Nat → Int32) × Int32 × (Nat → Int32) × (Nat → Int32) × (Nat → Int32) × Int32 × Int32 × Int32 → Prop) =>
xj (fun (v_40 : (Nat → Int32) × (Nat → Int32) × Int32 × (Nat → Int32) × (Nat → Int32) × (Nat → Int32) × Int32 × Int32 × Int32) =>
J_12 (0, v_40.1, v_40.2.1, v_40.2.2.1, v_40.2.2.2.1, v_40.2.2.2.2.1, v_40.2.2.2.2.2.1, v_40.2.2.2.2.2.2.1, v_40.2.2.2.2.2.2.2.1, v_40.2.2.2.2.2.2.2.2)) (fun (J_41 : (Nat → Int32) × (Nat → Int32) × Int32 × (Nat → Int32) × (Nat → Int32) × (Nat → Int32) × Int32 × Int32 × Int32 → Prop) =>
xj (fun (v_42 : (Nat → Int32) × (Nat → Int32) × Int32 × (Nat → Int32) × (Nat → Int32) × (Nat → Int32) × Int32 × Int32 × Int32) =>
xj (fun (v_44 : (Nat → Int32) × (Nat → Int32) × Int32 × (Nat → Int32) × (Nat → Int32) × (Nat → Int32) × Int32 × Int32 × Int32) =>
J_12 (1, v_44.1, v_44.2.1, v_44.2.2.1, v_44.2.2.2.1, v_44.2.2.2.2.1, v_44.2.2.2.2.2.1, v_44.2.2.2.2.2.2.1, v_44.2.2.2.2.2.2.2.1, v_44.2.2.2.2.2.2.2.2)) (fun (J_45 : (Nat → Int32) × (Nat → Int32) × Int32 × (Nat → Int32) × (Nat → Int32) × (Nat → Int32) × Int32 × Int32 × Int32 → Prop) =>
((p3 = 10 →
J_45 (v_42.1, v_42.2.1, v_42.2.2.1, v_42.2.2.2.1, v_42.2.2.2.2.1, v_42.2.2.2.2.2.1, v_42.2.2.2.2.2.2.1, v_42.2.2.2.2.2.2.2.1, v_42.2.2.2.2.2.2.2.2)) ∧ (¬ p3 = 10 →
vp_in x_1 124 ∧
wp_Mo_takes (fun r_46 m_values_48 m_by_49 =>
((r_46 = 0 →
J_41 (v_42.1, v_42.2.1, v_42.2.2.1, m_values_48, m_by_49, v_42.2.2.2.2.2.1, v_42.2.2.2.2.2.2.1, v_42.2.2.2.2.2.2.2.1, v_42.2.2.2.2.2.2.2.2)) ∧ (¬ r_46 = 0 →
J_45 (v_42.1, v_42.2.1, v_42.2.2.1, m_values_48, m_by_49, v_42.2.2.2.2.2.1, v_42.2.2.2.2.2.2.1, v_42.2.2.2.2.2.2.2.1, v_42.2.2.2.2.2.2.2.2)))) v_42.2.2.2.1 v_42.2.2.2.2.1 (m_right (Int32.toNatClampNeg x_1)) p3 (-1))))) (fun (J_43 : (Nat → Int32) × (Nat → Int32) × Int32 × (Nat → Int32) × (Nat → Int32) × (Nat → Int32) × Int32 × Int32 × Int32 → Prop) =>
((p2 = 10 →
J_43 (m_calls, m_row, m_inRow, m_values_5, m_by_6, m_choice_7, m_rule_8, m_atoms_9, m_depth_10)) ∧ (¬ p2 = 10 →
vp_in x_1 124 ∧
wp_Mo_takes (fun r_50 m_values_52 m_by_53 =>
((r_50 = 0 →
J_41 (m_calls, m_row, m_inRow, m_values_52, m_by_53, m_choice_7, m_rule_8, m_atoms_9, m_depth_10)) ∧ (¬ r_50 = 0 →
J_43 (m_calls, m_row, m_inRow, m_values_52, m_by_53, m_choice_7, m_rule_8, m_atoms_9, m_depth_10)))) m_values_5 m_by_6 (m_left (Int32.toNatClampNeg x_1)) p2 (-1))))))) m_values m_by m_choice m_rule m_atoms m_depth p0 p1
abbrev rm_Mo_follows : Room := { frames := 3, cells := 0, slots := 0, locals := 66 }
set_option maxHeartbeats 4000000 in
set_option maxRecDepth 100000 in
theorem c_Mo_follows {l : Launch} {D : va_G} {ad : Nat → Nat} (CE : (Nat → Int32) → (Nat → Int32) → Int32 → (Nat → Int32) → (Nat → Int32) → (Nat → Int32) → Int32 → Int32 → Int32 → Nat → Option va_E) {cI cZ cJ cO : ClassId} {iM : Nat} {i_places : Nat} {i_ruled : Nat} {i_told : Nat} {i_model : Nat} {i_ofAtom : Nat} {i_left : Nat} {i_right : Nat} {i_size : Nat} {i_calls : Nat} {i_row : Nat} {i_patterns : Nat} {i_values : Nat} {i_by : Nat} {i_choice : Nat} {m_model : Nat → Int32} {m_ofAtom : Nat → Int32} {m_left : Nat → Int32} {m_right : Nat → Int32} {m_thrown : Int32} {m_predicates : Int32} {m_rules : Int32} {m_begun : Int32} {m_asked : Int32} {m_asksOf : Int32} {m_asksLeft : Int32} {m_asksRight : Int32} {m_hadPredicates : Int32} {m_rewritten : Int32} (k_M : ∀ (m_calls : Nat → Int32) (m_row : Nat → Int32) (m_inRow : Int32) (m_values : Nat → Int32) (m_by : Nat → Int32) (m_choice : Nat → Int32) (m_rule : Int32) (m_atoms : Int32) (m_depth : Int32), (CE m_calls m_row m_inRow m_values m_by m_choice m_rule m_atoms m_depth) iM = some (.inr (4, [.int m_thrown, .ref (ad i_places), .ref (ad i_ruled), .int m_predicates, .ref (ad i_told), .ref (ad i_model), .ref (ad i_ofAtom), .ref (ad i_left), .ref (ad i_right), .ref (ad i_size), .int m_rules, .int m_begun, .int m_asked, .int m_asksOf, .int m_asksLeft, .int m_asksRight, .int m_hadPredicates, .ref (ad i_calls), .ref (ad i_row), .int m_inRow, .ref (ad i_patterns), .int m_rewritten, .ref (ad i_values), .ref (ad i_by), .ref (ad i_choice), .int m_rule, .int m_atoms, .int m_depth]))) (k_model : ∀ (m_calls : Nat → Int32) (m_row : Nat → Int32) (m_inRow : Int32) (m_values : Nat → Int32) (m_by : Nat → Int32) (m_choice : Nat → Int32) (m_rule : Int32) (m_atoms : Int32) (m_depth : Int32), (CE m_calls m_row m_inRow m_values m_by m_choice m_rule m_atoms m_depth) i_model = some (.inl (cZ, 1000, .inl m_model))) (k_ofAtom : ∀ (m_calls : Nat → Int32) (m_row : Nat → Int32) (m_inRow : Int32) (m_values : Nat → Int32) (m_by : Nat → Int32) (m_choice : Nat → Int32) (m_rule : Int32) (m_atoms : Int32) (m_depth : Int32), (CE m_calls m_row m_inRow m_values m_by m_choice m_rule m_atoms m_depth) i_ofAtom = some (.inl (cI, 124, .inl m_ofAtom))) (k_left : ∀ (m_calls : Nat → Int32) (m_row : Nat → Int32) (m_inRow : Int32) (m_values : Nat → Int32) (m_by : Nat → Int32) (m_choice : Nat → Int32) (m_rule : Int32) (m_atoms : Int32) (m_depth : Int32), (CE m_calls m_row m_inRow m_values m_by m_choice m_rule m_atoms m_depth) i_left = some (.inl (cI, 124, .inl m_left))) (k_right : ∀ (m_calls : Nat → Int32) (m_row : Nat → Int32) (m_inRow : Int32) (m_values : Nat → Int32) (m_by : Nat → Int32) (m_choice : Nat → Int32) (m_rule : Int32) (m_atoms : Int32) (m_depth : Int32), (CE m_calls m_row m_inRow m_values m_by m_choice m_rule m_atoms m_depth) i_right = some (.inl (cI, 124, .inl m_right))) (k_calls : ∀ (m_calls : Nat → Int32) (m_row : Nat → Int32) (m_inRow : Int32) (m_values : Nat → Int32) (m_by : Nat → Int32) (m_choice : Nat → Int32) (m_rule : Int32) (m_atoms : Int32) (m_depth : Int32), (CE m_calls m_row m_inRow m_values m_by m_choice m_rule m_atoms m_depth) i_calls = some (.inl (cZ, 1210, .inl m_calls))) (k_row : ∀ (m_calls : Nat → Int32) (m_row : Nat → Int32) (m_inRow : Int32) (m_values : Nat → Int32) (m_by : Nat → Int32) (m_choice : Nat → Int32) (m_rule : Int32) (m_atoms : Int32) (m_depth : Int32), (CE m_calls m_row m_inRow m_values m_by m_choice m_rule m_atoms m_depth) i_row = some (.inl (cI, 1210, .inl m_row))) (k_values : ∀ (m_calls : Nat → Int32) (m_row : Nat → Int32) (m_inRow : Int32) (m_values : Nat → Int32) (m_by : Nat → Int32) (m_choice : Nat → Int32) (m_rule : Int32) (m_atoms : Int32) (m_depth : Int32), (CE m_calls m_row m_inRow m_values m_by m_choice m_rule m_atoms m_depth) i_values = some (.inl (cI, 8, .inl m_values))) (k_by : ∀ (m_calls : Nat → Int32) (m_row : Nat → Int32) (m_inRow : Int32) (m_values : Nat → Int32) (m_by : Nat → Int32) (m_choice : Nat → Int32) (m_rule : Int32) (m_atoms : Int32) (m_depth : Int32), (CE m_calls m_row m_inRow m_values m_by m_choice m_rule m_atoms m_depth) i_by = some (.inl (cI, 8, .inl m_by))) (k_choice : ∀ (m_calls : Nat → Int32) (m_row : Nat → Int32) (m_inRow : Int32) (m_values : Nat → Int32) (m_by : Nat → Int32) (m_choice : Nat → Int32) (m_rule : Int32) (m_atoms : Int32) (m_depth : Int32), (CE m_calls m_row m_inRow m_values m_by m_choice m_rule m_atoms m_depth) i_choice = some (.inl (cI, 4, .inl m_choice))) (u_M : ∀ (m_calls : Nat → Int32) (m_row : Nat → Int32) (m_inRow : Int32) (m_values : Nat → Int32) (m_by : Nat → Int32) (m_choice : Nat → Int32) (m_rule : Int32) (m_atoms : Int32) (m_depth : Int32) (m_inRow' : Int32) (m_rule' : Int32) (m_atoms' : Int32) (m_depth' : Int32), va_up (CE m_calls m_row m_inRow m_values m_by m_choice m_rule m_atoms m_depth) iM (some (.inr (4, [.int m_thrown, .ref (ad i_places), .ref (ad i_ruled), .int m_predicates, .ref (ad i_told), .ref (ad i_model), .ref (ad i_ofAtom), .ref (ad i_left), .ref (ad i_right), .ref (ad i_size), .int m_rules, .int m_begun, .int m_asked, .int m_asksOf, .int m_asksLeft, .int m_asksRight, .int m_hadPredicates, .ref (ad i_calls), .ref (ad i_row), .int m_inRow', .ref (ad i_patterns), .int m_rewritten, .ref (ad i_values), .ref (ad i_by), .ref (ad i_choice), .int m_rule', .int m_atoms', .int m_depth']))) = (CE m_calls m_row m_inRow' m_values m_by m_choice m_rule' m_atoms' m_depth')) (u_calls : ∀ (m_calls : Nat → Int32) (m_row : Nat → Int32) (m_inRow : Int32) (m_values : Nat → Int32) (m_by : Nat → Int32) (m_choice : Nat → Int32) (m_rule : Int32) (m_atoms : Int32) (m_depth : Int32) (m_calls' : Nat → Int32), va_up (CE m_calls m_row m_inRow m_values m_by m_choice m_rule m_atoms m_depth) i_calls (some (.inl (cZ, 1210, .inl m_calls'))) = (CE m_calls' m_row m_inRow m_values m_by m_choice m_rule m_atoms m_depth)) (u_row : ∀ (m_calls : Nat → Int32) (m_row : Nat → Int32) (m_inRow : Int32) (m_values : Nat → Int32) (m_by : Nat → Int32) (m_choice : Nat → Int32) (m_rule : Int32) (m_atoms : Int32) (m_depth : Int32) (m_row' : Nat → Int32), va_up (CE m_calls m_row m_inRow m_values m_by m_choice m_rule m_atoms m_depth) i_row (some (.inl (cI, 1210, .inl m_row'))) = (CE m_calls m_row' m_inRow m_values m_by m_choice m_rule m_atoms m_depth)) (u_values : ∀ (m_calls : Nat → Int32) (m_row : Nat → Int32) (m_inRow : Int32) (m_values : Nat → Int32) (m_by : Nat → Int32) (m_choice : Nat → Int32) (m_rule : Int32) (m_atoms : Int32) (m_depth : Int32) (m_values' : Nat → Int32), va_up (CE m_calls m_row m_inRow m_values m_by m_choice m_rule m_atoms m_depth) i_values (some (.inl (cI, 8, .inl m_values'))) = (CE m_calls m_row m_inRow m_values' m_by m_choice m_rule m_atoms m_depth)) (u_by : ∀ (m_calls : Nat → Int32) (m_row : Nat → Int32) (m_inRow : Int32) (m_values : Nat → Int32) (m_by : Nat → Int32) (m_choice : Nat → Int32) (m_rule : Int32) (m_atoms : Int32) (m_depth : Int32) (m_by' : Nat → Int32), va_up (CE m_calls m_row m_inRow m_values m_by m_choice m_rule m_atoms m_depth) i_by (some (.inl (cI, 8, .inl m_by'))) = (CE m_calls m_row m_inRow m_values m_by' m_choice m_rule m_atoms m_depth)) (u_choice : ∀ (m_calls : Nat → Int32) (m_row : Nat → Int32) (m_inRow : Int32) (m_values : Nat → Int32) (m_by : Nat → Int32) (m_choice : Nat → Int32) (m_rule : Int32) (m_atoms : Int32) (m_depth : Int32) (m_choice' : Nat → Int32), va_up (CE m_calls m_row m_inRow m_values m_by m_choice m_rule m_atoms m_depth) i_choice (some (.inl (cI, 4, .inl m_choice'))) = (CE m_calls m_row m_inRow m_values m_by m_choice' m_rule m_atoms m_depth)) {post : (Nat → Int32) → (Nat → Int32) → Int32 → (Nat → Int32) → (Nat → Int32) → (Nat → Int32) → Int32 → Int32 → Int32 → Prop} {m_calls : Nat → Int32} {m_row : Nat → Int32} {m_inRow : Int32} {m_values : Nat → Int32} {m_by : Nat → Int32} {m_choice : Nat → Int32} {m_rule : Int32} {m_atoms : Int32} {m_depth : Int32} {p0 : Int32} {p1 : Int32} {p2 : Int32} {p3 : Int32} (h : wp_Mo_follows post m_model m_ofAtom m_left m_right m_calls m_row m_inRow m_values m_by m_choice m_rule m_atoms m_depth p0 p1 p2 p3) : ∀ sz, Met l y_Mo_follows (Cond.code y_Mo_follows b_Mo_follows 8 none :: xg) rm_Mo_follows (xm_Pc D xcl (xT cI cZ cJ cO) ad (CE m_calls m_row m_inRow m_values m_by m_choice m_rule m_atoms m_depth) sz [.ref (ad iM), .int p0, .int p1, .int p2, .int p3]) (va_Qv (fun u : (Nat → Int32) × (Nat → Int32) × Int32 × (Nat → Int32) × (Nat → Int32) × (Nat → Int32) × Int32 × Int32 × Int32 => post u.1 u.2.1 u.2.2.1 u.2.2.2.1 u.2.2.2.2.1 u.2.2.2.2.2.1 u.2.2.2.2.2.2.1 u.2.2.2.2.2.2.2.1 u.2.2.2.2.2.2.2.2) (xm_B D xcl (xT cI cZ cJ cO) (xm_A ad (CE m_calls m_row m_inRow m_values m_by m_choice m_rule m_atoms m_depth) sz) (fun _ => ad) (fun u : (Nat → Int32) × (Nat → Int32) × Int32 × (Nat → Int32) × (Nat → Int32) × (Nat → Int32) × Int32 × Int32 × Int32 => CE u.1 u.2.1 u.2.2.1 u.2.2.2.1 u.2.2.2.2.1 u.2.2.2.2.2.1 u.2.2.2.2.2.2.1 u.2.2.2.2.2.2.2.1 u.2.2.2.2.2.2.2.2)) (xm_A ad (CE m_calls m_row m_inRow m_values m_by m_choice m_rule m_atoms m_depth) sz)) 0 0 (xm_A ad (CE m_calls m_row m_inRow m_values m_by m_choice m_rule m_atoms m_depth) sz) := by
  refine xm_ofW (cc := b_Mo_follows) (maxL := 8) (ret := none) (by decide) rfl (Nat.le_of_ble_eq_true rfl) ?_
  intro p e s m args below meth c ls QQ hQQ hx hb hml hr hown hlk hnm hts hl hw
  have hl : lv_has ls 8 [(0, .ref (ad iM)), (1, .int p0), (2, .int p1), (3, .int p2), (4, .int p3)] := hl
  unfold wp_Mo_follows at h
  refine lv_iconst (v := 4) hx hb d_Mo_follows_0 (by decide) ?_
  refine lv_iload_n hx hb d_Mo_follows_1 rfl (lv_at hl 1 rfl) ?_
  refine lv_imul hx hb d_Mo_follows_2 ?_
  refine lv_topi (fun x_1 ex_1 => ?_)
  have h := h x_1 ex_1
  refine lv_istore (lv' := [(5, .int x_1), (0, .ref (ad iM)), (1, .int p0), (2, .int p1), (3, .int p2), (4, .int p3)]) hx hb d_Mo_follows_3 hl (by decide) rfl (fun ls hl => ?_)
  refine lv_iload hx hb d_Mo_follows_5 (lv_at hl 0 rfl) ?_
  refine lv_iconst (v := 1) hx hb d_Mo_follows_7 (by decide) ?_
  refine lv_iadd hx hb d_Mo_follows_8 ?_
  refine lv_iload_n hx hb d_Mo_follows_9 rfl (lv_at hl 3 rfl) ?_
  refine lv_iadd hx hb d_Mo_follows_10 ?_
  refine lv_topi (fun x_2 ex_2 => ?_)
  have h := h x_2 ex_2
  refine lv_istore (lv' := [(6, .int x_2), (5, .int x_1), (0, .ref (ad iM)), (1, .int p0), (2, .int p1), (3, .int p2), (4, .int p3)]) hx hb d_Mo_follows_11 hl (by decide) rfl (fun ls hl => ?_)
  refine lv_aload_n hx hb d_Mo_follows_13 rfl (lv_at hl 2 rfl) ?_
  refine lv_iload_n hx hb d_Mo_follows_14 rfl (lv_at hl 3 rfl) ?_
  refine lv_iload_n hx hb d_Mo_follows_15 rfl (lv_at hl 4 rfl) ?_
  refine xm_callv (ua := fun _ => ad) (va_runV (As := [.int p0, .int p1]) (rest := []) ⟨hx, hb, hml, hown, hts⟩ (c_Mo_begins (D := D) (ad := ad) (CE := (fun m_values m_by m_choice m_rule m_atoms m_depth => (CE m_calls m_row m_inRow m_values m_by m_choice m_rule m_atoms m_depth)))  (fun m_values m_by m_choice m_rule m_atoms m_depth => k_M m_calls m_row m_inRow m_values m_by m_choice m_rule m_atoms m_depth) (fun m_values m_by m_choice m_rule m_atoms m_depth => k_values m_calls m_row m_inRow m_values m_by m_choice m_rule m_atoms m_depth) (fun m_values m_by m_choice m_rule m_atoms m_depth => k_by m_calls m_row m_inRow m_values m_by m_choice m_rule m_atoms m_depth) (fun m_values m_by m_choice m_rule m_atoms m_depth => k_choice m_calls m_row m_inRow m_values m_by m_choice m_rule m_atoms m_depth) (fun m_values m_by m_choice m_rule m_atoms m_depth m_rule' m_atoms' m_depth' => u_M m_calls m_row m_inRow m_values m_by m_choice m_rule m_atoms m_depth m_inRow m_rule' m_atoms' m_depth') (fun m_values m_by m_choice m_rule m_atoms m_depth m_values' => u_values m_calls m_row m_inRow m_values m_by m_choice m_rule m_atoms m_depth m_values') (fun m_values m_by m_choice m_rule m_atoms m_depth m_by' => u_by m_calls m_row m_inRow m_values m_by m_choice m_rule m_atoms m_depth m_by') (fun m_values m_by m_choice m_rule m_atoms m_depth m_choice' => u_choice m_calls m_row m_inRow m_values m_by m_choice m_rule m_atoms m_depth m_choice') h _) (xg_cwV 2 hts xw_720 xw_717 xw_719 xw_p30 xw_8 rfl rfl (by decide +kernel) ⟨Nat.le_of_ble_eq_true rfl, Nat.le_of_ble_eq_true rfl⟩) (xm_preV hw (k_M m_calls m_row m_inRow m_values m_by m_choice m_rule m_atoms m_depth) rfl _) rfl rfl hl.1 rfl (lv_room (Nat.le_of_ble_eq_true rfl)) d_Mo_follows_16 ⟨Nat.le_of_ble_eq_true rfl, Nat.le_of_ble_eq_true rfl⟩) hw (fun u_4 H locs h hw => ?_)
  obtain ⟨m_values_5, em_values_5⟩ : ∃ z, z = u_4.1 := ⟨_, rfl⟩
  obtain ⟨m_by_6, em_by_6⟩ : ∃ z, z = u_4.2.1 := ⟨_, rfl⟩
  obtain ⟨m_choice_7, em_choice_7⟩ : ∃ z, z = u_4.2.2.1 := ⟨_, rfl⟩
  obtain ⟨m_rule_8, em_rule_8⟩ : ∃ z, z = u_4.2.2.2.1 := ⟨_, rfl⟩
  obtain ⟨m_atoms_9, em_atoms_9⟩ : ∃ z, z = u_4.2.2.2.2.1 := ⟨_, rfl⟩
  obtain ⟨m_depth_10, em_depth_10⟩ : ∃ z, z = u_4.2.2.2.2.2 := ⟨_, rfl⟩
  try dsimp only at h hw
  rw [← em_values_5, ← em_by_6, ← em_choice_7, ← em_rule_8, ← em_atoms_9, ← em_depth_10] at h hw
  refine lv_iload_n hx hb d_Mo_follows_19 rfl (lv_at hl 5 rfl) ?_
  refine lv_bipush (v := 10) hx hb d_Mo_follows_20 (by decide) ?_
  refine xj_use h (fun (v_11 : Int32 × (Nat → Int32) × (Nat → Int32) × Int32 × (Nat → Int32) × (Nat → Int32) × (Nat → Int32) × Int32 × Int32 × Int32) => ∀ (H : Heap) (locs : List Loc) (ls : Array Slot), xm_W D xcl (xT cI cZ cJ cO) (xm_A ad (CE m_calls m_row m_inRow m_values m_by m_choice m_rule m_atoms m_depth) s.heap.size) ad (CE v_11.2.1 v_11.2.2.1 v_11.2.2.2.1 v_11.2.2.2.2.1 v_11.2.2.2.2.2.1 v_11.2.2.2.2.2.2.1 v_11.2.2.2.2.2.2.2.1 v_11.2.2.2.2.2.2.2.2.1 v_11.2.2.2.2.2.2.2.2.2) s s.heap H locs → lv_has ls 8 [(0, .ref (ad iM)), (2, .int p1), (6, .int x_2)] → W p l e rm_Mo_follows s m args below meth c H locs 0 0 QQ (F0 m 70 ls [.int v_11.1])) (fun v_11 h H locs ls hw hl => ?_) (fun J_12 hJ_12 h => ?_)
  · refine lv_istore (lv' := [(7, .int v_11.1), (0, .ref (ad iM)), (2, .int p1), (6, .int x_2)]) hx hb d_Mo_follows_70 hl (by decide) rfl (fun ls hl => ?_)
    refine lv_iload hx hb d_Mo_follows_72 (lv_at hl 0 rfl) ?_
    refine lv_if_ne (tgt := 78) hx hb d_Mo_follows_74 (by decide) (fun hc => ?_) (fun hc => ?_)
    · have h := h.1 hc
      refine lv_iload_n hx hb d_Mo_follows_78 rfl (lv_at hl 2 rfl) ?_
      refine lv_if_ne (tgt := 116) hx hb d_Mo_follows_79 (by decide) (fun hc => ?_) (fun hc => ?_)
      · have h := h.1 hc
        refine xL_use h (fun (v_13 : (Nat → Int32) × (Nat → Int32) × Int32 × (Nat → Int32) × (Nat → Int32) × (Nat → Int32) × Int32 × Int32 × Int32) => ∀ (H : Heap) (locs : List Loc) (ls : Array Slot), xm_W D xcl (xT cI cZ cJ cO) (xm_A ad (CE m_calls m_row m_inRow m_values m_by m_choice m_rule m_atoms m_depth) s.heap.size) ad (CE v_13.1 v_13.2.1 v_13.2.2.1 v_13.2.2.2.1 v_13.2.2.2.2.1 v_13.2.2.2.2.2.1 v_13.2.2.2.2.2.2.1 v_13.2.2.2.2.2.2.2.1 v_13.2.2.2.2.2.2.2.2) s s.heap H locs → lv_has ls 8 [(0, .ref (ad iM)), (6, .int x_2)] → W p l e rm_Mo_follows s m args below meth c H locs 0 0 QQ (F0 m 116 ls [])) (fun K_14 hK_14 v_13 h H locs ls hw hl => ?_) _ _ _ hw (lv_sub hl [1, 3] rfl)
        refine lv_aload_n hx hb d_Mo_follows_116 rfl (lv_at hl 0 rfl) ?_
        refine xm_calli (ua := fun _ => ad) (va_runV (As := []) (rest := []) ⟨hx, hb, hml, hown, hts⟩ (c_Mo_goes (D := D) (ad := ad) (CE := (fun m_values m_by m_choice m_atoms m_depth => (CE v_13.1 v_13.2.1 v_13.2.2.1 m_values m_by m_choice v_13.2.2.2.2.2.2.1 m_atoms m_depth)))  (fun m_values m_by m_choice m_atoms m_depth => k_M v_13.1 v_13.2.1 v_13.2.2.1 m_values m_by m_choice v_13.2.2.2.2.2.2.1 m_atoms m_depth) (fun m_values m_by m_choice m_atoms m_depth => k_model v_13.1 v_13.2.1 v_13.2.2.1 m_values m_by m_choice v_13.2.2.2.2.2.2.1 m_atoms m_depth) (fun m_values m_by m_choice m_atoms m_depth => k_ofAtom v_13.1 v_13.2.1 v_13.2.2.1 m_values m_by m_choice v_13.2.2.2.2.2.2.1 m_atoms m_depth) (fun m_values m_by m_choice m_atoms m_depth => k_left v_13.1 v_13.2.1 v_13.2.2.1 m_values m_by m_choice v_13.2.2.2.2.2.2.1 m_atoms m_depth) (fun m_values m_by m_choice m_atoms m_depth => k_right v_13.1 v_13.2.1 v_13.2.2.1 m_values m_by m_choice v_13.2.2.2.2.2.2.1 m_atoms m_depth) (fun m_values m_by m_choice m_atoms m_depth => k_values v_13.1 v_13.2.1 v_13.2.2.1 m_values m_by m_choice v_13.2.2.2.2.2.2.1 m_atoms m_depth) (fun m_values m_by m_choice m_atoms m_depth => k_by v_13.1 v_13.2.1 v_13.2.2.1 m_values m_by m_choice v_13.2.2.2.2.2.2.1 m_atoms m_depth) (fun m_values m_by m_choice m_atoms m_depth => k_choice v_13.1 v_13.2.1 v_13.2.2.1 m_values m_by m_choice v_13.2.2.2.2.2.2.1 m_atoms m_depth) (fun m_values m_by m_choice m_atoms m_depth m_atoms' m_depth' => u_M v_13.1 v_13.2.1 v_13.2.2.1 m_values m_by m_choice v_13.2.2.2.2.2.2.1 m_atoms m_depth v_13.2.2.1 v_13.2.2.2.2.2.2.1 m_atoms' m_depth') (fun m_values m_by m_choice m_atoms m_depth m_values' => u_values v_13.1 v_13.2.1 v_13.2.2.1 m_values m_by m_choice v_13.2.2.2.2.2.2.1 m_atoms m_depth m_values') (fun m_values m_by m_choice m_atoms m_depth m_by' => u_by v_13.1 v_13.2.1 v_13.2.2.1 m_values m_by m_choice v_13.2.2.2.2.2.2.1 m_atoms m_depth m_by') (fun m_values m_by m_choice m_atoms m_depth m_choice' => u_choice v_13.1 v_13.2.1 v_13.2.2.1 m_values m_by m_choice v_13.2.2.2.2.2.2.1 m_atoms m_depth m_choice') h _) (xg_cwV 0 hts xw_724 xw_721 xw_723 xw_p31 xw_8 rfl rfl (by decide +kernel) ⟨Nat.le_of_ble_eq_true rfl, Nat.le_of_ble_eq_true rfl⟩) (xm_preV hw (k_M v_13.1 v_13.2.1 v_13.2.2.1 v_13.2.2.2.1 v_13.2.2.2.2.1 v_13.2.2.2.2.2.1 v_13.2.2.2.2.2.2.1 v_13.2.2.2.2.2.2.2.1 v_13.2.2.2.2.2.2.2.2) rfl _) rfl rfl hl.1 rfl (lv_room (Nat.le_of_ble_eq_true rfl)) d_Mo_follows_117 ⟨Nat.le_of_ble_eq_true rfl, Nat.le_of_ble_eq_true rfl⟩) hw (fun r_15 u_16 H locs h hw => ?_)
        obtain ⟨m_values_17, em_values_17⟩ : ∃ z, z = u_16.1 := ⟨_, rfl⟩
        obtain ⟨m_by_18, em_by_18⟩ : ∃ z, z = u_16.2.1 := ⟨_, rfl⟩
        obtain ⟨m_choice_19, em_choice_19⟩ : ∃ z, z = u_16.2.2.1 := ⟨_, rfl⟩
        obtain ⟨m_atoms_20, em_atoms_20⟩ : ∃ z, z = u_16.2.2.2.1 := ⟨_, rfl⟩
        obtain ⟨m_depth_21, em_depth_21⟩ : ∃ z, z = u_16.2.2.2.2 := ⟨_, rfl⟩
        try dsimp only at h hw
        rw [← em_values_17, ← em_by_18, ← em_choice_19, ← em_atoms_20, ← em_depth_21] at h hw
        refine lv_if_eq (tgt := 159) hx hb d_Mo_follows_120 (by decide) (fun hc => ?_) (fun hc => ?_)
        · have h := h.1 hc
          subst hQQ
          exact xm_vret hx hb hr hlk hw (v_13.1, v_13.2.1, v_13.2.2.1, m_values_17, m_by_18, m_choice_19, v_13.2.2.2.2.2.2.1, m_atoms_20, m_depth_21) rfl rfl h d_Mo_follows_159
        · have h := h.2 hc
          refine lv_aload_n hx hb d_Mo_follows_123 rfl (lv_at hl 0 rfl) ?_
          refine lv_aload_n hx hb d_Mo_follows_124 rfl (lv_at hl 0 rfl) ?_
          refine xm_get (D := D) (v := .ref (ad i_ofAtom)) (C := R_Mo) (T := F_Mo) (N := 28) hx hb hts (fun w h => List.mem_cons_of_mem _ (i_Mo w h)) hown hw (k_M v_13.1 v_13.2.1 v_13.2.2.1 m_values_17 m_by_18 m_choice_19 v_13.2.2.2.2.2.2.1 m_atoms_20 m_depth_21) rfl 6 (by decide) (hts _ (List.mem_cons_of_mem _ xw_568)) (fun _ h9 => h9) rfl d_Mo_follows_125 ?_
          refine lv_iload hx hb d_Mo_follows_128 (lv_at hl 1 rfl) ?_
          obtain ⟨hin, h⟩ := h
          refine xm_iald hx hb hw 0 (k_ofAtom v_13.1 v_13.2.1 v_13.2.2.1 m_values_17 m_by_18 m_choice_19 v_13.2.2.2.2.2.2.1 m_atoms_20 m_depth_21) rfl hin d_Mo_follows_130 ?_
          refine lv_aload_n hx hb d_Mo_follows_131 rfl (lv_at hl 0 rfl) ?_
          refine lv_aload_n hx hb d_Mo_follows_132 rfl (lv_at hl 0 rfl) ?_
          refine xm_get (D := D) (v := .ref (ad i_left)) (C := R_Mo) (T := F_Mo) (N := 28) hx hb hts (fun w h => List.mem_cons_of_mem _ (i_Mo w h)) hown hw (k_M v_13.1 v_13.2.1 v_13.2.2.1 m_values_17 m_by_18 m_choice_19 v_13.2.2.2.2.2.2.1 m_atoms_20 m_depth_21) rfl 7 (by decide) (hts _ (List.mem_cons_of_mem _ xw_569)) (fun _ h9 => h9) rfl d_Mo_follows_133 ?_
          refine lv_iload hx hb d_Mo_follows_136 (lv_at hl 1 rfl) ?_
          obtain ⟨hin, h⟩ := h
          refine xm_iald hx hb hw 0 (k_left v_13.1 v_13.2.1 v_13.2.2.1 m_values_17 m_by_18 m_choice_19 v_13.2.2.2.2.2.2.1 m_atoms_20 m_depth_21) rfl hin d_Mo_follows_138 ?_
          refine xm_calli (ua := fun _ => ad) (va_runV (As := [.int (m_left (Int32.toNatClampNeg x_2))]) (rest := [.int (m_ofAtom (Int32.toNatClampNeg x_2)), .ref (ad iM)]) ⟨hx, hb, hml, hown, hts⟩ (c_Mo_called_II (D := D) (ad := ad) (CE := ((CE v_13.1 v_13.2.1 v_13.2.2.1 m_values_17 m_by_18 m_choice_19 v_13.2.2.2.2.2.2.1 m_atoms_20 m_depth_21)))  (k_M v_13.1 v_13.2.1 v_13.2.2.1 m_values_17 m_by_18 m_choice_19 v_13.2.2.2.2.2.2.1 m_atoms_20 m_depth_21) (k_values v_13.1 v_13.2.1 v_13.2.2.1 m_values_17 m_by_18 m_choice_19 v_13.2.2.2.2.2.2.1 m_atoms_20 m_depth_21) h _) (xg_cwV 1 hts xw_756 xw_753 xw_755 xw_p39 xw_8 rfl rfl (by decide +kernel) ⟨Nat.le_of_ble_eq_true rfl, Nat.le_of_ble_eq_true rfl⟩) (xm_preV hw (k_M v_13.1 v_13.2.1 v_13.2.2.1 m_values_17 m_by_18 m_choice_19 v_13.2.2.2.2.2.2.1 m_atoms_20 m_depth_21) rfl _) rfl rfl hl.1 rfl (lv_room (Nat.le_of_ble_eq_true rfl)) d_Mo_follows_139 ⟨Nat.le_of_ble_eq_true rfl, Nat.le_of_ble_eq_true rfl⟩) hw (fun r_22 _ H locs h hw => ?_)
          refine lv_aload_n hx hb d_Mo_follows_142 rfl (lv_at hl 0 rfl) ?_
          refine lv_aload_n hx hb d_Mo_follows_143 rfl (lv_at hl 0 rfl) ?_
          refine xm_get (D := D) (v := .ref (ad i_right)) (C := R_Mo) (T := F_Mo) (N := 28) hx hb hts (fun w h => List.mem_cons_of_mem _ (i_Mo w h)) hown hw (k_M v_13.1 v_13.2.1 v_13.2.2.1 m_values_17 m_by_18 m_choice_19 v_13.2.2.2.2.2.2.1 m_atoms_20 m_depth_21) rfl 8 (by decide) (hts _ (List.mem_cons_of_mem _ xw_570)) (fun _ h9 => h9) rfl d_Mo_follows_144 ?_
          refine lv_iload hx hb d_Mo_follows_147 (lv_at hl 1 rfl) ?_
          obtain ⟨hin, h⟩ := h
          refine xm_iald hx hb hw 0 (k_right v_13.1 v_13.2.1 v_13.2.2.1 m_values_17 m_by_18 m_choice_19 v_13.2.2.2.2.2.2.1 m_atoms_20 m_depth_21) rfl hin d_Mo_follows_149 ?_
          refine xm_calli (ua := fun _ => ad) (va_runV (As := [.int (m_right (Int32.toNatClampNeg x_2))]) (rest := [.int r_22, .int (m_ofAtom (Int32.toNatClampNeg x_2)), .ref (ad iM)]) ⟨hx, hb, hml, hown, hts⟩ (c_Mo_called_II (D := D) (ad := ad) (CE := ((CE v_13.1 v_13.2.1 v_13.2.2.1 m_values_17 m_by_18 m_choice_19 v_13.2.2.2.2.2.2.1 m_atoms_20 m_depth_21)))  (k_M v_13.1 v_13.2.1 v_13.2.2.1 m_values_17 m_by_18 m_choice_19 v_13.2.2.2.2.2.2.1 m_atoms_20 m_depth_21) (k_values v_13.1 v_13.2.1 v_13.2.2.1 m_values_17 m_by_18 m_choice_19 v_13.2.2.2.2.2.2.1 m_atoms_20 m_depth_21) h _) (xg_cwV 1 hts xw_756 xw_753 xw_755 xw_p39 xw_8 rfl rfl (by decide +kernel) ⟨Nat.le_of_ble_eq_true rfl, Nat.le_of_ble_eq_true rfl⟩) (xm_preV hw (k_M v_13.1 v_13.2.1 v_13.2.2.1 m_values_17 m_by_18 m_choice_19 v_13.2.2.2.2.2.2.1 m_atoms_20 m_depth_21) rfl _) rfl rfl hl.1 rfl (lv_room (Nat.le_of_ble_eq_true rfl)) d_Mo_follows_150 ⟨Nat.le_of_ble_eq_true rfl, Nat.le_of_ble_eq_true rfl⟩) hw (fun r_24 _ H locs h hw => ?_)
          refine xm_callv (ua := fun _ => ad) (va_runV (As := [.int (m_ofAtom (Int32.toNatClampNeg x_2)), .int r_22, .int r_24]) (rest := []) ⟨hx, hb, hml, hown, hts⟩ (c_Mo_calls (D := D) (ad := ad) (CE := (fun m_calls m_row m_inRow => (CE m_calls m_row m_inRow m_values_17 m_by_18 m_choice_19 v_13.2.2.2.2.2.2.1 m_atoms_20 m_depth_21)))  (fun m_calls m_row m_inRow => k_M m_calls m_row m_inRow m_values_17 m_by_18 m_choice_19 v_13.2.2.2.2.2.2.1 m_atoms_20 m_depth_21) (fun m_calls m_row m_inRow => k_calls m_calls m_row m_inRow m_values_17 m_by_18 m_choice_19 v_13.2.2.2.2.2.2.1 m_atoms_20 m_depth_21) (fun m_calls m_row m_inRow => k_row m_calls m_row m_inRow m_values_17 m_by_18 m_choice_19 v_13.2.2.2.2.2.2.1 m_atoms_20 m_depth_21) (fun m_calls m_row m_inRow m_inRow' => u_M m_calls m_row m_inRow m_values_17 m_by_18 m_choice_19 v_13.2.2.2.2.2.2.1 m_atoms_20 m_depth_21 m_inRow' v_13.2.2.2.2.2.2.1 m_atoms_20 m_depth_21) (fun m_calls m_row m_inRow m_calls' => u_calls m_calls m_row m_inRow m_values_17 m_by_18 m_choice_19 v_13.2.2.2.2.2.2.1 m_atoms_20 m_depth_21 m_calls') (fun m_calls m_row m_inRow m_row' => u_row m_calls m_row m_inRow m_values_17 m_by_18 m_choice_19 v_13.2.2.2.2.2.2.1 m_atoms_20 m_depth_21 m_row') h _) (xg_cwV 3 hts xw_748 xw_745 xw_747 xw_p37 xw_8 rfl rfl (by decide +kernel) ⟨Nat.le_of_ble_eq_true rfl, Nat.le_of_ble_eq_true rfl⟩) (xm_preV hw (k_M v_13.1 v_13.2.1 v_13.2.2.1 m_values_17 m_by_18 m_choice_19 v_13.2.2.2.2.2.2.1 m_atoms_20 m_depth_21) rfl _) rfl rfl hl.1 rfl (lv_room (Nat.le_of_ble_eq_true rfl)) d_Mo_follows_153 ⟨Nat.le_of_ble_eq_true rfl, Nat.le_of_ble_eq_true rfl⟩) hw (fun u_27 H locs h hw => ?_)
          obtain ⟨m_calls_28, em_calls_28⟩ : ∃ z, z = u_27.1 := ⟨_, rfl⟩
          obtain ⟨m_row_29, em_row_29⟩ : ∃ z, z = u_27.2.1 := ⟨_, rfl⟩
          obtain ⟨m_inRow_30, em_inRow_30⟩ : ∃ z, z = u_27.2.2 := ⟨_, rfl⟩
          try dsimp only at h hw
          rw [← em_calls_28, ← em_row_29, ← em_inRow_30] at h hw
          refine lv_goto (tgt := 116) hx hb d_Mo_follows_156 (by decide) ?_
          exact hK_14 (m_calls_28, m_row_29, m_inRow_30, m_values_17, m_by_18, m_choice_19, v_13.2.2.2.2.2.2.1, m_atoms_20, m_depth_21) h _ _ _ hw (lv_sub hl [0, 1] rfl)
      · have h := h.2 hc
        refine lv_aload_n hx hb d_Mo_follows_82 rfl (lv_at hl 1 rfl) ?_
        refine lv_aload_n hx hb d_Mo_follows_83 rfl (lv_at hl 1 rfl) ?_
        refine xm_get (D := D) (v := .ref (ad i_ofAtom)) (C := R_Mo) (T := F_Mo) (N := 28) hx hb hts (fun w h => List.mem_cons_of_mem _ (i_Mo w h)) hown hw (k_M v_11.2.1 v_11.2.2.1 v_11.2.2.2.1 v_11.2.2.2.2.1 v_11.2.2.2.2.2.1 v_11.2.2.2.2.2.2.1 v_11.2.2.2.2.2.2.2.1 v_11.2.2.2.2.2.2.2.2.1 v_11.2.2.2.2.2.2.2.2.2) rfl 6 (by decide) (hts _ (List.mem_cons_of_mem _ xw_568)) (fun _ h9 => h9) rfl d_Mo_follows_84 ?_
        refine lv_iload hx hb d_Mo_follows_87 (lv_at hl 3 rfl) ?_
        obtain ⟨hin, h⟩ := h
        refine xm_iald hx hb hw 0 (k_ofAtom v_11.2.1 v_11.2.2.1 v_11.2.2.2.1 v_11.2.2.2.2.1 v_11.2.2.2.2.2.1 v_11.2.2.2.2.2.2.1 v_11.2.2.2.2.2.2.2.1 v_11.2.2.2.2.2.2.2.2.1 v_11.2.2.2.2.2.2.2.2.2) rfl hin d_Mo_follows_89 ?_
        refine lv_aload_n hx hb d_Mo_follows_90 rfl (lv_at hl 1 rfl) ?_
        refine lv_aload_n hx hb d_Mo_follows_91 rfl (lv_at hl 1 rfl) ?_
        refine xm_get (D := D) (v := .ref (ad i_left)) (C := R_Mo) (T := F_Mo) (N := 28) hx hb hts (fun w h => List.mem_cons_of_mem _ (i_Mo w h)) hown hw (k_M v_11.2.1 v_11.2.2.1 v_11.2.2.2.1 v_11.2.2.2.2.1 v_11.2.2.2.2.2.1 v_11.2.2.2.2.2.2.1 v_11.2.2.2.2.2.2.2.1 v_11.2.2.2.2.2.2.2.2.1 v_11.2.2.2.2.2.2.2.2.2) rfl 7 (by decide) (hts _ (List.mem_cons_of_mem _ xw_569)) (fun _ h9 => h9) rfl d_Mo_follows_92 ?_
        refine lv_iload hx hb d_Mo_follows_95 (lv_at hl 3 rfl) ?_
        obtain ⟨hin, h⟩ := h
        refine xm_iald hx hb hw 0 (k_left v_11.2.1 v_11.2.2.1 v_11.2.2.2.1 v_11.2.2.2.2.1 v_11.2.2.2.2.2.1 v_11.2.2.2.2.2.2.1 v_11.2.2.2.2.2.2.2.1 v_11.2.2.2.2.2.2.2.2.1 v_11.2.2.2.2.2.2.2.2.2) rfl hin d_Mo_follows_97 ?_
        refine xm_calli (ua := fun _ => ad) (va_runV (As := [.int (m_left (Int32.toNatClampNeg x_2))]) (rest := [.int (m_ofAtom (Int32.toNatClampNeg x_2)), .ref (ad iM)]) ⟨hx, hb, hml, hown, hts⟩ (c_Mo_called_II (D := D) (ad := ad) (CE := ((CE v_11.2.1 v_11.2.2.1 v_11.2.2.2.1 v_11.2.2.2.2.1 v_11.2.2.2.2.2.1 v_11.2.2.2.2.2.2.1 v_11.2.2.2.2.2.2.2.1 v_11.2.2.2.2.2.2.2.2.1 v_11.2.2.2.2.2.2.2.2.2)))  (k_M v_11.2.1 v_11.2.2.1 v_11.2.2.2.1 v_11.2.2.2.2.1 v_11.2.2.2.2.2.1 v_11.2.2.2.2.2.2.1 v_11.2.2.2.2.2.2.2.1 v_11.2.2.2.2.2.2.2.2.1 v_11.2.2.2.2.2.2.2.2.2) (k_values v_11.2.1 v_11.2.2.1 v_11.2.2.2.1 v_11.2.2.2.2.1 v_11.2.2.2.2.2.1 v_11.2.2.2.2.2.2.1 v_11.2.2.2.2.2.2.2.1 v_11.2.2.2.2.2.2.2.2.1 v_11.2.2.2.2.2.2.2.2.2) h _) (xg_cwV 1 hts xw_756 xw_753 xw_755 xw_p39 xw_8 rfl rfl (by decide +kernel) ⟨Nat.le_of_ble_eq_true rfl, Nat.le_of_ble_eq_true rfl⟩) (xm_preV hw (k_M v_11.2.1 v_11.2.2.1 v_11.2.2.2.1 v_11.2.2.2.2.1 v_11.2.2.2.2.2.1 v_11.2.2.2.2.2.2.1 v_11.2.2.2.2.2.2.2.1 v_11.2.2.2.2.2.2.2.2.1 v_11.2.2.2.2.2.2.2.2.2) rfl _) rfl rfl hl.1 rfl (lv_room (Nat.le_of_ble_eq_true rfl)) d_Mo_follows_98 ⟨Nat.le_of_ble_eq_true rfl, Nat.le_of_ble_eq_true rfl⟩) hw (fun r_31 _ H locs h hw => ?_)
        refine lv_aload_n hx hb d_Mo_follows_101 rfl (lv_at hl 1 rfl) ?_
        refine lv_aload_n hx hb d_Mo_follows_102 rfl (lv_at hl 1 rfl) ?_
        refine xm_get (D := D) (v := .ref (ad i_right)) (C := R_Mo) (T := F_Mo) (N := 28) hx hb hts (fun w h => List.mem_cons_of_mem _ (i_Mo w h)) hown hw (k_M v_11.2.1 v_11.2.2.1 v_11.2.2.2.1 v_11.2.2.2.2.1 v_11.2.2.2.2.2.1 v_11.2.2.2.2.2.2.1 v_11.2.2.2.2.2.2.2.1 v_11.2.2.2.2.2.2.2.2.1 v_11.2.2.2.2.2.2.2.2.2) rfl 8 (by decide) (hts _ (List.mem_cons_of_mem _ xw_570)) (fun _ h9 => h9) rfl d_Mo_follows_103 ?_
        refine lv_iload hx hb d_Mo_follows_106 (lv_at hl 3 rfl) ?_
        obtain ⟨hin, h⟩ := h
        refine xm_iald hx hb hw 0 (k_right v_11.2.1 v_11.2.2.1 v_11.2.2.2.1 v_11.2.2.2.2.1 v_11.2.2.2.2.2.1 v_11.2.2.2.2.2.2.1 v_11.2.2.2.2.2.2.2.1 v_11.2.2.2.2.2.2.2.2.1 v_11.2.2.2.2.2.2.2.2.2) rfl hin d_Mo_follows_108 ?_
        refine xm_calli (ua := fun _ => ad) (va_runV (As := [.int (m_right (Int32.toNatClampNeg x_2))]) (rest := [.int r_31, .int (m_ofAtom (Int32.toNatClampNeg x_2)), .ref (ad iM)]) ⟨hx, hb, hml, hown, hts⟩ (c_Mo_called_II (D := D) (ad := ad) (CE := ((CE v_11.2.1 v_11.2.2.1 v_11.2.2.2.1 v_11.2.2.2.2.1 v_11.2.2.2.2.2.1 v_11.2.2.2.2.2.2.1 v_11.2.2.2.2.2.2.2.1 v_11.2.2.2.2.2.2.2.2.1 v_11.2.2.2.2.2.2.2.2.2)))  (k_M v_11.2.1 v_11.2.2.1 v_11.2.2.2.1 v_11.2.2.2.2.1 v_11.2.2.2.2.2.1 v_11.2.2.2.2.2.2.1 v_11.2.2.2.2.2.2.2.1 v_11.2.2.2.2.2.2.2.2.1 v_11.2.2.2.2.2.2.2.2.2) (k_values v_11.2.1 v_11.2.2.1 v_11.2.2.2.1 v_11.2.2.2.2.1 v_11.2.2.2.2.2.1 v_11.2.2.2.2.2.2.1 v_11.2.2.2.2.2.2.2.1 v_11.2.2.2.2.2.2.2.2.1 v_11.2.2.2.2.2.2.2.2.2) h _) (xg_cwV 1 hts xw_756 xw_753 xw_755 xw_p39 xw_8 rfl rfl (by decide +kernel) ⟨Nat.le_of_ble_eq_true rfl, Nat.le_of_ble_eq_true rfl⟩) (xm_preV hw (k_M v_11.2.1 v_11.2.2.1 v_11.2.2.2.1 v_11.2.2.2.2.1 v_11.2.2.2.2.2.1 v_11.2.2.2.2.2.2.1 v_11.2.2.2.2.2.2.2.1 v_11.2.2.2.2.2.2.2.2.1 v_11.2.2.2.2.2.2.2.2.2) rfl _) rfl rfl hl.1 rfl (lv_room (Nat.le_of_ble_eq_true rfl)) d_Mo_follows_109 ⟨Nat.le_of_ble_eq_true rfl, Nat.le_of_ble_eq_true rfl⟩) hw (fun r_33 _ H locs h hw => ?_)
        refine xm_callv (ua := fun _ => ad) (va_runV (As := [.int (m_ofAtom (Int32.toNatClampNeg x_2)), .int r_31, .int r_33]) (rest := []) ⟨hx, hb, hml, hown, hts⟩ (c_Mo_calls (D := D) (ad := ad) (CE := (fun m_calls m_row m_inRow => (CE m_calls m_row m_inRow v_11.2.2.2.2.1 v_11.2.2.2.2.2.1 v_11.2.2.2.2.2.2.1 v_11.2.2.2.2.2.2.2.1 v_11.2.2.2.2.2.2.2.2.1 v_11.2.2.2.2.2.2.2.2.2)))  (fun m_calls m_row m_inRow => k_M m_calls m_row m_inRow v_11.2.2.2.2.1 v_11.2.2.2.2.2.1 v_11.2.2.2.2.2.2.1 v_11.2.2.2.2.2.2.2.1 v_11.2.2.2.2.2.2.2.2.1 v_11.2.2.2.2.2.2.2.2.2) (fun m_calls m_row m_inRow => k_calls m_calls m_row m_inRow v_11.2.2.2.2.1 v_11.2.2.2.2.2.1 v_11.2.2.2.2.2.2.1 v_11.2.2.2.2.2.2.2.1 v_11.2.2.2.2.2.2.2.2.1 v_11.2.2.2.2.2.2.2.2.2) (fun m_calls m_row m_inRow => k_row m_calls m_row m_inRow v_11.2.2.2.2.1 v_11.2.2.2.2.2.1 v_11.2.2.2.2.2.2.1 v_11.2.2.2.2.2.2.2.1 v_11.2.2.2.2.2.2.2.2.1 v_11.2.2.2.2.2.2.2.2.2) (fun m_calls m_row m_inRow m_inRow' => u_M m_calls m_row m_inRow v_11.2.2.2.2.1 v_11.2.2.2.2.2.1 v_11.2.2.2.2.2.2.1 v_11.2.2.2.2.2.2.2.1 v_11.2.2.2.2.2.2.2.2.1 v_11.2.2.2.2.2.2.2.2.2 m_inRow' v_11.2.2.2.2.2.2.2.1 v_11.2.2.2.2.2.2.2.2.1 v_11.2.2.2.2.2.2.2.2.2) (fun m_calls m_row m_inRow m_calls' => u_calls m_calls m_row m_inRow v_11.2.2.2.2.1 v_11.2.2.2.2.2.1 v_11.2.2.2.2.2.2.1 v_11.2.2.2.2.2.2.2.1 v_11.2.2.2.2.2.2.2.2.1 v_11.2.2.2.2.2.2.2.2.2 m_calls') (fun m_calls m_row m_inRow m_row' => u_row m_calls m_row m_inRow v_11.2.2.2.2.1 v_11.2.2.2.2.2.1 v_11.2.2.2.2.2.2.1 v_11.2.2.2.2.2.2.2.1 v_11.2.2.2.2.2.2.2.2.1 v_11.2.2.2.2.2.2.2.2.2 m_row') h _) (xg_cwV 3 hts xw_748 xw_745 xw_747 xw_p37 xw_8 rfl rfl (by decide +kernel) ⟨Nat.le_of_ble_eq_true rfl, Nat.le_of_ble_eq_true rfl⟩) (xm_preV hw (k_M v_11.2.1 v_11.2.2.1 v_11.2.2.2.1 v_11.2.2.2.2.1 v_11.2.2.2.2.2.1 v_11.2.2.2.2.2.2.1 v_11.2.2.2.2.2.2.2.1 v_11.2.2.2.2.2.2.2.2.1 v_11.2.2.2.2.2.2.2.2.2) rfl _) rfl rfl hl.1 rfl (lv_room (Nat.le_of_ble_eq_true rfl)) d_Mo_follows_112 ⟨Nat.le_of_ble_eq_true rfl, Nat.le_of_ble_eq_true rfl⟩) hw (fun u_36 H locs h hw => ?_)
        obtain ⟨m_calls_37, em_calls_37⟩ : ∃ z, z = u_36.1 := ⟨_, rfl⟩
        obtain ⟨m_row_38, em_row_38⟩ : ∃ z, z = u_36.2.1 := ⟨_, rfl⟩
        obtain ⟨m_inRow_39, em_inRow_39⟩ : ∃ z, z = u_36.2.2 := ⟨_, rfl⟩
        try dsimp only at h hw
        rw [← em_calls_37, ← em_row_38, ← em_inRow_39] at h hw
        subst hQQ
        exact xm_vret hx hb hr hlk hw (m_calls_37, m_row_38, m_inRow_39, v_11.2.2.2.2.1, v_11.2.2.2.2.2.1, v_11.2.2.2.2.2.2.1, v_11.2.2.2.2.2.2.2.1, v_11.2.2.2.2.2.2.2.2.1, v_11.2.2.2.2.2.2.2.2.2) rfl rfl h d_Mo_follows_115
    · have h := h.2 hc
      subst hQQ
      exact xm_vret hx hb hr hlk hw (v_11.2.1, v_11.2.2.1, v_11.2.2.2.1, v_11.2.2.2.2.1, v_11.2.2.2.2.2.1, v_11.2.2.2.2.2.2.1, v_11.2.2.2.2.2.2.2.1, v_11.2.2.2.2.2.2.2.2.1, v_11.2.2.2.2.2.2.2.2.2) rfl rfl h d_Mo_follows_77
  · refine xj_use h (fun (v_40 : (Nat → Int32) × (Nat → Int32) × Int32 × (Nat → Int32) × (Nat → Int32) × (Nat → Int32) × Int32 × Int32 × Int32) => ∀ (H : Heap) (locs : List Loc) (ls : Array Slot), xm_W D xcl (xT cI cZ cJ cO) (xm_A ad (CE m_calls m_row m_inRow m_values m_by m_choice m_rule m_atoms m_depth) s.heap.size) ad (CE v_40.1 v_40.2.1 v_40.2.2.1 v_40.2.2.2.1 v_40.2.2.2.2.1 v_40.2.2.2.2.2.1 v_40.2.2.2.2.2.2.1 v_40.2.2.2.2.2.2.2.1 v_40.2.2.2.2.2.2.2.2) s s.heap H locs → lv_has ls 8 [(0, .ref (ad iM)), (2, .int p1), (6, .int x_2)] → W p l e rm_Mo_follows s m args below meth c H locs 0 0 QQ (F0 m 69 ls [])) (fun v_40 h H locs ls hw hl => ?_) (fun J_41 hJ_41 h => ?_)
    · refine lv_iconst (v := 0) hx hb d_Mo_follows_69 (by decide) ?_
      exact hJ_12 (0, v_40.1, v_40.2.1, v_40.2.2.1, v_40.2.2.2.1, v_40.2.2.2.2.1, v_40.2.2.2.2.2.1, v_40.2.2.2.2.2.2.1, v_40.2.2.2.2.2.2.2.1, v_40.2.2.2.2.2.2.2.2) h _ _ _ hw (lv_sub hl [0, 1, 2] rfl)
    · refine xj_use h (fun (v_42 : (Nat → Int32) × (Nat → Int32) × Int32 × (Nat → Int32) × (Nat → Int32) × (Nat → Int32) × Int32 × Int32 × Int32) => ∀ (H : Heap) (locs : List Loc) (ls : Array Slot), xm_W D xcl (xT cI cZ cJ cO) (xm_A ad (CE m_calls m_row m_inRow m_values m_by m_choice m_rule m_atoms m_depth) s.heap.size) ad (CE v_42.1 v_42.2.1 v_42.2.2.1 v_42.2.2.2.1 v_42.2.2.2.2.1 v_42.2.2.2.2.2.1 v_42.2.2.2.2.2.2.1 v_42.2.2.2.2.2.2.2.1 v_42.2.2.2.2.2.2.2.2) s s.heap H locs → lv_has ls 8 [(0, .ref (ad iM)), (2, .int p1), (4, .int p3), (5, .int x_1), (6, .int x_2)] → W p l e rm_Mo_follows s m args below meth c H locs 0 0 QQ (F0 m 41 ls [])) (fun v_42 h H locs ls hw hl => ?_) (fun J_43 hJ_43 h => ?_)
      · refine lv_iload hx hb d_Mo_follows_41 (lv_at hl 2 rfl) ?_
        refine lv_bipush (v := 10) hx hb d_Mo_follows_43 (by decide) ?_
        refine xj_use h (fun (v_44 : (Nat → Int32) × (Nat → Int32) × Int32 × (Nat → Int32) × (Nat → Int32) × (Nat → Int32) × Int32 × Int32 × Int32) => ∀ (H : Heap) (locs : List Loc) (ls : Array Slot), xm_W D xcl (xT cI cZ cJ cO) (xm_A ad (CE m_calls m_row m_inRow m_values m_by m_choice m_rule m_atoms m_depth) s.heap.size) ad (CE v_44.1 v_44.2.1 v_44.2.2.1 v_44.2.2.2.1 v_44.2.2.2.2.1 v_44.2.2.2.2.2.1 v_44.2.2.2.2.2.2.1 v_44.2.2.2.2.2.2.2.1 v_44.2.2.2.2.2.2.2.2) s s.heap H locs → lv_has ls 8 [(0, .ref (ad iM)), (2, .int p1), (6, .int x_2)] → W p l e rm_Mo_follows s m args below meth c H locs 0 0 QQ (F0 m 65 ls [])) (fun v_44 h H locs ls hw hl => ?_) (fun J_45 hJ_45 h => ?_)
        · refine lv_iconst (v := 1) hx hb d_Mo_follows_65 (by decide) ?_
          refine lv_goto (tgt := 70) hx hb d_Mo_follows_66 (by decide) ?_
          exact hJ_12 (1, v_44.1, v_44.2.1, v_44.2.2.1, v_44.2.2.2.1, v_44.2.2.2.2.1, v_44.2.2.2.2.2.1, v_44.2.2.2.2.2.2.1, v_44.2.2.2.2.2.2.2.1, v_44.2.2.2.2.2.2.2.2) h _ _ _ hw (lv_sub hl [0, 1, 2] rfl)
        · refine lv_icmp_eq (tgt := 65) hx hb d_Mo_follows_45 (by decide) (fun hc => ?_) (fun hc => ?_)
          · have h := h.1 hc
            exact hJ_45 (v_42.1, v_42.2.1, v_42.2.2.1, v_42.2.2.2.1, v_42.2.2.2.2.1, v_42.2.2.2.2.2.1, v_42.2.2.2.2.2.2.1, v_42.2.2.2.2.2.2.2.1, v_42.2.2.2.2.2.2.2.2) h _ _ _ hw (lv_sub hl [0, 1, 4] rfl)
          · have h := h.2 hc
            refine lv_aload_n hx hb d_Mo_follows_48 rfl (lv_at hl 0 rfl) ?_
            refine lv_aload_n hx hb d_Mo_follows_49 rfl (lv_at hl 0 rfl) ?_
            refine xm_get (D := D) (v := .ref (ad i_right)) (C := R_Mo) (T := F_Mo) (N := 28) hx hb hts (fun w h => List.mem_cons_of_mem _ (i_Mo w h)) hown hw (k_M v_42.1 v_42.2.1 v_42.2.2.1 v_42.2.2.2.1 v_42.2.2.2.2.1 v_42.2.2.2.2.2.1 v_42.2.2.2.2.2.2.1 v_42.2.2.2.2.2.2.2.1 v_42.2.2.2.2.2.2.2.2) rfl 8 (by decide) (hts _ (List.mem_cons_of_mem _ xw_570)) (fun _ h9 => h9) rfl d_Mo_follows_50 ?_
            refine lv_iload hx hb d_Mo_follows_53 (lv_at hl 3 rfl) ?_
            obtain ⟨hin, h⟩ := h
            refine xm_iald hx hb hw 0 (k_right v_42.1 v_42.2.1 v_42.2.2.1 v_42.2.2.2.1 v_42.2.2.2.2.1 v_42.2.2.2.2.2.1 v_42.2.2.2.2.2.2.1 v_42.2.2.2.2.2.2.2.1 v_42.2.2.2.2.2.2.2.2) rfl hin d_Mo_follows_55 ?_
            refine lv_iload hx hb d_Mo_follows_56 (lv_at hl 2 rfl) ?_
            refine lv_iconst (v := (-1)) hx hb d_Mo_follows_58 (by decide) ?_
            refine xm_calli (ua := fun _ => ad) (va_runV (As := [.int (m_right (Int32.toNatClampNeg x_1)), .int p3, .int (-1)]) (rest := []) ⟨hx, hb, hml, hown, hts⟩ (c_Mo_takes (D := D) (ad := ad) (CE := (fun m_values m_by => (CE v_42.1 v_42.2.1 v_42.2.2.1 m_values m_by v_42.2.2.2.2.2.1 v_42.2.2.2.2.2.2.1 v_42.2.2.2.2.2.2.2.1 v_42.2.2.2.2.2.2.2.2)))  (fun m_values m_by => k_M v_42.1 v_42.2.1 v_42.2.2.1 m_values m_by v_42.2.2.2.2.2.1 v_42.2.2.2.2.2.2.1 v_42.2.2.2.2.2.2.2.1 v_42.2.2.2.2.2.2.2.2) (fun m_values m_by => k_values v_42.1 v_42.2.1 v_42.2.2.1 m_values m_by v_42.2.2.2.2.2.1 v_42.2.2.2.2.2.2.1 v_42.2.2.2.2.2.2.2.1 v_42.2.2.2.2.2.2.2.2) (fun m_values m_by => k_by v_42.1 v_42.2.1 v_42.2.2.1 m_values m_by v_42.2.2.2.2.2.1 v_42.2.2.2.2.2.2.1 v_42.2.2.2.2.2.2.2.1 v_42.2.2.2.2.2.2.2.2) (fun m_values m_by m_values' => u_values v_42.1 v_42.2.1 v_42.2.2.1 m_values m_by v_42.2.2.2.2.2.1 v_42.2.2.2.2.2.2.1 v_42.2.2.2.2.2.2.2.1 v_42.2.2.2.2.2.2.2.2 m_values') (fun m_values m_by m_by' => u_by v_42.1 v_42.2.1 v_42.2.2.1 m_values m_by v_42.2.2.2.2.2.1 v_42.2.2.2.2.2.2.1 v_42.2.2.2.2.2.2.2.1 v_42.2.2.2.2.2.2.2.2 m_by') h _) (xg_cwV 3 hts xw_736 xw_733 xw_735 xw_p34 xw_8 rfl rfl (by decide +kernel) ⟨Nat.le_of_ble_eq_true rfl, Nat.le_of_ble_eq_true rfl⟩) (xm_preV hw (k_M v_42.1 v_42.2.1 v_42.2.2.1 v_42.2.2.2.1 v_42.2.2.2.2.1 v_42.2.2.2.2.2.1 v_42.2.2.2.2.2.2.1 v_42.2.2.2.2.2.2.2.1 v_42.2.2.2.2.2.2.2.2) rfl _) rfl rfl hl.1 rfl (lv_room (Nat.le_of_ble_eq_true rfl)) d_Mo_follows_59 ⟨Nat.le_of_ble_eq_true rfl, Nat.le_of_ble_eq_true rfl⟩) hw (fun r_46 u_47 H locs h hw => ?_)
            obtain ⟨m_values_48, em_values_48⟩ : ∃ z, z = u_47.1 := ⟨_, rfl⟩
            obtain ⟨m_by_49, em_by_49⟩ : ∃ z, z = u_47.2 := ⟨_, rfl⟩
            try dsimp only at h hw
            rw [← em_values_48, ← em_by_49] at h hw
            refine lv_if_eq (tgt := 69) hx hb d_Mo_follows_62 (by decide) (fun hc => ?_) (fun hc => ?_)
            · have h := h.1 hc
              exact hJ_41 (v_42.1, v_42.2.1, v_42.2.2.1, m_values_48, m_by_49, v_42.2.2.2.2.2.1, v_42.2.2.2.2.2.2.1, v_42.2.2.2.2.2.2.2.1, v_42.2.2.2.2.2.2.2.2) h _ _ _ hw (lv_sub hl [0, 1, 4] rfl)
            · have h := h.2 hc
              exact hJ_45 (v_42.1, v_42.2.1, v_42.2.2.1, m_values_48, m_by_49, v_42.2.2.2.2.2.1, v_42.2.2.2.2.2.2.1, v_42.2.2.2.2.2.2.2.1, v_42.2.2.2.2.2.2.2.2) h _ _ _ hw (lv_sub hl [0, 1, 4] rfl)
      · refine lv_icmp_eq (tgt := 41) hx hb d_Mo_follows_22 (by decide) (fun hc => ?_) (fun hc => ?_)
        · have h := h.1 hc
          exact hJ_43 (m_calls, m_row, m_inRow, m_values_5, m_by_6, m_choice_7, m_rule_8, m_atoms_9, m_depth_10) h _ _ _ hw (lv_sub hl [2, 4, 6, 1, 0] rfl)
        · have h := h.2 hc
          refine lv_aload_n hx hb d_Mo_follows_25 rfl (lv_at hl 2 rfl) ?_
          refine lv_aload_n hx hb d_Mo_follows_26 rfl (lv_at hl 2 rfl) ?_
          refine xm_get (D := D) (v := .ref (ad i_left)) (C := R_Mo) (T := F_Mo) (N := 28) hx hb hts (fun w h => List.mem_cons_of_mem _ (i_Mo w h)) hown hw (k_M m_calls m_row m_inRow m_values_5 m_by_6 m_choice_7 m_rule_8 m_atoms_9 m_depth_10) rfl 7 (by decide) (hts _ (List.mem_cons_of_mem _ xw_569)) (fun _ h9 => h9) rfl d_Mo_follows_27 ?_
          refine lv_iload hx hb d_Mo_follows_30 (lv_at hl 1 rfl) ?_
          obtain ⟨hin, h⟩ := h
          refine xm_iald hx hb hw 0 (k_left m_calls m_row m_inRow m_values_5 m_by_6 m_choice_7 m_rule_8 m_atoms_9 m_depth_10) rfl hin d_Mo_follows_32 ?_
          refine lv_iload_n hx hb d_Mo_follows_33 rfl (lv_at hl 5 rfl) ?_
          refine lv_iconst (v := (-1)) hx hb d_Mo_follows_34 (by decide) ?_
          refine xm_calli (ua := fun _ => ad) (va_runV (As := [.int (m_left (Int32.toNatClampNeg x_1)), .int p2, .int (-1)]) (rest := []) ⟨hx, hb, hml, hown, hts⟩ (c_Mo_takes (D := D) (ad := ad) (CE := (fun m_values m_by => (CE m_calls m_row m_inRow m_values m_by m_choice_7 m_rule_8 m_atoms_9 m_depth_10)))  (fun m_values m_by => k_M m_calls m_row m_inRow m_values m_by m_choice_7 m_rule_8 m_atoms_9 m_depth_10) (fun m_values m_by => k_values m_calls m_row m_inRow m_values m_by m_choice_7 m_rule_8 m_atoms_9 m_depth_10) (fun m_values m_by => k_by m_calls m_row m_inRow m_values m_by m_choice_7 m_rule_8 m_atoms_9 m_depth_10) (fun m_values m_by m_values' => u_values m_calls m_row m_inRow m_values m_by m_choice_7 m_rule_8 m_atoms_9 m_depth_10 m_values') (fun m_values m_by m_by' => u_by m_calls m_row m_inRow m_values m_by m_choice_7 m_rule_8 m_atoms_9 m_depth_10 m_by') h _) (xg_cwV 3 hts xw_736 xw_733 xw_735 xw_p34 xw_8 rfl rfl (by decide +kernel) ⟨Nat.le_of_ble_eq_true rfl, Nat.le_of_ble_eq_true rfl⟩) (xm_preV hw (k_M m_calls m_row m_inRow m_values_5 m_by_6 m_choice_7 m_rule_8 m_atoms_9 m_depth_10) rfl _) rfl rfl hl.1 rfl (lv_room (Nat.le_of_ble_eq_true rfl)) d_Mo_follows_35 ⟨Nat.le_of_ble_eq_true rfl, Nat.le_of_ble_eq_true rfl⟩) hw (fun r_50 u_51 H locs h hw => ?_)
          obtain ⟨m_values_52, em_values_52⟩ : ∃ z, z = u_51.1 := ⟨_, rfl⟩
          obtain ⟨m_by_53, em_by_53⟩ : ∃ z, z = u_51.2 := ⟨_, rfl⟩
          try dsimp only at h hw
          rw [← em_values_52, ← em_by_53] at h hw
          refine lv_if_eq (tgt := 69) hx hb d_Mo_follows_38 (by decide) (fun hc => ?_) (fun hc => ?_)
          · have h := h.1 hc
            exact hJ_41 (m_calls, m_row, m_inRow, m_values_52, m_by_53, m_choice_7, m_rule_8, m_atoms_9, m_depth_10) h _ _ _ hw (lv_sub hl [2, 4, 0] rfl)
          · have h := h.2 hc
            exact hJ_43 (m_calls, m_row, m_inRow, m_values_52, m_by_53, m_choice_7, m_rule_8, m_atoms_9, m_depth_10) h _ _ _ hw (lv_sub hl [2, 4, 6, 1, 0] rfl)
theorem xw_575 : (Jvm.Cond.fieldLink "QuestionDeskModel" (137 : Nat) "QuestionDeskModel" "asksOf" "I") ∈ xg := xg_t (i := 575) (by decide +kernel) (by decide +kernel)
theorem xw_576 : (Jvm.Cond.fieldLink "QuestionDeskModel" (140 : Nat) "QuestionDeskModel" "asksLeft" "I") ∈ xg := xg_t (i := 576) (by decide +kernel) (by decide +kernel)
theorem xw_577 : (Jvm.Cond.fieldLink "QuestionDeskModel" (143 : Nat) "QuestionDeskModel" "asksRight" "I") ∈ xg := xg_t (i := 577) (by decide +kernel) (by decide +kernel)
theorem xw_752 : (Jvm.Cond.code ({ cls := "QuestionDeskModel", name := "follows", desc := "(IIII)V" } : Jvm.MethodName) prog_6_method_27_code (8 : Nat) (Option.none : Option Jvm.ClassFile.FieldType)) ∈ xg := xg_t (i := 752) (by decide +kernel) (by decide +kernel)
theorem xw_749 : (Jvm.Cond.methodLink "QuestionDeskModel" (146 : Nat) ({ cls := "QuestionDeskModel", name := "follows", desc := "(IIII)V" } : Jvm.MethodName)) ∈ xg := xg_t (i := 749) (by decide +kernel) (by decide +kernel)
theorem xw_751 : (Jvm.Cond.instanceMethod ({ cls := "QuestionDeskModel", name := "follows", desc := "(IIII)V" } : Jvm.MethodName)) ∈ xg := xg_t (i := 751) (by decide +kernel) (by decide +kernel)
theorem xw_p38 : Cond.selects "QuestionDeskModel" ⟨"QuestionDeskModel", "follows", "(IIII)V"⟩ ⟨"QuestionDeskModel", "follows", "(IIII)V"⟩ ∈ xg := xg_p (q := (⟨"QuestionDeskModel", "follows", "(IIII)V"⟩, 28)) (i := 38) (by decide +kernel) (by decide +kernel)
def wp_Mo_asks (post : (Nat → Int32) → (Nat → Int32) → Int32 → (Nat → Int32) → (Nat → Int32) → (Nat → Int32) → Int32 → Int32 → Int32 → Prop)  (m_ruled : Nat → Int32) (m_model : Nat → Int32) (m_ofAtom : Nat → Int32) (m_left : Nat → Int32) (m_right : Nat → Int32) (m_size : Nat → Int32) (m_rules : Int32) (m_asksOf : Int32) (m_asksLeft : Int32) (m_asksRight : Int32) (m_calls : Nat → Int32) (m_row : Nat → Int32) (m_inRow : Int32) (m_values : Nat → Int32) (m_by : Nat → Int32) (m_choice : Nat → Int32) (m_rule : Int32) (m_atoms : Int32) (m_depth : Int32) : Prop :=
xL (fun (K_2 : Int32 × (Nat → Int32) × (Nat → Int32) × Int32 × (Nat → Int32) × (Nat → Int32) × (Nat → Int32) × Int32 × Int32 × Int32 → Prop) (v_1 : Int32 × (Nat → Int32) × (Nat → Int32) × Int32 × (Nat → Int32) × (Nat → Int32) × (Nat → Int32) × Int32 × Int32 × Int32) =>
((1210 ≤ v_1.1 →
vp_in m_asksOf 10 ∧
((¬ (m_ruled (Int32.toNatClampNeg m_asksOf)) = 0 →
xj (fun (v_3 : Int32) =>
wp_Mo_in (fun r_5 =>
xj (fun (v_7 : Int32) =>
wp_Mo_calls (fun m_calls_11 m_row_12 m_inRow_13 =>
xL (fun (K_15 : Int32 × (Nat → Int32) × (Nat → Int32) × Int32 × (Nat → Int32) × (Nat → Int32) × (Nat → Int32) × Int32 × Int32 × Int32 → Prop) (v_14 : Int32 × (Nat → Int32) × (Nat → Int32) × Int32 × (Nat → Int32) × (Nat → Int32) × (Nat → Int32) × Int32 × Int32 × Int32) =>
((v_14.2.2.2.1 ≤ v_14.1 →
post v_14.2.1 v_14.2.2.1 v_14.2.2.2.1 v_14.2.2.2.2.1 v_14.2.2.2.2.2.1 v_14.2.2.2.2.2.2.1 v_14.2.2.2.2.2.2.2.1 v_14.2.2.2.2.2.2.2.2.1 v_14.2.2.2.2.2.2.2.2.2) ∧ (¬ v_14.2.2.2.1 ≤ v_14.1 →
vp_in v_14.1 1210 ∧
∀ x_16 : Int32, x_16 = v_14.2.2.1 (Int32.toNatClampNeg v_14.1) →
xL (fun (K_18 : Int32 × (Nat → Int32) × (Nat → Int32) × Int32 × (Nat → Int32) × (Nat → Int32) × (Nat → Int32) × Int32 × Int32 × Int32 → Prop) (v_17 : Int32 × (Nat → Int32) × (Nat → Int32) × Int32 × (Nat → Int32) × (Nat → Int32) × (Nat → Int32) × Int32 × Int32 × Int32) =>
((m_rules ≤ v_17.1 →
∀ x_19 : Int32, x_19 = v_14.1 + 1 →
K_15 (x_19, v_17.2.1, v_17.2.2.1, v_17.2.2.2.1, v_17.2.2.2.2.1, v_17.2.2.2.2.2.1, v_17.2.2.2.2.2.2.1, v_17.2.2.2.2.2.2.2.1, v_17.2.2.2.2.2.2.2.2.1, v_17.2.2.2.2.2.2.2.2.2)) ∧ (¬ m_rules ≤ v_17.1 →
xL (fun (K_21 : Int32 × (Nat → Int32) × (Nat → Int32) × Int32 × (Nat → Int32) × (Nat → Int32) × (Nat → Int32) × Int32 × Int32 × Int32 → Prop) (v_20 : Int32 × (Nat → Int32) × (Nat → Int32) × Int32 × (Nat → Int32) × (Nat → Int32) × (Nat → Int32) × Int32 × Int32 × Int32) =>
vp_in v_17.1 31 ∧
xj (fun (v_22 : Unit) =>
∀ x_24 : Int32, x_24 = v_17.1 + 1 →
K_18 (x_24, v_20.2.1, v_20.2.2.1, v_20.2.2.2.1, v_20.2.2.2.2.1, v_20.2.2.2.2.2.1, v_20.2.2.2.2.2.2.1, v_20.2.2.2.2.2.2.2.1, v_20.2.2.2.2.2.2.2.2.1, v_20.2.2.2.2.2.2.2.2.2)) (fun (J_23 : Unit → Prop) =>
(((m_size (Int32.toNatClampNeg v_17.1)) ≤ v_20.1 →
J_23 ()) ∧ (¬ (m_size (Int32.toNatClampNeg v_17.1)) ≤ v_20.1 →
vp_in (4 * v_17.1) 124 ∧
((¬ (m_ofAtom (Int32.toNatClampNeg (4 * v_17.1))) = (x_16 / 121) →
J_23 ()) ∧ ((m_ofAtom (Int32.toNatClampNeg (4 * v_17.1))) = (x_16 / 121) →
vp_in (((4 * v_17.1) + 1) + v_20.1) 124 ∧
vp_in (m_ofAtom (Int32.toNatClampNeg (((4 * v_17.1) + 1) + v_20.1))) 10 ∧
xj (fun (v_25 : (Nat → Int32) × (Nat → Int32) × Int32 × (Nat → Int32) × (Nat → Int32) × (Nat → Int32) × Int32 × Int32 × Int32) =>
∀ x_27 : Int32, x_27 = v_20.1 + 1 →
K_21 (x_27, v_25.1, v_25.2.1, v_25.2.2.1, v_25.2.2.2.1, v_25.2.2.2.2.1, v_25.2.2.2.2.2.1, v_25.2.2.2.2.2.2.1, v_25.2.2.2.2.2.2.2.1, v_25.2.2.2.2.2.2.2.2)) (fun (J_26 : (Nat → Int32) × (Nat → Int32) × Int32 × (Nat → Int32) × (Nat → Int32) × (Nat → Int32) × Int32 × Int32 × Int32 → Prop) =>
(((m_ruled (Int32.toNatClampNeg (m_ofAtom (Int32.toNatClampNeg (((4 * v_17.1) + 1) + v_20.1))))) = 0 →
J_26 (v_20.2.1, v_20.2.2.1, v_20.2.2.2.1, v_20.2.2.2.2.1, v_20.2.2.2.2.2.1, v_20.2.2.2.2.2.2.1, v_20.2.2.2.2.2.2.2.1, v_20.2.2.2.2.2.2.2.2.1, v_20.2.2.2.2.2.2.2.2.2)) ∧ (¬ (m_ruled (Int32.toNatClampNeg (m_ofAtom (Int32.toNatClampNeg (((4 * v_17.1) + 1) + v_20.1))))) = 0 →
wp_Mo_follows (fun m_calls_30 m_row_31 m_inRow_32 m_values_33 m_by_34 m_choice_35 m_rule_36 m_atoms_37 m_depth_38 =>
J_26 (m_calls_30, m_row_31, m_inRow_32, m_values_33, m_by_34, m_choice_35, m_rule_36, m_atoms_37, m_depth_38)) m_model m_ofAtom m_left m_right v_20.2.1 v_20.2.2.1 v_20.2.2.2.1 v_20.2.2.2.2.1 v_20.2.2.2.2.2.1 v_20.2.2.2.2.2.2.1 v_20.2.2.2.2.2.2.2.1 v_20.2.2.2.2.2.2.2.2.1 v_20.2.2.2.2.2.2.2.2.2 v_17.1 v_20.1 ((x_16 / 11) - ((x_16 / 11) / 11) * 11) (x_16 - (x_16 / 11) * 11)))))))))) (0, v_17.2.1, v_17.2.2.1, v_17.2.2.2.1, v_17.2.2.2.2.1, v_17.2.2.2.2.2.1, v_17.2.2.2.2.2.2.1, v_17.2.2.2.2.2.2.2.1, v_17.2.2.2.2.2.2.2.2.1, v_17.2.2.2.2.2.2.2.2.2)))) (0, v_14.2.1, v_14.2.2.1, v_14.2.2.2.1, v_14.2.2.2.2.1, v_14.2.2.2.2.2.1, v_14.2.2.2.2.2.2.1, v_14.2.2.2.2.2.2.2.1, v_14.2.2.2.2.2.2.2.2.1, v_14.2.2.2.2.2.2.2.2.2)))) (0, m_calls_11, m_row_12, m_inRow_13, v_1.2.2.2.2.1, v_1.2.2.2.2.2.1, v_1.2.2.2.2.2.2.1, v_1.2.2.2.2.2.2.2.1, v_1.2.2.2.2.2.2.2.2.1, v_1.2.2.2.2.2.2.2.2.2)) v_1.2.1 v_1.2.2.1 0 m_asksOf v_3 v_7) (fun (J_8 : Int32 → Prop) =>
((r_5 = 0 →
J_8 10) ∧ (¬ r_5 = 0 →
J_8 m_asksRight)))) m_asksRight 0 9) (fun (J_4 : Int32 → Prop) =>
((10 ≤ m_asksLeft →
J_4 10) ∧ (¬ 10 ≤ m_asksLeft →
J_4 m_asksLeft)))) ∧ ((m_ruled (Int32.toNatClampNeg m_asksOf)) = 0 →
post v_1.2.1 v_1.2.2.1 0 v_1.2.2.2.2.1 v_1.2.2.2.2.2.1 v_1.2.2.2.2.2.2.1 v_1.2.2.2.2.2.2.2.1 v_1.2.2.2.2.2.2.2.2.1 v_1.2.2.2.2.2.2.2.2.2))) ∧ (¬ 1210 ≤ v_1.1 →
vp_in v_1.1 1210 ∧
∀ m_calls_39 : Nat → Int32, m_calls_39 = upd v_1.2.1 (Int32.toNatClampNeg v_1.1) (vp_nar .boolean 0) →
∀ x_40 : Int32, x_40 = v_1.1 + 1 →
K_2 (x_40, m_calls_39, v_1.2.2.1, v_1.2.2.2.1, v_1.2.2.2.2.1, v_1.2.2.2.2.2.1, v_1.2.2.2.2.2.2.1, v_1.2.2.2.2.2.2.2.1, v_1.2.2.2.2.2.2.2.2.1, v_1.2.2.2.2.2.2.2.2.2)))) (0, m_calls, m_row, m_inRow, m_values, m_by, m_choice, m_rule, m_atoms, m_depth)
abbrev rm_Mo_asks : Room := { frames := 4, cells := 0, slots := 0, locals := 93 }
set_option maxHeartbeats 4000000 in
set_option maxRecDepth 100000 in
theorem c_Mo_asks {l : Launch} {D : va_G} {ad : Nat → Nat} (CE : (Nat → Int32) → (Nat → Int32) → Int32 → (Nat → Int32) → (Nat → Int32) → (Nat → Int32) → Int32 → Int32 → Int32 → Nat → Option va_E) {cI cZ cJ cO : ClassId} {iM : Nat} {i_places : Nat} {i_ruled : Nat} {i_told : Nat} {i_model : Nat} {i_ofAtom : Nat} {i_left : Nat} {i_right : Nat} {i_size : Nat} {i_calls : Nat} {i_row : Nat} {i_patterns : Nat} {i_values : Nat} {i_by : Nat} {i_choice : Nat} {m_ruled : Nat → Int32} {m_model : Nat → Int32} {m_ofAtom : Nat → Int32} {m_left : Nat → Int32} {m_right : Nat → Int32} {m_size : Nat → Int32} {m_rules : Int32} {m_asksOf : Int32} {m_asksLeft : Int32} {m_asksRight : Int32} {m_thrown : Int32} {m_predicates : Int32} {m_begun : Int32} {m_asked : Int32} {m_hadPredicates : Int32} {m_rewritten : Int32} (k_M : ∀ (m_calls : Nat → Int32) (m_row : Nat → Int32) (m_inRow : Int32) (m_values : Nat → Int32) (m_by : Nat → Int32) (m_choice : Nat → Int32) (m_rule : Int32) (m_atoms : Int32) (m_depth : Int32), (CE m_calls m_row m_inRow m_values m_by m_choice m_rule m_atoms m_depth) iM = some (.inr (4, [.int m_thrown, .ref (ad i_places), .ref (ad i_ruled), .int m_predicates, .ref (ad i_told), .ref (ad i_model), .ref (ad i_ofAtom), .ref (ad i_left), .ref (ad i_right), .ref (ad i_size), .int m_rules, .int m_begun, .int m_asked, .int m_asksOf, .int m_asksLeft, .int m_asksRight, .int m_hadPredicates, .ref (ad i_calls), .ref (ad i_row), .int m_inRow, .ref (ad i_patterns), .int m_rewritten, .ref (ad i_values), .ref (ad i_by), .ref (ad i_choice), .int m_rule, .int m_atoms, .int m_depth]))) (k_ruled : ∀ (m_calls : Nat → Int32) (m_row : Nat → Int32) (m_inRow : Int32) (m_values : Nat → Int32) (m_by : Nat → Int32) (m_choice : Nat → Int32) (m_rule : Int32) (m_atoms : Int32) (m_depth : Int32), (CE m_calls m_row m_inRow m_values m_by m_choice m_rule m_atoms m_depth) i_ruled = some (.inl (cZ, 10, .inl m_ruled))) (k_model : ∀ (m_calls : Nat → Int32) (m_row : Nat → Int32) (m_inRow : Int32) (m_values : Nat → Int32) (m_by : Nat → Int32) (m_choice : Nat → Int32) (m_rule : Int32) (m_atoms : Int32) (m_depth : Int32), (CE m_calls m_row m_inRow m_values m_by m_choice m_rule m_atoms m_depth) i_model = some (.inl (cZ, 1000, .inl m_model))) (k_ofAtom : ∀ (m_calls : Nat → Int32) (m_row : Nat → Int32) (m_inRow : Int32) (m_values : Nat → Int32) (m_by : Nat → Int32) (m_choice : Nat → Int32) (m_rule : Int32) (m_atoms : Int32) (m_depth : Int32), (CE m_calls m_row m_inRow m_values m_by m_choice m_rule m_atoms m_depth) i_ofAtom = some (.inl (cI, 124, .inl m_ofAtom))) (k_left : ∀ (m_calls : Nat → Int32) (m_row : Nat → Int32) (m_inRow : Int32) (m_values : Nat → Int32) (m_by : Nat → Int32) (m_choice : Nat → Int32) (m_rule : Int32) (m_atoms : Int32) (m_depth : Int32), (CE m_calls m_row m_inRow m_values m_by m_choice m_rule m_atoms m_depth) i_left = some (.inl (cI, 124, .inl m_left))) (k_right : ∀ (m_calls : Nat → Int32) (m_row : Nat → Int32) (m_inRow : Int32) (m_values : Nat → Int32) (m_by : Nat → Int32) (m_choice : Nat → Int32) (m_rule : Int32) (m_atoms : Int32) (m_depth : Int32), (CE m_calls m_row m_inRow m_values m_by m_choice m_rule m_atoms m_depth) i_right = some (.inl (cI, 124, .inl m_right))) (k_size : ∀ (m_calls : Nat → Int32) (m_row : Nat → Int32) (m_inRow : Int32) (m_values : Nat → Int32) (m_by : Nat → Int32) (m_choice : Nat → Int32) (m_rule : Int32) (m_atoms : Int32) (m_depth : Int32), (CE m_calls m_row m_inRow m_values m_by m_choice m_rule m_atoms m_depth) i_size = some (.inl (cI, 31, .inl m_size))) (k_calls : ∀ (m_calls : Nat → Int32) (m_row : Nat → Int32) (m_inRow : Int32) (m_values : Nat → Int32) (m_by : Nat → Int32) (m_choice : Nat → Int32) (m_rule : Int32) (m_atoms : Int32) (m_depth : Int32), (CE m_calls m_row m_inRow m_values m_by m_choice m_rule m_atoms m_depth) i_calls = some (.inl (cZ, 1210, .inl m_calls))) (k_row : ∀ (m_calls : Nat → Int32) (m_row : Nat → Int32) (m_inRow : Int32) (m_values : Nat → Int32) (m_by : Nat → Int32) (m_choice : Nat → Int32) (m_rule : Int32) (m_atoms : Int32) (m_depth : Int32), (CE m_calls m_row m_inRow m_values m_by m_choice m_rule m_atoms m_depth) i_row = some (.inl (cI, 1210, .inl m_row))) (k_values : ∀ (m_calls : Nat → Int32) (m_row : Nat → Int32) (m_inRow : Int32) (m_values : Nat → Int32) (m_by : Nat → Int32) (m_choice : Nat → Int32) (m_rule : Int32) (m_atoms : Int32) (m_depth : Int32), (CE m_calls m_row m_inRow m_values m_by m_choice m_rule m_atoms m_depth) i_values = some (.inl (cI, 8, .inl m_values))) (k_by : ∀ (m_calls : Nat → Int32) (m_row : Nat → Int32) (m_inRow : Int32) (m_values : Nat → Int32) (m_by : Nat → Int32) (m_choice : Nat → Int32) (m_rule : Int32) (m_atoms : Int32) (m_depth : Int32), (CE m_calls m_row m_inRow m_values m_by m_choice m_rule m_atoms m_depth) i_by = some (.inl (cI, 8, .inl m_by))) (k_choice : ∀ (m_calls : Nat → Int32) (m_row : Nat → Int32) (m_inRow : Int32) (m_values : Nat → Int32) (m_by : Nat → Int32) (m_choice : Nat → Int32) (m_rule : Int32) (m_atoms : Int32) (m_depth : Int32), (CE m_calls m_row m_inRow m_values m_by m_choice m_rule m_atoms m_depth) i_choice = some (.inl (cI, 4, .inl m_choice))) (u_M : ∀ (m_calls : Nat → Int32) (m_row : Nat → Int32) (m_inRow : Int32) (m_values : Nat → Int32) (m_by : Nat → Int32) (m_choice : Nat → Int32) (m_rule : Int32) (m_atoms : Int32) (m_depth : Int32) (m_inRow' : Int32) (m_rule' : Int32) (m_atoms' : Int32) (m_depth' : Int32), va_up (CE m_calls m_row m_inRow m_values m_by m_choice m_rule m_atoms m_depth) iM (some (.inr (4, [.int m_thrown, .ref (ad i_places), .ref (ad i_ruled), .int m_predicates, .ref (ad i_told), .ref (ad i_model), .ref (ad i_ofAtom), .ref (ad i_left), .ref (ad i_right), .ref (ad i_size), .int m_rules, .int m_begun, .int m_asked, .int m_asksOf, .int m_asksLeft, .int m_asksRight, .int m_hadPredicates, .ref (ad i_calls), .ref (ad i_row), .int m_inRow', .ref (ad i_patterns), .int m_rewritten, .ref (ad i_values), .ref (ad i_by), .ref (ad i_choice), .int m_rule', .int m_atoms', .int m_depth']))) = (CE m_calls m_row m_inRow' m_values m_by m_choice m_rule' m_atoms' m_depth')) (u_calls : ∀ (m_calls : Nat → Int32) (m_row : Nat → Int32) (m_inRow : Int32) (m_values : Nat → Int32) (m_by : Nat → Int32) (m_choice : Nat → Int32) (m_rule : Int32) (m_atoms : Int32) (m_depth : Int32) (m_calls' : Nat → Int32), va_up (CE m_calls m_row m_inRow m_values m_by m_choice m_rule m_atoms m_depth) i_calls (some (.inl (cZ, 1210, .inl m_calls'))) = (CE m_calls' m_row m_inRow m_values m_by m_choice m_rule m_atoms m_depth)) (u_row : ∀ (m_calls : Nat → Int32) (m_row : Nat → Int32) (m_inRow : Int32) (m_values : Nat → Int32) (m_by : Nat → Int32) (m_choice : Nat → Int32) (m_rule : Int32) (m_atoms : Int32) (m_depth : Int32) (m_row' : Nat → Int32), va_up (CE m_calls m_row m_inRow m_values m_by m_choice m_rule m_atoms m_depth) i_row (some (.inl (cI, 1210, .inl m_row'))) = (CE m_calls m_row' m_inRow m_values m_by m_choice m_rule m_atoms m_depth)) (u_values : ∀ (m_calls : Nat → Int32) (m_row : Nat → Int32) (m_inRow : Int32) (m_values : Nat → Int32) (m_by : Nat → Int32) (m_choice : Nat → Int32) (m_rule : Int32) (m_atoms : Int32) (m_depth : Int32) (m_values' : Nat → Int32), va_up (CE m_calls m_row m_inRow m_values m_by m_choice m_rule m_atoms m_depth) i_values (some (.inl (cI, 8, .inl m_values'))) = (CE m_calls m_row m_inRow m_values' m_by m_choice m_rule m_atoms m_depth)) (u_by : ∀ (m_calls : Nat → Int32) (m_row : Nat → Int32) (m_inRow : Int32) (m_values : Nat → Int32) (m_by : Nat → Int32) (m_choice : Nat → Int32) (m_rule : Int32) (m_atoms : Int32) (m_depth : Int32) (m_by' : Nat → Int32), va_up (CE m_calls m_row m_inRow m_values m_by m_choice m_rule m_atoms m_depth) i_by (some (.inl (cI, 8, .inl m_by'))) = (CE m_calls m_row m_inRow m_values m_by' m_choice m_rule m_atoms m_depth)) (u_choice : ∀ (m_calls : Nat → Int32) (m_row : Nat → Int32) (m_inRow : Int32) (m_values : Nat → Int32) (m_by : Nat → Int32) (m_choice : Nat → Int32) (m_rule : Int32) (m_atoms : Int32) (m_depth : Int32) (m_choice' : Nat → Int32), va_up (CE m_calls m_row m_inRow m_values m_by m_choice m_rule m_atoms m_depth) i_choice (some (.inl (cI, 4, .inl m_choice'))) = (CE m_calls m_row m_inRow m_values m_by m_choice' m_rule m_atoms m_depth)) {post : (Nat → Int32) → (Nat → Int32) → Int32 → (Nat → Int32) → (Nat → Int32) → (Nat → Int32) → Int32 → Int32 → Int32 → Prop} {m_calls : Nat → Int32} {m_row : Nat → Int32} {m_inRow : Int32} {m_values : Nat → Int32} {m_by : Nat → Int32} {m_choice : Nat → Int32} {m_rule : Int32} {m_atoms : Int32} {m_depth : Int32} (h : wp_Mo_asks post m_ruled m_model m_ofAtom m_left m_right m_size m_rules m_asksOf m_asksLeft m_asksRight m_calls m_row m_inRow m_values m_by m_choice m_rule m_atoms m_depth) : ∀ sz, Met l y_Mo_asks (Cond.code y_Mo_asks b_Mo_asks 5 none :: xg) rm_Mo_asks (xm_Pc D xcl (xT cI cZ cJ cO) ad (CE m_calls m_row m_inRow m_values m_by m_choice m_rule m_atoms m_depth) sz [.ref (ad iM)]) (va_Qv (fun u : (Nat → Int32) × (Nat → Int32) × Int32 × (Nat → Int32) × (Nat → Int32) × (Nat → Int32) × Int32 × Int32 × Int32 => post u.1 u.2.1 u.2.2.1 u.2.2.2.1 u.2.2.2.2.1 u.2.2.2.2.2.1 u.2.2.2.2.2.2.1 u.2.2.2.2.2.2.2.1 u.2.2.2.2.2.2.2.2) (xm_B D xcl (xT cI cZ cJ cO) (xm_A ad (CE m_calls m_row m_inRow m_values m_by m_choice m_rule m_atoms m_depth) sz) (fun _ => ad) (fun u : (Nat → Int32) × (Nat → Int32) × Int32 × (Nat → Int32) × (Nat → Int32) × (Nat → Int32) × Int32 × Int32 × Int32 => CE u.1 u.2.1 u.2.2.1 u.2.2.2.1 u.2.2.2.2.1 u.2.2.2.2.2.1 u.2.2.2.2.2.2.1 u.2.2.2.2.2.2.2.1 u.2.2.2.2.2.2.2.2)) (xm_A ad (CE m_calls m_row m_inRow m_values m_by m_choice m_rule m_atoms m_depth) sz)) 0 0 (xm_A ad (CE m_calls m_row m_inRow m_values m_by m_choice m_rule m_atoms m_depth) sz) := by
  refine xm_ofW (cc := b_Mo_asks) (maxL := 5) (ret := none) (by decide) rfl (Nat.le_of_ble_eq_true rfl) ?_
  intro p e s m args below meth c ls QQ hQQ hx hb hml hr hown hlk hnm hts hl hw
  have hl : lv_has ls 5 [(0, .ref (ad iM))] := hl
  unfold wp_Mo_asks at h
  refine lv_iconst (v := 0) hx hb d_Mo_asks_0 (by decide) ?_
  refine lv_istore_n (lv' := [(1, .int 0), (0, .ref (ad iM))]) hx hb d_Mo_asks_1 rfl hl (by decide) rfl (fun ls hl => ?_)
  refine xL_use h (fun (v_1 : Int32 × (Nat → Int32) × (Nat → Int32) × Int32 × (Nat → Int32) × (Nat → Int32) × (Nat → Int32) × Int32 × Int32 × Int32) => ∀ (H : Heap) (locs : List Loc) (ls : Array Slot), xm_W D xcl (xT cI cZ cJ cO) (xm_A ad (CE m_calls m_row m_inRow m_values m_by m_choice m_rule m_atoms m_depth) s.heap.size) ad (CE v_1.2.1 v_1.2.2.1 v_1.2.2.2.1 v_1.2.2.2.2.1 v_1.2.2.2.2.2.1 v_1.2.2.2.2.2.2.1 v_1.2.2.2.2.2.2.2.1 v_1.2.2.2.2.2.2.2.2.1 v_1.2.2.2.2.2.2.2.2.2) s s.heap H locs → lv_has ls 5 [(1, .int v_1.1), (0, .ref (ad iM))] → W p l e rm_Mo_asks s m args below meth c H locs 0 0 QQ (F0 m 2 ls [])) (fun K_2 hK_2 v_1 h H locs ls hw hl => ?_) _ _ _ hw (lv_sub hl [0, 1] rfl)
  refine lv_iload_n hx hb d_Mo_asks_2 rfl (lv_at hl 0 rfl) ?_
  refine lv_sipush (v := 1210) hx hb d_Mo_asks_3 (by decide) ?_
  refine lv_icmp_ge (tgt := 22) hx hb d_Mo_asks_6 (by decide) (fun hc => ?_) (fun hc => ?_)
  · have h := h.1 hc
    refine lv_aload_n hx hb d_Mo_asks_22 rfl (lv_at hl 1 rfl) ?_
    refine lv_iconst (v := 0) hx hb d_Mo_asks_23 (by decide) ?_
    refine xm_put (D := D) (v := .int 0) (ty := .int) (C := R_Mo) (T := F_Mo) (N := 28) hx hb hts (fun w h => List.mem_cons_of_mem _ (i_Mo w h)) t_Mo o_Mo n_Mo hown hw (k_M v_1.2.1 v_1.2.2.1 v_1.2.2.2.1 v_1.2.2.2.2.1 v_1.2.2.2.2.2.1 v_1.2.2.2.2.2.2.1 v_1.2.2.2.2.2.2.2.1 v_1.2.2.2.2.2.2.2.2.1 v_1.2.2.2.2.2.2.2.2.2) rfl 19 (by decide) (hts _ (List.mem_cons_of_mem _ xw_581)) (fun _ h9 => h9) rfl (by decide +kernel) rfl rfl (Nat.le_of_ble_eq_true rfl) d_Mo_asks_24 (fun H locs hw => ?_)
    have hw : xm_W D xcl (xT cI cZ cJ cO) (xm_A ad (CE m_calls m_row m_inRow m_values m_by m_choice m_rule m_atoms m_depth) s.heap.size) ad (CE v_1.2.1 v_1.2.2.1 0 v_1.2.2.2.2.1 v_1.2.2.2.2.2.1 v_1.2.2.2.2.2.2.1 v_1.2.2.2.2.2.2.2.1 v_1.2.2.2.2.2.2.2.2.1 v_1.2.2.2.2.2.2.2.2.2) s s.heap H locs := xm_W.cast (u_M v_1.2.1 v_1.2.2.1 v_1.2.2.2.1 v_1.2.2.2.2.1 v_1.2.2.2.2.2.1 v_1.2.2.2.2.2.2.1 v_1.2.2.2.2.2.2.2.1 v_1.2.2.2.2.2.2.2.2.1 v_1.2.2.2.2.2.2.2.2.2 0 v_1.2.2.2.2.2.2.2.1 v_1.2.2.2.2.2.2.2.2.1 v_1.2.2.2.2.2.2.2.2.2) hw
    refine lv_aload_n hx hb d_Mo_asks_27 rfl (lv_at hl 1 rfl) ?_
    refine xm_get (D := D) (v := .ref (ad i_ruled)) (C := R_Mo) (T := F_Mo) (N := 28) hx hb hts (fun w h => List.mem_cons_of_mem _ (i_Mo w h)) hown hw (k_M v_1.2.1 v_1.2.2.1 0 v_1.2.2.2.2.1 v_1.2.2.2.2.2.1 v_1.2.2.2.2.2.2.1 v_1.2.2.2.2.2.2.2.1 v_1.2.2.2.2.2.2.2.2.1 v_1.2.2.2.2.2.2.2.2.2) rfl 2 (by decide) (hts _ (List.mem_cons_of_mem _ xw_564)) (fun _ h9 => h9) rfl d_Mo_asks_28 ?_
    refine lv_aload_n hx hb d_Mo_asks_31 rfl (lv_at hl 1 rfl) ?_
    refine xm_get (D := D) (v := .int m_asksOf) (C := R_Mo) (T := F_Mo) (N := 28) hx hb hts (fun w h => List.mem_cons_of_mem _ (i_Mo w h)) hown hw (k_M v_1.2.1 v_1.2.2.1 0 v_1.2.2.2.2.1 v_1.2.2.2.2.2.1 v_1.2.2.2.2.2.2.1 v_1.2.2.2.2.2.2.2.1 v_1.2.2.2.2.2.2.2.2.1 v_1.2.2.2.2.2.2.2.2.2) rfl 13 (by decide) (hts _ (List.mem_cons_of_mem _ xw_575)) (fun _ h9 => h9) rfl d_Mo_asks_32 ?_
    obtain ⟨hin, h⟩ := h
    refine xm_zald hx hb hw 1 (k_ruled v_1.2.1 v_1.2.2.1 0 v_1.2.2.2.2.1 v_1.2.2.2.2.2.1 v_1.2.2.2.2.2.2.1 v_1.2.2.2.2.2.2.2.1 v_1.2.2.2.2.2.2.2.2.1 v_1.2.2.2.2.2.2.2.2.2) rfl hin d_Mo_asks_35 ?_
    refine lv_if_ne (tgt := 40) hx hb d_Mo_asks_36 (by decide) (fun hc => ?_) (fun hc => ?_)
    · have h := h.1 hc
      refine lv_aload_n hx hb d_Mo_asks_40 rfl (lv_at hl 1 rfl) ?_
      refine lv_aload_n hx hb d_Mo_asks_41 rfl (lv_at hl 1 rfl) ?_
      refine xm_get (D := D) (v := .int m_asksOf) (C := R_Mo) (T := F_Mo) (N := 28) hx hb hts (fun w h => List.mem_cons_of_mem _ (i_Mo w h)) hown hw (k_M v_1.2.1 v_1.2.2.1 0 v_1.2.2.2.2.1 v_1.2.2.2.2.2.1 v_1.2.2.2.2.2.2.1 v_1.2.2.2.2.2.2.2.1 v_1.2.2.2.2.2.2.2.2.1 v_1.2.2.2.2.2.2.2.2.2) rfl 13 (by decide) (hts _ (List.mem_cons_of_mem _ xw_575)) (fun _ h9 => h9) rfl d_Mo_asks_42 ?_
      refine lv_aload_n hx hb d_Mo_asks_45 rfl (lv_at hl 1 rfl) ?_
      refine xm_get (D := D) (v := .int m_asksLeft) (C := R_Mo) (T := F_Mo) (N := 28) hx hb hts (fun w h => List.mem_cons_of_mem _ (i_Mo w h)) hown hw (k_M v_1.2.1 v_1.2.2.1 0 v_1.2.2.2.2.1 v_1.2.2.2.2.2.1 v_1.2.2.2.2.2.2.1 v_1.2.2.2.2.2.2.2.1 v_1.2.2.2.2.2.2.2.2.1 v_1.2.2.2.2.2.2.2.2.2) rfl 14 (by decide) (hts _ (List.mem_cons_of_mem _ xw_576)) (fun _ h9 => h9) rfl d_Mo_asks_46 ?_
      refine lv_bipush (v := 10) hx hb d_Mo_asks_49 (by decide) ?_
      refine xj_use h (fun (v_3 : Int32) => ∀ (H : Heap) (locs : List Loc) (ls : Array Slot), xm_W D xcl (xT cI cZ cJ cO) (xm_A ad (CE m_calls m_row m_inRow m_values m_by m_choice m_rule m_atoms m_depth) s.heap.size) ad (CE v_1.2.1 v_1.2.2.1 0 v_1.2.2.2.2.1 v_1.2.2.2.2.2.1 v_1.2.2.2.2.2.2.1 v_1.2.2.2.2.2.2.2.1 v_1.2.2.2.2.2.2.2.2.1 v_1.2.2.2.2.2.2.2.2.2) s s.heap H locs → lv_has ls 5 [(0, .ref (ad iM))] → W p l e rm_Mo_asks s m args below meth c H locs 0 0 QQ (F0 m 63 ls [.int v_3, .int m_asksOf, .ref (ad iM)])) (fun v_3 h H locs ls hw hl => ?_) (fun J_4 hJ_4 h => ?_)
      · refine lv_aload_n hx hb d_Mo_asks_63 rfl (lv_at hl 0 rfl) ?_
        refine xm_get (D := D) (v := .int m_asksRight) (C := R_Mo) (T := F_Mo) (N := 28) hx hb hts (fun w h => List.mem_cons_of_mem _ (i_Mo w h)) hown hw (k_M v_1.2.1 v_1.2.2.1 0 v_1.2.2.2.2.1 v_1.2.2.2.2.2.1 v_1.2.2.2.2.2.2.1 v_1.2.2.2.2.2.2.2.1 v_1.2.2.2.2.2.2.2.2.1 v_1.2.2.2.2.2.2.2.2.2) rfl 15 (by decide) (hts _ (List.mem_cons_of_mem _ xw_577)) (fun _ h9 => h9) rfl d_Mo_asks_64 ?_
        refine lv_iconst (v := 0) hx hb d_Mo_asks_67 (by decide) ?_
        refine lv_bipush (v := 9) hx hb d_Mo_asks_68 (by decide) ?_
        refine xm_calli (ua := fun _ => ad) (va_runS (As := [.int m_asksRight, .int 0, .int 9]) (rest := [.int v_3, .int m_asksOf, .ref (ad iM)]) ⟨hx, hb, hml, hown, hts⟩ (c_Mo_in (D := D) (ad := ad) (CE := ((CE v_1.2.1 v_1.2.2.1 0 v_1.2.2.2.2.1 v_1.2.2.2.2.2.1 v_1.2.2.2.2.2.2.1 v_1.2.2.2.2.2.2.2.1 v_1.2.2.2.2.2.2.2.2.1 v_1.2.2.2.2.2.2.2.2.2)))   h _) (xg_cwS 3 hts xw_657 xw_655 xw_656 xw_8 rfl rfl (by decide +kernel) ⟨Nat.le_of_ble_eq_true rfl, Nat.le_of_ble_eq_true rfl⟩) (xm_pre hw _) rfl rfl hl.1 rfl (lv_room (Nat.le_of_ble_eq_true rfl)) d_Mo_asks_70 ⟨Nat.le_of_ble_eq_true rfl, Nat.le_of_ble_eq_true rfl⟩) hw (fun r_5 _ H locs h hw => ?_)
        refine xj_use h (fun (v_7 : Int32) => ∀ (H : Heap) (locs : List Loc) (ls : Array Slot), xm_W D xcl (xT cI cZ cJ cO) (xm_A ad (CE m_calls m_row m_inRow m_values m_by m_choice m_rule m_atoms m_depth) s.heap.size) ad (CE v_1.2.1 v_1.2.2.1 0 v_1.2.2.2.2.1 v_1.2.2.2.2.2.1 v_1.2.2.2.2.2.2.1 v_1.2.2.2.2.2.2.2.1 v_1.2.2.2.2.2.2.2.2.1 v_1.2.2.2.2.2.2.2.2.2) s s.heap H locs → lv_has ls 5 [(0, .ref (ad iM))] → W p l e rm_Mo_asks s m args below meth c H locs 0 0 QQ (F0 m 85 ls [.int v_7, .int v_3, .int m_asksOf, .ref (ad iM)])) (fun v_7 h H locs ls hw hl => ?_) (fun J_8 hJ_8 h => ?_)
        · refine xm_callv (ua := fun _ => ad) (va_runV (As := [.int m_asksOf, .int v_3, .int v_7]) (rest := []) ⟨hx, hb, hml, hown, hts⟩ (c_Mo_calls (D := D) (ad := ad) (CE := (fun m_calls m_row m_inRow => (CE m_calls m_row m_inRow v_1.2.2.2.2.1 v_1.2.2.2.2.2.1 v_1.2.2.2.2.2.2.1 v_1.2.2.2.2.2.2.2.1 v_1.2.2.2.2.2.2.2.2.1 v_1.2.2.2.2.2.2.2.2.2)))  (fun m_calls m_row m_inRow => k_M m_calls m_row m_inRow v_1.2.2.2.2.1 v_1.2.2.2.2.2.1 v_1.2.2.2.2.2.2.1 v_1.2.2.2.2.2.2.2.1 v_1.2.2.2.2.2.2.2.2.1 v_1.2.2.2.2.2.2.2.2.2) (fun m_calls m_row m_inRow => k_calls m_calls m_row m_inRow v_1.2.2.2.2.1 v_1.2.2.2.2.2.1 v_1.2.2.2.2.2.2.1 v_1.2.2.2.2.2.2.2.1 v_1.2.2.2.2.2.2.2.2.1 v_1.2.2.2.2.2.2.2.2.2) (fun m_calls m_row m_inRow => k_row m_calls m_row m_inRow v_1.2.2.2.2.1 v_1.2.2.2.2.2.1 v_1.2.2.2.2.2.2.1 v_1.2.2.2.2.2.2.2.1 v_1.2.2.2.2.2.2.2.2.1 v_1.2.2.2.2.2.2.2.2.2) (fun m_calls m_row m_inRow m_inRow' => u_M m_calls m_row m_inRow v_1.2.2.2.2.1 v_1.2.2.2.2.2.1 v_1.2.2.2.2.2.2.1 v_1.2.2.2.2.2.2.2.1 v_1.2.2.2.2.2.2.2.2.1 v_1.2.2.2.2.2.2.2.2.2 m_inRow' v_1.2.2.2.2.2.2.2.1 v_1.2.2.2.2.2.2.2.2.1 v_1.2.2.2.2.2.2.2.2.2) (fun m_calls m_row m_inRow m_calls' => u_calls m_calls m_row m_inRow v_1.2.2.2.2.1 v_1.2.2.2.2.2.1 v_1.2.2.2.2.2.2.1 v_1.2.2.2.2.2.2.2.1 v_1.2.2.2.2.2.2.2.2.1 v_1.2.2.2.2.2.2.2.2.2 m_calls') (fun m_calls m_row m_inRow m_row' => u_row m_calls m_row m_inRow v_1.2.2.2.2.1 v_1.2.2.2.2.2.1 v_1.2.2.2.2.2.2.1 v_1.2.2.2.2.2.2.2.1 v_1.2.2.2.2.2.2.2.2.1 v_1.2.2.2.2.2.2.2.2.2 m_row') h _) (xg_cwV 3 hts xw_748 xw_745 xw_747 xw_p37 xw_8 rfl rfl (by decide +kernel) ⟨Nat.le_of_ble_eq_true rfl, Nat.le_of_ble_eq_true rfl⟩) (xm_preV hw (k_M v_1.2.1 v_1.2.2.1 0 v_1.2.2.2.2.1 v_1.2.2.2.2.2.1 v_1.2.2.2.2.2.2.1 v_1.2.2.2.2.2.2.2.1 v_1.2.2.2.2.2.2.2.2.1 v_1.2.2.2.2.2.2.2.2.2) rfl _) rfl rfl hl.1 rfl (lv_room (Nat.le_of_ble_eq_true rfl)) d_Mo_asks_85 ⟨Nat.le_of_ble_eq_true rfl, Nat.le_of_ble_eq_true rfl⟩) hw (fun u_10 H locs h hw => ?_)
          obtain ⟨m_calls_11, em_calls_11⟩ : ∃ z, z = u_10.1 := ⟨_, rfl⟩
          obtain ⟨m_row_12, em_row_12⟩ : ∃ z, z = u_10.2.1 := ⟨_, rfl⟩
          obtain ⟨m_inRow_13, em_inRow_13⟩ : ∃ z, z = u_10.2.2 := ⟨_, rfl⟩
          try dsimp only at h hw
          rw [← em_calls_11, ← em_row_12, ← em_inRow_13] at h hw
          refine lv_iconst (v := 0) hx hb d_Mo_asks_88 (by decide) ?_
          refine lv_istore_n (lv' := [(1, .int 0), (0, .ref (ad iM))]) hx hb d_Mo_asks_89 rfl hl (by decide) rfl (fun ls hl => ?_)
          refine xL_use h (fun (v_14 : Int32 × (Nat → Int32) × (Nat → Int32) × Int32 × (Nat → Int32) × (Nat → Int32) × (Nat → Int32) × Int32 × Int32 × Int32) => ∀ (H : Heap) (locs : List Loc) (ls : Array Slot), xm_W D xcl (xT cI cZ cJ cO) (xm_A ad (CE m_calls m_row m_inRow m_values m_by m_choice m_rule m_atoms m_depth) s.heap.size) ad (CE v_14.2.1 v_14.2.2.1 v_14.2.2.2.1 v_14.2.2.2.2.1 v_14.2.2.2.2.2.1 v_14.2.2.2.2.2.2.1 v_14.2.2.2.2.2.2.2.1 v_14.2.2.2.2.2.2.2.2.1 v_14.2.2.2.2.2.2.2.2.2) s s.heap H locs → lv_has ls 5 [(1, .int v_14.1), (0, .ref (ad iM))] → W p l e rm_Mo_asks s m args below meth c H locs 0 0 QQ (F0 m 90 ls [])) (fun K_15 hK_15 v_14 h H locs ls hw hl => ?_) _ _ _ hw (lv_sub hl [0, 1] rfl)
          refine lv_iload_n hx hb d_Mo_asks_90 rfl (lv_at hl 0 rfl) ?_
          refine lv_aload_n hx hb d_Mo_asks_91 rfl (lv_at hl 1 rfl) ?_
          refine xm_get (D := D) (v := .int v_14.2.2.2.1) (C := R_Mo) (T := F_Mo) (N := 28) hx hb hts (fun w h => List.mem_cons_of_mem _ (i_Mo w h)) hown hw (k_M v_14.2.1 v_14.2.2.1 v_14.2.2.2.1 v_14.2.2.2.2.1 v_14.2.2.2.2.2.1 v_14.2.2.2.2.2.2.1 v_14.2.2.2.2.2.2.2.1 v_14.2.2.2.2.2.2.2.2.1 v_14.2.2.2.2.2.2.2.2.2) rfl 19 (by decide) (hts _ (List.mem_cons_of_mem _ xw_581)) (fun _ h9 => h9) rfl d_Mo_asks_92 ?_
          refine lv_icmp_ge (tgt := 201) hx hb d_Mo_asks_95 (by decide) (fun hc => ?_) (fun hc => ?_)
          · have h := h.1 hc
            subst hQQ
            exact xm_vret hx hb hr hlk hw (v_14.2.1, v_14.2.2.1, v_14.2.2.2.1, v_14.2.2.2.2.1, v_14.2.2.2.2.2.1, v_14.2.2.2.2.2.2.1, v_14.2.2.2.2.2.2.2.1, v_14.2.2.2.2.2.2.2.2.1, v_14.2.2.2.2.2.2.2.2.2) rfl rfl h d_Mo_asks_201
          · have h := h.2 hc
            refine lv_aload_n hx hb d_Mo_asks_98 rfl (lv_at hl 1 rfl) ?_
            refine xm_get (D := D) (v := .ref (ad i_row)) (C := R_Mo) (T := F_Mo) (N := 28) hx hb hts (fun w h => List.mem_cons_of_mem _ (i_Mo w h)) hown hw (k_M v_14.2.1 v_14.2.2.1 v_14.2.2.2.1 v_14.2.2.2.2.1 v_14.2.2.2.2.2.1 v_14.2.2.2.2.2.2.1 v_14.2.2.2.2.2.2.2.1 v_14.2.2.2.2.2.2.2.2.1 v_14.2.2.2.2.2.2.2.2.2) rfl 18 (by decide) (hts _ (List.mem_cons_of_mem _ xw_580)) (fun _ h9 => h9) rfl d_Mo_asks_99 ?_
            refine lv_iload_n hx hb d_Mo_asks_102 rfl (lv_at hl 0 rfl) ?_
            obtain ⟨hin, h⟩ := h
            refine xm_iald hx hb hw 0 (k_row v_14.2.1 v_14.2.2.1 v_14.2.2.2.1 v_14.2.2.2.2.1 v_14.2.2.2.2.2.1 v_14.2.2.2.2.2.2.1 v_14.2.2.2.2.2.2.2.1 v_14.2.2.2.2.2.2.2.2.1 v_14.2.2.2.2.2.2.2.2.2) rfl hin d_Mo_asks_103 ?_
            refine lv_topi (fun x_16 ex_16 => ?_)
            have h := h x_16 ex_16
            refine lv_istore_n (lv' := [(2, .int x_16), (1, .int v_14.1), (0, .ref (ad iM))]) hx hb d_Mo_asks_104 rfl hl (by decide) rfl (fun ls hl => ?_)
            refine lv_iconst (v := 0) hx hb d_Mo_asks_105 (by decide) ?_
            refine lv_istore_n (lv' := [(3, .int 0), (2, .int x_16), (1, .int v_14.1), (0, .ref (ad iM))]) hx hb d_Mo_asks_106 rfl hl (by decide) rfl (fun ls hl => ?_)
            refine xL_use h (fun (v_17 : Int32 × (Nat → Int32) × (Nat → Int32) × Int32 × (Nat → Int32) × (Nat → Int32) × (Nat → Int32) × Int32 × Int32 × Int32) => ∀ (H : Heap) (locs : List Loc) (ls : Array Slot), xm_W D xcl (xT cI cZ cJ cO) (xm_A ad (CE m_calls m_row m_inRow m_values m_by m_choice m_rule m_atoms m_depth) s.heap.size) ad (CE v_17.2.1 v_17.2.2.1 v_17.2.2.2.1 v_17.2.2.2.2.1 v_17.2.2.2.2.2.1 v_17.2.2.2.2.2.2.1 v_17.2.2.2.2.2.2.2.1 v_17.2.2.2.2.2.2.2.2.1 v_17.2.2.2.2.2.2.2.2.2) s s.heap H locs → lv_has ls 5 [(3, .int v_17.1), (2, .int x_16), (1, .int v_14.1), (0, .ref (ad iM))] → W p l e rm_Mo_asks s m args below meth c H locs 0 0 QQ (F0 m 107 ls [])) (fun K_18 hK_18 v_17 h H locs ls hw hl => ?_) _ _ _ hw (lv_sub hl [0, 1, 2, 3] rfl)
            refine lv_iload_n hx hb d_Mo_asks_107 rfl (lv_at hl 0 rfl) ?_
            refine lv_aload_n hx hb d_Mo_asks_108 rfl (lv_at hl 3 rfl) ?_
            refine xm_get (D := D) (v := .int m_rules) (C := R_Mo) (T := F_Mo) (N := 28) hx hb hts (fun w h => List.mem_cons_of_mem _ (i_Mo w h)) hown hw (k_M v_17.2.1 v_17.2.2.1 v_17.2.2.2.1 v_17.2.2.2.2.1 v_17.2.2.2.2.2.1 v_17.2.2.2.2.2.2.1 v_17.2.2.2.2.2.2.2.1 v_17.2.2.2.2.2.2.2.2.1 v_17.2.2.2.2.2.2.2.2.2) rfl 10 (by decide) (hts _ (List.mem_cons_of_mem _ xw_572)) (fun _ h9 => h9) rfl d_Mo_asks_109 ?_
            refine lv_icmp_ge (tgt := 195) hx hb d_Mo_asks_112 (by decide) (fun hc => ?_) (fun hc => ?_)
            · have h := h.1 hc
              obtain ⟨x_19, ex_19⟩ : ∃ y : Int32, y = v_14.1 + 1 := ⟨_, rfl⟩
              have h := h x_19 ex_19
              refine lv_iinc (v := x_19) (lv' := [(1, .int x_19), (3, .int v_17.1), (2, .int x_16), (0, .ref (ad iM))]) hx hb d_Mo_asks_195 hl (k := 2) rfl (by rw [ex_19]; rfl) (by decide) rfl (fun ls hl => ?_)
              refine lv_goto (tgt := 90) hx hb d_Mo_asks_198 (by decide) ?_
              exact hK_15 (x_19, v_17.2.1, v_17.2.2.1, v_17.2.2.2.1, v_17.2.2.2.2.1, v_17.2.2.2.2.2.1, v_17.2.2.2.2.2.2.1, v_17.2.2.2.2.2.2.2.1, v_17.2.2.2.2.2.2.2.2.1, v_17.2.2.2.2.2.2.2.2.2) h _ _ _ hw (lv_sub hl [0, 3] rfl)
            · have h := h.2 hc
              refine lv_iconst (v := 0) hx hb d_Mo_asks_115 (by decide) ?_
              refine lv_istore (lv' := [(4, .int 0), (3, .int v_17.1), (2, .int x_16), (1, .int v_14.1), (0, .ref (ad iM))]) hx hb d_Mo_asks_116 hl (by decide) rfl (fun ls hl => ?_)
              refine xL_use h (fun (v_20 : Int32 × (Nat → Int32) × (Nat → Int32) × Int32 × (Nat → Int32) × (Nat → Int32) × (Nat → Int32) × Int32 × Int32 × Int32) => ∀ (H : Heap) (locs : List Loc) (ls : Array Slot), xm_W D xcl (xT cI cZ cJ cO) (xm_A ad (CE m_calls m_row m_inRow m_values m_by m_choice m_rule m_atoms m_depth) s.heap.size) ad (CE v_20.2.1 v_20.2.2.1 v_20.2.2.2.1 v_20.2.2.2.2.1 v_20.2.2.2.2.2.1 v_20.2.2.2.2.2.2.1 v_20.2.2.2.2.2.2.2.1 v_20.2.2.2.2.2.2.2.2.1 v_20.2.2.2.2.2.2.2.2.2) s s.heap H locs → lv_has ls 5 [(4, .int v_20.1), (3, .int v_17.1), (2, .int x_16), (1, .int v_14.1), (0, .ref (ad iM))] → W p l e rm_Mo_asks s m args below meth c H locs 0 0 QQ (F0 m 118 ls [])) (fun K_21 hK_21 v_20 h H locs ls hw hl => ?_) _ _ _ hw (lv_sub hl [0, 1, 2, 3, 4] rfl)
              refine lv_iload hx hb d_Mo_asks_118 (lv_at hl 0 rfl) ?_
              refine lv_aload_n hx hb d_Mo_asks_120 rfl (lv_at hl 4 rfl) ?_
              refine xm_get (D := D) (v := .ref (ad i_size)) (C := R_Mo) (T := F_Mo) (N := 28) hx hb hts (fun w h => List.mem_cons_of_mem _ (i_Mo w h)) hown hw (k_M v_20.2.1 v_20.2.2.1 v_20.2.2.2.1 v_20.2.2.2.2.1 v_20.2.2.2.2.2.1 v_20.2.2.2.2.2.2.1 v_20.2.2.2.2.2.2.2.1 v_20.2.2.2.2.2.2.2.2.1 v_20.2.2.2.2.2.2.2.2.2) rfl 9 (by decide) (hts _ (List.mem_cons_of_mem _ xw_571)) (fun _ h9 => h9) rfl d_Mo_asks_121 ?_
              refine lv_iload_n hx hb d_Mo_asks_124 rfl (lv_at hl 1 rfl) ?_
              obtain ⟨hin, h⟩ := h
              refine xm_iald hx hb hw 0 (k_size v_20.2.1 v_20.2.2.1 v_20.2.2.2.1 v_20.2.2.2.2.1 v_20.2.2.2.2.2.1 v_20.2.2.2.2.2.2.1 v_20.2.2.2.2.2.2.2.1 v_20.2.2.2.2.2.2.2.2.1 v_20.2.2.2.2.2.2.2.2.2) rfl hin d_Mo_asks_125 ?_
              refine xj_use h (fun (v_22 : Unit) => ∀ (H : Heap) (locs : List Loc) (ls : Array Slot), xm_W D xcl (xT cI cZ cJ cO) (xm_A ad (CE m_calls m_row m_inRow m_values m_by m_choice m_rule m_atoms m_depth) s.heap.size) ad (CE v_20.2.1 v_20.2.2.1 v_20.2.2.2.1 v_20.2.2.2.2.1 v_20.2.2.2.2.2.1 v_20.2.2.2.2.2.2.1 v_20.2.2.2.2.2.2.2.1 v_20.2.2.2.2.2.2.2.2.1 v_20.2.2.2.2.2.2.2.2.2) s s.heap H locs → lv_has ls 5 [(0, .ref (ad iM)), (1, .int v_14.1), (2, .int x_16), (3, .int v_17.1)] → W p l e rm_Mo_asks s m args below meth c H locs 0 0 QQ (F0 m 189 ls [])) (fun v_22 h H locs ls hw hl => ?_) (fun J_23 hJ_23 h => ?_)
              · obtain ⟨x_24, ex_24⟩ : ∃ y : Int32, y = v_17.1 + 1 := ⟨_, rfl⟩
                have h := h x_24 ex_24
                refine lv_iinc (v := x_24) (lv' := [(3, .int x_24), (0, .ref (ad iM)), (1, .int v_14.1), (2, .int x_16)]) hx hb d_Mo_asks_189 hl (k := 3) rfl (by rw [ex_24]; rfl) (by decide) rfl (fun ls hl => ?_)
                refine lv_goto (tgt := 107) hx hb d_Mo_asks_192 (by decide) ?_
                exact hK_18 (x_24, v_20.2.1, v_20.2.2.1, v_20.2.2.2.1, v_20.2.2.2.2.1, v_20.2.2.2.2.2.1, v_20.2.2.2.2.2.2.1, v_20.2.2.2.2.2.2.2.1, v_20.2.2.2.2.2.2.2.2.1, v_20.2.2.2.2.2.2.2.2.2) h _ _ _ hw (lv_sub hl [0, 3, 2, 1] rfl)
              · refine lv_icmp_ge (tgt := 189) hx hb d_Mo_asks_126 (by decide) (fun hc => ?_) (fun hc => ?_)
                · have h := h.1 hc
                  exact hJ_23 () h _ _ _ hw (lv_sub hl [4, 3, 2, 1] rfl)
                · have h := h.2 hc
                  refine lv_aload_n hx hb d_Mo_asks_129 rfl (lv_at hl 4 rfl) ?_
                  refine xm_get (D := D) (v := .ref (ad i_ofAtom)) (C := R_Mo) (T := F_Mo) (N := 28) hx hb hts (fun w h => List.mem_cons_of_mem _ (i_Mo w h)) hown hw (k_M v_20.2.1 v_20.2.2.1 v_20.2.2.2.1 v_20.2.2.2.2.1 v_20.2.2.2.2.2.1 v_20.2.2.2.2.2.2.1 v_20.2.2.2.2.2.2.2.1 v_20.2.2.2.2.2.2.2.2.1 v_20.2.2.2.2.2.2.2.2.2) rfl 6 (by decide) (hts _ (List.mem_cons_of_mem _ xw_568)) (fun _ h9 => h9) rfl d_Mo_asks_130 ?_
                  refine lv_iconst (v := 4) hx hb d_Mo_asks_133 (by decide) ?_
                  refine lv_iload_n hx hb d_Mo_asks_134 rfl (lv_at hl 1 rfl) ?_
                  refine lv_imul hx hb d_Mo_asks_135 ?_
                  obtain ⟨hin, h⟩ := h
                  refine xm_iald hx hb hw 0 (k_ofAtom v_20.2.1 v_20.2.2.1 v_20.2.2.2.1 v_20.2.2.2.2.1 v_20.2.2.2.2.2.1 v_20.2.2.2.2.2.2.1 v_20.2.2.2.2.2.2.2.1 v_20.2.2.2.2.2.2.2.2.1 v_20.2.2.2.2.2.2.2.2.2) rfl hin d_Mo_asks_136 ?_
                  refine lv_iload_n hx hb d_Mo_asks_137 rfl (lv_at hl 2 rfl) ?_
                  refine lv_bipush (v := 121) hx hb d_Mo_asks_138 (by decide) ?_
                  refine lv_idiv hx hb d_Mo_asks_140 (by decide) ?_
                  refine lv_icmp_ne (tgt := 189) hx hb d_Mo_asks_141 (by decide) (fun hc => ?_) (fun hc => ?_)
                  · have h := h.1 hc
                    exact hJ_23 () h _ _ _ hw (lv_sub hl [4, 3, 2, 1] rfl)
                  · have h := h.2 hc
                    refine lv_aload_n hx hb d_Mo_asks_144 rfl (lv_at hl 4 rfl) ?_
                    refine xm_get (D := D) (v := .ref (ad i_ruled)) (C := R_Mo) (T := F_Mo) (N := 28) hx hb hts (fun w h => List.mem_cons_of_mem _ (i_Mo w h)) hown hw (k_M v_20.2.1 v_20.2.2.1 v_20.2.2.2.1 v_20.2.2.2.2.1 v_20.2.2.2.2.2.1 v_20.2.2.2.2.2.2.1 v_20.2.2.2.2.2.2.2.1 v_20.2.2.2.2.2.2.2.2.1 v_20.2.2.2.2.2.2.2.2.2) rfl 2 (by decide) (hts _ (List.mem_cons_of_mem _ xw_564)) (fun _ h9 => h9) rfl d_Mo_asks_145 ?_
                    refine lv_aload_n hx hb d_Mo_asks_148 rfl (lv_at hl 4 rfl) ?_
                    refine xm_get (D := D) (v := .ref (ad i_ofAtom)) (C := R_Mo) (T := F_Mo) (N := 28) hx hb hts (fun w h => List.mem_cons_of_mem _ (i_Mo w h)) hown hw (k_M v_20.2.1 v_20.2.2.1 v_20.2.2.2.1 v_20.2.2.2.2.1 v_20.2.2.2.2.2.1 v_20.2.2.2.2.2.2.1 v_20.2.2.2.2.2.2.2.1 v_20.2.2.2.2.2.2.2.2.1 v_20.2.2.2.2.2.2.2.2.2) rfl 6 (by decide) (hts _ (List.mem_cons_of_mem _ xw_568)) (fun _ h9 => h9) rfl d_Mo_asks_149 ?_
                    refine lv_iconst (v := 4) hx hb d_Mo_asks_152 (by decide) ?_
                    refine lv_iload_n hx hb d_Mo_asks_153 rfl (lv_at hl 1 rfl) ?_
                    refine lv_imul hx hb d_Mo_asks_154 ?_
                    refine lv_iconst (v := 1) hx hb d_Mo_asks_155 (by decide) ?_
                    refine lv_iadd hx hb d_Mo_asks_156 ?_
                    refine lv_iload hx hb d_Mo_asks_157 (lv_at hl 0 rfl) ?_
                    refine lv_iadd hx hb d_Mo_asks_159 ?_
                    obtain ⟨hin, h⟩ := h
                    refine xm_iald hx hb hw 0 (k_ofAtom v_20.2.1 v_20.2.2.1 v_20.2.2.2.1 v_20.2.2.2.2.1 v_20.2.2.2.2.2.1 v_20.2.2.2.2.2.2.1 v_20.2.2.2.2.2.2.2.1 v_20.2.2.2.2.2.2.2.2.1 v_20.2.2.2.2.2.2.2.2.2) rfl hin d_Mo_asks_160 ?_
                    obtain ⟨hin, h⟩ := h
                    refine xm_zald hx hb hw 1 (k_ruled v_20.2.1 v_20.2.2.1 v_20.2.2.2.1 v_20.2.2.2.2.1 v_20.2.2.2.2.2.1 v_20.2.2.2.2.2.2.1 v_20.2.2.2.2.2.2.2.1 v_20.2.2.2.2.2.2.2.2.1 v_20.2.2.2.2.2.2.2.2.2) rfl hin d_Mo_asks_161 ?_
                    refine xj_use h (fun (v_25 : (Nat → Int32) × (Nat → Int32) × Int32 × (Nat → Int32) × (Nat → Int32) × (Nat → Int32) × Int32 × Int32 × Int32) => ∀ (H : Heap) (locs : List Loc) (ls : Array Slot), xm_W D xcl (xT cI cZ cJ cO) (xm_A ad (CE m_calls m_row m_inRow m_values m_by m_choice m_rule m_atoms m_depth) s.heap.size) ad (CE v_25.1 v_25.2.1 v_25.2.2.1 v_25.2.2.2.1 v_25.2.2.2.2.1 v_25.2.2.2.2.2.1 v_25.2.2.2.2.2.2.1 v_25.2.2.2.2.2.2.2.1 v_25.2.2.2.2.2.2.2.2) s s.heap H locs → lv_has ls 5 [(0, .ref (ad iM)), (1, .int v_14.1), (2, .int x_16), (3, .int v_17.1), (4, .int v_20.1)] → W p l e rm_Mo_asks s m args below meth c H locs 0 0 QQ (F0 m 183 ls [])) (fun v_25 h H locs ls hw hl => ?_) (fun J_26 hJ_26 h => ?_)
                    · obtain ⟨x_27, ex_27⟩ : ∃ y : Int32, y = v_20.1 + 1 := ⟨_, rfl⟩
                      have h := h x_27 ex_27
                      refine lv_iinc (v := x_27) (lv' := [(4, .int x_27), (0, .ref (ad iM)), (1, .int v_14.1), (2, .int x_16), (3, .int v_17.1)]) hx hb d_Mo_asks_183 hl (k := 4) rfl (by rw [ex_27]; rfl) (by decide) rfl (fun ls hl => ?_)
                      refine lv_goto (tgt := 118) hx hb d_Mo_asks_186 (by decide) ?_
                      exact hK_21 (x_27, v_25.1, v_25.2.1, v_25.2.2.1, v_25.2.2.2.1, v_25.2.2.2.2.1, v_25.2.2.2.2.2.1, v_25.2.2.2.2.2.2.1, v_25.2.2.2.2.2.2.2.1, v_25.2.2.2.2.2.2.2.2) h _ _ _ hw (lv_sub hl [0, 4, 3, 2, 1] rfl)
                    · refine lv_if_eq (tgt := 183) hx hb d_Mo_asks_162 (by decide) (fun hc => ?_) (fun hc => ?_)
                      · have h := h.1 hc
                        exact hJ_26 (v_20.2.1, v_20.2.2.1, v_20.2.2.2.1, v_20.2.2.2.2.1, v_20.2.2.2.2.2.1, v_20.2.2.2.2.2.2.1, v_20.2.2.2.2.2.2.2.1, v_20.2.2.2.2.2.2.2.2.1, v_20.2.2.2.2.2.2.2.2.2) h _ _ _ hw (lv_sub hl [4, 3, 2, 1, 0] rfl)
                      · have h := h.2 hc
                        refine lv_aload_n hx hb d_Mo_asks_165 rfl (lv_at hl 4 rfl) ?_
                        refine lv_iload_n hx hb d_Mo_asks_166 rfl (lv_at hl 1 rfl) ?_
                        refine lv_iload hx hb d_Mo_asks_167 (lv_at hl 0 rfl) ?_
                        refine lv_iload_n hx hb d_Mo_asks_169 rfl (lv_at hl 2 rfl) ?_
                        refine lv_bipush (v := 11) hx hb d_Mo_asks_170 (by decide) ?_
                        refine lv_idiv hx hb d_Mo_asks_172 (by decide) ?_
                        refine lv_bipush (v := 11) hx hb d_Mo_asks_173 (by decide) ?_
                        refine lv_irem hx hb d_Mo_asks_175 (by decide) ?_
                        refine lv_iload_n hx hb d_Mo_asks_176 rfl (lv_at hl 2 rfl) ?_
                        refine lv_bipush (v := 11) hx hb d_Mo_asks_177 (by decide) ?_
                        refine lv_irem hx hb d_Mo_asks_179 (by decide) ?_
                        refine xm_callv (ua := fun _ => ad) (va_runV (As := [.int v_17.1, .int v_20.1, .int ((x_16 / 11) - ((x_16 / 11) / 11) * 11), .int (x_16 - (x_16 / 11) * 11)]) (rest := []) ⟨hx, hb, hml, hown, hts⟩ (c_Mo_follows (D := D) (ad := ad) (CE := (fun m_calls m_row m_inRow m_values m_by m_choice m_rule m_atoms m_depth => (CE m_calls m_row m_inRow m_values m_by m_choice m_rule m_atoms m_depth)))  (fun m_calls m_row m_inRow m_values m_by m_choice m_rule m_atoms m_depth => k_M m_calls m_row m_inRow m_values m_by m_choice m_rule m_atoms m_depth) (fun m_calls m_row m_inRow m_values m_by m_choice m_rule m_atoms m_depth => k_model m_calls m_row m_inRow m_values m_by m_choice m_rule m_atoms m_depth) (fun m_calls m_row m_inRow m_values m_by m_choice m_rule m_atoms m_depth => k_ofAtom m_calls m_row m_inRow m_values m_by m_choice m_rule m_atoms m_depth) (fun m_calls m_row m_inRow m_values m_by m_choice m_rule m_atoms m_depth => k_left m_calls m_row m_inRow m_values m_by m_choice m_rule m_atoms m_depth) (fun m_calls m_row m_inRow m_values m_by m_choice m_rule m_atoms m_depth => k_right m_calls m_row m_inRow m_values m_by m_choice m_rule m_atoms m_depth) (fun m_calls m_row m_inRow m_values m_by m_choice m_rule m_atoms m_depth => k_calls m_calls m_row m_inRow m_values m_by m_choice m_rule m_atoms m_depth) (fun m_calls m_row m_inRow m_values m_by m_choice m_rule m_atoms m_depth => k_row m_calls m_row m_inRow m_values m_by m_choice m_rule m_atoms m_depth) (fun m_calls m_row m_inRow m_values m_by m_choice m_rule m_atoms m_depth => k_values m_calls m_row m_inRow m_values m_by m_choice m_rule m_atoms m_depth) (fun m_calls m_row m_inRow m_values m_by m_choice m_rule m_atoms m_depth => k_by m_calls m_row m_inRow m_values m_by m_choice m_rule m_atoms m_depth) (fun m_calls m_row m_inRow m_values m_by m_choice m_rule m_atoms m_depth => k_choice m_calls m_row m_inRow m_values m_by m_choice m_rule m_atoms m_depth) (fun m_calls m_row m_inRow m_values m_by m_choice m_rule m_atoms m_depth m_inRow' m_rule' m_atoms' m_depth' => u_M m_calls m_row m_inRow m_values m_by m_choice m_rule m_atoms m_depth m_inRow' m_rule' m_atoms' m_depth') (fun m_calls m_row m_inRow m_values m_by m_choice m_rule m_atoms m_depth m_calls' => u_calls m_calls m_row m_inRow m_values m_by m_choice m_rule m_atoms m_depth m_calls') (fun m_calls m_row m_inRow m_values m_by m_choice m_rule m_atoms m_depth m_row' => u_row m_calls m_row m_inRow m_values m_by m_choice m_rule m_atoms m_depth m_row') (fun m_calls m_row m_inRow m_values m_by m_choice m_rule m_atoms m_depth m_values' => u_values m_calls m_row m_inRow m_values m_by m_choice m_rule m_atoms m_depth m_values') (fun m_calls m_row m_inRow m_values m_by m_choice m_rule m_atoms m_depth m_by' => u_by m_calls m_row m_inRow m_values m_by m_choice m_rule m_atoms m_depth m_by') (fun m_calls m_row m_inRow m_values m_by m_choice m_rule m_atoms m_depth m_choice' => u_choice m_calls m_row m_inRow m_values m_by m_choice m_rule m_atoms m_depth m_choice') h _) (xg_cwV 4 hts xw_752 xw_749 xw_751 xw_p38 xw_8 rfl rfl (by decide +kernel) ⟨Nat.le_of_ble_eq_true rfl, Nat.le_of_ble_eq_true rfl⟩) (xm_preV hw (k_M v_20.2.1 v_20.2.2.1 v_20.2.2.2.1 v_20.2.2.2.2.1 v_20.2.2.2.2.2.1 v_20.2.2.2.2.2.2.1 v_20.2.2.2.2.2.2.2.1 v_20.2.2.2.2.2.2.2.2.1 v_20.2.2.2.2.2.2.2.2.2) rfl _) rfl rfl hl.1 rfl (lv_room (Nat.le_of_ble_eq_true rfl)) d_Mo_asks_180 ⟨Nat.le_of_ble_eq_true rfl, Nat.le_of_ble_eq_true rfl⟩) hw (fun u_29 H locs h hw => ?_)
                        obtain ⟨m_calls_30, em_calls_30⟩ : ∃ z, z = u_29.1 := ⟨_, rfl⟩
                        obtain ⟨m_row_31, em_row_31⟩ : ∃ z, z = u_29.2.1 := ⟨_, rfl⟩
                        obtain ⟨m_inRow_32, em_inRow_32⟩ : ∃ z, z = u_29.2.2.1 := ⟨_, rfl⟩
                        obtain ⟨m_values_33, em_values_33⟩ : ∃ z, z = u_29.2.2.2.1 := ⟨_, rfl⟩
                        obtain ⟨m_by_34, em_by_34⟩ : ∃ z, z = u_29.2.2.2.2.1 := ⟨_, rfl⟩
                        obtain ⟨m_choice_35, em_choice_35⟩ : ∃ z, z = u_29.2.2.2.2.2.1 := ⟨_, rfl⟩
                        obtain ⟨m_rule_36, em_rule_36⟩ : ∃ z, z = u_29.2.2.2.2.2.2.1 := ⟨_, rfl⟩
                        obtain ⟨m_atoms_37, em_atoms_37⟩ : ∃ z, z = u_29.2.2.2.2.2.2.2.1 := ⟨_, rfl⟩
                        obtain ⟨m_depth_38, em_depth_38⟩ : ∃ z, z = u_29.2.2.2.2.2.2.2.2 := ⟨_, rfl⟩
                        try dsimp only at h hw
                        rw [← em_calls_30, ← em_row_31, ← em_inRow_32, ← em_values_33, ← em_by_34, ← em_choice_35, ← em_rule_36, ← em_atoms_37, ← em_depth_38] at h hw
                        exact hJ_26 (m_calls_30, m_row_31, m_inRow_32, m_values_33, m_by_34, m_choice_35, m_rule_36, m_atoms_37, m_depth_38) h _ _ _ hw (lv_sub hl [4, 3, 2, 1, 0] rfl)
        · refine lv_if_eq (tgt := 83) hx hb d_Mo_asks_73 (by decide) (fun hc => ?_) (fun hc => ?_)
          · have h := h.1 hc
            refine lv_bipush (v := 10) hx hb d_Mo_asks_83 (by decide) ?_
            exact hJ_8 10 h _ _ _ hw (lv_sub hl [0] rfl)
          · have h := h.2 hc
            refine lv_aload_n hx hb d_Mo_asks_76 rfl (lv_at hl 0 rfl) ?_
            refine xm_get (D := D) (v := .int m_asksRight) (C := R_Mo) (T := F_Mo) (N := 28) hx hb hts (fun w h => List.mem_cons_of_mem _ (i_Mo w h)) hown hw (k_M v_1.2.1 v_1.2.2.1 0 v_1.2.2.2.2.1 v_1.2.2.2.2.2.1 v_1.2.2.2.2.2.2.1 v_1.2.2.2.2.2.2.2.1 v_1.2.2.2.2.2.2.2.2.1 v_1.2.2.2.2.2.2.2.2.2) rfl 15 (by decide) (hts _ (List.mem_cons_of_mem _ xw_577)) (fun _ h9 => h9) rfl d_Mo_asks_77 ?_
            refine lv_goto (tgt := 85) hx hb d_Mo_asks_80 (by decide) ?_
            exact hJ_8 m_asksRight h _ _ _ hw (lv_sub hl [0] rfl)
      · refine lv_icmp_ge (tgt := 61) hx hb d_Mo_asks_51 (by decide) (fun hc => ?_) (fun hc => ?_)
        · have h := h.1 hc
          refine lv_bipush (v := 10) hx hb d_Mo_asks_61 (by decide) ?_
          exact hJ_4 10 h _ _ _ hw (lv_sub hl [1] rfl)
        · have h := h.2 hc
          refine lv_aload_n hx hb d_Mo_asks_54 rfl (lv_at hl 1 rfl) ?_
          refine xm_get (D := D) (v := .int m_asksLeft) (C := R_Mo) (T := F_Mo) (N := 28) hx hb hts (fun w h => List.mem_cons_of_mem _ (i_Mo w h)) hown hw (k_M v_1.2.1 v_1.2.2.1 0 v_1.2.2.2.2.1 v_1.2.2.2.2.2.1 v_1.2.2.2.2.2.2.1 v_1.2.2.2.2.2.2.2.1 v_1.2.2.2.2.2.2.2.2.1 v_1.2.2.2.2.2.2.2.2.2) rfl 14 (by decide) (hts _ (List.mem_cons_of_mem _ xw_576)) (fun _ h9 => h9) rfl d_Mo_asks_55 ?_
          refine lv_goto (tgt := 63) hx hb d_Mo_asks_58 (by decide) ?_
          exact hJ_4 m_asksLeft h _ _ _ hw (lv_sub hl [1] rfl)
    · have h := h.2 hc
      subst hQQ
      exact xm_vret hx hb hr hlk hw (v_1.2.1, v_1.2.2.1, 0, v_1.2.2.2.2.1, v_1.2.2.2.2.2.1, v_1.2.2.2.2.2.2.1, v_1.2.2.2.2.2.2.2.1, v_1.2.2.2.2.2.2.2.2.1, v_1.2.2.2.2.2.2.2.2.2) rfl rfl h d_Mo_asks_39
  · have h := h.2 hc
    refine lv_aload_n hx hb d_Mo_asks_9 rfl (lv_at hl 1 rfl) ?_
    refine xm_get (D := D) (v := .ref (ad i_calls)) (C := R_Mo) (T := F_Mo) (N := 28) hx hb hts (fun w h => List.mem_cons_of_mem _ (i_Mo w h)) hown hw (k_M v_1.2.1 v_1.2.2.1 v_1.2.2.2.1 v_1.2.2.2.2.1 v_1.2.2.2.2.2.1 v_1.2.2.2.2.2.2.1 v_1.2.2.2.2.2.2.2.1 v_1.2.2.2.2.2.2.2.2.1 v_1.2.2.2.2.2.2.2.2.2) rfl 17 (by decide) (hts _ (List.mem_cons_of_mem _ xw_579)) (fun _ h9 => h9) rfl d_Mo_asks_10 ?_
    refine lv_iload_n hx hb d_Mo_asks_13 rfl (lv_at hl 0 rfl) ?_
    refine lv_iconst (v := 0) hx hb d_Mo_asks_14 (by decide) ?_
    obtain ⟨hin, h⟩ := h
    refine xm_zast hx hb hw 1 (k_calls v_1.2.1 v_1.2.2.1 v_1.2.2.2.1 v_1.2.2.2.2.1 v_1.2.2.2.2.2.1 v_1.2.2.2.2.2.2.1 v_1.2.2.2.2.2.2.2.1 v_1.2.2.2.2.2.2.2.2.1 v_1.2.2.2.2.2.2.2.2.2) rfl hin d_Mo_asks_15 (fun H locs hw => ?_)
    have hw : xm_W D xcl (xT cI cZ cJ cO) (xm_A ad (CE m_calls m_row m_inRow m_values m_by m_choice m_rule m_atoms m_depth) s.heap.size) ad (CE (upd v_1.2.1 (Int32.toNatClampNeg v_1.1) (vp_nar .boolean 0)) v_1.2.2.1 v_1.2.2.2.1 v_1.2.2.2.2.1 v_1.2.2.2.2.2.1 v_1.2.2.2.2.2.2.1 v_1.2.2.2.2.2.2.2.1 v_1.2.2.2.2.2.2.2.2.1 v_1.2.2.2.2.2.2.2.2.2) s s.heap H locs := xm_W.cast (u_calls v_1.2.1 v_1.2.2.1 v_1.2.2.2.1 v_1.2.2.2.2.1 v_1.2.2.2.2.2.1 v_1.2.2.2.2.2.2.1 v_1.2.2.2.2.2.2.2.1 v_1.2.2.2.2.2.2.2.2.1 v_1.2.2.2.2.2.2.2.2.2 (upd v_1.2.1 (Int32.toNatClampNeg v_1.1) (vp_nar .boolean 0))) hw
    obtain ⟨m_calls_39, em_calls_39⟩ : ∃ z : Nat → Int32, z = upd v_1.2.1 (Int32.toNatClampNeg v_1.1) (vp_nar .boolean 0) := ⟨_, rfl⟩
    have h := h m_calls_39 em_calls_39
    rw [← em_calls_39] at hw
    obtain ⟨x_40, ex_40⟩ : ∃ y : Int32, y = v_1.1 + 1 := ⟨_, rfl⟩
    have h := h x_40 ex_40
    refine lv_iinc (v := x_40) (lv' := [(1, .int x_40), (0, .ref (ad iM))]) hx hb d_Mo_asks_16 hl (k := 0) rfl (by rw [ex_40]; rfl) (by decide) rfl (fun ls hl => ?_)
    refine lv_goto (tgt := 2) hx hb d_Mo_asks_19 (by decide) ?_
    exact hK_2 (x_40, m_calls_39, v_1.2.2.1, v_1.2.2.2.1, v_1.2.2.2.2.1, v_1.2.2.2.2.2.1, v_1.2.2.2.2.2.2.1, v_1.2.2.2.2.2.2.2.1, v_1.2.2.2.2.2.2.2.2.1, v_1.2.2.2.2.2.2.2.2.2) h _ _ _ hw (lv_sub hl [0, 1] rfl)
def wp_Mo_isBound (post : Int32 → Prop)  (m_left : Nat → Int32) (m_right : Nat → Int32) (p0 : Int32) (p1 : Int32) (p2 : Int32) (p3 : Int32) : Prop :=
∀ x_1 : Int32, x_1 = 4 * p1 →
xj (fun (v_2 : Int32) =>
∀ x_4 : Int32, x_4 = x_1 + 1 →
xL (fun (K_6 : Int32 × Int32 → Prop) (v_5 : Int32 × Int32) =>
(((x_1 + p2) < v_5.1 →
(narrow .boolean (.int v_5.2) = .int v_5.2 ∧ post v_5.2)) ∧ (¬ (x_1 + p2) < v_5.1 →
xj (fun (v_7 : Int32) =>
∀ x_9 : Int32, x_9 = v_5.1 + 1 →
K_6 (x_9, v_7)) (fun (J_8 : Int32 → Prop) =>
xj (fun (v_10 : Unit) =>
J_8 1) (fun (J_11 : Unit → Prop) =>
((¬ v_5.2 = 0 →
J_11 ()) ∧ (v_5.2 = 0 →
xj (fun (v_12 : Unit) =>
J_8 0) (fun (J_13 : Unit → Prop) =>
((p0 < 10 →
J_13 ()) ∧ (¬ p0 < 10 →
vp_in v_5.1 124 ∧
(((m_left (Int32.toNatClampNeg v_5.1)) = p0 →
J_11 ()) ∧ (¬ (m_left (Int32.toNatClampNeg v_5.1)) = p0 →
vp_in v_5.1 124 ∧
((¬ (m_right (Int32.toNatClampNeg v_5.1)) = p0 →
J_13 ()) ∧ ((m_right (Int32.toNatClampNeg v_5.1)) = p0 →
J_11 ())))))))))))))) (x_4, v_2)) (fun (J_3 : Int32 → Prop) =>
xj (fun (v_14 : Unit) =>
J_3 1) (fun (J_15 : Unit → Prop) =>
xj (fun (v_16 : Unit) =>
xj (fun (v_18 : Unit) =>
J_3 0) (fun (J_19 : Unit → Prop) =>
((p0 < 10 →
J_19 ()) ∧ (¬ p0 < 10 →
xj (fun (v_20 : Unit) =>
((¬ (p3 &&& 2) = 2 →
J_19 ()) ∧ ((p3 &&& 2) = 2 →
vp_in x_1 124 ∧
((¬ (m_right (Int32.toNatClampNeg x_1)) = p0 →
J_19 ()) ∧ ((m_right (Int32.toNatClampNeg x_1)) = p0 →
J_15 ()))))) (fun (J_21 : Unit → Prop) =>
((¬ (p3 &&& 1) = 1 →
J_21 ()) ∧ ((p3 &&& 1) = 1 →
vp_in x_1 124 ∧
(((m_left (Int32.toNatClampNeg x_1)) = p0 →
J_15 ()) ∧ (¬ (m_left (Int32.toNatClampNeg x_1)) = p0 →
J_21 ()))))))))) (fun (J_17 : Unit → Prop) =>
((p0 < 0 →
J_17 ()) ∧ (¬ p0 < 0 →
((p0 < 10 →
J_15 ()) ∧ (¬ p0 < 10 →
J_17 ())))))))
abbrev rm_Mo_isBound : Room := { frames := 0, cells := 0, slots := 0, locals := 0 }
set_option maxHeartbeats 4000000 in
set_option maxRecDepth 100000 in
theorem c_Mo_isBound {l : Launch} {D : va_G} {ad : Nat → Nat} (CE : Nat → Option va_E) {cI cZ cJ cO : ClassId} {iM : Nat} {i_places : Nat} {i_ruled : Nat} {i_told : Nat} {i_model : Nat} {i_ofAtom : Nat} {i_left : Nat} {i_right : Nat} {i_size : Nat} {i_calls : Nat} {i_row : Nat} {i_patterns : Nat} {i_values : Nat} {i_by : Nat} {i_choice : Nat} {m_left : Nat → Int32} {m_right : Nat → Int32} {m_thrown : Int32} {m_predicates : Int32} {m_rules : Int32} {m_begun : Int32} {m_asked : Int32} {m_asksOf : Int32} {m_asksLeft : Int32} {m_asksRight : Int32} {m_hadPredicates : Int32} {m_inRow : Int32} {m_rewritten : Int32} {m_rule : Int32} {m_atoms : Int32} {m_depth : Int32} (k_M : CE iM = some (.inr (4, [.int m_thrown, .ref (ad i_places), .ref (ad i_ruled), .int m_predicates, .ref (ad i_told), .ref (ad i_model), .ref (ad i_ofAtom), .ref (ad i_left), .ref (ad i_right), .ref (ad i_size), .int m_rules, .int m_begun, .int m_asked, .int m_asksOf, .int m_asksLeft, .int m_asksRight, .int m_hadPredicates, .ref (ad i_calls), .ref (ad i_row), .int m_inRow, .ref (ad i_patterns), .int m_rewritten, .ref (ad i_values), .ref (ad i_by), .ref (ad i_choice), .int m_rule, .int m_atoms, .int m_depth]))) (k_left : CE i_left = some (.inl (cI, 124, .inl m_left))) (k_right : CE i_right = some (.inl (cI, 124, .inl m_right))) {post : Int32 → Prop} {p0 : Int32} {p1 : Int32} {p2 : Int32} {p3 : Int32} (h : wp_Mo_isBound post m_left m_right p0 p1 p2 p3) : ∀ sz, Met l y_Mo_isBound (Cond.code y_Mo_isBound b_Mo_isBound 8 (some .boolean) :: xg) rm_Mo_isBound (xm_Pc D xcl (xT cI cZ cJ cO) ad CE sz [.ref (ad iM), .int p0, .int p1, .int p2, .int p3]) (va_Qi (fun (r : Int32) (_ : Unit) => post r) (xm_B D xcl (xT cI cZ cJ cO) (xm_A ad CE sz) (fun _ => ad) (fun _ : Unit => CE)) (xm_A ad CE sz)) 0 0 (xm_A ad CE sz) := by
  refine xm_ofW (cc := b_Mo_isBound) (maxL := 8) (ret := (some .boolean)) (by decide) rfl (Nat.le_of_ble_eq_true rfl) ?_
  intro p e s m args below meth c ls QQ hQQ hx hb hml hr hown hlk hnm hts hl hw
  have hl : lv_has ls 8 [(0, .ref (ad iM)), (1, .int p0), (2, .int p1), (3, .int p2), (4, .int p3)] := hl
  unfold wp_Mo_isBound at h
  refine lv_iconst (v := 4) hx hb d_Mo_isBound_0 (by decide) ?_
  refine lv_iload_n hx hb d_Mo_isBound_1 rfl (lv_at hl 2 rfl) ?_
  refine lv_imul hx hb d_Mo_isBound_2 ?_
  refine lv_topi (fun x_1 ex_1 => ?_)
  have h := h x_1 ex_1
  refine lv_istore (lv' := [(5, .int x_1), (0, .ref (ad iM)), (1, .int p0), (2, .int p1), (3, .int p2), (4, .int p3)]) hx hb d_Mo_isBound_3 hl (by decide) rfl (fun ls hl => ?_)
  refine lv_iload_n hx hb d_Mo_isBound_5 rfl (lv_at hl 2 rfl) ?_
  refine xj_use h (fun (v_2 : Int32) => ∀ (H : Heap) (locs : List Loc) (ls : Array Slot), xm_W D xcl (xT cI cZ cJ cO) (xm_A ad CE s.heap.size) ad CE s s.heap H locs → lv_has ls 8 [(0, .ref (ad iM)), (1, .int p0), (3, .int p2), (5, .int x_1)] → W p l e rm_Mo_isBound s m args below meth c H locs 0 0 QQ (F0 m 64 ls [.int v_2])) (fun v_2 h H locs ls hw hl => ?_) (fun J_3 hJ_3 h => ?_)
  · refine lv_istore (lv' := [(6, .int v_2), (0, .ref (ad iM)), (1, .int p0), (3, .int p2), (5, .int x_1)]) hx hb d_Mo_isBound_64 hl (by decide) rfl (fun ls hl => ?_)
    refine lv_iload hx hb d_Mo_isBound_66 (lv_at hl 4 rfl) ?_
    refine lv_iconst (v := 1) hx hb d_Mo_isBound_68 (by decide) ?_
    refine lv_iadd hx hb d_Mo_isBound_69 ?_
    refine lv_topi (fun x_4 ex_4 => ?_)
    have h := h x_4 ex_4
    refine lv_istore (lv' := [(7, .int x_4), (6, .int v_2), (0, .ref (ad iM)), (1, .int p0), (3, .int p2), (5, .int x_1)]) hx hb d_Mo_isBound_70 hl (by decide) rfl (fun ls hl => ?_)
    refine xL_use h (fun (v_5 : Int32 × Int32) => ∀ (H : Heap) (locs : List Loc) (ls : Array Slot), xm_W D xcl (xT cI cZ cJ cO) (xm_A ad CE s.heap.size) ad CE s s.heap H locs → lv_has ls 8 [(7, .int v_5.1), (6, .int v_5.2), (0, .ref (ad iM)), (1, .int p0), (3, .int p2), (5, .int x_1)] → W p l e rm_Mo_isBound s m args below meth c H locs 0 0 QQ (F0 m 72 ls [])) (fun K_6 hK_6 v_5 h H locs ls hw hl => ?_) _ _ _ hw (lv_sub hl [0, 1, 2, 3, 4, 5] rfl)
    refine lv_iload hx hb d_Mo_isBound_72 (lv_at hl 0 rfl) ?_
    refine lv_iload hx hb d_Mo_isBound_74 (lv_at hl 5 rfl) ?_
    refine lv_iload_n hx hb d_Mo_isBound_76 rfl (lv_at hl 4 rfl) ?_
    refine lv_iadd hx hb d_Mo_isBound_77 ?_
    refine lv_icmp_gt (tgt := 127) hx hb d_Mo_isBound_78 (by decide) (fun hc => ?_) (fun hc => ?_)
    · have h := h.1 hc
      refine lv_iload hx hb d_Mo_isBound_127 (lv_at hl 1 rfl) ?_
      subst hQQ
      exact xm_zret hx hb hr hlk h.1 hw () rfl rfl h.2 d_Mo_isBound_129
    · have h := h.2 hc
      refine lv_iload hx hb d_Mo_isBound_81 (lv_at hl 1 rfl) ?_
      refine xj_use h (fun (v_7 : Int32) => ∀ (H : Heap) (locs : List Loc) (ls : Array Slot), xm_W D xcl (xT cI cZ cJ cO) (xm_A ad CE s.heap.size) ad CE s s.heap H locs → lv_has ls 8 [(0, .ref (ad iM)), (1, .int p0), (3, .int p2), (5, .int x_1), (7, .int v_5.1)] → W p l e rm_Mo_isBound s m args below meth c H locs 0 0 QQ (F0 m 119 ls [.int v_7])) (fun v_7 h H locs ls hw hl => ?_) (fun J_8 hJ_8 h => ?_)
      · refine lv_istore (lv' := [(6, .int v_7), (0, .ref (ad iM)), (1, .int p0), (3, .int p2), (5, .int x_1), (7, .int v_5.1)]) hx hb d_Mo_isBound_119 hl (by decide) rfl (fun ls hl => ?_)
        obtain ⟨x_9, ex_9⟩ : ∃ y : Int32, y = v_5.1 + 1 := ⟨_, rfl⟩
        have h := h x_9 ex_9
        refine lv_iinc (v := x_9) (lv' := [(7, .int x_9), (6, .int v_7), (0, .ref (ad iM)), (1, .int p0), (3, .int p2), (5, .int x_1)]) hx hb d_Mo_isBound_121 hl (k := 5) rfl (by rw [ex_9]; rfl) (by decide) rfl (fun ls hl => ?_)
        refine lv_goto (tgt := 72) hx hb d_Mo_isBound_124 (by decide) ?_
        exact hK_6 (x_9, v_7) h _ _ _ hw (lv_sub hl [0, 1, 2, 3, 4, 5] rfl)
      · refine xj_use h (fun (v_10 : Unit) => ∀ (H : Heap) (locs : List Loc) (ls : Array Slot), xm_W D xcl (xT cI cZ cJ cO) (xm_A ad CE s.heap.size) ad CE s s.heap H locs → lv_has ls 8 [(0, .ref (ad iM)), (1, .int p0), (3, .int p2), (5, .int x_1), (7, .int v_5.1)] → W p l e rm_Mo_isBound s m args below meth c H locs 0 0 QQ (F0 m 114 ls [])) (fun v_10 h H locs ls hw hl => ?_) (fun J_11 hJ_11 h => ?_)
        · refine lv_iconst (v := 1) hx hb d_Mo_isBound_114 (by decide) ?_
          refine lv_goto (tgt := 119) hx hb d_Mo_isBound_115 (by decide) ?_
          exact hJ_8 1 h _ _ _ hw (lv_sub hl [0, 1, 2, 3, 4] rfl)
        · refine lv_if_ne (tgt := 114) hx hb d_Mo_isBound_83 (by decide) (fun hc => ?_) (fun hc => ?_)
          · have h := h.1 hc
            exact hJ_11 () h _ _ _ hw (lv_sub hl [2, 3, 4, 5, 0] rfl)
          · have h := h.2 hc
            refine lv_iload_n hx hb d_Mo_isBound_86 rfl (lv_at hl 3 rfl) ?_
            refine lv_bipush (v := 10) hx hb d_Mo_isBound_87 (by decide) ?_
            refine xj_use h (fun (v_12 : Unit) => ∀ (H : Heap) (locs : List Loc) (ls : Array Slot), xm_W D xcl (xT cI cZ cJ cO) (xm_A ad CE s.heap.size) ad CE s s.heap H locs → lv_has ls 8 [(0, .ref (ad iM)), (1, .int p0), (3, .int p2), (5, .int x_1), (7, .int v_5.1)] → W p l e rm_Mo_isBound s m args below meth c H locs 0 0 QQ (F0 m 118 ls [])) (fun v_12 h H locs ls hw hl => ?_) (fun J_13 hJ_13 h => ?_)
            · refine lv_iconst (v := 0) hx hb d_Mo_isBound_118 (by decide) ?_
              exact hJ_8 0 h _ _ _ hw (lv_sub hl [0, 1, 2, 3, 4] rfl)
            · refine lv_icmp_lt (tgt := 118) hx hb d_Mo_isBound_89 (by decide) (fun hc => ?_) (fun hc => ?_)
              · have h := h.1 hc
                exact hJ_13 () h _ _ _ hw (lv_sub hl [2, 3, 4, 5, 0] rfl)
              · have h := h.2 hc
                refine lv_aload_n hx hb d_Mo_isBound_92 rfl (lv_at hl 2 rfl) ?_
                refine xm_get (D := D) (v := .ref (ad i_left)) (C := R_Mo) (T := F_Mo) (N := 28) hx hb hts (fun w h => List.mem_cons_of_mem _ (i_Mo w h)) hown hw k_M rfl 7 (by decide) (hts _ (List.mem_cons_of_mem _ xw_569)) (fun _ h9 => h9) rfl d_Mo_isBound_93 ?_
                refine lv_iload hx hb d_Mo_isBound_96 (lv_at hl 0 rfl) ?_
                obtain ⟨hin, h⟩ := h
                refine xm_iald hx hb hw 0 k_left rfl hin d_Mo_isBound_98 ?_
                refine lv_iload_n hx hb d_Mo_isBound_99 rfl (lv_at hl 3 rfl) ?_
                refine lv_icmp_eq (tgt := 114) hx hb d_Mo_isBound_100 (by decide) (fun hc => ?_) (fun hc => ?_)
                · have h := h.1 hc
                  exact hJ_11 () h _ _ _ hw (lv_sub hl [2, 3, 4, 5, 0] rfl)
                · have h := h.2 hc
                  refine lv_aload_n hx hb d_Mo_isBound_103 rfl (lv_at hl 2 rfl) ?_
                  refine xm_get (D := D) (v := .ref (ad i_right)) (C := R_Mo) (T := F_Mo) (N := 28) hx hb hts (fun w h => List.mem_cons_of_mem _ (i_Mo w h)) hown hw k_M rfl 8 (by decide) (hts _ (List.mem_cons_of_mem _ xw_570)) (fun _ h9 => h9) rfl d_Mo_isBound_104 ?_
                  refine lv_iload hx hb d_Mo_isBound_107 (lv_at hl 0 rfl) ?_
                  obtain ⟨hin, h⟩ := h
                  refine xm_iald hx hb hw 0 k_right rfl hin d_Mo_isBound_109 ?_
                  refine lv_iload_n hx hb d_Mo_isBound_110 rfl (lv_at hl 3 rfl) ?_
                  refine lv_icmp_ne (tgt := 118) hx hb d_Mo_isBound_111 (by decide) (fun hc => ?_) (fun hc => ?_)
                  · have h := h.1 hc
                    exact hJ_13 () h _ _ _ hw (lv_sub hl [2, 3, 4, 5, 0] rfl)
                  · have h := h.2 hc
                    exact hJ_11 () h _ _ _ hw (lv_sub hl [2, 3, 4, 5, 0] rfl)
  · refine xj_use h (fun (v_14 : Unit) => ∀ (H : Heap) (locs : List Loc) (ls : Array Slot), xm_W D xcl (xT cI cZ cJ cO) (xm_A ad CE s.heap.size) ad CE s s.heap H locs → lv_has ls 8 [(0, .ref (ad iM)), (1, .int p0), (3, .int p2), (5, .int x_1)] → W p l e rm_Mo_isBound s m args below meth c H locs 0 0 QQ (F0 m 59 ls [])) (fun v_14 h H locs ls hw hl => ?_) (fun J_15 hJ_15 h => ?_)
    · refine lv_iconst (v := 1) hx hb d_Mo_isBound_59 (by decide) ?_
      refine lv_goto (tgt := 64) hx hb d_Mo_isBound_60 (by decide) ?_
      exact hJ_3 1 h _ _ _ hw (lv_sub hl [0, 1, 2, 3] rfl)
    · refine xj_use h (fun (v_16 : Unit) => ∀ (H : Heap) (locs : List Loc) (ls : Array Slot), xm_W D xcl (xT cI cZ cJ cO) (xm_A ad CE s.heap.size) ad CE s s.heap H locs → lv_has ls 8 [(0, .ref (ad iM)), (1, .int p0), (3, .int p2), (4, .int p3), (5, .int x_1)] → W p l e rm_Mo_isBound s m args below meth c H locs 0 0 QQ (F0 m 15 ls [])) (fun v_16 h H locs ls hw hl => ?_) (fun J_17 hJ_17 h => ?_)
      · refine lv_iload_n hx hb d_Mo_isBound_15 rfl (lv_at hl 1 rfl) ?_
        refine lv_bipush (v := 10) hx hb d_Mo_isBound_16 (by decide) ?_
        refine xj_use h (fun (v_18 : Unit) => ∀ (H : Heap) (locs : List Loc) (ls : Array Slot), xm_W D xcl (xT cI cZ cJ cO) (xm_A ad CE s.heap.size) ad CE s s.heap H locs → lv_has ls 8 [(0, .ref (ad iM)), (1, .int p0), (3, .int p2), (5, .int x_1)] → W p l e rm_Mo_isBound s m args below meth c H locs 0 0 QQ (F0 m 63 ls [])) (fun v_18 h H locs ls hw hl => ?_) (fun J_19 hJ_19 h => ?_)
        · refine lv_iconst (v := 0) hx hb d_Mo_isBound_63 (by decide) ?_
          exact hJ_3 0 h _ _ _ hw (lv_sub hl [0, 1, 2, 3] rfl)
        · refine lv_icmp_lt (tgt := 63) hx hb d_Mo_isBound_18 (by decide) (fun hc => ?_) (fun hc => ?_)
          · have h := h.1 hc
            exact hJ_19 () h _ _ _ hw (lv_sub hl [0, 1, 2, 4] rfl)
          · have h := h.2 hc
            refine lv_iload hx hb d_Mo_isBound_21 (lv_at hl 3 rfl) ?_
            refine lv_iconst (v := 1) hx hb d_Mo_isBound_23 (by decide) ?_
            refine lv_iand hx hb d_Mo_isBound_24 ?_
            refine lv_iconst (v := 1) hx hb d_Mo_isBound_25 (by decide) ?_
            refine xj_use h (fun (v_20 : Unit) => ∀ (H : Heap) (locs : List Loc) (ls : Array Slot), xm_W D xcl (xT cI cZ cJ cO) (xm_A ad CE s.heap.size) ad CE s s.heap H locs → lv_has ls 8 [(0, .ref (ad iM)), (1, .int p0), (3, .int p2), (4, .int p3), (5, .int x_1)] → W p l e rm_Mo_isBound s m args below meth c H locs 0 0 QQ (F0 m 40 ls [])) (fun v_20 h H locs ls hw hl => ?_) (fun J_21 hJ_21 h => ?_)
            · refine lv_iload hx hb d_Mo_isBound_40 (lv_at hl 3 rfl) ?_
              refine lv_iconst (v := 2) hx hb d_Mo_isBound_42 (by decide) ?_
              refine lv_iand hx hb d_Mo_isBound_43 ?_
              refine lv_iconst (v := 2) hx hb d_Mo_isBound_44 (by decide) ?_
              refine lv_icmp_ne (tgt := 63) hx hb d_Mo_isBound_45 (by decide) (fun hc => ?_) (fun hc => ?_)
              · have h := h.1 hc
                exact hJ_19 () h _ _ _ hw (lv_sub hl [0, 1, 2, 4] rfl)
              · have h := h.2 hc
                refine lv_aload_n hx hb d_Mo_isBound_48 rfl (lv_at hl 0 rfl) ?_
                refine xm_get (D := D) (v := .ref (ad i_right)) (C := R_Mo) (T := F_Mo) (N := 28) hx hb hts (fun w h => List.mem_cons_of_mem _ (i_Mo w h)) hown hw k_M rfl 8 (by decide) (hts _ (List.mem_cons_of_mem _ xw_570)) (fun _ h9 => h9) rfl d_Mo_isBound_49 ?_
                refine lv_iload hx hb d_Mo_isBound_52 (lv_at hl 4 rfl) ?_
                obtain ⟨hin, h⟩ := h
                refine xm_iald hx hb hw 0 k_right rfl hin d_Mo_isBound_54 ?_
                refine lv_iload_n hx hb d_Mo_isBound_55 rfl (lv_at hl 1 rfl) ?_
                refine lv_icmp_ne (tgt := 63) hx hb d_Mo_isBound_56 (by decide) (fun hc => ?_) (fun hc => ?_)
                · have h := h.1 hc
                  exact hJ_19 () h _ _ _ hw (lv_sub hl [0, 1, 2, 4] rfl)
                · have h := h.2 hc
                  exact hJ_15 () h _ _ _ hw (lv_sub hl [0, 1, 2, 4] rfl)
            · refine lv_icmp_ne (tgt := 40) hx hb d_Mo_isBound_26 (by decide) (fun hc => ?_) (fun hc => ?_)
              · have h := h.1 hc
                exact hJ_21 () h _ _ _ hw (lv_sub hl [0, 1, 2, 3, 4] rfl)
              · have h := h.2 hc
                refine lv_aload_n hx hb d_Mo_isBound_29 rfl (lv_at hl 0 rfl) ?_
                refine xm_get (D := D) (v := .ref (ad i_left)) (C := R_Mo) (T := F_Mo) (N := 28) hx hb hts (fun w h => List.mem_cons_of_mem _ (i_Mo w h)) hown hw k_M rfl 7 (by decide) (hts _ (List.mem_cons_of_mem _ xw_569)) (fun _ h9 => h9) rfl d_Mo_isBound_30 ?_
                refine lv_iload hx hb d_Mo_isBound_33 (lv_at hl 4 rfl) ?_
                obtain ⟨hin, h⟩ := h
                refine xm_iald hx hb hw 0 k_left rfl hin d_Mo_isBound_35 ?_
                refine lv_iload_n hx hb d_Mo_isBound_36 rfl (lv_at hl 1 rfl) ?_
                refine lv_icmp_eq (tgt := 59) hx hb d_Mo_isBound_37 (by decide) (fun hc => ?_) (fun hc => ?_)
                · have h := h.1 hc
                  exact hJ_15 () h _ _ _ hw (lv_sub hl [0, 1, 2, 4] rfl)
                · have h := h.2 hc
                  exact hJ_21 () h _ _ _ hw (lv_sub hl [0, 1, 2, 3, 4] rfl)
      · refine lv_if_lt (tgt := 15) hx hb d_Mo_isBound_6 (by decide) (fun hc => ?_) (fun hc => ?_)
        · have h := h.1 hc
          exact hJ_17 () h _ _ _ hw (lv_sub hl [1, 2, 4, 5, 0] rfl)
        · have h := h.2 hc
          refine lv_iload_n hx hb d_Mo_isBound_9 rfl (lv_at hl 2 rfl) ?_
          refine lv_bipush (v := 10) hx hb d_Mo_isBound_10 (by decide) ?_
          refine lv_icmp_lt (tgt := 59) hx hb d_Mo_isBound_12 (by decide) (fun hc => ?_) (fun hc => ?_)
          · have h := h.1 hc
            exact hJ_15 () h _ _ _ hw (lv_sub hl [1, 2, 4, 0] rfl)
          · have h := h.2 hc
            exact hJ_17 () h _ _ _ hw (lv_sub hl [1, 2, 4, 5, 0] rfl)
theorem xw_583 : (Jvm.Cond.fieldLink "QuestionDeskModel" (149 : Nat) "QuestionDeskModel" "rewritten" "I") ∈ xg := xg_t (i := 583) (by decide +kernel) (by decide +kernel)
theorem xw_582 : (Jvm.Cond.fieldLink "QuestionDeskModel" (41 : Nat) "QuestionDeskModel" "patterns" "[Z") ∈ xg := xg_t (i := 582) (by decide +kernel) (by decide +kernel)
theorem xw_764 : (Jvm.Cond.code ({ cls := "QuestionDeskModel", name := "isBound", desc := "(IIII)Z" } : Jvm.MethodName) prog_6_method_29_code (8 : Nat) (Option.some Jvm.ClassFile.FieldType.boolean)) ∈ xg := xg_t (i := 764) (by decide +kernel) (by decide +kernel)
theorem xw_761 : (Jvm.Cond.methodLink "QuestionDeskModel" (152 : Nat) ({ cls := "QuestionDeskModel", name := "isBound", desc := "(IIII)Z" } : Jvm.MethodName)) ∈ xg := xg_t (i := 761) (by decide +kernel) (by decide +kernel)
theorem xw_763 : (Jvm.Cond.instanceMethod ({ cls := "QuestionDeskModel", name := "isBound", desc := "(IIII)Z" } : Jvm.MethodName)) ∈ xg := xg_t (i := 763) (by decide +kernel) (by decide +kernel)
theorem xw_p41 : Cond.selects "QuestionDeskModel" ⟨"QuestionDeskModel", "isBound", "(IIII)Z"⟩ ⟨"QuestionDeskModel", "isBound", "(IIII)Z"⟩ ∈ xg := xg_p (q := (⟨"QuestionDeskModel", "isBound", "(IIII)Z"⟩, 28)) (i := 41) (by decide +kernel) (by decide +kernel)
def wp_Mo_rewrites (post : (Nat → Int32) → Int32 → Prop)  (m_ruled : Nat → Int32) (m_ofAtom : Nat → Int32) (m_left : Nat → Int32) (m_right : Nat → Int32) (m_size : Nat → Int32) (m_rules : Int32) (m_asksOf : Int32) (m_asksLeft : Int32) (m_asksRight : Int32) (m_patterns : Nat → Int32) (m_rewritten : Int32) : Prop :=
xL (fun (K_2 : Int32 × (Nat → Int32) × Int32 → Prop) (v_1 : Int32 × (Nat → Int32) × Int32) =>
((40 ≤ v_1.1 →
vp_in m_asksOf 10 ∧
((¬ (m_ruled (Int32.toNatClampNeg m_asksOf)) = 0 →
xj (fun (v_3 : Int32) =>
wp_Mo_in (fun r_5 =>
xj (fun (v_7 : Int32) =>
vp_in (((4 * m_asksOf) + v_3) + v_7) 40 ∧
∀ m_patterns_9 : Nat → Int32, m_patterns_9 = upd v_1.2.1 (Int32.toNatClampNeg (((4 * m_asksOf) + v_3) + v_7)) (vp_nar .boolean 1) →
xL (fun (K_11 : Int32 × (Nat → Int32) × Int32 → Prop) (v_10 : Int32 × (Nat → Int32) × Int32) =>
((v_10.1 = 0 →
post v_10.2.1 v_10.2.2) ∧ (¬ v_10.1 = 0 →
xL (fun (K_13 : Int32 × Int32 × (Nat → Int32) × Int32 → Prop) (v_12 : Int32 × Int32 × (Nat → Int32) × Int32) =>
((40 ≤ v_12.1 →
K_11 (v_12.2.1, v_12.2.2.1, v_12.2.2.2)) ∧ (¬ 40 ≤ v_12.1 →
xL (fun (K_15 : Int32 × Int32 × (Nat → Int32) × Int32 → Prop) (v_14 : Int32 × Int32 × (Nat → Int32) × Int32) =>
xj (fun (v_16 : Unit) =>
∀ x_18 : Int32, x_18 = v_12.1 + 1 →
K_13 (x_18, v_14.2.1, v_14.2.2.1, v_14.2.2.2)) (fun (J_17 : Unit → Prop) =>
((m_rules ≤ v_14.1 →
J_17 ()) ∧ (¬ m_rules ≤ v_14.1 →
vp_in v_12.1 40 ∧
(((v_14.2.2.1 (Int32.toNatClampNeg v_12.1)) = 0 →
J_17 ()) ∧ (¬ (v_14.2.2.1 (Int32.toNatClampNeg v_12.1)) = 0 →
vp_in (4 * v_14.1) 124 ∧
xj (fun (v_19 : Int32 × (Nat → Int32) × Int32) =>
∀ x_21 : Int32, x_21 = v_14.1 + 1 →
K_15 (x_21, v_19.1, v_19.2.1, v_19.2.2)) (fun (J_20 : Int32 × (Nat → Int32) × Int32 → Prop) =>
(((m_ofAtom (Int32.toNatClampNeg (4 * v_14.1))) = (v_12.1 / 4) →
xL (fun (K_23 : Int32 × Int32 × (Nat → Int32) × Int32 → Prop) (v_22 : Int32 × Int32 × (Nat → Int32) × Int32) =>
vp_in v_14.1 31 ∧
(((m_size (Int32.toNatClampNeg v_14.1)) ≤ v_22.1 →
J_20 (v_22.2.1, v_22.2.2.1, v_22.2.2.2)) ∧ (¬ (m_size (Int32.toNatClampNeg v_14.1)) ≤ v_22.1 →
∀ x_24 : Int32, x_24 = ((4 * v_14.1) + 1) + v_22.1 →
vp_in x_24 124 ∧
vp_in (m_ofAtom (Int32.toNatClampNeg x_24)) 10 ∧
xj (fun (v_25 : Int32 × (Nat → Int32) × Int32) =>
∀ x_27 : Int32, x_27 = v_22.1 + 1 →
K_23 (x_27, v_25.1, v_25.2.1, v_25.2.2)) (fun (J_26 : Int32 × (Nat → Int32) × Int32 → Prop) =>
(((m_ruled (Int32.toNatClampNeg (m_ofAtom (Int32.toNatClampNeg x_24)))) = 0 →
J_26 (v_22.2.1, v_22.2.2.1, v_22.2.2.2)) ∧ (¬ (m_ruled (Int32.toNatClampNeg (m_ofAtom (Int32.toNatClampNeg x_24)))) = 0 →
vp_in x_24 124 ∧
vp_in x_24 124 ∧
wp_Mo_isBound (fun r_28 =>
xj (fun (v_30 : Int32) =>
vp_in x_24 124 ∧
wp_Mo_isBound (fun r_32 =>
xj (fun (v_34 : Int32) =>
∀ x_36 : Int32, x_36 = ((4 * (m_ofAtom (Int32.toNatClampNeg x_24))) + v_30) + v_34 →
xj (fun (v_37 : Int32) =>
vp_in x_36 40 ∧
∀ m_patterns_39 : Nat → Int32, m_patterns_39 = upd v_22.2.2.1 (Int32.toNatClampNeg x_36) (vp_nar .boolean 1) →
J_26 (v_37, m_patterns_39, v_22.2.2.2 + 1)) (fun (J_38 : Int32 → Prop) =>
xj (fun (v_40 : Unit) =>
J_38 1) (fun (J_41 : Unit → Prop) =>
((¬ v_22.2.1 = 0 →
J_41 ()) ∧ (v_22.2.1 = 0 →
vp_in x_36 40 ∧
((¬ (v_22.2.2.1 (Int32.toNatClampNeg x_36)) = 0 →
J_38 0) ∧ ((v_22.2.2.1 (Int32.toNatClampNeg x_36)) = 0 →
J_41 ()))))))) (fun (J_35 : Int32 → Prop) =>
((r_32 = 0 →
J_35 0) ∧ (¬ r_32 = 0 →
J_35 2)))) m_left m_right (m_right (Int32.toNatClampNeg x_24)) v_14.1 v_22.1 (v_12.1 - (v_12.1 / 4) * 4)) (fun (J_31 : Int32 → Prop) =>
((r_28 = 0 →
J_31 0) ∧ (¬ r_28 = 0 →
J_31 1)))) m_left m_right (m_left (Int32.toNatClampNeg x_24)) v_14.1 v_22.1 (v_12.1 - (v_12.1 / 4) * 4))))))) (0, v_14.2.1, v_14.2.2.1, v_14.2.2.2 + 1)) ∧ (¬ (m_ofAtom (Int32.toNatClampNeg (4 * v_14.1))) = (v_12.1 / 4) →
J_20 (v_14.2.1, v_14.2.2.1, v_14.2.2.2)))))))))) (0, v_12.2.1, v_12.2.2.1, v_12.2.2.2)))) (0, 0, v_10.2.1, 0)))) (1, m_patterns_9, 0)) (fun (J_8 : Int32 → Prop) =>
((r_5 = 0 →
J_8 0) ∧ (¬ r_5 = 0 →
J_8 2)))) m_asksRight 0 9) (fun (J_4 : Int32 → Prop) =>
((10 ≤ m_asksLeft →
J_4 0) ∧ (¬ 10 ≤ m_asksLeft →
J_4 1)))) ∧ ((m_ruled (Int32.toNatClampNeg m_asksOf)) = 0 →
post v_1.2.1 0))) ∧ (¬ 40 ≤ v_1.1 →
vp_in v_1.1 40 ∧
∀ m_patterns_42 : Nat → Int32, m_patterns_42 = upd v_1.2.1 (Int32.toNatClampNeg v_1.1) (vp_nar .boolean 0) →
∀ x_43 : Int32, x_43 = v_1.1 + 1 →
K_2 (x_43, m_patterns_42, v_1.2.2)))) (0, m_patterns, m_rewritten)
abbrev rm_Mo_rewrites : Room := { frames := 1, cells := 0, slots := 0, locals := 27 }
set_option maxHeartbeats 4000000 in
set_option maxRecDepth 100000 in
theorem c_Mo_rewrites {l : Launch} {D : va_G} {ad : Nat → Nat} (CE : (Nat → Int32) → Int32 → Nat → Option va_E) {cI cZ cJ cO : ClassId} {iM : Nat} {i_places : Nat} {i_ruled : Nat} {i_told : Nat} {i_model : Nat} {i_ofAtom : Nat} {i_left : Nat} {i_right : Nat} {i_size : Nat} {i_calls : Nat} {i_row : Nat} {i_patterns : Nat} {i_values : Nat} {i_by : Nat} {i_choice : Nat} {m_ruled : Nat → Int32} {m_ofAtom : Nat → Int32} {m_left : Nat → Int32} {m_right : Nat → Int32} {m_size : Nat → Int32} {m_rules : Int32} {m_asksOf : Int32} {m_asksLeft : Int32} {m_asksRight : Int32} {m_thrown : Int32} {m_predicates : Int32} {m_begun : Int32} {m_asked : Int32} {m_hadPredicates : Int32} {m_inRow : Int32} {m_rule : Int32} {m_atoms : Int32} {m_depth : Int32} (k_M : ∀ (m_patterns : Nat → Int32) (m_rewritten : Int32), (CE m_patterns m_rewritten) iM = some (.inr (4, [.int m_thrown, .ref (ad i_places), .ref (ad i_ruled), .int m_predicates, .ref (ad i_told), .ref (ad i_model), .ref (ad i_ofAtom), .ref (ad i_left), .ref (ad i_right), .ref (ad i_size), .int m_rules, .int m_begun, .int m_asked, .int m_asksOf, .int m_asksLeft, .int m_asksRight, .int m_hadPredicates, .ref (ad i_calls), .ref (ad i_row), .int m_inRow, .ref (ad i_patterns), .int m_rewritten, .ref (ad i_values), .ref (ad i_by), .ref (ad i_choice), .int m_rule, .int m_atoms, .int m_depth]))) (k_ruled : ∀ (m_patterns : Nat → Int32) (m_rewritten : Int32), (CE m_patterns m_rewritten) i_ruled = some (.inl (cZ, 10, .inl m_ruled))) (k_ofAtom : ∀ (m_patterns : Nat → Int32) (m_rewritten : Int32), (CE m_patterns m_rewritten) i_ofAtom = some (.inl (cI, 124, .inl m_ofAtom))) (k_left : ∀ (m_patterns : Nat → Int32) (m_rewritten : Int32), (CE m_patterns m_rewritten) i_left = some (.inl (cI, 124, .inl m_left))) (k_right : ∀ (m_patterns : Nat → Int32) (m_rewritten : Int32), (CE m_patterns m_rewritten) i_right = some (.inl (cI, 124, .inl m_right))) (k_size : ∀ (m_patterns : Nat → Int32) (m_rewritten : Int32), (CE m_patterns m_rewritten) i_size = some (.inl (cI, 31, .inl m_size))) (k_patterns : ∀ (m_patterns : Nat → Int32) (m_rewritten : Int32), (CE m_patterns m_rewritten) i_patterns = some (.inl (cZ, 40, .inl m_patterns))) (u_M : ∀ (m_patterns : Nat → Int32) (m_rewritten : Int32) (m_rewritten' : Int32), va_up (CE m_patterns m_rewritten) iM (some (.inr (4, [.int m_thrown, .ref (ad i_places), .ref (ad i_ruled), .int m_predicates, .ref (ad i_told), .ref (ad i_model), .ref (ad i_ofAtom), .ref (ad i_left), .ref (ad i_right), .ref (ad i_size), .int m_rules, .int m_begun, .int m_asked, .int m_asksOf, .int m_asksLeft, .int m_asksRight, .int m_hadPredicates, .ref (ad i_calls), .ref (ad i_row), .int m_inRow, .ref (ad i_patterns), .int m_rewritten', .ref (ad i_values), .ref (ad i_by), .ref (ad i_choice), .int m_rule, .int m_atoms, .int m_depth]))) = (CE m_patterns m_rewritten')) (u_patterns : ∀ (m_patterns : Nat → Int32) (m_rewritten : Int32) (m_patterns' : Nat → Int32), va_up (CE m_patterns m_rewritten) i_patterns (some (.inl (cZ, 40, .inl m_patterns'))) = (CE m_patterns' m_rewritten)) {post : (Nat → Int32) → Int32 → Prop} {m_patterns : Nat → Int32} {m_rewritten : Int32} (h : wp_Mo_rewrites post m_ruled m_ofAtom m_left m_right m_size m_rules m_asksOf m_asksLeft m_asksRight m_patterns m_rewritten) : ∀ sz, Met l y_Mo_rewrites (Cond.code y_Mo_rewrites b_Mo_rewrites 7 none :: xg) rm_Mo_rewrites (xm_Pc D xcl (xT cI cZ cJ cO) ad (CE m_patterns m_rewritten) sz [.ref (ad iM)]) (va_Qv (fun u : (Nat → Int32) × Int32 => post u.1 u.2) (xm_B D xcl (xT cI cZ cJ cO) (xm_A ad (CE m_patterns m_rewritten) sz) (fun _ => ad) (fun u : (Nat → Int32) × Int32 => CE u.1 u.2)) (xm_A ad (CE m_patterns m_rewritten) sz)) 0 0 (xm_A ad (CE m_patterns m_rewritten) sz) := by
  refine xm_ofW (cc := b_Mo_rewrites) (maxL := 7) (ret := none) (by decide) rfl (Nat.le_of_ble_eq_true rfl) ?_
  intro p e s m args below meth c ls QQ hQQ hx hb hml hr hown hlk hnm hts hl hw
  have hl : lv_has ls 7 [(0, .ref (ad iM))] := hl
  unfold wp_Mo_rewrites at h
  refine lv_iconst (v := 0) hx hb d_Mo_rewrites_0 (by decide) ?_
  refine lv_istore_n (lv' := [(1, .int 0), (0, .ref (ad iM))]) hx hb d_Mo_rewrites_1 rfl hl (by decide) rfl (fun ls hl => ?_)
  refine xL_use h (fun (v_1 : Int32 × (Nat → Int32) × Int32) => ∀ (H : Heap) (locs : List Loc) (ls : Array Slot), xm_W D xcl (xT cI cZ cJ cO) (xm_A ad (CE m_patterns m_rewritten) s.heap.size) ad (CE v_1.2.1 v_1.2.2) s s.heap H locs → lv_has ls 7 [(1, .int v_1.1), (0, .ref (ad iM))] → W p l e rm_Mo_rewrites s m args below meth c H locs 0 0 QQ (F0 m 2 ls [])) (fun K_2 hK_2 v_1 h H locs ls hw hl => ?_) _ _ _ hw (lv_sub hl [0, 1] rfl)
  refine lv_iload_n hx hb d_Mo_rewrites_2 rfl (lv_at hl 0 rfl) ?_
  refine lv_bipush (v := 40) hx hb d_Mo_rewrites_3 (by decide) ?_
  refine lv_icmp_ge (tgt := 21) hx hb d_Mo_rewrites_5 (by decide) (fun hc => ?_) (fun hc => ?_)
  · have h := h.1 hc
    refine lv_aload_n hx hb d_Mo_rewrites_21 rfl (lv_at hl 1 rfl) ?_
    refine lv_iconst (v := 0) hx hb d_Mo_rewrites_22 (by decide) ?_
    refine xm_put (D := D) (v := .int 0) (ty := .int) (C := R_Mo) (T := F_Mo) (N := 28) hx hb hts (fun w h => List.mem_cons_of_mem _ (i_Mo w h)) t_Mo o_Mo n_Mo hown hw (k_M v_1.2.1 v_1.2.2) rfl 21 (by decide) (hts _ (List.mem_cons_of_mem _ xw_583)) (fun _ h9 => h9) rfl (by decide +kernel) rfl rfl (Nat.le_of_ble_eq_true rfl) d_Mo_rewrites_23 (fun H locs hw => ?_)
    have hw : xm_W D xcl (xT cI cZ cJ cO) (xm_A ad (CE m_patterns m_rewritten) s.heap.size) ad (CE v_1.2.1 0) s s.heap H locs := xm_W.cast (u_M v_1.2.1 v_1.2.2 0) hw
    refine lv_aload_n hx hb d_Mo_rewrites_26 rfl (lv_at hl 1 rfl) ?_
    refine xm_get (D := D) (v := .ref (ad i_ruled)) (C := R_Mo) (T := F_Mo) (N := 28) hx hb hts (fun w h => List.mem_cons_of_mem _ (i_Mo w h)) hown hw (k_M v_1.2.1 0) rfl 2 (by decide) (hts _ (List.mem_cons_of_mem _ xw_564)) (fun _ h9 => h9) rfl d_Mo_rewrites_27 ?_
    refine lv_aload_n hx hb d_Mo_rewrites_30 rfl (lv_at hl 1 rfl) ?_
    refine xm_get (D := D) (v := .int m_asksOf) (C := R_Mo) (T := F_Mo) (N := 28) hx hb hts (fun w h => List.mem_cons_of_mem _ (i_Mo w h)) hown hw (k_M v_1.2.1 0) rfl 13 (by decide) (hts _ (List.mem_cons_of_mem _ xw_575)) (fun _ h9 => h9) rfl d_Mo_rewrites_31 ?_
    obtain ⟨hin, h⟩ := h
    refine xm_zald hx hb hw 1 (k_ruled v_1.2.1 0) rfl hin d_Mo_rewrites_34 ?_
    refine lv_if_ne (tgt := 39) hx hb d_Mo_rewrites_35 (by decide) (fun hc => ?_) (fun hc => ?_)
    · have h := h.1 hc
      refine lv_aload_n hx hb d_Mo_rewrites_39 rfl (lv_at hl 1 rfl) ?_
      refine xm_get (D := D) (v := .ref (ad i_patterns)) (C := R_Mo) (T := F_Mo) (N := 28) hx hb hts (fun w h => List.mem_cons_of_mem _ (i_Mo w h)) hown hw (k_M v_1.2.1 0) rfl 20 (by decide) (hts _ (List.mem_cons_of_mem _ xw_582)) (fun _ h9 => h9) rfl d_Mo_rewrites_40 ?_
      refine lv_iconst (v := 4) hx hb d_Mo_rewrites_43 (by decide) ?_
      refine lv_aload_n hx hb d_Mo_rewrites_44 rfl (lv_at hl 1 rfl) ?_
      refine xm_get (D := D) (v := .int m_asksOf) (C := R_Mo) (T := F_Mo) (N := 28) hx hb hts (fun w h => List.mem_cons_of_mem _ (i_Mo w h)) hown hw (k_M v_1.2.1 0) rfl 13 (by decide) (hts _ (List.mem_cons_of_mem _ xw_575)) (fun _ h9 => h9) rfl d_Mo_rewrites_45 ?_
      refine lv_imul hx hb d_Mo_rewrites_48 ?_
      refine lv_aload_n hx hb d_Mo_rewrites_49 rfl (lv_at hl 1 rfl) ?_
      refine xm_get (D := D) (v := .int m_asksLeft) (C := R_Mo) (T := F_Mo) (N := 28) hx hb hts (fun w h => List.mem_cons_of_mem _ (i_Mo w h)) hown hw (k_M v_1.2.1 0) rfl 14 (by decide) (hts _ (List.mem_cons_of_mem _ xw_576)) (fun _ h9 => h9) rfl d_Mo_rewrites_50 ?_
      refine lv_bipush (v := 10) hx hb d_Mo_rewrites_53 (by decide) ?_
      refine xj_use h (fun (v_3 : Int32) => ∀ (H : Heap) (locs : List Loc) (ls : Array Slot), xm_W D xcl (xT cI cZ cJ cO) (xm_A ad (CE m_patterns m_rewritten) s.heap.size) ad (CE v_1.2.1 0) s s.heap H locs → lv_has ls 7 [(0, .ref (ad iM))] → W p l e rm_Mo_rewrites s m args below meth c H locs 0 0 QQ (F0 m 63 ls [.int v_3, .int (4 * m_asksOf), .ref (ad i_patterns)])) (fun v_3 h H locs ls hw hl => ?_) (fun J_4 hJ_4 h => ?_)
      · refine lv_iadd hx hb d_Mo_rewrites_63 ?_
        refine lv_aload_n hx hb d_Mo_rewrites_64 rfl (lv_at hl 0 rfl) ?_
        refine xm_get (D := D) (v := .int m_asksRight) (C := R_Mo) (T := F_Mo) (N := 28) hx hb hts (fun w h => List.mem_cons_of_mem _ (i_Mo w h)) hown hw (k_M v_1.2.1 0) rfl 15 (by decide) (hts _ (List.mem_cons_of_mem _ xw_577)) (fun _ h9 => h9) rfl d_Mo_rewrites_65 ?_
        refine lv_iconst (v := 0) hx hb d_Mo_rewrites_68 (by decide) ?_
        refine lv_bipush (v := 9) hx hb d_Mo_rewrites_69 (by decide) ?_
        refine xm_calli (ua := fun _ => ad) (va_runS (As := [.int m_asksRight, .int 0, .int 9]) (rest := [.int ((4 * m_asksOf) + v_3), .ref (ad i_patterns)]) ⟨hx, hb, hml, hown, hts⟩ (c_Mo_in (D := D) (ad := ad) (CE := ((CE v_1.2.1 0)))   h _) (xg_cwS 3 hts xw_657 xw_655 xw_656 xw_8 rfl rfl (by decide +kernel) ⟨Nat.le_of_ble_eq_true rfl, Nat.le_of_ble_eq_true rfl⟩) (xm_pre hw _) rfl rfl hl.1 rfl (lv_room (Nat.le_of_ble_eq_true rfl)) d_Mo_rewrites_71 ⟨Nat.le_of_ble_eq_true rfl, Nat.le_of_ble_eq_true rfl⟩) hw (fun r_5 _ H locs h hw => ?_)
        refine xj_use h (fun (v_7 : Int32) => ∀ (H : Heap) (locs : List Loc) (ls : Array Slot), xm_W D xcl (xT cI cZ cJ cO) (xm_A ad (CE m_patterns m_rewritten) s.heap.size) ad (CE v_1.2.1 0) s s.heap H locs → lv_has ls 7 [(0, .ref (ad iM))] → W p l e rm_Mo_rewrites s m args below meth c H locs 0 0 QQ (F0 m 82 ls [.int v_7, .int ((4 * m_asksOf) + v_3), .ref (ad i_patterns)])) (fun v_7 h H locs ls hw hl => ?_) (fun J_8 hJ_8 h => ?_)
        · refine lv_iadd hx hb d_Mo_rewrites_82 ?_
          refine lv_iconst (v := 1) hx hb d_Mo_rewrites_83 (by decide) ?_
          obtain ⟨hin, h⟩ := h
          refine xm_zast hx hb hw 1 (k_patterns v_1.2.1 0) rfl hin d_Mo_rewrites_84 (fun H locs hw => ?_)
          have hw : xm_W D xcl (xT cI cZ cJ cO) (xm_A ad (CE m_patterns m_rewritten) s.heap.size) ad (CE (upd v_1.2.1 (Int32.toNatClampNeg (((4 * m_asksOf) + v_3) + v_7)) (vp_nar .boolean 1)) 0) s s.heap H locs := xm_W.cast (u_patterns v_1.2.1 0 (upd v_1.2.1 (Int32.toNatClampNeg (((4 * m_asksOf) + v_3) + v_7)) (vp_nar .boolean 1))) hw
          obtain ⟨m_patterns_9, em_patterns_9⟩ : ∃ z : Nat → Int32, z = upd v_1.2.1 (Int32.toNatClampNeg (((4 * m_asksOf) + v_3) + v_7)) (vp_nar .boolean 1) := ⟨_, rfl⟩
          have h := h m_patterns_9 em_patterns_9
          rw [← em_patterns_9] at hw
          refine lv_iconst (v := 1) hx hb d_Mo_rewrites_85 (by decide) ?_
          refine lv_istore_n (lv' := [(1, .int 1), (0, .ref (ad iM))]) hx hb d_Mo_rewrites_86 rfl hl (by decide) rfl (fun ls hl => ?_)
          refine xL_use h (fun (v_10 : Int32 × (Nat → Int32) × Int32) => ∀ (H : Heap) (locs : List Loc) (ls : Array Slot), xm_W D xcl (xT cI cZ cJ cO) (xm_A ad (CE m_patterns m_rewritten) s.heap.size) ad (CE v_10.2.1 v_10.2.2) s s.heap H locs → lv_has ls 7 [(1, .int v_10.1), (0, .ref (ad iM))] → W p l e rm_Mo_rewrites s m args below meth c H locs 0 0 QQ (F0 m 87 ls [])) (fun K_11 hK_11 v_10 h H locs ls hw hl => ?_) _ _ _ hw (lv_sub hl [0, 1] rfl)
          refine lv_iload_n hx hb d_Mo_rewrites_87 rfl (lv_at hl 0 rfl) ?_
          refine lv_if_eq (tgt := 313) hx hb d_Mo_rewrites_88 (by decide) (fun hc => ?_) (fun hc => ?_)
          · have h := h.1 hc
            subst hQQ
            exact xm_vret hx hb hr hlk hw (v_10.2.1, v_10.2.2) rfl rfl h d_Mo_rewrites_313
          · have h := h.2 hc
            refine lv_iconst (v := 0) hx hb d_Mo_rewrites_91 (by decide) ?_
            refine lv_istore_n (lv' := [(1, .int 0), (0, .ref (ad iM))]) hx hb d_Mo_rewrites_92 rfl hl (by decide) rfl (fun ls hl => ?_)
            refine lv_aload_n hx hb d_Mo_rewrites_93 rfl (lv_at hl 1 rfl) ?_
            refine lv_iconst (v := 0) hx hb d_Mo_rewrites_94 (by decide) ?_
            refine xm_put (D := D) (v := .int 0) (ty := .int) (C := R_Mo) (T := F_Mo) (N := 28) hx hb hts (fun w h => List.mem_cons_of_mem _ (i_Mo w h)) t_Mo o_Mo n_Mo hown hw (k_M v_10.2.1 v_10.2.2) rfl 21 (by decide) (hts _ (List.mem_cons_of_mem _ xw_583)) (fun _ h9 => h9) rfl (by decide +kernel) rfl rfl (Nat.le_of_ble_eq_true rfl) d_Mo_rewrites_95 (fun H locs hw => ?_)
            have hw : xm_W D xcl (xT cI cZ cJ cO) (xm_A ad (CE m_patterns m_rewritten) s.heap.size) ad (CE v_10.2.1 0) s s.heap H locs := xm_W.cast (u_M v_10.2.1 v_10.2.2 0) hw
            refine lv_iconst (v := 0) hx hb d_Mo_rewrites_98 (by decide) ?_
            refine lv_istore_n (lv' := [(2, .int 0), (1, .int 0), (0, .ref (ad iM))]) hx hb d_Mo_rewrites_99 rfl hl (by decide) rfl (fun ls hl => ?_)
            refine xL_use h (fun (v_12 : Int32 × Int32 × (Nat → Int32) × Int32) => ∀ (H : Heap) (locs : List Loc) (ls : Array Slot), xm_W D xcl (xT cI cZ cJ cO) (xm_A ad (CE m_patterns m_rewritten) s.heap.size) ad (CE v_12.2.2.1 v_12.2.2.2) s s.heap H locs → lv_has ls 7 [(2, .int v_12.1), (1, .int v_12.2.1), (0, .ref (ad iM))] → W p l e rm_Mo_rewrites s m args below meth c H locs 0 0 QQ (F0 m 100 ls [])) (fun K_13 hK_13 v_12 h H locs ls hw hl => ?_) _ _ _ hw (lv_sub hl [0, 1, 2] rfl)
            refine lv_iload_n hx hb d_Mo_rewrites_100 rfl (lv_at hl 0 rfl) ?_
            refine lv_bipush (v := 40) hx hb d_Mo_rewrites_101 (by decide) ?_
            refine lv_icmp_ge (tgt := 310) hx hb d_Mo_rewrites_103 (by decide) (fun hc => ?_) (fun hc => ?_)
            · have h := h.1 hc
              refine lv_goto (tgt := 87) hx hb d_Mo_rewrites_310 (by decide) ?_
              exact hK_11 (v_12.2.1, v_12.2.2.1, v_12.2.2.2) h _ _ _ hw (lv_sub hl [1, 2] rfl)
            · have h := h.2 hc
              refine lv_iconst (v := 0) hx hb d_Mo_rewrites_106 (by decide) ?_
              refine lv_istore_n (lv' := [(3, .int 0), (2, .int v_12.1), (1, .int v_12.2.1), (0, .ref (ad iM))]) hx hb d_Mo_rewrites_107 rfl hl (by decide) rfl (fun ls hl => ?_)
              refine xL_use h (fun (v_14 : Int32 × Int32 × (Nat → Int32) × Int32) => ∀ (H : Heap) (locs : List Loc) (ls : Array Slot), xm_W D xcl (xT cI cZ cJ cO) (xm_A ad (CE m_patterns m_rewritten) s.heap.size) ad (CE v_14.2.2.1 v_14.2.2.2) s s.heap H locs → lv_has ls 7 [(3, .int v_14.1), (2, .int v_12.1), (1, .int v_14.2.1), (0, .ref (ad iM))] → W p l e rm_Mo_rewrites s m args below meth c H locs 0 0 QQ (F0 m 108 ls [])) (fun K_15 hK_15 v_14 h H locs ls hw hl => ?_) _ _ _ hw (lv_sub hl [0, 1, 2, 3] rfl)
              refine lv_iload_n hx hb d_Mo_rewrites_108 rfl (lv_at hl 0 rfl) ?_
              refine lv_aload_n hx hb d_Mo_rewrites_109 rfl (lv_at hl 3 rfl) ?_
              refine xm_get (D := D) (v := .int m_rules) (C := R_Mo) (T := F_Mo) (N := 28) hx hb hts (fun w h => List.mem_cons_of_mem _ (i_Mo w h)) hown hw (k_M v_14.2.2.1 v_14.2.2.2) rfl 10 (by decide) (hts _ (List.mem_cons_of_mem _ xw_572)) (fun _ h9 => h9) rfl d_Mo_rewrites_110 ?_
              refine xj_use h (fun (v_16 : Unit) => ∀ (H : Heap) (locs : List Loc) (ls : Array Slot), xm_W D xcl (xT cI cZ cJ cO) (xm_A ad (CE m_patterns m_rewritten) s.heap.size) ad (CE v_14.2.2.1 v_14.2.2.2) s s.heap H locs → lv_has ls 7 [(0, .ref (ad iM)), (1, .int v_14.2.1), (2, .int v_12.1)] → W p l e rm_Mo_rewrites s m args below meth c H locs 0 0 QQ (F0 m 304 ls [])) (fun v_16 h H locs ls hw hl => ?_) (fun J_17 hJ_17 h => ?_)
              · obtain ⟨x_18, ex_18⟩ : ∃ y : Int32, y = v_12.1 + 1 := ⟨_, rfl⟩
                have h := h x_18 ex_18
                refine lv_iinc (v := x_18) (lv' := [(2, .int x_18), (0, .ref (ad iM)), (1, .int v_14.2.1)]) hx hb d_Mo_rewrites_304 hl (k := 2) rfl (by rw [ex_18]; rfl) (by decide) rfl (fun ls hl => ?_)
                refine lv_goto (tgt := 100) hx hb d_Mo_rewrites_307 (by decide) ?_
                exact hK_13 (x_18, v_14.2.1, v_14.2.2.1, v_14.2.2.2) h _ _ _ hw (lv_sub hl [0, 2, 1] rfl)
              · refine lv_icmp_ge (tgt := 304) hx hb d_Mo_rewrites_113 (by decide) (fun hc => ?_) (fun hc => ?_)
                · have h := h.1 hc
                  exact hJ_17 () h _ _ _ hw (lv_sub hl [3, 2, 1] rfl)
                · have h := h.2 hc
                  refine lv_aload_n hx hb d_Mo_rewrites_116 rfl (lv_at hl 3 rfl) ?_
                  refine xm_get (D := D) (v := .ref (ad i_patterns)) (C := R_Mo) (T := F_Mo) (N := 28) hx hb hts (fun w h => List.mem_cons_of_mem _ (i_Mo w h)) hown hw (k_M v_14.2.2.1 v_14.2.2.2) rfl 20 (by decide) (hts _ (List.mem_cons_of_mem _ xw_582)) (fun _ h9 => h9) rfl d_Mo_rewrites_117 ?_
                  refine lv_iload_n hx hb d_Mo_rewrites_120 rfl (lv_at hl 1 rfl) ?_
                  obtain ⟨hin, h⟩ := h
                  refine xm_zald hx hb hw 1 (k_patterns v_14.2.2.1 v_14.2.2.2) rfl hin d_Mo_rewrites_121 ?_
                  refine lv_if_eq (tgt := 304) hx hb d_Mo_rewrites_122 (by decide) (fun hc => ?_) (fun hc => ?_)
                  · have h := h.1 hc
                    exact hJ_17 () h _ _ _ hw (lv_sub hl [3, 2, 1] rfl)
                  · have h := h.2 hc
                    refine lv_aload_n hx hb d_Mo_rewrites_125 rfl (lv_at hl 3 rfl) ?_
                    refine xm_get (D := D) (v := .ref (ad i_ofAtom)) (C := R_Mo) (T := F_Mo) (N := 28) hx hb hts (fun w h => List.mem_cons_of_mem _ (i_Mo w h)) hown hw (k_M v_14.2.2.1 v_14.2.2.2) rfl 6 (by decide) (hts _ (List.mem_cons_of_mem _ xw_568)) (fun _ h9 => h9) rfl d_Mo_rewrites_126 ?_
                    refine lv_iconst (v := 4) hx hb d_Mo_rewrites_129 (by decide) ?_
                    refine lv_iload_n hx hb d_Mo_rewrites_130 rfl (lv_at hl 0 rfl) ?_
                    refine lv_imul hx hb d_Mo_rewrites_131 ?_
                    obtain ⟨hin, h⟩ := h
                    refine xm_iald hx hb hw 0 (k_ofAtom v_14.2.2.1 v_14.2.2.2) rfl hin d_Mo_rewrites_132 ?_
                    refine lv_iload_n hx hb d_Mo_rewrites_133 rfl (lv_at hl 1 rfl) ?_
                    refine lv_iconst (v := 4) hx hb d_Mo_rewrites_134 (by decide) ?_
                    refine lv_idiv hx hb d_Mo_rewrites_135 (by decide) ?_
                    refine xj_use h (fun (v_19 : Int32 × (Nat → Int32) × Int32) => ∀ (H : Heap) (locs : List Loc) (ls : Array Slot), xm_W D xcl (xT cI cZ cJ cO) (xm_A ad (CE m_patterns m_rewritten) s.heap.size) ad (CE v_19.2.1 v_19.2.2) s s.heap H locs → lv_has ls 7 [(0, .ref (ad iM)), (1, .int v_19.1), (2, .int v_12.1), (3, .int v_14.1)] → W p l e rm_Mo_rewrites s m args below meth c H locs 0 0 QQ (F0 m 298 ls [])) (fun v_19 h H locs ls hw hl => ?_) (fun J_20 hJ_20 h => ?_)
                    · obtain ⟨x_21, ex_21⟩ : ∃ y : Int32, y = v_14.1 + 1 := ⟨_, rfl⟩
                      have h := h x_21 ex_21
                      refine lv_iinc (v := x_21) (lv' := [(3, .int x_21), (0, .ref (ad iM)), (1, .int v_19.1), (2, .int v_12.1)]) hx hb d_Mo_rewrites_298 hl (k := 3) rfl (by rw [ex_21]; rfl) (by decide) rfl (fun ls hl => ?_)
                      refine lv_goto (tgt := 108) hx hb d_Mo_rewrites_301 (by decide) ?_
                      exact hK_15 (x_21, v_19.1, v_19.2.1, v_19.2.2) h _ _ _ hw (lv_sub hl [0, 3, 2, 1] rfl)
                    · refine lv_icmp_eq (tgt := 142) hx hb d_Mo_rewrites_136 (by decide) (fun hc => ?_) (fun hc => ?_)
                      · have h := h.1 hc
                        refine lv_aload_n hx hb d_Mo_rewrites_142 rfl (lv_at hl 3 rfl) ?_
                        refine lv_dup hx hb d_Mo_rewrites_143 rfl ?_
                        refine xm_get (D := D) (v := .int v_14.2.2.2) (C := R_Mo) (T := F_Mo) (N := 28) hx hb hts (fun w h => List.mem_cons_of_mem _ (i_Mo w h)) hown hw (k_M v_14.2.2.1 v_14.2.2.2) rfl 21 (by decide) (hts _ (List.mem_cons_of_mem _ xw_583)) (fun _ h9 => h9) rfl d_Mo_rewrites_144 ?_
                        refine lv_iconst (v := 1) hx hb d_Mo_rewrites_147 (by decide) ?_
                        refine lv_iadd hx hb d_Mo_rewrites_148 ?_
                        refine xm_put (D := D) (v := .int (v_14.2.2.2 + 1)) (ty := .int) (C := R_Mo) (T := F_Mo) (N := 28) hx hb hts (fun w h => List.mem_cons_of_mem _ (i_Mo w h)) t_Mo o_Mo n_Mo hown hw (k_M v_14.2.2.1 v_14.2.2.2) rfl 21 (by decide) (hts _ (List.mem_cons_of_mem _ xw_583)) (fun _ h9 => h9) rfl (by decide +kernel) rfl rfl (Nat.le_of_ble_eq_true rfl) d_Mo_rewrites_149 (fun H locs hw => ?_)
                        have hw : xm_W D xcl (xT cI cZ cJ cO) (xm_A ad (CE m_patterns m_rewritten) s.heap.size) ad (CE v_14.2.2.1 (v_14.2.2.2 + 1)) s s.heap H locs := xm_W.cast (u_M v_14.2.2.1 v_14.2.2.2 (v_14.2.2.2 + 1)) hw
                        refine lv_iconst (v := 0) hx hb d_Mo_rewrites_152 (by decide) ?_
                        refine lv_istore (lv' := [(4, .int 0), (3, .int v_14.1), (2, .int v_12.1), (1, .int v_14.2.1), (0, .ref (ad iM))]) hx hb d_Mo_rewrites_153 hl (by decide) rfl (fun ls hl => ?_)
                        refine xL_use h (fun (v_22 : Int32 × Int32 × (Nat → Int32) × Int32) => ∀ (H : Heap) (locs : List Loc) (ls : Array Slot), xm_W D xcl (xT cI cZ cJ cO) (xm_A ad (CE m_patterns m_rewritten) s.heap.size) ad (CE v_22.2.2.1 v_22.2.2.2) s s.heap H locs → lv_has ls 7 [(4, .int v_22.1), (3, .int v_14.1), (2, .int v_12.1), (1, .int v_22.2.1), (0, .ref (ad iM))] → W p l e rm_Mo_rewrites s m args below meth c H locs 0 0 QQ (F0 m 155 ls [])) (fun K_23 hK_23 v_22 h H locs ls hw hl => ?_) _ _ _ hw (lv_sub hl [0, 1, 2, 3, 4] rfl)
                        refine lv_iload hx hb d_Mo_rewrites_155 (lv_at hl 0 rfl) ?_
                        refine lv_aload_n hx hb d_Mo_rewrites_157 rfl (lv_at hl 4 rfl) ?_
                        refine xm_get (D := D) (v := .ref (ad i_size)) (C := R_Mo) (T := F_Mo) (N := 28) hx hb hts (fun w h => List.mem_cons_of_mem _ (i_Mo w h)) hown hw (k_M v_22.2.2.1 v_22.2.2.2) rfl 9 (by decide) (hts _ (List.mem_cons_of_mem _ xw_571)) (fun _ h9 => h9) rfl d_Mo_rewrites_158 ?_
                        refine lv_iload_n hx hb d_Mo_rewrites_161 rfl (lv_at hl 1 rfl) ?_
                        obtain ⟨hin, h⟩ := h
                        refine xm_iald hx hb hw 0 (k_size v_22.2.2.1 v_22.2.2.2) rfl hin d_Mo_rewrites_162 ?_
                        refine lv_icmp_ge (tgt := 298) hx hb d_Mo_rewrites_163 (by decide) (fun hc => ?_) (fun hc => ?_)
                        · have h := h.1 hc
                          exact hJ_20 (v_22.2.1, v_22.2.2.1, v_22.2.2.2) h _ _ _ hw (lv_sub hl [4, 3, 2, 1] rfl)
                        · have h := h.2 hc
                          refine lv_iconst (v := 4) hx hb d_Mo_rewrites_166 (by decide) ?_
                          refine lv_iload_n hx hb d_Mo_rewrites_167 rfl (lv_at hl 1 rfl) ?_
                          refine lv_imul hx hb d_Mo_rewrites_168 ?_
                          refine lv_iconst (v := 1) hx hb d_Mo_rewrites_169 (by decide) ?_
                          refine lv_iadd hx hb d_Mo_rewrites_170 ?_
                          refine lv_iload hx hb d_Mo_rewrites_171 (lv_at hl 0 rfl) ?_
                          refine lv_iadd hx hb d_Mo_rewrites_173 ?_
                          refine lv_topi (fun x_24 ex_24 => ?_)
                          have h := h x_24 ex_24
                          refine lv_istore (lv' := [(5, .int x_24), (4, .int v_22.1), (3, .int v_14.1), (2, .int v_12.1), (1, .int v_22.2.1), (0, .ref (ad iM))]) hx hb d_Mo_rewrites_174 hl (by decide) rfl (fun ls hl => ?_)
                          refine lv_aload_n hx hb d_Mo_rewrites_176 rfl (lv_at hl 5 rfl) ?_
                          refine xm_get (D := D) (v := .ref (ad i_ruled)) (C := R_Mo) (T := F_Mo) (N := 28) hx hb hts (fun w h => List.mem_cons_of_mem _ (i_Mo w h)) hown hw (k_M v_22.2.2.1 v_22.2.2.2) rfl 2 (by decide) (hts _ (List.mem_cons_of_mem _ xw_564)) (fun _ h9 => h9) rfl d_Mo_rewrites_177 ?_
                          refine lv_aload_n hx hb d_Mo_rewrites_180 rfl (lv_at hl 5 rfl) ?_
                          refine xm_get (D := D) (v := .ref (ad i_ofAtom)) (C := R_Mo) (T := F_Mo) (N := 28) hx hb hts (fun w h => List.mem_cons_of_mem _ (i_Mo w h)) hown hw (k_M v_22.2.2.1 v_22.2.2.2) rfl 6 (by decide) (hts _ (List.mem_cons_of_mem _ xw_568)) (fun _ h9 => h9) rfl d_Mo_rewrites_181 ?_
                          refine lv_iload hx hb d_Mo_rewrites_184 (lv_at hl 0 rfl) ?_
                          obtain ⟨hin, h⟩ := h
                          refine xm_iald hx hb hw 0 (k_ofAtom v_22.2.2.1 v_22.2.2.2) rfl hin d_Mo_rewrites_186 ?_
                          obtain ⟨hin, h⟩ := h
                          refine xm_zald hx hb hw 1 (k_ruled v_22.2.2.1 v_22.2.2.2) rfl hin d_Mo_rewrites_187 ?_
                          refine xj_use h (fun (v_25 : Int32 × (Nat → Int32) × Int32) => ∀ (H : Heap) (locs : List Loc) (ls : Array Slot), xm_W D xcl (xT cI cZ cJ cO) (xm_A ad (CE m_patterns m_rewritten) s.heap.size) ad (CE v_25.2.1 v_25.2.2) s s.heap H locs → lv_has ls 7 [(0, .ref (ad iM)), (1, .int v_25.1), (2, .int v_12.1), (3, .int v_14.1), (4, .int v_22.1)] → W p l e rm_Mo_rewrites s m args below meth c H locs 0 0 QQ (F0 m 292 ls [])) (fun v_25 h H locs ls hw hl => ?_) (fun J_26 hJ_26 h => ?_)
                          · obtain ⟨x_27, ex_27⟩ : ∃ y : Int32, y = v_22.1 + 1 := ⟨_, rfl⟩
                            have h := h x_27 ex_27
                            refine lv_iinc (v := x_27) (lv' := [(4, .int x_27), (0, .ref (ad iM)), (1, .int v_25.1), (2, .int v_12.1), (3, .int v_14.1)]) hx hb d_Mo_rewrites_292 hl (k := 4) rfl (by rw [ex_27]; rfl) (by decide) rfl (fun ls hl => ?_)
                            refine lv_goto (tgt := 155) hx hb d_Mo_rewrites_295 (by decide) ?_
                            exact hK_23 (x_27, v_25.1, v_25.2.1, v_25.2.2) h _ _ _ hw (lv_sub hl [0, 4, 3, 2, 1] rfl)
                          · refine lv_if_eq (tgt := 292) hx hb d_Mo_rewrites_188 (by decide) (fun hc => ?_) (fun hc => ?_)
                            · have h := h.1 hc
                              exact hJ_26 (v_22.2.1, v_22.2.2.1, v_22.2.2.2) h _ _ _ hw (lv_sub hl [5, 4, 3, 2, 1] rfl)
                            · have h := h.2 hc
                              refine lv_aload_n hx hb d_Mo_rewrites_191 rfl (lv_at hl 5 rfl) ?_
                              refine lv_dup hx hb d_Mo_rewrites_192 rfl ?_
                              refine xm_get (D := D) (v := .int v_22.2.2.2) (C := R_Mo) (T := F_Mo) (N := 28) hx hb hts (fun w h => List.mem_cons_of_mem _ (i_Mo w h)) hown hw (k_M v_22.2.2.1 v_22.2.2.2) rfl 21 (by decide) (hts _ (List.mem_cons_of_mem _ xw_583)) (fun _ h9 => h9) rfl d_Mo_rewrites_193 ?_
                              refine lv_iconst (v := 1) hx hb d_Mo_rewrites_196 (by decide) ?_
                              refine lv_iadd hx hb d_Mo_rewrites_197 ?_
                              refine xm_put (D := D) (v := .int (v_22.2.2.2 + 1)) (ty := .int) (C := R_Mo) (T := F_Mo) (N := 28) hx hb hts (fun w h => List.mem_cons_of_mem _ (i_Mo w h)) t_Mo o_Mo n_Mo hown hw (k_M v_22.2.2.1 v_22.2.2.2) rfl 21 (by decide) (hts _ (List.mem_cons_of_mem _ xw_583)) (fun _ h9 => h9) rfl (by decide +kernel) rfl rfl (Nat.le_of_ble_eq_true rfl) d_Mo_rewrites_198 (fun H locs hw => ?_)
                              have hw : xm_W D xcl (xT cI cZ cJ cO) (xm_A ad (CE m_patterns m_rewritten) s.heap.size) ad (CE v_22.2.2.1 (v_22.2.2.2 + 1)) s s.heap H locs := xm_W.cast (u_M v_22.2.2.1 v_22.2.2.2 (v_22.2.2.2 + 1)) hw
                              refine lv_iconst (v := 4) hx hb d_Mo_rewrites_201 (by decide) ?_
                              refine lv_aload_n hx hb d_Mo_rewrites_202 rfl (lv_at hl 5 rfl) ?_
                              refine xm_get (D := D) (v := .ref (ad i_ofAtom)) (C := R_Mo) (T := F_Mo) (N := 28) hx hb hts (fun w h => List.mem_cons_of_mem _ (i_Mo w h)) hown hw (k_M v_22.2.2.1 (v_22.2.2.2 + 1)) rfl 6 (by decide) (hts _ (List.mem_cons_of_mem _ xw_568)) (fun _ h9 => h9) rfl d_Mo_rewrites_203 ?_
                              refine lv_iload hx hb d_Mo_rewrites_206 (lv_at hl 0 rfl) ?_
                              obtain ⟨hin, h⟩ := h
                              refine xm_iald hx hb hw 0 (k_ofAtom v_22.2.2.1 (v_22.2.2.2 + 1)) rfl hin d_Mo_rewrites_208 ?_
                              refine lv_imul hx hb d_Mo_rewrites_209 ?_
                              refine lv_aload_n hx hb d_Mo_rewrites_210 rfl (lv_at hl 5 rfl) ?_
                              refine lv_aload_n hx hb d_Mo_rewrites_211 rfl (lv_at hl 5 rfl) ?_
                              refine xm_get (D := D) (v := .ref (ad i_left)) (C := R_Mo) (T := F_Mo) (N := 28) hx hb hts (fun w h => List.mem_cons_of_mem _ (i_Mo w h)) hown hw (k_M v_22.2.2.1 (v_22.2.2.2 + 1)) rfl 7 (by decide) (hts _ (List.mem_cons_of_mem _ xw_569)) (fun _ h9 => h9) rfl d_Mo_rewrites_212 ?_
                              refine lv_iload hx hb d_Mo_rewrites_215 (lv_at hl 0 rfl) ?_
                              obtain ⟨hin, h⟩ := h
                              refine xm_iald hx hb hw 0 (k_left v_22.2.2.1 (v_22.2.2.2 + 1)) rfl hin d_Mo_rewrites_217 ?_
                              refine lv_iload_n hx hb d_Mo_rewrites_218 rfl (lv_at hl 2 rfl) ?_
                              refine lv_iload hx hb d_Mo_rewrites_219 (lv_at hl 1 rfl) ?_
                              refine lv_iload_n hx hb d_Mo_rewrites_221 rfl (lv_at hl 3 rfl) ?_
                              refine lv_iconst (v := 4) hx hb d_Mo_rewrites_222 (by decide) ?_
                              refine lv_irem hx hb d_Mo_rewrites_223 (by decide) ?_
                              refine xm_calli (ua := fun _ => ad) (va_runV (As := [.int (m_left (Int32.toNatClampNeg x_24)), .int v_14.1, .int v_22.1, .int (v_12.1 - (v_12.1 / 4) * 4)]) (rest := [.int (4 * (m_ofAtom (Int32.toNatClampNeg x_24)))]) ⟨hx, hb, hml, hown, hts⟩ (c_Mo_isBound (D := D) (ad := ad) (CE := ((CE v_22.2.2.1 (v_22.2.2.2 + 1))))  (k_M v_22.2.2.1 (v_22.2.2.2 + 1)) (k_left v_22.2.2.1 (v_22.2.2.2 + 1)) (k_right v_22.2.2.1 (v_22.2.2.2 + 1)) h _) (xg_cwV 4 hts xw_764 xw_761 xw_763 xw_p41 xw_8 rfl rfl (by decide +kernel) ⟨Nat.le_of_ble_eq_true rfl, Nat.le_of_ble_eq_true rfl⟩) (xm_preV hw (k_M v_22.2.2.1 (v_22.2.2.2 + 1)) rfl _) rfl rfl hl.1 rfl (lv_room (Nat.le_of_ble_eq_true rfl)) d_Mo_rewrites_224 ⟨Nat.le_of_ble_eq_true rfl, Nat.le_of_ble_eq_true rfl⟩) hw (fun r_28 _ H locs h hw => ?_)
                              refine xj_use h (fun (v_30 : Int32) => ∀ (H : Heap) (locs : List Loc) (ls : Array Slot), xm_W D xcl (xT cI cZ cJ cO) (xm_A ad (CE m_patterns m_rewritten) s.heap.size) ad (CE v_22.2.2.1 (v_22.2.2.2 + 1)) s s.heap H locs → lv_has ls 7 [(0, .ref (ad iM)), (1, .int v_22.2.1), (2, .int v_12.1), (3, .int v_14.1), (4, .int v_22.1), (5, .int x_24)] → W p l e rm_Mo_rewrites s m args below meth c H locs 0 0 QQ (F0 m 235 ls [.int v_30, .int (4 * (m_ofAtom (Int32.toNatClampNeg x_24)))])) (fun v_30 h H locs ls hw hl => ?_) (fun J_31 hJ_31 h => ?_)
                              · refine lv_iadd hx hb d_Mo_rewrites_235 ?_
                                refine lv_aload_n hx hb d_Mo_rewrites_236 rfl (lv_at hl 0 rfl) ?_
                                refine lv_aload_n hx hb d_Mo_rewrites_237 rfl (lv_at hl 0 rfl) ?_
                                refine xm_get (D := D) (v := .ref (ad i_right)) (C := R_Mo) (T := F_Mo) (N := 28) hx hb hts (fun w h => List.mem_cons_of_mem _ (i_Mo w h)) hown hw (k_M v_22.2.2.1 (v_22.2.2.2 + 1)) rfl 8 (by decide) (hts _ (List.mem_cons_of_mem _ xw_570)) (fun _ h9 => h9) rfl d_Mo_rewrites_238 ?_
                                refine lv_iload hx hb d_Mo_rewrites_241 (lv_at hl 5 rfl) ?_
                                obtain ⟨hin, h⟩ := h
                                refine xm_iald hx hb hw 0 (k_right v_22.2.2.1 (v_22.2.2.2 + 1)) rfl hin d_Mo_rewrites_243 ?_
                                refine lv_iload_n hx hb d_Mo_rewrites_244 rfl (lv_at hl 3 rfl) ?_
                                refine lv_iload hx hb d_Mo_rewrites_245 (lv_at hl 4 rfl) ?_
                                refine lv_iload_n hx hb d_Mo_rewrites_247 rfl (lv_at hl 2 rfl) ?_
                                refine lv_iconst (v := 4) hx hb d_Mo_rewrites_248 (by decide) ?_
                                refine lv_irem hx hb d_Mo_rewrites_249 (by decide) ?_
                                refine xm_calli (ua := fun _ => ad) (va_runV (As := [.int (m_right (Int32.toNatClampNeg x_24)), .int v_14.1, .int v_22.1, .int (v_12.1 - (v_12.1 / 4) * 4)]) (rest := [.int ((4 * (m_ofAtom (Int32.toNatClampNeg x_24))) + v_30)]) ⟨hx, hb, hml, hown, hts⟩ (c_Mo_isBound (D := D) (ad := ad) (CE := ((CE v_22.2.2.1 (v_22.2.2.2 + 1))))  (k_M v_22.2.2.1 (v_22.2.2.2 + 1)) (k_left v_22.2.2.1 (v_22.2.2.2 + 1)) (k_right v_22.2.2.1 (v_22.2.2.2 + 1)) h _) (xg_cwV 4 hts xw_764 xw_761 xw_763 xw_p41 xw_8 rfl rfl (by decide +kernel) ⟨Nat.le_of_ble_eq_true rfl, Nat.le_of_ble_eq_true rfl⟩) (xm_preV hw (k_M v_22.2.2.1 (v_22.2.2.2 + 1)) rfl _) rfl rfl hl.1 rfl (lv_room (Nat.le_of_ble_eq_true rfl)) d_Mo_rewrites_250 ⟨Nat.le_of_ble_eq_true rfl, Nat.le_of_ble_eq_true rfl⟩) hw (fun r_32 _ H locs h hw => ?_)
                                refine xj_use h (fun (v_34 : Int32) => ∀ (H : Heap) (locs : List Loc) (ls : Array Slot), xm_W D xcl (xT cI cZ cJ cO) (xm_A ad (CE m_patterns m_rewritten) s.heap.size) ad (CE v_22.2.2.1 (v_22.2.2.2 + 1)) s s.heap H locs → lv_has ls 7 [(0, .ref (ad iM)), (1, .int v_22.2.1), (2, .int v_12.1), (3, .int v_14.1), (4, .int v_22.1)] → W p l e rm_Mo_rewrites s m args below meth c H locs 0 0 QQ (F0 m 261 ls [.int v_34, .int ((4 * (m_ofAtom (Int32.toNatClampNeg x_24))) + v_30)])) (fun v_34 h H locs ls hw hl => ?_) (fun J_35 hJ_35 h => ?_)
                                · refine lv_iadd hx hb d_Mo_rewrites_261 ?_
                                  refine lv_topi (fun x_36 ex_36 => ?_)
                                  have h := h x_36 ex_36
                                  refine lv_istore (lv' := [(6, .int x_36), (0, .ref (ad iM)), (1, .int v_22.2.1), (2, .int v_12.1), (3, .int v_14.1), (4, .int v_22.1)]) hx hb d_Mo_rewrites_262 hl (by decide) rfl (fun ls hl => ?_)
                                  refine lv_iload_n hx hb d_Mo_rewrites_264 rfl (lv_at hl 2 rfl) ?_
                                  refine xj_use h (fun (v_37 : Int32) => ∀ (H : Heap) (locs : List Loc) (ls : Array Slot), xm_W D xcl (xT cI cZ cJ cO) (xm_A ad (CE m_patterns m_rewritten) s.heap.size) ad (CE v_22.2.2.1 (v_22.2.2.2 + 1)) s s.heap H locs → lv_has ls 7 [(0, .ref (ad iM)), (2, .int v_12.1), (3, .int v_14.1), (4, .int v_22.1), (6, .int x_36)] → W p l e rm_Mo_rewrites s m args below meth c H locs 0 0 QQ (F0 m 283 ls [.int v_37])) (fun v_37 h H locs ls hw hl => ?_) (fun J_38 hJ_38 h => ?_)
                                  · refine lv_istore_n (lv' := [(1, .int v_37), (0, .ref (ad iM)), (2, .int v_12.1), (3, .int v_14.1), (4, .int v_22.1), (6, .int x_36)]) hx hb d_Mo_rewrites_283 rfl hl (by decide) rfl (fun ls hl => ?_)
                                    refine lv_aload_n hx hb d_Mo_rewrites_284 rfl (lv_at hl 1 rfl) ?_
                                    refine xm_get (D := D) (v := .ref (ad i_patterns)) (C := R_Mo) (T := F_Mo) (N := 28) hx hb hts (fun w h => List.mem_cons_of_mem _ (i_Mo w h)) hown hw (k_M v_22.2.2.1 (v_22.2.2.2 + 1)) rfl 20 (by decide) (hts _ (List.mem_cons_of_mem _ xw_582)) (fun _ h9 => h9) rfl d_Mo_rewrites_285 ?_
                                    refine lv_iload hx hb d_Mo_rewrites_288 (lv_at hl 5 rfl) ?_
                                    refine lv_iconst (v := 1) hx hb d_Mo_rewrites_290 (by decide) ?_
                                    obtain ⟨hin, h⟩ := h
                                    refine xm_zast hx hb hw 1 (k_patterns v_22.2.2.1 (v_22.2.2.2 + 1)) rfl hin d_Mo_rewrites_291 (fun H locs hw => ?_)
                                    have hw : xm_W D xcl (xT cI cZ cJ cO) (xm_A ad (CE m_patterns m_rewritten) s.heap.size) ad (CE (upd v_22.2.2.1 (Int32.toNatClampNeg x_36) (vp_nar .boolean 1)) (v_22.2.2.2 + 1)) s s.heap H locs := xm_W.cast (u_patterns v_22.2.2.1 (v_22.2.2.2 + 1) (upd v_22.2.2.1 (Int32.toNatClampNeg x_36) (vp_nar .boolean 1))) hw
                                    obtain ⟨m_patterns_39, em_patterns_39⟩ : ∃ z : Nat → Int32, z = upd v_22.2.2.1 (Int32.toNatClampNeg x_36) (vp_nar .boolean 1) := ⟨_, rfl⟩
                                    have h := h m_patterns_39 em_patterns_39
                                    rw [← em_patterns_39] at hw
                                    exact hJ_26 (v_37, m_patterns_39, v_22.2.2.2 + 1) h _ _ _ hw (lv_sub hl [1, 0, 2, 3, 4] rfl)
                                  · refine xj_use h (fun (v_40 : Unit) => ∀ (H : Heap) (locs : List Loc) (ls : Array Slot), xm_W D xcl (xT cI cZ cJ cO) (xm_A ad (CE m_patterns m_rewritten) s.heap.size) ad (CE v_22.2.2.1 (v_22.2.2.2 + 1)) s s.heap H locs → lv_has ls 7 [(0, .ref (ad iM)), (2, .int v_12.1), (3, .int v_14.1), (4, .int v_22.1), (6, .int x_36)] → W p l e rm_Mo_rewrites s m args below meth c H locs 0 0 QQ (F0 m 278 ls [])) (fun v_40 h H locs ls hw hl => ?_) (fun J_41 hJ_41 h => ?_)
                                    · refine lv_iconst (v := 1) hx hb d_Mo_rewrites_278 (by decide) ?_
                                      refine lv_goto (tgt := 283) hx hb d_Mo_rewrites_279 (by decide) ?_
                                      exact hJ_38 1 h _ _ _ hw (lv_sub hl [0, 1, 2, 3, 4] rfl)
                                    · refine lv_if_ne (tgt := 278) hx hb d_Mo_rewrites_265 (by decide) (fun hc => ?_) (fun hc => ?_)
                                      · have h := h.1 hc
                                        exact hJ_41 () h _ _ _ hw (lv_sub hl [1, 3, 4, 5, 0] rfl)
                                      · have h := h.2 hc
                                        refine lv_aload_n hx hb d_Mo_rewrites_268 rfl (lv_at hl 1 rfl) ?_
                                        refine xm_get (D := D) (v := .ref (ad i_patterns)) (C := R_Mo) (T := F_Mo) (N := 28) hx hb hts (fun w h => List.mem_cons_of_mem _ (i_Mo w h)) hown hw (k_M v_22.2.2.1 (v_22.2.2.2 + 1)) rfl 20 (by decide) (hts _ (List.mem_cons_of_mem _ xw_582)) (fun _ h9 => h9) rfl d_Mo_rewrites_269 ?_
                                        refine lv_iload hx hb d_Mo_rewrites_272 (lv_at hl 0 rfl) ?_
                                        obtain ⟨hin, h⟩ := h
                                        refine xm_zald hx hb hw 1 (k_patterns v_22.2.2.1 (v_22.2.2.2 + 1)) rfl hin d_Mo_rewrites_274 ?_
                                        refine lv_if_ne (tgt := 282) hx hb d_Mo_rewrites_275 (by decide) (fun hc => ?_) (fun hc => ?_)
                                        · have h := h.1 hc
                                          refine lv_iconst (v := 0) hx hb d_Mo_rewrites_282 (by decide) ?_
                                          exact hJ_38 0 h _ _ _ hw (lv_sub hl [1, 3, 4, 5, 0] rfl)
                                        · have h := h.2 hc
                                          exact hJ_41 () h _ _ _ hw (lv_sub hl [1, 3, 4, 5, 0] rfl)
                                · refine lv_if_eq (tgt := 260) hx hb d_Mo_rewrites_253 (by decide) (fun hc => ?_) (fun hc => ?_)
                                  · have h := h.1 hc
                                    refine lv_iconst (v := 0) hx hb d_Mo_rewrites_260 (by decide) ?_
                                    exact hJ_35 0 h _ _ _ hw (lv_sub hl [0, 1, 2, 3, 4] rfl)
                                  · have h := h.2 hc
                                    refine lv_iconst (v := 2) hx hb d_Mo_rewrites_256 (by decide) ?_
                                    refine lv_goto (tgt := 261) hx hb d_Mo_rewrites_257 (by decide) ?_
                                    exact hJ_35 2 h _ _ _ hw (lv_sub hl [0, 1, 2, 3, 4] rfl)
                              · refine lv_if_eq (tgt := 234) hx hb d_Mo_rewrites_227 (by decide) (fun hc => ?_) (fun hc => ?_)
                                · have h := h.1 hc
                                  refine lv_iconst (v := 0) hx hb d_Mo_rewrites_234 (by decide) ?_
                                  exact hJ_31 0 h _ _ _ hw (lv_sub hl [5, 4, 3, 2, 1, 0] rfl)
                                · have h := h.2 hc
                                  refine lv_iconst (v := 1) hx hb d_Mo_rewrites_230 (by decide) ?_
                                  refine lv_goto (tgt := 235) hx hb d_Mo_rewrites_231 (by decide) ?_
                                  exact hJ_31 1 h _ _ _ hw (lv_sub hl [5, 4, 3, 2, 1, 0] rfl)
                      · have h := h.2 hc
                        refine lv_goto (tgt := 298) hx hb d_Mo_rewrites_139 (by decide) ?_
                        exact hJ_20 (v_14.2.1, v_14.2.2.1, v_14.2.2.2) h _ _ _ hw (lv_sub hl [3, 2, 1, 0] rfl)
        · refine lv_if_eq (tgt := 81) hx hb d_Mo_rewrites_74 (by decide) (fun hc => ?_) (fun hc => ?_)
          · have h := h.1 hc
            refine lv_iconst (v := 0) hx hb d_Mo_rewrites_81 (by decide) ?_
            exact hJ_8 0 h _ _ _ hw (lv_sub hl [0] rfl)
          · have h := h.2 hc
            refine lv_iconst (v := 2) hx hb d_Mo_rewrites_77 (by decide) ?_
            refine lv_goto (tgt := 82) hx hb d_Mo_rewrites_78 (by decide) ?_
            exact hJ_8 2 h _ _ _ hw (lv_sub hl [0] rfl)
      · refine lv_icmp_ge (tgt := 62) hx hb d_Mo_rewrites_55 (by decide) (fun hc => ?_) (fun hc => ?_)
        · have h := h.1 hc
          refine lv_iconst (v := 0) hx hb d_Mo_rewrites_62 (by decide) ?_
          exact hJ_4 0 h _ _ _ hw (lv_sub hl [1] rfl)
        · have h := h.2 hc
          refine lv_iconst (v := 1) hx hb d_Mo_rewrites_58 (by decide) ?_
          refine lv_goto (tgt := 63) hx hb d_Mo_rewrites_59 (by decide) ?_
          exact hJ_4 1 h _ _ _ hw (lv_sub hl [1] rfl)
    · have h := h.2 hc
      subst hQQ
      exact xm_vret hx hb hr hlk hw (v_1.2.1, 0) rfl rfl h d_Mo_rewrites_38
  · have h := h.2 hc
    refine lv_aload_n hx hb d_Mo_rewrites_8 rfl (lv_at hl 1 rfl) ?_
    refine xm_get (D := D) (v := .ref (ad i_patterns)) (C := R_Mo) (T := F_Mo) (N := 28) hx hb hts (fun w h => List.mem_cons_of_mem _ (i_Mo w h)) hown hw (k_M v_1.2.1 v_1.2.2) rfl 20 (by decide) (hts _ (List.mem_cons_of_mem _ xw_582)) (fun _ h9 => h9) rfl d_Mo_rewrites_9 ?_
    refine lv_iload_n hx hb d_Mo_rewrites_12 rfl (lv_at hl 0 rfl) ?_
    refine lv_iconst (v := 0) hx hb d_Mo_rewrites_13 (by decide) ?_
    obtain ⟨hin, h⟩ := h
    refine xm_zast hx hb hw 1 (k_patterns v_1.2.1 v_1.2.2) rfl hin d_Mo_rewrites_14 (fun H locs hw => ?_)
    have hw : xm_W D xcl (xT cI cZ cJ cO) (xm_A ad (CE m_patterns m_rewritten) s.heap.size) ad (CE (upd v_1.2.1 (Int32.toNatClampNeg v_1.1) (vp_nar .boolean 0)) v_1.2.2) s s.heap H locs := xm_W.cast (u_patterns v_1.2.1 v_1.2.2 (upd v_1.2.1 (Int32.toNatClampNeg v_1.1) (vp_nar .boolean 0))) hw
    obtain ⟨m_patterns_42, em_patterns_42⟩ : ∃ z : Nat → Int32, z = upd v_1.2.1 (Int32.toNatClampNeg v_1.1) (vp_nar .boolean 0) := ⟨_, rfl⟩
    have h := h m_patterns_42 em_patterns_42
    rw [← em_patterns_42] at hw
    obtain ⟨x_43, ex_43⟩ : ∃ y : Int32, y = v_1.1 + 1 := ⟨_, rfl⟩
    have h := h x_43 ex_43
    refine lv_iinc (v := x_43) (lv' := [(1, .int x_43), (0, .ref (ad iM))]) hx hb d_Mo_rewrites_15 hl (k := 0) rfl (by rw [ex_43]; rfl) (by decide) rfl (fun ls hl => ?_)
    refine lv_goto (tgt := 2) hx hb d_Mo_rewrites_18 (by decide) ?_
    exact hK_2 (x_43, m_patterns_42, v_1.2.2) h _ _ _ hw (lv_sub hl [0, 1] rfl)
def wp_Mo_isAnswer (post : Int32 → Prop)  (m_model : Nat → Int32) (m_asksOf : Int32) (m_asksLeft : Int32) (m_asksRight : Int32) (p0 : Int32) : Prop :=
∀ x_1 : Int32, x_1 = (p0 / 10) - ((p0 / 10) / 10) * 10 →
∀ x_2 : Int32, x_2 = p0 - (p0 / 10) * 10 →
xj (fun (v_3 : Unit) =>
post 0) (fun (J_4 : Unit → Prop) =>
((¬ (p0 / 100) = m_asksOf →
J_4 ()) ∧ ((p0 / 100) = m_asksOf →
vp_in p0 1000 ∧
(((m_model (Int32.toNatClampNeg p0)) = 0 →
J_4 ()) ∧ (¬ (m_model (Int32.toNatClampNeg p0)) = 0 →
xj (fun (v_5 : Unit) =>
wp_Mo_in (fun r_7 =>
xj (fun (v_9 : Unit) =>
xj (fun (v_11 : Int32) =>
(narrow .boolean (.int v_11) = .int v_11 ∧ post v_11)) (fun (J_12 : Int32 → Prop) =>
xj (fun (v_13 : Unit) =>
J_12 1) (fun (J_14 : Unit → Prop) =>
((m_asksLeft < 10 →
J_14 ()) ∧ (¬ m_asksLeft < 10 →
((¬ m_asksLeft = m_asksRight →
J_14 ()) ∧ (m_asksLeft = m_asksRight →
((¬ x_1 = x_2 →
J_12 0) ∧ (x_1 = x_2 →
J_14 ()))))))))) (fun (J_10 : Unit → Prop) =>
((r_7 = 0 →
J_10 ()) ∧ (¬ r_7 = 0 →
((m_asksRight = x_2 →
J_10 ()) ∧ (¬ m_asksRight = x_2 →
J_4 ())))))) m_asksRight 0 9) (fun (J_6 : Unit → Prop) =>
((10 ≤ m_asksLeft →
J_6 ()) ∧ (¬ 10 ≤ m_asksLeft →
((¬ m_asksLeft = x_1 →
J_4 ()) ∧ (m_asksLeft = x_1 →
J_6 ()))))))))))
abbrev rm_Mo_isAnswer : Room := { frames := 1, cells := 0, slots := 0, locals := 22 }
set_option maxHeartbeats 4000000 in
set_option maxRecDepth 100000 in
theorem c_Mo_isAnswer {l : Launch} {D : va_G} {ad : Nat → Nat} (CE : Nat → Option va_E) {cI cZ cJ cO : ClassId} {iM : Nat} {i_places : Nat} {i_ruled : Nat} {i_told : Nat} {i_model : Nat} {i_ofAtom : Nat} {i_left : Nat} {i_right : Nat} {i_size : Nat} {i_calls : Nat} {i_row : Nat} {i_patterns : Nat} {i_values : Nat} {i_by : Nat} {i_choice : Nat} {m_model : Nat → Int32} {m_asksOf : Int32} {m_asksLeft : Int32} {m_asksRight : Int32} {m_thrown : Int32} {m_predicates : Int32} {m_rules : Int32} {m_begun : Int32} {m_asked : Int32} {m_hadPredicates : Int32} {m_inRow : Int32} {m_rewritten : Int32} {m_rule : Int32} {m_atoms : Int32} {m_depth : Int32} (k_M : CE iM = some (.inr (4, [.int m_thrown, .ref (ad i_places), .ref (ad i_ruled), .int m_predicates, .ref (ad i_told), .ref (ad i_model), .ref (ad i_ofAtom), .ref (ad i_left), .ref (ad i_right), .ref (ad i_size), .int m_rules, .int m_begun, .int m_asked, .int m_asksOf, .int m_asksLeft, .int m_asksRight, .int m_hadPredicates, .ref (ad i_calls), .ref (ad i_row), .int m_inRow, .ref (ad i_patterns), .int m_rewritten, .ref (ad i_values), .ref (ad i_by), .ref (ad i_choice), .int m_rule, .int m_atoms, .int m_depth]))) (k_model : CE i_model = some (.inl (cZ, 1000, .inl m_model))) {post : Int32 → Prop} {p0 : Int32} (h : wp_Mo_isAnswer post m_model m_asksOf m_asksLeft m_asksRight p0) : ∀ sz, Met l y_Mo_isAnswer (Cond.code y_Mo_isAnswer b_Mo_isAnswer 4 (some .boolean) :: xg) rm_Mo_isAnswer (xm_Pc D xcl (xT cI cZ cJ cO) ad CE sz [.ref (ad iM), .int p0]) (va_Qi (fun (r : Int32) (_ : Unit) => post r) (xm_B D xcl (xT cI cZ cJ cO) (xm_A ad CE sz) (fun _ => ad) (fun _ : Unit => CE)) (xm_A ad CE sz)) 0 0 (xm_A ad CE sz) := by
  refine xm_ofW (cc := b_Mo_isAnswer) (maxL := 4) (ret := (some .boolean)) (by decide) rfl (Nat.le_of_ble_eq_true rfl) ?_
  intro p e s m args below meth c ls QQ hQQ hx hb hml hr hown hlk hnm hts hl hw
  have hl : lv_has ls 4 [(0, .ref (ad iM)), (1, .int p0)] := hl
  unfold wp_Mo_isAnswer at h
  refine lv_iload_n hx hb d_Mo_isAnswer_0 rfl (lv_at hl 1 rfl) ?_
  refine lv_bipush (v := 10) hx hb d_Mo_isAnswer_1 (by decide) ?_
  refine lv_idiv hx hb d_Mo_isAnswer_3 (by decide) ?_
  refine lv_bipush (v := 10) hx hb d_Mo_isAnswer_4 (by decide) ?_
  refine lv_irem hx hb d_Mo_isAnswer_6 (by decide) ?_
  refine lv_topi (fun x_1 ex_1 => ?_)
  have h := h x_1 ex_1
  refine lv_istore_n (lv' := [(2, .int x_1), (0, .ref (ad iM)), (1, .int p0)]) hx hb d_Mo_isAnswer_7 rfl hl (by decide) rfl (fun ls hl => ?_)
  refine lv_iload_n hx hb d_Mo_isAnswer_8 rfl (lv_at hl 2 rfl) ?_
  refine lv_bipush (v := 10) hx hb d_Mo_isAnswer_9 (by decide) ?_
  refine lv_irem hx hb d_Mo_isAnswer_11 (by decide) ?_
  refine lv_topi (fun x_2 ex_2 => ?_)
  have h := h x_2 ex_2
  refine lv_istore_n (lv' := [(3, .int x_2), (2, .int x_1), (0, .ref (ad iM)), (1, .int p0)]) hx hb d_Mo_isAnswer_12 rfl hl (by decide) rfl (fun ls hl => ?_)
  refine lv_iload_n hx hb d_Mo_isAnswer_13 rfl (lv_at hl 3 rfl) ?_
  refine lv_bipush (v := 100) hx hb d_Mo_isAnswer_14 (by decide) ?_
  refine lv_idiv hx hb d_Mo_isAnswer_16 (by decide) ?_
  refine lv_aload_n hx hb d_Mo_isAnswer_17 rfl (lv_at hl 2 rfl) ?_
  refine xm_get (D := D) (v := .int m_asksOf) (C := R_Mo) (T := F_Mo) (N := 28) hx hb hts (fun w h => List.mem_cons_of_mem _ (i_Mo w h)) hown hw k_M rfl 13 (by decide) (hts _ (List.mem_cons_of_mem _ xw_575)) (fun _ h9 => h9) rfl d_Mo_isAnswer_18 ?_
  refine xj_use h (fun (v_3 : Unit) => ∀ (H : Heap) (locs : List Loc) (ls : Array Slot), xm_W D xcl (xT cI cZ cJ cO) (xm_A ad CE s.heap.size) ad CE s s.heap H locs → lv_has ls 4 [] → W p l e rm_Mo_isAnswer s m args below meth c H locs 0 0 QQ (F0 m 71 ls [])) (fun v_3 h H locs ls hw hl => ?_) (fun J_4 hJ_4 h => ?_)
  · refine lv_iconst (v := 0) hx hb d_Mo_isAnswer_71 (by decide) ?_
    subst hQQ
    exact xm_zret hx hb hr hlk rfl hw () rfl rfl h d_Mo_isAnswer_72
  · refine lv_icmp_ne (tgt := 71) hx hb d_Mo_isAnswer_21 (by decide) (fun hc => ?_) (fun hc => ?_)
    · have h := h.1 hc
      exact hJ_4 () h _ _ _ hw (lv_sub hl [] rfl)
    · have h := h.2 hc
      refine lv_aload_n hx hb d_Mo_isAnswer_24 rfl (lv_at hl 2 rfl) ?_
      refine xm_get (D := D) (v := .ref (ad i_model)) (C := R_Mo) (T := F_Mo) (N := 28) hx hb hts (fun w h => List.mem_cons_of_mem _ (i_Mo w h)) hown hw k_M rfl 5 (by decide) (hts _ (List.mem_cons_of_mem _ xw_567)) (fun _ h9 => h9) rfl d_Mo_isAnswer_25 ?_
      refine lv_iload_n hx hb d_Mo_isAnswer_28 rfl (lv_at hl 3 rfl) ?_
      obtain ⟨hin, h⟩ := h
      refine xm_zald hx hb hw 1 k_model rfl hin d_Mo_isAnswer_29 ?_
      refine lv_if_eq (tgt := 71) hx hb d_Mo_isAnswer_30 (by decide) (fun hc => ?_) (fun hc => ?_)
      · have h := h.1 hc
        exact hJ_4 () h _ _ _ hw (lv_sub hl [] rfl)
      · have h := h.2 hc
        refine lv_aload_n hx hb d_Mo_isAnswer_33 rfl (lv_at hl 2 rfl) ?_
        refine xm_get (D := D) (v := .int m_asksLeft) (C := R_Mo) (T := F_Mo) (N := 28) hx hb hts (fun w h => List.mem_cons_of_mem _ (i_Mo w h)) hown hw k_M rfl 14 (by decide) (hts _ (List.mem_cons_of_mem _ xw_576)) (fun _ h9 => h9) rfl d_Mo_isAnswer_34 ?_
        refine lv_bipush (v := 10) hx hb d_Mo_isAnswer_37 (by decide) ?_
        refine xj_use h (fun (v_5 : Unit) => ∀ (H : Heap) (locs : List Loc) (ls : Array Slot), xm_W D xcl (xT cI cZ cJ cO) (xm_A ad CE s.heap.size) ad CE s s.heap H locs → lv_has ls 4 [(0, .ref (ad iM)), (2, .int x_1), (3, .int x_2)] → W p l e rm_Mo_isAnswer s m args below meth c H locs 0 0 QQ (F0 m 50 ls [])) (fun v_5 h H locs ls hw hl => ?_) (fun J_6 hJ_6 h => ?_)
        · refine lv_aload_n hx hb d_Mo_isAnswer_50 rfl (lv_at hl 0 rfl) ?_
          refine xm_get (D := D) (v := .int m_asksRight) (C := R_Mo) (T := F_Mo) (N := 28) hx hb hts (fun w h => List.mem_cons_of_mem _ (i_Mo w h)) hown hw k_M rfl 15 (by decide) (hts _ (List.mem_cons_of_mem _ xw_577)) (fun _ h9 => h9) rfl d_Mo_isAnswer_51 ?_
          refine lv_iconst (v := 0) hx hb d_Mo_isAnswer_54 (by decide) ?_
          refine lv_bipush (v := 9) hx hb d_Mo_isAnswer_55 (by decide) ?_
          refine xm_calli (ua := fun _ => ad) (va_runS (As := [.int m_asksRight, .int 0, .int 9]) (rest := []) ⟨hx, hb, hml, hown, hts⟩ (c_Mo_in (D := D) (ad := ad) (CE := (CE))   h _) (xg_cwS 3 hts xw_657 xw_655 xw_656 xw_8 rfl rfl (by decide +kernel) ⟨Nat.le_of_ble_eq_true rfl, Nat.le_of_ble_eq_true rfl⟩) (xm_pre hw _) rfl rfl hl.1 rfl (lv_room (Nat.le_of_ble_eq_true rfl)) d_Mo_isAnswer_57 ⟨Nat.le_of_ble_eq_true rfl, Nat.le_of_ble_eq_true rfl⟩) hw (fun r_7 _ H locs h hw => ?_)
          refine xj_use h (fun (v_9 : Unit) => ∀ (H : Heap) (locs : List Loc) (ls : Array Slot), xm_W D xcl (xT cI cZ cJ cO) (xm_A ad CE s.heap.size) ad CE s s.heap H locs → lv_has ls 4 [(0, .ref (ad iM)), (2, .int x_1), (3, .int x_2)] → W p l e rm_Mo_isAnswer s m args below meth c H locs 0 0 QQ (F0 m 73 ls [])) (fun v_9 h H locs ls hw hl => ?_) (fun J_10 hJ_10 h => ?_)
          · refine lv_aload_n hx hb d_Mo_isAnswer_73 rfl (lv_at hl 0 rfl) ?_
            refine xm_get (D := D) (v := .int m_asksLeft) (C := R_Mo) (T := F_Mo) (N := 28) hx hb hts (fun w h => List.mem_cons_of_mem _ (i_Mo w h)) hown hw k_M rfl 14 (by decide) (hts _ (List.mem_cons_of_mem _ xw_576)) (fun _ h9 => h9) rfl d_Mo_isAnswer_74 ?_
            refine lv_bipush (v := 10) hx hb d_Mo_isAnswer_77 (by decide) ?_
            refine xj_use h (fun (v_11 : Int32) => ∀ (H : Heap) (locs : List Loc) (ls : Array Slot), xm_W D xcl (xT cI cZ cJ cO) (xm_A ad CE s.heap.size) ad CE s s.heap H locs → lv_has ls 4 [] → W p l e rm_Mo_isAnswer s m args below meth c H locs 0 0 QQ (F0 m 103 ls [.int v_11])) (fun v_11 h H locs ls hw hl => ?_) (fun J_12 hJ_12 h => ?_)
            · subst hQQ
              exact xm_zret hx hb hr hlk h.1 hw () rfl rfl h.2 d_Mo_isAnswer_103
            · refine xj_use h (fun (v_13 : Unit) => ∀ (H : Heap) (locs : List Loc) (ls : Array Slot), xm_W D xcl (xT cI cZ cJ cO) (xm_A ad CE s.heap.size) ad CE s s.heap H locs → lv_has ls 4 [] → W p l e rm_Mo_isAnswer s m args below meth c H locs 0 0 QQ (F0 m 98 ls [])) (fun v_13 h H locs ls hw hl => ?_) (fun J_14 hJ_14 h => ?_)
              · refine lv_iconst (v := 1) hx hb d_Mo_isAnswer_98 (by decide) ?_
                refine lv_goto (tgt := 103) hx hb d_Mo_isAnswer_99 (by decide) ?_
                exact hJ_12 1 h _ _ _ hw (lv_sub hl [] rfl)
              · refine lv_icmp_lt (tgt := 98) hx hb d_Mo_isAnswer_79 (by decide) (fun hc => ?_) (fun hc => ?_)
                · have h := h.1 hc
                  exact hJ_14 () h _ _ _ hw (lv_sub hl [] rfl)
                · have h := h.2 hc
                  refine lv_aload_n hx hb d_Mo_isAnswer_82 rfl (lv_at hl 0 rfl) ?_
                  refine xm_get (D := D) (v := .int m_asksLeft) (C := R_Mo) (T := F_Mo) (N := 28) hx hb hts (fun w h => List.mem_cons_of_mem _ (i_Mo w h)) hown hw k_M rfl 14 (by decide) (hts _ (List.mem_cons_of_mem _ xw_576)) (fun _ h9 => h9) rfl d_Mo_isAnswer_83 ?_
                  refine lv_aload_n hx hb d_Mo_isAnswer_86 rfl (lv_at hl 0 rfl) ?_
                  refine xm_get (D := D) (v := .int m_asksRight) (C := R_Mo) (T := F_Mo) (N := 28) hx hb hts (fun w h => List.mem_cons_of_mem _ (i_Mo w h)) hown hw k_M rfl 15 (by decide) (hts _ (List.mem_cons_of_mem _ xw_577)) (fun _ h9 => h9) rfl d_Mo_isAnswer_87 ?_
                  refine lv_icmp_ne (tgt := 98) hx hb d_Mo_isAnswer_90 (by decide) (fun hc => ?_) (fun hc => ?_)
                  · have h := h.1 hc
                    exact hJ_14 () h _ _ _ hw (lv_sub hl [] rfl)
                  · have h := h.2 hc
                    refine lv_iload_n hx hb d_Mo_isAnswer_93 rfl (lv_at hl 1 rfl) ?_
                    refine lv_iload_n hx hb d_Mo_isAnswer_94 rfl (lv_at hl 2 rfl) ?_
                    refine lv_icmp_ne (tgt := 102) hx hb d_Mo_isAnswer_95 (by decide) (fun hc => ?_) (fun hc => ?_)
                    · have h := h.1 hc
                      refine lv_iconst (v := 0) hx hb d_Mo_isAnswer_102 (by decide) ?_
                      exact hJ_12 0 h _ _ _ hw (lv_sub hl [] rfl)
                    · have h := h.2 hc
                      exact hJ_14 () h _ _ _ hw (lv_sub hl [] rfl)
          · refine lv_if_eq (tgt := 73) hx hb d_Mo_isAnswer_60 (by decide) (fun hc => ?_) (fun hc => ?_)
            · have h := h.1 hc
              exact hJ_10 () h _ _ _ hw (lv_sub hl [0, 1, 2] rfl)
            · have h := h.2 hc
              refine lv_aload_n hx hb d_Mo_isAnswer_63 rfl (lv_at hl 0 rfl) ?_
              refine xm_get (D := D) (v := .int m_asksRight) (C := R_Mo) (T := F_Mo) (N := 28) hx hb hts (fun w h => List.mem_cons_of_mem _ (i_Mo w h)) hown hw k_M rfl 15 (by decide) (hts _ (List.mem_cons_of_mem _ xw_577)) (fun _ h9 => h9) rfl d_Mo_isAnswer_64 ?_
              refine lv_iload_n hx hb d_Mo_isAnswer_67 rfl (lv_at hl 2 rfl) ?_
              refine lv_icmp_eq (tgt := 73) hx hb d_Mo_isAnswer_68 (by decide) (fun hc => ?_) (fun hc => ?_)
              · have h := h.1 hc
                exact hJ_10 () h _ _ _ hw (lv_sub hl [0, 1, 2] rfl)
              · have h := h.2 hc
                exact hJ_4 () h _ _ _ hw (lv_sub hl [] rfl)
        · refine lv_icmp_ge (tgt := 50) hx hb d_Mo_isAnswer_39 (by decide) (fun hc => ?_) (fun hc => ?_)
          · have h := h.1 hc
            exact hJ_6 () h _ _ _ hw (lv_sub hl [2, 1, 0] rfl)
          · have h := h.2 hc
            refine lv_aload_n hx hb d_Mo_isAnswer_42 rfl (lv_at hl 2 rfl) ?_
            refine xm_get (D := D) (v := .int m_asksLeft) (C := R_Mo) (T := F_Mo) (N := 28) hx hb hts (fun w h => List.mem_cons_of_mem _ (i_Mo w h)) hown hw k_M rfl 14 (by decide) (hts _ (List.mem_cons_of_mem _ xw_576)) (fun _ h9 => h9) rfl d_Mo_isAnswer_43 ?_
            refine lv_iload_n hx hb d_Mo_isAnswer_46 rfl (lv_at hl 1 rfl) ?_
            refine lv_icmp_ne (tgt := 71) hx hb d_Mo_isAnswer_47 (by decide) (fun hc => ?_) (fun hc => ?_)
            · have h := h.1 hc
              exact hJ_4 () h _ _ _ hw (lv_sub hl [] rfl)
            · have h := h.2 hc
              exact hJ_6 () h _ _ _ hw (lv_sub hl [2, 1, 0] rfl)
