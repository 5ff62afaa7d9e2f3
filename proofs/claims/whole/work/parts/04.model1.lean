theorem xw_571 : (Jvm.Cond.fieldLink "QuestionDeskModel" (32 : Nat) "QuestionDeskModel" "size" "[I") ∈ xg := xg_t (i := 571) (by decide +kernel) (by decide +kernel)
theorem xw_573 : (Jvm.Cond.fieldLink "QuestionDeskModel" (84 : Nat) "QuestionDeskModel" "begun" "Z") ∈ xg := xg_t (i := 573) (by decide +kernel) (by decide +kernel)
theorem xw_688 : (Jvm.Cond.code ({ cls := "QuestionDeskModel", name := "atom", desc := "(IIII)V" } : Jvm.MethodName) prog_6_method_11_code (5 : Nat) (Option.none : Option Jvm.ClassFile.FieldType)) ∈ xg := xg_t (i := 688) (by decide +kernel) (by decide +kernel)
theorem xw_685 : (Jvm.Cond.methodLink "QuestionDeskModel" (80 : Nat) ({ cls := "QuestionDeskModel", name := "atom", desc := "(IIII)V" } : Jvm.MethodName)) ∈ xg := xg_t (i := 685) (by decide +kernel) (by decide +kernel)
theorem xw_687 : (Jvm.Cond.instanceMethod ({ cls := "QuestionDeskModel", name := "atom", desc := "(IIII)V" } : Jvm.MethodName)) ∈ xg := xg_t (i := 687) (by decide +kernel) (by decide +kernel)
theorem xw_p26 : Cond.selects "QuestionDeskModel" ⟨"QuestionDeskModel", "atom", "(IIII)V"⟩ ⟨"QuestionDeskModel", "atom", "(IIII)V"⟩ ∈ xg := xg_p (q := (⟨"QuestionDeskModel", "atom", "(IIII)V"⟩, 28)) (i := 26) (by decide +kernel) (by decide +kernel)
def wp_Mo_head (post : Int32 → (Nat → Int32) → (Nat → Int32) → (Nat → Int32) → (Nat → Int32) → Int32 → Prop)  (m_places : Nat → Int32) (m_ruled : Nat → Int32) (m_predicates : Int32) (m_thrown : Int32) (m_ofAtom : Nat → Int32) (m_left : Nat → Int32) (m_right : Nat → Int32) (m_size : Nat → Int32) (m_begun : Int32) (p0 : Int32) (p1 : Int32) (p2 : Int32) : Prop :=
wp_Mo_isPredicate (fun r_1 =>
xj (fun (v_3 : Int32) =>
((v_3 ≤ 0 →
wp_Mo_atom (fun m_ofAtom_7 m_left_8 m_right_9 =>
vp_in 30 31 ∧
∀ m_size_10 : Nat → Int32, m_size_10 = upd m_size (Int32.toNatClampNeg 30) 0 →
post v_3 m_ofAtom_7 m_left_8 m_right_9 m_size_10 1) m_ofAtom m_left m_right 120 p0 p1 p2) ∧ (¬ v_3 ≤ 0 →
post v_3 m_ofAtom m_left m_right m_size m_begun))) (fun (J_4 : Int32 → Prop) =>
xj (fun (v_11 : Unit) =>
J_4 1) (fun (J_12 : Unit → Prop) =>
((r_1 = 0 →
J_12 ()) ∧ (¬ r_1 = 0 →
vp_in p0 10 ∧
(((m_ruled (Int32.toNatClampNeg p0)) = 0 →
J_12 ()) ∧ (¬ (m_ruled (Int32.toNatClampNeg p0)) = 0 →
wp_Mo_fit (fun r_13 =>
((r_13 = 0 →
J_12 ()) ∧ (¬ r_13 = 0 →
J_4 0))) m_places p0 p1 p2 17))))))) m_predicates p0
abbrev rm_Mo_head : Room := { frames := 2, cells := 0, slots := 0, locals := 46 }
set_option maxHeartbeats 4000000 in
set_option maxRecDepth 100000 in
theorem c_Mo_head {l : Launch} {D : va_G} {ad : Nat → Nat} (CE : Int32 → (Nat → Int32) → (Nat → Int32) → (Nat → Int32) → (Nat → Int32) → Int32 → Nat → Option va_E) {cI cZ cJ cO : ClassId} {iM : Nat} {i_places : Nat} {i_ruled : Nat} {i_told : Nat} {i_model : Nat} {i_ofAtom : Nat} {i_left : Nat} {i_right : Nat} {i_size : Nat} {i_calls : Nat} {i_row : Nat} {i_patterns : Nat} {i_values : Nat} {i_by : Nat} {i_choice : Nat} {m_places : Nat → Int32} {m_ruled : Nat → Int32} {m_predicates : Int32} {m_rules : Int32} {m_asked : Int32} {m_asksOf : Int32} {m_asksLeft : Int32} {m_asksRight : Int32} {m_hadPredicates : Int32} {m_inRow : Int32} {m_rewritten : Int32} {m_rule : Int32} {m_atoms : Int32} {m_depth : Int32} (k_M : ∀ (m_thrown : Int32) (m_ofAtom : Nat → Int32) (m_left : Nat → Int32) (m_right : Nat → Int32) (m_size : Nat → Int32) (m_begun : Int32), (CE m_thrown m_ofAtom m_left m_right m_size m_begun) iM = some (.inr (4, [.int m_thrown, .ref (ad i_places), .ref (ad i_ruled), .int m_predicates, .ref (ad i_told), .ref (ad i_model), .ref (ad i_ofAtom), .ref (ad i_left), .ref (ad i_right), .ref (ad i_size), .int m_rules, .int m_begun, .int m_asked, .int m_asksOf, .int m_asksLeft, .int m_asksRight, .int m_hadPredicates, .ref (ad i_calls), .ref (ad i_row), .int m_inRow, .ref (ad i_patterns), .int m_rewritten, .ref (ad i_values), .ref (ad i_by), .ref (ad i_choice), .int m_rule, .int m_atoms, .int m_depth]))) (k_places : ∀ (m_thrown : Int32) (m_ofAtom : Nat → Int32) (m_left : Nat → Int32) (m_right : Nat → Int32) (m_size : Nat → Int32) (m_begun : Int32), (CE m_thrown m_ofAtom m_left m_right m_size m_begun) i_places = some (.inl (cI, 10, .inl m_places))) (k_ruled : ∀ (m_thrown : Int32) (m_ofAtom : Nat → Int32) (m_left : Nat → Int32) (m_right : Nat → Int32) (m_size : Nat → Int32) (m_begun : Int32), (CE m_thrown m_ofAtom m_left m_right m_size m_begun) i_ruled = some (.inl (cZ, 10, .inl m_ruled))) (k_ofAtom : ∀ (m_thrown : Int32) (m_ofAtom : Nat → Int32) (m_left : Nat → Int32) (m_right : Nat → Int32) (m_size : Nat → Int32) (m_begun : Int32), (CE m_thrown m_ofAtom m_left m_right m_size m_begun) i_ofAtom = some (.inl (cI, 124, .inl m_ofAtom))) (k_left : ∀ (m_thrown : Int32) (m_ofAtom : Nat → Int32) (m_left : Nat → Int32) (m_right : Nat → Int32) (m_size : Nat → Int32) (m_begun : Int32), (CE m_thrown m_ofAtom m_left m_right m_size m_begun) i_left = some (.inl (cI, 124, .inl m_left))) (k_right : ∀ (m_thrown : Int32) (m_ofAtom : Nat → Int32) (m_left : Nat → Int32) (m_right : Nat → Int32) (m_size : Nat → Int32) (m_begun : Int32), (CE m_thrown m_ofAtom m_left m_right m_size m_begun) i_right = some (.inl (cI, 124, .inl m_right))) (k_size : ∀ (m_thrown : Int32) (m_ofAtom : Nat → Int32) (m_left : Nat → Int32) (m_right : Nat → Int32) (m_size : Nat → Int32) (m_begun : Int32), (CE m_thrown m_ofAtom m_left m_right m_size m_begun) i_size = some (.inl (cI, 31, .inl m_size))) (u_M : ∀ (m_thrown : Int32) (m_ofAtom : Nat → Int32) (m_left : Nat → Int32) (m_right : Nat → Int32) (m_size : Nat → Int32) (m_begun : Int32) (m_thrown' : Int32) (m_begun' : Int32), va_up (CE m_thrown m_ofAtom m_left m_right m_size m_begun) iM (some (.inr (4, [.int m_thrown', .ref (ad i_places), .ref (ad i_ruled), .int m_predicates, .ref (ad i_told), .ref (ad i_model), .ref (ad i_ofAtom), .ref (ad i_left), .ref (ad i_right), .ref (ad i_size), .int m_rules, .int m_begun', .int m_asked, .int m_asksOf, .int m_asksLeft, .int m_asksRight, .int m_hadPredicates, .ref (ad i_calls), .ref (ad i_row), .int m_inRow, .ref (ad i_patterns), .int m_rewritten, .ref (ad i_values), .ref (ad i_by), .ref (ad i_choice), .int m_rule, .int m_atoms, .int m_depth]))) = (CE m_thrown' m_ofAtom m_left m_right m_size m_begun')) (u_ofAtom : ∀ (m_thrown : Int32) (m_ofAtom : Nat → Int32) (m_left : Nat → Int32) (m_right : Nat → Int32) (m_size : Nat → Int32) (m_begun : Int32) (m_ofAtom' : Nat → Int32), va_up (CE m_thrown m_ofAtom m_left m_right m_size m_begun) i_ofAtom (some (.inl (cI, 124, .inl m_ofAtom'))) = (CE m_thrown m_ofAtom' m_left m_right m_size m_begun)) (u_left : ∀ (m_thrown : Int32) (m_ofAtom : Nat → Int32) (m_left : Nat → Int32) (m_right : Nat → Int32) (m_size : Nat → Int32) (m_begun : Int32) (m_left' : Nat → Int32), va_up (CE m_thrown m_ofAtom m_left m_right m_size m_begun) i_left (some (.inl (cI, 124, .inl m_left'))) = (CE m_thrown m_ofAtom m_left' m_right m_size m_begun)) (u_right : ∀ (m_thrown : Int32) (m_ofAtom : Nat → Int32) (m_left : Nat → Int32) (m_right : Nat → Int32) (m_size : Nat → Int32) (m_begun : Int32) (m_right' : Nat → Int32), va_up (CE m_thrown m_ofAtom m_left m_right m_size m_begun) i_right (some (.inl (cI, 124, .inl m_right'))) = (CE m_thrown m_ofAtom m_left m_right' m_size m_begun)) (u_size : ∀ (m_thrown : Int32) (m_ofAtom : Nat → Int32) (m_left : Nat → Int32) (m_right : Nat → Int32) (m_size : Nat → Int32) (m_begun : Int32) (m_size' : Nat → Int32), va_up (CE m_thrown m_ofAtom m_left m_right m_size m_begun) i_size (some (.inl (cI, 31, .inl m_size'))) = (CE m_thrown m_ofAtom m_left m_right m_size' m_begun)) {post : Int32 → (Nat → Int32) → (Nat → Int32) → (Nat → Int32) → (Nat → Int32) → Int32 → Prop} {m_thrown : Int32} {m_ofAtom : Nat → Int32} {m_left : Nat → Int32} {m_right : Nat → Int32} {m_size : Nat → Int32} {m_begun : Int32} {p0 : Int32} {p1 : Int32} {p2 : Int32} (h : wp_Mo_head post m_places m_ruled m_predicates m_thrown m_ofAtom m_left m_right m_size m_begun p0 p1 p2) : ∀ sz, Met l y_Mo_head (Cond.code y_Mo_head b_Mo_head 4 none :: xg) rm_Mo_head (xm_Pc D xcl (xT cI cZ cJ cO) ad (CE m_thrown m_ofAtom m_left m_right m_size m_begun) sz [.ref (ad iM), .int p0, .int p1, .int p2]) (va_Qv (fun u : Int32 × (Nat → Int32) × (Nat → Int32) × (Nat → Int32) × (Nat → Int32) × Int32 => post u.1 u.2.1 u.2.2.1 u.2.2.2.1 u.2.2.2.2.1 u.2.2.2.2.2) (xm_B D xcl (xT cI cZ cJ cO) (xm_A ad (CE m_thrown m_ofAtom m_left m_right m_size m_begun) sz) (fun _ => ad) (fun u : Int32 × (Nat → Int32) × (Nat → Int32) × (Nat → Int32) × (Nat → Int32) × Int32 => CE u.1 u.2.1 u.2.2.1 u.2.2.2.1 u.2.2.2.2.1 u.2.2.2.2.2)) (xm_A ad (CE m_thrown m_ofAtom m_left m_right m_size m_begun) sz)) 0 0 (xm_A ad (CE m_thrown m_ofAtom m_left m_right m_size m_begun) sz) := by
  refine xm_ofW (cc := b_Mo_head) (maxL := 4) (ret := none) (by decide) rfl (Nat.le_of_ble_eq_true rfl) ?_
  intro p e s m args below meth c ls QQ hQQ hx hb hml hr hown hlk hnm hts hl hw
  have hl : lv_has ls 4 [(0, .ref (ad iM)), (1, .int p0), (2, .int p1), (3, .int p2)] := hl
  unfold wp_Mo_head at h
  refine lv_aload_n hx hb d_Mo_head_0 rfl (lv_at hl 0 rfl) ?_
  refine lv_aload_n hx hb d_Mo_head_1 rfl (lv_at hl 0 rfl) ?_
  refine lv_iload_n hx hb d_Mo_head_2 rfl (lv_at hl 1 rfl) ?_
  refine xm_calli (ua := fun _ => ad) (va_runV (As := [.int p0]) (rest := [.ref (ad iM)]) ⟨hx, hb, hml, hown, hts⟩ (c_Mo_isPredicate (D := D) (ad := ad) (CE := ((CE m_thrown m_ofAtom m_left m_right m_size m_begun)))  (k_M m_thrown m_ofAtom m_left m_right m_size m_begun) h _) (xg_cwV 1 hts xw_669 xw_666 xw_668 xw_p24 xw_8 rfl rfl (by decide +kernel) ⟨Nat.le_of_ble_eq_true rfl, Nat.le_of_ble_eq_true rfl⟩) (xm_preV hw (k_M m_thrown m_ofAtom m_left m_right m_size m_begun) rfl _) rfl rfl hl.1 rfl (lv_room (Nat.le_of_ble_eq_true rfl)) d_Mo_head_3 ⟨Nat.le_of_ble_eq_true rfl, Nat.le_of_ble_eq_true rfl⟩) hw (fun r_1 _ H locs h hw => ?_)
  refine xj_use h (fun (v_3 : Int32) => ∀ (H : Heap) (locs : List Loc) (ls : Array Slot), xm_W D xcl (xT cI cZ cJ cO) (xm_A ad (CE m_thrown m_ofAtom m_left m_right m_size m_begun) s.heap.size) ad (CE m_thrown m_ofAtom m_left m_right m_size m_begun) s s.heap H locs → lv_has ls 4 [(0, .ref (ad iM)), (1, .int p0), (2, .int p1), (3, .int p2)] → W p l e rm_Mo_head s m args below meth c H locs 0 0 QQ (F0 m 35 ls [.int v_3, .ref (ad iM)])) (fun v_3 h H locs ls hw hl => ?_) (fun J_4 hJ_4 h => ?_)
  · refine xm_put (D := D) (v := .int v_3) (ty := .int) (C := R_Mo) (T := F_Mo) (N := 28) hx hb hts (fun w h => List.mem_cons_of_mem _ (i_Mo w h)) t_Mo o_Mo n_Mo hown hw (k_M m_thrown m_ofAtom m_left m_right m_size m_begun) rfl 0 (by decide) (hts _ (List.mem_cons_of_mem _ xw_562)) (fun _ h9 => h9) rfl (by decide +kernel) rfl rfl (Nat.le_of_ble_eq_true rfl) d_Mo_head_35 (fun H locs hw => ?_)
    have hw : xm_W D xcl (xT cI cZ cJ cO) (xm_A ad (CE m_thrown m_ofAtom m_left m_right m_size m_begun) s.heap.size) ad (CE v_3 m_ofAtom m_left m_right m_size m_begun) s s.heap H locs := xm_W.cast (u_M m_thrown m_ofAtom m_left m_right m_size m_begun v_3 m_begun) hw
    refine lv_aload_n hx hb d_Mo_head_38 rfl (lv_at hl 0 rfl) ?_
    refine xm_get (D := D) (v := .int v_3) (C := R_Mo) (T := F_Mo) (N := 28) hx hb hts (fun w h => List.mem_cons_of_mem _ (i_Mo w h)) hown hw (k_M v_3 m_ofAtom m_left m_right m_size m_begun) rfl 0 (by decide) (hts _ (List.mem_cons_of_mem _ xw_562)) (fun _ h9 => h9) rfl d_Mo_head_39 ?_
    refine lv_if_le (tgt := 46) hx hb d_Mo_head_42 (by decide) (fun hc => ?_) (fun hc => ?_)
    · have h := h.1 hc
      refine lv_aload_n hx hb d_Mo_head_46 rfl (lv_at hl 0 rfl) ?_
      refine lv_bipush (v := 120) hx hb d_Mo_head_47 (by decide) ?_
      refine lv_iload_n hx hb d_Mo_head_49 rfl (lv_at hl 1 rfl) ?_
      refine lv_iload_n hx hb d_Mo_head_50 rfl (lv_at hl 2 rfl) ?_
      refine lv_iload_n hx hb d_Mo_head_51 rfl (lv_at hl 3 rfl) ?_
      refine xm_callv (ua := fun _ => ad) (va_runV (As := [.int 120, .int p0, .int p1, .int p2]) (rest := []) ⟨hx, hb, hml, hown, hts⟩ (c_Mo_atom (D := D) (ad := ad) (CE := (fun m_ofAtom m_left m_right => (CE v_3 m_ofAtom m_left m_right m_size m_begun)))  (fun m_ofAtom m_left m_right => k_M v_3 m_ofAtom m_left m_right m_size m_begun) (fun m_ofAtom m_left m_right => k_ofAtom v_3 m_ofAtom m_left m_right m_size m_begun) (fun m_ofAtom m_left m_right => k_left v_3 m_ofAtom m_left m_right m_size m_begun) (fun m_ofAtom m_left m_right => k_right v_3 m_ofAtom m_left m_right m_size m_begun) (fun m_ofAtom m_left m_right m_ofAtom' => u_ofAtom v_3 m_ofAtom m_left m_right m_size m_begun m_ofAtom') (fun m_ofAtom m_left m_right m_left' => u_left v_3 m_ofAtom m_left m_right m_size m_begun m_left') (fun m_ofAtom m_left m_right m_right' => u_right v_3 m_ofAtom m_left m_right m_size m_begun m_right') h _) (xg_cwV 4 hts xw_688 xw_685 xw_687 xw_p26 xw_8 rfl rfl (by decide +kernel) ⟨Nat.le_of_ble_eq_true rfl, Nat.le_of_ble_eq_true rfl⟩) (xm_preV hw (k_M v_3 m_ofAtom m_left m_right m_size m_begun) rfl _) rfl rfl hl.1 rfl (lv_room (Nat.le_of_ble_eq_true rfl)) d_Mo_head_52 ⟨Nat.le_of_ble_eq_true rfl, Nat.le_of_ble_eq_true rfl⟩) hw (fun u_6 H locs h hw => ?_)
      obtain ⟨m_ofAtom_7, em_ofAtom_7⟩ : ∃ z, z = u_6.1 := ⟨_, rfl⟩
      obtain ⟨m_left_8, em_left_8⟩ : ∃ z, z = u_6.2.1 := ⟨_, rfl⟩
      obtain ⟨m_right_9, em_right_9⟩ : ∃ z, z = u_6.2.2 := ⟨_, rfl⟩
      try dsimp only at h hw
      rw [← em_ofAtom_7, ← em_left_8, ← em_right_9] at h hw
      refine lv_aload_n hx hb d_Mo_head_55 rfl (lv_at hl 0 rfl) ?_
      refine xm_get (D := D) (v := .ref (ad i_size)) (C := R_Mo) (T := F_Mo) (N := 28) hx hb hts (fun w h => List.mem_cons_of_mem _ (i_Mo w h)) hown hw (k_M v_3 m_ofAtom_7 m_left_8 m_right_9 m_size m_begun) rfl 9 (by decide) (hts _ (List.mem_cons_of_mem _ xw_571)) (fun _ h9 => h9) rfl d_Mo_head_56 ?_
      refine lv_bipush (v := 30) hx hb d_Mo_head_59 (by decide) ?_
      refine lv_iconst (v := 0) hx hb d_Mo_head_61 (by decide) ?_
      obtain ⟨hin, h⟩ := h
      refine xm_iast hx hb hw 0 (k_size v_3 m_ofAtom_7 m_left_8 m_right_9 m_size m_begun) rfl hin d_Mo_head_62 (fun H locs hw => ?_)
      have hw : xm_W D xcl (xT cI cZ cJ cO) (xm_A ad (CE m_thrown m_ofAtom m_left m_right m_size m_begun) s.heap.size) ad (CE v_3 m_ofAtom_7 m_left_8 m_right_9 (upd m_size (Int32.toNatClampNeg 30) 0) m_begun) s s.heap H locs := xm_W.cast (u_size v_3 m_ofAtom_7 m_left_8 m_right_9 m_size m_begun (upd m_size (Int32.toNatClampNeg 30) 0)) hw
      obtain ⟨m_size_10, em_size_10⟩ : ∃ z : Nat → Int32, z = upd m_size (Int32.toNatClampNeg 30) 0 := ⟨_, rfl⟩
      have h := h m_size_10 em_size_10
      rw [← em_size_10] at hw
      refine lv_aload_n hx hb d_Mo_head_63 rfl (lv_at hl 0 rfl) ?_
      refine lv_iconst (v := 1) hx hb d_Mo_head_64 (by decide) ?_
      refine xm_put (D := D) (v := .int 1) (ty := .boolean) (C := R_Mo) (T := F_Mo) (N := 28) hx hb hts (fun w h => List.mem_cons_of_mem _ (i_Mo w h)) t_Mo o_Mo n_Mo hown hw (k_M v_3 m_ofAtom_7 m_left_8 m_right_9 m_size_10 m_begun) rfl 11 (by decide) (hts _ (List.mem_cons_of_mem _ xw_573)) (fun _ h9 => h9) rfl (by decide +kernel) rfl rfl (Nat.le_of_ble_eq_true rfl) d_Mo_head_65 (fun H locs hw => ?_)
      have hw : xm_W D xcl (xT cI cZ cJ cO) (xm_A ad (CE m_thrown m_ofAtom m_left m_right m_size m_begun) s.heap.size) ad (CE v_3 m_ofAtom_7 m_left_8 m_right_9 m_size_10 1) s s.heap H locs := xm_W.cast (u_M v_3 m_ofAtom_7 m_left_8 m_right_9 m_size_10 m_begun v_3 1) hw
      subst hQQ
      exact xm_vret hx hb hr hlk hw (v_3, m_ofAtom_7, m_left_8, m_right_9, m_size_10, 1) rfl rfl h d_Mo_head_68
    · have h := h.2 hc
      subst hQQ
      exact xm_vret hx hb hr hlk hw (v_3, m_ofAtom, m_left, m_right, m_size, m_begun) rfl rfl h d_Mo_head_45
  · refine xj_use h (fun (v_11 : Unit) => ∀ (H : Heap) (locs : List Loc) (ls : Array Slot), xm_W D xcl (xT cI cZ cJ cO) (xm_A ad (CE m_thrown m_ofAtom m_left m_right m_size m_begun) s.heap.size) ad (CE m_thrown m_ofAtom m_left m_right m_size m_begun) s s.heap H locs → lv_has ls 4 [(0, .ref (ad iM)), (1, .int p0), (2, .int p1), (3, .int p2)] → W p l e rm_Mo_head s m args below meth c H locs 0 0 QQ (F0 m 34 ls [.ref (ad iM)])) (fun v_11 h H locs ls hw hl => ?_) (fun J_12 hJ_12 h => ?_)
    · refine lv_iconst (v := 1) hx hb d_Mo_head_34 (by decide) ?_
      exact hJ_4 1 h _ _ _ hw (lv_sub hl [0, 1, 2, 3] rfl)
    · refine lv_if_eq (tgt := 34) hx hb d_Mo_head_6 (by decide) (fun hc => ?_) (fun hc => ?_)
      · have h := h.1 hc
        exact hJ_12 () h _ _ _ hw (lv_sub hl [0, 1, 2, 3] rfl)
      · have h := h.2 hc
        refine lv_aload_n hx hb d_Mo_head_9 rfl (lv_at hl 0 rfl) ?_
        refine xm_get (D := D) (v := .ref (ad i_ruled)) (C := R_Mo) (T := F_Mo) (N := 28) hx hb hts (fun w h => List.mem_cons_of_mem _ (i_Mo w h)) hown hw (k_M m_thrown m_ofAtom m_left m_right m_size m_begun) rfl 2 (by decide) (hts _ (List.mem_cons_of_mem _ xw_564)) (fun _ h9 => h9) rfl d_Mo_head_10 ?_
        refine lv_iload_n hx hb d_Mo_head_13 rfl (lv_at hl 1 rfl) ?_
        obtain ⟨hin, h⟩ := h
        refine xm_zald hx hb hw 1 (k_ruled m_thrown m_ofAtom m_left m_right m_size m_begun) rfl hin d_Mo_head_14 ?_
        refine lv_if_eq (tgt := 34) hx hb d_Mo_head_15 (by decide) (fun hc => ?_) (fun hc => ?_)
        · have h := h.1 hc
          exact hJ_12 () h _ _ _ hw (lv_sub hl [0, 1, 2, 3] rfl)
        · have h := h.2 hc
          refine lv_aload_n hx hb d_Mo_head_18 rfl (lv_at hl 0 rfl) ?_
          refine lv_iload_n hx hb d_Mo_head_19 rfl (lv_at hl 1 rfl) ?_
          refine lv_iload_n hx hb d_Mo_head_20 rfl (lv_at hl 2 rfl) ?_
          refine lv_iload_n hx hb d_Mo_head_21 rfl (lv_at hl 3 rfl) ?_
          refine lv_bipush (v := 17) hx hb d_Mo_head_22 (by decide) ?_
          refine xm_calli (ua := fun _ => ad) (va_runV (As := [.int p0, .int p1, .int p2, .int 17]) (rest := [.ref (ad iM)]) ⟨hx, hb, hml, hown, hts⟩ (c_Mo_fit (D := D) (ad := ad) (CE := ((CE m_thrown m_ofAtom m_left m_right m_size m_begun)))  (k_M m_thrown m_ofAtom m_left m_right m_size m_begun) (k_places m_thrown m_ofAtom m_left m_right m_size m_begun) h _) (xg_cwV 4 hts xw_673 xw_670 xw_672 xw_p25 xw_8 rfl rfl (by decide +kernel) ⟨Nat.le_of_ble_eq_true rfl, Nat.le_of_ble_eq_true rfl⟩) (xm_preV hw (k_M m_thrown m_ofAtom m_left m_right m_size m_begun) rfl _) rfl rfl hl.1 rfl (lv_room (Nat.le_of_ble_eq_true rfl)) d_Mo_head_24 ⟨Nat.le_of_ble_eq_true rfl, Nat.le_of_ble_eq_true rfl⟩) hw (fun r_13 _ H locs h hw => ?_)
          refine lv_if_eq (tgt := 34) hx hb d_Mo_head_27 (by decide) (fun hc => ?_) (fun hc => ?_)
          · have h := h.1 hc
            exact hJ_12 () h _ _ _ hw (lv_sub hl [0, 1, 2, 3] rfl)
          · have h := h.2 hc
            refine lv_iconst (v := 0) hx hb d_Mo_head_30 (by decide) ?_
            refine lv_goto (tgt := 35) hx hb d_Mo_head_31 (by decide) ?_
            exact hJ_4 0 h _ _ _ hw (lv_sub hl [0, 1, 2, 3] rfl)
def wp_Mo_body (post : Int32 → Int32 → (Nat → Int32) → (Nat → Int32) → (Nat → Int32) → (Nat → Int32) → Prop)  (m_places : Nat → Int32) (m_predicates : Int32) (m_begun : Int32) (m_thrown : Int32) (m_ofAtom : Nat → Int32) (m_left : Nat → Int32) (m_right : Nat → Int32) (m_size : Nat → Int32) (p0 : Int32) (p1 : Int32) (p2 : Int32) : Prop :=
xj (fun (v_1 : Int32) =>
((v_1 ≤ 0 →
vp_in 30 31 ∧
vp_in 30 31 ∧
∀ m_size_3 : Nat → Int32, m_size_3 = upd m_size (Int32.toNatClampNeg 30) ((m_size (Int32.toNatClampNeg 30)) + 1) →
vp_in 30 31 ∧
wp_Mo_atom (fun m_ofAtom_6 m_left_7 m_right_8 =>
vp_in 30 31 ∧
post (m_size_3 (Int32.toNatClampNeg 30)) v_1 m_ofAtom_6 m_left_7 m_right_8 m_size_3) m_ofAtom m_left m_right (120 + (m_size_3 (Int32.toNatClampNeg 30))) p0 p1 p2) ∧ (¬ v_1 ≤ 0 →
post 0 v_1 m_ofAtom m_left m_right m_size))) (fun (J_2 : Int32 → Prop) =>
xj (fun (v_9 : Unit) =>
J_2 1) (fun (J_10 : Unit → Prop) =>
((m_begun = 0 →
J_10 ()) ∧ (¬ m_begun = 0 →
vp_in 30 31 ∧
((¬ (m_size (Int32.toNatClampNeg 30)) = 3 →
wp_Mo_isPredicate (fun r_11 =>
xj (fun (v_13 : Unit) =>
J_2 2) (fun (J_14 : Unit → Prop) =>
((r_11 = 0 →
J_14 ()) ∧ (¬ r_11 = 0 →
wp_Mo_fit (fun r_15 =>
((¬ r_15 = 0 →
J_2 0) ∧ (r_15 = 0 →
J_14 ()))) m_places p0 p1 p2 17)))) m_predicates p0) ∧ ((m_size (Int32.toNatClampNeg 30)) = 3 →
J_10 ()))))))
abbrev rm_Mo_body : Room := { frames := 2, cells := 0, slots := 0, locals := 46 }
set_option maxHeartbeats 4000000 in
set_option maxRecDepth 100000 in
theorem c_Mo_body {l : Launch} {D : va_G} {ad : Nat → Nat} (CE : Int32 → (Nat → Int32) → (Nat → Int32) → (Nat → Int32) → (Nat → Int32) → Nat → Option va_E) {cI cZ cJ cO : ClassId} {iM : Nat} {i_places : Nat} {i_ruled : Nat} {i_told : Nat} {i_model : Nat} {i_ofAtom : Nat} {i_left : Nat} {i_right : Nat} {i_size : Nat} {i_calls : Nat} {i_row : Nat} {i_patterns : Nat} {i_values : Nat} {i_by : Nat} {i_choice : Nat} {m_places : Nat → Int32} {m_predicates : Int32} {m_begun : Int32} {m_rules : Int32} {m_asked : Int32} {m_asksOf : Int32} {m_asksLeft : Int32} {m_asksRight : Int32} {m_hadPredicates : Int32} {m_inRow : Int32} {m_rewritten : Int32} {m_rule : Int32} {m_atoms : Int32} {m_depth : Int32} (k_M : ∀ (m_thrown : Int32) (m_ofAtom : Nat → Int32) (m_left : Nat → Int32) (m_right : Nat → Int32) (m_size : Nat → Int32), (CE m_thrown m_ofAtom m_left m_right m_size) iM = some (.inr (4, [.int m_thrown, .ref (ad i_places), .ref (ad i_ruled), .int m_predicates, .ref (ad i_told), .ref (ad i_model), .ref (ad i_ofAtom), .ref (ad i_left), .ref (ad i_right), .ref (ad i_size), .int m_rules, .int m_begun, .int m_asked, .int m_asksOf, .int m_asksLeft, .int m_asksRight, .int m_hadPredicates, .ref (ad i_calls), .ref (ad i_row), .int m_inRow, .ref (ad i_patterns), .int m_rewritten, .ref (ad i_values), .ref (ad i_by), .ref (ad i_choice), .int m_rule, .int m_atoms, .int m_depth]))) (k_places : ∀ (m_thrown : Int32) (m_ofAtom : Nat → Int32) (m_left : Nat → Int32) (m_right : Nat → Int32) (m_size : Nat → Int32), (CE m_thrown m_ofAtom m_left m_right m_size) i_places = some (.inl (cI, 10, .inl m_places))) (k_ofAtom : ∀ (m_thrown : Int32) (m_ofAtom : Nat → Int32) (m_left : Nat → Int32) (m_right : Nat → Int32) (m_size : Nat → Int32), (CE m_thrown m_ofAtom m_left m_right m_size) i_ofAtom = some (.inl (cI, 124, .inl m_ofAtom))) (k_left : ∀ (m_thrown : Int32) (m_ofAtom : Nat → Int32) (m_left : Nat → Int32) (m_right : Nat → Int32) (m_size : Nat → Int32), (CE m_thrown m_ofAtom m_left m_right m_size) i_left = some (.inl (cI, 124, .inl m_left))) (k_right : ∀ (m_thrown : Int32) (m_ofAtom : Nat → Int32) (m_left : Nat → Int32) (m_right : Nat → Int32) (m_size : Nat → Int32), (CE m_thrown m_ofAtom m_left m_right m_size) i_right = some (.inl (cI, 124, .inl m_right))) (k_size : ∀ (m_thrown : Int32) (m_ofAtom : Nat → Int32) (m_left : Nat → Int32) (m_right : Nat → Int32) (m_size : Nat → Int32), (CE m_thrown m_ofAtom m_left m_right m_size) i_size = some (.inl (cI, 31, .inl m_size))) (u_M : ∀ (m_thrown : Int32) (m_ofAtom : Nat → Int32) (m_left : Nat → Int32) (m_right : Nat → Int32) (m_size : Nat → Int32) (m_thrown' : Int32), va_up (CE m_thrown m_ofAtom m_left m_right m_size) iM (some (.inr (4, [.int m_thrown', .ref (ad i_places), .ref (ad i_ruled), .int m_predicates, .ref (ad i_told), .ref (ad i_model), .ref (ad i_ofAtom), .ref (ad i_left), .ref (ad i_right), .ref (ad i_size), .int m_rules, .int m_begun, .int m_asked, .int m_asksOf, .int m_asksLeft, .int m_asksRight, .int m_hadPredicates, .ref (ad i_calls), .ref (ad i_row), .int m_inRow, .ref (ad i_patterns), .int m_rewritten, .ref (ad i_values), .ref (ad i_by), .ref (ad i_choice), .int m_rule, .int m_atoms, .int m_depth]))) = (CE m_thrown' m_ofAtom m_left m_right m_size)) (u_ofAtom : ∀ (m_thrown : Int32) (m_ofAtom : Nat → Int32) (m_left : Nat → Int32) (m_right : Nat → Int32) (m_size : Nat → Int32) (m_ofAtom' : Nat → Int32), va_up (CE m_thrown m_ofAtom m_left m_right m_size) i_ofAtom (some (.inl (cI, 124, .inl m_ofAtom'))) = (CE m_thrown m_ofAtom' m_left m_right m_size)) (u_left : ∀ (m_thrown : Int32) (m_ofAtom : Nat → Int32) (m_left : Nat → Int32) (m_right : Nat → Int32) (m_size : Nat → Int32) (m_left' : Nat → Int32), va_up (CE m_thrown m_ofAtom m_left m_right m_size) i_left (some (.inl (cI, 124, .inl m_left'))) = (CE m_thrown m_ofAtom m_left' m_right m_size)) (u_right : ∀ (m_thrown : Int32) (m_ofAtom : Nat → Int32) (m_left : Nat → Int32) (m_right : Nat → Int32) (m_size : Nat → Int32) (m_right' : Nat → Int32), va_up (CE m_thrown m_ofAtom m_left m_right m_size) i_right (some (.inl (cI, 124, .inl m_right'))) = (CE m_thrown m_ofAtom m_left m_right' m_size)) (u_size : ∀ (m_thrown : Int32) (m_ofAtom : Nat → Int32) (m_left : Nat → Int32) (m_right : Nat → Int32) (m_size : Nat → Int32) (m_size' : Nat → Int32), va_up (CE m_thrown m_ofAtom m_left m_right m_size) i_size (some (.inl (cI, 31, .inl m_size'))) = (CE m_thrown m_ofAtom m_left m_right m_size')) {post : Int32 → Int32 → (Nat → Int32) → (Nat → Int32) → (Nat → Int32) → (Nat → Int32) → Prop} {m_thrown : Int32} {m_ofAtom : Nat → Int32} {m_left : Nat → Int32} {m_right : Nat → Int32} {m_size : Nat → Int32} {p0 : Int32} {p1 : Int32} {p2 : Int32} (h : wp_Mo_body post m_places m_predicates m_begun m_thrown m_ofAtom m_left m_right m_size p0 p1 p2) : ∀ sz, Met l y_Mo_body (Cond.code y_Mo_body b_Mo_body 4 (some .int) :: xg) rm_Mo_body (xm_Pc D xcl (xT cI cZ cJ cO) ad (CE m_thrown m_ofAtom m_left m_right m_size) sz [.ref (ad iM), .int p0, .int p1, .int p2]) (va_Qi (fun (r : Int32) (u : Int32 × (Nat → Int32) × (Nat → Int32) × (Nat → Int32) × (Nat → Int32)) => post r u.1 u.2.1 u.2.2.1 u.2.2.2.1 u.2.2.2.2) (xm_B D xcl (xT cI cZ cJ cO) (xm_A ad (CE m_thrown m_ofAtom m_left m_right m_size) sz) (fun _ => ad) (fun u : Int32 × (Nat → Int32) × (Nat → Int32) × (Nat → Int32) × (Nat → Int32) => CE u.1 u.2.1 u.2.2.1 u.2.2.2.1 u.2.2.2.2)) (xm_A ad (CE m_thrown m_ofAtom m_left m_right m_size) sz)) 0 0 (xm_A ad (CE m_thrown m_ofAtom m_left m_right m_size) sz) := by
  refine xm_ofW (cc := b_Mo_body) (maxL := 4) (ret := (some .int)) (by decide) rfl (Nat.le_of_ble_eq_true rfl) ?_
  intro p e s m args below meth c ls QQ hQQ hx hb hml hr hown hlk hnm hts hl hw
  have hl : lv_has ls 4 [(0, .ref (ad iM)), (1, .int p0), (2, .int p1), (3, .int p2)] := hl
  unfold wp_Mo_body at h
  refine lv_aload_n hx hb d_Mo_body_0 rfl (lv_at hl 0 rfl) ?_
  refine lv_aload_n hx hb d_Mo_body_1 rfl (lv_at hl 0 rfl) ?_
  refine xm_get (D := D) (v := .int m_begun) (C := R_Mo) (T := F_Mo) (N := 28) hx hb hts (fun w h => List.mem_cons_of_mem _ (i_Mo w h)) hown hw (k_M m_thrown m_ofAtom m_left m_right m_size) rfl 11 (by decide) (hts _ (List.mem_cons_of_mem _ xw_573)) (fun _ h9 => h9) rfl d_Mo_body_2 ?_
  refine xj_use h (fun (v_1 : Int32) => ∀ (H : Heap) (locs : List Loc) (ls : Array Slot), xm_W D xcl (xT cI cZ cJ cO) (xm_A ad (CE m_thrown m_ofAtom m_left m_right m_size) s.heap.size) ad (CE m_thrown m_ofAtom m_left m_right m_size) s s.heap H locs → lv_has ls 4 [(0, .ref (ad iM)), (1, .int p0), (2, .int p1), (3, .int p2)] → W p l e rm_Mo_body s m args below meth c H locs 0 0 QQ (F0 m 48 ls [.int v_1, .ref (ad iM)])) (fun v_1 h H locs ls hw hl => ?_) (fun J_2 hJ_2 h => ?_)
  · refine xm_put (D := D) (v := .int v_1) (ty := .int) (C := R_Mo) (T := F_Mo) (N := 28) hx hb hts (fun w h => List.mem_cons_of_mem _ (i_Mo w h)) t_Mo o_Mo n_Mo hown hw (k_M m_thrown m_ofAtom m_left m_right m_size) rfl 0 (by decide) (hts _ (List.mem_cons_of_mem _ xw_562)) (fun _ h9 => h9) rfl (by decide +kernel) rfl rfl (Nat.le_of_ble_eq_true rfl) d_Mo_body_48 (fun H locs hw => ?_)
    have hw : xm_W D xcl (xT cI cZ cJ cO) (xm_A ad (CE m_thrown m_ofAtom m_left m_right m_size) s.heap.size) ad (CE v_1 m_ofAtom m_left m_right m_size) s s.heap H locs := xm_W.cast (u_M m_thrown m_ofAtom m_left m_right m_size v_1) hw
    refine lv_aload_n hx hb d_Mo_body_51 rfl (lv_at hl 0 rfl) ?_
    refine xm_get (D := D) (v := .int v_1) (C := R_Mo) (T := F_Mo) (N := 28) hx hb hts (fun w h => List.mem_cons_of_mem _ (i_Mo w h)) hown hw (k_M v_1 m_ofAtom m_left m_right m_size) rfl 0 (by decide) (hts _ (List.mem_cons_of_mem _ xw_562)) (fun _ h9 => h9) rfl d_Mo_body_52 ?_
    refine lv_if_le (tgt := 60) hx hb d_Mo_body_55 (by decide) (fun hc => ?_) (fun hc => ?_)
    · have h := h.1 hc
      refine lv_aload_n hx hb d_Mo_body_60 rfl (lv_at hl 0 rfl) ?_
      refine xm_get (D := D) (v := .ref (ad i_size)) (C := R_Mo) (T := F_Mo) (N := 28) hx hb hts (fun w h => List.mem_cons_of_mem _ (i_Mo w h)) hown hw (k_M v_1 m_ofAtom m_left m_right m_size) rfl 9 (by decide) (hts _ (List.mem_cons_of_mem _ xw_571)) (fun _ h9 => h9) rfl d_Mo_body_61 ?_
      refine lv_bipush (v := 30) hx hb d_Mo_body_64 (by decide) ?_
      refine lv_dup2_11 hx hb d_Mo_body_66 rfl rfl ?_
      obtain ⟨hin, h⟩ := h
      refine xm_iald hx hb hw 0 (k_size v_1 m_ofAtom m_left m_right m_size) rfl hin d_Mo_body_67 ?_
      refine lv_iconst (v := 1) hx hb d_Mo_body_68 (by decide) ?_
      refine lv_iadd hx hb d_Mo_body_69 ?_
      obtain ⟨hin, h⟩ := h
      refine xm_iast hx hb hw 0 (k_size v_1 m_ofAtom m_left m_right m_size) rfl hin d_Mo_body_70 (fun H locs hw => ?_)
      have hw : xm_W D xcl (xT cI cZ cJ cO) (xm_A ad (CE m_thrown m_ofAtom m_left m_right m_size) s.heap.size) ad (CE v_1 m_ofAtom m_left m_right (upd m_size (Int32.toNatClampNeg 30) ((m_size (Int32.toNatClampNeg 30)) + 1))) s s.heap H locs := xm_W.cast (u_size v_1 m_ofAtom m_left m_right m_size (upd m_size (Int32.toNatClampNeg 30) ((m_size (Int32.toNatClampNeg 30)) + 1))) hw
      obtain ⟨m_size_3, em_size_3⟩ : ∃ z : Nat → Int32, z = upd m_size (Int32.toNatClampNeg 30) ((m_size (Int32.toNatClampNeg 30)) + 1) := ⟨_, rfl⟩
      have h := h m_size_3 em_size_3
      rw [← em_size_3] at hw
      refine lv_aload_n hx hb d_Mo_body_71 rfl (lv_at hl 0 rfl) ?_
      refine lv_bipush (v := 120) hx hb d_Mo_body_72 (by decide) ?_
      refine lv_aload_n hx hb d_Mo_body_74 rfl (lv_at hl 0 rfl) ?_
      refine xm_get (D := D) (v := .ref (ad i_size)) (C := R_Mo) (T := F_Mo) (N := 28) hx hb hts (fun w h => List.mem_cons_of_mem _ (i_Mo w h)) hown hw (k_M v_1 m_ofAtom m_left m_right m_size_3) rfl 9 (by decide) (hts _ (List.mem_cons_of_mem _ xw_571)) (fun _ h9 => h9) rfl d_Mo_body_75 ?_
      refine lv_bipush (v := 30) hx hb d_Mo_body_78 (by decide) ?_
      obtain ⟨hin, h⟩ := h
      refine xm_iald hx hb hw 0 (k_size v_1 m_ofAtom m_left m_right m_size_3) rfl hin d_Mo_body_80 ?_
      refine lv_iadd hx hb d_Mo_body_81 ?_
      refine lv_iload_n hx hb d_Mo_body_82 rfl (lv_at hl 1 rfl) ?_
      refine lv_iload_n hx hb d_Mo_body_83 rfl (lv_at hl 2 rfl) ?_
      refine lv_iload_n hx hb d_Mo_body_84 rfl (lv_at hl 3 rfl) ?_
      refine xm_callv (ua := fun _ => ad) (va_runV (As := [.int (120 + (m_size_3 (Int32.toNatClampNeg 30))), .int p0, .int p1, .int p2]) (rest := []) ⟨hx, hb, hml, hown, hts⟩ (c_Mo_atom (D := D) (ad := ad) (CE := (fun m_ofAtom m_left m_right => (CE v_1 m_ofAtom m_left m_right m_size_3)))  (fun m_ofAtom m_left m_right => k_M v_1 m_ofAtom m_left m_right m_size_3) (fun m_ofAtom m_left m_right => k_ofAtom v_1 m_ofAtom m_left m_right m_size_3) (fun m_ofAtom m_left m_right => k_left v_1 m_ofAtom m_left m_right m_size_3) (fun m_ofAtom m_left m_right => k_right v_1 m_ofAtom m_left m_right m_size_3) (fun m_ofAtom m_left m_right m_ofAtom' => u_ofAtom v_1 m_ofAtom m_left m_right m_size_3 m_ofAtom') (fun m_ofAtom m_left m_right m_left' => u_left v_1 m_ofAtom m_left m_right m_size_3 m_left') (fun m_ofAtom m_left m_right m_right' => u_right v_1 m_ofAtom m_left m_right m_size_3 m_right') h _) (xg_cwV 4 hts xw_688 xw_685 xw_687 xw_p26 xw_8 rfl rfl (by decide +kernel) ⟨Nat.le_of_ble_eq_true rfl, Nat.le_of_ble_eq_true rfl⟩) (xm_preV hw (k_M v_1 m_ofAtom m_left m_right m_size_3) rfl _) rfl rfl hl.1 rfl (lv_room (Nat.le_of_ble_eq_true rfl)) d_Mo_body_85 ⟨Nat.le_of_ble_eq_true rfl, Nat.le_of_ble_eq_true rfl⟩) hw (fun u_5 H locs h hw => ?_)
      obtain ⟨m_ofAtom_6, em_ofAtom_6⟩ : ∃ z, z = u_5.1 := ⟨_, rfl⟩
      obtain ⟨m_left_7, em_left_7⟩ : ∃ z, z = u_5.2.1 := ⟨_, rfl⟩
      obtain ⟨m_right_8, em_right_8⟩ : ∃ z, z = u_5.2.2 := ⟨_, rfl⟩
      try dsimp only at h hw
      rw [← em_ofAtom_6, ← em_left_7, ← em_right_8] at h hw
      refine lv_aload_n hx hb d_Mo_body_88 rfl (lv_at hl 0 rfl) ?_
      refine xm_get (D := D) (v := .ref (ad i_size)) (C := R_Mo) (T := F_Mo) (N := 28) hx hb hts (fun w h => List.mem_cons_of_mem _ (i_Mo w h)) hown hw (k_M v_1 m_ofAtom_6 m_left_7 m_right_8 m_size_3) rfl 9 (by decide) (hts _ (List.mem_cons_of_mem _ xw_571)) (fun _ h9 => h9) rfl d_Mo_body_89 ?_
      refine lv_bipush (v := 30) hx hb d_Mo_body_92 (by decide) ?_
      obtain ⟨hin, h⟩ := h
      refine xm_iald hx hb hw 0 (k_size v_1 m_ofAtom_6 m_left_7 m_right_8 m_size_3) rfl hin d_Mo_body_94 ?_
      subst hQQ
      exact xm_iret hx hb hr hlk hw (v_1, m_ofAtom_6, m_left_7, m_right_8, m_size_3) rfl rfl h d_Mo_body_95
    · have h := h.2 hc
      refine lv_iconst (v := 0) hx hb d_Mo_body_58 (by decide) ?_
      subst hQQ
      exact xm_iret hx hb hr hlk hw (v_1, m_ofAtom, m_left, m_right, m_size) rfl rfl h d_Mo_body_59
  · refine xj_use h (fun (v_9 : Unit) => ∀ (H : Heap) (locs : List Loc) (ls : Array Slot), xm_W D xcl (xT cI cZ cJ cO) (xm_A ad (CE m_thrown m_ofAtom m_left m_right m_size) s.heap.size) ad (CE m_thrown m_ofAtom m_left m_right m_size) s s.heap H locs → lv_has ls 4 [(0, .ref (ad iM)), (1, .int p0), (2, .int p1), (3, .int p2)] → W p l e rm_Mo_body s m args below meth c H locs 0 0 QQ (F0 m 19 ls [.ref (ad iM)])) (fun v_9 h H locs ls hw hl => ?_) (fun J_10 hJ_10 h => ?_)
    · refine lv_iconst (v := 1) hx hb d_Mo_body_19 (by decide) ?_
      refine lv_goto (tgt := 48) hx hb d_Mo_body_20 (by decide) ?_
      exact hJ_2 1 h _ _ _ hw (lv_sub hl [0, 1, 2, 3] rfl)
    · refine lv_if_eq (tgt := 19) hx hb d_Mo_body_5 (by decide) (fun hc => ?_) (fun hc => ?_)
      · have h := h.1 hc
        exact hJ_10 () h _ _ _ hw (lv_sub hl [0, 1, 2, 3] rfl)
      · have h := h.2 hc
        refine lv_aload_n hx hb d_Mo_body_8 rfl (lv_at hl 0 rfl) ?_
        refine xm_get (D := D) (v := .ref (ad i_size)) (C := R_Mo) (T := F_Mo) (N := 28) hx hb hts (fun w h => List.mem_cons_of_mem _ (i_Mo w h)) hown hw (k_M m_thrown m_ofAtom m_left m_right m_size) rfl 9 (by decide) (hts _ (List.mem_cons_of_mem _ xw_571)) (fun _ h9 => h9) rfl d_Mo_body_9 ?_
        refine lv_bipush (v := 30) hx hb d_Mo_body_12 (by decide) ?_
        obtain ⟨hin, h⟩ := h
        refine xm_iald hx hb hw 0 (k_size m_thrown m_ofAtom m_left m_right m_size) rfl hin d_Mo_body_14 ?_
        refine lv_iconst (v := 3) hx hb d_Mo_body_15 (by decide) ?_
        refine lv_icmp_ne (tgt := 23) hx hb d_Mo_body_16 (by decide) (fun hc => ?_) (fun hc => ?_)
        · have h := h.1 hc
          refine lv_aload_n hx hb d_Mo_body_23 rfl (lv_at hl 0 rfl) ?_
          refine lv_iload_n hx hb d_Mo_body_24 rfl (lv_at hl 1 rfl) ?_
          refine xm_calli (ua := fun _ => ad) (va_runV (As := [.int p0]) (rest := [.ref (ad iM)]) ⟨hx, hb, hml, hown, hts⟩ (c_Mo_isPredicate (D := D) (ad := ad) (CE := ((CE m_thrown m_ofAtom m_left m_right m_size)))  (k_M m_thrown m_ofAtom m_left m_right m_size) h _) (xg_cwV 1 hts xw_669 xw_666 xw_668 xw_p24 xw_8 rfl rfl (by decide +kernel) ⟨Nat.le_of_ble_eq_true rfl, Nat.le_of_ble_eq_true rfl⟩) (xm_preV hw (k_M m_thrown m_ofAtom m_left m_right m_size) rfl _) rfl rfl hl.1 rfl (lv_room (Nat.le_of_ble_eq_true rfl)) d_Mo_body_25 ⟨Nat.le_of_ble_eq_true rfl, Nat.le_of_ble_eq_true rfl⟩) hw (fun r_11 _ H locs h hw => ?_)
          refine xj_use h (fun (v_13 : Unit) => ∀ (H : Heap) (locs : List Loc) (ls : Array Slot), xm_W D xcl (xT cI cZ cJ cO) (xm_A ad (CE m_thrown m_ofAtom m_left m_right m_size) s.heap.size) ad (CE m_thrown m_ofAtom m_left m_right m_size) s s.heap H locs → lv_has ls 4 [(0, .ref (ad iM)), (1, .int p0), (2, .int p1), (3, .int p2)] → W p l e rm_Mo_body s m args below meth c H locs 0 0 QQ (F0 m 43 ls [.ref (ad iM)])) (fun v_13 h H locs ls hw hl => ?_) (fun J_14 hJ_14 h => ?_)
          · refine lv_iconst (v := 2) hx hb d_Mo_body_43 (by decide) ?_
            refine lv_goto (tgt := 48) hx hb d_Mo_body_44 (by decide) ?_
            exact hJ_2 2 h _ _ _ hw (lv_sub hl [0, 1, 2, 3] rfl)
          · refine lv_if_eq (tgt := 43) hx hb d_Mo_body_28 (by decide) (fun hc => ?_) (fun hc => ?_)
            · have h := h.1 hc
              exact hJ_14 () h _ _ _ hw (lv_sub hl [0, 1, 2, 3] rfl)
            · have h := h.2 hc
              refine lv_aload_n hx hb d_Mo_body_31 rfl (lv_at hl 0 rfl) ?_
              refine lv_iload_n hx hb d_Mo_body_32 rfl (lv_at hl 1 rfl) ?_
              refine lv_iload_n hx hb d_Mo_body_33 rfl (lv_at hl 2 rfl) ?_
              refine lv_iload_n hx hb d_Mo_body_34 rfl (lv_at hl 3 rfl) ?_
              refine lv_bipush (v := 17) hx hb d_Mo_body_35 (by decide) ?_
              refine xm_calli (ua := fun _ => ad) (va_runV (As := [.int p0, .int p1, .int p2, .int 17]) (rest := [.ref (ad iM)]) ⟨hx, hb, hml, hown, hts⟩ (c_Mo_fit (D := D) (ad := ad) (CE := ((CE m_thrown m_ofAtom m_left m_right m_size)))  (k_M m_thrown m_ofAtom m_left m_right m_size) (k_places m_thrown m_ofAtom m_left m_right m_size) h _) (xg_cwV 4 hts xw_673 xw_670 xw_672 xw_p25 xw_8 rfl rfl (by decide +kernel) ⟨Nat.le_of_ble_eq_true rfl, Nat.le_of_ble_eq_true rfl⟩) (xm_preV hw (k_M m_thrown m_ofAtom m_left m_right m_size) rfl _) rfl rfl hl.1 rfl (lv_room (Nat.le_of_ble_eq_true rfl)) d_Mo_body_37 ⟨Nat.le_of_ble_eq_true rfl, Nat.le_of_ble_eq_true rfl⟩) hw (fun r_15 _ H locs h hw => ?_)
              refine lv_if_ne (tgt := 47) hx hb d_Mo_body_40 (by decide) (fun hc => ?_) (fun hc => ?_)
              · have h := h.1 hc
                refine lv_iconst (v := 0) hx hb d_Mo_body_47 (by decide) ?_
                exact hJ_2 0 h _ _ _ hw (lv_sub hl [0, 1, 2, 3] rfl)
              · have h := h.2 hc
                exact hJ_14 () h _ _ _ hw (lv_sub hl [0, 1, 2, 3] rfl)
        · have h := h.2 hc
          exact hJ_10 () h _ _ _ hw (lv_sub hl [0, 1, 2, 3] rfl)
def wp_Mo_isSafe (post : Int32 → Prop)  (m_left : Nat → Int32) (m_right : Nat → Int32) (m_size : Nat → Int32) (p0 : Int32) : Prop :=
xj (fun (v_1 : Int32) =>
xL (fun (K_4 : Int32 × Int32 → Prop) (v_3 : Int32 × Int32) =>
vp_in 30 31 ∧
(((m_size (Int32.toNatClampNeg 30)) < v_3.1 →
(narrow .boolean (.int v_3.2) = .int v_3.2 ∧ post v_3.2)) ∧ (¬ (m_size (Int32.toNatClampNeg 30)) < v_3.1 →
xj (fun (v_5 : Int32) =>
∀ x_7 : Int32, x_7 = v_3.1 + 1 →
K_4 (x_7, v_5)) (fun (J_6 : Int32 → Prop) =>
xj (fun (v_8 : Unit) =>
J_6 1) (fun (J_9 : Unit → Prop) =>
((¬ v_3.2 = 0 →
J_9 ()) ∧ (v_3.2 = 0 →
vp_in (120 + v_3.1) 124 ∧
(((m_left (Int32.toNatClampNeg (120 + v_3.1))) = p0 →
J_9 ()) ∧ (¬ (m_left (Int32.toNatClampNeg (120 + v_3.1))) = p0 →
vp_in (120 + v_3.1) 124 ∧
((¬ (m_right (Int32.toNatClampNeg (120 + v_3.1))) = p0 →
J_6 0) ∧ ((m_right (Int32.toNatClampNeg (120 + v_3.1))) = p0 →
J_9 ()))))))))))) (1, v_1)) (fun (J_2 : Int32 → Prop) =>
((10 ≤ p0 →
J_2 0) ∧ (¬ 10 ≤ p0 →
J_2 1)))
abbrev rm_Mo_isSafe : Room := { frames := 0, cells := 0, slots := 0, locals := 0 }
set_option maxHeartbeats 4000000 in
set_option maxRecDepth 100000 in
theorem c_Mo_isSafe {l : Launch} {D : va_G} {ad : Nat → Nat} (CE : Nat → Option va_E) {cI cZ cJ cO : ClassId} {iM : Nat} {i_places : Nat} {i_ruled : Nat} {i_told : Nat} {i_model : Nat} {i_ofAtom : Nat} {i_left : Nat} {i_right : Nat} {i_size : Nat} {i_calls : Nat} {i_row : Nat} {i_patterns : Nat} {i_values : Nat} {i_by : Nat} {i_choice : Nat} {m_left : Nat → Int32} {m_right : Nat → Int32} {m_size : Nat → Int32} {m_thrown : Int32} {m_predicates : Int32} {m_rules : Int32} {m_begun : Int32} {m_asked : Int32} {m_asksOf : Int32} {m_asksLeft : Int32} {m_asksRight : Int32} {m_hadPredicates : Int32} {m_inRow : Int32} {m_rewritten : Int32} {m_rule : Int32} {m_atoms : Int32} {m_depth : Int32} (k_M : CE iM = some (.inr (4, [.int m_thrown, .ref (ad i_places), .ref (ad i_ruled), .int m_predicates, .ref (ad i_told), .ref (ad i_model), .ref (ad i_ofAtom), .ref (ad i_left), .ref (ad i_right), .ref (ad i_size), .int m_rules, .int m_begun, .int m_asked, .int m_asksOf, .int m_asksLeft, .int m_asksRight, .int m_hadPredicates, .ref (ad i_calls), .ref (ad i_row), .int m_inRow, .ref (ad i_patterns), .int m_rewritten, .ref (ad i_values), .ref (ad i_by), .ref (ad i_choice), .int m_rule, .int m_atoms, .int m_depth]))) (k_left : CE i_left = some (.inl (cI, 124, .inl m_left))) (k_right : CE i_right = some (.inl (cI, 124, .inl m_right))) (k_size : CE i_size = some (.inl (cI, 31, .inl m_size))) {post : Int32 → Prop} {p0 : Int32} (h : wp_Mo_isSafe post m_left m_right m_size p0) : ∀ sz, Met l y_Mo_isSafe (Cond.code y_Mo_isSafe b_Mo_isSafe 4 (some .boolean) :: xg) rm_Mo_isSafe (xm_Pc D xcl (xT cI cZ cJ cO) ad CE sz [.ref (ad iM), .int p0]) (va_Qi (fun (r : Int32) (_ : Unit) => post r) (xm_B D xcl (xT cI cZ cJ cO) (xm_A ad CE sz) (fun _ => ad) (fun _ : Unit => CE)) (xm_A ad CE sz)) 0 0 (xm_A ad CE sz) := by
  refine xm_ofW (cc := b_Mo_isSafe) (maxL := 4) (ret := (some .boolean)) (by decide) rfl (Nat.le_of_ble_eq_true rfl) ?_
  intro p e s m args below meth c ls QQ hQQ hx hb hml hr hown hlk hnm hts hl hw
  have hl : lv_has ls 4 [(0, .ref (ad iM)), (1, .int p0)] := hl
  unfold wp_Mo_isSafe at h
  refine lv_iload_n hx hb d_Mo_isSafe_0 rfl (lv_at hl 1 rfl) ?_
  refine lv_bipush (v := 10) hx hb d_Mo_isSafe_1 (by decide) ?_
  refine xj_use h (fun (v_1 : Int32) => ∀ (H : Heap) (locs : List Loc) (ls : Array Slot), xm_W D xcl (xT cI cZ cJ cO) (xm_A ad CE s.heap.size) ad CE s s.heap H locs → lv_has ls 4 [(0, .ref (ad iM)), (1, .int p0)] → W p l e rm_Mo_isSafe s m args below meth c H locs 0 0 QQ (F0 m 11 ls [.int v_1])) (fun v_1 h H locs ls hw hl => ?_) (fun J_2 hJ_2 h => ?_)
  · refine lv_istore_n (lv' := [(2, .int v_1), (0, .ref (ad iM)), (1, .int p0)]) hx hb d_Mo_isSafe_11 rfl hl (by decide) rfl (fun ls hl => ?_)
    refine lv_iconst (v := 1) hx hb d_Mo_isSafe_12 (by decide) ?_
    refine lv_istore_n (lv' := [(3, .int 1), (2, .int v_1), (0, .ref (ad iM)), (1, .int p0)]) hx hb d_Mo_isSafe_13 rfl hl (by decide) rfl (fun ls hl => ?_)
    refine xL_use h (fun (v_3 : Int32 × Int32) => ∀ (H : Heap) (locs : List Loc) (ls : Array Slot), xm_W D xcl (xT cI cZ cJ cO) (xm_A ad CE s.heap.size) ad CE s s.heap H locs → lv_has ls 4 [(3, .int v_3.1), (2, .int v_3.2), (0, .ref (ad iM)), (1, .int p0)] → W p l e rm_Mo_isSafe s m args below meth c H locs 0 0 QQ (F0 m 14 ls [])) (fun K_4 hK_4 v_3 h H locs ls hw hl => ?_) _ _ _ hw (lv_sub hl [0, 1, 2, 3] rfl)
    refine lv_iload_n hx hb d_Mo_isSafe_14 rfl (lv_at hl 0 rfl) ?_
    refine lv_aload_n hx hb d_Mo_isSafe_15 rfl (lv_at hl 2 rfl) ?_
    refine xm_get (D := D) (v := .ref (ad i_size)) (C := R_Mo) (T := F_Mo) (N := 28) hx hb hts (fun w h => List.mem_cons_of_mem _ (i_Mo w h)) hown hw k_M rfl 9 (by decide) (hts _ (List.mem_cons_of_mem _ xw_571)) (fun _ h9 => h9) rfl d_Mo_isSafe_16 ?_
    refine lv_bipush (v := 30) hx hb d_Mo_isSafe_19 (by decide) ?_
    obtain ⟨hin, h⟩ := h
    refine xm_iald hx hb hw 0 k_size rfl hin d_Mo_isSafe_21 ?_
    refine lv_icmp_gt (tgt := 67) hx hb d_Mo_isSafe_22 (by decide) (fun hc => ?_) (fun hc => ?_)
    · have h := h.1 hc
      refine lv_iload_n hx hb d_Mo_isSafe_67 rfl (lv_at hl 1 rfl) ?_
      subst hQQ
      exact xm_zret hx hb hr hlk h.1 hw () rfl rfl h.2 d_Mo_isSafe_68
    · have h := h.2 hc
      refine lv_iload_n hx hb d_Mo_isSafe_25 rfl (lv_at hl 1 rfl) ?_
      refine xj_use h (fun (v_5 : Int32) => ∀ (H : Heap) (locs : List Loc) (ls : Array Slot), xm_W D xcl (xT cI cZ cJ cO) (xm_A ad CE s.heap.size) ad CE s s.heap H locs → lv_has ls 4 [(0, .ref (ad iM)), (1, .int p0), (3, .int v_3.1)] → W p l e rm_Mo_isSafe s m args below meth c H locs 0 0 QQ (F0 m 60 ls [.int v_5])) (fun v_5 h H locs ls hw hl => ?_) (fun J_6 hJ_6 h => ?_)
      · refine lv_istore_n (lv' := [(2, .int v_5), (0, .ref (ad iM)), (1, .int p0), (3, .int v_3.1)]) hx hb d_Mo_isSafe_60 rfl hl (by decide) rfl (fun ls hl => ?_)
        obtain ⟨x_7, ex_7⟩ : ∃ y : Int32, y = v_3.1 + 1 := ⟨_, rfl⟩
        have h := h x_7 ex_7
        refine lv_iinc (v := x_7) (lv' := [(3, .int x_7), (2, .int v_5), (0, .ref (ad iM)), (1, .int p0)]) hx hb d_Mo_isSafe_61 hl (k := 3) rfl (by rw [ex_7]; rfl) (by decide) rfl (fun ls hl => ?_)
        refine lv_goto (tgt := 14) hx hb d_Mo_isSafe_64 (by decide) ?_
        exact hK_4 (x_7, v_5) h _ _ _ hw (lv_sub hl [0, 1, 2, 3] rfl)
      · refine xj_use h (fun (v_8 : Unit) => ∀ (H : Heap) (locs : List Loc) (ls : Array Slot), xm_W D xcl (xT cI cZ cJ cO) (xm_A ad CE s.heap.size) ad CE s s.heap H locs → lv_has ls 4 [(0, .ref (ad iM)), (1, .int p0), (3, .int v_3.1)] → W p l e rm_Mo_isSafe s m args below meth c H locs 0 0 QQ (F0 m 55 ls [])) (fun v_8 h H locs ls hw hl => ?_) (fun J_9 hJ_9 h => ?_)
        · refine lv_iconst (v := 1) hx hb d_Mo_isSafe_55 (by decide) ?_
          refine lv_goto (tgt := 60) hx hb d_Mo_isSafe_56 (by decide) ?_
          exact hJ_6 1 h _ _ _ hw (lv_sub hl [0, 1, 2] rfl)
        · refine lv_if_ne (tgt := 55) hx hb d_Mo_isSafe_26 (by decide) (fun hc => ?_) (fun hc => ?_)
          · have h := h.1 hc
            exact hJ_9 () h _ _ _ hw (lv_sub hl [2, 3, 0] rfl)
          · have h := h.2 hc
            refine lv_aload_n hx hb d_Mo_isSafe_29 rfl (lv_at hl 2 rfl) ?_
            refine xm_get (D := D) (v := .ref (ad i_left)) (C := R_Mo) (T := F_Mo) (N := 28) hx hb hts (fun w h => List.mem_cons_of_mem _ (i_Mo w h)) hown hw k_M rfl 7 (by decide) (hts _ (List.mem_cons_of_mem _ xw_569)) (fun _ h9 => h9) rfl d_Mo_isSafe_30 ?_
            refine lv_bipush (v := 120) hx hb d_Mo_isSafe_33 (by decide) ?_
            refine lv_iload_n hx hb d_Mo_isSafe_35 rfl (lv_at hl 0 rfl) ?_
            refine lv_iadd hx hb d_Mo_isSafe_36 ?_
            obtain ⟨hin, h⟩ := h
            refine xm_iald hx hb hw 0 k_left rfl hin d_Mo_isSafe_37 ?_
            refine lv_iload_n hx hb d_Mo_isSafe_38 rfl (lv_at hl 3 rfl) ?_
            refine lv_icmp_eq (tgt := 55) hx hb d_Mo_isSafe_39 (by decide) (fun hc => ?_) (fun hc => ?_)
            · have h := h.1 hc
              exact hJ_9 () h _ _ _ hw (lv_sub hl [2, 3, 0] rfl)
            · have h := h.2 hc
              refine lv_aload_n hx hb d_Mo_isSafe_42 rfl (lv_at hl 2 rfl) ?_
              refine xm_get (D := D) (v := .ref (ad i_right)) (C := R_Mo) (T := F_Mo) (N := 28) hx hb hts (fun w h => List.mem_cons_of_mem _ (i_Mo w h)) hown hw k_M rfl 8 (by decide) (hts _ (List.mem_cons_of_mem _ xw_570)) (fun _ h9 => h9) rfl d_Mo_isSafe_43 ?_
              refine lv_bipush (v := 120) hx hb d_Mo_isSafe_46 (by decide) ?_
              refine lv_iload_n hx hb d_Mo_isSafe_48 rfl (lv_at hl 0 rfl) ?_
              refine lv_iadd hx hb d_Mo_isSafe_49 ?_
              obtain ⟨hin, h⟩ := h
              refine xm_iald hx hb hw 0 k_right rfl hin d_Mo_isSafe_50 ?_
              refine lv_iload_n hx hb d_Mo_isSafe_51 rfl (lv_at hl 3 rfl) ?_
              refine lv_icmp_ne (tgt := 59) hx hb d_Mo_isSafe_52 (by decide) (fun hc => ?_) (fun hc => ?_)
              · have h := h.1 hc
                refine lv_iconst (v := 0) hx hb d_Mo_isSafe_59 (by decide) ?_
                exact hJ_6 0 h _ _ _ hw (lv_sub hl [2, 3, 0] rfl)
              · have h := h.2 hc
                exact hJ_9 () h _ _ _ hw (lv_sub hl [2, 3, 0] rfl)
  · refine lv_icmp_ge (tgt := 10) hx hb d_Mo_isSafe_3 (by decide) (fun hc => ?_) (fun hc => ?_)
    · have h := h.1 hc
      refine lv_iconst (v := 0) hx hb d_Mo_isSafe_10 (by decide) ?_
      exact hJ_2 0 h _ _ _ hw (lv_sub hl [0, 1] rfl)
    · have h := h.2 hc
      refine lv_iconst (v := 1) hx hb d_Mo_isSafe_6 (by decide) ?_
      refine lv_goto (tgt := 11) hx hb d_Mo_isSafe_7 (by decide) ?_
      exact hJ_2 1 h _ _ _ hw (lv_sub hl [0, 1] rfl)
def wp_Mo_copies (post : (Nat → Int32) → (Nat → Int32) → (Nat → Int32) → (Nat → Int32) → Prop)  (m_ofAtom : Nat → Int32) (m_left : Nat → Int32) (m_right : Nat → Int32) (m_size : Nat → Int32) (p0 : Int32) (p1 : Int32) : Prop :=
vp_in p0 31 ∧
vp_in p1 31 ∧
∀ m_size_1 : Nat → Int32, m_size_1 = upd m_size (Int32.toNatClampNeg p1) (m_size (Int32.toNatClampNeg p0)) →
xL (fun (K_3 : Int32 × (Nat → Int32) × (Nat → Int32) × (Nat → Int32) × (Nat → Int32) → Prop) (v_2 : Int32 × (Nat → Int32) × (Nat → Int32) × (Nat → Int32) × (Nat → Int32)) =>
((4 ≤ v_2.1 →
post v_2.2.1 v_2.2.2.1 v_2.2.2.2.1 v_2.2.2.2.2) ∧ (¬ 4 ≤ v_2.1 →
vp_in ((4 * p0) + v_2.1) 124 ∧
vp_in ((4 * p0) + v_2.1) 124 ∧
vp_in ((4 * p0) + v_2.1) 124 ∧
wp_Mo_atom (fun m_ofAtom_6 m_left_7 m_right_8 =>
∀ x_9 : Int32, x_9 = v_2.1 + 1 →
K_3 (x_9, m_ofAtom_6, m_left_7, m_right_8, v_2.2.2.2.2)) v_2.2.1 v_2.2.2.1 v_2.2.2.2.1 ((4 * p1) + v_2.1) (v_2.2.1 (Int32.toNatClampNeg ((4 * p0) + v_2.1))) (v_2.2.2.1 (Int32.toNatClampNeg ((4 * p0) + v_2.1))) (v_2.2.2.2.1 (Int32.toNatClampNeg ((4 * p0) + v_2.1)))))) (0, m_ofAtom, m_left, m_right, m_size_1)
abbrev rm_Mo_copies : Room := { frames := 1, cells := 0, slots := 0, locals := 24 }
set_option maxHeartbeats 4000000 in
set_option maxRecDepth 100000 in
theorem c_Mo_copies {l : Launch} {D : va_G} {ad : Nat → Nat} (CE : (Nat → Int32) → (Nat → Int32) → (Nat → Int32) → (Nat → Int32) → Nat → Option va_E) {cI cZ cJ cO : ClassId} {iM : Nat} {i_places : Nat} {i_ruled : Nat} {i_told : Nat} {i_model : Nat} {i_ofAtom : Nat} {i_left : Nat} {i_right : Nat} {i_size : Nat} {i_calls : Nat} {i_row : Nat} {i_patterns : Nat} {i_values : Nat} {i_by : Nat} {i_choice : Nat} {m_thrown : Int32} {m_predicates : Int32} {m_rules : Int32} {m_begun : Int32} {m_asked : Int32} {m_asksOf : Int32} {m_asksLeft : Int32} {m_asksRight : Int32} {m_hadPredicates : Int32} {m_inRow : Int32} {m_rewritten : Int32} {m_rule : Int32} {m_atoms : Int32} {m_depth : Int32} (k_M : ∀ (m_ofAtom : Nat → Int32) (m_left : Nat → Int32) (m_right : Nat → Int32) (m_size : Nat → Int32), (CE m_ofAtom m_left m_right m_size) iM = some (.inr (4, [.int m_thrown, .ref (ad i_places), .ref (ad i_ruled), .int m_predicates, .ref (ad i_told), .ref (ad i_model), .ref (ad i_ofAtom), .ref (ad i_left), .ref (ad i_right), .ref (ad i_size), .int m_rules, .int m_begun, .int m_asked, .int m_asksOf, .int m_asksLeft, .int m_asksRight, .int m_hadPredicates, .ref (ad i_calls), .ref (ad i_row), .int m_inRow, .ref (ad i_patterns), .int m_rewritten, .ref (ad i_values), .ref (ad i_by), .ref (ad i_choice), .int m_rule, .int m_atoms, .int m_depth]))) (k_ofAtom : ∀ (m_ofAtom : Nat → Int32) (m_left : Nat → Int32) (m_right : Nat → Int32) (m_size : Nat → Int32), (CE m_ofAtom m_left m_right m_size) i_ofAtom = some (.inl (cI, 124, .inl m_ofAtom))) (k_left : ∀ (m_ofAtom : Nat → Int32) (m_left : Nat → Int32) (m_right : Nat → Int32) (m_size : Nat → Int32), (CE m_ofAtom m_left m_right m_size) i_left = some (.inl (cI, 124, .inl m_left))) (k_right : ∀ (m_ofAtom : Nat → Int32) (m_left : Nat → Int32) (m_right : Nat → Int32) (m_size : Nat → Int32), (CE m_ofAtom m_left m_right m_size) i_right = some (.inl (cI, 124, .inl m_right))) (k_size : ∀ (m_ofAtom : Nat → Int32) (m_left : Nat → Int32) (m_right : Nat → Int32) (m_size : Nat → Int32), (CE m_ofAtom m_left m_right m_size) i_size = some (.inl (cI, 31, .inl m_size))) (u_ofAtom : ∀ (m_ofAtom : Nat → Int32) (m_left : Nat → Int32) (m_right : Nat → Int32) (m_size : Nat → Int32) (m_ofAtom' : Nat → Int32), va_up (CE m_ofAtom m_left m_right m_size) i_ofAtom (some (.inl (cI, 124, .inl m_ofAtom'))) = (CE m_ofAtom' m_left m_right m_size)) (u_left : ∀ (m_ofAtom : Nat → Int32) (m_left : Nat → Int32) (m_right : Nat → Int32) (m_size : Nat → Int32) (m_left' : Nat → Int32), va_up (CE m_ofAtom m_left m_right m_size) i_left (some (.inl (cI, 124, .inl m_left'))) = (CE m_ofAtom m_left' m_right m_size)) (u_right : ∀ (m_ofAtom : Nat → Int32) (m_left : Nat → Int32) (m_right : Nat → Int32) (m_size : Nat → Int32) (m_right' : Nat → Int32), va_up (CE m_ofAtom m_left m_right m_size) i_right (some (.inl (cI, 124, .inl m_right'))) = (CE m_ofAtom m_left m_right' m_size)) (u_size : ∀ (m_ofAtom : Nat → Int32) (m_left : Nat → Int32) (m_right : Nat → Int32) (m_size : Nat → Int32) (m_size' : Nat → Int32), va_up (CE m_ofAtom m_left m_right m_size) i_size (some (.inl (cI, 31, .inl m_size'))) = (CE m_ofAtom m_left m_right m_size')) {post : (Nat → Int32) → (Nat → Int32) → (Nat → Int32) → (Nat → Int32) → Prop} {m_ofAtom : Nat → Int32} {m_left : Nat → Int32} {m_right : Nat → Int32} {m_size : Nat → Int32} {p0 : Int32} {p1 : Int32} (h : wp_Mo_copies post m_ofAtom m_left m_right m_size p0 p1) : ∀ sz, Met l y_Mo_copies (Cond.code y_Mo_copies b_Mo_copies 4 none :: xg) rm_Mo_copies (xm_Pc D xcl (xT cI cZ cJ cO) ad (CE m_ofAtom m_left m_right m_size) sz [.ref (ad iM), .int p0, .int p1]) (va_Qv (fun u : (Nat → Int32) × (Nat → Int32) × (Nat → Int32) × (Nat → Int32) => post u.1 u.2.1 u.2.2.1 u.2.2.2) (xm_B D xcl (xT cI cZ cJ cO) (xm_A ad (CE m_ofAtom m_left m_right m_size) sz) (fun _ => ad) (fun u : (Nat → Int32) × (Nat → Int32) × (Nat → Int32) × (Nat → Int32) => CE u.1 u.2.1 u.2.2.1 u.2.2.2)) (xm_A ad (CE m_ofAtom m_left m_right m_size) sz)) 0 0 (xm_A ad (CE m_ofAtom m_left m_right m_size) sz) := by
  refine xm_ofW (cc := b_Mo_copies) (maxL := 4) (ret := none) (by decide) rfl (Nat.le_of_ble_eq_true rfl) ?_
  intro p e s m args below meth c ls QQ hQQ hx hb hml hr hown hlk hnm hts hl hw
  have hl : lv_has ls 4 [(0, .ref (ad iM)), (1, .int p0), (2, .int p1)] := hl
  unfold wp_Mo_copies at h
  refine lv_aload_n hx hb d_Mo_copies_0 rfl (lv_at hl 0 rfl) ?_
  refine xm_get (D := D) (v := .ref (ad i_size)) (C := R_Mo) (T := F_Mo) (N := 28) hx hb hts (fun w h => List.mem_cons_of_mem _ (i_Mo w h)) hown hw (k_M m_ofAtom m_left m_right m_size) rfl 9 (by decide) (hts _ (List.mem_cons_of_mem _ xw_571)) (fun _ h9 => h9) rfl d_Mo_copies_1 ?_
  refine lv_iload_n hx hb d_Mo_copies_4 rfl (lv_at hl 2 rfl) ?_
  refine lv_aload_n hx hb d_Mo_copies_5 rfl (lv_at hl 0 rfl) ?_
  refine xm_get (D := D) (v := .ref (ad i_size)) (C := R_Mo) (T := F_Mo) (N := 28) hx hb hts (fun w h => List.mem_cons_of_mem _ (i_Mo w h)) hown hw (k_M m_ofAtom m_left m_right m_size) rfl 9 (by decide) (hts _ (List.mem_cons_of_mem _ xw_571)) (fun _ h9 => h9) rfl d_Mo_copies_6 ?_
  refine lv_iload_n hx hb d_Mo_copies_9 rfl (lv_at hl 1 rfl) ?_
  obtain ⟨hin, h⟩ := h
  refine xm_iald hx hb hw 0 (k_size m_ofAtom m_left m_right m_size) rfl hin d_Mo_copies_10 ?_
  obtain ⟨hin, h⟩ := h
  refine xm_iast hx hb hw 0 (k_size m_ofAtom m_left m_right m_size) rfl hin d_Mo_copies_11 (fun H locs hw => ?_)
  have hw : xm_W D xcl (xT cI cZ cJ cO) (xm_A ad (CE m_ofAtom m_left m_right m_size) s.heap.size) ad (CE m_ofAtom m_left m_right (upd m_size (Int32.toNatClampNeg p1) (m_size (Int32.toNatClampNeg p0)))) s s.heap H locs := xm_W.cast (u_size m_ofAtom m_left m_right m_size (upd m_size (Int32.toNatClampNeg p1) (m_size (Int32.toNatClampNeg p0)))) hw
  obtain ⟨m_size_1, em_size_1⟩ : ∃ z : Nat → Int32, z = upd m_size (Int32.toNatClampNeg p1) (m_size (Int32.toNatClampNeg p0)) := ⟨_, rfl⟩
  have h := h m_size_1 em_size_1
  rw [← em_size_1] at hw
  refine lv_iconst (v := 0) hx hb d_Mo_copies_12 (by decide) ?_
  refine lv_istore_n (lv' := [(3, .int 0), (0, .ref (ad iM)), (1, .int p0), (2, .int p1)]) hx hb d_Mo_copies_13 rfl hl (by decide) rfl (fun ls hl => ?_)
  refine xL_use h (fun (v_2 : Int32 × (Nat → Int32) × (Nat → Int32) × (Nat → Int32) × (Nat → Int32)) => ∀ (H : Heap) (locs : List Loc) (ls : Array Slot), xm_W D xcl (xT cI cZ cJ cO) (xm_A ad (CE m_ofAtom m_left m_right m_size) s.heap.size) ad (CE v_2.2.1 v_2.2.2.1 v_2.2.2.2.1 v_2.2.2.2.2) s s.heap H locs → lv_has ls 4 [(3, .int v_2.1), (0, .ref (ad iM)), (1, .int p0), (2, .int p1)] → W p l e rm_Mo_copies s m args below meth c H locs 0 0 QQ (F0 m 14 ls [])) (fun K_3 hK_3 v_2 h H locs ls hw hl => ?_) _ _ _ hw (lv_sub hl [0, 1, 2, 3] rfl)
  refine lv_iload_n hx hb d_Mo_copies_14 rfl (lv_at hl 0 rfl) ?_
  refine lv_iconst (v := 4) hx hb d_Mo_copies_15 (by decide) ?_
  refine lv_icmp_ge (tgt := 64) hx hb d_Mo_copies_16 (by decide) (fun hc => ?_) (fun hc => ?_)
  · have h := h.1 hc
    subst hQQ
    exact xm_vret hx hb hr hlk hw (v_2.2.1, v_2.2.2.1, v_2.2.2.2.1, v_2.2.2.2.2) rfl rfl h d_Mo_copies_64
  · have h := h.2 hc
    refine lv_aload_n hx hb d_Mo_copies_19 rfl (lv_at hl 1 rfl) ?_
    refine lv_iconst (v := 4) hx hb d_Mo_copies_20 (by decide) ?_
    refine lv_iload_n hx hb d_Mo_copies_21 rfl (lv_at hl 3 rfl) ?_
    refine lv_imul hx hb d_Mo_copies_22 ?_
    refine lv_iload_n hx hb d_Mo_copies_23 rfl (lv_at hl 0 rfl) ?_
    refine lv_iadd hx hb d_Mo_copies_24 ?_
    refine lv_aload_n hx hb d_Mo_copies_25 rfl (lv_at hl 1 rfl) ?_
    refine xm_get (D := D) (v := .ref (ad i_ofAtom)) (C := R_Mo) (T := F_Mo) (N := 28) hx hb hts (fun w h => List.mem_cons_of_mem _ (i_Mo w h)) hown hw (k_M v_2.2.1 v_2.2.2.1 v_2.2.2.2.1 v_2.2.2.2.2) rfl 6 (by decide) (hts _ (List.mem_cons_of_mem _ xw_568)) (fun _ h9 => h9) rfl d_Mo_copies_26 ?_
    refine lv_iconst (v := 4) hx hb d_Mo_copies_29 (by decide) ?_
    refine lv_iload_n hx hb d_Mo_copies_30 rfl (lv_at hl 2 rfl) ?_
    refine lv_imul hx hb d_Mo_copies_31 ?_
    refine lv_iload_n hx hb d_Mo_copies_32 rfl (lv_at hl 0 rfl) ?_
    refine lv_iadd hx hb d_Mo_copies_33 ?_
    obtain ⟨hin, h⟩ := h
    refine xm_iald hx hb hw 0 (k_ofAtom v_2.2.1 v_2.2.2.1 v_2.2.2.2.1 v_2.2.2.2.2) rfl hin d_Mo_copies_34 ?_
    refine lv_aload_n hx hb d_Mo_copies_35 rfl (lv_at hl 1 rfl) ?_
    refine xm_get (D := D) (v := .ref (ad i_left)) (C := R_Mo) (T := F_Mo) (N := 28) hx hb hts (fun w h => List.mem_cons_of_mem _ (i_Mo w h)) hown hw (k_M v_2.2.1 v_2.2.2.1 v_2.2.2.2.1 v_2.2.2.2.2) rfl 7 (by decide) (hts _ (List.mem_cons_of_mem _ xw_569)) (fun _ h9 => h9) rfl d_Mo_copies_36 ?_
    refine lv_iconst (v := 4) hx hb d_Mo_copies_39 (by decide) ?_
    refine lv_iload_n hx hb d_Mo_copies_40 rfl (lv_at hl 2 rfl) ?_
    refine lv_imul hx hb d_Mo_copies_41 ?_
    refine lv_iload_n hx hb d_Mo_copies_42 rfl (lv_at hl 0 rfl) ?_
    refine lv_iadd hx hb d_Mo_copies_43 ?_
    obtain ⟨hin, h⟩ := h
    refine xm_iald hx hb hw 0 (k_left v_2.2.1 v_2.2.2.1 v_2.2.2.2.1 v_2.2.2.2.2) rfl hin d_Mo_copies_44 ?_
    refine lv_aload_n hx hb d_Mo_copies_45 rfl (lv_at hl 1 rfl) ?_
    refine xm_get (D := D) (v := .ref (ad i_right)) (C := R_Mo) (T := F_Mo) (N := 28) hx hb hts (fun w h => List.mem_cons_of_mem _ (i_Mo w h)) hown hw (k_M v_2.2.1 v_2.2.2.1 v_2.2.2.2.1 v_2.2.2.2.2) rfl 8 (by decide) (hts _ (List.mem_cons_of_mem _ xw_570)) (fun _ h9 => h9) rfl d_Mo_copies_46 ?_
    refine lv_iconst (v := 4) hx hb d_Mo_copies_49 (by decide) ?_
    refine lv_iload_n hx hb d_Mo_copies_50 rfl (lv_at hl 2 rfl) ?_
    refine lv_imul hx hb d_Mo_copies_51 ?_
    refine lv_iload_n hx hb d_Mo_copies_52 rfl (lv_at hl 0 rfl) ?_
    refine lv_iadd hx hb d_Mo_copies_53 ?_
    obtain ⟨hin, h⟩ := h
    refine xm_iald hx hb hw 0 (k_right v_2.2.1 v_2.2.2.1 v_2.2.2.2.1 v_2.2.2.2.2) rfl hin d_Mo_copies_54 ?_
    refine xm_callv (ua := fun _ => ad) (va_runV (As := [.int ((4 * p1) + v_2.1), .int (v_2.2.1 (Int32.toNatClampNeg ((4 * p0) + v_2.1))), .int (v_2.2.2.1 (Int32.toNatClampNeg ((4 * p0) + v_2.1))), .int (v_2.2.2.2.1 (Int32.toNatClampNeg ((4 * p0) + v_2.1)))]) (rest := []) ⟨hx, hb, hml, hown, hts⟩ (c_Mo_atom (D := D) (ad := ad) (CE := (fun m_ofAtom m_left m_right => (CE m_ofAtom m_left m_right v_2.2.2.2.2)))  (fun m_ofAtom m_left m_right => k_M m_ofAtom m_left m_right v_2.2.2.2.2) (fun m_ofAtom m_left m_right => k_ofAtom m_ofAtom m_left m_right v_2.2.2.2.2) (fun m_ofAtom m_left m_right => k_left m_ofAtom m_left m_right v_2.2.2.2.2) (fun m_ofAtom m_left m_right => k_right m_ofAtom m_left m_right v_2.2.2.2.2) (fun m_ofAtom m_left m_right m_ofAtom' => u_ofAtom m_ofAtom m_left m_right v_2.2.2.2.2 m_ofAtom') (fun m_ofAtom m_left m_right m_left' => u_left m_ofAtom m_left m_right v_2.2.2.2.2 m_left') (fun m_ofAtom m_left m_right m_right' => u_right m_ofAtom m_left m_right v_2.2.2.2.2 m_right') h _) (xg_cwV 4 hts xw_688 xw_685 xw_687 xw_p26 xw_8 rfl rfl (by decide +kernel) ⟨Nat.le_of_ble_eq_true rfl, Nat.le_of_ble_eq_true rfl⟩) (xm_preV hw (k_M v_2.2.1 v_2.2.2.1 v_2.2.2.2.1 v_2.2.2.2.2) rfl _) rfl rfl hl.1 rfl (lv_room (Nat.le_of_ble_eq_true rfl)) d_Mo_copies_55 ⟨Nat.le_of_ble_eq_true rfl, Nat.le_of_ble_eq_true rfl⟩) hw (fun u_5 H locs h hw => ?_)
    obtain ⟨m_ofAtom_6, em_ofAtom_6⟩ : ∃ z, z = u_5.1 := ⟨_, rfl⟩
    obtain ⟨m_left_7, em_left_7⟩ : ∃ z, z = u_5.2.1 := ⟨_, rfl⟩
    obtain ⟨m_right_8, em_right_8⟩ : ∃ z, z = u_5.2.2 := ⟨_, rfl⟩
    try dsimp only at h hw
    rw [← em_ofAtom_6, ← em_left_7, ← em_right_8] at h hw
    obtain ⟨x_9, ex_9⟩ : ∃ y : Int32, y = v_2.1 + 1 := ⟨_, rfl⟩
    have h := h x_9 ex_9
    refine lv_iinc (v := x_9) (lv' := [(3, .int x_9), (0, .ref (ad iM)), (1, .int p0), (2, .int p1)]) hx hb d_Mo_copies_58 hl (k := 0) rfl (by rw [ex_9]; rfl) (by decide) rfl (fun ls hl => ?_)
    refine lv_goto (tgt := 14) hx hb d_Mo_copies_61 (by decide) ?_
    exact hK_3 (x_9, m_ofAtom_6, m_left_7, m_right_8, v_2.2.2.2.2) h _ _ _ hw (lv_sub hl [0, 1, 2, 3] rfl)
theorem xw_572 : (Jvm.Cond.fieldLink "QuestionDeskModel" (88 : Nat) "QuestionDeskModel" "rules" "I") ∈ xg := xg_t (i := 572) (by decide +kernel) (by decide +kernel)
theorem xw_704 : (Jvm.Cond.code ({ cls := "QuestionDeskModel", name := "copies", desc := "(II)V" } : Jvm.MethodName) prog_6_method_15_code (4 : Nat) (Option.none : Option Jvm.ClassFile.FieldType)) ∈ xg := xg_t (i := 704) (by decide +kernel) (by decide +kernel)
theorem xw_701 : (Jvm.Cond.methodLink "QuestionDeskModel" (94 : Nat) ({ cls := "QuestionDeskModel", name := "copies", desc := "(II)V" } : Jvm.MethodName)) ∈ xg := xg_t (i := 701) (by decide +kernel) (by decide +kernel)
theorem xw_703 : (Jvm.Cond.instanceMethod ({ cls := "QuestionDeskModel", name := "copies", desc := "(II)V" } : Jvm.MethodName)) ∈ xg := xg_t (i := 703) (by decide +kernel) (by decide +kernel)
theorem xw_p28 : Cond.selects "QuestionDeskModel" ⟨"QuestionDeskModel", "copies", "(II)V"⟩ ⟨"QuestionDeskModel", "copies", "(II)V"⟩ ∈ xg := xg_p (q := (⟨"QuestionDeskModel", "copies", "(II)V"⟩, 28)) (i := 28) (by decide +kernel) (by decide +kernel)
theorem xw_700 : (Jvm.Cond.code ({ cls := "QuestionDeskModel", name := "isSafe", desc := "(I)Z" } : Jvm.MethodName) prog_6_method_14_code (4 : Nat) (Option.some Jvm.ClassFile.FieldType.boolean)) ∈ xg := xg_t (i := 700) (by decide +kernel) (by decide +kernel)
theorem xw_697 : (Jvm.Cond.methodLink "QuestionDeskModel" (91 : Nat) ({ cls := "QuestionDeskModel", name := "isSafe", desc := "(I)Z" } : Jvm.MethodName)) ∈ xg := xg_t (i := 697) (by decide +kernel) (by decide +kernel)
theorem xw_699 : (Jvm.Cond.instanceMethod ({ cls := "QuestionDeskModel", name := "isSafe", desc := "(I)Z" } : Jvm.MethodName)) ∈ xg := xg_t (i := 699) (by decide +kernel) (by decide +kernel)
theorem xw_p27 : Cond.selects "QuestionDeskModel" ⟨"QuestionDeskModel", "isSafe", "(I)Z"⟩ ⟨"QuestionDeskModel", "isSafe", "(I)Z"⟩ ∈ xg := xg_p (q := (⟨"QuestionDeskModel", "isSafe", "(I)Z"⟩, 28)) (i := 27) (by decide +kernel) (by decide +kernel)
def wp_Mo_done (post : Int32 → Int32 → (Nat → Int32) → (Nat → Int32) → (Nat → Int32) → (Nat → Int32) → Int32 → Int32 → Prop)  (m_thrown : Int32) (m_ofAtom : Nat → Int32) (m_left : Nat → Int32) (m_right : Nat → Int32) (m_size : Nat → Int32) (m_rules : Int32) (m_begun : Int32) : Prop :=
xj (fun (v_1 : Int32) =>
((v_1 ≤ 0 →
vp_in 30 31 ∧
xj (fun (v_3 : Unit) =>
post (-1) v_1 m_ofAtom m_left m_right m_size m_rules 0) (fun (J_4 : Unit → Prop) =>
(((m_size (Int32.toNatClampNeg 30)) = 0 →
J_4 ()) ∧ (¬ (m_size (Int32.toNatClampNeg 30)) = 0 →
((m_rules = 30 →
J_4 ()) ∧ (¬ m_rules = 30 →
vp_in 120 124 ∧
wp_Mo_isSafe (fun r_5 =>
((r_5 = 0 →
J_4 ()) ∧ (¬ r_5 = 0 →
vp_in 120 124 ∧
wp_Mo_isSafe (fun r_7 =>
((¬ r_7 = 0 →
wp_Mo_copies (fun m_ofAtom_11 m_left_12 m_right_13 m_size_14 =>
post ((m_rules + 1) - 1) v_1 m_ofAtom_11 m_left_12 m_right_13 m_size_14 (m_rules + 1) 0) m_ofAtom m_left m_right m_size 30 m_rules) ∧ (r_7 = 0 →
J_4 ()))) m_left m_right m_size (m_right (Int32.toNatClampNeg 120))))) m_left m_right m_size (m_left (Int32.toNatClampNeg 120)))))))) ∧ (¬ v_1 ≤ 0 →
post 0 v_1 m_ofAtom m_left m_right m_size m_rules m_begun))) (fun (J_2 : Int32 → Prop) =>
((m_begun = 0 →
J_2 1) ∧ (¬ m_begun = 0 →
J_2 0)))
abbrev rm_Mo_done : Room := { frames := 2, cells := 0, slots := 0, locals := 47 }
set_option maxHeartbeats 4000000 in
set_option maxRecDepth 100000 in
theorem c_Mo_done {l : Launch} {D : va_G} {ad : Nat → Nat} (CE : Int32 → (Nat → Int32) → (Nat → Int32) → (Nat → Int32) → (Nat → Int32) → Int32 → Int32 → Nat → Option va_E) {cI cZ cJ cO : ClassId} {iM : Nat} {i_places : Nat} {i_ruled : Nat} {i_told : Nat} {i_model : Nat} {i_ofAtom : Nat} {i_left : Nat} {i_right : Nat} {i_size : Nat} {i_calls : Nat} {i_row : Nat} {i_patterns : Nat} {i_values : Nat} {i_by : Nat} {i_choice : Nat} {m_predicates : Int32} {m_asked : Int32} {m_asksOf : Int32} {m_asksLeft : Int32} {m_asksRight : Int32} {m_hadPredicates : Int32} {m_inRow : Int32} {m_rewritten : Int32} {m_rule : Int32} {m_atoms : Int32} {m_depth : Int32} (k_M : ∀ (m_thrown : Int32) (m_ofAtom : Nat → Int32) (m_left : Nat → Int32) (m_right : Nat → Int32) (m_size : Nat → Int32) (m_rules : Int32) (m_begun : Int32), (CE m_thrown m_ofAtom m_left m_right m_size m_rules m_begun) iM = some (.inr (4, [.int m_thrown, .ref (ad i_places), .ref (ad i_ruled), .int m_predicates, .ref (ad i_told), .ref (ad i_model), .ref (ad i_ofAtom), .ref (ad i_left), .ref (ad i_right), .ref (ad i_size), .int m_rules, .int m_begun, .int m_asked, .int m_asksOf, .int m_asksLeft, .int m_asksRight, .int m_hadPredicates, .ref (ad i_calls), .ref (ad i_row), .int m_inRow, .ref (ad i_patterns), .int m_rewritten, .ref (ad i_values), .ref (ad i_by), .ref (ad i_choice), .int m_rule, .int m_atoms, .int m_depth]))) (k_ofAtom : ∀ (m_thrown : Int32) (m_ofAtom : Nat → Int32) (m_left : Nat → Int32) (m_right : Nat → Int32) (m_size : Nat → Int32) (m_rules : Int32) (m_begun : Int32), (CE m_thrown m_ofAtom m_left m_right m_size m_rules m_begun) i_ofAtom = some (.inl (cI, 124, .inl m_ofAtom))) (k_left : ∀ (m_thrown : Int32) (m_ofAtom : Nat → Int32) (m_left : Nat → Int32) (m_right : Nat → Int32) (m_size : Nat → Int32) (m_rules : Int32) (m_begun : Int32), (CE m_thrown m_ofAtom m_left m_right m_size m_rules m_begun) i_left = some (.inl (cI, 124, .inl m_left))) (k_right : ∀ (m_thrown : Int32) (m_ofAtom : Nat → Int32) (m_left : Nat → Int32) (m_right : Nat → Int32) (m_size : Nat → Int32) (m_rules : Int32) (m_begun : Int32), (CE m_thrown m_ofAtom m_left m_right m_size m_rules m_begun) i_right = some (.inl (cI, 124, .inl m_right))) (k_size : ∀ (m_thrown : Int32) (m_ofAtom : Nat → Int32) (m_left : Nat → Int32) (m_right : Nat → Int32) (m_size : Nat → Int32) (m_rules : Int32) (m_begun : Int32), (CE m_thrown m_ofAtom m_left m_right m_size m_rules m_begun) i_size = some (.inl (cI, 31, .inl m_size))) (u_M : ∀ (m_thrown : Int32) (m_ofAtom : Nat → Int32) (m_left : Nat → Int32) (m_right : Nat → Int32) (m_size : Nat → Int32) (m_rules : Int32) (m_begun : Int32) (m_thrown' : Int32) (m_rules' : Int32) (m_begun' : Int32), va_up (CE m_thrown m_ofAtom m_left m_right m_size m_rules m_begun) iM (some (.inr (4, [.int m_thrown', .ref (ad i_places), .ref (ad i_ruled), .int m_predicates, .ref (ad i_told), .ref (ad i_model), .ref (ad i_ofAtom), .ref (ad i_left), .ref (ad i_right), .ref (ad i_size), .int m_rules', .int m_begun', .int m_asked, .int m_asksOf, .int m_asksLeft, .int m_asksRight, .int m_hadPredicates, .ref (ad i_calls), .ref (ad i_row), .int m_inRow, .ref (ad i_patterns), .int m_rewritten, .ref (ad i_values), .ref (ad i_by), .ref (ad i_choice), .int m_rule, .int m_atoms, .int m_depth]))) = (CE m_thrown' m_ofAtom m_left m_right m_size m_rules' m_begun')) (u_ofAtom : ∀ (m_thrown : Int32) (m_ofAtom : Nat → Int32) (m_left : Nat → Int32) (m_right : Nat → Int32) (m_size : Nat → Int32) (m_rules : Int32) (m_begun : Int32) (m_ofAtom' : Nat → Int32), va_up (CE m_thrown m_ofAtom m_left m_right m_size m_rules m_begun) i_ofAtom (some (.inl (cI, 124, .inl m_ofAtom'))) = (CE m_thrown m_ofAtom' m_left m_right m_size m_rules m_begun)) (u_left : ∀ (m_thrown : Int32) (m_ofAtom : Nat → Int32) (m_left : Nat → Int32) (m_right : Nat → Int32) (m_size : Nat → Int32) (m_rules : Int32) (m_begun : Int32) (m_left' : Nat → Int32), va_up (CE m_thrown m_ofAtom m_left m_right m_size m_rules m_begun) i_left (some (.inl (cI, 124, .inl m_left'))) = (CE m_thrown m_ofAtom m_left' m_right m_size m_rules m_begun)) (u_right : ∀ (m_thrown : Int32) (m_ofAtom : Nat → Int32) (m_left : Nat → Int32) (m_right : Nat → Int32) (m_size : Nat → Int32) (m_rules : Int32) (m_begun : Int32) (m_right' : Nat → Int32), va_up (CE m_thrown m_ofAtom m_left m_right m_size m_rules m_begun) i_right (some (.inl (cI, 124, .inl m_right'))) = (CE m_thrown m_ofAtom m_left m_right' m_size m_rules m_begun)) (u_size : ∀ (m_thrown : Int32) (m_ofAtom : Nat → Int32) (m_left : Nat → Int32) (m_right : Nat → Int32) (m_size : Nat → Int32) (m_rules : Int32) (m_begun : Int32) (m_size' : Nat → Int32), va_up (CE m_thrown m_ofAtom m_left m_right m_size m_rules m_begun) i_size (some (.inl (cI, 31, .inl m_size'))) = (CE m_thrown m_ofAtom m_left m_right m_size' m_rules m_begun)) {post : Int32 → Int32 → (Nat → Int32) → (Nat → Int32) → (Nat → Int32) → (Nat → Int32) → Int32 → Int32 → Prop} {m_thrown : Int32} {m_ofAtom : Nat → Int32} {m_left : Nat → Int32} {m_right : Nat → Int32} {m_size : Nat → Int32} {m_rules : Int32} {m_begun : Int32} (h : wp_Mo_done post m_thrown m_ofAtom m_left m_right m_size m_rules m_begun) : ∀ sz, Met l y_Mo_done (Cond.code y_Mo_done b_Mo_done 1 (some .int) :: xg) rm_Mo_done (xm_Pc D xcl (xT cI cZ cJ cO) ad (CE m_thrown m_ofAtom m_left m_right m_size m_rules m_begun) sz [.ref (ad iM)]) (va_Qi (fun (r : Int32) (u : Int32 × (Nat → Int32) × (Nat → Int32) × (Nat → Int32) × (Nat → Int32) × Int32 × Int32) => post r u.1 u.2.1 u.2.2.1 u.2.2.2.1 u.2.2.2.2.1 u.2.2.2.2.2.1 u.2.2.2.2.2.2) (xm_B D xcl (xT cI cZ cJ cO) (xm_A ad (CE m_thrown m_ofAtom m_left m_right m_size m_rules m_begun) sz) (fun _ => ad) (fun u : Int32 × (Nat → Int32) × (Nat → Int32) × (Nat → Int32) × (Nat → Int32) × Int32 × Int32 => CE u.1 u.2.1 u.2.2.1 u.2.2.2.1 u.2.2.2.2.1 u.2.2.2.2.2.1 u.2.2.2.2.2.2)) (xm_A ad (CE m_thrown m_ofAtom m_left m_right m_size m_rules m_begun) sz)) 0 0 (xm_A ad (CE m_thrown m_ofAtom m_left m_right m_size m_rules m_begun) sz) := by
  refine xm_ofW (cc := b_Mo_done) (maxL := 1) (ret := (some .int)) (by decide) rfl (Nat.le_of_ble_eq_true rfl) ?_
  intro p e s m args below meth c ls QQ hQQ hx hb hml hr hown hlk hnm hts hl hw
  have hl : lv_has ls 1 [(0, .ref (ad iM))] := hl
  unfold wp_Mo_done at h
  refine lv_aload_n hx hb d_Mo_done_0 rfl (lv_at hl 0 rfl) ?_
  refine lv_aload_n hx hb d_Mo_done_1 rfl (lv_at hl 0 rfl) ?_
  refine xm_get (D := D) (v := .int m_begun) (C := R_Mo) (T := F_Mo) (N := 28) hx hb hts (fun w h => List.mem_cons_of_mem _ (i_Mo w h)) hown hw (k_M m_thrown m_ofAtom m_left m_right m_size m_rules m_begun) rfl 11 (by decide) (hts _ (List.mem_cons_of_mem _ xw_573)) (fun _ h9 => h9) rfl d_Mo_done_2 ?_
  refine xj_use h (fun (v_1 : Int32) => ∀ (H : Heap) (locs : List Loc) (ls : Array Slot), xm_W D xcl (xT cI cZ cJ cO) (xm_A ad (CE m_thrown m_ofAtom m_left m_right m_size m_rules m_begun) s.heap.size) ad (CE m_thrown m_ofAtom m_left m_right m_size m_rules m_begun) s s.heap H locs → lv_has ls 1 [(0, .ref (ad iM))] → W p l e rm_Mo_done s m args below meth c H locs 0 0 QQ (F0 m 13 ls [.int v_1, .ref (ad iM)])) (fun v_1 h H locs ls hw hl => ?_) (fun J_2 hJ_2 h => ?_)
  · refine xm_put (D := D) (v := .int v_1) (ty := .int) (C := R_Mo) (T := F_Mo) (N := 28) hx hb hts (fun w h => List.mem_cons_of_mem _ (i_Mo w h)) t_Mo o_Mo n_Mo hown hw (k_M m_thrown m_ofAtom m_left m_right m_size m_rules m_begun) rfl 0 (by decide) (hts _ (List.mem_cons_of_mem _ xw_562)) (fun _ h9 => h9) rfl (by decide +kernel) rfl rfl (Nat.le_of_ble_eq_true rfl) d_Mo_done_13 (fun H locs hw => ?_)
    have hw : xm_W D xcl (xT cI cZ cJ cO) (xm_A ad (CE m_thrown m_ofAtom m_left m_right m_size m_rules m_begun) s.heap.size) ad (CE v_1 m_ofAtom m_left m_right m_size m_rules m_begun) s s.heap H locs := xm_W.cast (u_M m_thrown m_ofAtom m_left m_right m_size m_rules m_begun v_1 m_rules m_begun) hw
    refine lv_aload_n hx hb d_Mo_done_16 rfl (lv_at hl 0 rfl) ?_
    refine xm_get (D := D) (v := .int v_1) (C := R_Mo) (T := F_Mo) (N := 28) hx hb hts (fun w h => List.mem_cons_of_mem _ (i_Mo w h)) hown hw (k_M v_1 m_ofAtom m_left m_right m_size m_rules m_begun) rfl 0 (by decide) (hts _ (List.mem_cons_of_mem _ xw_562)) (fun _ h9 => h9) rfl d_Mo_done_17 ?_
    refine lv_if_le (tgt := 25) hx hb d_Mo_done_20 (by decide) (fun hc => ?_) (fun hc => ?_)
    · have h := h.1 hc
      refine lv_aload_n hx hb d_Mo_done_25 rfl (lv_at hl 0 rfl) ?_
      refine lv_iconst (v := 0) hx hb d_Mo_done_26 (by decide) ?_
      refine xm_put (D := D) (v := .int 0) (ty := .boolean) (C := R_Mo) (T := F_Mo) (N := 28) hx hb hts (fun w h => List.mem_cons_of_mem _ (i_Mo w h)) t_Mo o_Mo n_Mo hown hw (k_M v_1 m_ofAtom m_left m_right m_size m_rules m_begun) rfl 11 (by decide) (hts _ (List.mem_cons_of_mem _ xw_573)) (fun _ h9 => h9) rfl (by decide +kernel) rfl rfl (Nat.le_of_ble_eq_true rfl) d_Mo_done_27 (fun H locs hw => ?_)
      have hw : xm_W D xcl (xT cI cZ cJ cO) (xm_A ad (CE m_thrown m_ofAtom m_left m_right m_size m_rules m_begun) s.heap.size) ad (CE v_1 m_ofAtom m_left m_right m_size m_rules 0) s s.heap H locs := xm_W.cast (u_M v_1 m_ofAtom m_left m_right m_size m_rules m_begun v_1 m_rules 0) hw
      refine lv_aload_n hx hb d_Mo_done_30 rfl (lv_at hl 0 rfl) ?_
      refine xm_get (D := D) (v := .ref (ad i_size)) (C := R_Mo) (T := F_Mo) (N := 28) hx hb hts (fun w h => List.mem_cons_of_mem _ (i_Mo w h)) hown hw (k_M v_1 m_ofAtom m_left m_right m_size m_rules 0) rfl 9 (by decide) (hts _ (List.mem_cons_of_mem _ xw_571)) (fun _ h9 => h9) rfl d_Mo_done_31 ?_
      refine lv_bipush (v := 30) hx hb d_Mo_done_34 (by decide) ?_
      obtain ⟨hin, h⟩ := h
      refine xm_iald hx hb hw 0 (k_size v_1 m_ofAtom m_left m_right m_size m_rules 0) rfl hin d_Mo_done_36 ?_
      refine xj_use h (fun (v_3 : Unit) => ∀ (H : Heap) (locs : List Loc) (ls : Array Slot), xm_W D xcl (xT cI cZ cJ cO) (xm_A ad (CE m_thrown m_ofAtom m_left m_right m_size m_rules m_begun) s.heap.size) ad (CE v_1 m_ofAtom m_left m_right m_size m_rules 0) s s.heap H locs → lv_has ls 1 [] → W p l e rm_Mo_done s m args below meth c H locs 0 0 QQ (F0 m 77 ls [])) (fun v_3 h H locs ls hw hl => ?_) (fun J_4 hJ_4 h => ?_)
      · refine lv_iconst (v := (-1)) hx hb d_Mo_done_77 (by decide) ?_
        subst hQQ
        exact xm_iret hx hb hr hlk hw (v_1, m_ofAtom, m_left, m_right, m_size, m_rules, 0) rfl rfl h d_Mo_done_78
      · refine lv_if_eq (tgt := 77) hx hb d_Mo_done_37 (by decide) (fun hc => ?_) (fun hc => ?_)
        · have h := h.1 hc
          exact hJ_4 () h _ _ _ hw (lv_sub hl [] rfl)
        · have h := h.2 hc
          refine lv_aload_n hx hb d_Mo_done_40 rfl (lv_at hl 0 rfl) ?_
          refine xm_get (D := D) (v := .int m_rules) (C := R_Mo) (T := F_Mo) (N := 28) hx hb hts (fun w h => List.mem_cons_of_mem _ (i_Mo w h)) hown hw (k_M v_1 m_ofAtom m_left m_right m_size m_rules 0) rfl 10 (by decide) (hts _ (List.mem_cons_of_mem _ xw_572)) (fun _ h9 => h9) rfl d_Mo_done_41 ?_
          refine lv_bipush (v := 30) hx hb d_Mo_done_44 (by decide) ?_
          refine lv_icmp_eq (tgt := 77) hx hb d_Mo_done_46 (by decide) (fun hc => ?_) (fun hc => ?_)
          · have h := h.1 hc
            exact hJ_4 () h _ _ _ hw (lv_sub hl [] rfl)
          · have h := h.2 hc
            refine lv_aload_n hx hb d_Mo_done_49 rfl (lv_at hl 0 rfl) ?_
            refine lv_aload_n hx hb d_Mo_done_50 rfl (lv_at hl 0 rfl) ?_
            refine xm_get (D := D) (v := .ref (ad i_left)) (C := R_Mo) (T := F_Mo) (N := 28) hx hb hts (fun w h => List.mem_cons_of_mem _ (i_Mo w h)) hown hw (k_M v_1 m_ofAtom m_left m_right m_size m_rules 0) rfl 7 (by decide) (hts _ (List.mem_cons_of_mem _ xw_569)) (fun _ h9 => h9) rfl d_Mo_done_51 ?_
            refine lv_bipush (v := 120) hx hb d_Mo_done_54 (by decide) ?_
            obtain ⟨hin, h⟩ := h
            refine xm_iald hx hb hw 0 (k_left v_1 m_ofAtom m_left m_right m_size m_rules 0) rfl hin d_Mo_done_56 ?_
            refine xm_calli (ua := fun _ => ad) (va_runV (As := [.int (m_left (Int32.toNatClampNeg 120))]) (rest := []) ⟨hx, hb, hml, hown, hts⟩ (c_Mo_isSafe (D := D) (ad := ad) (CE := ((CE v_1 m_ofAtom m_left m_right m_size m_rules 0)))  (k_M v_1 m_ofAtom m_left m_right m_size m_rules 0) (k_left v_1 m_ofAtom m_left m_right m_size m_rules 0) (k_right v_1 m_ofAtom m_left m_right m_size m_rules 0) (k_size v_1 m_ofAtom m_left m_right m_size m_rules 0) h _) (xg_cwV 1 hts xw_700 xw_697 xw_699 xw_p27 xw_8 rfl rfl (by decide +kernel) ⟨Nat.le_of_ble_eq_true rfl, Nat.le_of_ble_eq_true rfl⟩) (xm_preV hw (k_M v_1 m_ofAtom m_left m_right m_size m_rules 0) rfl _) rfl rfl hl.1 rfl (lv_room (Nat.le_of_ble_eq_true rfl)) d_Mo_done_57 ⟨Nat.le_of_ble_eq_true rfl, Nat.le_of_ble_eq_true rfl⟩) hw (fun r_5 _ H locs h hw => ?_)
            refine lv_if_eq (tgt := 77) hx hb d_Mo_done_60 (by decide) (fun hc => ?_) (fun hc => ?_)
            · have h := h.1 hc
              exact hJ_4 () h _ _ _ hw (lv_sub hl [] rfl)
            · have h := h.2 hc
              refine lv_aload_n hx hb d_Mo_done_63 rfl (lv_at hl 0 rfl) ?_
              refine lv_aload_n hx hb d_Mo_done_64 rfl (lv_at hl 0 rfl) ?_
              refine xm_get (D := D) (v := .ref (ad i_right)) (C := R_Mo) (T := F_Mo) (N := 28) hx hb hts (fun w h => List.mem_cons_of_mem _ (i_Mo w h)) hown hw (k_M v_1 m_ofAtom m_left m_right m_size m_rules 0) rfl 8 (by decide) (hts _ (List.mem_cons_of_mem _ xw_570)) (fun _ h9 => h9) rfl d_Mo_done_65 ?_
              refine lv_bipush (v := 120) hx hb d_Mo_done_68 (by decide) ?_
              obtain ⟨hin, h⟩ := h
              refine xm_iald hx hb hw 0 (k_right v_1 m_ofAtom m_left m_right m_size m_rules 0) rfl hin d_Mo_done_70 ?_
              refine xm_calli (ua := fun _ => ad) (va_runV (As := [.int (m_right (Int32.toNatClampNeg 120))]) (rest := []) ⟨hx, hb, hml, hown, hts⟩ (c_Mo_isSafe (D := D) (ad := ad) (CE := ((CE v_1 m_ofAtom m_left m_right m_size m_rules 0)))  (k_M v_1 m_ofAtom m_left m_right m_size m_rules 0) (k_left v_1 m_ofAtom m_left m_right m_size m_rules 0) (k_right v_1 m_ofAtom m_left m_right m_size m_rules 0) (k_size v_1 m_ofAtom m_left m_right m_size m_rules 0) h _) (xg_cwV 1 hts xw_700 xw_697 xw_699 xw_p27 xw_8 rfl rfl (by decide +kernel) ⟨Nat.le_of_ble_eq_true rfl, Nat.le_of_ble_eq_true rfl⟩) (xm_preV hw (k_M v_1 m_ofAtom m_left m_right m_size m_rules 0) rfl _) rfl rfl hl.1 rfl (lv_room (Nat.le_of_ble_eq_true rfl)) d_Mo_done_71 ⟨Nat.le_of_ble_eq_true rfl, Nat.le_of_ble_eq_true rfl⟩) hw (fun r_7 _ H locs h hw => ?_)
              refine lv_if_ne (tgt := 79) hx hb d_Mo_done_74 (by decide) (fun hc => ?_) (fun hc => ?_)
              · have h := h.1 hc
                refine lv_aload_n hx hb d_Mo_done_79 rfl (lv_at hl 0 rfl) ?_
                refine lv_bipush (v := 30) hx hb d_Mo_done_80 (by decide) ?_
                refine lv_aload_n hx hb d_Mo_done_82 rfl (lv_at hl 0 rfl) ?_
                refine xm_get (D := D) (v := .int m_rules) (C := R_Mo) (T := F_Mo) (N := 28) hx hb hts (fun w h => List.mem_cons_of_mem _ (i_Mo w h)) hown hw (k_M v_1 m_ofAtom m_left m_right m_size m_rules 0) rfl 10 (by decide) (hts _ (List.mem_cons_of_mem _ xw_572)) (fun _ h9 => h9) rfl d_Mo_done_83 ?_
                refine xm_callv (ua := fun _ => ad) (va_runV (As := [.int 30, .int m_rules]) (rest := []) ⟨hx, hb, hml, hown, hts⟩ (c_Mo_copies (D := D) (ad := ad) (CE := (fun m_ofAtom m_left m_right m_size => (CE v_1 m_ofAtom m_left m_right m_size m_rules 0)))  (fun m_ofAtom m_left m_right m_size => k_M v_1 m_ofAtom m_left m_right m_size m_rules 0) (fun m_ofAtom m_left m_right m_size => k_ofAtom v_1 m_ofAtom m_left m_right m_size m_rules 0) (fun m_ofAtom m_left m_right m_size => k_left v_1 m_ofAtom m_left m_right m_size m_rules 0) (fun m_ofAtom m_left m_right m_size => k_right v_1 m_ofAtom m_left m_right m_size m_rules 0) (fun m_ofAtom m_left m_right m_size => k_size v_1 m_ofAtom m_left m_right m_size m_rules 0) (fun m_ofAtom m_left m_right m_size m_ofAtom' => u_ofAtom v_1 m_ofAtom m_left m_right m_size m_rules 0 m_ofAtom') (fun m_ofAtom m_left m_right m_size m_left' => u_left v_1 m_ofAtom m_left m_right m_size m_rules 0 m_left') (fun m_ofAtom m_left m_right m_size m_right' => u_right v_1 m_ofAtom m_left m_right m_size m_rules 0 m_right') (fun m_ofAtom m_left m_right m_size m_size' => u_size v_1 m_ofAtom m_left m_right m_size m_rules 0 m_size') h _) (xg_cwV 2 hts xw_704 xw_701 xw_703 xw_p28 xw_8 rfl rfl (by decide +kernel) ⟨Nat.le_of_ble_eq_true rfl, Nat.le_of_ble_eq_true rfl⟩) (xm_preV hw (k_M v_1 m_ofAtom m_left m_right m_size m_rules 0) rfl _) rfl rfl hl.1 rfl (lv_room (Nat.le_of_ble_eq_true rfl)) d_Mo_done_86 ⟨Nat.le_of_ble_eq_true rfl, Nat.le_of_ble_eq_true rfl⟩) hw (fun u_10 H locs h hw => ?_)
                obtain ⟨m_ofAtom_11, em_ofAtom_11⟩ : ∃ z, z = u_10.1 := ⟨_, rfl⟩
                obtain ⟨m_left_12, em_left_12⟩ : ∃ z, z = u_10.2.1 := ⟨_, rfl⟩
                obtain ⟨m_right_13, em_right_13⟩ : ∃ z, z = u_10.2.2.1 := ⟨_, rfl⟩
                obtain ⟨m_size_14, em_size_14⟩ : ∃ z, z = u_10.2.2.2 := ⟨_, rfl⟩
                try dsimp only at h hw
                rw [← em_ofAtom_11, ← em_left_12, ← em_right_13, ← em_size_14] at h hw
                refine lv_aload_n hx hb d_Mo_done_89 rfl (lv_at hl 0 rfl) ?_
                refine lv_dup hx hb d_Mo_done_90 rfl ?_
                refine xm_get (D := D) (v := .int m_rules) (C := R_Mo) (T := F_Mo) (N := 28) hx hb hts (fun w h => List.mem_cons_of_mem _ (i_Mo w h)) hown hw (k_M v_1 m_ofAtom_11 m_left_12 m_right_13 m_size_14 m_rules 0) rfl 10 (by decide) (hts _ (List.mem_cons_of_mem _ xw_572)) (fun _ h9 => h9) rfl d_Mo_done_91 ?_
                refine lv_iconst (v := 1) hx hb d_Mo_done_94 (by decide) ?_
                refine lv_iadd hx hb d_Mo_done_95 ?_
                refine xm_put (D := D) (v := .int (m_rules + 1)) (ty := .int) (C := R_Mo) (T := F_Mo) (N := 28) hx hb hts (fun w h => List.mem_cons_of_mem _ (i_Mo w h)) t_Mo o_Mo n_Mo hown hw (k_M v_1 m_ofAtom_11 m_left_12 m_right_13 m_size_14 m_rules 0) rfl 10 (by decide) (hts _ (List.mem_cons_of_mem _ xw_572)) (fun _ h9 => h9) rfl (by decide +kernel) rfl rfl (Nat.le_of_ble_eq_true rfl) d_Mo_done_96 (fun H locs hw => ?_)
                have hw : xm_W D xcl (xT cI cZ cJ cO) (xm_A ad (CE m_thrown m_ofAtom m_left m_right m_size m_rules m_begun) s.heap.size) ad (CE v_1 m_ofAtom_11 m_left_12 m_right_13 m_size_14 (m_rules + 1) 0) s s.heap H locs := xm_W.cast (u_M v_1 m_ofAtom_11 m_left_12 m_right_13 m_size_14 m_rules 0 v_1 (m_rules + 1) 0) hw
                refine lv_aload_n hx hb d_Mo_done_99 rfl (lv_at hl 0 rfl) ?_
                refine xm_get (D := D) (v := .int (m_rules + 1)) (C := R_Mo) (T := F_Mo) (N := 28) hx hb hts (fun w h => List.mem_cons_of_mem _ (i_Mo w h)) hown hw (k_M v_1 m_ofAtom_11 m_left_12 m_right_13 m_size_14 (m_rules + 1) 0) rfl 10 (by decide) (hts _ (List.mem_cons_of_mem _ xw_572)) (fun _ h9 => h9) rfl d_Mo_done_100 ?_
                refine lv_iconst (v := 1) hx hb d_Mo_done_103 (by decide) ?_
                refine lv_isub hx hb d_Mo_done_104 ?_
                subst hQQ
                exact xm_iret hx hb hr hlk hw (v_1, m_ofAtom_11, m_left_12, m_right_13, m_size_14, m_rules + 1, 0) rfl rfl h d_Mo_done_105
              · have h := h.2 hc
                exact hJ_4 () h _ _ _ hw (lv_sub hl [] rfl)
    · have h := h.2 hc
      refine lv_iconst (v := 0) hx hb d_Mo_done_23 (by decide) ?_
      subst hQQ
      exact xm_iret hx hb hr hlk hw (v_1, m_ofAtom, m_left, m_right, m_size, m_rules, m_begun) rfl rfl h d_Mo_done_24
  · refine lv_if_eq (tgt := 12) hx hb d_Mo_done_5 (by decide) (fun hc => ?_) (fun hc => ?_)
    · have h := h.1 hc
      refine lv_iconst (v := 1) hx hb d_Mo_done_12 (by decide) ?_
      exact hJ_2 1 h _ _ _ hw (lv_sub hl [0] rfl)
    · have h := h.2 hc
      refine lv_iconst (v := 0) hx hb d_Mo_done_8 (by decide) ?_
      refine lv_goto (tgt := 13) hx hb d_Mo_done_9 (by decide) ?_
      exact hJ_2 0 h _ _ _ hw (lv_sub hl [0] rfl)
def wp_Mo_take (post : Int32 → Int32 → (Nat → Int32) → (Nat → Int32) → (Nat → Int32) → (Nat → Int32) → Int32 → Prop)  (m_thrown : Int32) (m_ofAtom : Nat → Int32) (m_left : Nat → Int32) (m_right : Nat → Int32) (m_size : Nat → Int32) (m_rules : Int32) (p0 : Int32) : Prop :=
wp_Mo_in (fun r_1 =>
((¬ r_1 = 0 →
xL (fun (K_4 : Int32 × Int32 × (Nat → Int32) × (Nat → Int32) × (Nat → Int32) × (Nat → Int32) × Int32 → Prop) (v_3 : Int32 × Int32 × (Nat → Int32) × (Nat → Int32) × (Nat → Int32) × (Nat → Int32) × Int32) =>
((v_3.2.2.2.2.2.2 ≤ v_3.1 →
post 1 v_3.2.1 v_3.2.2.1 v_3.2.2.2.1 v_3.2.2.2.2.1 v_3.2.2.2.2.2.1 v_3.2.2.2.2.2.2) ∧ (¬ v_3.2.2.2.2.2.2 ≤ v_3.1 →
wp_Mo_copies (fun m_ofAtom_7 m_left_8 m_right_9 m_size_10 =>
∀ x_11 : Int32, x_11 = v_3.1 + 1 →
K_4 (x_11, v_3.2.1, m_ofAtom_7, m_left_8, m_right_9, m_size_10, v_3.2.2.2.2.2.2)) v_3.2.2.1 v_3.2.2.2.1 v_3.2.2.2.2.1 v_3.2.2.2.2.2.1 (v_3.1 + 1) v_3.1))) (p0, 0, m_ofAtom, m_left, m_right, m_size, m_rules - 1)) ∧ (r_1 = 0 →
post 0 0 m_ofAtom m_left m_right m_size m_rules))) p0 0 (m_rules - 1)
abbrev rm_Mo_take : Room := { frames := 2, cells := 0, slots := 0, locals := 47 }
set_option maxHeartbeats 4000000 in
set_option maxRecDepth 100000 in
theorem c_Mo_take {l : Launch} {D : va_G} {ad : Nat → Nat} (CE : Int32 → (Nat → Int32) → (Nat → Int32) → (Nat → Int32) → (Nat → Int32) → Int32 → Nat → Option va_E) {cI cZ cJ cO : ClassId} {iM : Nat} {i_places : Nat} {i_ruled : Nat} {i_told : Nat} {i_model : Nat} {i_ofAtom : Nat} {i_left : Nat} {i_right : Nat} {i_size : Nat} {i_calls : Nat} {i_row : Nat} {i_patterns : Nat} {i_values : Nat} {i_by : Nat} {i_choice : Nat} {m_predicates : Int32} {m_begun : Int32} {m_asked : Int32} {m_asksOf : Int32} {m_asksLeft : Int32} {m_asksRight : Int32} {m_hadPredicates : Int32} {m_inRow : Int32} {m_rewritten : Int32} {m_rule : Int32} {m_atoms : Int32} {m_depth : Int32} (k_M : ∀ (m_thrown : Int32) (m_ofAtom : Nat → Int32) (m_left : Nat → Int32) (m_right : Nat → Int32) (m_size : Nat → Int32) (m_rules : Int32), (CE m_thrown m_ofAtom m_left m_right m_size m_rules) iM = some (.inr (4, [.int m_thrown, .ref (ad i_places), .ref (ad i_ruled), .int m_predicates, .ref (ad i_told), .ref (ad i_model), .ref (ad i_ofAtom), .ref (ad i_left), .ref (ad i_right), .ref (ad i_size), .int m_rules, .int m_begun, .int m_asked, .int m_asksOf, .int m_asksLeft, .int m_asksRight, .int m_hadPredicates, .ref (ad i_calls), .ref (ad i_row), .int m_inRow, .ref (ad i_patterns), .int m_rewritten, .ref (ad i_values), .ref (ad i_by), .ref (ad i_choice), .int m_rule, .int m_atoms, .int m_depth]))) (k_ofAtom : ∀ (m_thrown : Int32) (m_ofAtom : Nat → Int32) (m_left : Nat → Int32) (m_right : Nat → Int32) (m_size : Nat → Int32) (m_rules : Int32), (CE m_thrown m_ofAtom m_left m_right m_size m_rules) i_ofAtom = some (.inl (cI, 124, .inl m_ofAtom))) (k_left : ∀ (m_thrown : Int32) (m_ofAtom : Nat → Int32) (m_left : Nat → Int32) (m_right : Nat → Int32) (m_size : Nat → Int32) (m_rules : Int32), (CE m_thrown m_ofAtom m_left m_right m_size m_rules) i_left = some (.inl (cI, 124, .inl m_left))) (k_right : ∀ (m_thrown : Int32) (m_ofAtom : Nat → Int32) (m_left : Nat → Int32) (m_right : Nat → Int32) (m_size : Nat → Int32) (m_rules : Int32), (CE m_thrown m_ofAtom m_left m_right m_size m_rules) i_right = some (.inl (cI, 124, .inl m_right))) (k_size : ∀ (m_thrown : Int32) (m_ofAtom : Nat → Int32) (m_left : Nat → Int32) (m_right : Nat → Int32) (m_size : Nat → Int32) (m_rules : Int32), (CE m_thrown m_ofAtom m_left m_right m_size m_rules) i_size = some (.inl (cI, 31, .inl m_size))) (u_M : ∀ (m_thrown : Int32) (m_ofAtom : Nat → Int32) (m_left : Nat → Int32) (m_right : Nat → Int32) (m_size : Nat → Int32) (m_rules : Int32) (m_thrown' : Int32) (m_rules' : Int32), va_up (CE m_thrown m_ofAtom m_left m_right m_size m_rules) iM (some (.inr (4, [.int m_thrown', .ref (ad i_places), .ref (ad i_ruled), .int m_predicates, .ref (ad i_told), .ref (ad i_model), .ref (ad i_ofAtom), .ref (ad i_left), .ref (ad i_right), .ref (ad i_size), .int m_rules', .int m_begun, .int m_asked, .int m_asksOf, .int m_asksLeft, .int m_asksRight, .int m_hadPredicates, .ref (ad i_calls), .ref (ad i_row), .int m_inRow, .ref (ad i_patterns), .int m_rewritten, .ref (ad i_values), .ref (ad i_by), .ref (ad i_choice), .int m_rule, .int m_atoms, .int m_depth]))) = (CE m_thrown' m_ofAtom m_left m_right m_size m_rules')) (u_ofAtom : ∀ (m_thrown : Int32) (m_ofAtom : Nat → Int32) (m_left : Nat → Int32) (m_right : Nat → Int32) (m_size : Nat → Int32) (m_rules : Int32) (m_ofAtom' : Nat → Int32), va_up (CE m_thrown m_ofAtom m_left m_right m_size m_rules) i_ofAtom (some (.inl (cI, 124, .inl m_ofAtom'))) = (CE m_thrown m_ofAtom' m_left m_right m_size m_rules)) (u_left : ∀ (m_thrown : Int32) (m_ofAtom : Nat → Int32) (m_left : Nat → Int32) (m_right : Nat → Int32) (m_size : Nat → Int32) (m_rules : Int32) (m_left' : Nat → Int32), va_up (CE m_thrown m_ofAtom m_left m_right m_size m_rules) i_left (some (.inl (cI, 124, .inl m_left'))) = (CE m_thrown m_ofAtom m_left' m_right m_size m_rules)) (u_right : ∀ (m_thrown : Int32) (m_ofAtom : Nat → Int32) (m_left : Nat → Int32) (m_right : Nat → Int32) (m_size : Nat → Int32) (m_rules : Int32) (m_right' : Nat → Int32), va_up (CE m_thrown m_ofAtom m_left m_right m_size m_rules) i_right (some (.inl (cI, 124, .inl m_right'))) = (CE m_thrown m_ofAtom m_left m_right' m_size m_rules)) (u_size : ∀ (m_thrown : Int32) (m_ofAtom : Nat → Int32) (m_left : Nat → Int32) (m_right : Nat → Int32) (m_size : Nat → Int32) (m_rules : Int32) (m_size' : Nat → Int32), va_up (CE m_thrown m_ofAtom m_left m_right m_size m_rules) i_size (some (.inl (cI, 31, .inl m_size'))) = (CE m_thrown m_ofAtom m_left m_right m_size' m_rules)) {post : Int32 → Int32 → (Nat → Int32) → (Nat → Int32) → (Nat → Int32) → (Nat → Int32) → Int32 → Prop} {m_thrown : Int32} {m_ofAtom : Nat → Int32} {m_left : Nat → Int32} {m_right : Nat → Int32} {m_size : Nat → Int32} {m_rules : Int32} {p0 : Int32} (h : wp_Mo_take post m_thrown m_ofAtom m_left m_right m_size m_rules p0) : ∀ sz, Met l y_Mo_take (Cond.code y_Mo_take b_Mo_take 3 (some .boolean) :: xg) rm_Mo_take (xm_Pc D xcl (xT cI cZ cJ cO) ad (CE m_thrown m_ofAtom m_left m_right m_size m_rules) sz [.ref (ad iM), .int p0]) (va_Qi (fun (r : Int32) (u : Int32 × (Nat → Int32) × (Nat → Int32) × (Nat → Int32) × (Nat → Int32) × Int32) => post r u.1 u.2.1 u.2.2.1 u.2.2.2.1 u.2.2.2.2.1 u.2.2.2.2.2) (xm_B D xcl (xT cI cZ cJ cO) (xm_A ad (CE m_thrown m_ofAtom m_left m_right m_size m_rules) sz) (fun _ => ad) (fun u : Int32 × (Nat → Int32) × (Nat → Int32) × (Nat → Int32) × (Nat → Int32) × Int32 => CE u.1 u.2.1 u.2.2.1 u.2.2.2.1 u.2.2.2.2.1 u.2.2.2.2.2)) (xm_A ad (CE m_thrown m_ofAtom m_left m_right m_size m_rules) sz)) 0 0 (xm_A ad (CE m_thrown m_ofAtom m_left m_right m_size m_rules) sz) := by
  refine xm_ofW (cc := b_Mo_take) (maxL := 3) (ret := (some .boolean)) (by decide) rfl (Nat.le_of_ble_eq_true rfl) ?_
  intro p e s m args below meth c ls QQ hQQ hx hb hml hr hown hlk hnm hts hl hw
  have hl : lv_has ls 3 [(0, .ref (ad iM)), (1, .int p0)] := hl
  unfold wp_Mo_take at h
  refine lv_aload_n hx hb d_Mo_take_0 rfl (lv_at hl 0 rfl) ?_
  refine lv_iconst (v := 0) hx hb d_Mo_take_1 (by decide) ?_
  refine xm_put (D := D) (v := .int 0) (ty := .int) (C := R_Mo) (T := F_Mo) (N := 28) hx hb hts (fun w h => List.mem_cons_of_mem _ (i_Mo w h)) t_Mo o_Mo n_Mo hown hw (k_M m_thrown m_ofAtom m_left m_right m_size m_rules) rfl 0 (by decide) (hts _ (List.mem_cons_of_mem _ xw_562)) (fun _ h9 => h9) rfl (by decide +kernel) rfl rfl (Nat.le_of_ble_eq_true rfl) d_Mo_take_2 (fun H locs hw => ?_)
  have hw : xm_W D xcl (xT cI cZ cJ cO) (xm_A ad (CE m_thrown m_ofAtom m_left m_right m_size m_rules) s.heap.size) ad (CE 0 m_ofAtom m_left m_right m_size m_rules) s s.heap H locs := xm_W.cast (u_M m_thrown m_ofAtom m_left m_right m_size m_rules 0 m_rules) hw
  refine lv_iload_n hx hb d_Mo_take_5 rfl (lv_at hl 1 rfl) ?_
  refine lv_iconst (v := 0) hx hb d_Mo_take_6 (by decide) ?_
  refine lv_aload_n hx hb d_Mo_take_7 rfl (lv_at hl 0 rfl) ?_
  refine xm_get (D := D) (v := .int m_rules) (C := R_Mo) (T := F_Mo) (N := 28) hx hb hts (fun w h => List.mem_cons_of_mem _ (i_Mo w h)) hown hw (k_M 0 m_ofAtom m_left m_right m_size m_rules) rfl 10 (by decide) (hts _ (List.mem_cons_of_mem _ xw_572)) (fun _ h9 => h9) rfl d_Mo_take_8 ?_
  refine lv_iconst (v := 1) hx hb d_Mo_take_11 (by decide) ?_
  refine lv_isub hx hb d_Mo_take_12 ?_
  refine xm_calli (ua := fun _ => ad) (va_runS (As := [.int p0, .int 0, .int (m_rules - 1)]) (rest := []) ⟨hx, hb, hml, hown, hts⟩ (c_Mo_in (D := D) (ad := ad) (CE := ((CE 0 m_ofAtom m_left m_right m_size m_rules)))   h _) (xg_cwS 3 hts xw_657 xw_655 xw_656 xw_8 rfl rfl (by decide +kernel) ⟨Nat.le_of_ble_eq_true rfl, Nat.le_of_ble_eq_true rfl⟩) (xm_pre hw _) rfl rfl hl.1 rfl (lv_room (Nat.le_of_ble_eq_true rfl)) d_Mo_take_13 ⟨Nat.le_of_ble_eq_true rfl, Nat.le_of_ble_eq_true rfl⟩) hw (fun r_1 _ H locs h hw => ?_)
  refine lv_if_ne (tgt := 21) hx hb d_Mo_take_16 (by decide) (fun hc => ?_) (fun hc => ?_)
  · have h := h.1 hc
    refine lv_aload_n hx hb d_Mo_take_21 rfl (lv_at hl 0 rfl) ?_
    refine lv_dup hx hb d_Mo_take_22 rfl ?_
    refine xm_get (D := D) (v := .int m_rules) (C := R_Mo) (T := F_Mo) (N := 28) hx hb hts (fun w h => List.mem_cons_of_mem _ (i_Mo w h)) hown hw (k_M 0 m_ofAtom m_left m_right m_size m_rules) rfl 10 (by decide) (hts _ (List.mem_cons_of_mem _ xw_572)) (fun _ h9 => h9) rfl d_Mo_take_23 ?_
    refine lv_iconst (v := 1) hx hb d_Mo_take_26 (by decide) ?_
    refine lv_isub hx hb d_Mo_take_27 ?_
    refine xm_put (D := D) (v := .int (m_rules - 1)) (ty := .int) (C := R_Mo) (T := F_Mo) (N := 28) hx hb hts (fun w h => List.mem_cons_of_mem _ (i_Mo w h)) t_Mo o_Mo n_Mo hown hw (k_M 0 m_ofAtom m_left m_right m_size m_rules) rfl 10 (by decide) (hts _ (List.mem_cons_of_mem _ xw_572)) (fun _ h9 => h9) rfl (by decide +kernel) rfl rfl (Nat.le_of_ble_eq_true rfl) d_Mo_take_28 (fun H locs hw => ?_)
    have hw : xm_W D xcl (xT cI cZ cJ cO) (xm_A ad (CE m_thrown m_ofAtom m_left m_right m_size m_rules) s.heap.size) ad (CE 0 m_ofAtom m_left m_right m_size (m_rules - 1)) s s.heap H locs := xm_W.cast (u_M 0 m_ofAtom m_left m_right m_size m_rules 0 (m_rules - 1)) hw
    refine lv_iload_n hx hb d_Mo_take_31 rfl (lv_at hl 1 rfl) ?_
    refine lv_istore_n (lv' := [(2, .int p0), (0, .ref (ad iM)), (1, .int p0)]) hx hb d_Mo_take_32 rfl hl (by decide) rfl (fun ls hl => ?_)
    refine xL_use h (fun (v_3 : Int32 × Int32 × (Nat → Int32) × (Nat → Int32) × (Nat → Int32) × (Nat → Int32) × Int32) => ∀ (H : Heap) (locs : List Loc) (ls : Array Slot), xm_W D xcl (xT cI cZ cJ cO) (xm_A ad (CE m_thrown m_ofAtom m_left m_right m_size m_rules) s.heap.size) ad (CE v_3.2.1 v_3.2.2.1 v_3.2.2.2.1 v_3.2.2.2.2.1 v_3.2.2.2.2.2.1 v_3.2.2.2.2.2.2) s s.heap H locs → lv_has ls 3 [(2, .int v_3.1), (0, .ref (ad iM))] → W p l e rm_Mo_take s m args below meth c H locs 0 0 QQ (F0 m 33 ls [])) (fun K_4 hK_4 v_3 h H locs ls hw hl => ?_) _ _ _ hw (lv_sub hl [0, 1] rfl)
    refine lv_iload_n hx hb d_Mo_take_33 rfl (lv_at hl 0 rfl) ?_
    refine lv_aload_n hx hb d_Mo_take_34 rfl (lv_at hl 1 rfl) ?_
    refine xm_get (D := D) (v := .int v_3.2.2.2.2.2.2) (C := R_Mo) (T := F_Mo) (N := 28) hx hb hts (fun w h => List.mem_cons_of_mem _ (i_Mo w h)) hown hw (k_M v_3.2.1 v_3.2.2.1 v_3.2.2.2.1 v_3.2.2.2.2.1 v_3.2.2.2.2.2.1 v_3.2.2.2.2.2.2) rfl 10 (by decide) (hts _ (List.mem_cons_of_mem _ xw_572)) (fun _ h9 => h9) rfl d_Mo_take_35 ?_
    refine lv_icmp_ge (tgt := 55) hx hb d_Mo_take_38 (by decide) (fun hc => ?_) (fun hc => ?_)
    · have h := h.1 hc
      refine lv_iconst (v := 1) hx hb d_Mo_take_55 (by decide) ?_
      subst hQQ
      exact xm_zret hx hb hr hlk rfl hw (v_3.2.1, v_3.2.2.1, v_3.2.2.2.1, v_3.2.2.2.2.1, v_3.2.2.2.2.2.1, v_3.2.2.2.2.2.2) rfl rfl h d_Mo_take_56
    · have h := h.2 hc
      refine lv_aload_n hx hb d_Mo_take_41 rfl (lv_at hl 1 rfl) ?_
      refine lv_iload_n hx hb d_Mo_take_42 rfl (lv_at hl 0 rfl) ?_
      refine lv_iconst (v := 1) hx hb d_Mo_take_43 (by decide) ?_
      refine lv_iadd hx hb d_Mo_take_44 ?_
      refine lv_iload_n hx hb d_Mo_take_45 rfl (lv_at hl 0 rfl) ?_
      refine xm_callv (ua := fun _ => ad) (va_runV (As := [.int (v_3.1 + 1), .int v_3.1]) (rest := []) ⟨hx, hb, hml, hown, hts⟩ (c_Mo_copies (D := D) (ad := ad) (CE := (fun m_ofAtom m_left m_right m_size => (CE v_3.2.1 m_ofAtom m_left m_right m_size v_3.2.2.2.2.2.2)))  (fun m_ofAtom m_left m_right m_size => k_M v_3.2.1 m_ofAtom m_left m_right m_size v_3.2.2.2.2.2.2) (fun m_ofAtom m_left m_right m_size => k_ofAtom v_3.2.1 m_ofAtom m_left m_right m_size v_3.2.2.2.2.2.2) (fun m_ofAtom m_left m_right m_size => k_left v_3.2.1 m_ofAtom m_left m_right m_size v_3.2.2.2.2.2.2) (fun m_ofAtom m_left m_right m_size => k_right v_3.2.1 m_ofAtom m_left m_right m_size v_3.2.2.2.2.2.2) (fun m_ofAtom m_left m_right m_size => k_size v_3.2.1 m_ofAtom m_left m_right m_size v_3.2.2.2.2.2.2) (fun m_ofAtom m_left m_right m_size m_ofAtom' => u_ofAtom v_3.2.1 m_ofAtom m_left m_right m_size v_3.2.2.2.2.2.2 m_ofAtom') (fun m_ofAtom m_left m_right m_size m_left' => u_left v_3.2.1 m_ofAtom m_left m_right m_size v_3.2.2.2.2.2.2 m_left') (fun m_ofAtom m_left m_right m_size m_right' => u_right v_3.2.1 m_ofAtom m_left m_right m_size v_3.2.2.2.2.2.2 m_right') (fun m_ofAtom m_left m_right m_size m_size' => u_size v_3.2.1 m_ofAtom m_left m_right m_size v_3.2.2.2.2.2.2 m_size') h _) (xg_cwV 2 hts xw_704 xw_701 xw_703 xw_p28 xw_8 rfl rfl (by decide +kernel) ⟨Nat.le_of_ble_eq_true rfl, Nat.le_of_ble_eq_true rfl⟩) (xm_preV hw (k_M v_3.2.1 v_3.2.2.1 v_3.2.2.2.1 v_3.2.2.2.2.1 v_3.2.2.2.2.2.1 v_3.2.2.2.2.2.2) rfl _) rfl rfl hl.1 rfl (lv_room (Nat.le_of_ble_eq_true rfl)) d_Mo_take_46 ⟨Nat.le_of_ble_eq_true rfl, Nat.le_of_ble_eq_true rfl⟩) hw (fun u_6 H locs h hw => ?_)
      obtain ⟨m_ofAtom_7, em_ofAtom_7⟩ : ∃ z, z = u_6.1 := ⟨_, rfl⟩
      obtain ⟨m_left_8, em_left_8⟩ : ∃ z, z = u_6.2.1 := ⟨_, rfl⟩
      obtain ⟨m_right_9, em_right_9⟩ : ∃ z, z = u_6.2.2.1 := ⟨_, rfl⟩
      obtain ⟨m_size_10, em_size_10⟩ : ∃ z, z = u_6.2.2.2 := ⟨_, rfl⟩
      try dsimp only at h hw
      rw [← em_ofAtom_7, ← em_left_8, ← em_right_9, ← em_size_10] at h hw
      obtain ⟨x_11, ex_11⟩ : ∃ y : Int32, y = v_3.1 + 1 := ⟨_, rfl⟩
      have h := h x_11 ex_11
      refine lv_iinc (v := x_11) (lv' := [(2, .int x_11), (0, .ref (ad iM))]) hx hb d_Mo_take_49 hl (k := 0) rfl (by rw [ex_11]; rfl) (by decide) rfl (fun ls hl => ?_)
      refine lv_goto (tgt := 33) hx hb d_Mo_take_52 (by decide) ?_
      exact hK_4 (x_11, v_3.2.1, m_ofAtom_7, m_left_8, m_right_9, m_size_10, v_3.2.2.2.2.2.2) h _ _ _ hw (lv_sub hl [0, 1] rfl)
  · have h := h.2 hc
    refine lv_iconst (v := 0) hx hb d_Mo_take_19 (by decide) ?_
    subst hQQ
    exact xm_zret hx hb hr hlk rfl hw (0, m_ofAtom, m_left, m_right, m_size, m_rules) rfl rfl h d_Mo_take_20
theorem xw_585 : (Jvm.Cond.fieldLink "QuestionDeskModel" (47 : Nat) "QuestionDeskModel" "by" "[I") ∈ xg := xg_t (i := 585) (by decide +kernel) (by decide +kernel)
theorem xw_584 : (Jvm.Cond.fieldLink "QuestionDeskModel" (44 : Nat) "QuestionDeskModel" "values" "[I") ∈ xg := xg_t (i := 584) (by decide +kernel) (by decide +kernel)
def wp_Mo_frees (post : (Nat → Int32) → (Nat → Int32) → Prop)  (m_values : Nat → Int32) (m_by : Nat → Int32) (p0 : Int32) : Prop :=
xL (fun (K_2 : Int32 × (Nat → Int32) × (Nat → Int32) → Prop) (v_1 : Int32 × (Nat → Int32) × (Nat → Int32)) =>
((8 ≤ v_1.1 →
post v_1.2.1 v_1.2.2) ∧ (¬ 8 ≤ v_1.1 →
vp_in v_1.1 8 ∧
xj (fun (v_3 : (Nat → Int32) × (Nat → Int32)) =>
∀ x_5 : Int32, x_5 = v_1.1 + 1 →
K_2 (x_5, v_3.1, v_3.2)) (fun (J_4 : (Nat → Int32) × (Nat → Int32) → Prop) =>
((¬ (v_1.2.2 (Int32.toNatClampNeg v_1.1)) = p0 →
J_4 (v_1.2.1, v_1.2.2)) ∧ ((v_1.2.2 (Int32.toNatClampNeg v_1.1)) = p0 →
vp_in v_1.1 8 ∧
∀ m_values_6 : Nat → Int32, m_values_6 = upd v_1.2.1 (Int32.toNatClampNeg v_1.1) (-1) →
vp_in v_1.1 8 ∧
∀ m_by_7 : Nat → Int32, m_by_7 = upd v_1.2.2 (Int32.toNatClampNeg v_1.1) (-1) →
J_4 (m_values_6, m_by_7))))))) (0, m_values, m_by)
abbrev rm_Mo_frees : Room := { frames := 0, cells := 0, slots := 0, locals := 0 }
set_option maxHeartbeats 4000000 in
set_option maxRecDepth 100000 in
theorem c_Mo_frees {l : Launch} {D : va_G} {ad : Nat → Nat} (CE : (Nat → Int32) → (Nat → Int32) → Nat → Option va_E) {cI cZ cJ cO : ClassId} {iM : Nat} {i_places : Nat} {i_ruled : Nat} {i_told : Nat} {i_model : Nat} {i_ofAtom : Nat} {i_left : Nat} {i_right : Nat} {i_size : Nat} {i_calls : Nat} {i_row : Nat} {i_patterns : Nat} {i_values : Nat} {i_by : Nat} {i_choice : Nat} {m_thrown : Int32} {m_predicates : Int32} {m_rules : Int32} {m_begun : Int32} {m_asked : Int32} {m_asksOf : Int32} {m_asksLeft : Int32} {m_asksRight : Int32} {m_hadPredicates : Int32} {m_inRow : Int32} {m_rewritten : Int32} {m_rule : Int32} {m_atoms : Int32} {m_depth : Int32} (k_M : ∀ (m_values : Nat → Int32) (m_by : Nat → Int32), (CE m_values m_by) iM = some (.inr (4, [.int m_thrown, .ref (ad i_places), .ref (ad i_ruled), .int m_predicates, .ref (ad i_told), .ref (ad i_model), .ref (ad i_ofAtom), .ref (ad i_left), .ref (ad i_right), .ref (ad i_size), .int m_rules, .int m_begun, .int m_asked, .int m_asksOf, .int m_asksLeft, .int m_asksRight, .int m_hadPredicates, .ref (ad i_calls), .ref (ad i_row), .int m_inRow, .ref (ad i_patterns), .int m_rewritten, .ref (ad i_values), .ref (ad i_by), .ref (ad i_choice), .int m_rule, .int m_atoms, .int m_depth]))) (k_values : ∀ (m_values : Nat → Int32) (m_by : Nat → Int32), (CE m_values m_by) i_values = some (.inl (cI, 8, .inl m_values))) (k_by : ∀ (m_values : Nat → Int32) (m_by : Nat → Int32), (CE m_values m_by) i_by = some (.inl (cI, 8, .inl m_by))) (u_values : ∀ (m_values : Nat → Int32) (m_by : Nat → Int32) (m_values' : Nat → Int32), va_up (CE m_values m_by) i_values (some (.inl (cI, 8, .inl m_values'))) = (CE m_values' m_by)) (u_by : ∀ (m_values : Nat → Int32) (m_by : Nat → Int32) (m_by' : Nat → Int32), va_up (CE m_values m_by) i_by (some (.inl (cI, 8, .inl m_by'))) = (CE m_values m_by')) {post : (Nat → Int32) → (Nat → Int32) → Prop} {m_values : Nat → Int32} {m_by : Nat → Int32} {p0 : Int32} (h : wp_Mo_frees post m_values m_by p0) : ∀ sz, Met l y_Mo_frees (Cond.code y_Mo_frees b_Mo_frees 3 none :: xg) rm_Mo_frees (xm_Pc D xcl (xT cI cZ cJ cO) ad (CE m_values m_by) sz [.ref (ad iM), .int p0]) (va_Qv (fun u : (Nat → Int32) × (Nat → Int32) => post u.1 u.2) (xm_B D xcl (xT cI cZ cJ cO) (xm_A ad (CE m_values m_by) sz) (fun _ => ad) (fun u : (Nat → Int32) × (Nat → Int32) => CE u.1 u.2)) (xm_A ad (CE m_values m_by) sz)) 0 0 (xm_A ad (CE m_values m_by) sz) := by
  refine xm_ofW (cc := b_Mo_frees) (maxL := 3) (ret := none) (by decide) rfl (Nat.le_of_ble_eq_true rfl) ?_
  intro p e s m args below meth c ls QQ hQQ hx hb hml hr hown hlk hnm hts hl hw
  have hl : lv_has ls 3 [(0, .ref (ad iM)), (1, .int p0)] := hl
  unfold wp_Mo_frees at h
  refine lv_iconst (v := 0) hx hb d_Mo_frees_0 (by decide) ?_
  refine lv_istore_n (lv' := [(2, .int 0), (0, .ref (ad iM)), (1, .int p0)]) hx hb d_Mo_frees_1 rfl hl (by decide) rfl (fun ls hl => ?_)
  refine xL_use h (fun (v_1 : Int32 × (Nat → Int32) × (Nat → Int32)) => ∀ (H : Heap) (locs : List Loc) (ls : Array Slot), xm_W D xcl (xT cI cZ cJ cO) (xm_A ad (CE m_values m_by) s.heap.size) ad (CE v_1.2.1 v_1.2.2) s s.heap H locs → lv_has ls 3 [(2, .int v_1.1), (0, .ref (ad iM)), (1, .int p0)] → W p l e rm_Mo_frees s m args below meth c H locs 0 0 QQ (F0 m 2 ls [])) (fun K_2 hK_2 v_1 h H locs ls hw hl => ?_) _ _ _ hw (lv_sub hl [0, 1, 2] rfl)
  refine lv_iload_n hx hb d_Mo_frees_2 rfl (lv_at hl 0 rfl) ?_
  refine lv_bipush (v := 8) hx hb d_Mo_frees_3 (by decide) ?_
  refine lv_icmp_ge (tgt := 38) hx hb d_Mo_frees_5 (by decide) (fun hc => ?_) (fun hc => ?_)
  · have h := h.1 hc
    subst hQQ
    exact xm_vret hx hb hr hlk hw (v_1.2.1, v_1.2.2) rfl rfl h d_Mo_frees_38
  · have h := h.2 hc
    refine lv_aload_n hx hb d_Mo_frees_8 rfl (lv_at hl 1 rfl) ?_
    refine xm_get (D := D) (v := .ref (ad i_by)) (C := R_Mo) (T := F_Mo) (N := 28) hx hb hts (fun w h => List.mem_cons_of_mem _ (i_Mo w h)) hown hw (k_M v_1.2.1 v_1.2.2) rfl 23 (by decide) (hts _ (List.mem_cons_of_mem _ xw_585)) (fun _ h9 => h9) rfl d_Mo_frees_9 ?_
    refine lv_iload_n hx hb d_Mo_frees_12 rfl (lv_at hl 0 rfl) ?_
    obtain ⟨hin, h⟩ := h
    refine xm_iald hx hb hw 0 (k_by v_1.2.1 v_1.2.2) rfl hin d_Mo_frees_13 ?_
    refine lv_iload_n hx hb d_Mo_frees_14 rfl (lv_at hl 2 rfl) ?_
    refine xj_use h (fun (v_3 : (Nat → Int32) × (Nat → Int32)) => ∀ (H : Heap) (locs : List Loc) (ls : Array Slot), xm_W D xcl (xT cI cZ cJ cO) (xm_A ad (CE m_values m_by) s.heap.size) ad (CE v_3.1 v_3.2) s s.heap H locs → lv_has ls 3 [(0, .ref (ad iM)), (1, .int p0), (2, .int v_1.1)] → W p l e rm_Mo_frees s m args below meth c H locs 0 0 QQ (F0 m 32 ls [])) (fun v_3 h H locs ls hw hl => ?_) (fun J_4 hJ_4 h => ?_)
    · obtain ⟨x_5, ex_5⟩ : ∃ y : Int32, y = v_1.1 + 1 := ⟨_, rfl⟩
      have h := h x_5 ex_5
      refine lv_iinc (v := x_5) (lv' := [(2, .int x_5), (0, .ref (ad iM)), (1, .int p0)]) hx hb d_Mo_frees_32 hl (k := 2) rfl (by rw [ex_5]; rfl) (by decide) rfl (fun ls hl => ?_)
      refine lv_goto (tgt := 2) hx hb d_Mo_frees_35 (by decide) ?_
      exact hK_2 (x_5, v_3.1, v_3.2) h _ _ _ hw (lv_sub hl [0, 1, 2] rfl)
    · refine lv_icmp_ne (tgt := 32) hx hb d_Mo_frees_15 (by decide) (fun hc => ?_) (fun hc => ?_)
      · have h := h.1 hc
        exact hJ_4 (v_1.2.1, v_1.2.2) h _ _ _ hw (lv_sub hl [1, 2, 0] rfl)
      · have h := h.2 hc
        refine lv_aload_n hx hb d_Mo_frees_18 rfl (lv_at hl 1 rfl) ?_
        refine xm_get (D := D) (v := .ref (ad i_values)) (C := R_Mo) (T := F_Mo) (N := 28) hx hb hts (fun w h => List.mem_cons_of_mem _ (i_Mo w h)) hown hw (k_M v_1.2.1 v_1.2.2) rfl 22 (by decide) (hts _ (List.mem_cons_of_mem _ xw_584)) (fun _ h9 => h9) rfl d_Mo_frees_19 ?_
        refine lv_iload_n hx hb d_Mo_frees_22 rfl (lv_at hl 0 rfl) ?_
        refine lv_iconst (v := (-1)) hx hb d_Mo_frees_23 (by decide) ?_
        obtain ⟨hin, h⟩ := h
        refine xm_iast hx hb hw 0 (k_values v_1.2.1 v_1.2.2) rfl hin d_Mo_frees_24 (fun H locs hw => ?_)
        have hw : xm_W D xcl (xT cI cZ cJ cO) (xm_A ad (CE m_values m_by) s.heap.size) ad (CE (upd v_1.2.1 (Int32.toNatClampNeg v_1.1) (-1)) v_1.2.2) s s.heap H locs := xm_W.cast (u_values v_1.2.1 v_1.2.2 (upd v_1.2.1 (Int32.toNatClampNeg v_1.1) (-1))) hw
        obtain ⟨m_values_6, em_values_6⟩ : ∃ z : Nat → Int32, z = upd v_1.2.1 (Int32.toNatClampNeg v_1.1) (-1) := ⟨_, rfl⟩
        have h := h m_values_6 em_values_6
        rw [← em_values_6] at hw
        refine lv_aload_n hx hb d_Mo_frees_25 rfl (lv_at hl 1 rfl) ?_
        refine xm_get (D := D) (v := .ref (ad i_by)) (C := R_Mo) (T := F_Mo) (N := 28) hx hb hts (fun w h => List.mem_cons_of_mem _ (i_Mo w h)) hown hw (k_M m_values_6 v_1.2.2) rfl 23 (by decide) (hts _ (List.mem_cons_of_mem _ xw_585)) (fun _ h9 => h9) rfl d_Mo_frees_26 ?_
        refine lv_iload_n hx hb d_Mo_frees_29 rfl (lv_at hl 0 rfl) ?_
        refine lv_iconst (v := (-1)) hx hb d_Mo_frees_30 (by decide) ?_
        obtain ⟨hin, h⟩ := h
        refine xm_iast hx hb hw 0 (k_by m_values_6 v_1.2.2) rfl hin d_Mo_frees_31 (fun H locs hw => ?_)
        have hw : xm_W D xcl (xT cI cZ cJ cO) (xm_A ad (CE m_values m_by) s.heap.size) ad (CE m_values_6 (upd v_1.2.2 (Int32.toNatClampNeg v_1.1) (-1))) s s.heap H locs := xm_W.cast (u_by m_values_6 v_1.2.2 (upd v_1.2.2 (Int32.toNatClampNeg v_1.1) (-1))) hw
        obtain ⟨m_by_7, em_by_7⟩ : ∃ z : Nat → Int32, z = upd v_1.2.2 (Int32.toNatClampNeg v_1.1) (-1) := ⟨_, rfl⟩
        have h := h m_by_7 em_by_7
        rw [← em_by_7] at hw
        exact hJ_4 (m_values_6, m_by_7) h _ _ _ hw (lv_sub hl [1, 2, 0] rfl)
def wp_Mo_takes (post : Int32 → (Nat → Int32) → (Nat → Int32) → Prop)  (m_values : Nat → Int32) (m_by : Nat → Int32) (p0 : Int32) (p1 : Int32) (p2 : Int32) : Prop :=
((10 ≤ p0 →
∀ x_1 : Int32, x_1 = p0 - 10 →
vp_in x_1 8 ∧
xj (fun (v_2 : (Nat → Int32) × (Nat → Int32)) =>
vp_in x_1 8 ∧
xj (fun (v_4 : Int32) =>
(narrow .boolean (.int v_4) = .int v_4 ∧ post v_4 v_2.1 v_2.2)) (fun (J_5 : Int32 → Prop) =>
((¬ (v_2.1 (Int32.toNatClampNeg x_1)) = p1 →
J_5 0) ∧ ((v_2.1 (Int32.toNatClampNeg x_1)) = p1 →
J_5 1)))) (fun (J_3 : (Nat → Int32) × (Nat → Int32) → Prop) =>
((¬ (m_values (Int32.toNatClampNeg x_1)) = (-1) →
J_3 (m_values, m_by)) ∧ ((m_values (Int32.toNatClampNeg x_1)) = (-1) →
vp_in x_1 8 ∧
∀ m_values_6 : Nat → Int32, m_values_6 = upd m_values (Int32.toNatClampNeg x_1) p1 →
vp_in x_1 8 ∧
∀ m_by_7 : Nat → Int32, m_by_7 = upd m_by (Int32.toNatClampNeg x_1) p2 →
J_3 (m_values_6, m_by_7))))) ∧ (¬ 10 ≤ p0 →
xj (fun (v_8 : Int32) =>
(narrow .boolean (.int v_8) = .int v_8 ∧ post v_8 m_values m_by)) (fun (J_9 : Int32 → Prop) =>
xj (fun (v_10 : Unit) =>
J_9 1) (fun (J_11 : Unit → Prop) =>
((p0 < 0 →
J_11 ()) ∧ (¬ p0 < 0 →
((¬ p0 = p1 →
J_9 0) ∧ (p0 = p1 →
J_11 ()))))))))
abbrev rm_Mo_takes : Room := { frames := 0, cells := 0, slots := 0, locals := 0 }
set_option maxHeartbeats 4000000 in
set_option maxRecDepth 100000 in
theorem c_Mo_takes {l : Launch} {D : va_G} {ad : Nat → Nat} (CE : (Nat → Int32) → (Nat → Int32) → Nat → Option va_E) {cI cZ cJ cO : ClassId} {iM : Nat} {i_places : Nat} {i_ruled : Nat} {i_told : Nat} {i_model : Nat} {i_ofAtom : Nat} {i_left : Nat} {i_right : Nat} {i_size : Nat} {i_calls : Nat} {i_row : Nat} {i_patterns : Nat} {i_values : Nat} {i_by : Nat} {i_choice : Nat} {m_thrown : Int32} {m_predicates : Int32} {m_rules : Int32} {m_begun : Int32} {m_asked : Int32} {m_asksOf : Int32} {m_asksLeft : Int32} {m_asksRight : Int32} {m_hadPredicates : Int32} {m_inRow : Int32} {m_rewritten : Int32} {m_rule : Int32} {m_atoms : Int32} {m_depth : Int32} (k_M : ∀ (m_values : Nat → Int32) (m_by : Nat → Int32), (CE m_values m_by) iM = some (.inr (4, [.int m_thrown, .ref (ad i_places), .ref (ad i_ruled), .int m_predicates, .ref (ad i_told), .ref (ad i_model), .ref (ad i_ofAtom), .ref (ad i_left), .ref (ad i_right), .ref (ad i_size), .int m_rules, .int m_begun, .int m_asked, .int m_asksOf, .int m_asksLeft, .int m_asksRight, .int m_hadPredicates, .ref (ad i_calls), .ref (ad i_row), .int m_inRow, .ref (ad i_patterns), .int m_rewritten, .ref (ad i_values), .ref (ad i_by), .ref (ad i_choice), .int m_rule, .int m_atoms, .int m_depth]))) (k_values : ∀ (m_values : Nat → Int32) (m_by : Nat → Int32), (CE m_values m_by) i_values = some (.inl (cI, 8, .inl m_values))) (k_by : ∀ (m_values : Nat → Int32) (m_by : Nat → Int32), (CE m_values m_by) i_by = some (.inl (cI, 8, .inl m_by))) (u_values : ∀ (m_values : Nat → Int32) (m_by : Nat → Int32) (m_values' : Nat → Int32), va_up (CE m_values m_by) i_values (some (.inl (cI, 8, .inl m_values'))) = (CE m_values' m_by)) (u_by : ∀ (m_values : Nat → Int32) (m_by : Nat → Int32) (m_by' : Nat → Int32), va_up (CE m_values m_by) i_by (some (.inl (cI, 8, .inl m_by'))) = (CE m_values m_by')) {post : Int32 → (Nat → Int32) → (Nat → Int32) → Prop} {m_values : Nat → Int32} {m_by : Nat → Int32} {p0 : Int32} {p1 : Int32} {p2 : Int32} (h : wp_Mo_takes post m_values m_by p0 p1 p2) : ∀ sz, Met l y_Mo_takes (Cond.code y_Mo_takes b_Mo_takes 5 (some .boolean) :: xg) rm_Mo_takes (xm_Pc D xcl (xT cI cZ cJ cO) ad (CE m_values m_by) sz [.ref (ad iM), .int p0, .int p1, .int p2]) (va_Qi (fun (r : Int32) (u : (Nat → Int32) × (Nat → Int32)) => post r u.1 u.2) (xm_B D xcl (xT cI cZ cJ cO) (xm_A ad (CE m_values m_by) sz) (fun _ => ad) (fun u : (Nat → Int32) × (Nat → Int32) => CE u.1 u.2)) (xm_A ad (CE m_values m_by) sz)) 0 0 (xm_A ad (CE m_values m_by) sz) := by
  refine xm_ofW (cc := b_Mo_takes) (maxL := 5) (ret := (some .boolean)) (by decide) rfl (Nat.le_of_ble_eq_true rfl) ?_
  intro p e s m args below meth c ls QQ hQQ hx hb hml hr hown hlk hnm hts hl hw
  have hl : lv_has ls 5 [(0, .ref (ad iM)), (1, .int p0), (2, .int p1), (3, .int p2)] := hl
  unfold wp_Mo_takes at h
  refine lv_iload_n hx hb d_Mo_takes_0 rfl (lv_at hl 1 rfl) ?_
  refine lv_bipush (v := 10) hx hb d_Mo_takes_1 (by decide) ?_
  refine lv_icmp_ge (tgt := 21) hx hb d_Mo_takes_3 (by decide) (fun hc => ?_) (fun hc => ?_)
  · have h := h.1 hc
    refine lv_iload_n hx hb d_Mo_takes_21 rfl (lv_at hl 1 rfl) ?_
    refine lv_bipush (v := 10) hx hb d_Mo_takes_22 (by decide) ?_
    refine lv_isub hx hb d_Mo_takes_24 ?_
    refine lv_topi (fun x_1 ex_1 => ?_)
    have h := h x_1 ex_1
    refine lv_istore (lv' := [(4, .int x_1), (0, .ref (ad iM)), (1, .int p0), (2, .int p1), (3, .int p2)]) hx hb d_Mo_takes_25 hl (by decide) rfl (fun ls hl => ?_)
    refine lv_aload_n hx hb d_Mo_takes_27 rfl (lv_at hl 1 rfl) ?_
    refine xm_get (D := D) (v := .ref (ad i_values)) (C := R_Mo) (T := F_Mo) (N := 28) hx hb hts (fun w h => List.mem_cons_of_mem _ (i_Mo w h)) hown hw (k_M m_values m_by) rfl 22 (by decide) (hts _ (List.mem_cons_of_mem _ xw_584)) (fun _ h9 => h9) rfl d_Mo_takes_28 ?_
    refine lv_iload hx hb d_Mo_takes_31 (lv_at hl 0 rfl) ?_
    obtain ⟨hin, h⟩ := h
    refine xm_iald hx hb hw 0 (k_values m_values m_by) rfl hin d_Mo_takes_33 ?_
    refine lv_iconst (v := (-1)) hx hb d_Mo_takes_34 (by decide) ?_
    refine xj_use h (fun (v_2 : (Nat → Int32) × (Nat → Int32)) => ∀ (H : Heap) (locs : List Loc) (ls : Array Slot), xm_W D xcl (xT cI cZ cJ cO) (xm_A ad (CE m_values m_by) s.heap.size) ad (CE v_2.1 v_2.2) s s.heap H locs → lv_has ls 5 [(0, .ref (ad iM)), (2, .int p1), (4, .int x_1)] → W p l e rm_Mo_takes s m args below meth c H locs 0 0 QQ (F0 m 54 ls [])) (fun v_2 h H locs ls hw hl => ?_) (fun J_3 hJ_3 h => ?_)
    · refine lv_aload_n hx hb d_Mo_takes_54 rfl (lv_at hl 0 rfl) ?_
      refine xm_get (D := D) (v := .ref (ad i_values)) (C := R_Mo) (T := F_Mo) (N := 28) hx hb hts (fun w h => List.mem_cons_of_mem _ (i_Mo w h)) hown hw (k_M v_2.1 v_2.2) rfl 22 (by decide) (hts _ (List.mem_cons_of_mem _ xw_584)) (fun _ h9 => h9) rfl d_Mo_takes_55 ?_
      refine lv_iload hx hb d_Mo_takes_58 (lv_at hl 2 rfl) ?_
      obtain ⟨hin, h⟩ := h
      refine xm_iald hx hb hw 0 (k_values v_2.1 v_2.2) rfl hin d_Mo_takes_60 ?_
      refine lv_iload_n hx hb d_Mo_takes_61 rfl (lv_at hl 1 rfl) ?_
      refine xj_use h (fun (v_4 : Int32) => ∀ (H : Heap) (locs : List Loc) (ls : Array Slot), xm_W D xcl (xT cI cZ cJ cO) (xm_A ad (CE m_values m_by) s.heap.size) ad (CE v_2.1 v_2.2) s s.heap H locs → lv_has ls 5 [] → W p l e rm_Mo_takes s m args below meth c H locs 0 0 QQ (F0 m 70 ls [.int v_4])) (fun v_4 h H locs ls hw hl => ?_) (fun J_5 hJ_5 h => ?_)
      · subst hQQ
        exact xm_zret hx hb hr hlk h.1 hw (v_2.1, v_2.2) rfl rfl h.2 d_Mo_takes_70
      · refine lv_icmp_ne (tgt := 69) hx hb d_Mo_takes_62 (by decide) (fun hc => ?_) (fun hc => ?_)
        · have h := h.1 hc
          refine lv_iconst (v := 0) hx hb d_Mo_takes_69 (by decide) ?_
          exact hJ_5 0 h _ _ _ hw (lv_sub hl [] rfl)
        · have h := h.2 hc
          refine lv_iconst (v := 1) hx hb d_Mo_takes_65 (by decide) ?_
          refine lv_goto (tgt := 70) hx hb d_Mo_takes_66 (by decide) ?_
          exact hJ_5 1 h _ _ _ hw (lv_sub hl [] rfl)
    · refine lv_icmp_ne (tgt := 54) hx hb d_Mo_takes_35 (by decide) (fun hc => ?_) (fun hc => ?_)
      · have h := h.1 hc
        exact hJ_3 (m_values, m_by) h _ _ _ hw (lv_sub hl [1, 3, 0] rfl)
      · have h := h.2 hc
        refine lv_aload_n hx hb d_Mo_takes_38 rfl (lv_at hl 1 rfl) ?_
        refine xm_get (D := D) (v := .ref (ad i_values)) (C := R_Mo) (T := F_Mo) (N := 28) hx hb hts (fun w h => List.mem_cons_of_mem _ (i_Mo w h)) hown hw (k_M m_values m_by) rfl 22 (by decide) (hts _ (List.mem_cons_of_mem _ xw_584)) (fun _ h9 => h9) rfl d_Mo_takes_39 ?_
        refine lv_iload hx hb d_Mo_takes_42 (lv_at hl 0 rfl) ?_
        refine lv_iload_n hx hb d_Mo_takes_44 rfl (lv_at hl 3 rfl) ?_
        obtain ⟨hin, h⟩ := h
        refine xm_iast hx hb hw 0 (k_values m_values m_by) rfl hin d_Mo_takes_45 (fun H locs hw => ?_)
        have hw : xm_W D xcl (xT cI cZ cJ cO) (xm_A ad (CE m_values m_by) s.heap.size) ad (CE (upd m_values (Int32.toNatClampNeg x_1) p1) m_by) s s.heap H locs := xm_W.cast (u_values m_values m_by (upd m_values (Int32.toNatClampNeg x_1) p1)) hw
        obtain ⟨m_values_6, em_values_6⟩ : ∃ z : Nat → Int32, z = upd m_values (Int32.toNatClampNeg x_1) p1 := ⟨_, rfl⟩
        have h := h m_values_6 em_values_6
        rw [← em_values_6] at hw
        refine lv_aload_n hx hb d_Mo_takes_46 rfl (lv_at hl 1 rfl) ?_
        refine xm_get (D := D) (v := .ref (ad i_by)) (C := R_Mo) (T := F_Mo) (N := 28) hx hb hts (fun w h => List.mem_cons_of_mem _ (i_Mo w h)) hown hw (k_M m_values_6 m_by) rfl 23 (by decide) (hts _ (List.mem_cons_of_mem _ xw_585)) (fun _ h9 => h9) rfl d_Mo_takes_47 ?_
        refine lv_iload hx hb d_Mo_takes_50 (lv_at hl 0 rfl) ?_
        refine lv_iload_n hx hb d_Mo_takes_52 rfl (lv_at hl 4 rfl) ?_
        obtain ⟨hin, h⟩ := h
        refine xm_iast hx hb hw 0 (k_by m_values_6 m_by) rfl hin d_Mo_takes_53 (fun H locs hw => ?_)
        have hw : xm_W D xcl (xT cI cZ cJ cO) (xm_A ad (CE m_values m_by) s.heap.size) ad (CE m_values_6 (upd m_by (Int32.toNatClampNeg x_1) p2)) s s.heap H locs := xm_W.cast (u_by m_values_6 m_by (upd m_by (Int32.toNatClampNeg x_1) p2)) hw
        obtain ⟨m_by_7, em_by_7⟩ : ∃ z : Nat → Int32, z = upd m_by (Int32.toNatClampNeg x_1) p2 := ⟨_, rfl⟩
        have h := h m_by_7 em_by_7
        rw [← em_by_7] at hw
        exact hJ_3 (m_values_6, m_by_7) h _ _ _ hw (lv_sub hl [1, 3, 0] rfl)
  · have h := h.2 hc
    refine lv_iload_n hx hb d_Mo_takes_6 rfl (lv_at hl 1 rfl) ?_
    refine xj_use h (fun (v_8 : Int32) => ∀ (H : Heap) (locs : List Loc) (ls : Array Slot), xm_W D xcl (xT cI cZ cJ cO) (xm_A ad (CE m_values m_by) s.heap.size) ad (CE m_values m_by) s s.heap H locs → lv_has ls 5 [] → W p l e rm_Mo_takes s m args below meth c H locs 0 0 QQ (F0 m 20 ls [.int v_8])) (fun v_8 h H locs ls hw hl => ?_) (fun J_9 hJ_9 h => ?_)
    · subst hQQ
      exact xm_zret hx hb hr hlk h.1 hw (m_values, m_by) rfl rfl h.2 d_Mo_takes_20
    · refine xj_use h (fun (v_10 : Unit) => ∀ (H : Heap) (locs : List Loc) (ls : Array Slot), xm_W D xcl (xT cI cZ cJ cO) (xm_A ad (CE m_values m_by) s.heap.size) ad (CE m_values m_by) s s.heap H locs → lv_has ls 5 [] → W p l e rm_Mo_takes s m args below meth c H locs 0 0 QQ (F0 m 15 ls [])) (fun v_10 h H locs ls hw hl => ?_) (fun J_11 hJ_11 h => ?_)
      · refine lv_iconst (v := 1) hx hb d_Mo_takes_15 (by decide) ?_
        refine lv_goto (tgt := 20) hx hb d_Mo_takes_16 (by decide) ?_
        exact hJ_9 1 h _ _ _ hw (lv_sub hl [] rfl)
      · refine lv_if_lt (tgt := 15) hx hb d_Mo_takes_7 (by decide) (fun hc => ?_) (fun hc => ?_)
        · have h := h.1 hc
          exact hJ_11 () h _ _ _ hw (lv_sub hl [] rfl)
        · have h := h.2 hc
          refine lv_iload_n hx hb d_Mo_takes_10 rfl (lv_at hl 1 rfl) ?_
          refine lv_iload_n hx hb d_Mo_takes_11 rfl (lv_at hl 2 rfl) ?_
          refine lv_icmp_ne (tgt := 19) hx hb d_Mo_takes_12 (by decide) (fun hc => ?_) (fun hc => ?_)
          · have h := h.1 hc
            refine lv_iconst (v := 0) hx hb d_Mo_takes_19 (by decide) ?_
            exact hJ_9 0 h _ _ _ hw (lv_sub hl [] rfl)
          · have h := h.2 hc
            exact hJ_11 () h _ _ _ hw (lv_sub hl [] rfl)
theorem xw_587 : (Jvm.Cond.fieldLink "QuestionDeskModel" (98 : Nat) "QuestionDeskModel" "rule" "I") ∈ xg := xg_t (i := 587) (by decide +kernel) (by decide +kernel)
theorem xw_588 : (Jvm.Cond.fieldLink "QuestionDeskModel" (101 : Nat) "QuestionDeskModel" "atoms" "I") ∈ xg := xg_t (i := 588) (by decide +kernel) (by decide +kernel)
theorem xw_589 : (Jvm.Cond.fieldLink "QuestionDeskModel" (104 : Nat) "QuestionDeskModel" "depth" "I") ∈ xg := xg_t (i := 589) (by decide +kernel) (by decide +kernel)
theorem xw_586 : (Jvm.Cond.fieldLink "QuestionDeskModel" (50 : Nat) "QuestionDeskModel" "choice" "[I") ∈ xg := xg_t (i := 586) (by decide +kernel) (by decide +kernel)
def wp_Mo_begins (post : (Nat → Int32) → (Nat → Int32) → (Nat → Int32) → Int32 → Int32 → Int32 → Prop)  (m_values : Nat → Int32) (m_by : Nat → Int32) (m_choice : Nat → Int32) (m_rule : Int32) (m_atoms : Int32) (m_depth : Int32) (p0 : Int32) (p1 : Int32) : Prop :=
vp_in 0 4 ∧
∀ m_choice_1 : Nat → Int32, m_choice_1 = upd m_choice (Int32.toNatClampNeg 0) (-1) →
xL (fun (K_3 : Int32 × (Nat → Int32) × (Nat → Int32) × (Nat → Int32) × Int32 × Int32 × Int32 → Prop) (v_2 : Int32 × (Nat → Int32) × (Nat → Int32) × (Nat → Int32) × Int32 × Int32 × Int32) =>
((8 ≤ v_2.1 →
post v_2.2.1 v_2.2.2.1 v_2.2.2.2.1 v_2.2.2.2.2.1 v_2.2.2.2.2.2.1 v_2.2.2.2.2.2.2) ∧ (¬ 8 ≤ v_2.1 →
vp_in v_2.1 8 ∧
∀ m_values_4 : Nat → Int32, m_values_4 = upd v_2.2.1 (Int32.toNatClampNeg v_2.1) (-1) →
vp_in v_2.1 8 ∧
∀ m_by_5 : Nat → Int32, m_by_5 = upd v_2.2.2.1 (Int32.toNatClampNeg v_2.1) (-1) →
∀ x_6 : Int32, x_6 = v_2.1 + 1 →
K_3 (x_6, m_values_4, m_by_5, v_2.2.2.2.1, v_2.2.2.2.2.1, v_2.2.2.2.2.2.1, v_2.2.2.2.2.2.2)))) (0, m_values, m_by, m_choice_1, p0, p1, 0)
abbrev rm_Mo_begins : Room := { frames := 0, cells := 0, slots := 0, locals := 0 }
set_option maxHeartbeats 4000000 in
set_option maxRecDepth 100000 in
theorem c_Mo_begins {l : Launch} {D : va_G} {ad : Nat → Nat} (CE : (Nat → Int32) → (Nat → Int32) → (Nat → Int32) → Int32 → Int32 → Int32 → Nat → Option va_E) {cI cZ cJ cO : ClassId} {iM : Nat} {i_places : Nat} {i_ruled : Nat} {i_told : Nat} {i_model : Nat} {i_ofAtom : Nat} {i_left : Nat} {i_right : Nat} {i_size : Nat} {i_calls : Nat} {i_row : Nat} {i_patterns : Nat} {i_values : Nat} {i_by : Nat} {i_choice : Nat} {m_thrown : Int32} {m_predicates : Int32} {m_rules : Int32} {m_begun : Int32} {m_asked : Int32} {m_asksOf : Int32} {m_asksLeft : Int32} {m_asksRight : Int32} {m_hadPredicates : Int32} {m_inRow : Int32} {m_rewritten : Int32} (k_M : ∀ (m_values : Nat → Int32) (m_by : Nat → Int32) (m_choice : Nat → Int32) (m_rule : Int32) (m_atoms : Int32) (m_depth : Int32), (CE m_values m_by m_choice m_rule m_atoms m_depth) iM = some (.inr (4, [.int m_thrown, .ref (ad i_places), .ref (ad i_ruled), .int m_predicates, .ref (ad i_told), .ref (ad i_model), .ref (ad i_ofAtom), .ref (ad i_left), .ref (ad i_right), .ref (ad i_size), .int m_rules, .int m_begun, .int m_asked, .int m_asksOf, .int m_asksLeft, .int m_asksRight, .int m_hadPredicates, .ref (ad i_calls), .ref (ad i_row), .int m_inRow, .ref (ad i_patterns), .int m_rewritten, .ref (ad i_values), .ref (ad i_by), .ref (ad i_choice), .int m_rule, .int m_atoms, .int m_depth]))) (k_values : ∀ (m_values : Nat → Int32) (m_by : Nat → Int32) (m_choice : Nat → Int32) (m_rule : Int32) (m_atoms : Int32) (m_depth : Int32), (CE m_values m_by m_choice m_rule m_atoms m_depth) i_values = some (.inl (cI, 8, .inl m_values))) (k_by : ∀ (m_values : Nat → Int32) (m_by : Nat → Int32) (m_choice : Nat → Int32) (m_rule : Int32) (m_atoms : Int32) (m_depth : Int32), (CE m_values m_by m_choice m_rule m_atoms m_depth) i_by = some (.inl (cI, 8, .inl m_by))) (k_choice : ∀ (m_values : Nat → Int32) (m_by : Nat → Int32) (m_choice : Nat → Int32) (m_rule : Int32) (m_atoms : Int32) (m_depth : Int32), (CE m_values m_by m_choice m_rule m_atoms m_depth) i_choice = some (.inl (cI, 4, .inl m_choice))) (u_M : ∀ (m_values : Nat → Int32) (m_by : Nat → Int32) (m_choice : Nat → Int32) (m_rule : Int32) (m_atoms : Int32) (m_depth : Int32) (m_rule' : Int32) (m_atoms' : Int32) (m_depth' : Int32), va_up (CE m_values m_by m_choice m_rule m_atoms m_depth) iM (some (.inr (4, [.int m_thrown, .ref (ad i_places), .ref (ad i_ruled), .int m_predicates, .ref (ad i_told), .ref (ad i_model), .ref (ad i_ofAtom), .ref (ad i_left), .ref (ad i_right), .ref (ad i_size), .int m_rules, .int m_begun, .int m_asked, .int m_asksOf, .int m_asksLeft, .int m_asksRight, .int m_hadPredicates, .ref (ad i_calls), .ref (ad i_row), .int m_inRow, .ref (ad i_patterns), .int m_rewritten, .ref (ad i_values), .ref (ad i_by), .ref (ad i_choice), .int m_rule', .int m_atoms', .int m_depth']))) = (CE m_values m_by m_choice m_rule' m_atoms' m_depth')) (u_values : ∀ (m_values : Nat → Int32) (m_by : Nat → Int32) (m_choice : Nat → Int32) (m_rule : Int32) (m_atoms : Int32) (m_depth : Int32) (m_values' : Nat → Int32), va_up (CE m_values m_by m_choice m_rule m_atoms m_depth) i_values (some (.inl (cI, 8, .inl m_values'))) = (CE m_values' m_by m_choice m_rule m_atoms m_depth)) (u_by : ∀ (m_values : Nat → Int32) (m_by : Nat → Int32) (m_choice : Nat → Int32) (m_rule : Int32) (m_atoms : Int32) (m_depth : Int32) (m_by' : Nat → Int32), va_up (CE m_values m_by m_choice m_rule m_atoms m_depth) i_by (some (.inl (cI, 8, .inl m_by'))) = (CE m_values m_by' m_choice m_rule m_atoms m_depth)) (u_choice : ∀ (m_values : Nat → Int32) (m_by : Nat → Int32) (m_choice : Nat → Int32) (m_rule : Int32) (m_atoms : Int32) (m_depth : Int32) (m_choice' : Nat → Int32), va_up (CE m_values m_by m_choice m_rule m_atoms m_depth) i_choice (some (.inl (cI, 4, .inl m_choice'))) = (CE m_values m_by m_choice' m_rule m_atoms m_depth)) {post : (Nat → Int32) → (Nat → Int32) → (Nat → Int32) → Int32 → Int32 → Int32 → Prop} {m_values : Nat → Int32} {m_by : Nat → Int32} {m_choice : Nat → Int32} {m_rule : Int32} {m_atoms : Int32} {m_depth : Int32} {p0 : Int32} {p1 : Int32} (h : wp_Mo_begins post m_values m_by m_choice m_rule m_atoms m_depth p0 p1) : ∀ sz, Met l y_Mo_begins (Cond.code y_Mo_begins b_Mo_begins 4 none :: xg) rm_Mo_begins (xm_Pc D xcl (xT cI cZ cJ cO) ad (CE m_values m_by m_choice m_rule m_atoms m_depth) sz [.ref (ad iM), .int p0, .int p1]) (va_Qv (fun u : (Nat → Int32) × (Nat → Int32) × (Nat → Int32) × Int32 × Int32 × Int32 => post u.1 u.2.1 u.2.2.1 u.2.2.2.1 u.2.2.2.2.1 u.2.2.2.2.2) (xm_B D xcl (xT cI cZ cJ cO) (xm_A ad (CE m_values m_by m_choice m_rule m_atoms m_depth) sz) (fun _ => ad) (fun u : (Nat → Int32) × (Nat → Int32) × (Nat → Int32) × Int32 × Int32 × Int32 => CE u.1 u.2.1 u.2.2.1 u.2.2.2.1 u.2.2.2.2.1 u.2.2.2.2.2)) (xm_A ad (CE m_values m_by m_choice m_rule m_atoms m_depth) sz)) 0 0 (xm_A ad (CE m_values m_by m_choice m_rule m_atoms m_depth) sz) := by
  refine xm_ofW (cc := b_Mo_begins) (maxL := 4) (ret := none) (by decide) rfl (Nat.le_of_ble_eq_true rfl) ?_
  intro p e s m args below meth c ls QQ hQQ hx hb hml hr hown hlk hnm hts hl hw
  have hl : lv_has ls 4 [(0, .ref (ad iM)), (1, .int p0), (2, .int p1)] := hl
  unfold wp_Mo_begins at h
  refine lv_aload_n hx hb d_Mo_begins_0 rfl (lv_at hl 0 rfl) ?_
  refine lv_iload_n hx hb d_Mo_begins_1 rfl (lv_at hl 1 rfl) ?_
  refine xm_put (D := D) (v := .int p0) (ty := .int) (C := R_Mo) (T := F_Mo) (N := 28) hx hb hts (fun w h => List.mem_cons_of_mem _ (i_Mo w h)) t_Mo o_Mo n_Mo hown hw (k_M m_values m_by m_choice m_rule m_atoms m_depth) rfl 25 (by decide) (hts _ (List.mem_cons_of_mem _ xw_587)) (fun _ h9 => h9) rfl (by decide +kernel) rfl rfl (Nat.le_of_ble_eq_true rfl) d_Mo_begins_2 (fun H locs hw => ?_)
  have hw : xm_W D xcl (xT cI cZ cJ cO) (xm_A ad (CE m_values m_by m_choice m_rule m_atoms m_depth) s.heap.size) ad (CE m_values m_by m_choice p0 m_atoms m_depth) s s.heap H locs := xm_W.cast (u_M m_values m_by m_choice m_rule m_atoms m_depth p0 m_atoms m_depth) hw
  refine lv_aload_n hx hb d_Mo_begins_5 rfl (lv_at hl 0 rfl) ?_
  refine lv_iload_n hx hb d_Mo_begins_6 rfl (lv_at hl 2 rfl) ?_
  refine xm_put (D := D) (v := .int p1) (ty := .int) (C := R_Mo) (T := F_Mo) (N := 28) hx hb hts (fun w h => List.mem_cons_of_mem _ (i_Mo w h)) t_Mo o_Mo n_Mo hown hw (k_M m_values m_by m_choice p0 m_atoms m_depth) rfl 26 (by decide) (hts _ (List.mem_cons_of_mem _ xw_588)) (fun _ h9 => h9) rfl (by decide +kernel) rfl rfl (Nat.le_of_ble_eq_true rfl) d_Mo_begins_7 (fun H locs hw => ?_)
  have hw : xm_W D xcl (xT cI cZ cJ cO) (xm_A ad (CE m_values m_by m_choice m_rule m_atoms m_depth) s.heap.size) ad (CE m_values m_by m_choice p0 p1 m_depth) s s.heap H locs := xm_W.cast (u_M m_values m_by m_choice p0 m_atoms m_depth p0 p1 m_depth) hw
  refine lv_aload_n hx hb d_Mo_begins_10 rfl (lv_at hl 0 rfl) ?_
  refine lv_iconst (v := 0) hx hb d_Mo_begins_11 (by decide) ?_
  refine xm_put (D := D) (v := .int 0) (ty := .int) (C := R_Mo) (T := F_Mo) (N := 28) hx hb hts (fun w h => List.mem_cons_of_mem _ (i_Mo w h)) t_Mo o_Mo n_Mo hown hw (k_M m_values m_by m_choice p0 p1 m_depth) rfl 27 (by decide) (hts _ (List.mem_cons_of_mem _ xw_589)) (fun _ h9 => h9) rfl (by decide +kernel) rfl rfl (Nat.le_of_ble_eq_true rfl) d_Mo_begins_12 (fun H locs hw => ?_)
  have hw : xm_W D xcl (xT cI cZ cJ cO) (xm_A ad (CE m_values m_by m_choice m_rule m_atoms m_depth) s.heap.size) ad (CE m_values m_by m_choice p0 p1 0) s s.heap H locs := xm_W.cast (u_M m_values m_by m_choice p0 p1 m_depth p0 p1 0) hw
  refine lv_aload_n hx hb d_Mo_begins_15 rfl (lv_at hl 0 rfl) ?_
  refine xm_get (D := D) (v := .ref (ad i_choice)) (C := R_Mo) (T := F_Mo) (N := 28) hx hb hts (fun w h => List.mem_cons_of_mem _ (i_Mo w h)) hown hw (k_M m_values m_by m_choice p0 p1 0) rfl 24 (by decide) (hts _ (List.mem_cons_of_mem _ xw_586)) (fun _ h9 => h9) rfl d_Mo_begins_16 ?_
  refine lv_iconst (v := 0) hx hb d_Mo_begins_19 (by decide) ?_
  refine lv_iconst (v := (-1)) hx hb d_Mo_begins_20 (by decide) ?_
  obtain ⟨hin, h⟩ := h
  refine xm_iast hx hb hw 0 (k_choice m_values m_by m_choice p0 p1 0) rfl hin d_Mo_begins_21 (fun H locs hw => ?_)
  have hw : xm_W D xcl (xT cI cZ cJ cO) (xm_A ad (CE m_values m_by m_choice m_rule m_atoms m_depth) s.heap.size) ad (CE m_values m_by (upd m_choice (Int32.toNatClampNeg 0) (-1)) p0 p1 0) s s.heap H locs := xm_W.cast (u_choice m_values m_by m_choice p0 p1 0 (upd m_choice (Int32.toNatClampNeg 0) (-1))) hw
  obtain ⟨m_choice_1, em_choice_1⟩ : ∃ z : Nat → Int32, z = upd m_choice (Int32.toNatClampNeg 0) (-1) := ⟨_, rfl⟩
  have h := h m_choice_1 em_choice_1
  rw [← em_choice_1] at hw
  refine lv_iconst (v := 0) hx hb d_Mo_begins_22 (by decide) ?_
  refine lv_istore_n (lv' := [(3, .int 0), (0, .ref (ad iM)), (1, .int p0), (2, .int p1)]) hx hb d_Mo_begins_23 rfl hl (by decide) rfl (fun ls hl => ?_)
  refine xL_use h (fun (v_2 : Int32 × (Nat → Int32) × (Nat → Int32) × (Nat → Int32) × Int32 × Int32 × Int32) => ∀ (H : Heap) (locs : List Loc) (ls : Array Slot), xm_W D xcl (xT cI cZ cJ cO) (xm_A ad (CE m_values m_by m_choice m_rule m_atoms m_depth) s.heap.size) ad (CE v_2.2.1 v_2.2.2.1 v_2.2.2.2.1 v_2.2.2.2.2.1 v_2.2.2.2.2.2.1 v_2.2.2.2.2.2.2) s s.heap H locs → lv_has ls 4 [(3, .int v_2.1), (0, .ref (ad iM))] → W p l e rm_Mo_begins s m args below meth c H locs 0 0 QQ (F0 m 24 ls [])) (fun K_3 hK_3 v_2 h H locs ls hw hl => ?_) _ _ _ hw (lv_sub hl [0, 1] rfl)
  refine lv_iload_n hx hb d_Mo_begins_24 rfl (lv_at hl 0 rfl) ?_
  refine lv_bipush (v := 8) hx hb d_Mo_begins_25 (by decide) ?_
  refine lv_icmp_ge (tgt := 50) hx hb d_Mo_begins_27 (by decide) (fun hc => ?_) (fun hc => ?_)
  · have h := h.1 hc
    subst hQQ
    exact xm_vret hx hb hr hlk hw (v_2.2.1, v_2.2.2.1, v_2.2.2.2.1, v_2.2.2.2.2.1, v_2.2.2.2.2.2.1, v_2.2.2.2.2.2.2) rfl rfl h d_Mo_begins_50
  · have h := h.2 hc
    refine lv_aload_n hx hb d_Mo_begins_30 rfl (lv_at hl 1 rfl) ?_
    refine xm_get (D := D) (v := .ref (ad i_values)) (C := R_Mo) (T := F_Mo) (N := 28) hx hb hts (fun w h => List.mem_cons_of_mem _ (i_Mo w h)) hown hw (k_M v_2.2.1 v_2.2.2.1 v_2.2.2.2.1 v_2.2.2.2.2.1 v_2.2.2.2.2.2.1 v_2.2.2.2.2.2.2) rfl 22 (by decide) (hts _ (List.mem_cons_of_mem _ xw_584)) (fun _ h9 => h9) rfl d_Mo_begins_31 ?_
    refine lv_iload_n hx hb d_Mo_begins_34 rfl (lv_at hl 0 rfl) ?_
    refine lv_iconst (v := (-1)) hx hb d_Mo_begins_35 (by decide) ?_
    obtain ⟨hin, h⟩ := h
    refine xm_iast hx hb hw 0 (k_values v_2.2.1 v_2.2.2.1 v_2.2.2.2.1 v_2.2.2.2.2.1 v_2.2.2.2.2.2.1 v_2.2.2.2.2.2.2) rfl hin d_Mo_begins_36 (fun H locs hw => ?_)
    have hw : xm_W D xcl (xT cI cZ cJ cO) (xm_A ad (CE m_values m_by m_choice m_rule m_atoms m_depth) s.heap.size) ad (CE (upd v_2.2.1 (Int32.toNatClampNeg v_2.1) (-1)) v_2.2.2.1 v_2.2.2.2.1 v_2.2.2.2.2.1 v_2.2.2.2.2.2.1 v_2.2.2.2.2.2.2) s s.heap H locs := xm_W.cast (u_values v_2.2.1 v_2.2.2.1 v_2.2.2.2.1 v_2.2.2.2.2.1 v_2.2.2.2.2.2.1 v_2.2.2.2.2.2.2 (upd v_2.2.1 (Int32.toNatClampNeg v_2.1) (-1))) hw
    obtain ⟨m_values_4, em_values_4⟩ : ∃ z : Nat → Int32, z = upd v_2.2.1 (Int32.toNatClampNeg v_2.1) (-1) := ⟨_, rfl⟩
    have h := h m_values_4 em_values_4
    rw [← em_values_4] at hw
    refine lv_aload_n hx hb d_Mo_begins_37 rfl (lv_at hl 1 rfl) ?_
    refine xm_get (D := D) (v := .ref (ad i_by)) (C := R_Mo) (T := F_Mo) (N := 28) hx hb hts (fun w h => List.mem_cons_of_mem _ (i_Mo w h)) hown hw (k_M m_values_4 v_2.2.2.1 v_2.2.2.2.1 v_2.2.2.2.2.1 v_2.2.2.2.2.2.1 v_2.2.2.2.2.2.2) rfl 23 (by decide) (hts _ (List.mem_cons_of_mem _ xw_585)) (fun _ h9 => h9) rfl d_Mo_begins_38 ?_
    refine lv_iload_n hx hb d_Mo_begins_41 rfl (lv_at hl 0 rfl) ?_
    refine lv_iconst (v := (-1)) hx hb d_Mo_begins_42 (by decide) ?_
    obtain ⟨hin, h⟩ := h
    refine xm_iast hx hb hw 0 (k_by m_values_4 v_2.2.2.1 v_2.2.2.2.1 v_2.2.2.2.2.1 v_2.2.2.2.2.2.1 v_2.2.2.2.2.2.2) rfl hin d_Mo_begins_43 (fun H locs hw => ?_)
    have hw : xm_W D xcl (xT cI cZ cJ cO) (xm_A ad (CE m_values m_by m_choice m_rule m_atoms m_depth) s.heap.size) ad (CE m_values_4 (upd v_2.2.2.1 (Int32.toNatClampNeg v_2.1) (-1)) v_2.2.2.2.1 v_2.2.2.2.2.1 v_2.2.2.2.2.2.1 v_2.2.2.2.2.2.2) s s.heap H locs := xm_W.cast (u_by m_values_4 v_2.2.2.1 v_2.2.2.2.1 v_2.2.2.2.2.1 v_2.2.2.2.2.2.1 v_2.2.2.2.2.2.2 (upd v_2.2.2.1 (Int32.toNatClampNeg v_2.1) (-1))) hw
    obtain ⟨m_by_5, em_by_5⟩ : ∃ z : Nat → Int32, z = upd v_2.2.2.1 (Int32.toNatClampNeg v_2.1) (-1) := ⟨_, rfl⟩
    have h := h m_by_5 em_by_5
    rw [← em_by_5] at hw
    obtain ⟨x_6, ex_6⟩ : ∃ y : Int32, y = v_2.1 + 1 := ⟨_, rfl⟩
    have h := h x_6 ex_6
    refine lv_iinc (v := x_6) (lv' := [(3, .int x_6), (0, .ref (ad iM))]) hx hb d_Mo_begins_44 hl (k := 0) rfl (by rw [ex_6]; rfl) (by decide) rfl (fun ls hl => ?_)
    refine lv_goto (tgt := 24) hx hb d_Mo_begins_47 (by decide) ?_
    exact hK_3 (x_6, m_values_4, m_by_5, v_2.2.2.2.1, v_2.2.2.2.2.1, v_2.2.2.2.2.2.1, v_2.2.2.2.2.2.2) h _ _ _ hw (lv_sub hl [0, 1] rfl)
theorem xw_567 : (Jvm.Cond.fieldLink "QuestionDeskModel" (20 : Nat) "QuestionDeskModel" "model" "[Z") ∈ xg := xg_t (i := 567) (by decide +kernel) (by decide +kernel)
theorem xw_728 : (Jvm.Cond.code ({ cls := "QuestionDeskModel", name := "frees", desc := "(I)V" } : Jvm.MethodName) prog_6_method_18_code (3 : Nat) (Option.none : Option Jvm.ClassFile.FieldType)) ∈ xg := xg_t (i := 728) (by decide +kernel) (by decide +kernel)
theorem xw_725 : (Jvm.Cond.methodLink "QuestionDeskModel" (110 : Nat) ({ cls := "QuestionDeskModel", name := "frees", desc := "(I)V" } : Jvm.MethodName)) ∈ xg := xg_t (i := 725) (by decide +kernel) (by decide +kernel)
theorem xw_727 : (Jvm.Cond.instanceMethod ({ cls := "QuestionDeskModel", name := "frees", desc := "(I)V" } : Jvm.MethodName)) ∈ xg := xg_t (i := 727) (by decide +kernel) (by decide +kernel)
theorem xw_p32 : Cond.selects "QuestionDeskModel" ⟨"QuestionDeskModel", "frees", "(I)V"⟩ ⟨"QuestionDeskModel", "frees", "(I)V"⟩ ∈ xg := xg_p (q := (⟨"QuestionDeskModel", "frees", "(I)V"⟩, 28)) (i := 32) (by decide +kernel) (by decide +kernel)
theorem xw_736 : (Jvm.Cond.code ({ cls := "QuestionDeskModel", name := "takes", desc := "(III)Z" } : Jvm.MethodName) prog_6_method_19_code (5 : Nat) (Option.some Jvm.ClassFile.FieldType.boolean)) ∈ xg := xg_t (i := 736) (by decide +kernel) (by decide +kernel)
theorem xw_733 : (Jvm.Cond.methodLink "QuestionDeskModel" (107 : Nat) ({ cls := "QuestionDeskModel", name := "takes", desc := "(III)Z" } : Jvm.MethodName)) ∈ xg := xg_t (i := 733) (by decide +kernel) (by decide +kernel)
theorem xw_735 : (Jvm.Cond.instanceMethod ({ cls := "QuestionDeskModel", name := "takes", desc := "(III)Z" } : Jvm.MethodName)) ∈ xg := xg_t (i := 735) (by decide +kernel) (by decide +kernel)
theorem xw_p34 : Cond.selects "QuestionDeskModel" ⟨"QuestionDeskModel", "takes", "(III)Z"⟩ ⟨"QuestionDeskModel", "takes", "(III)Z"⟩ ∈ xg := xg_p (q := (⟨"QuestionDeskModel", "takes", "(III)Z"⟩, 28)) (i := 34) (by decide +kernel) (by decide +kernel)
def wp_Mo_finds (post : Int32 → (Nat → Int32) → (Nat → Int32) → (Nat → Int32) → Prop)  (m_model : Nat → Int32) (m_ofAtom : Nat → Int32) (m_left : Nat → Int32) (m_right : Nat → Int32) (m_rule : Int32) (m_depth : Int32) (m_values : Nat → Int32) (m_by : Nat → Int32) (m_choice : Nat → Int32) : Prop :=
∀ x_1 : Int32, x_1 = ((4 * m_rule) + 1) + m_depth →
xL (fun (K_3 : (Nat → Int32) × (Nat → Int32) × (Nat → Int32) → Prop) (v_2 : (Nat → Int32) × (Nat → Int32) × (Nat → Int32)) =>
vp_in m_depth 4 ∧
((99 ≤ (v_2.2.2 (Int32.toNatClampNeg m_depth)) →
post 0 v_2.1 v_2.2.1 v_2.2.2) ∧ (¬ 99 ≤ (v_2.2.2 (Int32.toNatClampNeg m_depth)) →
vp_in m_depth 4 ∧
vp_in m_depth 4 ∧
∀ m_choice_4 : Nat → Int32, m_choice_4 = upd v_2.2.2 (Int32.toNatClampNeg m_depth) ((v_2.2.2 (Int32.toNatClampNeg m_depth)) + 1) →
vp_in m_depth 4 ∧
∀ x_5 : Int32, x_5 = m_choice_4 (Int32.toNatClampNeg m_depth) →
vp_in x_1 124 ∧
vp_in ((100 * (m_ofAtom (Int32.toNatClampNeg x_1))) + x_5) 1000 ∧
((¬ (m_model (Int32.toNatClampNeg ((100 * (m_ofAtom (Int32.toNatClampNeg x_1))) + x_5))) = 0 →
vp_in x_1 124 ∧
wp_Mo_takes (fun r_6 m_values_8 m_by_9 =>
xj (fun (v_10 : (Nat → Int32) × (Nat → Int32) × (Nat → Int32)) =>
wp_Mo_frees (fun m_values_14 m_by_15 =>
K_3 (m_values_14, m_by_15, v_10.2.2)) v_10.1 v_10.2.1 m_depth) (fun (J_11 : (Nat → Int32) × (Nat → Int32) × (Nat → Int32) → Prop) =>
((r_6 = 0 →
J_11 (m_values_8, m_by_9, m_choice_4)) ∧ (¬ r_6 = 0 →
vp_in x_1 124 ∧
wp_Mo_takes (fun r_16 m_values_18 m_by_19 =>
((r_16 = 0 →
J_11 (m_values_18, m_by_19, m_choice_4)) ∧ (¬ r_16 = 0 →
post 1 m_values_18 m_by_19 m_choice_4))) m_values_8 m_by_9 (m_right (Int32.toNatClampNeg x_1)) (x_5 - (x_5 / 10) * 10) m_depth)))) v_2.1 v_2.2.1 (m_left (Int32.toNatClampNeg x_1)) (x_5 / 10) m_depth) ∧ ((m_model (Int32.toNatClampNeg ((100 * (m_ofAtom (Int32.toNatClampNeg x_1))) + x_5))) = 0 →
K_3 (v_2.1, v_2.2.1, m_choice_4)))))) (m_values, m_by, m_choice)
abbrev rm_Mo_finds : Room := { frames := 1, cells := 0, slots := 0, locals := 24 }
set_option maxHeartbeats 4000000 in
set_option maxRecDepth 100000 in
theorem c_Mo_finds {l : Launch} {D : va_G} {ad : Nat → Nat} (CE : (Nat → Int32) → (Nat → Int32) → (Nat → Int32) → Nat → Option va_E) {cI cZ cJ cO : ClassId} {iM : Nat} {i_places : Nat} {i_ruled : Nat} {i_told : Nat} {i_model : Nat} {i_ofAtom : Nat} {i_left : Nat} {i_right : Nat} {i_size : Nat} {i_calls : Nat} {i_row : Nat} {i_patterns : Nat} {i_values : Nat} {i_by : Nat} {i_choice : Nat} {m_model : Nat → Int32} {m_ofAtom : Nat → Int32} {m_left : Nat → Int32} {m_right : Nat → Int32} {m_rule : Int32} {m_depth : Int32} {m_thrown : Int32} {m_predicates : Int32} {m_rules : Int32} {m_begun : Int32} {m_asked : Int32} {m_asksOf : Int32} {m_asksLeft : Int32} {m_asksRight : Int32} {m_hadPredicates : Int32} {m_inRow : Int32} {m_rewritten : Int32} {m_atoms : Int32} (k_M : ∀ (m_values : Nat → Int32) (m_by : Nat → Int32) (m_choice : Nat → Int32), (CE m_values m_by m_choice) iM = some (.inr (4, [.int m_thrown, .ref (ad i_places), .ref (ad i_ruled), .int m_predicates, .ref (ad i_told), .ref (ad i_model), .ref (ad i_ofAtom), .ref (ad i_left), .ref (ad i_right), .ref (ad i_size), .int m_rules, .int m_begun, .int m_asked, .int m_asksOf, .int m_asksLeft, .int m_asksRight, .int m_hadPredicates, .ref (ad i_calls), .ref (ad i_row), .int m_inRow, .ref (ad i_patterns), .int m_rewritten, .ref (ad i_values), .ref (ad i_by), .ref (ad i_choice), .int m_rule, .int m_atoms, .int m_depth]))) (k_model : ∀ (m_values : Nat → Int32) (m_by : Nat → Int32) (m_choice : Nat → Int32), (CE m_values m_by m_choice) i_model = some (.inl (cZ, 1000, .inl m_model))) (k_ofAtom : ∀ (m_values : Nat → Int32) (m_by : Nat → Int32) (m_choice : Nat → Int32), (CE m_values m_by m_choice) i_ofAtom = some (.inl (cI, 124, .inl m_ofAtom))) (k_left : ∀ (m_values : Nat → Int32) (m_by : Nat → Int32) (m_choice : Nat → Int32), (CE m_values m_by m_choice) i_left = some (.inl (cI, 124, .inl m_left))) (k_right : ∀ (m_values : Nat → Int32) (m_by : Nat → Int32) (m_choice : Nat → Int32), (CE m_values m_by m_choice) i_right = some (.inl (cI, 124, .inl m_right))) (k_values : ∀ (m_values : Nat → Int32) (m_by : Nat → Int32) (m_choice : Nat → Int32), (CE m_values m_by m_choice) i_values = some (.inl (cI, 8, .inl m_values))) (k_by : ∀ (m_values : Nat → Int32) (m_by : Nat → Int32) (m_choice : Nat → Int32), (CE m_values m_by m_choice) i_by = some (.inl (cI, 8, .inl m_by))) (k_choice : ∀ (m_values : Nat → Int32) (m_by : Nat → Int32) (m_choice : Nat → Int32), (CE m_values m_by m_choice) i_choice = some (.inl (cI, 4, .inl m_choice))) (u_values : ∀ (m_values : Nat → Int32) (m_by : Nat → Int32) (m_choice : Nat → Int32) (m_values' : Nat → Int32), va_up (CE m_values m_by m_choice) i_values (some (.inl (cI, 8, .inl m_values'))) = (CE m_values' m_by m_choice)) (u_by : ∀ (m_values : Nat → Int32) (m_by : Nat → Int32) (m_choice : Nat → Int32) (m_by' : Nat → Int32), va_up (CE m_values m_by m_choice) i_by (some (.inl (cI, 8, .inl m_by'))) = (CE m_values m_by' m_choice)) (u_choice : ∀ (m_values : Nat → Int32) (m_by : Nat → Int32) (m_choice : Nat → Int32) (m_choice' : Nat → Int32), va_up (CE m_values m_by m_choice) i_choice (some (.inl (cI, 4, .inl m_choice'))) = (CE m_values m_by m_choice')) {post : Int32 → (Nat → Int32) → (Nat → Int32) → (Nat → Int32) → Prop} {m_values : Nat → Int32} {m_by : Nat → Int32} {m_choice : Nat → Int32} (h : wp_Mo_finds post m_model m_ofAtom m_left m_right m_rule m_depth m_values m_by m_choice) : ∀ sz, Met l y_Mo_finds (Cond.code y_Mo_finds b_Mo_finds 3 (some .boolean) :: xg) rm_Mo_finds (xm_Pc D xcl (xT cI cZ cJ cO) ad (CE m_values m_by m_choice) sz [.ref (ad iM)]) (va_Qi (fun (r : Int32) (u : (Nat → Int32) × (Nat → Int32) × (Nat → Int32)) => post r u.1 u.2.1 u.2.2) (xm_B D xcl (xT cI cZ cJ cO) (xm_A ad (CE m_values m_by m_choice) sz) (fun _ => ad) (fun u : (Nat → Int32) × (Nat → Int32) × (Nat → Int32) => CE u.1 u.2.1 u.2.2)) (xm_A ad (CE m_values m_by m_choice) sz)) 0 0 (xm_A ad (CE m_values m_by m_choice) sz) := by
  refine xm_ofW (cc := b_Mo_finds) (maxL := 3) (ret := (some .boolean)) (by decide) rfl (Nat.le_of_ble_eq_true rfl) ?_
  intro p e s m args below meth c ls QQ hQQ hx hb hml hr hown hlk hnm hts hl hw
  have hl : lv_has ls 3 [(0, .ref (ad iM))] := hl
  unfold wp_Mo_finds at h
  refine lv_iconst (v := 4) hx hb d_Mo_finds_0 (by decide) ?_
  refine lv_aload_n hx hb d_Mo_finds_1 rfl (lv_at hl 0 rfl) ?_
  refine xm_get (D := D) (v := .int m_rule) (C := R_Mo) (T := F_Mo) (N := 28) hx hb hts (fun w h => List.mem_cons_of_mem _ (i_Mo w h)) hown hw (k_M m_values m_by m_choice) rfl 25 (by decide) (hts _ (List.mem_cons_of_mem _ xw_587)) (fun _ h9 => h9) rfl d_Mo_finds_2 ?_
  refine lv_imul hx hb d_Mo_finds_5 ?_
  refine lv_iconst (v := 1) hx hb d_Mo_finds_6 (by decide) ?_
  refine lv_iadd hx hb d_Mo_finds_7 ?_
  refine lv_aload_n hx hb d_Mo_finds_8 rfl (lv_at hl 0 rfl) ?_
  refine xm_get (D := D) (v := .int m_depth) (C := R_Mo) (T := F_Mo) (N := 28) hx hb hts (fun w h => List.mem_cons_of_mem _ (i_Mo w h)) hown hw (k_M m_values m_by m_choice) rfl 27 (by decide) (hts _ (List.mem_cons_of_mem _ xw_589)) (fun _ h9 => h9) rfl d_Mo_finds_9 ?_
  refine lv_iadd hx hb d_Mo_finds_12 ?_
  refine lv_topi (fun x_1 ex_1 => ?_)
  have h := h x_1 ex_1
  refine lv_istore_n (lv' := [(1, .int x_1), (0, .ref (ad iM))]) hx hb d_Mo_finds_13 rfl hl (by decide) rfl (fun ls hl => ?_)
  refine xL_use h (fun (v_2 : (Nat → Int32) × (Nat → Int32) × (Nat → Int32)) => ∀ (H : Heap) (locs : List Loc) (ls : Array Slot), xm_W D xcl (xT cI cZ cJ cO) (xm_A ad (CE m_values m_by m_choice) s.heap.size) ad (CE v_2.1 v_2.2.1 v_2.2.2) s s.heap H locs → lv_has ls 3 [(1, .int x_1), (0, .ref (ad iM))] → W p l e rm_Mo_finds s m args below meth c H locs 0 0 QQ (F0 m 14 ls [])) (fun K_3 hK_3 v_2 h H locs ls hw hl => ?_) _ _ _ hw (lv_sub hl [0, 1] rfl)
  refine lv_aload_n hx hb d_Mo_finds_14 rfl (lv_at hl 1 rfl) ?_
  refine xm_get (D := D) (v := .ref (ad i_choice)) (C := R_Mo) (T := F_Mo) (N := 28) hx hb hts (fun w h => List.mem_cons_of_mem _ (i_Mo w h)) hown hw (k_M v_2.1 v_2.2.1 v_2.2.2) rfl 24 (by decide) (hts _ (List.mem_cons_of_mem _ xw_586)) (fun _ h9 => h9) rfl d_Mo_finds_15 ?_
  refine lv_aload_n hx hb d_Mo_finds_18 rfl (lv_at hl 1 rfl) ?_
  refine xm_get (D := D) (v := .int m_depth) (C := R_Mo) (T := F_Mo) (N := 28) hx hb hts (fun w h => List.mem_cons_of_mem _ (i_Mo w h)) hown hw (k_M v_2.1 v_2.2.1 v_2.2.2) rfl 27 (by decide) (hts _ (List.mem_cons_of_mem _ xw_589)) (fun _ h9 => h9) rfl d_Mo_finds_19 ?_
  obtain ⟨hin, h⟩ := h
  refine xm_iald hx hb hw 0 (k_choice v_2.1 v_2.2.1 v_2.2.2) rfl hin d_Mo_finds_22 ?_
  refine lv_bipush (v := 99) hx hb d_Mo_finds_23 (by decide) ?_
  refine lv_icmp_ge (tgt := 128) hx hb d_Mo_finds_25 (by decide) (fun hc => ?_) (fun hc => ?_)
  · have h := h.1 hc
    refine lv_iconst (v := 0) hx hb d_Mo_finds_128 (by decide) ?_
    subst hQQ
    exact xm_zret hx hb hr hlk rfl hw (v_2.1, v_2.2.1, v_2.2.2) rfl rfl h d_Mo_finds_129
  · have h := h.2 hc
    refine lv_aload_n hx hb d_Mo_finds_28 rfl (lv_at hl 1 rfl) ?_
    refine xm_get (D := D) (v := .ref (ad i_choice)) (C := R_Mo) (T := F_Mo) (N := 28) hx hb hts (fun w h => List.mem_cons_of_mem _ (i_Mo w h)) hown hw (k_M v_2.1 v_2.2.1 v_2.2.2) rfl 24 (by decide) (hts _ (List.mem_cons_of_mem _ xw_586)) (fun _ h9 => h9) rfl d_Mo_finds_29 ?_
    refine lv_aload_n hx hb d_Mo_finds_32 rfl (lv_at hl 1 rfl) ?_
    refine xm_get (D := D) (v := .int m_depth) (C := R_Mo) (T := F_Mo) (N := 28) hx hb hts (fun w h => List.mem_cons_of_mem _ (i_Mo w h)) hown hw (k_M v_2.1 v_2.2.1 v_2.2.2) rfl 27 (by decide) (hts _ (List.mem_cons_of_mem _ xw_589)) (fun _ h9 => h9) rfl d_Mo_finds_33 ?_
    refine lv_dup2_11 hx hb d_Mo_finds_36 rfl rfl ?_
    obtain ⟨hin, h⟩ := h
    refine xm_iald hx hb hw 0 (k_choice v_2.1 v_2.2.1 v_2.2.2) rfl hin d_Mo_finds_37 ?_
    refine lv_iconst (v := 1) hx hb d_Mo_finds_38 (by decide) ?_
    refine lv_iadd hx hb d_Mo_finds_39 ?_
    obtain ⟨hin, h⟩ := h
    refine xm_iast hx hb hw 0 (k_choice v_2.1 v_2.2.1 v_2.2.2) rfl hin d_Mo_finds_40 (fun H locs hw => ?_)
    have hw : xm_W D xcl (xT cI cZ cJ cO) (xm_A ad (CE m_values m_by m_choice) s.heap.size) ad (CE v_2.1 v_2.2.1 (upd v_2.2.2 (Int32.toNatClampNeg m_depth) ((v_2.2.2 (Int32.toNatClampNeg m_depth)) + 1))) s s.heap H locs := xm_W.cast (u_choice v_2.1 v_2.2.1 v_2.2.2 (upd v_2.2.2 (Int32.toNatClampNeg m_depth) ((v_2.2.2 (Int32.toNatClampNeg m_depth)) + 1))) hw
    obtain ⟨m_choice_4, em_choice_4⟩ : ∃ z : Nat → Int32, z = upd v_2.2.2 (Int32.toNatClampNeg m_depth) ((v_2.2.2 (Int32.toNatClampNeg m_depth)) + 1) := ⟨_, rfl⟩
    have h := h m_choice_4 em_choice_4
    rw [← em_choice_4] at hw
    refine lv_aload_n hx hb d_Mo_finds_41 rfl (lv_at hl 1 rfl) ?_
    refine xm_get (D := D) (v := .ref (ad i_choice)) (C := R_Mo) (T := F_Mo) (N := 28) hx hb hts (fun w h => List.mem_cons_of_mem _ (i_Mo w h)) hown hw (k_M v_2.1 v_2.2.1 m_choice_4) rfl 24 (by decide) (hts _ (List.mem_cons_of_mem _ xw_586)) (fun _ h9 => h9) rfl d_Mo_finds_42 ?_
    refine lv_aload_n hx hb d_Mo_finds_45 rfl (lv_at hl 1 rfl) ?_
    refine xm_get (D := D) (v := .int m_depth) (C := R_Mo) (T := F_Mo) (N := 28) hx hb hts (fun w h => List.mem_cons_of_mem _ (i_Mo w h)) hown hw (k_M v_2.1 v_2.2.1 m_choice_4) rfl 27 (by decide) (hts _ (List.mem_cons_of_mem _ xw_589)) (fun _ h9 => h9) rfl d_Mo_finds_46 ?_
    obtain ⟨hin, h⟩ := h
    refine xm_iald hx hb hw 0 (k_choice v_2.1 v_2.2.1 m_choice_4) rfl hin d_Mo_finds_49 ?_
    refine lv_topi (fun x_5 ex_5 => ?_)
    have h := h x_5 ex_5
    refine lv_istore_n (lv' := [(2, .int x_5), (1, .int x_1), (0, .ref (ad iM))]) hx hb d_Mo_finds_50 rfl hl (by decide) rfl (fun ls hl => ?_)
    refine lv_aload_n hx hb d_Mo_finds_51 rfl (lv_at hl 2 rfl) ?_
    refine xm_get (D := D) (v := .ref (ad i_model)) (C := R_Mo) (T := F_Mo) (N := 28) hx hb hts (fun w h => List.mem_cons_of_mem _ (i_Mo w h)) hown hw (k_M v_2.1 v_2.2.1 m_choice_4) rfl 5 (by decide) (hts _ (List.mem_cons_of_mem _ xw_567)) (fun _ h9 => h9) rfl d_Mo_finds_52 ?_
    refine lv_bipush (v := 100) hx hb d_Mo_finds_55 (by decide) ?_
    refine lv_aload_n hx hb d_Mo_finds_57 rfl (lv_at hl 2 rfl) ?_
    refine xm_get (D := D) (v := .ref (ad i_ofAtom)) (C := R_Mo) (T := F_Mo) (N := 28) hx hb hts (fun w h => List.mem_cons_of_mem _ (i_Mo w h)) hown hw (k_M v_2.1 v_2.2.1 m_choice_4) rfl 6 (by decide) (hts _ (List.mem_cons_of_mem _ xw_568)) (fun _ h9 => h9) rfl d_Mo_finds_58 ?_
    refine lv_iload_n hx hb d_Mo_finds_61 rfl (lv_at hl 1 rfl) ?_
    obtain ⟨hin, h⟩ := h
    refine xm_iald hx hb hw 0 (k_ofAtom v_2.1 v_2.2.1 m_choice_4) rfl hin d_Mo_finds_62 ?_
    refine lv_imul hx hb d_Mo_finds_63 ?_
    refine lv_iload_n hx hb d_Mo_finds_64 rfl (lv_at hl 0 rfl) ?_
    refine lv_iadd hx hb d_Mo_finds_65 ?_
    obtain ⟨hin, h⟩ := h
    refine xm_zald hx hb hw 1 (k_model v_2.1 v_2.2.1 m_choice_4) rfl hin d_Mo_finds_66 ?_
    refine lv_if_ne (tgt := 73) hx hb d_Mo_finds_67 (by decide) (fun hc => ?_) (fun hc => ?_)
    · have h := h.1 hc
      refine lv_aload_n hx hb d_Mo_finds_73 rfl (lv_at hl 2 rfl) ?_
      refine lv_aload_n hx hb d_Mo_finds_74 rfl (lv_at hl 2 rfl) ?_
      refine xm_get (D := D) (v := .ref (ad i_left)) (C := R_Mo) (T := F_Mo) (N := 28) hx hb hts (fun w h => List.mem_cons_of_mem _ (i_Mo w h)) hown hw (k_M v_2.1 v_2.2.1 m_choice_4) rfl 7 (by decide) (hts _ (List.mem_cons_of_mem _ xw_569)) (fun _ h9 => h9) rfl d_Mo_finds_75 ?_
      refine lv_iload_n hx hb d_Mo_finds_78 rfl (lv_at hl 1 rfl) ?_
      obtain ⟨hin, h⟩ := h
      refine xm_iald hx hb hw 0 (k_left v_2.1 v_2.2.1 m_choice_4) rfl hin d_Mo_finds_79 ?_
      refine lv_iload_n hx hb d_Mo_finds_80 rfl (lv_at hl 0 rfl) ?_
      refine lv_bipush (v := 10) hx hb d_Mo_finds_81 (by decide) ?_
      refine lv_idiv hx hb d_Mo_finds_83 (by decide) ?_
      refine lv_aload_n hx hb d_Mo_finds_84 rfl (lv_at hl 2 rfl) ?_
      refine xm_get (D := D) (v := .int m_depth) (C := R_Mo) (T := F_Mo) (N := 28) hx hb hts (fun w h => List.mem_cons_of_mem _ (i_Mo w h)) hown hw (k_M v_2.1 v_2.2.1 m_choice_4) rfl 27 (by decide) (hts _ (List.mem_cons_of_mem _ xw_589)) (fun _ h9 => h9) rfl d_Mo_finds_85 ?_
      refine xm_calli (ua := fun _ => ad) (va_runV (As := [.int (m_left (Int32.toNatClampNeg x_1)), .int (x_5 / 10), .int m_depth]) (rest := []) ⟨hx, hb, hml, hown, hts⟩ (c_Mo_takes (D := D) (ad := ad) (CE := (fun m_values m_by => (CE m_values m_by m_choice_4)))  (fun m_values m_by => k_M m_values m_by m_choice_4) (fun m_values m_by => k_values m_values m_by m_choice_4) (fun m_values m_by => k_by m_values m_by m_choice_4) (fun m_values m_by m_values' => u_values m_values m_by m_choice_4 m_values') (fun m_values m_by m_by' => u_by m_values m_by m_choice_4 m_by') h _) (xg_cwV 3 hts xw_736 xw_733 xw_735 xw_p34 xw_8 rfl rfl (by decide +kernel) ⟨Nat.le_of_ble_eq_true rfl, Nat.le_of_ble_eq_true rfl⟩) (xm_preV hw (k_M v_2.1 v_2.2.1 m_choice_4) rfl _) rfl rfl hl.1 rfl (lv_room (Nat.le_of_ble_eq_true rfl)) d_Mo_finds_88 ⟨Nat.le_of_ble_eq_true rfl, Nat.le_of_ble_eq_true rfl⟩) hw (fun r_6 u_7 H locs h hw => ?_)
      obtain ⟨m_values_8, em_values_8⟩ : ∃ z, z = u_7.1 := ⟨_, rfl⟩
      obtain ⟨m_by_9, em_by_9⟩ : ∃ z, z = u_7.2 := ⟨_, rfl⟩
      try dsimp only at h hw
      rw [← em_values_8, ← em_by_9] at h hw
      refine xj_use h (fun (v_10 : (Nat → Int32) × (Nat → Int32) × (Nat → Int32)) => ∀ (H : Heap) (locs : List Loc) (ls : Array Slot), xm_W D xcl (xT cI cZ cJ cO) (xm_A ad (CE m_values m_by m_choice) s.heap.size) ad (CE v_10.1 v_10.2.1 v_10.2.2) s s.heap H locs → lv_has ls 3 [(0, .ref (ad iM)), (1, .int x_1)] → W p l e rm_Mo_finds s m args below meth c H locs 0 0 QQ (F0 m 117 ls [])) (fun v_10 h H locs ls hw hl => ?_) (fun J_11 hJ_11 h => ?_)
      · refine lv_aload_n hx hb d_Mo_finds_117 rfl (lv_at hl 0 rfl) ?_
        refine lv_aload_n hx hb d_Mo_finds_118 rfl (lv_at hl 0 rfl) ?_
        refine xm_get (D := D) (v := .int m_depth) (C := R_Mo) (T := F_Mo) (N := 28) hx hb hts (fun w h => List.mem_cons_of_mem _ (i_Mo w h)) hown hw (k_M v_10.1 v_10.2.1 v_10.2.2) rfl 27 (by decide) (hts _ (List.mem_cons_of_mem _ xw_589)) (fun _ h9 => h9) rfl d_Mo_finds_119 ?_
        refine xm_callv (ua := fun _ => ad) (va_runV (As := [.int m_depth]) (rest := []) ⟨hx, hb, hml, hown, hts⟩ (c_Mo_frees (D := D) (ad := ad) (CE := (fun m_values m_by => (CE m_values m_by v_10.2.2)))  (fun m_values m_by => k_M m_values m_by v_10.2.2) (fun m_values m_by => k_values m_values m_by v_10.2.2) (fun m_values m_by => k_by m_values m_by v_10.2.2) (fun m_values m_by m_values' => u_values m_values m_by v_10.2.2 m_values') (fun m_values m_by m_by' => u_by m_values m_by v_10.2.2 m_by') h _) (xg_cwV 1 hts xw_728 xw_725 xw_727 xw_p32 xw_8 rfl rfl (by decide +kernel) ⟨Nat.le_of_ble_eq_true rfl, Nat.le_of_ble_eq_true rfl⟩) (xm_preV hw (k_M v_10.1 v_10.2.1 v_10.2.2) rfl _) rfl rfl hl.1 rfl (lv_room (Nat.le_of_ble_eq_true rfl)) d_Mo_finds_122 ⟨Nat.le_of_ble_eq_true rfl, Nat.le_of_ble_eq_true rfl⟩) hw (fun u_13 H locs h hw => ?_)
        obtain ⟨m_values_14, em_values_14⟩ : ∃ z, z = u_13.1 := ⟨_, rfl⟩
        obtain ⟨m_by_15, em_by_15⟩ : ∃ z, z = u_13.2 := ⟨_, rfl⟩
        try dsimp only at h hw
        rw [← em_values_14, ← em_by_15] at h hw
        refine lv_goto (tgt := 14) hx hb d_Mo_finds_125 (by decide) ?_
        exact hK_3 (m_values_14, m_by_15, v_10.2.2) h _ _ _ hw (lv_sub hl [1, 0] rfl)
      · refine lv_if_eq (tgt := 117) hx hb d_Mo_finds_91 (by decide) (fun hc => ?_) (fun hc => ?_)
        · have h := h.1 hc
          exact hJ_11 (m_values_8, m_by_9, m_choice_4) h _ _ _ hw (lv_sub hl [2, 1] rfl)
        · have h := h.2 hc
          refine lv_aload_n hx hb d_Mo_finds_94 rfl (lv_at hl 2 rfl) ?_
          refine lv_aload_n hx hb d_Mo_finds_95 rfl (lv_at hl 2 rfl) ?_
          refine xm_get (D := D) (v := .ref (ad i_right)) (C := R_Mo) (T := F_Mo) (N := 28) hx hb hts (fun w h => List.mem_cons_of_mem _ (i_Mo w h)) hown hw (k_M m_values_8 m_by_9 m_choice_4) rfl 8 (by decide) (hts _ (List.mem_cons_of_mem _ xw_570)) (fun _ h9 => h9) rfl d_Mo_finds_96 ?_
          refine lv_iload_n hx hb d_Mo_finds_99 rfl (lv_at hl 1 rfl) ?_
          obtain ⟨hin, h⟩ := h
          refine xm_iald hx hb hw 0 (k_right m_values_8 m_by_9 m_choice_4) rfl hin d_Mo_finds_100 ?_
          refine lv_iload_n hx hb d_Mo_finds_101 rfl (lv_at hl 0 rfl) ?_
          refine lv_bipush (v := 10) hx hb d_Mo_finds_102 (by decide) ?_
          refine lv_irem hx hb d_Mo_finds_104 (by decide) ?_
          refine lv_aload_n hx hb d_Mo_finds_105 rfl (lv_at hl 2 rfl) ?_
          refine xm_get (D := D) (v := .int m_depth) (C := R_Mo) (T := F_Mo) (N := 28) hx hb hts (fun w h => List.mem_cons_of_mem _ (i_Mo w h)) hown hw (k_M m_values_8 m_by_9 m_choice_4) rfl 27 (by decide) (hts _ (List.mem_cons_of_mem _ xw_589)) (fun _ h9 => h9) rfl d_Mo_finds_106 ?_
          refine xm_calli (ua := fun _ => ad) (va_runV (As := [.int (m_right (Int32.toNatClampNeg x_1)), .int (x_5 - (x_5 / 10) * 10), .int m_depth]) (rest := []) ⟨hx, hb, hml, hown, hts⟩ (c_Mo_takes (D := D) (ad := ad) (CE := (fun m_values m_by => (CE m_values m_by m_choice_4)))  (fun m_values m_by => k_M m_values m_by m_choice_4) (fun m_values m_by => k_values m_values m_by m_choice_4) (fun m_values m_by => k_by m_values m_by m_choice_4) (fun m_values m_by m_values' => u_values m_values m_by m_choice_4 m_values') (fun m_values m_by m_by' => u_by m_values m_by m_choice_4 m_by') h _) (xg_cwV 3 hts xw_736 xw_733 xw_735 xw_p34 xw_8 rfl rfl (by decide +kernel) ⟨Nat.le_of_ble_eq_true rfl, Nat.le_of_ble_eq_true rfl⟩) (xm_preV hw (k_M m_values_8 m_by_9 m_choice_4) rfl _) rfl rfl hl.1 rfl (lv_room (Nat.le_of_ble_eq_true rfl)) d_Mo_finds_109 ⟨Nat.le_of_ble_eq_true rfl, Nat.le_of_ble_eq_true rfl⟩) hw (fun r_16 u_17 H locs h hw => ?_)
          obtain ⟨m_values_18, em_values_18⟩ : ∃ z, z = u_17.1 := ⟨_, rfl⟩
          obtain ⟨m_by_19, em_by_19⟩ : ∃ z, z = u_17.2 := ⟨_, rfl⟩
          try dsimp only at h hw
          rw [← em_values_18, ← em_by_19] at h hw
          refine lv_if_eq (tgt := 117) hx hb d_Mo_finds_112 (by decide) (fun hc => ?_) (fun hc => ?_)
          · have h := h.1 hc
            exact hJ_11 (m_values_18, m_by_19, m_choice_4) h _ _ _ hw (lv_sub hl [2, 1] rfl)
          · have h := h.2 hc
            refine lv_iconst (v := 1) hx hb d_Mo_finds_115 (by decide) ?_
            subst hQQ
            exact xm_zret hx hb hr hlk rfl hw (m_values_18, m_by_19, m_choice_4) rfl rfl h d_Mo_finds_116
    · have h := h.2 hc
      refine lv_goto (tgt := 14) hx hb d_Mo_finds_70 (by decide) ?_
      exact hK_3 (v_2.1, v_2.2.1, m_choice_4) h _ _ _ hw (lv_sub hl [1, 2] rfl)
