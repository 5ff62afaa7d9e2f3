theorem xw_409 : (Jvm.Cond.code ({ cls := "java/util/ArrayList", name := "add", desc := "(Ljava/lang/Object;)Z" } : Jvm.MethodName) prog_21_method_25_code (2 : Nat) (Option.some Jvm.ClassFile.FieldType.boolean)) ∈ xg := xg_t (i := 409) (by decide +kernel) (by decide +kernel)
theorem xw_406 : (Jvm.Cond.methodLink "QuestionDesk" (112 : Nat) ({ cls := "java/util/ArrayList", name := "add", desc := "(Ljava/lang/Object;)Z" } : Jvm.MethodName)) ∈ xg := xg_t (i := 406) (by decide +kernel) (by decide +kernel)
theorem xw_407 : (Jvm.Cond.instanceMethod ({ cls := "java/util/ArrayList", name := "add", desc := "(Ljava/lang/Object;)Z" } : Jvm.MethodName)) ∈ xg := xg_t (i := 407) (by decide +kernel) (by decide +kernel)
theorem xw_408 : (Jvm.Cond.selects "java/util/ArrayList" ({ cls := "java/util/ArrayList", name := "add", desc := "(Ljava/lang/Object;)Z" } : Jvm.MethodName) ({ cls := "java/util/ArrayList", name := "add", desc := "(Ljava/lang/Object;)Z" } : Jvm.MethodName)) ∈ xg := xg_t (i := 408) (by decide +kernel) (by decide +kernel)
theorem xw_387 : (Jvm.Cond.code ({ cls := "QuestionDesk$Rule", name := "isSafe", desc := "()Z" } : Jvm.MethodName) prog_4_method_6_code (3 : Nat) (Option.some Jvm.ClassFile.FieldType.boolean)) ∈ xg := xg_t (i := 387) (by decide +kernel) (by decide +kernel)
theorem xw_384 : (Jvm.Cond.methodLink "QuestionDesk" (101 : Nat) ({ cls := "QuestionDesk$Rule", name := "isSafe", desc := "()Z" } : Jvm.MethodName)) ∈ xg := xg_t (i := 384) (by decide +kernel) (by decide +kernel)
theorem xw_385 : (Jvm.Cond.instanceMethod ({ cls := "QuestionDesk$Rule", name := "isSafe", desc := "()Z" } : Jvm.MethodName)) ∈ xg := xg_t (i := 385) (by decide +kernel) (by decide +kernel)
theorem xw_386 : (Jvm.Cond.selects "QuestionDesk$Rule" ({ cls := "QuestionDesk$Rule", name := "isSafe", desc := "()Z" } : Jvm.MethodName) ({ cls := "QuestionDesk$Rule", name := "isSafe", desc := "()Z" } : Jvm.MethodName)) ∈ xg := xg_t (i := 386) (by decide +kernel) (by decide +kernel)
def wp_Qd_doneA (post : Int32 → Value → (Nat → Int32) → (Nat → Int32) → Int32 → Int32 → (Nat → Option Nat) → Prop) (ad : Nat → Nat) (iwU : Nat) (nE : Nat) (wna : Int32) (wrf : Nat → Int32) (wrc : Nat → Int32) (lz : Int32) (mo : Int32) (ec : Nat → Option Nat) : Prop :=
xj (fun (v_1 : Unit) =>
post (-1) .null wrf wrc lz mo ec) (fun (J_2 : Unit → Prop) =>
((wna = 0 →
J_2 ()) ∧ (¬ wna = 0 →
wp_Ru_isSafe (fun r_3 =>
((r_3 = 0 →
J_2 ()) ∧ (¬ r_3 = 0 →
wp_Al_size (fun r_5 =>
((r_5 < 30 →
wp_Ru_blankLoneVariables (fun wrf_9 wrc_10 =>
wp_Al_addA (fun r_11 lz_13 mo_14 ec_15 =>
wp_Al_size (fun r_16 =>
post (r_16 - 1) .null wrf_9 wrc_10 lz_13 mo_14 ec_15) lz_13) ad iwU nE lz mo ec) wna wrf wrc) ∧ (¬ r_5 < 30 →
J_2 ()))) lz))) wrf wrc wna)))
abbrev rm_Qd_doneA : Room := { frames := 4, cells := 0, slots := 0, locals := 84 }
set_option maxHeartbeats 4000000 in
set_option maxRecDepth 100000 in
theorem c_Qd_doneA {l : Launch} {D : va_G} {ad : Nat → Nat} (CE : Value → (Nat → Int32) → (Nat → Int32) → Int32 → Int32 → (Nat → Option Nat) → Nat → Option va_E) {cI cZ cJ cO : ClassId} {iQ : Nat} {ipl : Nat} {ibr : Nat} {iL : Nat} {iP : Nat} {iM : Nat} {iU : Nat} {ipt : Nat} {iE : Nat} {iwU : Nat} {iwA : Nat} {iwB : Nat} {iwC : Nat} {nE : Nat} {wna : Int32} {np : Int32} {rw : Int32} {aq : Int32} {pn : Int32} {wrs : Nat → Int32} {t0 mi : Nat} (k_Q : ∀ (bg : Value) (wrf : Nat → Int32) (wrc : Nat → Int32) (lz : Int32) (mo : Int32) (ec : Nat → Option Nat), (CE bg wrf wrc lz mo ec) iQ = some (.inr (0, [.ref (ad ipl), .ref (ad ibr), .int np, .ref (ad iL), bg, .ref (ad iP), .ref (ad iM), .ref (ad iU), .ref (ad ipt), .int rw, .int aq, .int pn]))) (k_L : ∀ (bg : Value) (wrf : Nat → Int32) (wrc : Nat → Int32) (lz : Int32) (mo : Int32) (ec : Nat → Option Nat), (CE bg wrf wrc lz mo ec) iL = some (.inr (5, [.ref (ad iE), .int lz, .int mo]))) (k_E : ∀ (bg : Value) (wrf : Nat → Int32) (wrc : Nat → Int32) (lz : Int32) (mo : Int32) (ec : Nat → Option Nat), (CE bg wrf wrc lz mo ec) iE = some (.inl (cO, nE, .inr (.inr (.inr (.inr ec)))))) (k_wU : ∀ (bg : Value) (wrf : Nat → Int32) (wrc : Nat → Int32) (lz : Int32) (mo : Int32) (ec : Nat → Option Nat), (CE bg wrf wrc lz mo ec) iwU = some (.inr (3, [.ref (ad iwA), .ref (ad iwB), .ref (ad iwC), .int wna]))) (k_wA : ∀ (bg : Value) (wrf : Nat → Int32) (wrc : Nat → Int32) (lz : Int32) (mo : Int32) (ec : Nat → Option Nat), (CE bg wrf wrc lz mo ec) iwA = some (.inl (cI, 4, .inl wrs))) (k_wB : ∀ (bg : Value) (wrf : Nat → Int32) (wrc : Nat → Int32) (lz : Int32) (mo : Int32) (ec : Nat → Option Nat), (CE bg wrf wrc lz mo ec) iwB = some (.inl (cI, 4, .inl wrf))) (k_wC : ∀ (bg : Value) (wrf : Nat → Int32) (wrc : Nat → Int32) (lz : Int32) (mo : Int32) (ec : Nat → Option Nat), (CE bg wrf wrc lz mo ec) iwC = some (.inl (cI, 4, .inl wrc))) (u_Q : ∀ (bg : Value) (wrf : Nat → Int32) (wrc : Nat → Int32) (lz : Int32) (mo : Int32) (ec : Nat → Option Nat) (bg' : Value), va_up (CE bg wrf wrc lz mo ec) iQ (some (.inr (0, [.ref (ad ipl), .ref (ad ibr), .int np, .ref (ad iL), bg', .ref (ad iP), .ref (ad iM), .ref (ad iU), .ref (ad ipt), .int rw, .int aq, .int pn]))) = (CE bg' wrf wrc lz mo ec)) (u_L : ∀ (bg : Value) (wrf : Nat → Int32) (wrc : Nat → Int32) (lz : Int32) (mo : Int32) (ec : Nat → Option Nat) (lz' : Int32) (mo' : Int32), va_up (CE bg wrf wrc lz mo ec) iL (some (.inr (5, [.ref (ad iE), .int lz', .int mo']))) = (CE bg wrf wrc lz' mo' ec)) (u_E : ∀ (bg : Value) (wrf : Nat → Int32) (wrc : Nat → Int32) (lz : Int32) (mo : Int32) (ec : Nat → Option Nat) (ec' : Nat → Option Nat), va_up (CE bg wrf wrc lz mo ec) iE (some (.inl (cO, nE, .inr (.inr (.inr (.inr ec')))))) = (CE bg wrf wrc lz mo ec')) (u_wB : ∀ (bg : Value) (wrf : Nat → Int32) (wrc : Nat → Int32) (lz : Int32) (mo : Int32) (ec : Nat → Option Nat) (wrf' : Nat → Int32), va_up (CE bg wrf wrc lz mo ec) iwB (some (.inl (cI, 4, .inl wrf'))) = (CE bg wrf' wrc lz mo ec)) (u_wC : ∀ (bg : Value) (wrf : Nat → Int32) (wrc : Nat → Int32) (lz : Int32) (mo : Int32) (ec : Nat → Option Nat) (wrc' : Nat → Int32), va_up (CE bg wrf wrc lz mo ec) iwC (some (.inl (cI, 4, .inl wrc'))) = (CE bg wrf wrc' lz mo ec)) {post : Int32 → Value → (Nat → Int32) → (Nat → Int32) → Int32 → Int32 → (Nat → Option Nat) → Prop} {wrf : Nat → Int32} {wrc : Nat → Int32} {lz : Int32} {mo : Int32} {ec : Nat → Option Nat} (h : wp_Qd_doneA post ad iwU nE wna wrf wrc lz mo ec) : ∀ sz, Met l y_Qd_done (Cond.code y_Qd_done b_Qd_done 2 (some .int) :: xg) rm_Qd_doneA (xq_Pc t0 mi D xcl (xT cI cZ cJ cO) ad (CE (.ref (ad iwU)) wrf wrc lz mo ec) sz [.ref (ad iQ)]) (va_Qi (fun (r : Int32) (u : Value × (Nat → Int32) × (Nat → Int32) × Int32 × Int32 × (Nat → Option Nat)) => post r u.1 u.2.1 u.2.2.1 u.2.2.2.1 u.2.2.2.2.1 u.2.2.2.2.2) (xm_B D xcl (xT cI cZ cJ cO) (xm_A ad (CE (.ref (ad iwU)) wrf wrc lz mo ec) sz) (fun _ => ad) (fun u : Value × (Nat → Int32) × (Nat → Int32) × Int32 × Int32 × (Nat → Option Nat) => CE u.1 u.2.1 u.2.2.1 u.2.2.2.1 u.2.2.2.2.1 u.2.2.2.2.2)) (xm_A ad (CE (.ref (ad iwU)) wrf wrc lz mo ec) sz)) 0 0 (xm_A ad (CE (.ref (ad iwU)) wrf wrc lz mo ec) sz) := by
  refine xq_ofW (cc := b_Qd_done) (maxL := 2) (ret := (some .int)) (by decide) rfl (Nat.le_of_ble_eq_true rfl) ?_
  intro p e s m args below meth c ls QQ hQQ hT hx hb hml hr hown hlk hnm hts hl hw
  have hl : lv_has ls 2 [(0, .ref (ad iQ))] := hl
  unfold wp_Qd_doneA at h
  refine lv_aload_n hx hb d_Qd_done_0 rfl (lv_at hl 0 rfl) ?_
  refine xm_get (D := D) (v := .ref (ad iwU)) (C := R_Qd) (T := F_Qd) (N := 12) hx hb hts (fun w h => List.mem_cons_of_mem _ (i_Qd w h)) hown hw (k_Q (.ref (ad iwU)) wrf wrc lz mo ec) rfl 4 (by decide) (hts _ (List.mem_cons_of_mem _ xw_111)) (fun _ h9 => h9) rfl d_Qd_done_1 ?_
  refine lv_ifnonnull (tgt := 17) hx hb d_Qd_done_4 (by decide) ?_
  refine lv_aload_n hx hb d_Qd_done_17 rfl (lv_at hl 0 rfl) ?_
  refine xm_get (D := D) (v := .ref (ad iwU)) (C := R_Qd) (T := F_Qd) (N := 12) hx hb hts (fun w h => List.mem_cons_of_mem _ (i_Qd w h)) hown hw (k_Q (.ref (ad iwU)) wrf wrc lz mo ec) rfl 4 (by decide) (hts _ (List.mem_cons_of_mem _ xw_111)) (fun _ h9 => h9) rfl d_Qd_done_18 ?_
  refine lv_astore_n (lv' := [(1, .ref (ad iwU)), (0, .ref (ad iQ))]) hx hb d_Qd_done_21 rfl hl (by decide) rfl (fun ls hl => ?_)
  refine lv_aload_n hx hb d_Qd_done_22 rfl (lv_at hl 1 rfl) ?_
  refine lv_null hx hb d_Qd_done_23 ?_
  refine xm_put (D := D) (v := .null) (ty := .object "QuestionDesk$Rule") (C := R_Qd) (T := F_Qd) (N := 12) hx hb hts (fun w h => List.mem_cons_of_mem _ (i_Qd w h)) t_Qd o_Qd n_Qd hown hw (k_Q (.ref (ad iwU)) wrf wrc lz mo ec) rfl 4 (by decide) (hts _ (List.mem_cons_of_mem _ xw_111)) (fun _ h9 => h9) rfl (by decide +kernel) rfl rfl (Nat.le_of_ble_eq_true rfl) d_Qd_done_24 (fun H locs hw => ?_)
  have hw : xm_W D xcl (xT cI cZ cJ cO) (xm_A ad (CE (.ref (ad iwU)) wrf wrc lz mo ec) s.heap.size) ad (CE .null wrf wrc lz mo ec) s s.heap H locs := xm_W.cast (u_Q (.ref (ad iwU)) wrf wrc lz mo ec .null) hw
  refine lv_aload_n hx hb d_Qd_done_27 rfl (lv_at hl 0 rfl) ?_
  refine xm_get (D := D) (v := .int wna) (C := R_Ru) (T := F_Ru) (N := 4) hx hb hts (fun w h => List.mem_cons_of_mem _ (i_Ru w h)) hown hw (k_wU .null wrf wrc lz mo ec) rfl 3 (by decide) (hts _ (List.mem_cons_of_mem _ xw_97)) (fun _ h9 => h9) rfl d_Qd_done_28 ?_
  refine xj_use h (fun (v_1 : Unit) => ∀ (H : Heap) (locs : List Loc) (ls : Array Slot), xm_W D xcl (xT cI cZ cJ cO) (xm_A ad (CE (.ref (ad iwU)) wrf wrc lz mo ec) s.heap.size) ad (CE .null wrf wrc lz mo ec) s s.heap H locs → lv_has ls 2 [] → W p l e rm_Qd_doneA s m args below meth c H locs 0 0 QQ (F0 m 53 ls [])) (fun v_1 h H locs ls hw hl => ?_) (fun J_2 hJ_2 h => ?_)
  · refine lv_iconst (v := (-1)) hx hb d_Qd_done_53 (by decide) ?_
    subst hQQ
    exact xm_iret hx hb hr hlk hw (.null, wrf, wrc, lz, mo, ec) rfl rfl h d_Qd_done_54
  · refine lv_if_eq (tgt := 53) hx hb d_Qd_done_31 (by decide) (fun hc => ?_) (fun hc => ?_)
    · have h := h.1 hc
      exact hJ_2 () h _ _ _ hw (lv_sub hl [] rfl)
    · have h := h.2 hc
      refine lv_aload_n hx hb d_Qd_done_34 rfl (lv_at hl 0 rfl) ?_
      refine xm_calli (ua := fun _ => ad) (va_runV (As := []) (rest := []) ⟨hx, hb, hml, hown, hts⟩ (c_Ru_isSafe (D := D) (ad := ad) (CE := ((CE .null wrf wrc lz mo ec)))  (k_wU .null wrf wrc lz mo ec) (k_wA .null wrf wrc lz mo ec) (k_wB .null wrf wrc lz mo ec) (k_wC .null wrf wrc lz mo ec) h _) (xg_cwV 0 hts xw_387 xw_384 xw_385 xw_386 xw_7 rfl rfl (by decide +kernel) ⟨Nat.le_of_ble_eq_true rfl, Nat.le_of_ble_eq_true rfl⟩) (xm_preV hw (k_wU .null wrf wrc lz mo ec) rfl _) rfl rfl hl.1 rfl (lv_room (Nat.le_of_ble_eq_true rfl)) d_Qd_done_35 ⟨Nat.le_of_ble_eq_true rfl, Nat.le_of_ble_eq_true rfl⟩) hw (fun r_3 _ H locs h hw => ?_)
      refine lv_if_eq (tgt := 53) hx hb d_Qd_done_38 (by decide) (fun hc => ?_) (fun hc => ?_)
      · have h := h.1 hc
        exact hJ_2 () h _ _ _ hw (lv_sub hl [] rfl)
      · have h := h.2 hc
        refine lv_aload_n hx hb d_Qd_done_41 rfl (lv_at hl 1 rfl) ?_
        refine xm_get (D := D) (v := .ref (ad iL)) (C := R_Qd) (T := F_Qd) (N := 12) hx hb hts (fun w h => List.mem_cons_of_mem _ (i_Qd w h)) hown hw (k_Q .null wrf wrc lz mo ec) rfl 3 (by decide) (hts _ (List.mem_cons_of_mem _ xw_110)) (fun _ h9 => h9) rfl d_Qd_done_42 ?_
        refine xm_calli (ua := fun _ => ad) (va_runV (As := []) (rest := []) ⟨hx, hb, hml, hown, hts⟩ (c_Al_size (D := D) (ad := ad) (CE := ((CE .null wrf wrc lz mo ec)))  (k_L .null wrf wrc lz mo ec) h _) (xg_cwV 0 hts xw_151 xw_148 xw_149 xw_150 xw_4 rfl rfl (by decide +kernel) ⟨Nat.le_of_ble_eq_true rfl, Nat.le_of_ble_eq_true rfl⟩) (xm_preV hw (k_L .null wrf wrc lz mo ec) rfl _) rfl rfl hl.1 rfl (lv_room (Nat.le_of_ble_eq_true rfl)) d_Qd_done_45 ⟨Nat.le_of_ble_eq_true rfl, Nat.le_of_ble_eq_true rfl⟩) hw (fun r_5 _ H locs h hw => ?_)
        refine lv_bipush (v := 30) hx hb d_Qd_done_48 (by decide) ?_
        refine lv_icmp_lt (tgt := 55) hx hb d_Qd_done_50 (by decide) (fun hc => ?_) (fun hc => ?_)
        · have h := h.1 hc
          refine lv_aload_n hx hb d_Qd_done_55 rfl (lv_at hl 0 rfl) ?_
          refine xm_callv (ua := fun _ => ad) (va_runV (As := []) (rest := []) ⟨hx, hb, hml, hown, hts⟩ (c_Ru_blankLoneVariables (D := D) (ad := ad) (CE := (fun rf rc => (CE .null rf rc lz mo ec)))  (fun rf rc => k_wU .null rf rc lz mo ec) (fun rf rc => k_wA .null rf rc lz mo ec) (fun rf rc => k_wB .null rf rc lz mo ec) (fun rf rc => k_wC .null rf rc lz mo ec) (fun rf rc rf' => u_wB .null rf rc lz mo ec rf') (fun rf rc rc' => u_wC .null rf rc lz mo ec rc') h _) (xg_cwV 0 hts xw_401 xw_398 xw_399 xw_400 xw_7 rfl rfl (by decide +kernel) ⟨Nat.le_of_ble_eq_true rfl, Nat.le_of_ble_eq_true rfl⟩) (xm_preV hw (k_wU .null wrf wrc lz mo ec) rfl _) rfl rfl hl.1 rfl (lv_room (Nat.le_of_ble_eq_true rfl)) d_Qd_done_56 ⟨Nat.le_of_ble_eq_true rfl, Nat.le_of_ble_eq_true rfl⟩) hw (fun u_8 H locs h hw => ?_)
          obtain ⟨wrf_9, ewrf_9⟩ : ∃ z, z = u_8.1 := ⟨_, rfl⟩
          obtain ⟨wrc_10, ewrc_10⟩ : ∃ z, z = u_8.2 := ⟨_, rfl⟩
          try dsimp only at h hw
          rw [← ewrf_9, ← ewrc_10] at h hw
          refine lv_aload_n hx hb d_Qd_done_59 rfl (lv_at hl 1 rfl) ?_
          refine xm_get (D := D) (v := .ref (ad iL)) (C := R_Qd) (T := F_Qd) (N := 12) hx hb hts (fun w h => List.mem_cons_of_mem _ (i_Qd w h)) hown hw (k_Q .null wrf_9 wrc_10 lz mo ec) rfl 3 (by decide) (hts _ (List.mem_cons_of_mem _ xw_110)) (fun _ h9 => h9) rfl d_Qd_done_60 ?_
          refine lv_aload_n hx hb d_Qd_done_63 rfl (lv_at hl 0 rfl) ?_
          refine xm_calli (ua := fun _ => ad) (va_runV (As := [.ref (ad iwU)]) (rest := []) ⟨hx, hb, hml, hown, hts⟩ (c_Al_addA (D := D) (ad := ad) (CE := (fun lz mo ec => (CE .null wrf_9 wrc_10 lz mo ec)))  (fun lz mo ec => k_L .null wrf_9 wrc_10 lz mo ec) (fun lz mo ec => k_E .null wrf_9 wrc_10 lz mo ec) (fun lz mo ec => k_wU .null wrf_9 wrc_10 lz mo ec) (fun lz mo ec lz' mo' => u_L .null wrf_9 wrc_10 lz mo ec lz' mo') (fun lz mo ec ec' => u_E .null wrf_9 wrc_10 lz mo ec ec') h _) (xg_cwV 1 hts xw_409 xw_406 xw_407 xw_408 xw_4 rfl rfl (by decide +kernel) ⟨Nat.le_of_ble_eq_true rfl, Nat.le_of_ble_eq_true rfl⟩) (xq_preV hw hT (k_L .null wrf_9 wrc_10 lz mo ec) rfl _) rfl rfl hl.1 rfl (lv_room (Nat.le_of_ble_eq_true rfl)) d_Qd_done_64 ⟨Nat.le_of_ble_eq_true rfl, Nat.le_of_ble_eq_true rfl⟩) hw (fun r_11 u_12 H locs h hw => ?_)
          obtain ⟨lz_13, elz_13⟩ : ∃ z, z = u_12.1 := ⟨_, rfl⟩
          obtain ⟨mo_14, emo_14⟩ : ∃ z, z = u_12.2.1 := ⟨_, rfl⟩
          obtain ⟨ec_15, eec_15⟩ : ∃ z, z = u_12.2.2 := ⟨_, rfl⟩
          try dsimp only at h hw
          rw [← elz_13, ← emo_14, ← eec_15] at h hw
          refine lv_pop hx hb d_Qd_done_67 rfl ?_
          refine lv_aload_n hx hb d_Qd_done_68 rfl (lv_at hl 1 rfl) ?_
          refine xm_get (D := D) (v := .ref (ad iL)) (C := R_Qd) (T := F_Qd) (N := 12) hx hb hts (fun w h => List.mem_cons_of_mem _ (i_Qd w h)) hown hw (k_Q .null wrf_9 wrc_10 lz_13 mo_14 ec_15) rfl 3 (by decide) (hts _ (List.mem_cons_of_mem _ xw_110)) (fun _ h9 => h9) rfl d_Qd_done_69 ?_
          refine xm_calli (ua := fun _ => ad) (va_runV (As := []) (rest := []) ⟨hx, hb, hml, hown, hts⟩ (c_Al_size (D := D) (ad := ad) (CE := ((CE .null wrf_9 wrc_10 lz_13 mo_14 ec_15)))  (k_L .null wrf_9 wrc_10 lz_13 mo_14 ec_15) h _) (xg_cwV 0 hts xw_151 xw_148 xw_149 xw_150 xw_4 rfl rfl (by decide +kernel) ⟨Nat.le_of_ble_eq_true rfl, Nat.le_of_ble_eq_true rfl⟩) (xm_preV hw (k_L .null wrf_9 wrc_10 lz_13 mo_14 ec_15) rfl _) rfl rfl hl.1 rfl (lv_room (Nat.le_of_ble_eq_true rfl)) d_Qd_done_72 ⟨Nat.le_of_ble_eq_true rfl, Nat.le_of_ble_eq_true rfl⟩) hw (fun r_16 _ H locs h hw => ?_)
          refine lv_iconst (v := 1) hx hb d_Qd_done_75 (by decide) ?_
          refine lv_isub hx hb d_Qd_done_76 ?_
          subst hQQ
          exact xm_iret hx hb hr hlk hw (.null, wrf_9, wrc_10, lz_13, mo_14, ec_15) rfl rfl h d_Qd_done_77
        · have h := h.2 hc
          exact hJ_2 () h _ _ _ hw (lv_sub hl [] rfl)
def wp_La_doneA (post : Int32 → Value → (Nat → Int32) → (Nat → Int32) → Int32 → Int32 → (Nat → Option Nat) → (Nat → Int64) → Prop) (ad : Nat → Nat) (iwU : Nat) (nE : Nat) (wna : Int32) (wrf : Nat → Int32) (wrc : Nat → Int32) (lz : Int32) (mo : Int32) (ec : Nat → Option Nat) (oc : Nat → Int64) : Prop :=
wp_Qd_doneA (fun r_1 bg_3 wrf_4 wrc_5 lz_6 mo_7 ec_8 =>
vp_in 0 1 ∧
∀ oc_9 : Nat → Int64, oc_9 = vp_updL oc (Int32.toNatClampNeg 0) r_1.toInt64 →
post 0 bg_3 wrf_4 wrc_5 lz_6 mo_7 ec_8 oc_9) ad iwU nE wna wrf wrc lz mo ec
abbrev rm_La_doneA : Room := { frames := 5, cells := 0, slots := 0, locals := 105 }
set_option maxHeartbeats 4000000 in
set_option maxRecDepth 100000 in
theorem c_La_doneA {l : Launch} {D : va_G} {ad : Nat → Nat} (CE : Value → (Nat → Int32) → (Nat → Int32) → Int32 → Int32 → (Nat → Option Nat) → (Nat → Int64) → Nat → Option va_E) {cI cZ cJ cO : ClassId} {iQ : Nat} {ipl : Nat} {ibr : Nat} {iL : Nat} {iP : Nat} {iM : Nat} {iU : Nat} {ipt : Nat} {iE : Nat} {iwU : Nat} {iwA : Nat} {iwB : Nat} {iwC : Nat} {iO : Nat} {nE : Nat} {wna : Int32} {np : Int32} {rw : Int32} {aq : Int32} {pn : Int32} {wrs : Nat → Int32} {t0 mi : Nat} (k_Q : ∀ (bg : Value) (wrf : Nat → Int32) (wrc : Nat → Int32) (lz : Int32) (mo : Int32) (ec : Nat → Option Nat) (oc : Nat → Int64), (CE bg wrf wrc lz mo ec oc) iQ = some (.inr (0, [.ref (ad ipl), .ref (ad ibr), .int np, .ref (ad iL), bg, .ref (ad iP), .ref (ad iM), .ref (ad iU), .ref (ad ipt), .int rw, .int aq, .int pn]))) (k_L : ∀ (bg : Value) (wrf : Nat → Int32) (wrc : Nat → Int32) (lz : Int32) (mo : Int32) (ec : Nat → Option Nat) (oc : Nat → Int64), (CE bg wrf wrc lz mo ec oc) iL = some (.inr (5, [.ref (ad iE), .int lz, .int mo]))) (k_E : ∀ (bg : Value) (wrf : Nat → Int32) (wrc : Nat → Int32) (lz : Int32) (mo : Int32) (ec : Nat → Option Nat) (oc : Nat → Int64), (CE bg wrf wrc lz mo ec oc) iE = some (.inl (cO, nE, .inr (.inr (.inr (.inr ec)))))) (k_wU : ∀ (bg : Value) (wrf : Nat → Int32) (wrc : Nat → Int32) (lz : Int32) (mo : Int32) (ec : Nat → Option Nat) (oc : Nat → Int64), (CE bg wrf wrc lz mo ec oc) iwU = some (.inr (3, [.ref (ad iwA), .ref (ad iwB), .ref (ad iwC), .int wna]))) (k_wA : ∀ (bg : Value) (wrf : Nat → Int32) (wrc : Nat → Int32) (lz : Int32) (mo : Int32) (ec : Nat → Option Nat) (oc : Nat → Int64), (CE bg wrf wrc lz mo ec oc) iwA = some (.inl (cI, 4, .inl wrs))) (k_wB : ∀ (bg : Value) (wrf : Nat → Int32) (wrc : Nat → Int32) (lz : Int32) (mo : Int32) (ec : Nat → Option Nat) (oc : Nat → Int64), (CE bg wrf wrc lz mo ec oc) iwB = some (.inl (cI, 4, .inl wrf))) (k_wC : ∀ (bg : Value) (wrf : Nat → Int32) (wrc : Nat → Int32) (lz : Int32) (mo : Int32) (ec : Nat → Option Nat) (oc : Nat → Int64), (CE bg wrf wrc lz mo ec oc) iwC = some (.inl (cI, 4, .inl wrc))) (k_O : ∀ (bg : Value) (wrf : Nat → Int32) (wrc : Nat → Int32) (lz : Int32) (mo : Int32) (ec : Nat → Option Nat) (oc : Nat → Int64), (CE bg wrf wrc lz mo ec oc) iO = some (.inl (cJ, 1, .inr (.inl oc)))) (u_Q : ∀ (bg : Value) (wrf : Nat → Int32) (wrc : Nat → Int32) (lz : Int32) (mo : Int32) (ec : Nat → Option Nat) (oc : Nat → Int64) (bg' : Value), va_up (CE bg wrf wrc lz mo ec oc) iQ (some (.inr (0, [.ref (ad ipl), .ref (ad ibr), .int np, .ref (ad iL), bg', .ref (ad iP), .ref (ad iM), .ref (ad iU), .ref (ad ipt), .int rw, .int aq, .int pn]))) = (CE bg' wrf wrc lz mo ec oc)) (u_L : ∀ (bg : Value) (wrf : Nat → Int32) (wrc : Nat → Int32) (lz : Int32) (mo : Int32) (ec : Nat → Option Nat) (oc : Nat → Int64) (lz' : Int32) (mo' : Int32), va_up (CE bg wrf wrc lz mo ec oc) iL (some (.inr (5, [.ref (ad iE), .int lz', .int mo']))) = (CE bg wrf wrc lz' mo' ec oc)) (u_E : ∀ (bg : Value) (wrf : Nat → Int32) (wrc : Nat → Int32) (lz : Int32) (mo : Int32) (ec : Nat → Option Nat) (oc : Nat → Int64) (ec' : Nat → Option Nat), va_up (CE bg wrf wrc lz mo ec oc) iE (some (.inl (cO, nE, .inr (.inr (.inr (.inr ec')))))) = (CE bg wrf wrc lz mo ec' oc)) (u_wB : ∀ (bg : Value) (wrf : Nat → Int32) (wrc : Nat → Int32) (lz : Int32) (mo : Int32) (ec : Nat → Option Nat) (oc : Nat → Int64) (wrf' : Nat → Int32), va_up (CE bg wrf wrc lz mo ec oc) iwB (some (.inl (cI, 4, .inl wrf'))) = (CE bg wrf' wrc lz mo ec oc)) (u_wC : ∀ (bg : Value) (wrf : Nat → Int32) (wrc : Nat → Int32) (lz : Int32) (mo : Int32) (ec : Nat → Option Nat) (oc : Nat → Int64) (wrc' : Nat → Int32), va_up (CE bg wrf wrc lz mo ec oc) iwC (some (.inl (cI, 4, .inl wrc'))) = (CE bg wrf wrc' lz mo ec oc)) (u_O : ∀ (bg : Value) (wrf : Nat → Int32) (wrc : Nat → Int32) (lz : Int32) (mo : Int32) (ec : Nat → Option Nat) (oc : Nat → Int64) (oc' : Nat → Int64), va_up (CE bg wrf wrc lz mo ec oc) iO (some (.inl (cJ, 1, .inr (.inl oc')))) = (CE bg wrf wrc lz mo ec oc')) {post : Int32 → Value → (Nat → Int32) → (Nat → Int32) → Int32 → Int32 → (Nat → Option Nat) → (Nat → Int64) → Prop} {wrf : Nat → Int32} {wrc : Nat → Int32} {lz : Int32} {mo : Int32} {ec : Nat → Option Nat} {oc : Nat → Int64} (h : wp_La_doneA post ad iwU nE wna wrf wrc lz mo ec oc) : ∀ sz, Met l y_La_done (Cond.codeWith y_La_done b_La_done 3 (some .int) [(0, 8, 11, 30)] :: xg) rm_La_doneA (xq_Pc t0 mi D xcl (xT cI cZ cJ cO) ad (CE (.ref (ad iwU)) wrf wrc lz mo ec oc) sz [.ref (ad iQ), .ref (ad iO)]) (va_Qi (fun (r : Int32) (u : Value × (Nat → Int32) × (Nat → Int32) × Int32 × Int32 × (Nat → Option Nat) × (Nat → Int64)) => post r u.1 u.2.1 u.2.2.1 u.2.2.2.1 u.2.2.2.2.1 u.2.2.2.2.2.1 u.2.2.2.2.2.2) (xm_B D xcl (xT cI cZ cJ cO) (xm_A ad (CE (.ref (ad iwU)) wrf wrc lz mo ec oc) sz) (fun _ => ad) (fun u : Value × (Nat → Int32) × (Nat → Int32) × Int32 × Int32 × (Nat → Option Nat) × (Nat → Int64) => CE u.1 u.2.1 u.2.2.1 u.2.2.2.1 u.2.2.2.2.1 u.2.2.2.2.2.1 u.2.2.2.2.2.2)) (xm_A ad (CE (.ref (ad iwU)) wrf wrc lz mo ec oc) sz)) 0 0 (xm_A ad (CE (.ref (ad iwU)) wrf wrc lz mo ec oc) sz) := by
  refine xqh_ofW (cc := b_La_done) (maxL := 3) (ret := (some .int)) (by decide) rfl (Nat.le_of_ble_eq_true rfl) ?_
  intro p e s m args below meth c ls QQ hQQ hT htab hx hb hml hr hown hlk hnm hts hl hw
  have hl : lv_has ls 3 [(0, .ref (ad iQ)), (1, .ref (ad iO))] := hl
  unfold wp_La_doneA at h
  refine lv_aload_n hx hb d_La_done_0 rfl (lv_at hl 1 rfl) ?_
  refine lv_iconst (v := 0) hx hb d_La_done_1 (by decide) ?_
  refine lv_aload_n hx hb d_La_done_2 rfl (lv_at hl 0 rfl) ?_
  refine xm_calli (ua := fun _ => ad) (va_runV (As := []) (rest := [.int 0, .ref (ad iO)]) ⟨hx, hb, hml, hown, hts⟩ (c_Qd_doneA (D := D) (ad := ad) (CE := (fun bg wrf wrc lz mo ec => (CE bg wrf wrc lz mo ec oc)))  (fun bg wrf wrc lz mo ec => k_Q bg wrf wrc lz mo ec oc) (fun bg wrf wrc lz mo ec => k_L bg wrf wrc lz mo ec oc) (fun bg wrf wrc lz mo ec => k_E bg wrf wrc lz mo ec oc) (fun bg wrf wrc lz mo ec => k_wU bg wrf wrc lz mo ec oc) (fun bg wrf wrc lz mo ec => k_wA bg wrf wrc lz mo ec oc) (fun bg wrf wrc lz mo ec => k_wB bg wrf wrc lz mo ec oc) (fun bg wrf wrc lz mo ec => k_wC bg wrf wrc lz mo ec oc) (fun bg wrf wrc lz mo ec bg' => u_Q bg wrf wrc lz mo ec oc bg') (fun bg wrf wrc lz mo ec lz' mo' => u_L bg wrf wrc lz mo ec oc lz' mo') (fun bg wrf wrc lz mo ec ec' => u_E bg wrf wrc lz mo ec oc ec') (fun bg wrf wrc lz mo ec wrf' => u_wB bg wrf wrc lz mo ec oc wrf') (fun bg wrf wrc lz mo ec wrc' => u_wC bg wrf wrc lz mo ec oc wrc') h _) (xg_cwV 0 hts xw_382 xw_379 xw_380 xw_381 xw_1 rfl rfl (by decide +kernel) ⟨Nat.le_of_ble_eq_true rfl, Nat.le_of_ble_eq_true rfl⟩) (xq_preV hw hT (k_Q (.ref (ad iwU)) wrf wrc lz mo ec oc) rfl _) rfl rfl hl.1 rfl (lv_room (Nat.le_of_ble_eq_true rfl)) d_La_done_3 ⟨Nat.le_of_ble_eq_true rfl, Nat.le_of_ble_eq_true rfl⟩) hw (fun r_1 u_2 H locs h hw => ?_)
  obtain ⟨bg_3, ebg_3⟩ : ∃ z, z = u_2.1 := ⟨_, rfl⟩
  obtain ⟨wrf_4, ewrf_4⟩ : ∃ z, z = u_2.2.1 := ⟨_, rfl⟩
  obtain ⟨wrc_5, ewrc_5⟩ : ∃ z, z = u_2.2.2.1 := ⟨_, rfl⟩
  obtain ⟨lz_6, elz_6⟩ : ∃ z, z = u_2.2.2.2.1 := ⟨_, rfl⟩
  obtain ⟨mo_7, emo_7⟩ : ∃ z, z = u_2.2.2.2.2.1 := ⟨_, rfl⟩
  obtain ⟨ec_8, eec_8⟩ : ∃ z, z = u_2.2.2.2.2.2 := ⟨_, rfl⟩
  try dsimp only at h hw
  rw [← ebg_3, ← ewrf_4, ← ewrc_5, ← elz_6, ← emo_7, ← eec_8] at h hw
  refine lv_i2l hx hb d_La_done_6 rfl ?_
  obtain ⟨hin, h⟩ := h
  refine xm_last hx hb hw 2 (k_O bg_3 wrf_4 wrc_5 lz_6 mo_7 ec_8 oc) rfl hin d_La_done_7 (fun H locs hw => ?_)
  have hw : xm_W D xcl (xT cI cZ cJ cO) (xm_A ad (CE (.ref (ad iwU)) wrf wrc lz mo ec oc) s.heap.size) ad (CE bg_3 wrf_4 wrc_5 lz_6 mo_7 ec_8 (vp_updL oc (Int32.toNatClampNeg 0) r_1.toInt64)) s s.heap H locs := xm_W.cast (u_O bg_3 wrf_4 wrc_5 lz_6 mo_7 ec_8 oc (vp_updL oc (Int32.toNatClampNeg 0) r_1.toInt64)) hw
  obtain ⟨oc_9, eoc_9⟩ : ∃ z : Nat → Int64, z = vp_updL oc (Int32.toNatClampNeg 0) r_1.toInt64 := ⟨_, rfl⟩
  have h := h oc_9 eoc_9
  rw [← eoc_9] at hw
  refine lv_goto (tgt := 14) hx hb d_La_done_8 (by decide) ?_
  refine lv_iconst (v := 0) hx hb d_La_done_14 (by decide) ?_
  subst hQQ
  exact xm_iret hx hb hr hlk hw (bg_3, wrf_4, wrc_5, lz_6, mo_7, ec_8, oc_9) rfl rfl h d_La_done_15
