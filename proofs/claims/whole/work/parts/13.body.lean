abbrev b_Qd_body : ByteArray := prog_1_method_6_code
def y_Qd_body : MethodName := ⟨"QuestionDesk", "body", "(III)I"⟩
theorem d_Qd_body_0 : decode b_Qd_body 0 = .ok (.aload_n 0, 1) := by decide +kernel
theorem d_Qd_body_1 : decode b_Qd_body 1 = .ok (.getfield 28, 3) := by decide +kernel
theorem d_Qd_body_4 : decode b_Qd_body 4 = .ok (.ifnull 14, 3) := by decide +kernel
theorem d_Qd_body_7 : decode b_Qd_body 7 = .ok (.aload_n 0, 1) := by decide +kernel
theorem d_Qd_body_8 : decode b_Qd_body 8 = .ok (.getfield 28, 3) := by decide +kernel
theorem d_Qd_body_11 : decode b_Qd_body 11 = .ok (.getfield 86, 3) := by decide +kernel
theorem d_Qd_body_14 : decode b_Qd_body 14 = .ok (.iconst 3, 1) := by decide +kernel
theorem d_Qd_body_15 : decode b_Qd_body 15 = .ok (.if_icmp .lt 13, 3) := by decide +kernel
theorem d_Qd_body_18 : decode b_Qd_body 18 = .ok (.new 89, 3) := by decide +kernel
theorem d_Qd_body_21 : decode b_Qd_body 21 = .ok (.dup, 1) := by decide +kernel
theorem d_Qd_body_22 : decode b_Qd_body 22 = .ok (.ldc 91, 2) := by decide +kernel
theorem d_Qd_body_24 : decode b_Qd_body 24 = .ok (.invokespecial 93, 3) := by decide +kernel
theorem d_Qd_body_27 : decode b_Qd_body 27 = .ok (.athrow, 1) := by decide +kernel
theorem d_Qd_body_28 : decode b_Qd_body 28 = .ok (.aload_n 0, 1) := by decide +kernel
theorem d_Qd_body_29 : decode b_Qd_body 29 = .ok (.iload_n 1, 1) := by decide +kernel
theorem d_Qd_body_30 : decode b_Qd_body 30 = .ok (.iload_n 2, 1) := by decide +kernel
theorem d_Qd_body_31 : decode b_Qd_body 31 = .ok (.iload_n 3, 1) := by decide +kernel
theorem d_Qd_body_32 : decode b_Qd_body 32 = .ok (.iconst 0, 1) := by decide +kernel
theorem d_Qd_body_33 : decode b_Qd_body 33 = .ok (.bipush 17, 2) := by decide +kernel
theorem d_Qd_body_35 : decode b_Qd_body 35 = .ok (.invokevirtual 71, 3) := by decide +kernel
theorem d_Qd_body_38 : decode b_Qd_body 38 = .ok (.invokestatic 67, 3) := by decide +kernel
theorem d_Qd_body_41 : decode b_Qd_body 41 = .ok (.aload_n 0, 1) := by decide +kernel
theorem d_Qd_body_42 : decode b_Qd_body 42 = .ok (.getfield 28, 3) := by decide +kernel
theorem d_Qd_body_45 : decode b_Qd_body 45 = .ok (.iconst 0, 1) := by decide +kernel
theorem d_Qd_body_46 : decode b_Qd_body 46 = .ok (.iload_n 1, 1) := by decide +kernel
theorem d_Qd_body_47 : decode b_Qd_body 47 = .ok (.iadd, 1) := by decide +kernel
theorem d_Qd_body_48 : decode b_Qd_body 48 = .ok (.iload_n 2, 1) := by decide +kernel
theorem d_Qd_body_49 : decode b_Qd_body 49 = .ok (.iload_n 3, 1) := by decide +kernel
theorem d_Qd_body_50 : decode b_Qd_body 50 = .ok (.invokevirtual 96, 3) := by decide +kernel
theorem d_Qd_body_53 : decode b_Qd_body 53 = .ok (.aload_n 0, 1) := by decide +kernel
theorem d_Qd_body_54 : decode b_Qd_body 54 = .ok (.getfield 28, 3) := by decide +kernel
theorem d_Qd_body_57 : decode b_Qd_body 57 = .ok (.getfield 86, 3) := by decide +kernel
theorem d_Qd_body_60 : decode b_Qd_body 60 = .ok (.ireturn, 1) := by decide +kernel
abbrev b_Qd_done : ByteArray := prog_1_method_7_code
def y_Qd_done : MethodName := ⟨"QuestionDesk", "done", "()I"⟩
theorem d_Qd_done_0 : decode b_Qd_done 0 = .ok (.aload_n 0, 1) := by decide +kernel
theorem d_Qd_done_1 : decode b_Qd_done 1 = .ok (.getfield 28, 3) := by decide +kernel
theorem d_Qd_done_4 : decode b_Qd_done 4 = .ok (.ifnonnull 13, 3) := by decide +kernel
theorem d_Qd_done_7 : decode b_Qd_done 7 = .ok (.new 89, 3) := by decide +kernel
theorem d_Qd_done_10 : decode b_Qd_done 10 = .ok (.dup, 1) := by decide +kernel
theorem d_Qd_done_11 : decode b_Qd_done 11 = .ok (.ldc 99, 2) := by decide +kernel
theorem d_Qd_done_13 : decode b_Qd_done 13 = .ok (.invokespecial 93, 3) := by decide +kernel
theorem d_Qd_done_16 : decode b_Qd_done 16 = .ok (.athrow, 1) := by decide +kernel
theorem d_Qd_done_17 : decode b_Qd_done 17 = .ok (.aload_n 0, 1) := by decide +kernel
theorem d_Qd_done_18 : decode b_Qd_done 18 = .ok (.getfield 28, 3) := by decide +kernel
theorem d_Qd_done_21 : decode b_Qd_done 21 = .ok (.astore_n 1, 1) := by decide +kernel
theorem d_Qd_done_22 : decode b_Qd_done 22 = .ok (.aload_n 0, 1) := by decide +kernel
theorem d_Qd_done_23 : decode b_Qd_done 23 = .ok (.aconst_null, 1) := by decide +kernel
theorem d_Qd_done_24 : decode b_Qd_done 24 = .ok (.putfield 28, 3) := by decide +kernel
theorem d_Qd_done_27 : decode b_Qd_done 27 = .ok (.aload_n 1, 1) := by decide +kernel
theorem d_Qd_done_28 : decode b_Qd_done 28 = .ok (.getfield 86, 3) := by decide +kernel
theorem d_Qd_done_31 : decode b_Qd_done 31 = .ok (.ifCond .eq 22, 3) := by decide +kernel
theorem d_Qd_done_34 : decode b_Qd_done 34 = .ok (.aload_n 1, 1) := by decide +kernel
theorem d_Qd_done_35 : decode b_Qd_done 35 = .ok (.invokevirtual 101, 3) := by decide +kernel
theorem d_Qd_done_38 : decode b_Qd_done 38 = .ok (.ifCond .eq 15, 3) := by decide +kernel
theorem d_Qd_done_41 : decode b_Qd_done 41 = .ok (.aload_n 0, 1) := by decide +kernel
theorem d_Qd_done_42 : decode b_Qd_done 42 = .ok (.getfield 24, 3) := by decide +kernel
theorem d_Qd_done_45 : decode b_Qd_done 45 = .ok (.invokevirtual 105, 3) := by decide +kernel
theorem d_Qd_done_48 : decode b_Qd_done 48 = .ok (.bipush 30, 2) := by decide +kernel
theorem d_Qd_done_50 : decode b_Qd_done 50 = .ok (.if_icmp .lt 5, 3) := by decide +kernel
theorem d_Qd_done_53 : decode b_Qd_done 53 = .ok (.iconst (-1), 1) := by decide +kernel
theorem d_Qd_done_54 : decode b_Qd_done 54 = .ok (.ireturn, 1) := by decide +kernel
theorem d_Qd_done_55 : decode b_Qd_done 55 = .ok (.aload_n 1, 1) := by decide +kernel
theorem d_Qd_done_56 : decode b_Qd_done 56 = .ok (.invokevirtual 109, 3) := by decide +kernel
theorem d_Qd_done_59 : decode b_Qd_done 59 = .ok (.aload_n 0, 1) := by decide +kernel
theorem d_Qd_done_60 : decode b_Qd_done 60 = .ok (.getfield 24, 3) := by decide +kernel
theorem d_Qd_done_63 : decode b_Qd_done 63 = .ok (.aload_n 1, 1) := by decide +kernel
theorem d_Qd_done_64 : decode b_Qd_done 64 = .ok (.invokevirtual 112, 3) := by decide +kernel
theorem d_Qd_done_67 : decode b_Qd_done 67 = .ok (.pop, 1) := by decide +kernel
theorem d_Qd_done_68 : decode b_Qd_done 68 = .ok (.aload_n 0, 1) := by decide +kernel
theorem d_Qd_done_69 : decode b_Qd_done 69 = .ok (.getfield 24, 3) := by decide +kernel
theorem d_Qd_done_72 : decode b_Qd_done 72 = .ok (.invokevirtual 105, 3) := by decide +kernel
theorem d_Qd_done_75 : decode b_Qd_done 75 = .ok (.iconst 1, 1) := by decide +kernel
theorem d_Qd_done_76 : decode b_Qd_done 76 = .ok (.isub, 1) := by decide +kernel
theorem d_Qd_done_77 : decode b_Qd_done 77 = .ok (.ireturn, 1) := by decide +kernel
theorem xw_111 : (Jvm.Cond.fieldLink "QuestionDesk" (28 : Nat) "QuestionDesk" "begun" "LQuestionDesk$Rule;") ∈ xg := xg_t (i := 111) (by decide +kernel) (by decide +kernel)
theorem xw_356 : (Jvm.Cond.classLink "QuestionDesk" (89 : Nat) "java/lang/IllegalStateException") ∈ xg := xg_t (i := 356) (by decide +kernel) (by decide +kernel)
theorem xw_13 : (Jvm.Cond.initialized "java/lang/IllegalStateException") ∈ xg := xg_t (i := 13) (by decide +kernel) (by decide +kernel)
def wp_Qd_bodyS (post : Int32 → (Nat → Int32) → (Nat → Int32) → (Nat → Int32) → Int32 → Prop) (pex : String → Prop)  (np : Int32) (qpl : Nat → Int32) (wrs : Nat → Int32) (wrf : Nat → Int32) (wrc : Nat → Int32) (wna : Int32) (a0 : Int32) (x : Int32) (y : Int32) : Prop :=
((wna < 3 →
wp_Qd_hasPlaces (fun r_1 =>
wp_Qd_demand (
wp_Ru_append (fun wrs_7 wrf_8 wrc_9 wna_10 =>
post wna_10 wrs_7 wrf_8 wrc_9 wna_10) wrs wrf wrc wna (0 + a0) x y) pex r_1) np qpl a0 x y 0 17) ∧ (¬ wna < 3 →
pex "java/lang/IllegalStateException"))
abbrev rm_Qd_bodyS : Room := { frames := 7, cells := 1, slots := 6, locals := 110 }
set_option maxHeartbeats 4000000 in
set_option maxRecDepth 100000 in
theorem c_Qd_bodyS {l : Launch} {D : va_G} {ad : Nat → Nat} (CE : (Nat → Int32) → (Nat → Int32) → (Nat → Int32) → Int32 → Nat → Option va_E) {cI cZ cJ cO : ClassId} {iQ : Nat} {ipl : Nat} {ibr : Nat} {iL : Nat} {iP : Nat} {iM : Nat} {iU : Nat} {ipt : Nat} {iwU : Nat} {iwA : Nat} {iwB : Nat} {iwC : Nat} {np : Int32} {qpl : Nat → Int32} {rw : Int32} {aq : Int32} {pn : Int32} (k_Q : ∀ (wrs : Nat → Int32) (wrf : Nat → Int32) (wrc : Nat → Int32) (wna : Int32), (CE wrs wrf wrc wna) iQ = some (.inr (0, [.ref (ad ipl), .ref (ad ibr), .int np, .ref (ad iL), .ref (ad iwU), .ref (ad iP), .ref (ad iM), .ref (ad iU), .ref (ad ipt), .int rw, .int aq, .int pn]))) (k_pl : ∀ (wrs : Nat → Int32) (wrf : Nat → Int32) (wrc : Nat → Int32) (wna : Int32), (CE wrs wrf wrc wna) ipl = some (.inl (cI, 10, .inl qpl))) (k_wU : ∀ (wrs : Nat → Int32) (wrf : Nat → Int32) (wrc : Nat → Int32) (wna : Int32), (CE wrs wrf wrc wna) iwU = some (.inr (3, [.ref (ad iwA), .ref (ad iwB), .ref (ad iwC), .int wna]))) (k_wA : ∀ (wrs : Nat → Int32) (wrf : Nat → Int32) (wrc : Nat → Int32) (wna : Int32), (CE wrs wrf wrc wna) iwA = some (.inl (cI, 4, .inl wrs))) (k_wB : ∀ (wrs : Nat → Int32) (wrf : Nat → Int32) (wrc : Nat → Int32) (wna : Int32), (CE wrs wrf wrc wna) iwB = some (.inl (cI, 4, .inl wrf))) (k_wC : ∀ (wrs : Nat → Int32) (wrf : Nat → Int32) (wrc : Nat → Int32) (wna : Int32), (CE wrs wrf wrc wna) iwC = some (.inl (cI, 4, .inl wrc))) (u_wU : ∀ (wrs : Nat → Int32) (wrf : Nat → Int32) (wrc : Nat → Int32) (wna : Int32) (wna' : Int32), va_up (CE wrs wrf wrc wna) iwU (some (.inr (3, [.ref (ad iwA), .ref (ad iwB), .ref (ad iwC), .int wna']))) = (CE wrs wrf wrc wna')) (u_wA : ∀ (wrs : Nat → Int32) (wrf : Nat → Int32) (wrc : Nat → Int32) (wna : Int32) (wrs' : Nat → Int32), va_up (CE wrs wrf wrc wna) iwA (some (.inl (cI, 4, .inl wrs'))) = (CE wrs' wrf wrc wna)) (u_wB : ∀ (wrs : Nat → Int32) (wrf : Nat → Int32) (wrc : Nat → Int32) (wna : Int32) (wrf' : Nat → Int32), va_up (CE wrs wrf wrc wna) iwB (some (.inl (cI, 4, .inl wrf'))) = (CE wrs wrf' wrc wna)) (u_wC : ∀ (wrs : Nat → Int32) (wrf : Nat → Int32) (wrc : Nat → Int32) (wna : Int32) (wrc' : Nat → Int32), va_up (CE wrs wrf wrc wna) iwC (some (.inl (cI, 4, .inl wrc'))) = (CE wrs wrf wrc' wna)) {post : Int32 → (Nat → Int32) → (Nat → Int32) → (Nat → Int32) → Int32 → Prop} {wrs : Nat → Int32} {wrf : Nat → Int32} {wrc : Nat → Int32} {wna : Int32} {a0 : Int32} {x : Int32} {y : Int32} {pex : String → Prop} (hlt : l.stackTraces = false) (h : wp_Qd_bodyS post pex np qpl wrs wrf wrc wna a0 x y) : ∀ sz, vx_Met l y_Qd_body (Cond.code y_Qd_body b_Qd_body 4 (some .int) :: xg) rm_Qd_bodyS (xv_Pc D xcl (xT cI cZ cJ cO) ad (CE wrs wrf wrc wna) sz [.ref (ad iQ), .int a0, .int x, .int y]) (va_Qi (fun (r : Int32) (u : (Nat → Int32) × (Nat → Int32) × (Nat → Int32) × Int32) => post r u.1 u.2.1 u.2.2.1 u.2.2.2) (xm_B D xcl (xT cI cZ cJ cO) (xm_A ad (CE wrs wrf wrc wna) sz) (fun _ => ad) (fun u : (Nat → Int32) × (Nat → Int32) × (Nat → Int32) × Int32 => CE u.1 u.2.1 u.2.2.1 u.2.2.2)) (xm_A ad (CE wrs wrf wrc wna) sz)) (xv_X D xcl (xT cI cZ cJ cO) (xm_A ad (CE wrs wrf wrc wna) sz) ad (CE wrs wrf wrc wna) pex) 1 6 (xm_A ad (CE wrs wrf wrc wna) sz) := by
  refine xv_ofW (cc := b_Qd_body) (maxL := 4) (ret := (some .int)) (by decide) rfl (Nat.le_of_ble_eq_true rfl) ?_
  intro p e s m args below meth c ls QQ hQQ hT hout hx hb hml hr hown hlk hnm hts hl hw
  have hl : lv_has ls 4 [(0, .ref (ad iQ)), (1, .int a0), (2, .int x), (3, .int y)] := hl
  unfold wp_Qd_bodyS at h
  refine lv_aload_n hx hb d_Qd_body_0 rfl (lv_at hl 0 rfl) ?_
  refine xm_get (D := D) (v := .ref (ad iwU)) (C := R_Qd) (T := F_Qd) (N := 12) hx hb hts (fun w h => List.mem_cons_of_mem _ (i_Qd w h)) hown hw (k_Q wrs wrf wrc wna) rfl 4 (by decide) (hts _ (List.mem_cons_of_mem _ xw_111)) (fun _ h9 => h9) rfl d_Qd_body_1 ?_
  refine lv_ifnull hx hb d_Qd_body_4 ?_
  refine lv_aload_n hx hb d_Qd_body_7 rfl (lv_at hl 0 rfl) ?_
  refine xm_get (D := D) (v := .ref (ad iwU)) (C := R_Qd) (T := F_Qd) (N := 12) hx hb hts (fun w h => List.mem_cons_of_mem _ (i_Qd w h)) hown hw (k_Q wrs wrf wrc wna) rfl 4 (by decide) (hts _ (List.mem_cons_of_mem _ xw_111)) (fun _ h9 => h9) rfl d_Qd_body_8 ?_
  refine xm_get (D := D) (v := .int wna) (C := R_Ru) (T := F_Ru) (N := 4) hx hb hts (fun w h => List.mem_cons_of_mem _ (i_Ru w h)) hown hw (k_wU wrs wrf wrc wna) rfl 3 (by decide) (hts _ (List.mem_cons_of_mem _ xw_97)) (fun _ h9 => h9) rfl d_Qd_body_11 ?_
  refine lv_iconst (v := 3) hx hb d_Qd_body_14 (by decide) ?_
  refine lv_icmp_lt (tgt := 28) hx hb d_Qd_body_15 (by decide) (fun hc => ?_) (fun hc => ?_)
  · have h := h.1 hc
    refine lv_aload_n hx hb d_Qd_body_28 rfl (lv_at hl 0 rfl) ?_
    refine lv_iload_n hx hb d_Qd_body_29 rfl (lv_at hl 1 rfl) ?_
    refine lv_iload_n hx hb d_Qd_body_30 rfl (lv_at hl 2 rfl) ?_
    refine lv_iload_n hx hb d_Qd_body_31 rfl (lv_at hl 3 rfl) ?_
    refine lv_iconst (v := 0) hx hb d_Qd_body_32 (by decide) ?_
    refine lv_bipush (v := 17) hx hb d_Qd_body_33 (by decide) ?_
    refine xm_calli (ua := fun _ => ad) (va_runV (As := [.int a0, .int x, .int y, .int 0, .int 17]) (rest := []) ⟨hx, hb, hml, hown, hts⟩ (c_Qd_hasPlaces (D := D) (ad := ad) (CE := ((CE wrs wrf wrc wna)))  (k_Q wrs wrf wrc wna) (k_pl wrs wrf wrc wna) h _) (xg_cwV 5 hts xw_317 xw_314 xw_316 xw_p8 xw_1 rfl rfl (by decide +kernel) ⟨Nat.le_of_ble_eq_true rfl, Nat.le_of_ble_eq_true rfl⟩) (xm_preV hw (k_Q wrs wrf wrc wna) rfl _) rfl rfl hl.1 rfl (lv_room (Nat.le_of_ble_eq_true rfl)) d_Qd_body_35 ⟨Nat.le_of_ble_eq_true rfl, Nat.le_of_ble_eq_true rfl⟩) hw (fun r_1 _ H locs h hw => ?_)
    refine xv_callv (ua := fun _ => ad) (vx_runS (As := [.int r_1]) (rest := []) ⟨hx, hb, hml, hown, hts⟩ (c_Qd_demand (D := D) (ad := ad) (CE := ((CE wrs wrf wrc wna)))   hlt h _) (xg_cwS 1 hts xw_239 xw_237 xw_238 xw_1 rfl rfl (by decide +kernel) ⟨Nat.le_of_ble_eq_true rfl, Nat.le_of_ble_eq_true rfl⟩) (xv_pre hw hT _) rfl rfl hl.1 rfl (lv_room (Nat.le_of_ble_eq_true rfl)) d_Qd_body_38 ⟨Nat.le_of_ble_eq_true rfl, Nat.le_of_ble_eq_true rfl⟩) hw (fun E c9 q9 H locs hpx hw h1 h2 h3 => by subst hQQ; exact xv_out hout hlk hw hpx h1 h2 h3 (by decide) (by decide)) (fun _ H locs h hw => ?_)
    refine lv_aload_n hx hb d_Qd_body_41 rfl (lv_at hl 0 rfl) ?_
    refine xm_get (D := D) (v := .ref (ad iwU)) (C := R_Qd) (T := F_Qd) (N := 12) hx hb hts (fun w h => List.mem_cons_of_mem _ (i_Qd w h)) hown hw (k_Q wrs wrf wrc wna) rfl 4 (by decide) (hts _ (List.mem_cons_of_mem _ xw_111)) (fun _ h9 => h9) rfl d_Qd_body_42 ?_
    refine lv_iconst (v := 0) hx hb d_Qd_body_45 (by decide) ?_
    refine lv_iload_n hx hb d_Qd_body_46 rfl (lv_at hl 1 rfl) ?_
    refine lv_iadd hx hb d_Qd_body_47 ?_
    refine lv_iload_n hx hb d_Qd_body_48 rfl (lv_at hl 2 rfl) ?_
    refine lv_iload_n hx hb d_Qd_body_49 rfl (lv_at hl 3 rfl) ?_
    refine xm_callv (ua := fun _ => ad) (va_runV (As := [.int (0 + a0), .int x, .int y]) (rest := []) ⟨hx, hb, hml, hown, hts⟩ (c_Ru_append (D := D) (ad := ad) (CE := (fun rs rf rc na => (CE rs rf rc na)))  (fun rs rf rc na => k_wU rs rf rc na) (fun rs rf rc na => k_wA rs rf rc na) (fun rs rf rc na => k_wB rs rf rc na) (fun rs rf rc na => k_wC rs rf rc na) (fun rs rf rc na na' => u_wU rs rf rc na na') (fun rs rf rc na rs' => u_wA rs rf rc na rs') (fun rs rf rc na rf' => u_wB rs rf rc na rf') (fun rs rf rc na rc' => u_wC rs rf rc na rc') h _) (xg_cwV 3 hts xw_375 xw_372 xw_373 xw_374 xw_7 rfl rfl (by decide +kernel) ⟨Nat.le_of_ble_eq_true rfl, Nat.le_of_ble_eq_true rfl⟩) (xm_preV hw (k_wU wrs wrf wrc wna) rfl _) rfl rfl hl.1 rfl (lv_room (Nat.le_of_ble_eq_true rfl)) d_Qd_body_50 ⟨Nat.le_of_ble_eq_true rfl, Nat.le_of_ble_eq_true rfl⟩) hw (fun u_6 H locs h hw => ?_)
    obtain ⟨wrs_7, ewrs_7⟩ : ∃ z, z = u_6.1 := ⟨_, rfl⟩
    obtain ⟨wrf_8, ewrf_8⟩ : ∃ z, z = u_6.2.1 := ⟨_, rfl⟩
    obtain ⟨wrc_9, ewrc_9⟩ : ∃ z, z = u_6.2.2.1 := ⟨_, rfl⟩
    obtain ⟨wna_10, ewna_10⟩ : ∃ z, z = u_6.2.2.2 := ⟨_, rfl⟩
    try dsimp only at h hw
    rw [← ewrs_7, ← ewrf_8, ← ewrc_9, ← ewna_10] at h hw
    refine lv_aload_n hx hb d_Qd_body_53 rfl (lv_at hl 0 rfl) ?_
    refine xm_get (D := D) (v := .ref (ad iwU)) (C := R_Qd) (T := F_Qd) (N := 12) hx hb hts (fun w h => List.mem_cons_of_mem _ (i_Qd w h)) hown hw (k_Q wrs_7 wrf_8 wrc_9 wna_10) rfl 4 (by decide) (hts _ (List.mem_cons_of_mem _ xw_111)) (fun _ h9 => h9) rfl d_Qd_body_54 ?_
    refine xm_get (D := D) (v := .int wna_10) (C := R_Ru) (T := F_Ru) (N := 4) hx hb hts (fun w h => List.mem_cons_of_mem _ (i_Ru w h)) hown hw (k_wU wrs_7 wrf_8 wrc_9 wna_10) rfl 3 (by decide) (hts _ (List.mem_cons_of_mem _ xw_97)) (fun _ h9 => h9) rfl d_Qd_body_57 ?_
    subst hQQ
    refine vx_ret (W.widen (k := 1) (n := 6) (by decide) (by decide) ?_)
    exact xm_iret hx hb hr hlk hw (wrs_7, wrf_8, wrc_9, wna_10) rfl rfl h d_Qd_body_60
  · have h := h.2 hc
    obtain ⟨sa, hsa⟩ := hT.2.1
    subst hQQ
    exact xv_throw (cls := "java/lang/IllegalStateException") (sa := sa) hx hb hlt hown hts hT (by decide +kernel) xw_356 xw_13 hsa (by decide +kernel) (by decide +kernel) hw (hl.1.trans hml.symm) d_Qd_body_18 d_Qd_body_21 d_Qd_body_22 d_Qd_body_24 d_Qd_body_27 hout (by decide) (by decide) (by decide) (by decide) hlk h (by decide) (by decide)
