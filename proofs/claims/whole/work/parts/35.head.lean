abbrev b_Qd_head : ByteArray := prog_1_method_5_code
def y_Qd_head : MethodName := ⟨"QuestionDesk", "head", "(III)V"⟩
theorem d_Qd_head_0 : decode b_Qd_head 0 = .ok (.aload_n 0, 1) := by decide +kernel
theorem d_Qd_head_1 : decode b_Qd_head 1 = .ok (.iload_n 1, 1) := by decide +kernel
theorem d_Qd_head_2 : decode b_Qd_head 2 = .ok (.iload_n 2, 1) := by decide +kernel
theorem d_Qd_head_3 : decode b_Qd_head 3 = .ok (.iload_n 3, 1) := by decide +kernel
theorem d_Qd_head_4 : decode b_Qd_head 4 = .ok (.iconst 0, 1) := by decide +kernel
theorem d_Qd_head_5 : decode b_Qd_head 5 = .ok (.bipush 17, 2) := by decide +kernel
theorem d_Qd_head_7 : decode b_Qd_head 7 = .ok (.invokevirtual 71, 3) := by decide +kernel
theorem d_Qd_head_10 : decode b_Qd_head 10 = .ok (.ifCond .eq 16, 3) := by decide +kernel
theorem d_Qd_head_13 : decode b_Qd_head 13 = .ok (.aload_n 0, 1) := by decide +kernel
theorem d_Qd_head_14 : decode b_Qd_head 14 = .ok (.getfield 13, 3) := by decide +kernel
theorem d_Qd_head_17 : decode b_Qd_head 17 = .ok (.iload_n 1, 1) := by decide +kernel
theorem d_Qd_head_18 : decode b_Qd_head 18 = .ok (.baload, 1) := by decide +kernel
theorem d_Qd_head_19 : decode b_Qd_head 19 = .ok (.ifCond .eq 7, 3) := by decide +kernel
theorem d_Qd_head_22 : decode b_Qd_head 22 = .ok (.iconst 1, 1) := by decide +kernel
theorem d_Qd_head_23 : decode b_Qd_head 23 = .ok (.goto 4, 3) := by decide +kernel
theorem d_Qd_head_26 : decode b_Qd_head 26 = .ok (.iconst 0, 1) := by decide +kernel
theorem d_Qd_head_27 : decode b_Qd_head 27 = .ok (.invokestatic 67, 3) := by decide +kernel
theorem d_Qd_head_30 : decode b_Qd_head 30 = .ok (.aload_n 0, 1) := by decide +kernel
theorem d_Qd_head_31 : decode b_Qd_head 31 = .ok (.new 48, 3) := by decide +kernel
theorem d_Qd_head_34 : decode b_Qd_head 34 = .ok (.dup, 1) := by decide +kernel
theorem d_Qd_head_35 : decode b_Qd_head 35 = .ok (.invokespecial 50, 3) := by decide +kernel
theorem d_Qd_head_38 : decode b_Qd_head 38 = .ok (.putfield 28, 3) := by decide +kernel
theorem d_Qd_head_41 : decode b_Qd_head 41 = .ok (.aload_n 0, 1) := by decide +kernel
theorem d_Qd_head_42 : decode b_Qd_head 42 = .ok (.getfield 28, 3) := by decide +kernel
theorem d_Qd_head_45 : decode b_Qd_head 45 = .ok (.iconst 0, 1) := by decide +kernel
theorem d_Qd_head_46 : decode b_Qd_head 46 = .ok (.iload_n 1, 1) := by decide +kernel
theorem d_Qd_head_47 : decode b_Qd_head 47 = .ok (.iadd, 1) := by decide +kernel
theorem d_Qd_head_48 : decode b_Qd_head 48 = .ok (.iload_n 2, 1) := by decide +kernel
theorem d_Qd_head_49 : decode b_Qd_head 49 = .ok (.iload_n 3, 1) := by decide +kernel
theorem d_Qd_head_50 : decode b_Qd_head 50 = .ok (.invokevirtual 82, 3) := by decide +kernel
theorem d_Qd_head_53 : decode b_Qd_head 53 = .ok (.return_, 1) := by decide +kernel
def wp_Qd_head (post : (Nat → Option va_E) → Prop) (pex : String → Prop) (ad : Nat → Nat) (cI cO : ClassId) (b : Nat) (CE : Value → Nat → Option va_E) (iQ : Nat) (ipl : Nat) (ibr : Nat) (iL : Nat) (iP : Nat) (iM : Nat) (iU : Nat) (ipt : Nat) (np : Int32) (qpl : Nat → Int32) (qbr : Nat → Int32) (bg : Value) (a0 : Int32) (x : Int32) (y : Int32) : Prop :=
wp_Qd_hasPlaces (fun r_1 =>
xj (fun (v_3 : Int32) =>
wp_Qd_demand (
∀ ix : Nat, b ≤ ix → (∀ k, k < 4 → CE bg (ix + k) = none) →
wp_Ru_begin (fun rs rf rc na => post (xr4 cI ad (CE (.ref (ad ix))) ix rs rf rc na)) (fun _ => 0) (fun _ => 0) (fun _ => 0) 0 (0 + a0) x y) pex v_3) (fun (J_4 : Int32 → Prop) =>
xj (fun (v_7 : Unit) =>
J_4 0) (fun (J_8 : Unit → Prop) =>
((r_1 = 0 →
J_8 ()) ∧ (¬ r_1 = 0 →
vp_in a0 10 ∧
(((qbr (Int32.toNatClampNeg a0)) = 0 →
J_8 ()) ∧ (¬ (qbr (Int32.toNatClampNeg a0)) = 0 →
J_4 1))))))) np qpl a0 x y 0 17
abbrev rm_Qd_head : Room := { frames := 7, cells := 5, slots := 22, locals := 110 }
set_option maxHeartbeats 4000000 in
set_option maxRecDepth 100000 in
theorem c_Qd_head {l : Launch} {D : va_G} {ad : Nat → Nat} (CE : Value → Nat → Option va_E) {cI cZ cJ cO : ClassId} {iQ : Nat} {ipl : Nat} {ibr : Nat} {iL : Nat} {iP : Nat} {iM : Nat} {iU : Nat} {ipt : Nat} {np : Int32} {qpl : Nat → Int32} {qbr : Nat → Int32} {rw : Int32} {aq : Int32} {pn : Int32} {b : Nat} (hba : ∀ a, ad (b + a) = a) (k_Q : ∀ (bg : Value), (CE bg) iQ = some (.inr (0, [.ref (ad ipl), .ref (ad ibr), .int np, .ref (ad iL), bg, .ref (ad iP), .ref (ad iM), .ref (ad iU), .ref (ad ipt), .int rw, .int aq, .int pn]))) (k_pl : ∀ (bg : Value), (CE bg) ipl = some (.inl (cI, 10, .inl qpl))) (k_br : ∀ (bg : Value), (CE bg) ibr = some (.inl (cZ, 10, .inl qbr))) (u_Q : ∀ (bg : Value) (bg' : Value), va_up (CE bg) iQ (some (.inr (0, [.ref (ad ipl), .ref (ad ibr), .int np, .ref (ad iL), bg', .ref (ad iP), .ref (ad iM), .ref (ad iU), .ref (ad ipt), .int rw, .int aq, .int pn]))) = (CE bg')) {post : (Nat → Option va_E) → Prop} {bg : Value} {a0 : Int32} {x : Int32} {y : Int32} {pex : String → Prop} (hlt : l.stackTraces = false) (h : wp_Qd_head post pex ad cI cO b CE iQ ipl ibr iL iP iM iU ipt np qpl qbr bg a0 x y) : ∀ sz, vx_Met l y_Qd_head (Cond.code y_Qd_head b_Qd_head 4 none :: xg) rm_Qd_head (xv_Pc D xcl (xT cI cZ cJ cO) ad (CE bg) sz [.ref (ad iQ), .int a0, .int x, .int y]) (va_Qv (fun u : Nat → Option va_E => post u) (xm_B D xcl (xT cI cZ cJ cO) (xm_A ad (CE bg) sz) (fun _ => ad) (fun u : Nat → Option va_E => u)) (xm_A ad (CE bg) sz)) (xv_X D xcl (xT cI cZ cJ cO) (xm_A ad (CE bg) sz) ad (CE bg) pex) 5 22 (xm_A ad (CE bg) sz) := by
  refine xv_ofW (cc := b_Qd_head) (maxL := 4) (ret := none) (by decide) rfl (Nat.le_of_ble_eq_true rfl) ?_
  intro p e s m args below meth c ls QQ hQQ hT hout hx hb hml hr hown hlk hnm hts hl hw
  have hl : lv_has ls 4 [(0, .ref (ad iQ)), (1, .int a0), (2, .int x), (3, .int y)] := hl
  unfold wp_Qd_head at h
  refine lv_aload_n hx hb d_Qd_head_0 rfl (lv_at hl 0 rfl) ?_
  refine lv_iload_n hx hb d_Qd_head_1 rfl (lv_at hl 1 rfl) ?_
  refine lv_iload_n hx hb d_Qd_head_2 rfl (lv_at hl 2 rfl) ?_
  refine lv_iload_n hx hb d_Qd_head_3 rfl (lv_at hl 3 rfl) ?_
  refine lv_iconst (v := 0) hx hb d_Qd_head_4 (by decide) ?_
  refine lv_bipush (v := 17) hx hb d_Qd_head_5 (by decide) ?_
  refine xm_calli (ua := fun _ => ad) (va_runV (As := [.int a0, .int x, .int y, .int 0, .int 17]) (rest := []) ⟨hx, hb, hml, hown, hts⟩ (c_Qd_hasPlaces (D := D) (ad := ad) (CE := ((CE bg)))  (k_Q bg) (k_pl bg) h _) (xg_cwV 5 hts xw_317 xw_314 xw_316 xw_p8 xw_1 rfl rfl (by decide +kernel) ⟨Nat.le_of_ble_eq_true rfl, Nat.le_of_ble_eq_true rfl⟩) (xm_preV hw (k_Q bg) rfl _) rfl rfl hl.1 rfl (lv_room (Nat.le_of_ble_eq_true rfl)) d_Qd_head_7 ⟨Nat.le_of_ble_eq_true rfl, Nat.le_of_ble_eq_true rfl⟩) hw (fun r_1 _ H locs h hw => ?_)
  refine xj_use h (fun (v_3 : Int32) => ∀ (H : Heap) (locs : List Loc) (ls : Array Slot), xm_W D xcl (xT cI cZ cJ cO) (xm_A ad (CE bg) s.heap.size) ad (CE bg) s s.heap H locs → lv_has ls 4 [(0, .ref (ad iQ)), (1, .int a0), (2, .int x), (3, .int y)] → W p l e rm_Qd_head s m args below meth c H locs 0 0 QQ (F0 m 27 ls [.int v_3])) (fun v_3 h H locs ls hw hl => ?_) (fun J_4 hJ_4 h => ?_)
  · refine xv_callv (ua := fun _ => ad) (vx_runS (As := [.int v_3]) (rest := []) ⟨hx, hb, hml, hown, hts⟩ (c_Qd_demand (D := D) (ad := ad) (CE := ((CE bg)))   hlt h _) (xg_cwS 1 hts xw_239 xw_237 xw_238 xw_1 rfl rfl (by decide +kernel) ⟨Nat.le_of_ble_eq_true rfl, Nat.le_of_ble_eq_true rfl⟩) (xv_pre hw hT _) rfl rfl hl.1 rfl (lv_room (Nat.le_of_ble_eq_true rfl)) d_Qd_head_27 ⟨Nat.le_of_ble_eq_true rfl, Nat.le_of_ble_eq_true rfl⟩) hw (fun E c9 q9 H locs hpx hw h1 h2 h3 => by subst hQQ; exact xv_out hout hlk hw hpx h1 h2 h3 (by decide) (by decide)) (fun _ H locs h hw => ?_)
    obtain ⟨ce, hce⟩ : ∃ z, z = (CE bg) := ⟨_, rfl⟩
    have hw := xm_W.cast hce.symm hw
    have f_Q : ce iQ = some (.inr (0, [.ref (ad ipl), .ref (ad ibr), .int np, .ref (ad iL), bg, .ref (ad iP), .ref (ad iM), .ref (ad iU), .ref (ad ipt), .int rw, .int aq, .int pn])) := by rw [hce]; exact (k_Q bg)
    obtain ⟨z0, hz⟩ : ∃ z, H.size = z := ⟨_, rfl⟩
    have hfree : ∀ k, CE bg (b + z0 + k) = none := fun k => by rw [← hce, Nat.add_assoc]; exact xa_free hw hba (by omega)
    have h := h (b + z0) (Nat.le_add_right b z0) (fun k _ => hfree k)
    refine lv_aload_n hx hb d_Qd_head_30 rfl (lv_at hl 0 rfl) ?_
    have fr_N : ce (b + z0) = none := xa_free hw hba (Nat.le_of_eq hz)
    have ne_Q_N : iQ ≠ (b + z0) := xa_ne f_Q fr_N
    have ne_N_Q : (b + z0) ≠ iQ := Ne.symm ne_Q_N
    refine xa_new (D := D) (b := b) (ci := 3) (fs := [.null, .null, .null, .int 0]) (C := R_Ru) (T := F_Ru) (N := 4) hx hb hts (fun w h => List.mem_cons_of_mem _ (i_Ru w h)) t_Ru o_Ru hown (hts _ (List.mem_cons_of_mem _ xw_80)) (hts _ (List.mem_cons_of_mem _ xw_81)) (hts _ (List.mem_cons_of_mem _ xw_7)) hw hba rfl (by decide) (by decide) (by decide) d_Qd_head_31 (fun H hz1 hw => ?_)
    rw [hz] at hz1 hw
    rw [hz]
    have hz : H.size = z0 + 1 := hz1
    obtain ⟨ce501, hce501⟩ : ∃ z, z = va_up ce (b + z0) (some (.inr (3, [.null, .null, .null, .int 0]))) := ⟨_, rfl⟩
    have hw := xm_W.cast hce501.symm hw
    have f_Q : ce501 iQ = some (.inr (0, [.ref (ad ipl), .ref (ad ibr), .int np, .ref (ad iL), bg, .ref (ad iP), .ref (ad iM), .ref (ad iU), .ref (ad ipt), .int rw, .int aq, .int pn])) := by rw [hce501, va_up_ne _ _ ne_Q_N]; exact f_Q
    have f_N : ce501 (b + z0) = some (.inr (3, [.null, .null, .null, .int 0])) := by rw [hce501]; exact va_up_self _ _ _
    refine lv_dup hx hb d_Qd_head_34 rfl ?_
    have fr_A : ce501 (b + (z0 + 1)) = none := xa_free hw hba (by rw [hz]; omega)
    have ne_Q_A : iQ ≠ (b + (z0 + 1)) := xa_ne f_Q fr_A
    have ne_A_Q : (b + (z0 + 1)) ≠ iQ := Ne.symm ne_Q_A
    have ne_N_A : (b + z0) ≠ (b + (z0 + 1)) := xa_ne f_N fr_A
    have ne_A_N : (b + (z0 + 1)) ≠ (b + z0) := Ne.symm ne_N_A
    have fr_B : ce501 (b + (z0 + 2)) = none := xa_free hw hba (by rw [hz]; omega)
    have ne_Q_B : iQ ≠ (b + (z0 + 2)) := xa_ne f_Q fr_B
    have ne_B_Q : (b + (z0 + 2)) ≠ iQ := Ne.symm ne_Q_B
    have ne_N_B : (b + z0) ≠ (b + (z0 + 2)) := xa_ne f_N fr_B
    have ne_B_N : (b + (z0 + 2)) ≠ (b + z0) := Ne.symm ne_N_B
    have fr_C : ce501 (b + (z0 + 3)) = none := xa_free hw hba (by rw [hz]; omega)
    have ne_Q_C : iQ ≠ (b + (z0 + 3)) := xa_ne f_Q fr_C
    have ne_C_Q : (b + (z0 + 3)) ≠ iQ := Ne.symm ne_Q_C
    have ne_N_C : (b + z0) ≠ (b + (z0 + 3)) := xa_ne f_N fr_C
    have ne_C_N : (b + (z0 + 3)) ≠ (b + z0) := Ne.symm ne_N_C
    have ne_A_B : (b + (z0 + 1)) ≠ (b + (z0 + 2)) := by omega
    have ne_B_A : (b + (z0 + 2)) ≠ (b + (z0 + 1)) := Ne.symm ne_A_B
    have ne_A_C : (b + (z0 + 1)) ≠ (b + (z0 + 3)) := by omega
    have ne_C_A : (b + (z0 + 3)) ≠ (b + (z0 + 1)) := Ne.symm ne_A_C
    have ne_B_C : (b + (z0 + 2)) ≠ (b + (z0 + 3)) := by omega
    have ne_C_B : (b + (z0 + 3)) ≠ (b + (z0 + 2)) := Ne.symm ne_B_C
    refine xm_callv (ua := fun _ => ad) (va_runIN (As := []) (rest := [.ref (ad (b + z0)), .ref (ad iQ)]) ⟨hx, hb, hml, hown, hts⟩ (c_Ru_init (D := D) (ad := ad) ce501 hba f_N _) (xg_cnI 0 hts xw_84 hw.2.2.2.2.2.2.2.2 xw_83 xw_7 rfl rfl rfl (by decide +kernel) ⟨Nat.le_of_ble_eq_true rfl, Nat.le_of_ble_eq_true rfl⟩) (xm_pre hw _) rfl rfl hl.1 rfl (lv_room (Nat.le_of_ble_eq_true rfl)) d_Qd_head_35 ⟨Nat.le_of_ble_eq_true rfl, Nat.le_of_ble_eq_true rfl⟩) hw (fun ce502 H1 locs h hw => ?_)
    rw [hz] at h
    try simp only [Nat.add_assoc, Nat.reduceAdd] at h
    obtain ⟨f_N, f_A, f_B, f_C, gfr_ce502⟩ := h
    try dsimp only at hw
    have f_Q : ce502 iQ = some (.inr (0, [.ref (ad ipl), .ref (ad ibr), .int np, .ref (ad iL), bg, .ref (ad iP), .ref (ad iM), .ref (ad iU), .ref (ad ipt), .int rw, .int aq, .int pn])) := (gfr_ce502 _ ne_Q_N ne_Q_A ne_Q_B ne_Q_C).trans f_Q
    obtain ⟨z503, hz⟩ : ∃ z, H1.size = z := ⟨_, rfl⟩
    obtain ⟨H, eH⟩ : ∃ z, z = H1 := ⟨_, rfl⟩
    subst eH
    refine xa_put (D := D) (v := .ref (ad (b + z0))) (ty := .object "QuestionDesk$Rule") (C := R_Qd) (T := F_Qd) (N := 12) hx hb hts (fun w h => List.mem_cons_of_mem _ (i_Qd w h)) t_Qd o_Qd n_Qd hown hw f_Q rfl 4 (by decide) (hts _ (List.mem_cons_of_mem _ xw_111)) (fun _ h9 => h9) rfl (by decide +kernel) rfl rfl (Nat.le_of_ble_eq_true rfl) d_Qd_head_38 (fun H locs hz1 hw => ?_)
    rw [hz] at hz1
    have hz : H.size = z503 := hz1
    obtain ⟨ce504, hce504⟩ : ∃ z, z = va_up ce502 iQ (some (.inr (0, [.ref (ad ipl), .ref (ad ibr), .int np, .ref (ad iL), .ref (ad (b + z0)), .ref (ad iP), .ref (ad iM), .ref (ad iU), .ref (ad ipt), .int rw, .int aq, .int pn]))) := ⟨_, rfl⟩
    have hw := xm_W.cast hce504.symm hw
    have f_Q : ce504 iQ = some (.inr (0, [.ref (ad ipl), .ref (ad ibr), .int np, .ref (ad iL), .ref (ad (b + z0)), .ref (ad iP), .ref (ad iM), .ref (ad iU), .ref (ad ipt), .int rw, .int aq, .int pn])) := by rw [hce504]; exact va_up_self _ _ _
    have f_N : ce504 (b + z0) = some (.inr (3, [.ref (ad (b + (z0 + 1))), .ref (ad (b + (z0 + 2))), .ref (ad (b + (z0 + 3))), .int 0])) := by rw [hce504, va_up_ne _ _ ne_N_Q]; exact f_N
    have f_A : ce504 (b + (z0 + 1)) = some (.inl (cI, 4, .inl (fun _ => 0))) := by rw [hce504, va_up_ne _ _ ne_A_Q]; exact f_A
    have f_B : ce504 (b + (z0 + 2)) = some (.inl (cI, 4, .inl (fun _ => 0))) := by rw [hce504, va_up_ne _ _ ne_B_Q]; exact f_B
    have f_C : ce504 (b + (z0 + 3)) = some (.inl (cI, 4, .inl (fun _ => 0))) := by rw [hce504, va_up_ne _ _ ne_C_Q]; exact f_C
    have hco : ce504 = xr4 cI ad (CE (.ref (ad (b + z0)))) (b + z0) (fun _ => 0) (fun _ => 0) (fun _ => 0) 0 := by
      refine xr4_eq f_N f_A f_B f_C (fun i hi => ?_)
      by_cases q : i = iQ
      · subst q; rw [f_Q]; exact (k_Q _).symm
      · rw [hce504, va_up_ne _ _ q, gfr_ce502 _ (by omega) (by omega) (by omega) (by omega), hce501, va_up_ne _ _ (by omega), hce]
        have uq := congrFun (u_Q bg (.ref (ad (b + z0)))) i
        rw [va_up_ne _ _ q] at uq
        exact uq
    have hw := xm_W.cast hco hw
    have f_Q : xr4 cI ad (CE (.ref (ad (b + z0)))) (b + z0) (fun _ => 0) (fun _ => 0) (fun _ => 0) 0 iQ = some (.inr (0, [.ref (ad ipl), .ref (ad ibr), .int np, .ref (ad iL), .ref (ad (b + z0)), .ref (ad iP), .ref (ad iM), .ref (ad iU), .ref (ad ipt), .int rw, .int aq, .int pn])) := by rw [← hco]; exact f_Q
    refine lv_aload_n hx hb d_Qd_head_41 rfl (lv_at hl 0 rfl) ?_
    refine xm_get (D := D) (v := .ref (ad (b + z0))) (C := R_Qd) (T := F_Qd) (N := 12) hx hb hts (fun w h => List.mem_cons_of_mem _ (i_Qd w h)) hown hw f_Q rfl 4 (by decide) (hts _ (List.mem_cons_of_mem _ xw_111)) (fun _ h9 => h9) rfl d_Qd_head_42 ?_
    refine lv_iconst (v := 0) hx hb d_Qd_head_45 (by decide) ?_
    refine lv_iload_n hx hb d_Qd_head_46 rfl (lv_at hl 1 rfl) ?_
    refine lv_iadd hx hb d_Qd_head_47 ?_
    refine lv_iload_n hx hb d_Qd_head_48 rfl (lv_at hl 2 rfl) ?_
    refine lv_iload_n hx hb d_Qd_head_49 rfl (lv_at hl 3 rfl) ?_
    refine xm_callv (ua := fun _ => ad) (va_runV (As := [.int (0 + a0), .int x, .int y]) (rest := []) ⟨hx, hb, hml, hown, hts⟩ (c_Ru_begin (D := D) (ad := ad) (CE := fun rs rf rc na => xr4 cI ad (CE (.ref (ad (b + z0)))) (b + z0) rs rf rc na) (fun _ _ _ _ => xr4_U) (fun _ _ _ _ => xr4_A) (fun _ _ _ _ => xr4_B) (fun _ _ _ _ => xr4_C) (fun _ _ _ _ _ => xr4_uU) (fun _ _ _ _ _ => xr4_uA) (fun _ _ _ _ _ => xr4_uB) (fun _ _ _ _ _ => xr4_uC) h _) (xg_cwV 3 hts xw_343 xw_340 xw_341 xw_342 xw_7 rfl rfl (by decide +kernel) ⟨Nat.le_of_ble_eq_true rfl, Nat.le_of_ble_eq_true rfl⟩) (xm_preV hw (xr4_U) rfl _) rfl rfl hl.1 rfl (lv_room (Nat.le_of_ble_eq_true rfl)) d_Qd_head_50 ⟨Nat.le_of_ble_eq_true rfl, Nat.le_of_ble_eq_true rfl⟩) hw (fun u H locs h hw => ?_)
    subst hQQ
    refine vx_ret (W.widen (k := 5) (n := 22) (by decide) (by decide) ?_)
    exact xm_vret hx hb hr hlk hw _ rfl rfl h d_Qd_head_53
  · refine xj_use h (fun (v_7 : Unit) => ∀ (H : Heap) (locs : List Loc) (ls : Array Slot), xm_W D xcl (xT cI cZ cJ cO) (xm_A ad (CE bg) s.heap.size) ad (CE bg) s s.heap H locs → lv_has ls 4 [(0, .ref (ad iQ)), (1, .int a0), (2, .int x), (3, .int y)] → W p l e rm_Qd_head s m args below meth c H locs 0 0 QQ (F0 m 26 ls [])) (fun v_7 h H locs ls hw hl => ?_) (fun J_8 hJ_8 h => ?_)
    · refine lv_iconst (v := 0) hx hb d_Qd_head_26 (by decide) ?_
      exact hJ_4 0 h _ _ _ hw (lv_sub hl [0, 1, 2, 3] rfl)
    · refine lv_if_eq (tgt := 26) hx hb d_Qd_head_10 (by decide) (fun hc => ?_) (fun hc => ?_)
      · have h := h.1 hc
        exact hJ_8 () h _ _ _ hw (lv_sub hl [0, 1, 2, 3] rfl)
      · have h := h.2 hc
        refine lv_aload_n hx hb d_Qd_head_13 rfl (lv_at hl 0 rfl) ?_
        refine xm_get (D := D) (v := .ref (ad ibr)) (C := R_Qd) (T := F_Qd) (N := 12) hx hb hts (fun w h => List.mem_cons_of_mem _ (i_Qd w h)) hown hw (k_Q bg) rfl 1 (by decide) (hts _ (List.mem_cons_of_mem _ xw_108)) (fun _ h9 => h9) rfl d_Qd_head_14 ?_
        refine lv_iload_n hx hb d_Qd_head_17 rfl (lv_at hl 1 rfl) ?_
        obtain ⟨hin, h⟩ := h
        refine xm_zald hx hb hw 1 (k_br bg) rfl hin d_Qd_head_18 ?_
        refine lv_if_eq (tgt := 26) hx hb d_Qd_head_19 (by decide) (fun hc => ?_) (fun hc => ?_)
        · have h := h.1 hc
          exact hJ_8 () h _ _ _ hw (lv_sub hl [0, 1, 2, 3] rfl)
        · have h := h.2 hc
          refine lv_iconst (v := 1) hx hb d_Qd_head_22 (by decide) ?_
          refine lv_goto (tgt := 27) hx hb d_Qd_head_23 (by decide) ?_
          exact hJ_4 1 h _ _ _ hw (lv_sub hl [0, 1, 2, 3] rfl)
