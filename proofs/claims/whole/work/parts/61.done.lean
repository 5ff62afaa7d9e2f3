def wp_Qd_doneF (post : Int32 → (Nat → Option va_E) → Prop) (ad : Nat → Nat) (cI cO : ClassId) (b : Nat) (CE : Value → (Nat → Int32) → (Nat → Int32) → Nat → Option va_E) (iQ : Nat) (ipl : Nat) (ibr : Nat) (iL : Nat) (iP : Nat) (iM : Nat) (iU : Nat) (ipt : Nat) (iE : Nat) (iwU : Nat) (iwA : Nat) (iwB : Nat) (iwC : Nat) (n : Nat) (wna : Int32) (mo : Int32) (ec : Nat → Option Nat) (wrf : Nat → Int32) (wrc : Nat → Int32) : Prop :=
xj (fun (v_1 : Unit) =>
post (-1) (CE .null wrf wrc)) (fun (J_2 : Unit → Prop) =>
((wna = 0 →
J_2 ()) ∧ (¬ wna = 0 →
wp_Ru_isSafe (fun r_3 =>
((r_3 = 0 →
J_2 ()) ∧ (¬ r_3 = 0 →
wp_Al_size (fun r_5 =>
((r_5 < 30 →
wp_Ru_blankLoneVariables (fun wrf_9 wrc_10 =>
2 ≤ n ∧ n ≤ 40 ∧ (∀ i, i < n → ∀ y, ec i = some y → ∃ (j : Nat) (vs : List Value), y = ad j ∧ (CE .null wrf_9 wrc_10) j = some (.inr (3, vs))) ∧
∀ j : Nat, b ≤ j → (CE .null wrf_9 wrc_10) j = none →
post (nI (n + 1) - 1) (va_up (va_up (CE .null wrf_9 wrc_10) j (some (.inl (cO, (n + n / 2), .inr (.inr (.inr (.inr (va_up (va_cpy ec (fun _ => none) 0 0 n) n (some (ad iwU)))))))))) iL (some (.inr (5, [.ref (ad j), .int (nI (n + 1)), .int (mo + 1)]))))) wna wrf wrc) ∧ (¬ r_5 < 30 →
J_2 ()))) (nI n)))) wrf wrc wna)))
abbrev rm_Qd_doneF : Room := { frames := 7, cells := 1, slots := 100, locals := 171 }
set_option maxHeartbeats 4000000 in
set_option maxRecDepth 100000 in
theorem c_Qd_doneF {l : Launch} {D : va_G} {ad : Nat → Nat} (CE : Value → (Nat → Int32) → (Nat → Int32) → Nat → Option va_E) {cI cZ cJ cO : ClassId} {iQ : Nat} {ipl : Nat} {ibr : Nat} {iL : Nat} {iP : Nat} {iM : Nat} {iU : Nat} {ipt : Nat} {iE : Nat} {iwU : Nat} {iwA : Nat} {iwB : Nat} {iwC : Nat} {n : Nat} {wna : Int32} {mo : Int32} {ec : Nat → Option Nat} {np : Int32} {rw : Int32} {aq : Int32} {pn : Int32} {wrs : Nat → Int32} {b : Nat} (hba : ∀ a, ad (b + a) = a) {t0 mi : Nat} (k_Q : ∀ (bg : Value) (wrf : Nat → Int32) (wrc : Nat → Int32), (CE bg wrf wrc) iQ = some (.inr (0, [.ref (ad ipl), .ref (ad ibr), .int np, .ref (ad iL), bg, .ref (ad iP), .ref (ad iM), .ref (ad iU), .ref (ad ipt), .int rw, .int aq, .int pn]))) (k_L : ∀ (bg : Value) (wrf : Nat → Int32) (wrc : Nat → Int32), (CE bg wrf wrc) iL = some (.inr (5, [.ref (ad iE), .int (nI n), .int mo]))) (k_E : ∀ (bg : Value) (wrf : Nat → Int32) (wrc : Nat → Int32), (CE bg wrf wrc) iE = some (.inl (cO, n, .inr (.inr (.inr (.inr ec)))))) (k_wU : ∀ (bg : Value) (wrf : Nat → Int32) (wrc : Nat → Int32), (CE bg wrf wrc) iwU = some (.inr (3, [.ref (ad iwA), .ref (ad iwB), .ref (ad iwC), .int wna]))) (k_wA : ∀ (bg : Value) (wrf : Nat → Int32) (wrc : Nat → Int32), (CE bg wrf wrc) iwA = some (.inl (cI, 4, .inl wrs))) (k_wB : ∀ (bg : Value) (wrf : Nat → Int32) (wrc : Nat → Int32), (CE bg wrf wrc) iwB = some (.inl (cI, 4, .inl wrf))) (k_wC : ∀ (bg : Value) (wrf : Nat → Int32) (wrc : Nat → Int32), (CE bg wrf wrc) iwC = some (.inl (cI, 4, .inl wrc))) (u_Q : ∀ (bg : Value) (wrf : Nat → Int32) (wrc : Nat → Int32) (bg' : Value), va_up (CE bg wrf wrc) iQ (some (.inr (0, [.ref (ad ipl), .ref (ad ibr), .int np, .ref (ad iL), bg', .ref (ad iP), .ref (ad iM), .ref (ad iU), .ref (ad ipt), .int rw, .int aq, .int pn]))) = (CE bg' wrf wrc)) (u_wB : ∀ (bg : Value) (wrf : Nat → Int32) (wrc : Nat → Int32) (wrf' : Nat → Int32), va_up (CE bg wrf wrc) iwB (some (.inl (cI, 4, .inl wrf'))) = (CE bg wrf' wrc)) (u_wC : ∀ (bg : Value) (wrf : Nat → Int32) (wrc : Nat → Int32) (wrc' : Nat → Int32), va_up (CE bg wrf wrc) iwC (some (.inl (cI, 4, .inl wrc'))) = (CE bg wrf wrc')) {post : Int32 → (Nat → Option va_E) → Prop} {wrf : Nat → Int32} {wrc : Nat → Int32} (h : wp_Qd_doneF post ad cI cO b CE iQ ipl ibr iL iP iM iU ipt iE iwU iwA iwB iwC n wna mo ec wrf wrc) : ∀ sz, Met l y_Qd_done (Cond.code y_Qd_done b_Qd_done 2 (some .int) :: xg) rm_Qd_doneF (xq_Pc t0 mi D xcl (xT cI cZ cJ cO) ad (CE (.ref (ad iwU)) wrf wrc) sz [.ref (ad iQ)]) (va_Qi (fun (r : Int32) (u : Nat → Option va_E) => post r u) (xm_B D xcl (xT cI cZ cJ cO) (xm_A ad (CE (.ref (ad iwU)) wrf wrc) sz) (fun _ => ad) (fun u : Nat → Option va_E => u)) (xm_A ad (CE (.ref (ad iwU)) wrf wrc) sz)) 1 100 (xm_A ad (CE (.ref (ad iwU)) wrf wrc) sz) := by
  refine xq_ofW (cc := b_Qd_done) (maxL := 2) (ret := (some .int)) (by decide) rfl (Nat.le_of_ble_eq_true rfl) ?_
  intro p e s m args below meth c ls QQ hQQ hT hx hb hml hr hown hlk hnm hts hl hw
  have hl : lv_has ls 2 [(0, .ref (ad iQ))] := hl
  unfold wp_Qd_doneF at h
  refine lv_aload_n hx hb d_Qd_done_0 rfl (lv_at hl 0 rfl) ?_
  refine xm_get (D := D) (v := .ref (ad iwU)) (C := R_Qd) (T := F_Qd) (N := 12) hx hb hts (fun w h => List.mem_cons_of_mem _ (i_Qd w h)) hown hw (k_Q (.ref (ad iwU)) wrf wrc) rfl 4 (by decide) (hts _ (List.mem_cons_of_mem _ xw_111)) (fun _ h9 => h9) rfl d_Qd_done_1 ?_
  refine lv_ifnonnull (tgt := 17) hx hb d_Qd_done_4 (by decide) ?_
  refine lv_aload_n hx hb d_Qd_done_17 rfl (lv_at hl 0 rfl) ?_
  refine xm_get (D := D) (v := .ref (ad iwU)) (C := R_Qd) (T := F_Qd) (N := 12) hx hb hts (fun w h => List.mem_cons_of_mem _ (i_Qd w h)) hown hw (k_Q (.ref (ad iwU)) wrf wrc) rfl 4 (by decide) (hts _ (List.mem_cons_of_mem _ xw_111)) (fun _ h9 => h9) rfl d_Qd_done_18 ?_
  refine lv_astore_n (lv' := [(1, .ref (ad iwU)), (0, .ref (ad iQ))]) hx hb d_Qd_done_21 rfl hl (by decide) rfl (fun ls hl => ?_)
  refine lv_aload_n hx hb d_Qd_done_22 rfl (lv_at hl 1 rfl) ?_
  refine lv_null hx hb d_Qd_done_23 ?_
  refine xm_put (D := D) (v := .null) (ty := .object "QuestionDesk$Rule") (C := R_Qd) (T := F_Qd) (N := 12) hx hb hts (fun w h => List.mem_cons_of_mem _ (i_Qd w h)) t_Qd o_Qd n_Qd hown hw (k_Q (.ref (ad iwU)) wrf wrc) rfl 4 (by decide) (hts _ (List.mem_cons_of_mem _ xw_111)) (fun _ h9 => h9) rfl (by decide +kernel) rfl rfl (Nat.le_of_ble_eq_true rfl) d_Qd_done_24 (fun H locs hw => ?_)
  have hw : xm_W D xcl (xT cI cZ cJ cO) (xm_A ad (CE (.ref (ad iwU)) wrf wrc) s.heap.size) ad (CE .null wrf wrc) s s.heap H locs := xm_W.cast (u_Q (.ref (ad iwU)) wrf wrc .null) hw
  refine lv_aload_n hx hb d_Qd_done_27 rfl (lv_at hl 0 rfl) ?_
  refine xm_get (D := D) (v := .int wna) (C := R_Ru) (T := F_Ru) (N := 4) hx hb hts (fun w h => List.mem_cons_of_mem _ (i_Ru w h)) hown hw (k_wU .null wrf wrc) rfl 3 (by decide) (hts _ (List.mem_cons_of_mem _ xw_97)) (fun _ h9 => h9) rfl d_Qd_done_28 ?_
  refine xj_use h (fun (v_1 : Unit) => ∀ (H : Heap) (locs : List Loc) (ls : Array Slot), xm_W D xcl (xT cI cZ cJ cO) (xm_A ad (CE (.ref (ad iwU)) wrf wrc) s.heap.size) ad (CE .null wrf wrc) s s.heap H locs → lv_has ls 2 [] → W p l e rm_Qd_doneF s m args below meth c H locs 0 0 QQ (F0 m 53 ls [])) (fun v_1 h H locs ls hw hl => ?_) (fun J_2 hJ_2 h => ?_)
  · refine lv_iconst (v := (-1)) hx hb d_Qd_done_53 (by decide) ?_
    subst hQQ
    refine W.widen (k := 1) (n := 100) (by decide) (by decide) ?_
    exact xm_iret hx hb hr hlk hw (CE .null wrf wrc) rfl rfl h d_Qd_done_54
  · refine lv_if_eq (tgt := 53) hx hb d_Qd_done_31 (by decide) (fun hc => ?_) (fun hc => ?_)
    · have h := h.1 hc
      exact hJ_2 () h _ _ _ hw (lv_sub hl [] rfl)
    · have h := h.2 hc
      refine lv_aload_n hx hb d_Qd_done_34 rfl (lv_at hl 0 rfl) ?_
      refine xm_calli (ua := fun _ => ad) (va_runV (As := []) (rest := []) ⟨hx, hb, hml, hown, hts⟩ (c_Ru_isSafe (D := D) (ad := ad) (CE := ((CE .null wrf wrc)))  (k_wU .null wrf wrc) (k_wA .null wrf wrc) (k_wB .null wrf wrc) (k_wC .null wrf wrc) h _) (xg_cwV 0 hts xw_387 xw_384 xw_385 xw_386 xw_7 rfl rfl (by decide +kernel) ⟨Nat.le_of_ble_eq_true rfl, Nat.le_of_ble_eq_true rfl⟩) (xm_preV hw (k_wU .null wrf wrc) rfl _) rfl rfl hl.1 rfl (lv_room (Nat.le_of_ble_eq_true rfl)) d_Qd_done_35 ⟨Nat.le_of_ble_eq_true rfl, Nat.le_of_ble_eq_true rfl⟩) hw (fun r_3 _ H locs h hw => ?_)
      refine lv_if_eq (tgt := 53) hx hb d_Qd_done_38 (by decide) (fun hc => ?_) (fun hc => ?_)
      · have h := h.1 hc
        exact hJ_2 () h _ _ _ hw (lv_sub hl [] rfl)
      · have h := h.2 hc
        refine lv_aload_n hx hb d_Qd_done_41 rfl (lv_at hl 1 rfl) ?_
        refine xm_get (D := D) (v := .ref (ad iL)) (C := R_Qd) (T := F_Qd) (N := 12) hx hb hts (fun w h => List.mem_cons_of_mem _ (i_Qd w h)) hown hw (k_Q .null wrf wrc) rfl 3 (by decide) (hts _ (List.mem_cons_of_mem _ xw_110)) (fun _ h9 => h9) rfl d_Qd_done_42 ?_
        refine xm_calli (ua := fun _ => ad) (va_runV (As := []) (rest := []) ⟨hx, hb, hml, hown, hts⟩ (c_Al_size (D := D) (ad := ad) (CE := ((CE .null wrf wrc)))  (k_L .null wrf wrc) h _) (xg_cwV 0 hts xw_151 xw_148 xw_149 xw_150 xw_4 rfl rfl (by decide +kernel) ⟨Nat.le_of_ble_eq_true rfl, Nat.le_of_ble_eq_true rfl⟩) (xm_preV hw (k_L .null wrf wrc) rfl _) rfl rfl hl.1 rfl (lv_room (Nat.le_of_ble_eq_true rfl)) d_Qd_done_45 ⟨Nat.le_of_ble_eq_true rfl, Nat.le_of_ble_eq_true rfl⟩) hw (fun r_5 _ H locs h hw => ?_)
        refine lv_bipush (v := 30) hx hb d_Qd_done_48 (by decide) ?_
        refine lv_icmp_lt (tgt := 55) hx hb d_Qd_done_50 (by decide) (fun hc => ?_) (fun hc => ?_)
        · have h := h.1 hc
          refine lv_aload_n hx hb d_Qd_done_55 rfl (lv_at hl 0 rfl) ?_
          refine xm_callv (ua := fun _ => ad) (va_runV (As := []) (rest := []) ⟨hx, hb, hml, hown, hts⟩ (c_Ru_blankLoneVariables (D := D) (ad := ad) (CE := (fun rf rc => (CE .null rf rc)))  (fun rf rc => k_wU .null rf rc) (fun rf rc => k_wA .null rf rc) (fun rf rc => k_wB .null rf rc) (fun rf rc => k_wC .null rf rc) (fun rf rc rf' => u_wB .null rf rc rf') (fun rf rc rc' => u_wC .null rf rc rc') h _) (xg_cwV 0 hts xw_401 xw_398 xw_399 xw_400 xw_7 rfl rfl (by decide +kernel) ⟨Nat.le_of_ble_eq_true rfl, Nat.le_of_ble_eq_true rfl⟩) (xm_preV hw (k_wU .null wrf wrc) rfl _) rfl rfl hl.1 rfl (lv_room (Nat.le_of_ble_eq_true rfl)) d_Qd_done_56 ⟨Nat.le_of_ble_eq_true rfl, Nat.le_of_ble_eq_true rfl⟩) hw (fun u_8 H locs h hw => ?_)
          obtain ⟨wrf_9, ewrf_9⟩ : ∃ z, z = u_8.1 := ⟨_, rfl⟩
          obtain ⟨wrc_10, ewrc_10⟩ : ∃ z, z = u_8.2 := ⟨_, rfl⟩
          try dsimp only at h hw
          rw [← ewrf_9, ← ewrc_10] at h hw
          obtain ⟨h2, h40, hel, h⟩ := h
          refine lv_aload_n hx hb d_Qd_done_59 rfl (lv_at hl 1 rfl) ?_
          refine xm_get (D := D) (v := .ref (ad iL)) (C := R_Qd) (T := F_Qd) (N := 12) hx hb hts (fun w h => List.mem_cons_of_mem _ (i_Qd w h)) hown hw (k_Q .null wrf_9 wrc_10) rfl 3 (by decide) (hts _ (List.mem_cons_of_mem _ xw_110)) (fun _ h9 => h9) rfl d_Qd_done_60 ?_
          refine lv_aload_n hx hb d_Qd_done_63 rfl (lv_at hl 0 rfl) ?_
          refine xm_calli (ua := fun _ => ad) (va_runV (As := [.ref (ad iwU)]) (rest := []) ⟨hx, hb, hml, hown, hts⟩ (c_Al_addF (D := D) (ad := ad) (CE .null wrf_9 wrc_10) hba h2 h40 hel (k_L .null wrf_9 wrc_10) (k_E .null wrf_9 wrc_10) (k_wU .null wrf_9 wrc_10) _) (xg_cwV 1 hts xw_409 xw_406 xw_407 xw_408 xw_4 rfl rfl (by decide +kernel) ⟨Nat.le_of_ble_eq_true rfl, Nat.le_of_ble_eq_true rfl⟩) (xq_preV hw hT (k_L .null wrf_9 wrc_10) rfl _) rfl rfl hl.1 rfl (lv_room (Nat.le_of_ble_eq_true rfl)) d_Qd_done_64 ⟨Nat.le_of_ble_eq_true rfl, Nat.le_of_ble_eq_true rfl⟩) hw (fun r j1 H locs hj hw => ?_)
          try dsimp only at hj hw
          obtain ⟨hr1, hj1, hj2⟩ := hj
          have h := h j1 hj1 hj2
          have ne_QL : iQ ≠ iL := fun e => by have q := (k_Q .null wrf_9 wrc_10); rw [e, (k_L .null wrf_9 wrc_10)] at q; simp at q
          have ne_Qj : iQ ≠ j1 := xa_ne (k_Q .null wrf_9 wrc_10) hj2
          have f_Q := (va_up_ne (va_up (CE .null wrf_9 wrc_10) j1 (some (.inl (cO, (n + n / 2), .inr (.inr (.inr (.inr (va_up (va_cpy ec (fun _ => none) 0 0 n) n (some (ad iwU)))))))))) (some (.inr (5, [.ref (ad j1), .int (nI (n + 1)), .int (mo + 1)]))) ne_QL).trans ((va_up_ne _ _ ne_Qj).trans (k_Q .null wrf_9 wrc_10))
          refine lv_pop hx hb d_Qd_done_67 rfl ?_
          refine lv_aload_n hx hb d_Qd_done_68 rfl (lv_at hl 1 rfl) ?_
          refine xm_get (D := D) (v := .ref (ad iL)) (C := R_Qd) (T := F_Qd) (N := 12) hx hb hts (fun w h => List.mem_cons_of_mem _ (i_Qd w h)) hown hw f_Q rfl 3 (by decide) (hts _ (List.mem_cons_of_mem _ xw_110)) (fun _ h9 => h9) rfl d_Qd_done_69 ?_
          refine xm_calli (ua := fun _ => ad) (va_runV (As := []) (rest := []) ⟨hx, hb, hml, hown, hts⟩ (c_Al_size (D := D) (ad := ad) (CE := va_up (va_up (CE .null wrf_9 wrc_10) j1 (some (.inl (cO, (n + n / 2), .inr (.inr (.inr (.inr (va_up (va_cpy ec (fun _ => none) 0 0 n) n (some (ad iwU)))))))))) iL (some (.inr (5, [.ref (ad j1), .int (nI (n + 1)), .int (mo + 1)])))) (va_up_self _ _ _) (post := fun r => r = nI (n + 1)) rfl _) (xg_cwV 0 hts xw_151 xw_148 xw_149 xw_150 xw_4 rfl rfl (by decide +kernel) ⟨Nat.le_of_ble_eq_true rfl, Nat.le_of_ble_eq_true rfl⟩) (xm_preV hw (va_up_self _ _ _) rfl _) rfl rfl hl.1 rfl (lv_room (Nat.le_of_ble_eq_true rfl)) d_Qd_done_72 ⟨Nat.le_of_ble_eq_true rfl, Nat.le_of_ble_eq_true rfl⟩) hw (fun r2 _ H locs hr2 hw => ?_)
          try dsimp only at hr2 hw
          subst hr2
          refine lv_iconst (v := 1) hx hb d_Qd_done_75 (by decide) ?_
          refine lv_isub hx hb d_Qd_done_76 ?_
          subst hQQ
          exact xm_iret hx hb hr hlk hw _ rfl rfl h d_Qd_done_77
        · have h := h.2 hc
          exact hJ_2 () h _ _ _ hw (lv_sub hl [] rfl)
def wp_Qd_done0 (post : Int32 → (Nat → Option va_E) → Prop) (ad : Nat → Nat) (cI cO : ClassId) (b : Nat) (CE : Value → (Nat → Int32) → (Nat → Int32) → Nat → Option va_E) (iQ : Nat) (ipl : Nat) (ibr : Nat) (iL : Nat) (iP : Nat) (iM : Nat) (iU : Nat) (ipt : Nat) (iwU : Nat) (iwA : Nat) (iwB : Nat) (iwC : Nat) (wna : Int32) (mo : Int32) (wrf : Nat → Int32) (wrc : Nat → Int32) : Prop :=
xj (fun (v_1 : Unit) =>
post (-1) (CE .null wrf wrc)) (fun (J_2 : Unit → Prop) =>
((wna = 0 →
J_2 ()) ∧ (¬ wna = 0 →
wp_Ru_isSafe (fun r_3 =>
((r_3 = 0 →
J_2 ()) ∧ (¬ r_3 = 0 →
wp_Al_size (fun r_5 =>
((r_5 < 30 →
wp_Ru_blankLoneVariables (fun wrf_9 wrc_10 =>
∀ j : Nat, b ≤ j → (CE .null wrf_9 wrc_10) j = none →
post (1 - 1) (va_up (va_up (CE .null wrf_9 wrc_10) j (some (.inl (cO, 10, .inr (.inr (.inr (.inr (va_up (fun _ => none) 0 (some (ad iwU)))))))))) iL (some (.inr (5, [.ref (ad j), .int 1, .int (mo + 1)]))))) wna wrf wrc) ∧ (¬ r_5 < 30 →
J_2 ()))) 0))) wrf wrc wna)))
abbrev rm_Qd_done0 : Room := { frames := 5, cells := 1, slots := 100, locals := 117 }
set_option maxHeartbeats 4000000 in
set_option maxRecDepth 100000 in
theorem c_Qd_done0 {l : Launch} {D : va_G} {ad : Nat → Nat} (CE : Value → (Nat → Int32) → (Nat → Int32) → Nat → Option va_E) {cI cZ cJ cO : ClassId} {iQ : Nat} {ipl : Nat} {ibr : Nat} {iL : Nat} {iP : Nat} {iM : Nat} {iU : Nat} {ipt : Nat} {iwU : Nat} {iwA : Nat} {iwB : Nat} {iwC : Nat} {wna : Int32} {mo : Int32} {np : Int32} {rw : Int32} {aq : Int32} {pn : Int32} {wrs : Nat → Int32} {b : Nat} (hba : ∀ a, ad (b + a) = a) {t0 mi : Nat} (k_Q : ∀ (bg : Value) (wrf : Nat → Int32) (wrc : Nat → Int32), (CE bg wrf wrc) iQ = some (.inr (0, [.ref (ad ipl), .ref (ad ibr), .int np, .ref (ad iL), bg, .ref (ad iP), .ref (ad iM), .ref (ad iU), .ref (ad ipt), .int rw, .int aq, .int pn]))) (k_L : ∀ (bg : Value) (wrf : Nat → Int32) (wrc : Nat → Int32), (CE bg wrf wrc) iL = some (.inr (5, [.ref t0, .int 0, .int mo]))) (k_wU : ∀ (bg : Value) (wrf : Nat → Int32) (wrc : Nat → Int32), (CE bg wrf wrc) iwU = some (.inr (3, [.ref (ad iwA), .ref (ad iwB), .ref (ad iwC), .int wna]))) (k_wA : ∀ (bg : Value) (wrf : Nat → Int32) (wrc : Nat → Int32), (CE bg wrf wrc) iwA = some (.inl (cI, 4, .inl wrs))) (k_wB : ∀ (bg : Value) (wrf : Nat → Int32) (wrc : Nat → Int32), (CE bg wrf wrc) iwB = some (.inl (cI, 4, .inl wrf))) (k_wC : ∀ (bg : Value) (wrf : Nat → Int32) (wrc : Nat → Int32), (CE bg wrf wrc) iwC = some (.inl (cI, 4, .inl wrc))) (u_Q : ∀ (bg : Value) (wrf : Nat → Int32) (wrc : Nat → Int32) (bg' : Value), va_up (CE bg wrf wrc) iQ (some (.inr (0, [.ref (ad ipl), .ref (ad ibr), .int np, .ref (ad iL), bg', .ref (ad iP), .ref (ad iM), .ref (ad iU), .ref (ad ipt), .int rw, .int aq, .int pn]))) = (CE bg' wrf wrc)) (u_wB : ∀ (bg : Value) (wrf : Nat → Int32) (wrc : Nat → Int32) (wrf' : Nat → Int32), va_up (CE bg wrf wrc) iwB (some (.inl (cI, 4, .inl wrf'))) = (CE bg wrf' wrc)) (u_wC : ∀ (bg : Value) (wrf : Nat → Int32) (wrc : Nat → Int32) (wrc' : Nat → Int32), va_up (CE bg wrf wrc) iwC (some (.inl (cI, 4, .inl wrc'))) = (CE bg wrf wrc')) {post : Int32 → (Nat → Option va_E) → Prop} {wrf : Nat → Int32} {wrc : Nat → Int32} (h : wp_Qd_done0 post ad cI cO b CE iQ ipl ibr iL iP iM iU ipt iwU iwA iwB iwC wna mo wrf wrc) : ∀ sz, Met l y_Qd_done (Cond.code y_Qd_done b_Qd_done 2 (some .int) :: xg) rm_Qd_done0 (xq_Pc t0 mi D xcl (xT cI cZ cJ cO) ad (CE (.ref (ad iwU)) wrf wrc) sz [.ref (ad iQ)]) (va_Qi (fun (r : Int32) (u : Nat → Option va_E) => post r u) (xm_B D xcl (xT cI cZ cJ cO) (xm_A ad (CE (.ref (ad iwU)) wrf wrc) sz) (fun _ => ad) (fun u : Nat → Option va_E => u)) (xm_A ad (CE (.ref (ad iwU)) wrf wrc) sz)) 1 100 (xm_A ad (CE (.ref (ad iwU)) wrf wrc) sz) := by
  refine xq_ofW (cc := b_Qd_done) (maxL := 2) (ret := (some .int)) (by decide) rfl (Nat.le_of_ble_eq_true rfl) ?_
  intro p e s m args below meth c ls QQ hQQ hT hx hb hml hr hown hlk hnm hts hl hw
  have hl : lv_has ls 2 [(0, .ref (ad iQ))] := hl
  unfold wp_Qd_done0 at h
  refine lv_aload_n hx hb d_Qd_done_0 rfl (lv_at hl 0 rfl) ?_
  refine xm_get (D := D) (v := .ref (ad iwU)) (C := R_Qd) (T := F_Qd) (N := 12) hx hb hts (fun w h => List.mem_cons_of_mem _ (i_Qd w h)) hown hw (k_Q (.ref (ad iwU)) wrf wrc) rfl 4 (by decide) (hts _ (List.mem_cons_of_mem _ xw_111)) (fun _ h9 => h9) rfl d_Qd_done_1 ?_
  refine lv_ifnonnull (tgt := 17) hx hb d_Qd_done_4 (by decide) ?_
  refine lv_aload_n hx hb d_Qd_done_17 rfl (lv_at hl 0 rfl) ?_
  refine xm_get (D := D) (v := .ref (ad iwU)) (C := R_Qd) (T := F_Qd) (N := 12) hx hb hts (fun w h => List.mem_cons_of_mem _ (i_Qd w h)) hown hw (k_Q (.ref (ad iwU)) wrf wrc) rfl 4 (by decide) (hts _ (List.mem_cons_of_mem _ xw_111)) (fun _ h9 => h9) rfl d_Qd_done_18 ?_
  refine lv_astore_n (lv' := [(1, .ref (ad iwU)), (0, .ref (ad iQ))]) hx hb d_Qd_done_21 rfl hl (by decide) rfl (fun ls hl => ?_)
  refine lv_aload_n hx hb d_Qd_done_22 rfl (lv_at hl 1 rfl) ?_
  refine lv_null hx hb d_Qd_done_23 ?_
  refine xm_put (D := D) (v := .null) (ty := .object "QuestionDesk$Rule") (C := R_Qd) (T := F_Qd) (N := 12) hx hb hts (fun w h => List.mem_cons_of_mem _ (i_Qd w h)) t_Qd o_Qd n_Qd hown hw (k_Q (.ref (ad iwU)) wrf wrc) rfl 4 (by decide) (hts _ (List.mem_cons_of_mem _ xw_111)) (fun _ h9 => h9) rfl (by decide +kernel) rfl rfl (Nat.le_of_ble_eq_true rfl) d_Qd_done_24 (fun H locs hw => ?_)
  have hw : xm_W D xcl (xT cI cZ cJ cO) (xm_A ad (CE (.ref (ad iwU)) wrf wrc) s.heap.size) ad (CE .null wrf wrc) s s.heap H locs := xm_W.cast (u_Q (.ref (ad iwU)) wrf wrc .null) hw
  refine lv_aload_n hx hb d_Qd_done_27 rfl (lv_at hl 0 rfl) ?_
  refine xm_get (D := D) (v := .int wna) (C := R_Ru) (T := F_Ru) (N := 4) hx hb hts (fun w h => List.mem_cons_of_mem _ (i_Ru w h)) hown hw (k_wU .null wrf wrc) rfl 3 (by decide) (hts _ (List.mem_cons_of_mem _ xw_97)) (fun _ h9 => h9) rfl d_Qd_done_28 ?_
  refine xj_use h (fun (v_1 : Unit) => ∀ (H : Heap) (locs : List Loc) (ls : Array Slot), xm_W D xcl (xT cI cZ cJ cO) (xm_A ad (CE (.ref (ad iwU)) wrf wrc) s.heap.size) ad (CE .null wrf wrc) s s.heap H locs → lv_has ls 2 [] → W p l e rm_Qd_done0 s m args below meth c H locs 0 0 QQ (F0 m 53 ls [])) (fun v_1 h H locs ls hw hl => ?_) (fun J_2 hJ_2 h => ?_)
  · refine lv_iconst (v := (-1)) hx hb d_Qd_done_53 (by decide) ?_
    subst hQQ
    refine W.widen (k := 1) (n := 100) (by decide) (by decide) ?_
    exact xm_iret hx hb hr hlk hw (CE .null wrf wrc) rfl rfl h d_Qd_done_54
  · refine lv_if_eq (tgt := 53) hx hb d_Qd_done_31 (by decide) (fun hc => ?_) (fun hc => ?_)
    · have h := h.1 hc
      exact hJ_2 () h _ _ _ hw (lv_sub hl [] rfl)
    · have h := h.2 hc
      refine lv_aload_n hx hb d_Qd_done_34 rfl (lv_at hl 0 rfl) ?_
      refine xm_calli (ua := fun _ => ad) (va_runV (As := []) (rest := []) ⟨hx, hb, hml, hown, hts⟩ (c_Ru_isSafe (D := D) (ad := ad) (CE := ((CE .null wrf wrc)))  (k_wU .null wrf wrc) (k_wA .null wrf wrc) (k_wB .null wrf wrc) (k_wC .null wrf wrc) h _) (xg_cwV 0 hts xw_387 xw_384 xw_385 xw_386 xw_7 rfl rfl (by decide +kernel) ⟨Nat.le_of_ble_eq_true rfl, Nat.le_of_ble_eq_true rfl⟩) (xm_preV hw (k_wU .null wrf wrc) rfl _) rfl rfl hl.1 rfl (lv_room (Nat.le_of_ble_eq_true rfl)) d_Qd_done_35 ⟨Nat.le_of_ble_eq_true rfl, Nat.le_of_ble_eq_true rfl⟩) hw (fun r_3 _ H locs h hw => ?_)
      refine lv_if_eq (tgt := 53) hx hb d_Qd_done_38 (by decide) (fun hc => ?_) (fun hc => ?_)
      · have h := h.1 hc
        exact hJ_2 () h _ _ _ hw (lv_sub hl [] rfl)
      · have h := h.2 hc
        refine lv_aload_n hx hb d_Qd_done_41 rfl (lv_at hl 1 rfl) ?_
        refine xm_get (D := D) (v := .ref (ad iL)) (C := R_Qd) (T := F_Qd) (N := 12) hx hb hts (fun w h => List.mem_cons_of_mem _ (i_Qd w h)) hown hw (k_Q .null wrf wrc) rfl 3 (by decide) (hts _ (List.mem_cons_of_mem _ xw_110)) (fun _ h9 => h9) rfl d_Qd_done_42 ?_
        refine xm_calli (ua := fun _ => ad) (va_runV (As := []) (rest := []) ⟨hx, hb, hml, hown, hts⟩ (c_Al_size (D := D) (ad := ad) (CE := ((CE .null wrf wrc)))  (k_L .null wrf wrc) h _) (xg_cwV 0 hts xw_151 xw_148 xw_149 xw_150 xw_4 rfl rfl (by decide +kernel) ⟨Nat.le_of_ble_eq_true rfl, Nat.le_of_ble_eq_true rfl⟩) (xm_preV hw (k_L .null wrf wrc) rfl _) rfl rfl hl.1 rfl (lv_room (Nat.le_of_ble_eq_true rfl)) d_Qd_done_45 ⟨Nat.le_of_ble_eq_true rfl, Nat.le_of_ble_eq_true rfl⟩) hw (fun r_5 _ H locs h hw => ?_)
        refine lv_bipush (v := 30) hx hb d_Qd_done_48 (by decide) ?_
        refine lv_icmp_lt (tgt := 55) hx hb d_Qd_done_50 (by decide) (fun hc => ?_) (fun hc => ?_)
        · have h := h.1 hc
          refine lv_aload_n hx hb d_Qd_done_55 rfl (lv_at hl 0 rfl) ?_
          refine xm_callv (ua := fun _ => ad) (va_runV (As := []) (rest := []) ⟨hx, hb, hml, hown, hts⟩ (c_Ru_blankLoneVariables (D := D) (ad := ad) (CE := (fun rf rc => (CE .null rf rc)))  (fun rf rc => k_wU .null rf rc) (fun rf rc => k_wA .null rf rc) (fun rf rc => k_wB .null rf rc) (fun rf rc => k_wC .null rf rc) (fun rf rc rf' => u_wB .null rf rc rf') (fun rf rc rc' => u_wC .null rf rc rc') h _) (xg_cwV 0 hts xw_401 xw_398 xw_399 xw_400 xw_7 rfl rfl (by decide +kernel) ⟨Nat.le_of_ble_eq_true rfl, Nat.le_of_ble_eq_true rfl⟩) (xm_preV hw (k_wU .null wrf wrc) rfl _) rfl rfl hl.1 rfl (lv_room (Nat.le_of_ble_eq_true rfl)) d_Qd_done_56 ⟨Nat.le_of_ble_eq_true rfl, Nat.le_of_ble_eq_true rfl⟩) hw (fun u_8 H locs h hw => ?_)
          obtain ⟨wrf_9, ewrf_9⟩ : ∃ z, z = u_8.1 := ⟨_, rfl⟩
          obtain ⟨wrc_10, ewrc_10⟩ : ∃ z, z = u_8.2 := ⟨_, rfl⟩
          try dsimp only at h hw
          rw [← ewrf_9, ← ewrc_10] at h hw
          refine lv_aload_n hx hb d_Qd_done_59 rfl (lv_at hl 1 rfl) ?_
          refine xm_get (D := D) (v := .ref (ad iL)) (C := R_Qd) (T := F_Qd) (N := 12) hx hb hts (fun w h => List.mem_cons_of_mem _ (i_Qd w h)) hown hw (k_Q .null wrf_9 wrc_10) rfl 3 (by decide) (hts _ (List.mem_cons_of_mem _ xw_110)) (fun _ h9 => h9) rfl d_Qd_done_60 ?_
          refine lv_aload_n hx hb d_Qd_done_63 rfl (lv_at hl 0 rfl) ?_
          refine xm_calli (ua := fun _ => ad) (va_runV (As := [.ref (ad iwU)]) (rest := []) ⟨hx, hb, hml, hown, hts⟩ (c_Al_add0 (D := D) (ad := ad) (CE .null wrf_9 wrc_10) hba (k_L .null wrf_9 wrc_10) (k_wU .null wrf_9 wrc_10) _) (xg_cwV 1 hts xw_409 xw_406 xw_407 xw_408 xw_4 rfl rfl (by decide +kernel) ⟨Nat.le_of_ble_eq_true rfl, Nat.le_of_ble_eq_true rfl⟩) (xq_preV hw hT (k_L .null wrf_9 wrc_10) rfl _) rfl rfl hl.1 rfl (lv_room (Nat.le_of_ble_eq_true rfl)) d_Qd_done_64 ⟨Nat.le_of_ble_eq_true rfl, Nat.le_of_ble_eq_true rfl⟩) hw (fun r j1 H locs hj hw => ?_)
          try dsimp only at hj hw
          obtain ⟨hr1, hj1, hj2⟩ := hj
          have h := h j1 hj1 hj2
          have ne_QL : iQ ≠ iL := fun e => by have q := (k_Q .null wrf_9 wrc_10); rw [e, (k_L .null wrf_9 wrc_10)] at q; simp at q
          have ne_Qj : iQ ≠ j1 := xa_ne (k_Q .null wrf_9 wrc_10) hj2
          have f_Q := (va_up_ne (va_up (CE .null wrf_9 wrc_10) j1 (some (.inl (cO, 10, .inr (.inr (.inr (.inr (va_up (fun _ => none) 0 (some (ad iwU)))))))))) (some (.inr (5, [.ref (ad j1), .int (1), .int (mo + 1)]))) ne_QL).trans ((va_up_ne _ _ ne_Qj).trans (k_Q .null wrf_9 wrc_10))
          refine lv_pop hx hb d_Qd_done_67 rfl ?_
          refine lv_aload_n hx hb d_Qd_done_68 rfl (lv_at hl 1 rfl) ?_
          refine xm_get (D := D) (v := .ref (ad iL)) (C := R_Qd) (T := F_Qd) (N := 12) hx hb hts (fun w h => List.mem_cons_of_mem _ (i_Qd w h)) hown hw f_Q rfl 3 (by decide) (hts _ (List.mem_cons_of_mem _ xw_110)) (fun _ h9 => h9) rfl d_Qd_done_69 ?_
          refine xm_calli (ua := fun _ => ad) (va_runV (As := []) (rest := []) ⟨hx, hb, hml, hown, hts⟩ (c_Al_size (D := D) (ad := ad) (CE := va_up (va_up (CE .null wrf_9 wrc_10) j1 (some (.inl (cO, 10, .inr (.inr (.inr (.inr (va_up (fun _ => none) 0 (some (ad iwU)))))))))) iL (some (.inr (5, [.ref (ad j1), .int 1, .int (mo + 1)])))) (va_up_self _ _ _) (post := fun r => r = 1) rfl _) (xg_cwV 0 hts xw_151 xw_148 xw_149 xw_150 xw_4 rfl rfl (by decide +kernel) ⟨Nat.le_of_ble_eq_true rfl, Nat.le_of_ble_eq_true rfl⟩) (xm_preV hw (va_up_self _ _ _) rfl _) rfl rfl hl.1 rfl (lv_room (Nat.le_of_ble_eq_true rfl)) d_Qd_done_72 ⟨Nat.le_of_ble_eq_true rfl, Nat.le_of_ble_eq_true rfl⟩) hw (fun r2 _ H locs hr2 hw => ?_)
          try dsimp only at hr2 hw
          subst hr2
          refine lv_iconst (v := 1) hx hb d_Qd_done_75 (by decide) ?_
          refine lv_isub hx hb d_Qd_done_76 ?_
          subst hQQ
          exact xm_iret hx hb hr hlk hw _ rfl rfl h d_Qd_done_77
        · have h := h.2 hc
          exact hJ_2 () h _ _ _ hw (lv_sub hl [] rfl)
def wp_La_doneF (post : Int32 → (Nat → Option va_E) → Prop) (ad : Nat → Nat) (cI cO cJ : ClassId) (b : Nat) (CE : Value → (Nat → Int32) → (Nat → Int32) → (Nat → Int64) → Nat → Option va_E) (iQ : Nat) (ipl : Nat) (ibr : Nat) (iL : Nat) (iP : Nat) (iM : Nat) (iU : Nat) (ipt : Nat) (iE : Nat) (iwU : Nat) (iwA : Nat) (iwB : Nat) (iwC : Nat) (iO : Nat) (n : Nat) (wna : Int32) (mo : Int32) (ec : Nat → Option Nat) (wrf : Nat → Int32) (wrc : Nat → Int32) (oc : Nat → Int64) : Prop :=
wp_Qd_doneF (fun r u => u iO = some (.inl (cJ, 1, .inr (.inl oc))) ∧
∀ oc2 : Nat → Int64, oc2 = vp_updL oc (Int32.toNatClampNeg 0) r.toInt64 →
post 0 (va_up u iO (some (.inl (cJ, 1, .inr (.inl oc2)))))) ad cI cO b (fun bg wrf wrc => CE bg wrf wrc oc) iQ ipl ibr iL iP iM iU ipt iE iwU iwA iwB iwC n wna mo ec wrf wrc
abbrev rm_La_doneF : Room := { frames := 8, cells := 1, slots := 100, locals := 192 }
set_option maxHeartbeats 4000000 in
set_option maxRecDepth 100000 in
theorem c_La_doneF {l : Launch} {D : va_G} {ad : Nat → Nat} (CE : Value → (Nat → Int32) → (Nat → Int32) → (Nat → Int64) → Nat → Option va_E) {cI cZ cJ cO : ClassId} {iQ : Nat} {ipl : Nat} {ibr : Nat} {iL : Nat} {iP : Nat} {iM : Nat} {iU : Nat} {ipt : Nat} {iE : Nat} {iwU : Nat} {iwA : Nat} {iwB : Nat} {iwC : Nat} {iO : Nat} {n : Nat} {wna : Int32} {mo : Int32} {ec : Nat → Option Nat} {np : Int32} {rw : Int32} {aq : Int32} {pn : Int32} {wrs : Nat → Int32} {b : Nat} (hba : ∀ a, ad (b + a) = a) {t0 mi : Nat} (k_Q : ∀ (bg : Value) (wrf : Nat → Int32) (wrc : Nat → Int32) (oc : Nat → Int64), (CE bg wrf wrc oc) iQ = some (.inr (0, [.ref (ad ipl), .ref (ad ibr), .int np, .ref (ad iL), bg, .ref (ad iP), .ref (ad iM), .ref (ad iU), .ref (ad ipt), .int rw, .int aq, .int pn]))) (k_L : ∀ (bg : Value) (wrf : Nat → Int32) (wrc : Nat → Int32) (oc : Nat → Int64), (CE bg wrf wrc oc) iL = some (.inr (5, [.ref (ad iE), .int (nI n), .int mo]))) (k_E : ∀ (bg : Value) (wrf : Nat → Int32) (wrc : Nat → Int32) (oc : Nat → Int64), (CE bg wrf wrc oc) iE = some (.inl (cO, n, .inr (.inr (.inr (.inr ec)))))) (k_wU : ∀ (bg : Value) (wrf : Nat → Int32) (wrc : Nat → Int32) (oc : Nat → Int64), (CE bg wrf wrc oc) iwU = some (.inr (3, [.ref (ad iwA), .ref (ad iwB), .ref (ad iwC), .int wna]))) (k_wA : ∀ (bg : Value) (wrf : Nat → Int32) (wrc : Nat → Int32) (oc : Nat → Int64), (CE bg wrf wrc oc) iwA = some (.inl (cI, 4, .inl wrs))) (k_wB : ∀ (bg : Value) (wrf : Nat → Int32) (wrc : Nat → Int32) (oc : Nat → Int64), (CE bg wrf wrc oc) iwB = some (.inl (cI, 4, .inl wrf))) (k_wC : ∀ (bg : Value) (wrf : Nat → Int32) (wrc : Nat → Int32) (oc : Nat → Int64), (CE bg wrf wrc oc) iwC = some (.inl (cI, 4, .inl wrc))) (k_O : ∀ (bg : Value) (wrf : Nat → Int32) (wrc : Nat → Int32) (oc : Nat → Int64), (CE bg wrf wrc oc) iO = some (.inl (cJ, 1, .inr (.inl oc)))) (u_Q : ∀ (bg : Value) (wrf : Nat → Int32) (wrc : Nat → Int32) (oc : Nat → Int64) (bg' : Value), va_up (CE bg wrf wrc oc) iQ (some (.inr (0, [.ref (ad ipl), .ref (ad ibr), .int np, .ref (ad iL), bg', .ref (ad iP), .ref (ad iM), .ref (ad iU), .ref (ad ipt), .int rw, .int aq, .int pn]))) = (CE bg' wrf wrc oc)) (u_wB : ∀ (bg : Value) (wrf : Nat → Int32) (wrc : Nat → Int32) (oc : Nat → Int64) (wrf' : Nat → Int32), va_up (CE bg wrf wrc oc) iwB (some (.inl (cI, 4, .inl wrf'))) = (CE bg wrf' wrc oc)) (u_wC : ∀ (bg : Value) (wrf : Nat → Int32) (wrc : Nat → Int32) (oc : Nat → Int64) (wrc' : Nat → Int32), va_up (CE bg wrf wrc oc) iwC (some (.inl (cI, 4, .inl wrc'))) = (CE bg wrf wrc' oc)) (u_O : ∀ (bg : Value) (wrf : Nat → Int32) (wrc : Nat → Int32) (oc : Nat → Int64) (oc' : Nat → Int64), va_up (CE bg wrf wrc oc) iO (some (.inl (cJ, 1, .inr (.inl oc')))) = (CE bg wrf wrc oc')) {post : Int32 → (Nat → Option va_E) → Prop} {wrf : Nat → Int32} {wrc : Nat → Int32} {oc : Nat → Int64} (h : wp_La_doneF post ad cI cO cJ b CE iQ ipl ibr iL iP iM iU ipt iE iwU iwA iwB iwC iO n wna mo ec wrf wrc oc) : ∀ sz, Met l y_La_done (Cond.codeWith y_La_done b_La_done 3 (some .int) [(0, 8, 11, 30)] :: xg) rm_La_doneF (xq_Pc t0 mi D xcl (xT cI cZ cJ cO) ad (CE (.ref (ad iwU)) wrf wrc oc) sz [.ref (ad iQ), .ref (ad iO)]) (va_Qi (fun (r : Int32) (u : Nat → Option va_E) => post r u) (xm_B D xcl (xT cI cZ cJ cO) (xm_A ad (CE (.ref (ad iwU)) wrf wrc oc) sz) (fun _ => ad) (fun u : Nat → Option va_E => u)) (xm_A ad (CE (.ref (ad iwU)) wrf wrc oc) sz)) 1 100 (xm_A ad (CE (.ref (ad iwU)) wrf wrc oc) sz) := by
  refine xqh_ofW (cc := b_La_done) (maxL := 3) (ret := (some .int)) (by decide) rfl (Nat.le_of_ble_eq_true rfl) ?_
  intro p e s m args below meth c ls QQ hQQ hT htab hx hb hml hr hown hlk hnm hts hl hw
  have hl : lv_has ls 3 [(0, .ref (ad iQ)), (1, .ref (ad iO))] := hl
  unfold wp_La_doneF at h
  refine lv_aload_n hx hb d_La_done_0 rfl (lv_at hl 1 rfl) ?_
  refine lv_iconst (v := 0) hx hb d_La_done_1 (by decide) ?_
  refine lv_aload_n hx hb d_La_done_2 rfl (lv_at hl 0 rfl) ?_
  refine xm_calli (ua := fun _ => ad) (va_runV (As := []) (rest := [.int 0, .ref (ad iO)]) ⟨hx, hb, hml, hown, hts⟩ (c_Qd_doneF (D := D) (ad := ad) (CE := (fun bg wrf wrc => CE bg wrf wrc oc)) hba (fun bg wrf wrc => k_Q bg wrf wrc oc) (fun bg wrf wrc => k_L bg wrf wrc oc) (fun bg wrf wrc => k_E bg wrf wrc oc) (fun bg wrf wrc => k_wU bg wrf wrc oc) (fun bg wrf wrc => k_wA bg wrf wrc oc) (fun bg wrf wrc => k_wB bg wrf wrc oc) (fun bg wrf wrc => k_wC bg wrf wrc oc) (fun bg wrf wrc bg' => u_Q bg wrf wrc oc bg') (fun bg wrf wrc wrf' => u_wB bg wrf wrc oc wrf') (fun bg wrf wrc wrc' => u_wC bg wrf wrc oc wrc') h _) (xg_cwV 0 hts xw_382 xw_379 xw_380 xw_381 xw_1 rfl rfl (by decide +kernel) ⟨Nat.le_of_ble_eq_true rfl, Nat.le_of_ble_eq_true rfl⟩) (xq_preV hw hT (k_Q (.ref (ad iwU)) wrf wrc oc) rfl _) rfl rfl hl.1 rfl (lv_room (Nat.le_of_ble_eq_true rfl)) d_La_done_3 ⟨Nat.le_of_ble_eq_true rfl, Nat.le_of_ble_eq_true rfl⟩) hw (fun r u H locs h hw => ?_)
  try dsimp only at h hw
  obtain ⟨hO, h⟩ := h
  refine lv_i2l hx hb d_La_done_6 rfl ?_
  refine xm_last hx hb hw 2 hO rfl (vp_in_nI (n := 0) (by decide) (by decide)) d_La_done_7 (fun H locs hw => ?_)
  have h := h _ rfl
  refine lv_goto (tgt := 14) hx hb d_La_done_8 (by decide) ?_
  refine lv_iconst (v := 0) hx hb d_La_done_14 (by decide) ?_
  subst hQQ
  exact xm_iret hx hb hr hlk hw _ rfl rfl h d_La_done_15
def wp_La_done0 (post : Int32 → (Nat → Option va_E) → Prop) (ad : Nat → Nat) (cI cO cJ : ClassId) (b : Nat) (CE : Value → (Nat → Int32) → (Nat → Int32) → (Nat → Int64) → Nat → Option va_E) (iQ : Nat) (ipl : Nat) (ibr : Nat) (iL : Nat) (iP : Nat) (iM : Nat) (iU : Nat) (ipt : Nat) (iwU : Nat) (iwA : Nat) (iwB : Nat) (iwC : Nat) (iO : Nat) (wna : Int32) (mo : Int32) (wrf : Nat → Int32) (wrc : Nat → Int32) (oc : Nat → Int64) : Prop :=
wp_Qd_done0 (fun r u => u iO = some (.inl (cJ, 1, .inr (.inl oc))) ∧
∀ oc2 : Nat → Int64, oc2 = vp_updL oc (Int32.toNatClampNeg 0) r.toInt64 →
post 0 (va_up u iO (some (.inl (cJ, 1, .inr (.inl oc2)))))) ad cI cO b (fun bg wrf wrc => CE bg wrf wrc oc) iQ ipl ibr iL iP iM iU ipt iwU iwA iwB iwC wna mo wrf wrc
abbrev rm_La_done0 : Room := { frames := 6, cells := 1, slots := 100, locals := 138 }
set_option maxHeartbeats 4000000 in
set_option maxRecDepth 100000 in
theorem c_La_done0 {l : Launch} {D : va_G} {ad : Nat → Nat} (CE : Value → (Nat → Int32) → (Nat → Int32) → (Nat → Int64) → Nat → Option va_E) {cI cZ cJ cO : ClassId} {iQ : Nat} {ipl : Nat} {ibr : Nat} {iL : Nat} {iP : Nat} {iM : Nat} {iU : Nat} {ipt : Nat} {iwU : Nat} {iwA : Nat} {iwB : Nat} {iwC : Nat} {iO : Nat} {wna : Int32} {mo : Int32} {np : Int32} {rw : Int32} {aq : Int32} {pn : Int32} {wrs : Nat → Int32} {b : Nat} (hba : ∀ a, ad (b + a) = a) {t0 mi : Nat} (k_Q : ∀ (bg : Value) (wrf : Nat → Int32) (wrc : Nat → Int32) (oc : Nat → Int64), (CE bg wrf wrc oc) iQ = some (.inr (0, [.ref (ad ipl), .ref (ad ibr), .int np, .ref (ad iL), bg, .ref (ad iP), .ref (ad iM), .ref (ad iU), .ref (ad ipt), .int rw, .int aq, .int pn]))) (k_L : ∀ (bg : Value) (wrf : Nat → Int32) (wrc : Nat → Int32) (oc : Nat → Int64), (CE bg wrf wrc oc) iL = some (.inr (5, [.ref t0, .int 0, .int mo]))) (k_wU : ∀ (bg : Value) (wrf : Nat → Int32) (wrc : Nat → Int32) (oc : Nat → Int64), (CE bg wrf wrc oc) iwU = some (.inr (3, [.ref (ad iwA), .ref (ad iwB), .ref (ad iwC), .int wna]))) (k_wA : ∀ (bg : Value) (wrf : Nat → Int32) (wrc : Nat → Int32) (oc : Nat → Int64), (CE bg wrf wrc oc) iwA = some (.inl (cI, 4, .inl wrs))) (k_wB : ∀ (bg : Value) (wrf : Nat → Int32) (wrc : Nat → Int32) (oc : Nat → Int64), (CE bg wrf wrc oc) iwB = some (.inl (cI, 4, .inl wrf))) (k_wC : ∀ (bg : Value) (wrf : Nat → Int32) (wrc : Nat → Int32) (oc : Nat → Int64), (CE bg wrf wrc oc) iwC = some (.inl (cI, 4, .inl wrc))) (k_O : ∀ (bg : Value) (wrf : Nat → Int32) (wrc : Nat → Int32) (oc : Nat → Int64), (CE bg wrf wrc oc) iO = some (.inl (cJ, 1, .inr (.inl oc)))) (u_Q : ∀ (bg : Value) (wrf : Nat → Int32) (wrc : Nat → Int32) (oc : Nat → Int64) (bg' : Value), va_up (CE bg wrf wrc oc) iQ (some (.inr (0, [.ref (ad ipl), .ref (ad ibr), .int np, .ref (ad iL), bg', .ref (ad iP), .ref (ad iM), .ref (ad iU), .ref (ad ipt), .int rw, .int aq, .int pn]))) = (CE bg' wrf wrc oc)) (u_wB : ∀ (bg : Value) (wrf : Nat → Int32) (wrc : Nat → Int32) (oc : Nat → Int64) (wrf' : Nat → Int32), va_up (CE bg wrf wrc oc) iwB (some (.inl (cI, 4, .inl wrf'))) = (CE bg wrf' wrc oc)) (u_wC : ∀ (bg : Value) (wrf : Nat → Int32) (wrc : Nat → Int32) (oc : Nat → Int64) (wrc' : Nat → Int32), va_up (CE bg wrf wrc oc) iwC (some (.inl (cI, 4, .inl wrc'))) = (CE bg wrf wrc' oc)) (u_O : ∀ (bg : Value) (wrf : Nat → Int32) (wrc : Nat → Int32) (oc : Nat → Int64) (oc' : Nat → Int64), va_up (CE bg wrf wrc oc) iO (some (.inl (cJ, 1, .inr (.inl oc')))) = (CE bg wrf wrc oc')) {post : Int32 → (Nat → Option va_E) → Prop} {wrf : Nat → Int32} {wrc : Nat → Int32} {oc : Nat → Int64} (h : wp_La_done0 post ad cI cO cJ b CE iQ ipl ibr iL iP iM iU ipt iwU iwA iwB iwC iO wna mo wrf wrc oc) : ∀ sz, Met l y_La_done (Cond.codeWith y_La_done b_La_done 3 (some .int) [(0, 8, 11, 30)] :: xg) rm_La_done0 (xq_Pc t0 mi D xcl (xT cI cZ cJ cO) ad (CE (.ref (ad iwU)) wrf wrc oc) sz [.ref (ad iQ), .ref (ad iO)]) (va_Qi (fun (r : Int32) (u : Nat → Option va_E) => post r u) (xm_B D xcl (xT cI cZ cJ cO) (xm_A ad (CE (.ref (ad iwU)) wrf wrc oc) sz) (fun _ => ad) (fun u : Nat → Option va_E => u)) (xm_A ad (CE (.ref (ad iwU)) wrf wrc oc) sz)) 1 100 (xm_A ad (CE (.ref (ad iwU)) wrf wrc oc) sz) := by
  refine xqh_ofW (cc := b_La_done) (maxL := 3) (ret := (some .int)) (by decide) rfl (Nat.le_of_ble_eq_true rfl) ?_
  intro p e s m args below meth c ls QQ hQQ hT htab hx hb hml hr hown hlk hnm hts hl hw
  have hl : lv_has ls 3 [(0, .ref (ad iQ)), (1, .ref (ad iO))] := hl
  unfold wp_La_done0 at h
  refine lv_aload_n hx hb d_La_done_0 rfl (lv_at hl 1 rfl) ?_
  refine lv_iconst (v := 0) hx hb d_La_done_1 (by decide) ?_
  refine lv_aload_n hx hb d_La_done_2 rfl (lv_at hl 0 rfl) ?_
  refine xm_calli (ua := fun _ => ad) (va_runV (As := []) (rest := [.int 0, .ref (ad iO)]) ⟨hx, hb, hml, hown, hts⟩ (c_Qd_done0 (D := D) (ad := ad) (CE := (fun bg wrf wrc => CE bg wrf wrc oc)) hba (fun bg wrf wrc => k_Q bg wrf wrc oc) (fun bg wrf wrc => k_L bg wrf wrc oc) (fun bg wrf wrc => k_wU bg wrf wrc oc) (fun bg wrf wrc => k_wA bg wrf wrc oc) (fun bg wrf wrc => k_wB bg wrf wrc oc) (fun bg wrf wrc => k_wC bg wrf wrc oc) (fun bg wrf wrc bg' => u_Q bg wrf wrc oc bg') (fun bg wrf wrc wrf' => u_wB bg wrf wrc oc wrf') (fun bg wrf wrc wrc' => u_wC bg wrf wrc oc wrc') h _) (xg_cwV 0 hts xw_382 xw_379 xw_380 xw_381 xw_1 rfl rfl (by decide +kernel) ⟨Nat.le_of_ble_eq_true rfl, Nat.le_of_ble_eq_true rfl⟩) (xq_preV hw hT (k_Q (.ref (ad iwU)) wrf wrc oc) rfl _) rfl rfl hl.1 rfl (lv_room (Nat.le_of_ble_eq_true rfl)) d_La_done_3 ⟨Nat.le_of_ble_eq_true rfl, Nat.le_of_ble_eq_true rfl⟩) hw (fun r u H locs h hw => ?_)
  try dsimp only at h hw
  obtain ⟨hO, h⟩ := h
  refine lv_i2l hx hb d_La_done_6 rfl ?_
  refine xm_last hx hb hw 2 hO rfl (vp_in_nI (n := 0) (by decide) (by decide)) d_La_done_7 (fun H locs hw => ?_)
  have h := h _ rfl
  refine lv_goto (tgt := 14) hx hb d_La_done_8 (by decide) ?_
  refine lv_iconst (v := 0) hx hb d_La_done_14 (by decide) ?_
  subst hQQ
  exact xm_iret hx hb hr hlk hw _ rfl rfl h d_La_done_15
abbrev b_La_head : ByteArray := method_6_code
def y_La_head : MethodName := ⟨"QuestionDeskLaw", "head", "(LQuestionDesk;III)I"⟩
theorem d_La_head_0 : decode b_La_head 0 = .ok (.aload_n 0, 1) := by decide +kernel
theorem d_La_head_1 : decode b_La_head 1 = .ok (.iload_n 1, 1) := by decide +kernel
theorem d_La_head_2 : decode b_La_head 2 = .ok (.iload_n 2, 1) := by decide +kernel
theorem d_La_head_3 : decode b_La_head 3 = .ok (.iload_n 3, 1) := by decide +kernel
theorem d_La_head_4 : decode b_La_head 4 = .ok (.invokevirtual 22, 3) := by decide +kernel
theorem d_La_head_7 : decode b_La_head 7 = .ok (.goto 7, 3) := by decide +kernel
theorem d_La_head_10 : decode b_La_head 10 = .ok (.astore 4, 2) := by decide +kernel
theorem d_La_head_12 : decode b_La_head 12 = .ok (.iconst 1, 1) := by decide +kernel
theorem d_La_head_13 : decode b_La_head 13 = .ok (.ireturn, 1) := by decide +kernel
theorem d_La_head_14 : decode b_La_head 14 = .ok (.iconst 0, 1) := by decide +kernel
theorem d_La_head_15 : decode b_La_head 15 = .ok (.ireturn, 1) := by decide +kernel
theorem xw_339 : (Jvm.Cond.code ({ cls := "QuestionDesk", name := "head", desc := "(III)V" } : Jvm.MethodName) prog_1_method_5_code (4 : Nat) (Option.none : Option Jvm.ClassFile.FieldType)) ∈ xg := xg_t (i := 339) (by decide +kernel) (by decide +kernel)
theorem xw_336 : (Jvm.Cond.methodLink "QuestionDeskLaw" (22 : Nat) ({ cls := "QuestionDesk", name := "head", desc := "(III)V" } : Jvm.MethodName)) ∈ xg := xg_t (i := 336) (by decide +kernel) (by decide +kernel)
theorem xw_337 : (Jvm.Cond.instanceMethod ({ cls := "QuestionDesk", name := "head", desc := "(III)V" } : Jvm.MethodName)) ∈ xg := xg_t (i := 337) (by decide +kernel) (by decide +kernel)
theorem xw_338 : (Jvm.Cond.selects "QuestionDesk" ({ cls := "QuestionDesk", name := "head", desc := "(III)V" } : Jvm.MethodName) ({ cls := "QuestionDesk", name := "head", desc := "(III)V" } : Jvm.MethodName)) ∈ xg := xg_t (i := 338) (by decide +kernel) (by decide +kernel)
def wp_La_head (post : Int32 → (Nat → Option va_E) → Prop) (ad : Nat → Nat) (cI cO : ClassId) (b : Nat) (CE : Value → Nat → Option va_E) (iQ : Nat) (ipl : Nat) (ibr : Nat) (iL : Nat) (iP : Nat) (iM : Nat) (iU : Nat) (ipt : Nat) (np : Int32) (qpl : Nat → Int32) (qbr : Nat → Int32) (bg : Value) (a0 : Int32) (x : Int32) (y : Int32) : Prop :=
wp_Qd_head (fun u => post 0 u) (fun E => (E = "java/lang/IllegalArgumentException" ∧ post 1 ((CE bg)))) ad cI cO b CE iQ ipl ibr iL iP iM iU ipt np qpl qbr bg a0 x y
abbrev rm_La_head : Room := { frames := 8, cells := 5, slots := 22, locals := 133 }
set_option maxHeartbeats 4000000 in
set_option maxRecDepth 100000 in
theorem c_La_head {l : Launch} {D : va_G} {ad : Nat → Nat} (CE : Value → Nat → Option va_E) {cI cZ cJ cO : ClassId} {iQ : Nat} {ipl : Nat} {ibr : Nat} {iL : Nat} {iP : Nat} {iM : Nat} {iU : Nat} {ipt : Nat} {np : Int32} {qpl : Nat → Int32} {qbr : Nat → Int32} {rw : Int32} {aq : Int32} {pn : Int32} {b : Nat} (hba : ∀ a, ad (b + a) = a) (k_Q : ∀ (bg : Value), (CE bg) iQ = some (.inr (0, [.ref (ad ipl), .ref (ad ibr), .int np, .ref (ad iL), bg, .ref (ad iP), .ref (ad iM), .ref (ad iU), .ref (ad ipt), .int rw, .int aq, .int pn]))) (k_pl : ∀ (bg : Value), (CE bg) ipl = some (.inl (cI, 10, .inl qpl))) (k_br : ∀ (bg : Value), (CE bg) ibr = some (.inl (cZ, 10, .inl qbr))) (u_Q : ∀ (bg : Value) (bg' : Value), va_up (CE bg) iQ (some (.inr (0, [.ref (ad ipl), .ref (ad ibr), .int np, .ref (ad iL), bg', .ref (ad iP), .ref (ad iM), .ref (ad iU), .ref (ad ipt), .int rw, .int aq, .int pn]))) = (CE bg')) {post : Int32 → (Nat → Option va_E) → Prop} {bg : Value} {a0 : Int32} {x : Int32} {y : Int32} (hlt : l.stackTraces = false) (h : wp_La_head post ad cI cO b CE iQ ipl ibr iL iP iM iU ipt np qpl qbr bg a0 x y) : ∀ sz, Met l y_La_head (Cond.codeWith y_La_head b_La_head 5 (some .int) [(0, 7, 10, 13)] :: xg) rm_La_head (xh_Pc D xcl (xT cI cZ cJ cO) ad (CE bg) sz [.ref (ad iQ), .int a0, .int x, .int y]) (va_Qi (fun (r : Int32) (u : Nat → Option va_E) => post r u) (xm_B D xcl (xT cI cZ cJ cO) (xm_A ad (CE bg) sz) (fun _ => ad) (fun u : Nat → Option va_E => u)) (xm_A ad (CE bg) sz)) 5 22 (xm_A ad (CE bg) sz) := by
  refine xh_ofW (cc := b_La_head) (maxL := 5) (ret := (some .int)) (by decide) rfl (Nat.le_of_ble_eq_true rfl) ?_
  intro p e s m args below meth c ls QQ hQQ hT hNc htab hx hb hml hr hown hlk hnm hts hl hw
  have hl : lv_has ls 5 [(0, .ref (ad iQ)), (1, .int a0), (2, .int x), (3, .int y)] := hl
  unfold wp_La_head at h
  refine lv_aload_n hx hb d_La_head_0 rfl (lv_at hl 0 rfl) ?_
  refine lv_iload_n hx hb d_La_head_1 rfl (lv_at hl 1 rfl) ?_
  refine lv_iload_n hx hb d_La_head_2 rfl (lv_at hl 2 rfl) ?_
  refine lv_iload_n hx hb d_La_head_3 rfl (lv_at hl 3 rfl) ?_
  refine xv_callv (ua := fun _ => ad) (vx_runV (As := [.int a0, .int x, .int y]) (rest := []) ⟨hx, hb, hml, hown, hts⟩ (c_Qd_head (D := D) (ad := ad) (CE := CE) hba k_Q k_pl k_br u_Q hlt h _) (xg_cwV 3 hts xw_339 xw_336 xw_337 xw_338 xw_1 rfl rfl (by decide +kernel) ⟨Nat.le_of_ble_eq_true rfl, Nat.le_of_ble_eq_true rfl⟩) (xv_preV hw hT (k_Q bg) rfl _) rfl rfl hl.1 rfl (lv_room (Nat.le_of_ble_eq_true rfl)) d_La_head_4 ⟨Nat.le_of_ble_eq_true rfl, Nat.le_of_ble_eq_true rfl⟩) hw (fun E c9 q9 H locs hpx hw h1 h2 h3 => ?_) (fun u H locs h hw => ?_)
  · obtain ⟨rfl, h⟩ := hpx
    refine vx_catch (name := "java/lang/IllegalArgumentException") hown [] ⟨0, 7, 10, 13⟩ [] (htab.trans rfl) (fun z hz => nomatch hz) (by decide) (by decide) (hts _ (List.mem_cons_of_mem _ xw_232)) ((hT.2.2.2.2.2 (.castable "java/lang/IllegalArgumentException" "java/lang/IllegalArgumentException") (by decide +kernel)).use rfl) h1 h2 h3 ?_
    refine lv_astore (lv' := [(4, .ref q9), (0, .ref (ad iQ)), (1, .int a0), (2, .int x), (3, .int y)]) hx hb d_La_head_10 hl (by decide) rfl (fun ls hl => ?_)
    refine lv_iconst (v := 1) hx hb d_La_head_12 (by decide) ?_
    subst hQQ
    refine W.widen (k := 5) (n := 22) (by decide) (by decide) ?_
    exact xm_iret hx hb hr hlk hw _ rfl rfl h d_La_head_13
  · try dsimp only at h hw
    refine lv_goto (tgt := 14) hx hb d_La_head_7 (by decide) ?_
    refine lv_iconst (v := 0) hx hb d_La_head_14 (by decide) ?_
    subst hQQ
    refine W.widen (k := 5) (n := 22) (by decide) (by decide) ?_
    exact xm_iret hx hb hr hlk hw _ rfl rfl h d_La_head_15
