def wp_Qd_bodyN (post : Int32 → Prop) (pex : String → Prop)  (np : Int32) (qpl : Nat → Int32) (a0 : Int32) (x : Int32) (y : Int32) : Prop :=
pex "java/lang/IllegalStateException"
abbrev rm_Qd_bodyN : Room := { frames := 6, cells := 1, slots := 6, locals := 90 }
set_option maxHeartbeats 4000000 in
set_option maxRecDepth 100000 in
theorem c_Qd_bodyN {l : Launch} {D : va_G} {ad : Nat → Nat} (CE : Nat → Option va_E) {cI cZ cJ cO : ClassId} {iQ : Nat} {ipl : Nat} {ibr : Nat} {iL : Nat} {iP : Nat} {iM : Nat} {iU : Nat} {ipt : Nat} {np : Int32} {qpl : Nat → Int32} {rw : Int32} {aq : Int32} {pn : Int32} (k_Q : CE iQ = some (.inr (0, [.ref (ad ipl), .ref (ad ibr), .int np, .ref (ad iL), .null, .ref (ad iP), .ref (ad iM), .ref (ad iU), .ref (ad ipt), .int rw, .int aq, .int pn]))) (k_pl : CE ipl = some (.inl (cI, 10, .inl qpl))) {post : Int32 → Prop} {a0 : Int32} {x : Int32} {y : Int32} {pex : String → Prop} (hlt : l.stackTraces = false) (h : wp_Qd_bodyN post pex np qpl a0 x y) : ∀ sz, vx_Met l y_Qd_body (Cond.code y_Qd_body b_Qd_body 4 (some .int) :: xg) rm_Qd_bodyN (xv_Pc D xcl (xT cI cZ cJ cO) ad CE sz [.ref (ad iQ), .int a0, .int x, .int y]) (va_Qi (fun (r : Int32) (_ : Unit) => post r) (xm_B D xcl (xT cI cZ cJ cO) (xm_A ad CE sz) (fun _ => ad) (fun _ : Unit => CE)) (xm_A ad CE sz)) (xv_X D xcl (xT cI cZ cJ cO) (xm_A ad CE sz) ad CE pex) 1 6 (xm_A ad CE sz) := by
  refine xv_ofW (cc := b_Qd_body) (maxL := 4) (ret := (some .int)) (by decide) rfl (Nat.le_of_ble_eq_true rfl) ?_
  intro p e s m args below meth c ls QQ hQQ hT hout hx hb hml hr hown hlk hnm hts hl hw
  have hl : lv_has ls 4 [(0, .ref (ad iQ)), (1, .int a0), (2, .int x), (3, .int y)] := hl
  unfold wp_Qd_bodyN at h
  refine lv_aload_n hx hb d_Qd_body_0 rfl (lv_at hl 0 rfl) ?_
  refine xm_get (D := D) (v := .null) (C := R_Qd) (T := F_Qd) (N := 12) hx hb hts (fun w h => List.mem_cons_of_mem _ (i_Qd w h)) hown hw k_Q rfl 4 (by decide) (hts _ (List.mem_cons_of_mem _ xw_111)) (fun _ h9 => h9) rfl d_Qd_body_1 ?_
  refine lv_ifnullN (tgt := 18) hx hb d_Qd_body_4 (by decide) ?_
  obtain ⟨sa, hsa⟩ := hT.2.1
  subst hQQ
  exact xv_throw (cls := "java/lang/IllegalStateException") (sa := sa) hx hb hlt hown hts hT (by decide +kernel) xw_356 xw_13 hsa (by decide +kernel) (by decide +kernel) hw (hl.1.trans hml.symm) d_Qd_body_18 d_Qd_body_21 d_Qd_body_22 d_Qd_body_24 d_Qd_body_27 hout (by decide) (by decide) (by decide) (by decide) hlk h (by decide) (by decide)
def wp_Qd_doneN (post : Int32 → Prop) (pex : String → Prop)   : Prop :=
pex "java/lang/IllegalStateException"
abbrev rm_Qd_doneN : Room := { frames := 6, cells := 1, slots := 6, locals := 90 }
set_option maxHeartbeats 4000000 in
set_option maxRecDepth 100000 in
theorem c_Qd_doneN {l : Launch} {D : va_G} {ad : Nat → Nat} (CE : Nat → Option va_E) {cI cZ cJ cO : ClassId} {iQ : Nat} {ipl : Nat} {ibr : Nat} {iL : Nat} {iP : Nat} {iM : Nat} {iU : Nat} {ipt : Nat} {np : Int32} {rw : Int32} {aq : Int32} {pn : Int32} (k_Q : CE iQ = some (.inr (0, [.ref (ad ipl), .ref (ad ibr), .int np, .ref (ad iL), .null, .ref (ad iP), .ref (ad iM), .ref (ad iU), .ref (ad ipt), .int rw, .int aq, .int pn]))) {post : Int32 → Prop}  {pex : String → Prop} (hlt : l.stackTraces = false) (h : wp_Qd_doneN post pex ) : ∀ sz, vx_Met l y_Qd_done (Cond.code y_Qd_done b_Qd_done 2 (some .int) :: xg) rm_Qd_doneN (xv_Pc D xcl (xT cI cZ cJ cO) ad CE sz [.ref (ad iQ)]) (va_Qi (fun (r : Int32) (_ : Unit) => post r) (xm_B D xcl (xT cI cZ cJ cO) (xm_A ad CE sz) (fun _ => ad) (fun _ : Unit => CE)) (xm_A ad CE sz)) (xv_X D xcl (xT cI cZ cJ cO) (xm_A ad CE sz) ad CE pex) 1 6 (xm_A ad CE sz) := by
  refine xv_ofW (cc := b_Qd_done) (maxL := 2) (ret := (some .int)) (by decide) rfl (Nat.le_of_ble_eq_true rfl) ?_
  intro p e s m args below meth c ls QQ hQQ hT hout hx hb hml hr hown hlk hnm hts hl hw
  have hl : lv_has ls 2 [(0, .ref (ad iQ))] := hl
  unfold wp_Qd_doneN at h
  refine lv_aload_n hx hb d_Qd_done_0 rfl (lv_at hl 0 rfl) ?_
  refine xm_get (D := D) (v := .null) (C := R_Qd) (T := F_Qd) (N := 12) hx hb hts (fun w h => List.mem_cons_of_mem _ (i_Qd w h)) hown hw k_Q rfl 4 (by decide) (hts _ (List.mem_cons_of_mem _ xw_111)) (fun _ h9 => h9) rfl d_Qd_done_1 ?_
  refine lv_ifnonnullN hx hb d_Qd_done_4 ?_
  obtain ⟨sa, hsa⟩ := hT.2.2.1
  subst hQQ
  exact xv_throw (cls := "java/lang/IllegalStateException") (sa := sa) hx hb hlt hown hts hT (by decide +kernel) xw_356 xw_13 hsa (by decide +kernel) (by decide +kernel) hw (hl.1.trans hml.symm) d_Qd_done_7 d_Qd_done_10 d_Qd_done_11 d_Qd_done_13 d_Qd_done_16 hout (by decide) (by decide) (by decide) (by decide) hlk h (by decide) (by decide)
