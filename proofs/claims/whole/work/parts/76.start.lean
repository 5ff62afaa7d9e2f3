theorem xw_21 : (Jvm.Cond.classLink "QuestionDeskLaw" (8 : Nat) "QuestionDesk") ∈ xg := xg_t (i := 21) (by decide +kernel) (by decide +kernel)
theorem xw_22 : (Jvm.Cond.instantiable "QuestionDesk" (12 : Nat)) ∈ xg := xg_t (i := 22) (by decide +kernel) (by decide +kernel)
theorem xw_25 : (Jvm.Cond.code ({ cls := "QuestionDesk", name := "<init>", desc := "()V" } : Jvm.MethodName) prog_1_method_1_code (1 : Nat) (Option.none : Option Jvm.ClassFile.FieldType)) ∈ xg := xg_t (i := 25) (by decide +kernel) (by decide +kernel)
theorem xw_24 : (Jvm.Cond.instanceMethod ({ cls := "QuestionDesk", name := "<init>", desc := "()V" } : Jvm.MethodName)) ∈ xg := xg_t (i := 24) (by decide +kernel) (by decide +kernel)
theorem xw_23 : (Jvm.Cond.methodLink "QuestionDeskLaw" (48 : Nat) ({ cls := "QuestionDesk", name := "<init>", desc := "()V" } : Jvm.MethodName)) ∈ xg := xg_t (i := 23) (by decide +kernel) (by decide +kernel)
theorem xw_556 : (Jvm.Cond.classLink "QuestionDeskLaw" (49 : Nat) "QuestionDeskModel") ∈ xg := xg_t (i := 556) (by decide +kernel) (by decide +kernel)
theorem xw_557 : (Jvm.Cond.instantiable "QuestionDeskModel" (28 : Nat)) ∈ xg := xg_t (i := 557) (by decide +kernel) (by decide +kernel)
theorem xw_560 : (Jvm.Cond.code ({ cls := "QuestionDeskModel", name := "<init>", desc := "()V" } : Jvm.MethodName) prog_6_method_1_code (1 : Nat) (Option.none : Option Jvm.ClassFile.FieldType)) ∈ xg := xg_t (i := 560) (by decide +kernel) (by decide +kernel)
theorem xw_559 : (Jvm.Cond.instanceMethod ({ cls := "QuestionDeskModel", name := "<init>", desc := "()V" } : Jvm.MethodName)) ∈ xg := xg_t (i := 559) (by decide +kernel) (by decide +kernel)
theorem xw_558 : (Jvm.Cond.methodLink "QuestionDeskLaw" (51 : Nat) ({ cls := "QuestionDeskModel", name := "<init>", desc := "()V" } : Jvm.MethodName)) ∈ xg := xg_t (i := 558) (by decide +kernel) (by decide +kernel)
theorem xw_798 : (Jvm.Cond.arrayClass Jvm.ClassFile.FieldType.long) ∈ xg := xg_t (i := 798) (by decide +kernel) (by decide +kernel)
set_option maxHeartbeats 16000000 in
set_option maxRecDepth 100000 in
theorem whole_start {p : Program} {e : Env} {s : State} {m : MethodId} {below : List Frame} {meth : Method} {c : Code} (l : Launch) (hlt : l.stackTraces = false) {b0 L : Nat} {xs : Nat → Int32} (hL : L ≤ 2048) (C0 : lw_At p s m meth c b0 L xs) : W p l e room_1 s m #[Value.ref b0] below meth c s.heap [] 0 0 (lw_Z below #[Value.ref b0] s) (entryFrame m ([Value.ref b0] : List Value).toArray 7) := by
  obtain ⟨hx, hb, hr, hml, hown, hts0, hX, hbl, hlocks, hgv⟩ := C0
  have hown : s.vm.findClass "QuestionDeskLaw" = some m.cls := hown
  have hb : c.code = b_La_law := hb
  obtain ⟨D, cI, cZ, cJ, cO, hK⟩ := lx_K hts0
  obtain ⟨c0, hts⟩ := lx_ts hts0
  obtain ⟨t0, mi, hq⟩ := lx_xq hts0 hgv
  have hT := lx_xt hts0 hgv
  have hNc := lx_nc hgv
  have hN := lx_xn hts0
  have hbA : ¬ xlA s b0 := Nat.not_le.mpr hbl
  obtain ⟨b, hb100⟩ : ∃ b : Nat, b = 100 := ⟨_, rfl⟩
  obtain ⟨ad0, had0⟩ : ∃ z : Nat → Nat, z = fun i => i - b := ⟨_, rfl⟩
  have hba0 : ∀ a, ad0 (b + a) = a := fun a => by rw [had0]; exact Nat.add_sub_cancel_left b a
  have hl := lv_entry ([.ref b0]) (n := 7) (Nat.le_of_ble_eq_true rfl)
  rw [lg_entry_eq]
  generalize (lg_sl ([.ref b0]) ++ List.replicate (7 - (lg_sl ([.ref b0])).length) Slot.unset).toArray = ls at hl ⊢
  have hl : lv_has ls 7 [(0, .ref b0)] := hl
  obtain ⟨ce, hce⟩ : ∃ z : Nat → Option va_E, z = fun _ => none := ⟨_, rfl⟩
  have hw : xm_W D xcl (xT cI cZ cJ cO) (xlA s) ad0 ce s s.heap s.heap [] := ⟨hK, fun i x h => by rw [hce] at h; (cases h), ⟨fun i j h => absurd (by rw [hce]) h, fun i h => absurd (by rw [hce]) h⟩, va_S.rf, fun _ h => h, hN⟩
  have hba := hba0
  have fr_Q : ce (b + s.heap.size) = none := xa_free hw hba (Nat.le_of_eq rfl)
  refine xa_new (D := D) (b := b) (ci := 0) (fs := [.null, .null, .int 0, .null, .null, .null, .null, .null, .null, .int 0, .int 0, .int 0]) (C := R_Qd) (T := F_Qd) (N := 12) hx hb hts (fun w h => List.mem_cons_of_mem _ (i_Qd w h)) t_Qd o_Qd hown (hts _ (List.mem_cons_of_mem _ xw_21)) (hts _ (List.mem_cons_of_mem _ xw_22)) (hts _ (List.mem_cons_of_mem _ xw_1)) hw hba rfl (by decide) (by decide) (by decide) d_La_law_0 (fun H hz1 hw => ?_)
  have hz : H.size = s.heap.size + 1 := hz1
  obtain ⟨ce901, hce901⟩ : ∃ z, z = va_up ce (b + s.heap.size) (some (.inr (0, [.null, .null, .int 0, .null, .null, .null, .null, .null, .null, .int 0, .int 0, .int 0]))) := ⟨_, rfl⟩
  have hw := xm_W.cast hce901.symm hw
  have f_Q : ce901 (b + s.heap.size) = some (.inr (0, [.null, .null, .int 0, .null, .null, .null, .null, .null, .null, .int 0, .int 0, .int 0])) := by rw [hce901]; exact va_up_self _ _ _
  refine lv_dup hx hb d_La_law_3 rfl ?_
  refine xm_callv (ua := fun _ => ad0) (va_runI (As := []) (rest := [.ref (ad0 (b + s.heap.size))]) ⟨hx, hb, hml, hown, hts⟩ (c_Qd_init (D := D) (ad := ad0) ce901 hba f_Q _) (xg_cwI 0 hts xw_25 xw_23 xw_24 xw_1 rfl rfl rfl (by decide +kernel) ⟨Nat.le_of_ble_eq_true rfl, Nat.le_of_ble_eq_true rfl⟩) (xq_pre hw hq _) rfl rfl hl.1 rfl (lv_room (Nat.le_of_ble_eq_true rfl)) d_La_law_4 ⟨Nat.le_of_ble_eq_true rfl, Nat.le_of_ble_eq_true rfl⟩) hw (fun ce902 H1 locs h hw => ?_)
  try dsimp only at h hw
  obtain ⟨jPL, jBR, jL, jPP, jR, jMM, jV, jUU, jA, jB, jC, jPT, hnd, f_Q, f_PL, f_BR, f_L, f_PP, f_R, f_MM, f_V, f_UU, f_A, f_B, f_C, f_PT⟩ := h
  simp only [List.nodup_cons, List.mem_cons, List.not_mem_nil, or_false, not_or, not_false_eq_true, List.nodup_nil, and_true] at hnd
  obtain ⟨⟨ne_Q_PL, ne_Q_BR, ne_Q_L, ne_Q_PP, ne_Q_R, ne_Q_MM, ne_Q_V, ne_Q_UU, ne_Q_A, ne_Q_B, ne_Q_C, ne_Q_PT⟩, ⟨ne_PL_BR, ne_PL_L, ne_PL_PP, ne_PL_R, ne_PL_MM, ne_PL_V, ne_PL_UU, ne_PL_A, ne_PL_B, ne_PL_C, ne_PL_PT⟩, ⟨ne_BR_L, ne_BR_PP, ne_BR_R, ne_BR_MM, ne_BR_V, ne_BR_UU, ne_BR_A, ne_BR_B, ne_BR_C, ne_BR_PT⟩, ⟨ne_L_PP, ne_L_R, ne_L_MM, ne_L_V, ne_L_UU, ne_L_A, ne_L_B, ne_L_C, ne_L_PT⟩, ⟨ne_PP_R, ne_PP_MM, ne_PP_V, ne_PP_UU, ne_PP_A, ne_PP_B, ne_PP_C, ne_PP_PT⟩, ⟨ne_R_MM, ne_R_V, ne_R_UU, ne_R_A, ne_R_B, ne_R_C, ne_R_PT⟩, ⟨ne_MM_V, ne_MM_UU, ne_MM_A, ne_MM_B, ne_MM_C, ne_MM_PT⟩, ⟨ne_V_UU, ne_V_A, ne_V_B, ne_V_C, ne_V_PT⟩, ⟨ne_UU_A, ne_UU_B, ne_UU_C, ne_UU_PT⟩, ⟨ne_A_B, ne_A_C, ne_A_PT⟩, ⟨ne_B_C, ne_B_PT⟩, ne_C_PT⟩ := hnd
  have ne_PL_Q := Ne.symm ne_Q_PL
  have ne_BR_Q := Ne.symm ne_Q_BR
  have ne_L_Q := Ne.symm ne_Q_L
  have ne_PP_Q := Ne.symm ne_Q_PP
  have ne_R_Q := Ne.symm ne_Q_R
  have ne_MM_Q := Ne.symm ne_Q_MM
  have ne_V_Q := Ne.symm ne_Q_V
  have ne_UU_Q := Ne.symm ne_Q_UU
  have ne_A_Q := Ne.symm ne_Q_A
  have ne_B_Q := Ne.symm ne_Q_B
  have ne_C_Q := Ne.symm ne_Q_C
  have ne_PT_Q := Ne.symm ne_Q_PT
  have ne_BR_PL := Ne.symm ne_PL_BR
  have ne_L_PL := Ne.symm ne_PL_L
  have ne_PP_PL := Ne.symm ne_PL_PP
  have ne_R_PL := Ne.symm ne_PL_R
  have ne_MM_PL := Ne.symm ne_PL_MM
  have ne_V_PL := Ne.symm ne_PL_V
  have ne_UU_PL := Ne.symm ne_PL_UU
  have ne_A_PL := Ne.symm ne_PL_A
  have ne_B_PL := Ne.symm ne_PL_B
  have ne_C_PL := Ne.symm ne_PL_C
  have ne_PT_PL := Ne.symm ne_PL_PT
  have ne_L_BR := Ne.symm ne_BR_L
  have ne_PP_BR := Ne.symm ne_BR_PP
  have ne_R_BR := Ne.symm ne_BR_R
  have ne_MM_BR := Ne.symm ne_BR_MM
  have ne_V_BR := Ne.symm ne_BR_V
  have ne_UU_BR := Ne.symm ne_BR_UU
  have ne_A_BR := Ne.symm ne_BR_A
  have ne_B_BR := Ne.symm ne_BR_B
  have ne_C_BR := Ne.symm ne_BR_C
  have ne_PT_BR := Ne.symm ne_BR_PT
  have ne_PP_L := Ne.symm ne_L_PP
  have ne_R_L := Ne.symm ne_L_R
  have ne_MM_L := Ne.symm ne_L_MM
  have ne_V_L := Ne.symm ne_L_V
  have ne_UU_L := Ne.symm ne_L_UU
  have ne_A_L := Ne.symm ne_L_A
  have ne_B_L := Ne.symm ne_L_B
  have ne_C_L := Ne.symm ne_L_C
  have ne_PT_L := Ne.symm ne_L_PT
  have ne_R_PP := Ne.symm ne_PP_R
  have ne_MM_PP := Ne.symm ne_PP_MM
  have ne_V_PP := Ne.symm ne_PP_V
  have ne_UU_PP := Ne.symm ne_PP_UU
  have ne_A_PP := Ne.symm ne_PP_A
  have ne_B_PP := Ne.symm ne_PP_B
  have ne_C_PP := Ne.symm ne_PP_C
  have ne_PT_PP := Ne.symm ne_PP_PT
  have ne_MM_R := Ne.symm ne_R_MM
  have ne_V_R := Ne.symm ne_R_V
  have ne_UU_R := Ne.symm ne_R_UU
  have ne_A_R := Ne.symm ne_R_A
  have ne_B_R := Ne.symm ne_R_B
  have ne_C_R := Ne.symm ne_R_C
  have ne_PT_R := Ne.symm ne_R_PT
  have ne_V_MM := Ne.symm ne_MM_V
  have ne_UU_MM := Ne.symm ne_MM_UU
  have ne_A_MM := Ne.symm ne_MM_A
  have ne_B_MM := Ne.symm ne_MM_B
  have ne_C_MM := Ne.symm ne_MM_C
  have ne_PT_MM := Ne.symm ne_MM_PT
  have ne_UU_V := Ne.symm ne_V_UU
  have ne_A_V := Ne.symm ne_V_A
  have ne_B_V := Ne.symm ne_V_B
  have ne_C_V := Ne.symm ne_V_C
  have ne_PT_V := Ne.symm ne_V_PT
  have ne_A_UU := Ne.symm ne_UU_A
  have ne_B_UU := Ne.symm ne_UU_B
  have ne_C_UU := Ne.symm ne_UU_C
  have ne_PT_UU := Ne.symm ne_UU_PT
  have ne_B_A := Ne.symm ne_A_B
  have ne_C_A := Ne.symm ne_A_C
  have ne_PT_A := Ne.symm ne_A_PT
  have ne_C_B := Ne.symm ne_B_C
  have ne_PT_B := Ne.symm ne_B_PT
  have ne_PT_C := Ne.symm ne_C_PT
  obtain ⟨z900, hz⟩ : ∃ z, H1.size = z := ⟨_, rfl⟩
  obtain ⟨H, eH⟩ : ∃ z, z = H1 := ⟨_, rfl⟩
  subst eH
  refine lv_astore_n (lv' := [(1, .ref (ad0 (b + s.heap.size))), (0, .ref b0)]) hx hb d_La_law_7 rfl hl (by decide) rfl (fun ls hl => ?_)
  have fr_Z : ce902 (b + z900) = none := xa_free hw hba (Nat.le_of_eq hz)
  have ne_Q_Z : (b + s.heap.size) ≠ (b + z900) := xa_ne f_Q fr_Z
  have ne_Z_Q : (b + z900) ≠ (b + s.heap.size) := Ne.symm ne_Q_Z
  have ne_PL_Z : jPL ≠ (b + z900) := xa_ne f_PL fr_Z
  have ne_Z_PL : (b + z900) ≠ jPL := Ne.symm ne_PL_Z
  have ne_BR_Z : jBR ≠ (b + z900) := xa_ne f_BR fr_Z
  have ne_Z_BR : (b + z900) ≠ jBR := Ne.symm ne_BR_Z
  have ne_L_Z : jL ≠ (b + z900) := xa_ne f_L fr_Z
  have ne_Z_L : (b + z900) ≠ jL := Ne.symm ne_L_Z
  have ne_PP_Z : jPP ≠ (b + z900) := xa_ne f_PP fr_Z
  have ne_Z_PP : (b + z900) ≠ jPP := Ne.symm ne_PP_Z
  have ne_R_Z : jR ≠ (b + z900) := xa_ne f_R fr_Z
  have ne_Z_R : (b + z900) ≠ jR := Ne.symm ne_R_Z
  have ne_MM_Z : jMM ≠ (b + z900) := xa_ne f_MM fr_Z
  have ne_Z_MM : (b + z900) ≠ jMM := Ne.symm ne_MM_Z
  have ne_V_Z : jV ≠ (b + z900) := xa_ne f_V fr_Z
  have ne_Z_V : (b + z900) ≠ jV := Ne.symm ne_V_Z
  have ne_UU_Z : jUU ≠ (b + z900) := xa_ne f_UU fr_Z
  have ne_Z_UU : (b + z900) ≠ jUU := Ne.symm ne_UU_Z
  have ne_A_Z : jA ≠ (b + z900) := xa_ne f_A fr_Z
  have ne_Z_A : (b + z900) ≠ jA := Ne.symm ne_A_Z
  have ne_B_Z : jB ≠ (b + z900) := xa_ne f_B fr_Z
  have ne_Z_B : (b + z900) ≠ jB := Ne.symm ne_B_Z
  have ne_C_Z : jC ≠ (b + z900) := xa_ne f_C fr_Z
  have ne_Z_C : (b + z900) ≠ jC := Ne.symm ne_C_Z
  have ne_PT_Z : jPT ≠ (b + z900) := xa_ne f_PT fr_Z
  have ne_Z_PT : (b + z900) ≠ jPT := Ne.symm ne_PT_Z
  refine xa_new (D := D) (b := b) (ci := 4) (fs := [.int 0, .null, .null, .int 0, .null, .null, .null, .null, .null, .null, .int 0, .int 0, .int 0, .int 0, .int 0, .int 0, .int 0, .null, .null, .int 0, .null, .int 0, .null, .null, .null, .int 0, .int 0, .int 0]) (C := R_Mo) (T := F_Mo) (N := 28) hx hb hts (fun w h => List.mem_cons_of_mem _ (i_Mo w h)) t_Mo o_Mo hown (hts _ (List.mem_cons_of_mem _ xw_556)) (hts _ (List.mem_cons_of_mem _ xw_557)) (hts _ (List.mem_cons_of_mem _ xw_8)) hw hba rfl (by decide) (by decide) (by decide) d_La_law_8 (fun H hz1 hw => ?_)
  rw [hz] at hz1 hw
  rw [hz]
  have hz : H.size = z900 + 1 := hz1
  obtain ⟨ce903, hce903⟩ : ∃ z, z = va_up ce902 (b + z900) (some (.inr (4, [.int 0, .null, .null, .int 0, .null, .null, .null, .null, .null, .null, .int 0, .int 0, .int 0, .int 0, .int 0, .int 0, .int 0, .null, .null, .int 0, .null, .int 0, .null, .null, .null, .int 0, .int 0, .int 0]))) := ⟨_, rfl⟩
  have hw := xm_W.cast hce903.symm hw
  have f_Q : ce903 (b + s.heap.size) = some (.inr (0, [.ref (ad0 jPL), .ref (ad0 jBR), .int 0, .ref (ad0 jL), .null, .ref (ad0 jPP), .ref (ad0 jMM), .ref (ad0 jUU), .ref (ad0 jPT), .int 0, .int 0, .int 0])) := by rw [hce903, va_up_ne _ _ ne_Q_Z]; exact f_Q
  have f_PL : ce903 jPL = some (.inl (cI, 10, .inl (fun _ => 0))) := by rw [hce903, va_up_ne _ _ ne_PL_Z]; exact f_PL
  have f_BR : ce903 jBR = some (.inl (cZ, 10, .inl (fun _ => 0))) := by rw [hce903, va_up_ne _ _ ne_BR_Z]; exact f_BR
  have f_L : ce903 jL = some (.inr (5, [.ref t0, .int 0, .int 0])) := by rw [hce903, va_up_ne _ _ ne_L_Z]; exact f_L
  have f_PP : ce903 jPP = some (.inr (1, [.ref (ad0 jR)])) := by rw [hce903, va_up_ne _ _ ne_PP_Z]; exact f_PP
  have f_R : ce903 jR = some (.inl (cI, 341, .inl (fun _ => 0))) := by rw [hce903, va_up_ne _ _ ne_R_Z]; exact f_R
  have f_MM : ce903 jMM = some (.inr (2, [.ref (ad0 jPP), .ref (ad0 jV)])) := by rw [hce903, va_up_ne _ _ ne_MM_Z]; exact f_MM
  have f_V : ce903 jV = some (.inl (cI, 20, .inl (vF vi0))) := by rw [hce903, va_up_ne _ _ ne_V_Z]; exact f_V
  have f_UU : ce903 jUU = some (.inr (3, [.ref (ad0 jA), .ref (ad0 jB), .ref (ad0 jC), .int 0])) := by rw [hce903, va_up_ne _ _ ne_UU_Z]; exact f_UU
  have f_A : ce903 jA = some (.inl (cI, 4, .inl (fun _ => 0))) := by rw [hce903, va_up_ne _ _ ne_A_Z]; exact f_A
  have f_B : ce903 jB = some (.inl (cI, 4, .inl (fun _ => 0))) := by rw [hce903, va_up_ne _ _ ne_B_Z]; exact f_B
  have f_C : ce903 jC = some (.inl (cI, 4, .inl (fun _ => 0))) := by rw [hce903, va_up_ne _ _ ne_C_Z]; exact f_C
  have f_PT : ce903 jPT = some (.inl (cI, 10, .inl (fun _ => 0))) := by rw [hce903, va_up_ne _ _ ne_PT_Z]; exact f_PT
  have f_Z : ce903 (b + z900) = some (.inr (4, [.int 0, .null, .null, .int 0, .null, .null, .null, .null, .null, .null, .int 0, .int 0, .int 0, .int 0, .int 0, .int 0, .int 0, .null, .null, .int 0, .null, .int 0, .null, .null, .null, .int 0, .int 0, .int 0])) := by rw [hce903]; exact va_up_self _ _ _
  refine lv_dup hx hb d_La_law_11 rfl ?_
  have fr_mplaces : ce903 (b + (z900 + 1)) = none := xa_free hw hba (by rw [hz]; omega)
  have ne_Q_mplaces : (b + s.heap.size) ≠ (b + (z900 + 1)) := xa_ne f_Q fr_mplaces
  have ne_mplaces_Q : (b + (z900 + 1)) ≠ (b + s.heap.size) := Ne.symm ne_Q_mplaces
  have ne_PL_mplaces : jPL ≠ (b + (z900 + 1)) := xa_ne f_PL fr_mplaces
  have ne_mplaces_PL : (b + (z900 + 1)) ≠ jPL := Ne.symm ne_PL_mplaces
  have ne_BR_mplaces : jBR ≠ (b + (z900 + 1)) := xa_ne f_BR fr_mplaces
  have ne_mplaces_BR : (b + (z900 + 1)) ≠ jBR := Ne.symm ne_BR_mplaces
  have ne_L_mplaces : jL ≠ (b + (z900 + 1)) := xa_ne f_L fr_mplaces
  have ne_mplaces_L : (b + (z900 + 1)) ≠ jL := Ne.symm ne_L_mplaces
  have ne_PP_mplaces : jPP ≠ (b + (z900 + 1)) := xa_ne f_PP fr_mplaces
  have ne_mplaces_PP : (b + (z900 + 1)) ≠ jPP := Ne.symm ne_PP_mplaces
  have ne_R_mplaces : jR ≠ (b + (z900 + 1)) := xa_ne f_R fr_mplaces
  have ne_mplaces_R : (b + (z900 + 1)) ≠ jR := Ne.symm ne_R_mplaces
  have ne_MM_mplaces : jMM ≠ (b + (z900 + 1)) := xa_ne f_MM fr_mplaces
  have ne_mplaces_MM : (b + (z900 + 1)) ≠ jMM := Ne.symm ne_MM_mplaces
  have ne_V_mplaces : jV ≠ (b + (z900 + 1)) := xa_ne f_V fr_mplaces
  have ne_mplaces_V : (b + (z900 + 1)) ≠ jV := Ne.symm ne_V_mplaces
  have ne_UU_mplaces : jUU ≠ (b + (z900 + 1)) := xa_ne f_UU fr_mplaces
  have ne_mplaces_UU : (b + (z900 + 1)) ≠ jUU := Ne.symm ne_UU_mplaces
  have ne_A_mplaces : jA ≠ (b + (z900 + 1)) := xa_ne f_A fr_mplaces
  have ne_mplaces_A : (b + (z900 + 1)) ≠ jA := Ne.symm ne_A_mplaces
  have ne_B_mplaces : jB ≠ (b + (z900 + 1)) := xa_ne f_B fr_mplaces
  have ne_mplaces_B : (b + (z900 + 1)) ≠ jB := Ne.symm ne_B_mplaces
  have ne_C_mplaces : jC ≠ (b + (z900 + 1)) := xa_ne f_C fr_mplaces
  have ne_mplaces_C : (b + (z900 + 1)) ≠ jC := Ne.symm ne_C_mplaces
  have ne_PT_mplaces : jPT ≠ (b + (z900 + 1)) := xa_ne f_PT fr_mplaces
  have ne_mplaces_PT : (b + (z900 + 1)) ≠ jPT := Ne.symm ne_PT_mplaces
  have ne_Z_mplaces : (b + z900) ≠ (b + (z900 + 1)) := xa_ne f_Z fr_mplaces
  have ne_mplaces_Z : (b + (z900 + 1)) ≠ (b + z900) := Ne.symm ne_Z_mplaces
  have fr_mruled : ce903 (b + (z900 + 2)) = none := xa_free hw hba (by rw [hz]; omega)
  have ne_Q_mruled : (b + s.heap.size) ≠ (b + (z900 + 2)) := xa_ne f_Q fr_mruled
  have ne_mruled_Q : (b + (z900 + 2)) ≠ (b + s.heap.size) := Ne.symm ne_Q_mruled
  have ne_PL_mruled : jPL ≠ (b + (z900 + 2)) := xa_ne f_PL fr_mruled
  have ne_mruled_PL : (b + (z900 + 2)) ≠ jPL := Ne.symm ne_PL_mruled
  have ne_BR_mruled : jBR ≠ (b + (z900 + 2)) := xa_ne f_BR fr_mruled
  have ne_mruled_BR : (b + (z900 + 2)) ≠ jBR := Ne.symm ne_BR_mruled
  have ne_L_mruled : jL ≠ (b + (z900 + 2)) := xa_ne f_L fr_mruled
  have ne_mruled_L : (b + (z900 + 2)) ≠ jL := Ne.symm ne_L_mruled
  have ne_PP_mruled : jPP ≠ (b + (z900 + 2)) := xa_ne f_PP fr_mruled
  have ne_mruled_PP : (b + (z900 + 2)) ≠ jPP := Ne.symm ne_PP_mruled
  have ne_R_mruled : jR ≠ (b + (z900 + 2)) := xa_ne f_R fr_mruled
  have ne_mruled_R : (b + (z900 + 2)) ≠ jR := Ne.symm ne_R_mruled
  have ne_MM_mruled : jMM ≠ (b + (z900 + 2)) := xa_ne f_MM fr_mruled
  have ne_mruled_MM : (b + (z900 + 2)) ≠ jMM := Ne.symm ne_MM_mruled
  have ne_V_mruled : jV ≠ (b + (z900 + 2)) := xa_ne f_V fr_mruled
  have ne_mruled_V : (b + (z900 + 2)) ≠ jV := Ne.symm ne_V_mruled
  have ne_UU_mruled : jUU ≠ (b + (z900 + 2)) := xa_ne f_UU fr_mruled
  have ne_mruled_UU : (b + (z900 + 2)) ≠ jUU := Ne.symm ne_UU_mruled
  have ne_A_mruled : jA ≠ (b + (z900 + 2)) := xa_ne f_A fr_mruled
  have ne_mruled_A : (b + (z900 + 2)) ≠ jA := Ne.symm ne_A_mruled
  have ne_B_mruled : jB ≠ (b + (z900 + 2)) := xa_ne f_B fr_mruled
  have ne_mruled_B : (b + (z900 + 2)) ≠ jB := Ne.symm ne_B_mruled
  have ne_C_mruled : jC ≠ (b + (z900 + 2)) := xa_ne f_C fr_mruled
  have ne_mruled_C : (b + (z900 + 2)) ≠ jC := Ne.symm ne_C_mruled
  have ne_PT_mruled : jPT ≠ (b + (z900 + 2)) := xa_ne f_PT fr_mruled
  have ne_mruled_PT : (b + (z900 + 2)) ≠ jPT := Ne.symm ne_PT_mruled
  have ne_Z_mruled : (b + z900) ≠ (b + (z900 + 2)) := xa_ne f_Z fr_mruled
  have ne_mruled_Z : (b + (z900 + 2)) ≠ (b + z900) := Ne.symm ne_Z_mruled
  have fr_mtold : ce903 (b + (z900 + 3)) = none := xa_free hw hba (by rw [hz]; omega)
  have ne_Q_mtold : (b + s.heap.size) ≠ (b + (z900 + 3)) := xa_ne f_Q fr_mtold
  have ne_mtold_Q : (b + (z900 + 3)) ≠ (b + s.heap.size) := Ne.symm ne_Q_mtold
  have ne_PL_mtold : jPL ≠ (b + (z900 + 3)) := xa_ne f_PL fr_mtold
  have ne_mtold_PL : (b + (z900 + 3)) ≠ jPL := Ne.symm ne_PL_mtold
  have ne_BR_mtold : jBR ≠ (b + (z900 + 3)) := xa_ne f_BR fr_mtold
  have ne_mtold_BR : (b + (z900 + 3)) ≠ jBR := Ne.symm ne_BR_mtold
  have ne_L_mtold : jL ≠ (b + (z900 + 3)) := xa_ne f_L fr_mtold
  have ne_mtold_L : (b + (z900 + 3)) ≠ jL := Ne.symm ne_L_mtold
  have ne_PP_mtold : jPP ≠ (b + (z900 + 3)) := xa_ne f_PP fr_mtold
  have ne_mtold_PP : (b + (z900 + 3)) ≠ jPP := Ne.symm ne_PP_mtold
  have ne_R_mtold : jR ≠ (b + (z900 + 3)) := xa_ne f_R fr_mtold
  have ne_mtold_R : (b + (z900 + 3)) ≠ jR := Ne.symm ne_R_mtold
  have ne_MM_mtold : jMM ≠ (b + (z900 + 3)) := xa_ne f_MM fr_mtold
  have ne_mtold_MM : (b + (z900 + 3)) ≠ jMM := Ne.symm ne_MM_mtold
  have ne_V_mtold : jV ≠ (b + (z900 + 3)) := xa_ne f_V fr_mtold
  have ne_mtold_V : (b + (z900 + 3)) ≠ jV := Ne.symm ne_V_mtold
  have ne_UU_mtold : jUU ≠ (b + (z900 + 3)) := xa_ne f_UU fr_mtold
  have ne_mtold_UU : (b + (z900 + 3)) ≠ jUU := Ne.symm ne_UU_mtold
  have ne_A_mtold : jA ≠ (b + (z900 + 3)) := xa_ne f_A fr_mtold
  have ne_mtold_A : (b + (z900 + 3)) ≠ jA := Ne.symm ne_A_mtold
  have ne_B_mtold : jB ≠ (b + (z900 + 3)) := xa_ne f_B fr_mtold
  have ne_mtold_B : (b + (z900 + 3)) ≠ jB := Ne.symm ne_B_mtold
  have ne_C_mtold : jC ≠ (b + (z900 + 3)) := xa_ne f_C fr_mtold
  have ne_mtold_C : (b + (z900 + 3)) ≠ jC := Ne.symm ne_C_mtold
  have ne_PT_mtold : jPT ≠ (b + (z900 + 3)) := xa_ne f_PT fr_mtold
  have ne_mtold_PT : (b + (z900 + 3)) ≠ jPT := Ne.symm ne_PT_mtold
  have ne_Z_mtold : (b + z900) ≠ (b + (z900 + 3)) := xa_ne f_Z fr_mtold
  have ne_mtold_Z : (b + (z900 + 3)) ≠ (b + z900) := Ne.symm ne_Z_mtold
  have fr_mmodel : ce903 (b + (z900 + 4)) = none := xa_free hw hba (by rw [hz]; omega)
  have ne_Q_mmodel : (b + s.heap.size) ≠ (b + (z900 + 4)) := xa_ne f_Q fr_mmodel
  have ne_mmodel_Q : (b + (z900 + 4)) ≠ (b + s.heap.size) := Ne.symm ne_Q_mmodel
  have ne_PL_mmodel : jPL ≠ (b + (z900 + 4)) := xa_ne f_PL fr_mmodel
  have ne_mmodel_PL : (b + (z900 + 4)) ≠ jPL := Ne.symm ne_PL_mmodel
  have ne_BR_mmodel : jBR ≠ (b + (z900 + 4)) := xa_ne f_BR fr_mmodel
  have ne_mmodel_BR : (b + (z900 + 4)) ≠ jBR := Ne.symm ne_BR_mmodel
  have ne_L_mmodel : jL ≠ (b + (z900 + 4)) := xa_ne f_L fr_mmodel
  have ne_mmodel_L : (b + (z900 + 4)) ≠ jL := Ne.symm ne_L_mmodel
  have ne_PP_mmodel : jPP ≠ (b + (z900 + 4)) := xa_ne f_PP fr_mmodel
  have ne_mmodel_PP : (b + (z900 + 4)) ≠ jPP := Ne.symm ne_PP_mmodel
  have ne_R_mmodel : jR ≠ (b + (z900 + 4)) := xa_ne f_R fr_mmodel
  have ne_mmodel_R : (b + (z900 + 4)) ≠ jR := Ne.symm ne_R_mmodel
  have ne_MM_mmodel : jMM ≠ (b + (z900 + 4)) := xa_ne f_MM fr_mmodel
  have ne_mmodel_MM : (b + (z900 + 4)) ≠ jMM := Ne.symm ne_MM_mmodel
  have ne_V_mmodel : jV ≠ (b + (z900 + 4)) := xa_ne f_V fr_mmodel
  have ne_mmodel_V : (b + (z900 + 4)) ≠ jV := Ne.symm ne_V_mmodel
  have ne_UU_mmodel : jUU ≠ (b + (z900 + 4)) := xa_ne f_UU fr_mmodel
  have ne_mmodel_UU : (b + (z900 + 4)) ≠ jUU := Ne.symm ne_UU_mmodel
  have ne_A_mmodel : jA ≠ (b + (z900 + 4)) := xa_ne f_A fr_mmodel
  have ne_mmodel_A : (b + (z900 + 4)) ≠ jA := Ne.symm ne_A_mmodel
  have ne_B_mmodel : jB ≠ (b + (z900 + 4)) := xa_ne f_B fr_mmodel
  have ne_mmodel_B : (b + (z900 + 4)) ≠ jB := Ne.symm ne_B_mmodel
  have ne_C_mmodel : jC ≠ (b + (z900 + 4)) := xa_ne f_C fr_mmodel
  have ne_mmodel_C : (b + (z900 + 4)) ≠ jC := Ne.symm ne_C_mmodel
  have ne_PT_mmodel : jPT ≠ (b + (z900 + 4)) := xa_ne f_PT fr_mmodel
  have ne_mmodel_PT : (b + (z900 + 4)) ≠ jPT := Ne.symm ne_PT_mmodel
  have ne_Z_mmodel : (b + z900) ≠ (b + (z900 + 4)) := xa_ne f_Z fr_mmodel
  have ne_mmodel_Z : (b + (z900 + 4)) ≠ (b + z900) := Ne.symm ne_Z_mmodel
  have fr_mofAtom : ce903 (b + (z900 + 5)) = none := xa_free hw hba (by rw [hz]; omega)
  have ne_Q_mofAtom : (b + s.heap.size) ≠ (b + (z900 + 5)) := xa_ne f_Q fr_mofAtom
  have ne_mofAtom_Q : (b + (z900 + 5)) ≠ (b + s.heap.size) := Ne.symm ne_Q_mofAtom
  have ne_PL_mofAtom : jPL ≠ (b + (z900 + 5)) := xa_ne f_PL fr_mofAtom
  have ne_mofAtom_PL : (b + (z900 + 5)) ≠ jPL := Ne.symm ne_PL_mofAtom
  have ne_BR_mofAtom : jBR ≠ (b + (z900 + 5)) := xa_ne f_BR fr_mofAtom
  have ne_mofAtom_BR : (b + (z900 + 5)) ≠ jBR := Ne.symm ne_BR_mofAtom
  have ne_L_mofAtom : jL ≠ (b + (z900 + 5)) := xa_ne f_L fr_mofAtom
  have ne_mofAtom_L : (b + (z900 + 5)) ≠ jL := Ne.symm ne_L_mofAtom
  have ne_PP_mofAtom : jPP ≠ (b + (z900 + 5)) := xa_ne f_PP fr_mofAtom
  have ne_mofAtom_PP : (b + (z900 + 5)) ≠ jPP := Ne.symm ne_PP_mofAtom
  have ne_R_mofAtom : jR ≠ (b + (z900 + 5)) := xa_ne f_R fr_mofAtom
  have ne_mofAtom_R : (b + (z900 + 5)) ≠ jR := Ne.symm ne_R_mofAtom
  have ne_MM_mofAtom : jMM ≠ (b + (z900 + 5)) := xa_ne f_MM fr_mofAtom
  have ne_mofAtom_MM : (b + (z900 + 5)) ≠ jMM := Ne.symm ne_MM_mofAtom
  have ne_V_mofAtom : jV ≠ (b + (z900 + 5)) := xa_ne f_V fr_mofAtom
  have ne_mofAtom_V : (b + (z900 + 5)) ≠ jV := Ne.symm ne_V_mofAtom
  have ne_UU_mofAtom : jUU ≠ (b + (z900 + 5)) := xa_ne f_UU fr_mofAtom
  have ne_mofAtom_UU : (b + (z900 + 5)) ≠ jUU := Ne.symm ne_UU_mofAtom
  have ne_A_mofAtom : jA ≠ (b + (z900 + 5)) := xa_ne f_A fr_mofAtom
  have ne_mofAtom_A : (b + (z900 + 5)) ≠ jA := Ne.symm ne_A_mofAtom
  have ne_B_mofAtom : jB ≠ (b + (z900 + 5)) := xa_ne f_B fr_mofAtom
  have ne_mofAtom_B : (b + (z900 + 5)) ≠ jB := Ne.symm ne_B_mofAtom
  have ne_C_mofAtom : jC ≠ (b + (z900 + 5)) := xa_ne f_C fr_mofAtom
  have ne_mofAtom_C : (b + (z900 + 5)) ≠ jC := Ne.symm ne_C_mofAtom
  have ne_PT_mofAtom : jPT ≠ (b + (z900 + 5)) := xa_ne f_PT fr_mofAtom
  have ne_mofAtom_PT : (b + (z900 + 5)) ≠ jPT := Ne.symm ne_PT_mofAtom
  have ne_Z_mofAtom : (b + z900) ≠ (b + (z900 + 5)) := xa_ne f_Z fr_mofAtom
  have ne_mofAtom_Z : (b + (z900 + 5)) ≠ (b + z900) := Ne.symm ne_Z_mofAtom
  have fr_mleft : ce903 (b + (z900 + 6)) = none := xa_free hw hba (by rw [hz]; omega)
  have ne_Q_mleft : (b + s.heap.size) ≠ (b + (z900 + 6)) := xa_ne f_Q fr_mleft
  have ne_mleft_Q : (b + (z900 + 6)) ≠ (b + s.heap.size) := Ne.symm ne_Q_mleft
  have ne_PL_mleft : jPL ≠ (b + (z900 + 6)) := xa_ne f_PL fr_mleft
  have ne_mleft_PL : (b + (z900 + 6)) ≠ jPL := Ne.symm ne_PL_mleft
  have ne_BR_mleft : jBR ≠ (b + (z900 + 6)) := xa_ne f_BR fr_mleft
  have ne_mleft_BR : (b + (z900 + 6)) ≠ jBR := Ne.symm ne_BR_mleft
  have ne_L_mleft : jL ≠ (b + (z900 + 6)) := xa_ne f_L fr_mleft
  have ne_mleft_L : (b + (z900 + 6)) ≠ jL := Ne.symm ne_L_mleft
  have ne_PP_mleft : jPP ≠ (b + (z900 + 6)) := xa_ne f_PP fr_mleft
  have ne_mleft_PP : (b + (z900 + 6)) ≠ jPP := Ne.symm ne_PP_mleft
  have ne_R_mleft : jR ≠ (b + (z900 + 6)) := xa_ne f_R fr_mleft
  have ne_mleft_R : (b + (z900 + 6)) ≠ jR := Ne.symm ne_R_mleft
  have ne_MM_mleft : jMM ≠ (b + (z900 + 6)) := xa_ne f_MM fr_mleft
  have ne_mleft_MM : (b + (z900 + 6)) ≠ jMM := Ne.symm ne_MM_mleft
  have ne_V_mleft : jV ≠ (b + (z900 + 6)) := xa_ne f_V fr_mleft
  have ne_mleft_V : (b + (z900 + 6)) ≠ jV := Ne.symm ne_V_mleft
  have ne_UU_mleft : jUU ≠ (b + (z900 + 6)) := xa_ne f_UU fr_mleft
  have ne_mleft_UU : (b + (z900 + 6)) ≠ jUU := Ne.symm ne_UU_mleft
  have ne_A_mleft : jA ≠ (b + (z900 + 6)) := xa_ne f_A fr_mleft
  have ne_mleft_A : (b + (z900 + 6)) ≠ jA := Ne.symm ne_A_mleft
  have ne_B_mleft : jB ≠ (b + (z900 + 6)) := xa_ne f_B fr_mleft
  have ne_mleft_B : (b + (z900 + 6)) ≠ jB := Ne.symm ne_B_mleft
  have ne_C_mleft : jC ≠ (b + (z900 + 6)) := xa_ne f_C fr_mleft
  have ne_mleft_C : (b + (z900 + 6)) ≠ jC := Ne.symm ne_C_mleft
  have ne_PT_mleft : jPT ≠ (b + (z900 + 6)) := xa_ne f_PT fr_mleft
  have ne_mleft_PT : (b + (z900 + 6)) ≠ jPT := Ne.symm ne_PT_mleft
  have ne_Z_mleft : (b + z900) ≠ (b + (z900 + 6)) := xa_ne f_Z fr_mleft
  have ne_mleft_Z : (b + (z900 + 6)) ≠ (b + z900) := Ne.symm ne_Z_mleft
  have fr_mright : ce903 (b + (z900 + 7)) = none := xa_free hw hba (by rw [hz]; omega)
  have ne_Q_mright : (b + s.heap.size) ≠ (b + (z900 + 7)) := xa_ne f_Q fr_mright
  have ne_mright_Q : (b + (z900 + 7)) ≠ (b + s.heap.size) := Ne.symm ne_Q_mright
  have ne_PL_mright : jPL ≠ (b + (z900 + 7)) := xa_ne f_PL fr_mright
  have ne_mright_PL : (b + (z900 + 7)) ≠ jPL := Ne.symm ne_PL_mright
  have ne_BR_mright : jBR ≠ (b + (z900 + 7)) := xa_ne f_BR fr_mright
  have ne_mright_BR : (b + (z900 + 7)) ≠ jBR := Ne.symm ne_BR_mright
  have ne_L_mright : jL ≠ (b + (z900 + 7)) := xa_ne f_L fr_mright
  have ne_mright_L : (b + (z900 + 7)) ≠ jL := Ne.symm ne_L_mright
  have ne_PP_mright : jPP ≠ (b + (z900 + 7)) := xa_ne f_PP fr_mright
  have ne_mright_PP : (b + (z900 + 7)) ≠ jPP := Ne.symm ne_PP_mright
  have ne_R_mright : jR ≠ (b + (z900 + 7)) := xa_ne f_R fr_mright
  have ne_mright_R : (b + (z900 + 7)) ≠ jR := Ne.symm ne_R_mright
  have ne_MM_mright : jMM ≠ (b + (z900 + 7)) := xa_ne f_MM fr_mright
  have ne_mright_MM : (b + (z900 + 7)) ≠ jMM := Ne.symm ne_MM_mright
  have ne_V_mright : jV ≠ (b + (z900 + 7)) := xa_ne f_V fr_mright
  have ne_mright_V : (b + (z900 + 7)) ≠ jV := Ne.symm ne_V_mright
  have ne_UU_mright : jUU ≠ (b + (z900 + 7)) := xa_ne f_UU fr_mright
  have ne_mright_UU : (b + (z900 + 7)) ≠ jUU := Ne.symm ne_UU_mright
  have ne_A_mright : jA ≠ (b + (z900 + 7)) := xa_ne f_A fr_mright
  have ne_mright_A : (b + (z900 + 7)) ≠ jA := Ne.symm ne_A_mright
  have ne_B_mright : jB ≠ (b + (z900 + 7)) := xa_ne f_B fr_mright
  have ne_mright_B : (b + (z900 + 7)) ≠ jB := Ne.symm ne_B_mright
  have ne_C_mright : jC ≠ (b + (z900 + 7)) := xa_ne f_C fr_mright
  have ne_mright_C : (b + (z900 + 7)) ≠ jC := Ne.symm ne_C_mright
  have ne_PT_mright : jPT ≠ (b + (z900 + 7)) := xa_ne f_PT fr_mright
  have ne_mright_PT : (b + (z900 + 7)) ≠ jPT := Ne.symm ne_PT_mright
  have ne_Z_mright : (b + z900) ≠ (b + (z900 + 7)) := xa_ne f_Z fr_mright
  have ne_mright_Z : (b + (z900 + 7)) ≠ (b + z900) := Ne.symm ne_Z_mright
  have fr_msize : ce903 (b + (z900 + 8)) = none := xa_free hw hba (by rw [hz]; omega)
  have ne_Q_msize : (b + s.heap.size) ≠ (b + (z900 + 8)) := xa_ne f_Q fr_msize
  have ne_msize_Q : (b + (z900 + 8)) ≠ (b + s.heap.size) := Ne.symm ne_Q_msize
  have ne_PL_msize : jPL ≠ (b + (z900 + 8)) := xa_ne f_PL fr_msize
  have ne_msize_PL : (b + (z900 + 8)) ≠ jPL := Ne.symm ne_PL_msize
  have ne_BR_msize : jBR ≠ (b + (z900 + 8)) := xa_ne f_BR fr_msize
  have ne_msize_BR : (b + (z900 + 8)) ≠ jBR := Ne.symm ne_BR_msize
  have ne_L_msize : jL ≠ (b + (z900 + 8)) := xa_ne f_L fr_msize
  have ne_msize_L : (b + (z900 + 8)) ≠ jL := Ne.symm ne_L_msize
  have ne_PP_msize : jPP ≠ (b + (z900 + 8)) := xa_ne f_PP fr_msize
  have ne_msize_PP : (b + (z900 + 8)) ≠ jPP := Ne.symm ne_PP_msize
  have ne_R_msize : jR ≠ (b + (z900 + 8)) := xa_ne f_R fr_msize
  have ne_msize_R : (b + (z900 + 8)) ≠ jR := Ne.symm ne_R_msize
  have ne_MM_msize : jMM ≠ (b + (z900 + 8)) := xa_ne f_MM fr_msize
  have ne_msize_MM : (b + (z900 + 8)) ≠ jMM := Ne.symm ne_MM_msize
  have ne_V_msize : jV ≠ (b + (z900 + 8)) := xa_ne f_V fr_msize
  have ne_msize_V : (b + (z900 + 8)) ≠ jV := Ne.symm ne_V_msize
  have ne_UU_msize : jUU ≠ (b + (z900 + 8)) := xa_ne f_UU fr_msize
  have ne_msize_UU : (b + (z900 + 8)) ≠ jUU := Ne.symm ne_UU_msize
  have ne_A_msize : jA ≠ (b + (z900 + 8)) := xa_ne f_A fr_msize
  have ne_msize_A : (b + (z900 + 8)) ≠ jA := Ne.symm ne_A_msize
  have ne_B_msize : jB ≠ (b + (z900 + 8)) := xa_ne f_B fr_msize
  have ne_msize_B : (b + (z900 + 8)) ≠ jB := Ne.symm ne_B_msize
  have ne_C_msize : jC ≠ (b + (z900 + 8)) := xa_ne f_C fr_msize
  have ne_msize_C : (b + (z900 + 8)) ≠ jC := Ne.symm ne_C_msize
  have ne_PT_msize : jPT ≠ (b + (z900 + 8)) := xa_ne f_PT fr_msize
  have ne_msize_PT : (b + (z900 + 8)) ≠ jPT := Ne.symm ne_PT_msize
  have ne_Z_msize : (b + z900) ≠ (b + (z900 + 8)) := xa_ne f_Z fr_msize
  have ne_msize_Z : (b + (z900 + 8)) ≠ (b + z900) := Ne.symm ne_Z_msize
  have fr_mcalls : ce903 (b + (z900 + 9)) = none := xa_free hw hba (by rw [hz]; omega)
  have ne_Q_mcalls : (b + s.heap.size) ≠ (b + (z900 + 9)) := xa_ne f_Q fr_mcalls
  have ne_mcalls_Q : (b + (z900 + 9)) ≠ (b + s.heap.size) := Ne.symm ne_Q_mcalls
  have ne_PL_mcalls : jPL ≠ (b + (z900 + 9)) := xa_ne f_PL fr_mcalls
  have ne_mcalls_PL : (b + (z900 + 9)) ≠ jPL := Ne.symm ne_PL_mcalls
  have ne_BR_mcalls : jBR ≠ (b + (z900 + 9)) := xa_ne f_BR fr_mcalls
  have ne_mcalls_BR : (b + (z900 + 9)) ≠ jBR := Ne.symm ne_BR_mcalls
  have ne_L_mcalls : jL ≠ (b + (z900 + 9)) := xa_ne f_L fr_mcalls
  have ne_mcalls_L : (b + (z900 + 9)) ≠ jL := Ne.symm ne_L_mcalls
  have ne_PP_mcalls : jPP ≠ (b + (z900 + 9)) := xa_ne f_PP fr_mcalls
  have ne_mcalls_PP : (b + (z900 + 9)) ≠ jPP := Ne.symm ne_PP_mcalls
  have ne_R_mcalls : jR ≠ (b + (z900 + 9)) := xa_ne f_R fr_mcalls
  have ne_mcalls_R : (b + (z900 + 9)) ≠ jR := Ne.symm ne_R_mcalls
  have ne_MM_mcalls : jMM ≠ (b + (z900 + 9)) := xa_ne f_MM fr_mcalls
  have ne_mcalls_MM : (b + (z900 + 9)) ≠ jMM := Ne.symm ne_MM_mcalls
  have ne_V_mcalls : jV ≠ (b + (z900 + 9)) := xa_ne f_V fr_mcalls
  have ne_mcalls_V : (b + (z900 + 9)) ≠ jV := Ne.symm ne_V_mcalls
  have ne_UU_mcalls : jUU ≠ (b + (z900 + 9)) := xa_ne f_UU fr_mcalls
  have ne_mcalls_UU : (b + (z900 + 9)) ≠ jUU := Ne.symm ne_UU_mcalls
  have ne_A_mcalls : jA ≠ (b + (z900 + 9)) := xa_ne f_A fr_mcalls
  have ne_mcalls_A : (b + (z900 + 9)) ≠ jA := Ne.symm ne_A_mcalls
  have ne_B_mcalls : jB ≠ (b + (z900 + 9)) := xa_ne f_B fr_mcalls
  have ne_mcalls_B : (b + (z900 + 9)) ≠ jB := Ne.symm ne_B_mcalls
  have ne_C_mcalls : jC ≠ (b + (z900 + 9)) := xa_ne f_C fr_mcalls
  have ne_mcalls_C : (b + (z900 + 9)) ≠ jC := Ne.symm ne_C_mcalls
  have ne_PT_mcalls : jPT ≠ (b + (z900 + 9)) := xa_ne f_PT fr_mcalls
  have ne_mcalls_PT : (b + (z900 + 9)) ≠ jPT := Ne.symm ne_PT_mcalls
  have ne_Z_mcalls : (b + z900) ≠ (b + (z900 + 9)) := xa_ne f_Z fr_mcalls
  have ne_mcalls_Z : (b + (z900 + 9)) ≠ (b + z900) := Ne.symm ne_Z_mcalls
  have fr_mrow : ce903 (b + (z900 + 10)) = none := xa_free hw hba (by rw [hz]; omega)
  have ne_Q_mrow : (b + s.heap.size) ≠ (b + (z900 + 10)) := xa_ne f_Q fr_mrow
  have ne_mrow_Q : (b + (z900 + 10)) ≠ (b + s.heap.size) := Ne.symm ne_Q_mrow
  have ne_PL_mrow : jPL ≠ (b + (z900 + 10)) := xa_ne f_PL fr_mrow
  have ne_mrow_PL : (b + (z900 + 10)) ≠ jPL := Ne.symm ne_PL_mrow
  have ne_BR_mrow : jBR ≠ (b + (z900 + 10)) := xa_ne f_BR fr_mrow
  have ne_mrow_BR : (b + (z900 + 10)) ≠ jBR := Ne.symm ne_BR_mrow
  have ne_L_mrow : jL ≠ (b + (z900 + 10)) := xa_ne f_L fr_mrow
  have ne_mrow_L : (b + (z900 + 10)) ≠ jL := Ne.symm ne_L_mrow
  have ne_PP_mrow : jPP ≠ (b + (z900 + 10)) := xa_ne f_PP fr_mrow
  have ne_mrow_PP : (b + (z900 + 10)) ≠ jPP := Ne.symm ne_PP_mrow
  have ne_R_mrow : jR ≠ (b + (z900 + 10)) := xa_ne f_R fr_mrow
  have ne_mrow_R : (b + (z900 + 10)) ≠ jR := Ne.symm ne_R_mrow
  have ne_MM_mrow : jMM ≠ (b + (z900 + 10)) := xa_ne f_MM fr_mrow
  have ne_mrow_MM : (b + (z900 + 10)) ≠ jMM := Ne.symm ne_MM_mrow
  have ne_V_mrow : jV ≠ (b + (z900 + 10)) := xa_ne f_V fr_mrow
  have ne_mrow_V : (b + (z900 + 10)) ≠ jV := Ne.symm ne_V_mrow
  have ne_UU_mrow : jUU ≠ (b + (z900 + 10)) := xa_ne f_UU fr_mrow
  have ne_mrow_UU : (b + (z900 + 10)) ≠ jUU := Ne.symm ne_UU_mrow
  have ne_A_mrow : jA ≠ (b + (z900 + 10)) := xa_ne f_A fr_mrow
  have ne_mrow_A : (b + (z900 + 10)) ≠ jA := Ne.symm ne_A_mrow
  have ne_B_mrow : jB ≠ (b + (z900 + 10)) := xa_ne f_B fr_mrow
  have ne_mrow_B : (b + (z900 + 10)) ≠ jB := Ne.symm ne_B_mrow
  have ne_C_mrow : jC ≠ (b + (z900 + 10)) := xa_ne f_C fr_mrow
  have ne_mrow_C : (b + (z900 + 10)) ≠ jC := Ne.symm ne_C_mrow
  have ne_PT_mrow : jPT ≠ (b + (z900 + 10)) := xa_ne f_PT fr_mrow
  have ne_mrow_PT : (b + (z900 + 10)) ≠ jPT := Ne.symm ne_PT_mrow
  have ne_Z_mrow : (b + z900) ≠ (b + (z900 + 10)) := xa_ne f_Z fr_mrow
  have ne_mrow_Z : (b + (z900 + 10)) ≠ (b + z900) := Ne.symm ne_Z_mrow
  have fr_mpatterns : ce903 (b + (z900 + 11)) = none := xa_free hw hba (by rw [hz]; omega)
  have ne_Q_mpatterns : (b + s.heap.size) ≠ (b + (z900 + 11)) := xa_ne f_Q fr_mpatterns
  have ne_mpatterns_Q : (b + (z900 + 11)) ≠ (b + s.heap.size) := Ne.symm ne_Q_mpatterns
  have ne_PL_mpatterns : jPL ≠ (b + (z900 + 11)) := xa_ne f_PL fr_mpatterns
  have ne_mpatterns_PL : (b + (z900 + 11)) ≠ jPL := Ne.symm ne_PL_mpatterns
  have ne_BR_mpatterns : jBR ≠ (b + (z900 + 11)) := xa_ne f_BR fr_mpatterns
  have ne_mpatterns_BR : (b + (z900 + 11)) ≠ jBR := Ne.symm ne_BR_mpatterns
  have ne_L_mpatterns : jL ≠ (b + (z900 + 11)) := xa_ne f_L fr_mpatterns
  have ne_mpatterns_L : (b + (z900 + 11)) ≠ jL := Ne.symm ne_L_mpatterns
  have ne_PP_mpatterns : jPP ≠ (b + (z900 + 11)) := xa_ne f_PP fr_mpatterns
  have ne_mpatterns_PP : (b + (z900 + 11)) ≠ jPP := Ne.symm ne_PP_mpatterns
  have ne_R_mpatterns : jR ≠ (b + (z900 + 11)) := xa_ne f_R fr_mpatterns
  have ne_mpatterns_R : (b + (z900 + 11)) ≠ jR := Ne.symm ne_R_mpatterns
  have ne_MM_mpatterns : jMM ≠ (b + (z900 + 11)) := xa_ne f_MM fr_mpatterns
  have ne_mpatterns_MM : (b + (z900 + 11)) ≠ jMM := Ne.symm ne_MM_mpatterns
  have ne_V_mpatterns : jV ≠ (b + (z900 + 11)) := xa_ne f_V fr_mpatterns
  have ne_mpatterns_V : (b + (z900 + 11)) ≠ jV := Ne.symm ne_V_mpatterns
  have ne_UU_mpatterns : jUU ≠ (b + (z900 + 11)) := xa_ne f_UU fr_mpatterns
  have ne_mpatterns_UU : (b + (z900 + 11)) ≠ jUU := Ne.symm ne_UU_mpatterns
  have ne_A_mpatterns : jA ≠ (b + (z900 + 11)) := xa_ne f_A fr_mpatterns
  have ne_mpatterns_A : (b + (z900 + 11)) ≠ jA := Ne.symm ne_A_mpatterns
  have ne_B_mpatterns : jB ≠ (b + (z900 + 11)) := xa_ne f_B fr_mpatterns
  have ne_mpatterns_B : (b + (z900 + 11)) ≠ jB := Ne.symm ne_B_mpatterns
  have ne_C_mpatterns : jC ≠ (b + (z900 + 11)) := xa_ne f_C fr_mpatterns
  have ne_mpatterns_C : (b + (z900 + 11)) ≠ jC := Ne.symm ne_C_mpatterns
  have ne_PT_mpatterns : jPT ≠ (b + (z900 + 11)) := xa_ne f_PT fr_mpatterns
  have ne_mpatterns_PT : (b + (z900 + 11)) ≠ jPT := Ne.symm ne_PT_mpatterns
  have ne_Z_mpatterns : (b + z900) ≠ (b + (z900 + 11)) := xa_ne f_Z fr_mpatterns
  have ne_mpatterns_Z : (b + (z900 + 11)) ≠ (b + z900) := Ne.symm ne_Z_mpatterns
  have fr_mvalues : ce903 (b + (z900 + 12)) = none := xa_free hw hba (by rw [hz]; omega)
  have ne_Q_mvalues : (b + s.heap.size) ≠ (b + (z900 + 12)) := xa_ne f_Q fr_mvalues
  have ne_mvalues_Q : (b + (z900 + 12)) ≠ (b + s.heap.size) := Ne.symm ne_Q_mvalues
  have ne_PL_mvalues : jPL ≠ (b + (z900 + 12)) := xa_ne f_PL fr_mvalues
  have ne_mvalues_PL : (b + (z900 + 12)) ≠ jPL := Ne.symm ne_PL_mvalues
  have ne_BR_mvalues : jBR ≠ (b + (z900 + 12)) := xa_ne f_BR fr_mvalues
  have ne_mvalues_BR : (b + (z900 + 12)) ≠ jBR := Ne.symm ne_BR_mvalues
  have ne_L_mvalues : jL ≠ (b + (z900 + 12)) := xa_ne f_L fr_mvalues
  have ne_mvalues_L : (b + (z900 + 12)) ≠ jL := Ne.symm ne_L_mvalues
  have ne_PP_mvalues : jPP ≠ (b + (z900 + 12)) := xa_ne f_PP fr_mvalues
  have ne_mvalues_PP : (b + (z900 + 12)) ≠ jPP := Ne.symm ne_PP_mvalues
  have ne_R_mvalues : jR ≠ (b + (z900 + 12)) := xa_ne f_R fr_mvalues
  have ne_mvalues_R : (b + (z900 + 12)) ≠ jR := Ne.symm ne_R_mvalues
  have ne_MM_mvalues : jMM ≠ (b + (z900 + 12)) := xa_ne f_MM fr_mvalues
  have ne_mvalues_MM : (b + (z900 + 12)) ≠ jMM := Ne.symm ne_MM_mvalues
  have ne_V_mvalues : jV ≠ (b + (z900 + 12)) := xa_ne f_V fr_mvalues
  have ne_mvalues_V : (b + (z900 + 12)) ≠ jV := Ne.symm ne_V_mvalues
  have ne_UU_mvalues : jUU ≠ (b + (z900 + 12)) := xa_ne f_UU fr_mvalues
  have ne_mvalues_UU : (b + (z900 + 12)) ≠ jUU := Ne.symm ne_UU_mvalues
  have ne_A_mvalues : jA ≠ (b + (z900 + 12)) := xa_ne f_A fr_mvalues
  have ne_mvalues_A : (b + (z900 + 12)) ≠ jA := Ne.symm ne_A_mvalues
  have ne_B_mvalues : jB ≠ (b + (z900 + 12)) := xa_ne f_B fr_mvalues
  have ne_mvalues_B : (b + (z900 + 12)) ≠ jB := Ne.symm ne_B_mvalues
  have ne_C_mvalues : jC ≠ (b + (z900 + 12)) := xa_ne f_C fr_mvalues
  have ne_mvalues_C : (b + (z900 + 12)) ≠ jC := Ne.symm ne_C_mvalues
  have ne_PT_mvalues : jPT ≠ (b + (z900 + 12)) := xa_ne f_PT fr_mvalues
  have ne_mvalues_PT : (b + (z900 + 12)) ≠ jPT := Ne.symm ne_PT_mvalues
  have ne_Z_mvalues : (b + z900) ≠ (b + (z900 + 12)) := xa_ne f_Z fr_mvalues
  have ne_mvalues_Z : (b + (z900 + 12)) ≠ (b + z900) := Ne.symm ne_Z_mvalues
  have fr_mby : ce903 (b + (z900 + 13)) = none := xa_free hw hba (by rw [hz]; omega)
  have ne_Q_mby : (b + s.heap.size) ≠ (b + (z900 + 13)) := xa_ne f_Q fr_mby
  have ne_mby_Q : (b + (z900 + 13)) ≠ (b + s.heap.size) := Ne.symm ne_Q_mby
  have ne_PL_mby : jPL ≠ (b + (z900 + 13)) := xa_ne f_PL fr_mby
  have ne_mby_PL : (b + (z900 + 13)) ≠ jPL := Ne.symm ne_PL_mby
  have ne_BR_mby : jBR ≠ (b + (z900 + 13)) := xa_ne f_BR fr_mby
  have ne_mby_BR : (b + (z900 + 13)) ≠ jBR := Ne.symm ne_BR_mby
  have ne_L_mby : jL ≠ (b + (z900 + 13)) := xa_ne f_L fr_mby
  have ne_mby_L : (b + (z900 + 13)) ≠ jL := Ne.symm ne_L_mby
  have ne_PP_mby : jPP ≠ (b + (z900 + 13)) := xa_ne f_PP fr_mby
  have ne_mby_PP : (b + (z900 + 13)) ≠ jPP := Ne.symm ne_PP_mby
  have ne_R_mby : jR ≠ (b + (z900 + 13)) := xa_ne f_R fr_mby
  have ne_mby_R : (b + (z900 + 13)) ≠ jR := Ne.symm ne_R_mby
  have ne_MM_mby : jMM ≠ (b + (z900 + 13)) := xa_ne f_MM fr_mby
  have ne_mby_MM : (b + (z900 + 13)) ≠ jMM := Ne.symm ne_MM_mby
  have ne_V_mby : jV ≠ (b + (z900 + 13)) := xa_ne f_V fr_mby
  have ne_mby_V : (b + (z900 + 13)) ≠ jV := Ne.symm ne_V_mby
  have ne_UU_mby : jUU ≠ (b + (z900 + 13)) := xa_ne f_UU fr_mby
  have ne_mby_UU : (b + (z900 + 13)) ≠ jUU := Ne.symm ne_UU_mby
  have ne_A_mby : jA ≠ (b + (z900 + 13)) := xa_ne f_A fr_mby
  have ne_mby_A : (b + (z900 + 13)) ≠ jA := Ne.symm ne_A_mby
  have ne_B_mby : jB ≠ (b + (z900 + 13)) := xa_ne f_B fr_mby
  have ne_mby_B : (b + (z900 + 13)) ≠ jB := Ne.symm ne_B_mby
  have ne_C_mby : jC ≠ (b + (z900 + 13)) := xa_ne f_C fr_mby
  have ne_mby_C : (b + (z900 + 13)) ≠ jC := Ne.symm ne_C_mby
  have ne_PT_mby : jPT ≠ (b + (z900 + 13)) := xa_ne f_PT fr_mby
  have ne_mby_PT : (b + (z900 + 13)) ≠ jPT := Ne.symm ne_PT_mby
  have ne_Z_mby : (b + z900) ≠ (b + (z900 + 13)) := xa_ne f_Z fr_mby
  have ne_mby_Z : (b + (z900 + 13)) ≠ (b + z900) := Ne.symm ne_Z_mby
  have fr_mchoice : ce903 (b + (z900 + 14)) = none := xa_free hw hba (by rw [hz]; omega)
  have ne_Q_mchoice : (b + s.heap.size) ≠ (b + (z900 + 14)) := xa_ne f_Q fr_mchoice
  have ne_mchoice_Q : (b + (z900 + 14)) ≠ (b + s.heap.size) := Ne.symm ne_Q_mchoice
  have ne_PL_mchoice : jPL ≠ (b + (z900 + 14)) := xa_ne f_PL fr_mchoice
  have ne_mchoice_PL : (b + (z900 + 14)) ≠ jPL := Ne.symm ne_PL_mchoice
  have ne_BR_mchoice : jBR ≠ (b + (z900 + 14)) := xa_ne f_BR fr_mchoice
  have ne_mchoice_BR : (b + (z900 + 14)) ≠ jBR := Ne.symm ne_BR_mchoice
  have ne_L_mchoice : jL ≠ (b + (z900 + 14)) := xa_ne f_L fr_mchoice
  have ne_mchoice_L : (b + (z900 + 14)) ≠ jL := Ne.symm ne_L_mchoice
  have ne_PP_mchoice : jPP ≠ (b + (z900 + 14)) := xa_ne f_PP fr_mchoice
  have ne_mchoice_PP : (b + (z900 + 14)) ≠ jPP := Ne.symm ne_PP_mchoice
  have ne_R_mchoice : jR ≠ (b + (z900 + 14)) := xa_ne f_R fr_mchoice
  have ne_mchoice_R : (b + (z900 + 14)) ≠ jR := Ne.symm ne_R_mchoice
  have ne_MM_mchoice : jMM ≠ (b + (z900 + 14)) := xa_ne f_MM fr_mchoice
  have ne_mchoice_MM : (b + (z900 + 14)) ≠ jMM := Ne.symm ne_MM_mchoice
  have ne_V_mchoice : jV ≠ (b + (z900 + 14)) := xa_ne f_V fr_mchoice
  have ne_mchoice_V : (b + (z900 + 14)) ≠ jV := Ne.symm ne_V_mchoice
  have ne_UU_mchoice : jUU ≠ (b + (z900 + 14)) := xa_ne f_UU fr_mchoice
  have ne_mchoice_UU : (b + (z900 + 14)) ≠ jUU := Ne.symm ne_UU_mchoice
  have ne_A_mchoice : jA ≠ (b + (z900 + 14)) := xa_ne f_A fr_mchoice
  have ne_mchoice_A : (b + (z900 + 14)) ≠ jA := Ne.symm ne_A_mchoice
  have ne_B_mchoice : jB ≠ (b + (z900 + 14)) := xa_ne f_B fr_mchoice
  have ne_mchoice_B : (b + (z900 + 14)) ≠ jB := Ne.symm ne_B_mchoice
  have ne_C_mchoice : jC ≠ (b + (z900 + 14)) := xa_ne f_C fr_mchoice
  have ne_mchoice_C : (b + (z900 + 14)) ≠ jC := Ne.symm ne_C_mchoice
  have ne_PT_mchoice : jPT ≠ (b + (z900 + 14)) := xa_ne f_PT fr_mchoice
  have ne_mchoice_PT : (b + (z900 + 14)) ≠ jPT := Ne.symm ne_PT_mchoice
  have ne_Z_mchoice : (b + z900) ≠ (b + (z900 + 14)) := xa_ne f_Z fr_mchoice
  have ne_mchoice_Z : (b + (z900 + 14)) ≠ (b + z900) := Ne.symm ne_Z_mchoice
  have ne_mplaces_mruled : (b + (z900 + 1)) ≠ (b + (z900 + 2)) := by omega
  have ne_mruled_mplaces : (b + (z900 + 2)) ≠ (b + (z900 + 1)) := Ne.symm ne_mplaces_mruled
  have ne_mplaces_mtold : (b + (z900 + 1)) ≠ (b + (z900 + 3)) := by omega
  have ne_mtold_mplaces : (b + (z900 + 3)) ≠ (b + (z900 + 1)) := Ne.symm ne_mplaces_mtold
  have ne_mplaces_mmodel : (b + (z900 + 1)) ≠ (b + (z900 + 4)) := by omega
  have ne_mmodel_mplaces : (b + (z900 + 4)) ≠ (b + (z900 + 1)) := Ne.symm ne_mplaces_mmodel
  have ne_mplaces_mofAtom : (b + (z900 + 1)) ≠ (b + (z900 + 5)) := by omega
  have ne_mofAtom_mplaces : (b + (z900 + 5)) ≠ (b + (z900 + 1)) := Ne.symm ne_mplaces_mofAtom
  have ne_mplaces_mleft : (b + (z900 + 1)) ≠ (b + (z900 + 6)) := by omega
  have ne_mleft_mplaces : (b + (z900 + 6)) ≠ (b + (z900 + 1)) := Ne.symm ne_mplaces_mleft
  have ne_mplaces_mright : (b + (z900 + 1)) ≠ (b + (z900 + 7)) := by omega
  have ne_mright_mplaces : (b + (z900 + 7)) ≠ (b + (z900 + 1)) := Ne.symm ne_mplaces_mright
  have ne_mplaces_msize : (b + (z900 + 1)) ≠ (b + (z900 + 8)) := by omega
  have ne_msize_mplaces : (b + (z900 + 8)) ≠ (b + (z900 + 1)) := Ne.symm ne_mplaces_msize
  have ne_mplaces_mcalls : (b + (z900 + 1)) ≠ (b + (z900 + 9)) := by omega
  have ne_mcalls_mplaces : (b + (z900 + 9)) ≠ (b + (z900 + 1)) := Ne.symm ne_mplaces_mcalls
  have ne_mplaces_mrow : (b + (z900 + 1)) ≠ (b + (z900 + 10)) := by omega
  have ne_mrow_mplaces : (b + (z900 + 10)) ≠ (b + (z900 + 1)) := Ne.symm ne_mplaces_mrow
  have ne_mplaces_mpatterns : (b + (z900 + 1)) ≠ (b + (z900 + 11)) := by omega
  have ne_mpatterns_mplaces : (b + (z900 + 11)) ≠ (b + (z900 + 1)) := Ne.symm ne_mplaces_mpatterns
  have ne_mplaces_mvalues : (b + (z900 + 1)) ≠ (b + (z900 + 12)) := by omega
  have ne_mvalues_mplaces : (b + (z900 + 12)) ≠ (b + (z900 + 1)) := Ne.symm ne_mplaces_mvalues
  have ne_mplaces_mby : (b + (z900 + 1)) ≠ (b + (z900 + 13)) := by omega
  have ne_mby_mplaces : (b + (z900 + 13)) ≠ (b + (z900 + 1)) := Ne.symm ne_mplaces_mby
  have ne_mplaces_mchoice : (b + (z900 + 1)) ≠ (b + (z900 + 14)) := by omega
  have ne_mchoice_mplaces : (b + (z900 + 14)) ≠ (b + (z900 + 1)) := Ne.symm ne_mplaces_mchoice
  have ne_mruled_mtold : (b + (z900 + 2)) ≠ (b + (z900 + 3)) := by omega
  have ne_mtold_mruled : (b + (z900 + 3)) ≠ (b + (z900 + 2)) := Ne.symm ne_mruled_mtold
  have ne_mruled_mmodel : (b + (z900 + 2)) ≠ (b + (z900 + 4)) := by omega
  have ne_mmodel_mruled : (b + (z900 + 4)) ≠ (b + (z900 + 2)) := Ne.symm ne_mruled_mmodel
  have ne_mruled_mofAtom : (b + (z900 + 2)) ≠ (b + (z900 + 5)) := by omega
  have ne_mofAtom_mruled : (b + (z900 + 5)) ≠ (b + (z900 + 2)) := Ne.symm ne_mruled_mofAtom
  have ne_mruled_mleft : (b + (z900 + 2)) ≠ (b + (z900 + 6)) := by omega
  have ne_mleft_mruled : (b + (z900 + 6)) ≠ (b + (z900 + 2)) := Ne.symm ne_mruled_mleft
  have ne_mruled_mright : (b + (z900 + 2)) ≠ (b + (z900 + 7)) := by omega
  have ne_mright_mruled : (b + (z900 + 7)) ≠ (b + (z900 + 2)) := Ne.symm ne_mruled_mright
  have ne_mruled_msize : (b + (z900 + 2)) ≠ (b + (z900 + 8)) := by omega
  have ne_msize_mruled : (b + (z900 + 8)) ≠ (b + (z900 + 2)) := Ne.symm ne_mruled_msize
  have ne_mruled_mcalls : (b + (z900 + 2)) ≠ (b + (z900 + 9)) := by omega
  have ne_mcalls_mruled : (b + (z900 + 9)) ≠ (b + (z900 + 2)) := Ne.symm ne_mruled_mcalls
  have ne_mruled_mrow : (b + (z900 + 2)) ≠ (b + (z900 + 10)) := by omega
  have ne_mrow_mruled : (b + (z900 + 10)) ≠ (b + (z900 + 2)) := Ne.symm ne_mruled_mrow
  have ne_mruled_mpatterns : (b + (z900 + 2)) ≠ (b + (z900 + 11)) := by omega
  have ne_mpatterns_mruled : (b + (z900 + 11)) ≠ (b + (z900 + 2)) := Ne.symm ne_mruled_mpatterns
  have ne_mruled_mvalues : (b + (z900 + 2)) ≠ (b + (z900 + 12)) := by omega
  have ne_mvalues_mruled : (b + (z900 + 12)) ≠ (b + (z900 + 2)) := Ne.symm ne_mruled_mvalues
  have ne_mruled_mby : (b + (z900 + 2)) ≠ (b + (z900 + 13)) := by omega
  have ne_mby_mruled : (b + (z900 + 13)) ≠ (b + (z900 + 2)) := Ne.symm ne_mruled_mby
  have ne_mruled_mchoice : (b + (z900 + 2)) ≠ (b + (z900 + 14)) := by omega
  have ne_mchoice_mruled : (b + (z900 + 14)) ≠ (b + (z900 + 2)) := Ne.symm ne_mruled_mchoice
  have ne_mtold_mmodel : (b + (z900 + 3)) ≠ (b + (z900 + 4)) := by omega
  have ne_mmodel_mtold : (b + (z900 + 4)) ≠ (b + (z900 + 3)) := Ne.symm ne_mtold_mmodel
  have ne_mtold_mofAtom : (b + (z900 + 3)) ≠ (b + (z900 + 5)) := by omega
  have ne_mofAtom_mtold : (b + (z900 + 5)) ≠ (b + (z900 + 3)) := Ne.symm ne_mtold_mofAtom
  have ne_mtold_mleft : (b + (z900 + 3)) ≠ (b + (z900 + 6)) := by omega
  have ne_mleft_mtold : (b + (z900 + 6)) ≠ (b + (z900 + 3)) := Ne.symm ne_mtold_mleft
  have ne_mtold_mright : (b + (z900 + 3)) ≠ (b + (z900 + 7)) := by omega
  have ne_mright_mtold : (b + (z900 + 7)) ≠ (b + (z900 + 3)) := Ne.symm ne_mtold_mright
  have ne_mtold_msize : (b + (z900 + 3)) ≠ (b + (z900 + 8)) := by omega
  have ne_msize_mtold : (b + (z900 + 8)) ≠ (b + (z900 + 3)) := Ne.symm ne_mtold_msize
  have ne_mtold_mcalls : (b + (z900 + 3)) ≠ (b + (z900 + 9)) := by omega
  have ne_mcalls_mtold : (b + (z900 + 9)) ≠ (b + (z900 + 3)) := Ne.symm ne_mtold_mcalls
  have ne_mtold_mrow : (b + (z900 + 3)) ≠ (b + (z900 + 10)) := by omega
  have ne_mrow_mtold : (b + (z900 + 10)) ≠ (b + (z900 + 3)) := Ne.symm ne_mtold_mrow
  have ne_mmodel_mofAtom : (b + (z900 + 4)) ≠ (b + (z900 + 5)) := by omega
  have ne_mofAtom_mmodel : (b + (z900 + 5)) ≠ (b + (z900 + 4)) := Ne.symm ne_mmodel_mofAtom
  have ne_mmodel_mleft : (b + (z900 + 4)) ≠ (b + (z900 + 6)) := by omega
  have ne_mleft_mmodel : (b + (z900 + 6)) ≠ (b + (z900 + 4)) := Ne.symm ne_mmodel_mleft
  have ne_mmodel_mright : (b + (z900 + 4)) ≠ (b + (z900 + 7)) := by omega
  have ne_mright_mmodel : (b + (z900 + 7)) ≠ (b + (z900 + 4)) := Ne.symm ne_mmodel_mright
  have ne_mmodel_msize : (b + (z900 + 4)) ≠ (b + (z900 + 8)) := by omega
  have ne_msize_mmodel : (b + (z900 + 8)) ≠ (b + (z900 + 4)) := Ne.symm ne_mmodel_msize
  have ne_mmodel_mcalls : (b + (z900 + 4)) ≠ (b + (z900 + 9)) := by omega
  have ne_mcalls_mmodel : (b + (z900 + 9)) ≠ (b + (z900 + 4)) := Ne.symm ne_mmodel_mcalls
  have ne_mmodel_mrow : (b + (z900 + 4)) ≠ (b + (z900 + 10)) := by omega
  have ne_mrow_mmodel : (b + (z900 + 10)) ≠ (b + (z900 + 4)) := Ne.symm ne_mmodel_mrow
  have ne_mofAtom_mleft : (b + (z900 + 5)) ≠ (b + (z900 + 6)) := by omega
  have ne_mleft_mofAtom : (b + (z900 + 6)) ≠ (b + (z900 + 5)) := Ne.symm ne_mofAtom_mleft
  have ne_mofAtom_mright : (b + (z900 + 5)) ≠ (b + (z900 + 7)) := by omega
  have ne_mright_mofAtom : (b + (z900 + 7)) ≠ (b + (z900 + 5)) := Ne.symm ne_mofAtom_mright
  have ne_mofAtom_msize : (b + (z900 + 5)) ≠ (b + (z900 + 8)) := by omega
  have ne_msize_mofAtom : (b + (z900 + 8)) ≠ (b + (z900 + 5)) := Ne.symm ne_mofAtom_msize
  have ne_mofAtom_mcalls : (b + (z900 + 5)) ≠ (b + (z900 + 9)) := by omega
  have ne_mcalls_mofAtom : (b + (z900 + 9)) ≠ (b + (z900 + 5)) := Ne.symm ne_mofAtom_mcalls
  have ne_mofAtom_mrow : (b + (z900 + 5)) ≠ (b + (z900 + 10)) := by omega
  have ne_mrow_mofAtom : (b + (z900 + 10)) ≠ (b + (z900 + 5)) := Ne.symm ne_mofAtom_mrow
  have ne_mleft_mright : (b + (z900 + 6)) ≠ (b + (z900 + 7)) := by omega
  have ne_mright_mleft : (b + (z900 + 7)) ≠ (b + (z900 + 6)) := Ne.symm ne_mleft_mright
  have ne_mleft_msize : (b + (z900 + 6)) ≠ (b + (z900 + 8)) := by omega
  have ne_msize_mleft : (b + (z900 + 8)) ≠ (b + (z900 + 6)) := Ne.symm ne_mleft_msize
  have ne_mleft_mcalls : (b + (z900 + 6)) ≠ (b + (z900 + 9)) := by omega
  have ne_mcalls_mleft : (b + (z900 + 9)) ≠ (b + (z900 + 6)) := Ne.symm ne_mleft_mcalls
  have ne_mleft_mrow : (b + (z900 + 6)) ≠ (b + (z900 + 10)) := by omega
  have ne_mrow_mleft : (b + (z900 + 10)) ≠ (b + (z900 + 6)) := Ne.symm ne_mleft_mrow
  have ne_mright_msize : (b + (z900 + 7)) ≠ (b + (z900 + 8)) := by omega
  have ne_msize_mright : (b + (z900 + 8)) ≠ (b + (z900 + 7)) := Ne.symm ne_mright_msize
  have ne_mright_mcalls : (b + (z900 + 7)) ≠ (b + (z900 + 9)) := by omega
  have ne_mcalls_mright : (b + (z900 + 9)) ≠ (b + (z900 + 7)) := Ne.symm ne_mright_mcalls
  have ne_mright_mrow : (b + (z900 + 7)) ≠ (b + (z900 + 10)) := by omega
  have ne_mrow_mright : (b + (z900 + 10)) ≠ (b + (z900 + 7)) := Ne.symm ne_mright_mrow
  have ne_msize_mcalls : (b + (z900 + 8)) ≠ (b + (z900 + 9)) := by omega
  have ne_mcalls_msize : (b + (z900 + 9)) ≠ (b + (z900 + 8)) := Ne.symm ne_msize_mcalls
  have ne_msize_mrow : (b + (z900 + 8)) ≠ (b + (z900 + 10)) := by omega
  have ne_mrow_msize : (b + (z900 + 10)) ≠ (b + (z900 + 8)) := Ne.symm ne_msize_mrow
  have ne_mcalls_mrow : (b + (z900 + 9)) ≠ (b + (z900 + 10)) := by omega
  have ne_mrow_mcalls : (b + (z900 + 10)) ≠ (b + (z900 + 9)) := Ne.symm ne_mcalls_mrow
  have ne_mpatterns_mtold : (b + (z900 + 11)) ≠ (b + (z900 + 3)) := by omega
  have ne_mtold_mpatterns : (b + (z900 + 3)) ≠ (b + (z900 + 11)) := Ne.symm ne_mpatterns_mtold
  have ne_mpatterns_mmodel : (b + (z900 + 11)) ≠ (b + (z900 + 4)) := by omega
  have ne_mmodel_mpatterns : (b + (z900 + 4)) ≠ (b + (z900 + 11)) := Ne.symm ne_mpatterns_mmodel
  have ne_mpatterns_mofAtom : (b + (z900 + 11)) ≠ (b + (z900 + 5)) := by omega
  have ne_mofAtom_mpatterns : (b + (z900 + 5)) ≠ (b + (z900 + 11)) := Ne.symm ne_mpatterns_mofAtom
  have ne_mpatterns_mleft : (b + (z900 + 11)) ≠ (b + (z900 + 6)) := by omega
  have ne_mleft_mpatterns : (b + (z900 + 6)) ≠ (b + (z900 + 11)) := Ne.symm ne_mpatterns_mleft
  have ne_mpatterns_mright : (b + (z900 + 11)) ≠ (b + (z900 + 7)) := by omega
  have ne_mright_mpatterns : (b + (z900 + 7)) ≠ (b + (z900 + 11)) := Ne.symm ne_mpatterns_mright
  have ne_mpatterns_msize : (b + (z900 + 11)) ≠ (b + (z900 + 8)) := by omega
  have ne_msize_mpatterns : (b + (z900 + 8)) ≠ (b + (z900 + 11)) := Ne.symm ne_mpatterns_msize
  have ne_mpatterns_mcalls : (b + (z900 + 11)) ≠ (b + (z900 + 9)) := by omega
  have ne_mcalls_mpatterns : (b + (z900 + 9)) ≠ (b + (z900 + 11)) := Ne.symm ne_mpatterns_mcalls
  have ne_mpatterns_mrow : (b + (z900 + 11)) ≠ (b + (z900 + 10)) := by omega
  have ne_mrow_mpatterns : (b + (z900 + 10)) ≠ (b + (z900 + 11)) := Ne.symm ne_mpatterns_mrow
  have ne_mpatterns_mvalues : (b + (z900 + 11)) ≠ (b + (z900 + 12)) := by omega
  have ne_mvalues_mpatterns : (b + (z900 + 12)) ≠ (b + (z900 + 11)) := Ne.symm ne_mpatterns_mvalues
  have ne_mpatterns_mby : (b + (z900 + 11)) ≠ (b + (z900 + 13)) := by omega
  have ne_mby_mpatterns : (b + (z900 + 13)) ≠ (b + (z900 + 11)) := Ne.symm ne_mpatterns_mby
  have ne_mpatterns_mchoice : (b + (z900 + 11)) ≠ (b + (z900 + 14)) := by omega
  have ne_mchoice_mpatterns : (b + (z900 + 14)) ≠ (b + (z900 + 11)) := Ne.symm ne_mpatterns_mchoice
  have ne_mvalues_mtold : (b + (z900 + 12)) ≠ (b + (z900 + 3)) := by omega
  have ne_mtold_mvalues : (b + (z900 + 3)) ≠ (b + (z900 + 12)) := Ne.symm ne_mvalues_mtold
  have ne_mvalues_mmodel : (b + (z900 + 12)) ≠ (b + (z900 + 4)) := by omega
  have ne_mmodel_mvalues : (b + (z900 + 4)) ≠ (b + (z900 + 12)) := Ne.symm ne_mvalues_mmodel
  have ne_mvalues_mofAtom : (b + (z900 + 12)) ≠ (b + (z900 + 5)) := by omega
  have ne_mofAtom_mvalues : (b + (z900 + 5)) ≠ (b + (z900 + 12)) := Ne.symm ne_mvalues_mofAtom
  have ne_mvalues_mleft : (b + (z900 + 12)) ≠ (b + (z900 + 6)) := by omega
  have ne_mleft_mvalues : (b + (z900 + 6)) ≠ (b + (z900 + 12)) := Ne.symm ne_mvalues_mleft
  have ne_mvalues_mright : (b + (z900 + 12)) ≠ (b + (z900 + 7)) := by omega
  have ne_mright_mvalues : (b + (z900 + 7)) ≠ (b + (z900 + 12)) := Ne.symm ne_mvalues_mright
  have ne_mvalues_msize : (b + (z900 + 12)) ≠ (b + (z900 + 8)) := by omega
  have ne_msize_mvalues : (b + (z900 + 8)) ≠ (b + (z900 + 12)) := Ne.symm ne_mvalues_msize
  have ne_mvalues_mcalls : (b + (z900 + 12)) ≠ (b + (z900 + 9)) := by omega
  have ne_mcalls_mvalues : (b + (z900 + 9)) ≠ (b + (z900 + 12)) := Ne.symm ne_mvalues_mcalls
  have ne_mvalues_mrow : (b + (z900 + 12)) ≠ (b + (z900 + 10)) := by omega
  have ne_mrow_mvalues : (b + (z900 + 10)) ≠ (b + (z900 + 12)) := Ne.symm ne_mvalues_mrow
  have ne_mvalues_mby : (b + (z900 + 12)) ≠ (b + (z900 + 13)) := by omega
  have ne_mby_mvalues : (b + (z900 + 13)) ≠ (b + (z900 + 12)) := Ne.symm ne_mvalues_mby
  have ne_mvalues_mchoice : (b + (z900 + 12)) ≠ (b + (z900 + 14)) := by omega
  have ne_mchoice_mvalues : (b + (z900 + 14)) ≠ (b + (z900 + 12)) := Ne.symm ne_mvalues_mchoice
  have ne_mby_mtold : (b + (z900 + 13)) ≠ (b + (z900 + 3)) := by omega
  have ne_mtold_mby : (b + (z900 + 3)) ≠ (b + (z900 + 13)) := Ne.symm ne_mby_mtold
  have ne_mby_mmodel : (b + (z900 + 13)) ≠ (b + (z900 + 4)) := by omega
  have ne_mmodel_mby : (b + (z900 + 4)) ≠ (b + (z900 + 13)) := Ne.symm ne_mby_mmodel
  have ne_mby_mofAtom : (b + (z900 + 13)) ≠ (b + (z900 + 5)) := by omega
  have ne_mofAtom_mby : (b + (z900 + 5)) ≠ (b + (z900 + 13)) := Ne.symm ne_mby_mofAtom
  have ne_mby_mleft : (b + (z900 + 13)) ≠ (b + (z900 + 6)) := by omega
  have ne_mleft_mby : (b + (z900 + 6)) ≠ (b + (z900 + 13)) := Ne.symm ne_mby_mleft
  have ne_mby_mright : (b + (z900 + 13)) ≠ (b + (z900 + 7)) := by omega
  have ne_mright_mby : (b + (z900 + 7)) ≠ (b + (z900 + 13)) := Ne.symm ne_mby_mright
  have ne_mby_msize : (b + (z900 + 13)) ≠ (b + (z900 + 8)) := by omega
  have ne_msize_mby : (b + (z900 + 8)) ≠ (b + (z900 + 13)) := Ne.symm ne_mby_msize
  have ne_mby_mcalls : (b + (z900 + 13)) ≠ (b + (z900 + 9)) := by omega
  have ne_mcalls_mby : (b + (z900 + 9)) ≠ (b + (z900 + 13)) := Ne.symm ne_mby_mcalls
  have ne_mby_mrow : (b + (z900 + 13)) ≠ (b + (z900 + 10)) := by omega
  have ne_mrow_mby : (b + (z900 + 10)) ≠ (b + (z900 + 13)) := Ne.symm ne_mby_mrow
  have ne_mby_mchoice : (b + (z900 + 13)) ≠ (b + (z900 + 14)) := by omega
  have ne_mchoice_mby : (b + (z900 + 14)) ≠ (b + (z900 + 13)) := Ne.symm ne_mby_mchoice
  have ne_mchoice_mtold : (b + (z900 + 14)) ≠ (b + (z900 + 3)) := by omega
  have ne_mtold_mchoice : (b + (z900 + 3)) ≠ (b + (z900 + 14)) := Ne.symm ne_mchoice_mtold
  have ne_mchoice_mmodel : (b + (z900 + 14)) ≠ (b + (z900 + 4)) := by omega
  have ne_mmodel_mchoice : (b + (z900 + 4)) ≠ (b + (z900 + 14)) := Ne.symm ne_mchoice_mmodel
  have ne_mchoice_mofAtom : (b + (z900 + 14)) ≠ (b + (z900 + 5)) := by omega
  have ne_mofAtom_mchoice : (b + (z900 + 5)) ≠ (b + (z900 + 14)) := Ne.symm ne_mchoice_mofAtom
  have ne_mchoice_mleft : (b + (z900 + 14)) ≠ (b + (z900 + 6)) := by omega
  have ne_mleft_mchoice : (b + (z900 + 6)) ≠ (b + (z900 + 14)) := Ne.symm ne_mchoice_mleft
  have ne_mchoice_mright : (b + (z900 + 14)) ≠ (b + (z900 + 7)) := by omega
  have ne_mright_mchoice : (b + (z900 + 7)) ≠ (b + (z900 + 14)) := Ne.symm ne_mchoice_mright
  have ne_mchoice_msize : (b + (z900 + 14)) ≠ (b + (z900 + 8)) := by omega
  have ne_msize_mchoice : (b + (z900 + 8)) ≠ (b + (z900 + 14)) := Ne.symm ne_mchoice_msize
  have ne_mchoice_mcalls : (b + (z900 + 14)) ≠ (b + (z900 + 9)) := by omega
  have ne_mcalls_mchoice : (b + (z900 + 9)) ≠ (b + (z900 + 14)) := Ne.symm ne_mchoice_mcalls
  have ne_mchoice_mrow : (b + (z900 + 14)) ≠ (b + (z900 + 10)) := by omega
  have ne_mrow_mchoice : (b + (z900 + 10)) ≠ (b + (z900 + 14)) := Ne.symm ne_mchoice_mrow
  refine xm_callv (ua := fun _ => ad0) (va_runI (As := []) (rest := [.ref (ad0 (b + z900))]) ⟨hx, hb, hml, hown, hts⟩ (c_Mo_init (D := D) (ad := ad0) ce903 hba f_Z _) (xg_cwI 0 hts xw_560 xw_558 xw_559 xw_8 rfl rfl rfl (by decide +kernel) ⟨Nat.le_of_ble_eq_true rfl, Nat.le_of_ble_eq_true rfl⟩) (xm_pre hw _) rfl rfl hl.1 rfl (lv_room (Nat.le_of_ble_eq_true rfl)) d_La_law_12 ⟨Nat.le_of_ble_eq_true rfl, Nat.le_of_ble_eq_true rfl⟩) hw (fun ce904 H1 locs h hw => ?_)
  rw [hz] at h
  try simp only [Nat.add_assoc, Nat.reduceAdd] at h
  obtain ⟨f_Z, f_mplaces, f_mruled, f_mtold, f_mmodel, f_mofAtom, f_mleft, f_mright, f_msize, f_mcalls, f_mrow, f_mpatterns, f_mvalues, f_mby, f_mchoice, gfr_ce904⟩ := h
  try dsimp only at hw
  have f_Q : ce904 (b + s.heap.size) = some (.inr (0, [.ref (ad0 jPL), .ref (ad0 jBR), .int 0, .ref (ad0 jL), .null, .ref (ad0 jPP), .ref (ad0 jMM), .ref (ad0 jUU), .ref (ad0 jPT), .int 0, .int 0, .int 0])) := (gfr_ce904 _ ne_Q_Z ne_Q_mplaces ne_Q_mruled ne_Q_mtold ne_Q_mmodel ne_Q_mofAtom ne_Q_mleft ne_Q_mright ne_Q_msize ne_Q_mcalls ne_Q_mrow ne_Q_mpatterns ne_Q_mvalues ne_Q_mby ne_Q_mchoice).trans f_Q
  have f_PL : ce904 jPL = some (.inl (cI, 10, .inl (fun _ => 0))) := (gfr_ce904 _ ne_PL_Z ne_PL_mplaces ne_PL_mruled ne_PL_mtold ne_PL_mmodel ne_PL_mofAtom ne_PL_mleft ne_PL_mright ne_PL_msize ne_PL_mcalls ne_PL_mrow ne_PL_mpatterns ne_PL_mvalues ne_PL_mby ne_PL_mchoice).trans f_PL
  have f_BR : ce904 jBR = some (.inl (cZ, 10, .inl (fun _ => 0))) := (gfr_ce904 _ ne_BR_Z ne_BR_mplaces ne_BR_mruled ne_BR_mtold ne_BR_mmodel ne_BR_mofAtom ne_BR_mleft ne_BR_mright ne_BR_msize ne_BR_mcalls ne_BR_mrow ne_BR_mpatterns ne_BR_mvalues ne_BR_mby ne_BR_mchoice).trans f_BR
  have f_L : ce904 jL = some (.inr (5, [.ref t0, .int 0, .int 0])) := (gfr_ce904 _ ne_L_Z ne_L_mplaces ne_L_mruled ne_L_mtold ne_L_mmodel ne_L_mofAtom ne_L_mleft ne_L_mright ne_L_msize ne_L_mcalls ne_L_mrow ne_L_mpatterns ne_L_mvalues ne_L_mby ne_L_mchoice).trans f_L
  have f_PP : ce904 jPP = some (.inr (1, [.ref (ad0 jR)])) := (gfr_ce904 _ ne_PP_Z ne_PP_mplaces ne_PP_mruled ne_PP_mtold ne_PP_mmodel ne_PP_mofAtom ne_PP_mleft ne_PP_mright ne_PP_msize ne_PP_mcalls ne_PP_mrow ne_PP_mpatterns ne_PP_mvalues ne_PP_mby ne_PP_mchoice).trans f_PP
  have f_R : ce904 jR = some (.inl (cI, 341, .inl (fun _ => 0))) := (gfr_ce904 _ ne_R_Z ne_R_mplaces ne_R_mruled ne_R_mtold ne_R_mmodel ne_R_mofAtom ne_R_mleft ne_R_mright ne_R_msize ne_R_mcalls ne_R_mrow ne_R_mpatterns ne_R_mvalues ne_R_mby ne_R_mchoice).trans f_R
  have f_MM : ce904 jMM = some (.inr (2, [.ref (ad0 jPP), .ref (ad0 jV)])) := (gfr_ce904 _ ne_MM_Z ne_MM_mplaces ne_MM_mruled ne_MM_mtold ne_MM_mmodel ne_MM_mofAtom ne_MM_mleft ne_MM_mright ne_MM_msize ne_MM_mcalls ne_MM_mrow ne_MM_mpatterns ne_MM_mvalues ne_MM_mby ne_MM_mchoice).trans f_MM
  have f_V : ce904 jV = some (.inl (cI, 20, .inl (vF vi0))) := (gfr_ce904 _ ne_V_Z ne_V_mplaces ne_V_mruled ne_V_mtold ne_V_mmodel ne_V_mofAtom ne_V_mleft ne_V_mright ne_V_msize ne_V_mcalls ne_V_mrow ne_V_mpatterns ne_V_mvalues ne_V_mby ne_V_mchoice).trans f_V
  have f_UU : ce904 jUU = some (.inr (3, [.ref (ad0 jA), .ref (ad0 jB), .ref (ad0 jC), .int 0])) := (gfr_ce904 _ ne_UU_Z ne_UU_mplaces ne_UU_mruled ne_UU_mtold ne_UU_mmodel ne_UU_mofAtom ne_UU_mleft ne_UU_mright ne_UU_msize ne_UU_mcalls ne_UU_mrow ne_UU_mpatterns ne_UU_mvalues ne_UU_mby ne_UU_mchoice).trans f_UU
  have f_A : ce904 jA = some (.inl (cI, 4, .inl (fun _ => 0))) := (gfr_ce904 _ ne_A_Z ne_A_mplaces ne_A_mruled ne_A_mtold ne_A_mmodel ne_A_mofAtom ne_A_mleft ne_A_mright ne_A_msize ne_A_mcalls ne_A_mrow ne_A_mpatterns ne_A_mvalues ne_A_mby ne_A_mchoice).trans f_A
  have f_B : ce904 jB = some (.inl (cI, 4, .inl (fun _ => 0))) := (gfr_ce904 _ ne_B_Z ne_B_mplaces ne_B_mruled ne_B_mtold ne_B_mmodel ne_B_mofAtom ne_B_mleft ne_B_mright ne_B_msize ne_B_mcalls ne_B_mrow ne_B_mpatterns ne_B_mvalues ne_B_mby ne_B_mchoice).trans f_B
  have f_C : ce904 jC = some (.inl (cI, 4, .inl (fun _ => 0))) := (gfr_ce904 _ ne_C_Z ne_C_mplaces ne_C_mruled ne_C_mtold ne_C_mmodel ne_C_mofAtom ne_C_mleft ne_C_mright ne_C_msize ne_C_mcalls ne_C_mrow ne_C_mpatterns ne_C_mvalues ne_C_mby ne_C_mchoice).trans f_C
  have f_PT : ce904 jPT = some (.inl (cI, 10, .inl (fun _ => 0))) := (gfr_ce904 _ ne_PT_Z ne_PT_mplaces ne_PT_mruled ne_PT_mtold ne_PT_mmodel ne_PT_mofAtom ne_PT_mleft ne_PT_mright ne_PT_msize ne_PT_mcalls ne_PT_mrow ne_PT_mpatterns ne_PT_mvalues ne_PT_mby ne_PT_mchoice).trans f_PT
  obtain ⟨z905, hz⟩ : ∃ z, H1.size = z := ⟨_, rfl⟩
  obtain ⟨H, eH⟩ : ∃ z, z = H1 := ⟨_, rfl⟩
  subst eH
  refine lv_astore_n (lv' := [(2, .ref (ad0 (b + z900))), (1, .ref (ad0 (b + s.heap.size))), (0, .ref b0)]) hx hb d_La_law_15 rfl hl (by decide) rfl (fun ls hl => ?_)
  refine lv_iconst (v := 1) hx hb d_La_law_16 (by decide) ?_
  have fr_O : ce904 (b + z905) = none := xa_free hw hba (Nat.le_of_eq hz)
  have ne_Q_O : (b + s.heap.size) ≠ (b + z905) := xa_ne f_Q fr_O
  have ne_O_Q : (b + z905) ≠ (b + s.heap.size) := Ne.symm ne_Q_O
  have ne_PL_O : jPL ≠ (b + z905) := xa_ne f_PL fr_O
  have ne_O_PL : (b + z905) ≠ jPL := Ne.symm ne_PL_O
  have ne_BR_O : jBR ≠ (b + z905) := xa_ne f_BR fr_O
  have ne_O_BR : (b + z905) ≠ jBR := Ne.symm ne_BR_O
  have ne_L_O : jL ≠ (b + z905) := xa_ne f_L fr_O
  have ne_O_L : (b + z905) ≠ jL := Ne.symm ne_L_O
  have ne_PP_O : jPP ≠ (b + z905) := xa_ne f_PP fr_O
  have ne_O_PP : (b + z905) ≠ jPP := Ne.symm ne_PP_O
  have ne_R_O : jR ≠ (b + z905) := xa_ne f_R fr_O
  have ne_O_R : (b + z905) ≠ jR := Ne.symm ne_R_O
  have ne_MM_O : jMM ≠ (b + z905) := xa_ne f_MM fr_O
  have ne_O_MM : (b + z905) ≠ jMM := Ne.symm ne_MM_O
  have ne_V_O : jV ≠ (b + z905) := xa_ne f_V fr_O
  have ne_O_V : (b + z905) ≠ jV := Ne.symm ne_V_O
  have ne_UU_O : jUU ≠ (b + z905) := xa_ne f_UU fr_O
  have ne_O_UU : (b + z905) ≠ jUU := Ne.symm ne_UU_O
  have ne_A_O : jA ≠ (b + z905) := xa_ne f_A fr_O
  have ne_O_A : (b + z905) ≠ jA := Ne.symm ne_A_O
  have ne_B_O : jB ≠ (b + z905) := xa_ne f_B fr_O
  have ne_O_B : (b + z905) ≠ jB := Ne.symm ne_B_O
  have ne_C_O : jC ≠ (b + z905) := xa_ne f_C fr_O
  have ne_O_C : (b + z905) ≠ jC := Ne.symm ne_C_O
  have ne_PT_O : jPT ≠ (b + z905) := xa_ne f_PT fr_O
  have ne_O_PT : (b + z905) ≠ jPT := Ne.symm ne_PT_O
  have ne_Z_O : (b + z900) ≠ (b + z905) := xa_ne f_Z fr_O
  have ne_O_Z : (b + z905) ≠ (b + z900) := Ne.symm ne_Z_O
  have ne_mplaces_O : (b + (z900 + 1)) ≠ (b + z905) := xa_ne f_mplaces fr_O
  have ne_O_mplaces : (b + z905) ≠ (b + (z900 + 1)) := Ne.symm ne_mplaces_O
  have ne_mruled_O : (b + (z900 + 2)) ≠ (b + z905) := xa_ne f_mruled fr_O
  have ne_O_mruled : (b + z905) ≠ (b + (z900 + 2)) := Ne.symm ne_mruled_O
  have ne_mtold_O : (b + (z900 + 3)) ≠ (b + z905) := xa_ne f_mtold fr_O
  have ne_O_mtold : (b + z905) ≠ (b + (z900 + 3)) := Ne.symm ne_mtold_O
  have ne_mmodel_O : (b + (z900 + 4)) ≠ (b + z905) := xa_ne f_mmodel fr_O
  have ne_O_mmodel : (b + z905) ≠ (b + (z900 + 4)) := Ne.symm ne_mmodel_O
  have ne_mofAtom_O : (b + (z900 + 5)) ≠ (b + z905) := xa_ne f_mofAtom fr_O
  have ne_O_mofAtom : (b + z905) ≠ (b + (z900 + 5)) := Ne.symm ne_mofAtom_O
  have ne_mleft_O : (b + (z900 + 6)) ≠ (b + z905) := xa_ne f_mleft fr_O
  have ne_O_mleft : (b + z905) ≠ (b + (z900 + 6)) := Ne.symm ne_mleft_O
  have ne_mright_O : (b + (z900 + 7)) ≠ (b + z905) := xa_ne f_mright fr_O
  have ne_O_mright : (b + z905) ≠ (b + (z900 + 7)) := Ne.symm ne_mright_O
  have ne_msize_O : (b + (z900 + 8)) ≠ (b + z905) := xa_ne f_msize fr_O
  have ne_O_msize : (b + z905) ≠ (b + (z900 + 8)) := Ne.symm ne_msize_O
  have ne_mcalls_O : (b + (z900 + 9)) ≠ (b + z905) := xa_ne f_mcalls fr_O
  have ne_O_mcalls : (b + z905) ≠ (b + (z900 + 9)) := Ne.symm ne_mcalls_O
  have ne_mrow_O : (b + (z900 + 10)) ≠ (b + z905) := xa_ne f_mrow fr_O
  have ne_O_mrow : (b + z905) ≠ (b + (z900 + 10)) := Ne.symm ne_mrow_O
  have ne_mpatterns_O : (b + (z900 + 11)) ≠ (b + z905) := xa_ne f_mpatterns fr_O
  have ne_O_mpatterns : (b + z905) ≠ (b + (z900 + 11)) := Ne.symm ne_mpatterns_O
  have ne_mvalues_O : (b + (z900 + 12)) ≠ (b + z905) := xa_ne f_mvalues fr_O
  have ne_O_mvalues : (b + z905) ≠ (b + (z900 + 12)) := Ne.symm ne_mvalues_O
  have ne_mby_O : (b + (z900 + 13)) ≠ (b + z905) := xa_ne f_mby fr_O
  have ne_O_mby : (b + z905) ≠ (b + (z900 + 13)) := Ne.symm ne_mby_O
  have ne_mchoice_O : (b + (z900 + 14)) ≠ (b + z905) := xa_ne f_mchoice fr_O
  have ne_O_mchoice : (b + z905) ≠ (b + (z900 + 14)) := Ne.symm ne_mchoice_O
  refine xa_newa (D := D) (b := b) (atype := .long) (N' := 1) (a0 := (1, .inr (.inl (fun _ => 0)))) hx hb (hts _ (List.mem_cons_of_mem _ xw_798)) rfl hw hba 2 rfl (fun _ => rfl) (by decide) (by decide) (by decide) (by decide) (by decide) d_La_law_17 (fun H hz1 hw => ?_)
  rw [hz] at hz1 hw
  rw [hz]
  have hz : H.size = z905 + 1 := hz1
  obtain ⟨ce906, hce906⟩ : ∃ z, z = va_up ce904 (b + z905) (some (.inl (cJ, 1, .inr (.inl (fun _ => 0))))) := ⟨_, rfl⟩
  have hw := xm_W.cast hce906.symm hw
  have f_Q : ce906 (b + s.heap.size) = some (.inr (0, [.ref (ad0 jPL), .ref (ad0 jBR), .int 0, .ref (ad0 jL), .null, .ref (ad0 jPP), .ref (ad0 jMM), .ref (ad0 jUU), .ref (ad0 jPT), .int 0, .int 0, .int 0])) := by rw [hce906, va_up_ne _ _ ne_Q_O]; exact f_Q
  have f_PL : ce906 jPL = some (.inl (cI, 10, .inl (fun _ => 0))) := by rw [hce906, va_up_ne _ _ ne_PL_O]; exact f_PL
  have f_BR : ce906 jBR = some (.inl (cZ, 10, .inl (fun _ => 0))) := by rw [hce906, va_up_ne _ _ ne_BR_O]; exact f_BR
  have f_L : ce906 jL = some (.inr (5, [.ref t0, .int 0, .int 0])) := by rw [hce906, va_up_ne _ _ ne_L_O]; exact f_L
  have f_PP : ce906 jPP = some (.inr (1, [.ref (ad0 jR)])) := by rw [hce906, va_up_ne _ _ ne_PP_O]; exact f_PP
  have f_R : ce906 jR = some (.inl (cI, 341, .inl (fun _ => 0))) := by rw [hce906, va_up_ne _ _ ne_R_O]; exact f_R
  have f_MM : ce906 jMM = some (.inr (2, [.ref (ad0 jPP), .ref (ad0 jV)])) := by rw [hce906, va_up_ne _ _ ne_MM_O]; exact f_MM
  have f_V : ce906 jV = some (.inl (cI, 20, .inl (vF vi0))) := by rw [hce906, va_up_ne _ _ ne_V_O]; exact f_V
  have f_UU : ce906 jUU = some (.inr (3, [.ref (ad0 jA), .ref (ad0 jB), .ref (ad0 jC), .int 0])) := by rw [hce906, va_up_ne _ _ ne_UU_O]; exact f_UU
  have f_A : ce906 jA = some (.inl (cI, 4, .inl (fun _ => 0))) := by rw [hce906, va_up_ne _ _ ne_A_O]; exact f_A
  have f_B : ce906 jB = some (.inl (cI, 4, .inl (fun _ => 0))) := by rw [hce906, va_up_ne _ _ ne_B_O]; exact f_B
  have f_C : ce906 jC = some (.inl (cI, 4, .inl (fun _ => 0))) := by rw [hce906, va_up_ne _ _ ne_C_O]; exact f_C
  have f_PT : ce906 jPT = some (.inl (cI, 10, .inl (fun _ => 0))) := by rw [hce906, va_up_ne _ _ ne_PT_O]; exact f_PT
  have f_Z : ce906 (b + z900) = some (.inr (4, [.int 0, .ref (ad0 (b + (z900 + 1))), .ref (ad0 (b + (z900 + 2))), .int 0, .ref (ad0 (b + (z900 + 3))), .ref (ad0 (b + (z900 + 4))), .ref (ad0 (b + (z900 + 5))), .ref (ad0 (b + (z900 + 6))), .ref (ad0 (b + (z900 + 7))), .ref (ad0 (b + (z900 + 8))), .int 0, .int 0, .int 0, .int 0, .int 0, .int 0, .int 0, .ref (ad0 (b + (z900 + 9))), .ref (ad0 (b + (z900 + 10))), .int 0, .ref (ad0 (b + (z900 + 11))), .int 0, .ref (ad0 (b + (z900 + 12))), .ref (ad0 (b + (z900 + 13))), .ref (ad0 (b + (z900 + 14))), .int 0, .int 0, .int 0])) := by rw [hce906, va_up_ne _ _ ne_Z_O]; exact f_Z
  have f_mplaces : ce906 (b + (z900 + 1)) = some (.inl (cI, 10, .inl (fun _ => 0))) := by rw [hce906, va_up_ne _ _ ne_mplaces_O]; exact f_mplaces
  have f_mruled : ce906 (b + (z900 + 2)) = some (.inl (cZ, 10, .inl (fun _ => 0))) := by rw [hce906, va_up_ne _ _ ne_mruled_O]; exact f_mruled
  have f_mtold : ce906 (b + (z900 + 3)) = some (.inl (cZ, 1000, .inl (fun _ => 0))) := by rw [hce906, va_up_ne _ _ ne_mtold_O]; exact f_mtold
  have f_mmodel : ce906 (b + (z900 + 4)) = some (.inl (cZ, 1000, .inl (fun _ => 0))) := by rw [hce906, va_up_ne _ _ ne_mmodel_O]; exact f_mmodel
  have f_mofAtom : ce906 (b + (z900 + 5)) = some (.inl (cI, 124, .inl (fun _ => 0))) := by rw [hce906, va_up_ne _ _ ne_mofAtom_O]; exact f_mofAtom
  have f_mleft : ce906 (b + (z900 + 6)) = some (.inl (cI, 124, .inl (fun _ => 0))) := by rw [hce906, va_up_ne _ _ ne_mleft_O]; exact f_mleft
  have f_mright : ce906 (b + (z900 + 7)) = some (.inl (cI, 124, .inl (fun _ => 0))) := by rw [hce906, va_up_ne _ _ ne_mright_O]; exact f_mright
  have f_msize : ce906 (b + (z900 + 8)) = some (.inl (cI, 31, .inl (fun _ => 0))) := by rw [hce906, va_up_ne _ _ ne_msize_O]; exact f_msize
  have f_mcalls : ce906 (b + (z900 + 9)) = some (.inl (cZ, 1210, .inl (fun _ => 0))) := by rw [hce906, va_up_ne _ _ ne_mcalls_O]; exact f_mcalls
  have f_mrow : ce906 (b + (z900 + 10)) = some (.inl (cI, 1210, .inl (fun _ => 0))) := by rw [hce906, va_up_ne _ _ ne_mrow_O]; exact f_mrow
  have f_mpatterns : ce906 (b + (z900 + 11)) = some (.inl (cZ, 40, .inl (fun _ => 0))) := by rw [hce906, va_up_ne _ _ ne_mpatterns_O]; exact f_mpatterns
  have f_mvalues : ce906 (b + (z900 + 12)) = some (.inl (cI, 8, .inl (fun _ => 0))) := by rw [hce906, va_up_ne _ _ ne_mvalues_O]; exact f_mvalues
  have f_mby : ce906 (b + (z900 + 13)) = some (.inl (cI, 8, .inl (fun _ => 0))) := by rw [hce906, va_up_ne _ _ ne_mby_O]; exact f_mby
  have f_mchoice : ce906 (b + (z900 + 14)) = some (.inl (cI, 4, .inl (fun _ => 0))) := by rw [hce906, va_up_ne _ _ ne_mchoice_O]; exact f_mchoice
  have f_O : ce906 (b + z905) = some (.inl (cJ, 1, .inr (.inl (fun _ => 0)))) := by rw [hce906]; exact va_up_self _ _ _
  refine lv_astore_n (lv' := [(3, .ref (ad0 (b + z905))), (2, .ref (ad0 (b + z900))), (1, .ref (ad0 (b + s.heap.size))), (0, .ref b0)]) hx hb d_La_law_19 rfl hl (by decide) rfl (fun ls hl => ?_)
  refine lv_iconst (v := 0) hx hb d_La_law_20 (by decide) ?_
  refine lv_istore (lv' := [(4, .int 0), (3, .ref (ad0 (b + z905))), (2, .ref (ad0 (b + z900))), (1, .ref (ad0 (b + s.heap.size))), (0, .ref b0)]) hx hb d_La_law_21 hl (by decide) rfl (fun ls hl => ?_)
  obtain ⟨ad, had⟩ : ∃ z : Nat → Nat, z = fun i => if i < 100 then ([b + s.heap.size, jPL, jBR, jL, jPP, jR, jMM, jV, jUU, jA, jB, jC, jPT, b + z900, b + (z900 + 1), b + (z900 + 2), b + (z900 + 3), b + (z900 + 4), b + (z900 + 5), b + (z900 + 6), b + (z900 + 7), b + (z900 + 8), b + (z900 + 9), b + (z900 + 10), b + (z900 + 11), b + (z900 + 12), b + (z900 + 13), b + (z900 + 14), b + z905].map ad0).getD i 0 else i - 100 := ⟨_, rfl⟩
  have hbb : ∀ a, ad (100 + a) = a := fun a => by rw [had]; show (if 100 + a < 100 then _ else 100 + a - 100) = a; rw [if_neg (by omega)]; omega
  have hw9 : xm_W D xcl (xT cI cZ cJ cO) (xlA s) ad (lw (lcs ad cI cZ cJ (nI 0) (fun _ => 0) (fun _ => 0) .null (.ref t0) (nI 0) 0 (rF (fun _ _ _ => false)) (vF vi0) (fun _ => 0) (fun _ => 0) (fun _ => 0) 0 (fun _ => 0) 0 (bI false) (nI 0) 0 (fun _ => 0) (fun _ => 0) (nI 0) (fun _ => 0) (fun _ => 0) (fun _ => 0) (fun _ => 0) (fun _ => 0) (fun _ => 0) (nI 0) (bI false) (bI false) (nI 0) (xb_t 1) (xb_t 1) (nI 0) (fun _ => 0) (fun _ => 0) 0 (fun _ => 0) 0 (fun _ => 0) (fun _ => 0) (fun _ => 0) 0 0 0 (fun _ => 0)) (fun _ => none)) s s.heap H locs := by
    refine lw_re [b + s.heap.size, jPL, jBR, jL, jPP, jR, jMM, jV, jUU, jA, jB, jC, jPT, b + z900, b + (z900 + 1), b + (z900 + 2), b + (z900 + 3), b + (z900 + 4), b + (z900 + 5), b + (z900 + 6), b + (z900 + 7), b + (z900 + 8), b + (z900 + 9), b + (z900 + 10), b + (z900 + 11), b + (z900 + 12), b + (z900 + 13), b + (z900 + 14), b + z905] hw (by simp only [List.nodup_cons, List.mem_cons, List.not_mem_nil, or_false, not_or, not_false_eq_true, List.nodup_nil, and_true]; exact ⟨⟨ne_Q_PL, ne_Q_BR, ne_Q_L, ne_Q_PP, ne_Q_R, ne_Q_MM, ne_Q_V, ne_Q_UU, ne_Q_A, ne_Q_B, ne_Q_C, ne_Q_PT, ne_Q_Z, ne_Q_mplaces, ne_Q_mruled, ne_Q_mtold, ne_Q_mmodel, ne_Q_mofAtom, ne_Q_mleft, ne_Q_mright, ne_Q_msize, ne_Q_mcalls, ne_Q_mrow, ne_Q_mpatterns, ne_Q_mvalues, ne_Q_mby, ne_Q_mchoice, ne_Q_O⟩, ⟨ne_PL_BR, ne_PL_L, ne_PL_PP, ne_PL_R, ne_PL_MM, ne_PL_V, ne_PL_UU, ne_PL_A, ne_PL_B, ne_PL_C, ne_PL_PT, ne_PL_Z, ne_PL_mplaces, ne_PL_mruled, ne_PL_mtold, ne_PL_mmodel, ne_PL_mofAtom, ne_PL_mleft, ne_PL_mright, ne_PL_msize, ne_PL_mcalls, ne_PL_mrow, ne_PL_mpatterns, ne_PL_mvalues, ne_PL_mby, ne_PL_mchoice, ne_PL_O⟩, ⟨ne_BR_L, ne_BR_PP, ne_BR_R, ne_BR_MM, ne_BR_V, ne_BR_UU, ne_BR_A, ne_BR_B, ne_BR_C, ne_BR_PT, ne_BR_Z, ne_BR_mplaces, ne_BR_mruled, ne_BR_mtold, ne_BR_mmodel, ne_BR_mofAtom, ne_BR_mleft, ne_BR_mright, ne_BR_msize, ne_BR_mcalls, ne_BR_mrow, ne_BR_mpatterns, ne_BR_mvalues, ne_BR_mby, ne_BR_mchoice, ne_BR_O⟩, ⟨ne_L_PP, ne_L_R, ne_L_MM, ne_L_V, ne_L_UU, ne_L_A, ne_L_B, ne_L_C, ne_L_PT, ne_L_Z, ne_L_mplaces, ne_L_mruled, ne_L_mtold, ne_L_mmodel, ne_L_mofAtom, ne_L_mleft, ne_L_mright, ne_L_msize, ne_L_mcalls, ne_L_mrow, ne_L_mpatterns, ne_L_mvalues, ne_L_mby, ne_L_mchoice, ne_L_O⟩, ⟨ne_PP_R, ne_PP_MM, ne_PP_V, ne_PP_UU, ne_PP_A, ne_PP_B, ne_PP_C, ne_PP_PT, ne_PP_Z, ne_PP_mplaces, ne_PP_mruled, ne_PP_mtold, ne_PP_mmodel, ne_PP_mofAtom, ne_PP_mleft, ne_PP_mright, ne_PP_msize, ne_PP_mcalls, ne_PP_mrow, ne_PP_mpatterns, ne_PP_mvalues, ne_PP_mby, ne_PP_mchoice, ne_PP_O⟩, ⟨ne_R_MM, ne_R_V, ne_R_UU, ne_R_A, ne_R_B, ne_R_C, ne_R_PT, ne_R_Z, ne_R_mplaces, ne_R_mruled, ne_R_mtold, ne_R_mmodel, ne_R_mofAtom, ne_R_mleft, ne_R_mright, ne_R_msize, ne_R_mcalls, ne_R_mrow, ne_R_mpatterns, ne_R_mvalues, ne_R_mby, ne_R_mchoice, ne_R_O⟩, ⟨ne_MM_V, ne_MM_UU, ne_MM_A, ne_MM_B, ne_MM_C, ne_MM_PT, ne_MM_Z, ne_MM_mplaces, ne_MM_mruled, ne_MM_mtold, ne_MM_mmodel, ne_MM_mofAtom, ne_MM_mleft, ne_MM_mright, ne_MM_msize, ne_MM_mcalls, ne_MM_mrow, ne_MM_mpatterns, ne_MM_mvalues, ne_MM_mby, ne_MM_mchoice, ne_MM_O⟩, ⟨ne_V_UU, ne_V_A, ne_V_B, ne_V_C, ne_V_PT, ne_V_Z, ne_V_mplaces, ne_V_mruled, ne_V_mtold, ne_V_mmodel, ne_V_mofAtom, ne_V_mleft, ne_V_mright, ne_V_msize, ne_V_mcalls, ne_V_mrow, ne_V_mpatterns, ne_V_mvalues, ne_V_mby, ne_V_mchoice, ne_V_O⟩, ⟨ne_UU_A, ne_UU_B, ne_UU_C, ne_UU_PT, ne_UU_Z, ne_UU_mplaces, ne_UU_mruled, ne_UU_mtold, ne_UU_mmodel, ne_UU_mofAtom, ne_UU_mleft, ne_UU_mright, ne_UU_msize, ne_UU_mcalls, ne_UU_mrow, ne_UU_mpatterns, ne_UU_mvalues, ne_UU_mby, ne_UU_mchoice, ne_UU_O⟩, ⟨ne_A_B, ne_A_C, ne_A_PT, ne_A_Z, ne_A_mplaces, ne_A_mruled, ne_A_mtold, ne_A_mmodel, ne_A_mofAtom, ne_A_mleft, ne_A_mright, ne_A_msize, ne_A_mcalls, ne_A_mrow, ne_A_mpatterns, ne_A_mvalues, ne_A_mby, ne_A_mchoice, ne_A_O⟩, ⟨ne_B_C, ne_B_PT, ne_B_Z, ne_B_mplaces, ne_B_mruled, ne_B_mtold, ne_B_mmodel, ne_B_mofAtom, ne_B_mleft, ne_B_mright, ne_B_msize, ne_B_mcalls, ne_B_mrow, ne_B_mpatterns, ne_B_mvalues, ne_B_mby, ne_B_mchoice, ne_B_O⟩, ⟨ne_C_PT, ne_C_Z, ne_C_mplaces, ne_C_mruled, ne_C_mtold, ne_C_mmodel, ne_C_mofAtom, ne_C_mleft, ne_C_mright, ne_C_msize, ne_C_mcalls, ne_C_mrow, ne_C_mpatterns, ne_C_mvalues, ne_C_mby, ne_C_mchoice, ne_C_O⟩, ⟨ne_PT_Z, ne_PT_mplaces, ne_PT_mruled, ne_PT_mtold, ne_PT_mmodel, ne_PT_mofAtom, ne_PT_mleft, ne_PT_mright, ne_PT_msize, ne_PT_mcalls, ne_PT_mrow, ne_PT_mpatterns, ne_PT_mvalues, ne_PT_mby, ne_PT_mchoice, ne_PT_O⟩, ⟨ne_Z_mplaces, ne_Z_mruled, ne_Z_mtold, ne_Z_mmodel, ne_Z_mofAtom, ne_Z_mleft, ne_Z_mright, ne_Z_msize, ne_Z_mcalls, ne_Z_mrow, ne_Z_mpatterns, ne_Z_mvalues, ne_Z_mby, ne_Z_mchoice, ne_Z_O⟩, ⟨ne_mplaces_mruled, ne_mplaces_mtold, ne_mplaces_mmodel, ne_mplaces_mofAtom, ne_mplaces_mleft, ne_mplaces_mright, ne_mplaces_msize, ne_mplaces_mcalls, ne_mplaces_mrow, ne_mplaces_mpatterns, ne_mplaces_mvalues, ne_mplaces_mby, ne_mplaces_mchoice, ne_mplaces_O⟩, ⟨ne_mruled_mtold, ne_mruled_mmodel, ne_mruled_mofAtom, ne_mruled_mleft, ne_mruled_mright, ne_mruled_msize, ne_mruled_mcalls, ne_mruled_mrow, ne_mruled_mpatterns, ne_mruled_mvalues, ne_mruled_mby, ne_mruled_mchoice, ne_mruled_O⟩, ⟨ne_mtold_mmodel, ne_mtold_mofAtom, ne_mtold_mleft, ne_mtold_mright, ne_mtold_msize, ne_mtold_mcalls, ne_mtold_mrow, ne_mtold_mpatterns, ne_mtold_mvalues, ne_mtold_mby, ne_mtold_mchoice, ne_mtold_O⟩, ⟨ne_mmodel_mofAtom, ne_mmodel_mleft, ne_mmodel_mright, ne_mmodel_msize, ne_mmodel_mcalls, ne_mmodel_mrow, ne_mmodel_mpatterns, ne_mmodel_mvalues, ne_mmodel_mby, ne_mmodel_mchoice, ne_mmodel_O⟩, ⟨ne_mofAtom_mleft, ne_mofAtom_mright, ne_mofAtom_msize, ne_mofAtom_mcalls, ne_mofAtom_mrow, ne_mofAtom_mpatterns, ne_mofAtom_mvalues, ne_mofAtom_mby, ne_mofAtom_mchoice, ne_mofAtom_O⟩, ⟨ne_mleft_mright, ne_mleft_msize, ne_mleft_mcalls, ne_mleft_mrow, ne_mleft_mpatterns, ne_mleft_mvalues, ne_mleft_mby, ne_mleft_mchoice, ne_mleft_O⟩, ⟨ne_mright_msize, ne_mright_mcalls, ne_mright_mrow, ne_mright_mpatterns, ne_mright_mvalues, ne_mright_mby, ne_mright_mchoice, ne_mright_O⟩, ⟨ne_msize_mcalls, ne_msize_mrow, ne_msize_mpatterns, ne_msize_mvalues, ne_msize_mby, ne_msize_mchoice, ne_msize_O⟩, ⟨ne_mcalls_mrow, ne_mcalls_mpatterns, ne_mcalls_mvalues, ne_mcalls_mby, ne_mcalls_mchoice, ne_mcalls_O⟩, ⟨ne_mrow_mpatterns, ne_mrow_mvalues, ne_mrow_mby, ne_mrow_mchoice, ne_mrow_O⟩, ⟨ne_mpatterns_mvalues, ne_mpatterns_mby, ne_mpatterns_mchoice, ne_mpatterns_O⟩, ⟨ne_mvalues_mby, ne_mvalues_mchoice, ne_mvalues_O⟩, ⟨ne_mby_mchoice, ne_mby_O⟩, ne_mchoice_O⟩) ?_
    intro k x hk
    subst had
    match k, hk with
    | 0, hk => cases hk; exact ⟨_, rfl, f_Q, rfl⟩
    | 1, hk => cases hk; exact ⟨_, rfl, f_PL, rfl⟩
    | 2, hk => cases hk; exact ⟨_, rfl, f_BR, rfl⟩
    | 3, hk => cases hk; exact ⟨_, rfl, f_L, rfl⟩
    | 4, hk => cases hk; exact ⟨_, rfl, f_PP, rfl⟩
    | 5, hk => cases hk; exact ⟨_, rfl, (by rw [rF_0]; exact f_R), rfl⟩
    | 6, hk => cases hk; exact ⟨_, rfl, f_MM, rfl⟩
    | 7, hk => cases hk; exact ⟨_, rfl, f_V, rfl⟩
    | 8, hk => cases hk; exact ⟨_, rfl, f_UU, rfl⟩
    | 9, hk => cases hk; exact ⟨_, rfl, f_A, rfl⟩
    | 10, hk => cases hk; exact ⟨_, rfl, f_B, rfl⟩
    | 11, hk => cases hk; exact ⟨_, rfl, f_C, rfl⟩
    | 12, hk => cases hk; exact ⟨_, rfl, f_PT, rfl⟩
    | 13, hk => cases hk; exact ⟨_, rfl, (by rw [show xb_t 1 = (0 : Int32) from by decide]; exact f_Z), rfl⟩
    | 14, hk => cases hk; exact ⟨_, rfl, f_mplaces, rfl⟩
    | 15, hk => cases hk; exact ⟨_, rfl, f_mruled, rfl⟩
    | 16, hk => cases hk; exact ⟨_, rfl, f_mtold, rfl⟩
    | 17, hk => cases hk; exact ⟨_, rfl, f_mmodel, rfl⟩
    | 18, hk => cases hk; exact ⟨_, rfl, f_mofAtom, rfl⟩
    | 19, hk => cases hk; exact ⟨_, rfl, f_mleft, rfl⟩
    | 20, hk => cases hk; exact ⟨_, rfl, f_mright, rfl⟩
    | 21, hk => cases hk; exact ⟨_, rfl, f_msize, rfl⟩
    | 22, hk => cases hk; exact ⟨_, rfl, f_mcalls, rfl⟩
    | 23, hk => cases hk; exact ⟨_, rfl, f_mrow, rfl⟩
    | 24, hk => cases hk; exact ⟨_, rfl, f_mpatterns, rfl⟩
    | 25, hk => cases hk; exact ⟨_, rfl, f_mvalues, rfl⟩
    | 26, hk => cases hk; exact ⟨_, rfl, f_mby, rfl⟩
    | 27, hk => cases hk; exact ⟨_, rfl, f_mchoice, rfl⟩
    | 28, hk => cases hk; exact ⟨_, rfl, f_O, rfl⟩
    | k + 29, hk => simp at hk
  have hl9 : lv_has ls 7 [(0, .ref b0), (1, .ref (ad 0)), (2, .ref (ad 13)), (3, .ref (ad 28)), (4, .int (nI 0))] := by
    have h9 := lv_sub hl [4, 3, 2, 1, 0] rfl
    subst had
    exact h9
  refine lz_loop (p := p) (l := l) (e := e) (s := s) (m := m) (args := #[Value.ref b0]) (below := below) (meth := meth) (c := c) (QQ := lw_Z below #[Value.ref b0] s) (D := D) (ad := ad) (cI := cI) (cZ := cZ) (cJ := cJ) (cO := cO) (sL := L) (sx := xs) (sb := b0) (t0 := t0) (mi := mi) (c0 := c0) ⟨hx, hb, hml, hown, hts, hX, hbl, hbA, hT, hNc, hq, hlt, hbb⟩ hL (fun H locs ls nc ns h1 h2 hS => ?_) L 0 (by omega) (by omega) (RS := fun _ => (fun _ => 0, fun _ => 0, fun _ => 0, 0)) (R := (fun _ => 0, fun _ => 0, fun _ => 0, 0)) lz_init (by omega) (by omega) hw9 hl9
  refine lv_iconst (v := 1) hx hb d_La_law_1009 (by decide) ?_
  refine va_forget (fun q hq => hS.2.2 q hq) ?_
  refine W.widen (k := 601024) (n := 7293034) h1 h2 ?_
  exact lw_ret hx hb hr hlocks d_La_law_1010
