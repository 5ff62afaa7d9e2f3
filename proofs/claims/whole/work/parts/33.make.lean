abbrev b_Qd_init : ByteArray := prog_1_method_1_code
def y_Qd_init : MethodName := ⟨"QuestionDesk", "<init>", "()V"⟩
theorem d_Qd_init_0 : decode b_Qd_init 0 = .ok (.aload_n 0, 1) := by decide +kernel
theorem d_Qd_init_1 : decode b_Qd_init 1 = .ok (.invokespecial 3, 3) := by decide +kernel
theorem d_Qd_init_4 : decode b_Qd_init 4 = .ok (.aload_n 0, 1) := by decide +kernel
theorem d_Qd_init_5 : decode b_Qd_init 5 = .ok (.bipush 10, 2) := by decide +kernel
theorem d_Qd_init_7 : decode b_Qd_init 7 = .ok (.newarray .int, 2) := by decide +kernel
theorem d_Qd_init_9 : decode b_Qd_init 9 = .ok (.putfield 9, 3) := by decide +kernel
theorem d_Qd_init_12 : decode b_Qd_init 12 = .ok (.aload_n 0, 1) := by decide +kernel
theorem d_Qd_init_13 : decode b_Qd_init 13 = .ok (.bipush 10, 2) := by decide +kernel
theorem d_Qd_init_15 : decode b_Qd_init 15 = .ok (.newarray .boolean, 2) := by decide +kernel
theorem d_Qd_init_17 : decode b_Qd_init 17 = .ok (.putfield 13, 3) := by decide +kernel
theorem d_Qd_init_20 : decode b_Qd_init 20 = .ok (.aload_n 0, 1) := by decide +kernel
theorem d_Qd_init_21 : decode b_Qd_init 21 = .ok (.iconst 0, 1) := by decide +kernel
theorem d_Qd_init_22 : decode b_Qd_init 22 = .ok (.putfield 17, 3) := by decide +kernel
theorem d_Qd_init_25 : decode b_Qd_init 25 = .ok (.aload_n 0, 1) := by decide +kernel
theorem d_Qd_init_26 : decode b_Qd_init 26 = .ok (.new 21, 3) := by decide +kernel
theorem d_Qd_init_29 : decode b_Qd_init 29 = .ok (.dup, 1) := by decide +kernel
theorem d_Qd_init_30 : decode b_Qd_init 30 = .ok (.invokespecial 23, 3) := by decide +kernel
theorem d_Qd_init_33 : decode b_Qd_init 33 = .ok (.putfield 24, 3) := by decide +kernel
theorem d_Qd_init_36 : decode b_Qd_init 36 = .ok (.aload_n 0, 1) := by decide +kernel
theorem d_Qd_init_37 : decode b_Qd_init 37 = .ok (.aconst_null, 1) := by decide +kernel
theorem d_Qd_init_38 : decode b_Qd_init 38 = .ok (.putfield 28, 3) := by decide +kernel
theorem d_Qd_init_41 : decode b_Qd_init 41 = .ok (.aload_n 0, 1) := by decide +kernel
theorem d_Qd_init_42 : decode b_Qd_init 42 = .ok (.new 32, 3) := by decide +kernel
theorem d_Qd_init_45 : decode b_Qd_init 45 = .ok (.dup, 1) := by decide +kernel
theorem d_Qd_init_46 : decode b_Qd_init 46 = .ok (.invokespecial 34, 3) := by decide +kernel
theorem d_Qd_init_49 : decode b_Qd_init 49 = .ok (.putfield 35, 3) := by decide +kernel
theorem d_Qd_init_52 : decode b_Qd_init 52 = .ok (.aload_n 0, 1) := by decide +kernel
theorem d_Qd_init_53 : decode b_Qd_init 53 = .ok (.new 39, 3) := by decide +kernel
theorem d_Qd_init_56 : decode b_Qd_init 56 = .ok (.dup, 1) := by decide +kernel
theorem d_Qd_init_57 : decode b_Qd_init 57 = .ok (.aload_n 0, 1) := by decide +kernel
theorem d_Qd_init_58 : decode b_Qd_init 58 = .ok (.getfield 35, 3) := by decide +kernel
theorem d_Qd_init_61 : decode b_Qd_init 61 = .ok (.invokespecial 41, 3) := by decide +kernel
theorem d_Qd_init_64 : decode b_Qd_init 64 = .ok (.putfield 44, 3) := by decide +kernel
theorem d_Qd_init_67 : decode b_Qd_init 67 = .ok (.aload_n 0, 1) := by decide +kernel
theorem d_Qd_init_68 : decode b_Qd_init 68 = .ok (.new 48, 3) := by decide +kernel
theorem d_Qd_init_71 : decode b_Qd_init 71 = .ok (.dup, 1) := by decide +kernel
theorem d_Qd_init_72 : decode b_Qd_init 72 = .ok (.invokespecial 50, 3) := by decide +kernel
theorem d_Qd_init_75 : decode b_Qd_init 75 = .ok (.putfield 51, 3) := by decide +kernel
theorem d_Qd_init_78 : decode b_Qd_init 78 = .ok (.aload_n 0, 1) := by decide +kernel
theorem d_Qd_init_79 : decode b_Qd_init 79 = .ok (.bipush 10, 2) := by decide +kernel
theorem d_Qd_init_81 : decode b_Qd_init 81 = .ok (.newarray .int, 2) := by decide +kernel
theorem d_Qd_init_83 : decode b_Qd_init 83 = .ok (.putfield 54, 3) := by decide +kernel
theorem d_Qd_init_86 : decode b_Qd_init 86 = .ok (.aload_n 0, 1) := by decide +kernel
theorem d_Qd_init_87 : decode b_Qd_init 87 = .ok (.iconst 0, 1) := by decide +kernel
theorem d_Qd_init_88 : decode b_Qd_init 88 = .ok (.putfield 57, 3) := by decide +kernel
theorem d_Qd_init_91 : decode b_Qd_init 91 = .ok (.aload_n 0, 1) := by decide +kernel
theorem d_Qd_init_92 : decode b_Qd_init 92 = .ok (.iconst 0, 1) := by decide +kernel
theorem d_Qd_init_93 : decode b_Qd_init 93 = .ok (.putfield 60, 3) := by decide +kernel
theorem d_Qd_init_96 : decode b_Qd_init 96 = .ok (.aload_n 0, 1) := by decide +kernel
theorem d_Qd_init_97 : decode b_Qd_init 97 = .ok (.iconst 0, 1) := by decide +kernel
theorem d_Qd_init_98 : decode b_Qd_init 98 = .ok (.putfield 64, 3) := by decide +kernel
theorem d_Qd_init_101 : decode b_Qd_init 101 = .ok (.return_, 1) := by decide +kernel
theorem xw_26 : (Jvm.Cond.methodLink "QuestionDesk" (3 : Nat) ({ cls := "java/lang/Object", name := "<init>", desc := "()V" } : Jvm.MethodName)) ∈ xg := xg_t (i := 26) (by decide +kernel) (by decide +kernel)
theorem xw_29 : (Jvm.Cond.classLink "QuestionDesk" (21 : Nat) "java/util/ArrayList") ∈ xg := xg_t (i := 29) (by decide +kernel) (by decide +kernel)
theorem xw_30 : (Jvm.Cond.instantiable "java/util/ArrayList" (3 : Nat)) ∈ xg := xg_t (i := 30) (by decide +kernel) (by decide +kernel)
theorem xw_33 : (Jvm.Cond.code ({ cls := "java/util/ArrayList", name := "<init>", desc := "()V" } : Jvm.MethodName) prog_21_method_2_code (1 : Nat) (Option.none : Option Jvm.ClassFile.FieldType)) ∈ xg := xg_t (i := 33) (by decide +kernel) (by decide +kernel)
theorem xw_32 : (Jvm.Cond.instanceMethod ({ cls := "java/util/ArrayList", name := "<init>", desc := "()V" } : Jvm.MethodName)) ∈ xg := xg_t (i := 32) (by decide +kernel) (by decide +kernel)
theorem xw_31 : (Jvm.Cond.methodLink "QuestionDesk" (23 : Nat) ({ cls := "java/util/ArrayList", name := "<init>", desc := "()V" } : Jvm.MethodName)) ∈ xg := xg_t (i := 31) (by decide +kernel) (by decide +kernel)
theorem xw_57 : (Jvm.Cond.classLink "QuestionDesk" (32 : Nat) "QuestionDesk$Pairs") ∈ xg := xg_t (i := 57) (by decide +kernel) (by decide +kernel)
theorem xw_58 : (Jvm.Cond.instantiable "QuestionDesk$Pairs" (1 : Nat)) ∈ xg := xg_t (i := 58) (by decide +kernel) (by decide +kernel)
theorem xw_61 : (Jvm.Cond.code ({ cls := "QuestionDesk$Pairs", name := "<init>", desc := "()V" } : Jvm.MethodName) prog_3_method_1_code (1 : Nat) (Option.none : Option Jvm.ClassFile.FieldType)) ∈ xg := xg_t (i := 61) (by decide +kernel) (by decide +kernel)
theorem xw_60 : (Jvm.Cond.instanceMethod ({ cls := "QuestionDesk$Pairs", name := "<init>", desc := "()V" } : Jvm.MethodName)) ∈ xg := xg_t (i := 60) (by decide +kernel) (by decide +kernel)
theorem xw_67 : (Jvm.Cond.classLink "QuestionDesk" (39 : Nat) "QuestionDesk$Matcher") ∈ xg := xg_t (i := 67) (by decide +kernel) (by decide +kernel)
theorem xw_68 : (Jvm.Cond.instantiable "QuestionDesk$Matcher" (2 : Nat)) ∈ xg := xg_t (i := 68) (by decide +kernel) (by decide +kernel)
theorem xw_71 : (Jvm.Cond.code ({ cls := "QuestionDesk$Matcher", name := "<init>", desc := "(LQuestionDesk$Pairs;)V" } : Jvm.MethodName) prog_2_method_1_code (3 : Nat) (Option.none : Option Jvm.ClassFile.FieldType)) ∈ xg := xg_t (i := 71) (by decide +kernel) (by decide +kernel)
theorem xw_70 : (Jvm.Cond.instanceMethod ({ cls := "QuestionDesk$Matcher", name := "<init>", desc := "(LQuestionDesk$Pairs;)V" } : Jvm.MethodName)) ∈ xg := xg_t (i := 70) (by decide +kernel) (by decide +kernel)
theorem xw_69 : (Jvm.Cond.methodLink "QuestionDesk" (41 : Nat) ({ cls := "QuestionDesk$Matcher", name := "<init>", desc := "(LQuestionDesk$Pairs;)V" } : Jvm.MethodName)) ∈ xg := xg_t (i := 69) (by decide +kernel) (by decide +kernel)
theorem xw_81 : (Jvm.Cond.instantiable "QuestionDesk$Rule" (4 : Nat)) ∈ xg := xg_t (i := 81) (by decide +kernel) (by decide +kernel)
theorem xw_84 : (Jvm.Cond.code ({ cls := "QuestionDesk$Rule", name := "<init>", desc := "()V" } : Jvm.MethodName) prog_4_method_1_code (1 : Nat) (Option.none : Option Jvm.ClassFile.FieldType)) ∈ xg := xg_t (i := 84) (by decide +kernel) (by decide +kernel)
theorem xw_83 : (Jvm.Cond.instanceMethod ({ cls := "QuestionDesk$Rule", name := "<init>", desc := "()V" } : Jvm.MethodName)) ∈ xg := xg_t (i := 83) (by decide +kernel) (by decide +kernel)
abbrev rm_Qd_init : Room := { frames := 4, cells := 12, slots := 413, locals := 90 }
set_option maxHeartbeats 4000000 in
set_option maxRecDepth 100000 in
theorem c_Qd_init {l : Launch} {D : va_G} {ad : Nat → Nat} (ce : Nat → Option va_E) {b : Nat} {cI cZ cJ cO : ClassId} {t0 mi : Nat} {iT : Nat} (hba : ∀ a, ad (b + a) = a) (f_T : ce iT = some (.inr (0, [.null, .null, .int 0, .null, .null, .null, .null, .null, .null, .int 0, .int 0, .int 0]))) : ∀ sz, Met l y_Qd_init (Cond.code y_Qd_init b_Qd_init 1 none :: xg) rm_Qd_init (xq_Pc t0 mi D xcl (xT cI cZ cJ cO) ad ce sz [.ref (ad iT)]) (va_Qv (fun u : Nat → Option va_E => ∃ jPL jBR jL jPP jR jMM jV jUU jA jB jC jPT : Nat, [iT, jPL, jBR, jL, jPP, jR, jMM, jV, jUU, jA, jB, jC, jPT].Nodup ∧ u iT = some (.inr (0, [.ref (ad jPL), .ref (ad jBR), .int 0, .ref (ad jL), .null, .ref (ad jPP), .ref (ad jMM), .ref (ad jUU), .ref (ad jPT), .int 0, .int 0, .int 0])) ∧ u jPL = some (.inl (cI, 10, .inl (fun _ => 0))) ∧ u jBR = some (.inl (cZ, 10, .inl (fun _ => 0))) ∧ u jL = some (.inr (5, [.ref t0, .int 0, .int 0])) ∧ u jPP = some (.inr (1, [.ref (ad jR)])) ∧ u jR = some (.inl (cI, 341, .inl (fun _ => 0))) ∧ u jMM = some (.inr (2, [.ref (ad jPP), .ref (ad jV)])) ∧ u jV = some (.inl (cI, 20, .inl (vF vi0))) ∧ u jUU = some (.inr (3, [.ref (ad jA), .ref (ad jB), .ref (ad jC), .int 0])) ∧ u jA = some (.inl (cI, 4, .inl (fun _ => 0))) ∧ u jB = some (.inl (cI, 4, .inl (fun _ => 0))) ∧ u jC = some (.inl (cI, 4, .inl (fun _ => 0))) ∧ u jPT = some (.inl (cI, 10, .inl (fun _ => 0)))) (xm_B D xcl (xT cI cZ cJ cO) (xm_A ad ce sz) (fun _ => ad) (fun u => u)) (xm_A ad ce sz)) 12 413 (xm_A ad ce sz) := by
  refine xq_ofW (cc := b_Qd_init) (maxL := 1) (ret := none) (by decide) rfl (Nat.le_of_ble_eq_true rfl) ?_
  intro p e s m args below meth c ls QQ hQQ hT hx hb hml hr hown hlk hnm hts hl hw
  have hl : lv_has ls 1 [(0, .ref (ad iT))] := hl
  refine lv_aload_n hx hb d_Qd_init_0 rfl (lv_at hl 0 rfl) ?_
  refine xa_oi hx hb hown (hts _ (List.mem_cons_of_mem _ xw_26)) (hts _ (List.mem_cons_of_mem _ xw_27)) (hts _ (List.mem_cons_of_mem _ xw_28)) (hl.1.trans hml.symm) d_Qd_init_1 (by decide) (Nat.le_of_ble_eq_true rfl) ?_
  refine lv_aload_n hx hb d_Qd_init_4 rfl (lv_at hl 0 rfl) ?_
  refine lv_bipush (v := 10) hx hb d_Qd_init_5 (by decide) ?_
  have fr_PL : ce (b + s.heap.size) = none := xa_free hw hba (Nat.le_of_eq rfl)
  have ne_T_PL : iT ≠ (b + s.heap.size) := xa_ne f_T fr_PL
  have ne_PL_T : (b + s.heap.size) ≠ iT := Ne.symm ne_T_PL
  refine xa_newa (D := D) (b := b) (atype := .int) (N' := 10) (a0 := (10, .inl (fun _ => 0))) hx hb (hts _ (List.mem_cons_of_mem _ xw_55)) rfl hw hba 0 rfl (fun _ => rfl) (by decide) (by decide) (by decide) (by decide) (by decide) d_Qd_init_7 (fun H hz1 hw => ?_)
  have hz : H.size = s.heap.size + 1 := hz1
  obtain ⟨ce1, hce1⟩ : ∃ z, z = va_up ce (b + s.heap.size) (some (.inl (cI, 10, .inl (fun _ => 0)))) := ⟨_, rfl⟩
  have hw := xm_W.cast hce1.symm hw
  have f_T : ce1 iT = some (.inr (0, [.null, .null, .int 0, .null, .null, .null, .null, .null, .null, .int 0, .int 0, .int 0])) := by rw [hce1, va_up_ne _ _ ne_T_PL]; exact f_T
  have f_PL : ce1 (b + s.heap.size) = some (.inl (cI, 10, .inl (fun _ => 0))) := by rw [hce1]; exact va_up_self _ _ _
  refine xa_putF (D := D) (v := .ref (ad (b + s.heap.size))) (ty := .array .int) (C := R_Qd) (T := F_Qd) (N := 12) hx hb hts (fun w h => List.mem_cons_of_mem _ (i_Qd w h)) t_Qd o_Qd n_Qd hown hw f_T rfl 0 (by decide) (hts _ (List.mem_cons_of_mem _ xw_107)) (fun _ h9 => h9) rfl hnm rfl (by decide +kernel) rfl rfl (Nat.le_of_ble_eq_true rfl) d_Qd_init_9 (fun H locs hz1 hw => ?_)
  rw [hz] at hz1
  have hz : H.size = s.heap.size + 1 := hz1
  obtain ⟨ce2, hce2⟩ : ∃ z, z = va_up ce1 iT (some (.inr (0, [.ref (ad (b + s.heap.size)), .null, .int 0, .null, .null, .null, .null, .null, .null, .int 0, .int 0, .int 0]))) := ⟨_, rfl⟩
  have hw := xm_W.cast hce2.symm hw
  have f_T : ce2 iT = some (.inr (0, [.ref (ad (b + s.heap.size)), .null, .int 0, .null, .null, .null, .null, .null, .null, .int 0, .int 0, .int 0])) := by rw [hce2]; exact va_up_self _ _ _
  have f_PL : ce2 (b + s.heap.size) = some (.inl (cI, 10, .inl (fun _ => 0))) := by rw [hce2, va_up_ne _ _ ne_PL_T]; exact f_PL
  refine lv_aload_n hx hb d_Qd_init_12 rfl (lv_at hl 0 rfl) ?_
  refine lv_bipush (v := 10) hx hb d_Qd_init_13 (by decide) ?_
  have fr_BR : ce2 (b + (s.heap.size + 1)) = none := xa_free hw hba (Nat.le_of_eq hz)
  have ne_T_BR : iT ≠ (b + (s.heap.size + 1)) := xa_ne f_T fr_BR
  have ne_BR_T : (b + (s.heap.size + 1)) ≠ iT := Ne.symm ne_T_BR
  have ne_PL_BR : (b + s.heap.size) ≠ (b + (s.heap.size + 1)) := xa_ne f_PL fr_BR
  have ne_BR_PL : (b + (s.heap.size + 1)) ≠ (b + s.heap.size) := Ne.symm ne_PL_BR
  refine xa_newa (D := D) (b := b) (atype := .boolean) (N' := 10) (a0 := (10, .inl (fun _ => 0))) hx hb (hts _ (List.mem_cons_of_mem _ xw_56)) rfl hw hba 1 rfl (fun _ => rfl) (by decide) (by decide) (by decide) (by decide) (by decide) d_Qd_init_15 (fun H hz1 hw => ?_)
  rw [hz] at hz1 hw
  rw [hz]
  have hz : H.size = s.heap.size + 2 := hz1
  obtain ⟨ce3, hce3⟩ : ∃ z, z = va_up ce2 (b + (s.heap.size + 1)) (some (.inl (cZ, 10, .inl (fun _ => 0)))) := ⟨_, rfl⟩
  have hw := xm_W.cast hce3.symm hw
  have f_T : ce3 iT = some (.inr (0, [.ref (ad (b + s.heap.size)), .null, .int 0, .null, .null, .null, .null, .null, .null, .int 0, .int 0, .int 0])) := by rw [hce3, va_up_ne _ _ ne_T_BR]; exact f_T
  have f_PL : ce3 (b + s.heap.size) = some (.inl (cI, 10, .inl (fun _ => 0))) := by rw [hce3, va_up_ne _ _ ne_PL_BR]; exact f_PL
  have f_BR : ce3 (b + (s.heap.size + 1)) = some (.inl (cZ, 10, .inl (fun _ => 0))) := by rw [hce3]; exact va_up_self _ _ _
  refine xa_putF (D := D) (v := .ref (ad (b + (s.heap.size + 1)))) (ty := .array .boolean) (C := R_Qd) (T := F_Qd) (N := 12) hx hb hts (fun w h => List.mem_cons_of_mem _ (i_Qd w h)) t_Qd o_Qd n_Qd hown hw f_T rfl 1 (by decide) (hts _ (List.mem_cons_of_mem _ xw_108)) (fun _ h9 => h9) rfl hnm rfl (by decide +kernel) rfl rfl (Nat.le_of_ble_eq_true rfl) d_Qd_init_17 (fun H locs hz1 hw => ?_)
  rw [hz] at hz1
  have hz : H.size = s.heap.size + 2 := hz1
  obtain ⟨ce4, hce4⟩ : ∃ z, z = va_up ce3 iT (some (.inr (0, [.ref (ad (b + s.heap.size)), .ref (ad (b + (s.heap.size + 1))), .int 0, .null, .null, .null, .null, .null, .null, .int 0, .int 0, .int 0]))) := ⟨_, rfl⟩
  have hw := xm_W.cast hce4.symm hw
  have f_T : ce4 iT = some (.inr (0, [.ref (ad (b + s.heap.size)), .ref (ad (b + (s.heap.size + 1))), .int 0, .null, .null, .null, .null, .null, .null, .int 0, .int 0, .int 0])) := by rw [hce4]; exact va_up_self _ _ _
  have f_PL : ce4 (b + s.heap.size) = some (.inl (cI, 10, .inl (fun _ => 0))) := by rw [hce4, va_up_ne _ _ ne_PL_T]; exact f_PL
  have f_BR : ce4 (b + (s.heap.size + 1)) = some (.inl (cZ, 10, .inl (fun _ => 0))) := by rw [hce4, va_up_ne _ _ ne_BR_T]; exact f_BR
  refine lv_aload_n hx hb d_Qd_init_20 rfl (lv_at hl 0 rfl) ?_
  refine lv_iconst (v := 0) hx hb d_Qd_init_21 (by decide) ?_
  refine xa_put (D := D) (v := .int 0) (ty := .int) (C := R_Qd) (T := F_Qd) (N := 12) hx hb hts (fun w h => List.mem_cons_of_mem _ (i_Qd w h)) t_Qd o_Qd n_Qd hown hw f_T rfl 2 (by decide) (hts _ (List.mem_cons_of_mem _ xw_109)) (fun _ h9 => h9) rfl (by decide +kernel) rfl rfl (Nat.le_of_ble_eq_true rfl) d_Qd_init_22 (fun H locs hz1 hw => ?_)
  rw [hz] at hz1
  have hz : H.size = s.heap.size + 2 := hz1
  obtain ⟨ce5, hce5⟩ : ∃ z, z = va_up ce4 iT (some (.inr (0, [.ref (ad (b + s.heap.size)), .ref (ad (b + (s.heap.size + 1))), .int 0, .null, .null, .null, .null, .null, .null, .int 0, .int 0, .int 0]))) := ⟨_, rfl⟩
  have hw := xm_W.cast hce5.symm hw
  have f_T : ce5 iT = some (.inr (0, [.ref (ad (b + s.heap.size)), .ref (ad (b + (s.heap.size + 1))), .int 0, .null, .null, .null, .null, .null, .null, .int 0, .int 0, .int 0])) := by rw [hce5]; exact va_up_self _ _ _
  have f_PL : ce5 (b + s.heap.size) = some (.inl (cI, 10, .inl (fun _ => 0))) := by rw [hce5, va_up_ne _ _ ne_PL_T]; exact f_PL
  have f_BR : ce5 (b + (s.heap.size + 1)) = some (.inl (cZ, 10, .inl (fun _ => 0))) := by rw [hce5, va_up_ne _ _ ne_BR_T]; exact f_BR
  refine lv_aload_n hx hb d_Qd_init_25 rfl (lv_at hl 0 rfl) ?_
  have fr_L : ce5 (b + (s.heap.size + 2)) = none := xa_free hw hba (Nat.le_of_eq hz)
  have ne_T_L : iT ≠ (b + (s.heap.size + 2)) := xa_ne f_T fr_L
  have ne_L_T : (b + (s.heap.size + 2)) ≠ iT := Ne.symm ne_T_L
  have ne_PL_L : (b + s.heap.size) ≠ (b + (s.heap.size + 2)) := xa_ne f_PL fr_L
  have ne_L_PL : (b + (s.heap.size + 2)) ≠ (b + s.heap.size) := Ne.symm ne_PL_L
  have ne_BR_L : (b + (s.heap.size + 1)) ≠ (b + (s.heap.size + 2)) := xa_ne f_BR fr_L
  have ne_L_BR : (b + (s.heap.size + 2)) ≠ (b + (s.heap.size + 1)) := Ne.symm ne_BR_L
  refine xa_new (D := D) (b := b) (ci := 5) (fs := [.null, .int 0, .int 0]) (C := R_Al) (T := F_Al) (N := 3) hx hb hts (fun w h => List.mem_cons_of_mem _ (i_Al w h)) t_Al o_Al hown (hts _ (List.mem_cons_of_mem _ xw_29)) (hts _ (List.mem_cons_of_mem _ xw_30)) (hts _ (List.mem_cons_of_mem _ xw_4)) hw hba rfl (by decide) (by decide) (by decide) d_Qd_init_26 (fun H hz1 hw => ?_)
  rw [hz] at hz1 hw
  rw [hz]
  have hz : H.size = s.heap.size + 3 := hz1
  obtain ⟨ce6, hce6⟩ : ∃ z, z = va_up ce5 (b + (s.heap.size + 2)) (some (.inr (5, [.null, .int 0, .int 0]))) := ⟨_, rfl⟩
  have hw := xm_W.cast hce6.symm hw
  have f_T : ce6 iT = some (.inr (0, [.ref (ad (b + s.heap.size)), .ref (ad (b + (s.heap.size + 1))), .int 0, .null, .null, .null, .null, .null, .null, .int 0, .int 0, .int 0])) := by rw [hce6, va_up_ne _ _ ne_T_L]; exact f_T
  have f_PL : ce6 (b + s.heap.size) = some (.inl (cI, 10, .inl (fun _ => 0))) := by rw [hce6, va_up_ne _ _ ne_PL_L]; exact f_PL
  have f_BR : ce6 (b + (s.heap.size + 1)) = some (.inl (cZ, 10, .inl (fun _ => 0))) := by rw [hce6, va_up_ne _ _ ne_BR_L]; exact f_BR
  have f_L : ce6 (b + (s.heap.size + 2)) = some (.inr (5, [.null, .int 0, .int 0])) := by rw [hce6]; exact va_up_self _ _ _
  refine lv_dup hx hb d_Qd_init_29 rfl ?_
  refine xm_callv (ua := fun _ => ad) (va_runI (As := []) (rest := [.ref (ad (b + (s.heap.size + 2))), .ref (ad iT)]) ⟨hx, hb, hml, hown, hts⟩ (c_Al_init (D := D) (ad := ad) ce6 hba f_L _) (xg_cwI 0 hts xw_33 xw_31 xw_32 xw_4 rfl rfl rfl (by decide +kernel) ⟨Nat.le_of_ble_eq_true rfl, Nat.le_of_ble_eq_true rfl⟩) (xq_pre hw hT _) rfl rfl hl.1 rfl (lv_room (Nat.le_of_ble_eq_true rfl)) d_Qd_init_30 ⟨Nat.le_of_ble_eq_true rfl, Nat.le_of_ble_eq_true rfl⟩) hw (fun ce7 H1 locs h hw => ?_)
  try simp only [Nat.add_assoc, Nat.reduceAdd] at h
  obtain ⟨f_L, gfr_ce7⟩ := h
  try dsimp only at hw
  have f_T : ce7 iT = some (.inr (0, [.ref (ad (b + s.heap.size)), .ref (ad (b + (s.heap.size + 1))), .int 0, .null, .null, .null, .null, .null, .null, .int 0, .int 0, .int 0])) := (gfr_ce7 _ ne_T_L).trans f_T
  have f_PL : ce7 (b + s.heap.size) = some (.inl (cI, 10, .inl (fun _ => 0))) := (gfr_ce7 _ ne_PL_L).trans f_PL
  have f_BR : ce7 (b + (s.heap.size + 1)) = some (.inl (cZ, 10, .inl (fun _ => 0))) := (gfr_ce7 _ ne_BR_L).trans f_BR
  obtain ⟨z8, hz⟩ : ∃ z, H1.size = z := ⟨_, rfl⟩
  obtain ⟨H, eH⟩ : ∃ z, z = H1 := ⟨_, rfl⟩
  subst eH
  refine xa_putF (D := D) (v := .ref (ad (b + (s.heap.size + 2)))) (ty := .object "java/util/ArrayList") (C := R_Qd) (T := F_Qd) (N := 12) hx hb hts (fun w h => List.mem_cons_of_mem _ (i_Qd w h)) t_Qd o_Qd n_Qd hown hw f_T rfl 3 (by decide) (hts _ (List.mem_cons_of_mem _ xw_110)) (fun _ h9 => h9) rfl hnm rfl (by decide +kernel) rfl rfl (Nat.le_of_ble_eq_true rfl) d_Qd_init_33 (fun H locs hz1 hw => ?_)
  rw [hz] at hz1
  have hz : H.size = z8 := hz1
  obtain ⟨ce9, hce9⟩ : ∃ z, z = va_up ce7 iT (some (.inr (0, [.ref (ad (b + s.heap.size)), .ref (ad (b + (s.heap.size + 1))), .int 0, .ref (ad (b + (s.heap.size + 2))), .null, .null, .null, .null, .null, .int 0, .int 0, .int 0]))) := ⟨_, rfl⟩
  have hw := xm_W.cast hce9.symm hw
  have f_T : ce9 iT = some (.inr (0, [.ref (ad (b + s.heap.size)), .ref (ad (b + (s.heap.size + 1))), .int 0, .ref (ad (b + (s.heap.size + 2))), .null, .null, .null, .null, .null, .int 0, .int 0, .int 0])) := by rw [hce9]; exact va_up_self _ _ _
  have f_PL : ce9 (b + s.heap.size) = some (.inl (cI, 10, .inl (fun _ => 0))) := by rw [hce9, va_up_ne _ _ ne_PL_T]; exact f_PL
  have f_BR : ce9 (b + (s.heap.size + 1)) = some (.inl (cZ, 10, .inl (fun _ => 0))) := by rw [hce9, va_up_ne _ _ ne_BR_T]; exact f_BR
  have f_L : ce9 (b + (s.heap.size + 2)) = some (.inr (5, [.ref t0, .int 0, .int 0])) := by rw [hce9, va_up_ne _ _ ne_L_T]; exact f_L
  refine lv_aload_n hx hb d_Qd_init_36 rfl (lv_at hl 0 rfl) ?_
  refine lv_null hx hb d_Qd_init_37 ?_
  refine xa_put (D := D) (v := .null) (ty := .object "QuestionDesk$Rule") (C := R_Qd) (T := F_Qd) (N := 12) hx hb hts (fun w h => List.mem_cons_of_mem _ (i_Qd w h)) t_Qd o_Qd n_Qd hown hw f_T rfl 4 (by decide) (hts _ (List.mem_cons_of_mem _ xw_111)) (fun _ h9 => h9) rfl (by decide +kernel) rfl rfl (Nat.le_of_ble_eq_true rfl) d_Qd_init_38 (fun H locs hz1 hw => ?_)
  rw [hz] at hz1
  have hz : H.size = z8 := hz1
  obtain ⟨ce10, hce10⟩ : ∃ z, z = va_up ce9 iT (some (.inr (0, [.ref (ad (b + s.heap.size)), .ref (ad (b + (s.heap.size + 1))), .int 0, .ref (ad (b + (s.heap.size + 2))), .null, .null, .null, .null, .null, .int 0, .int 0, .int 0]))) := ⟨_, rfl⟩
  have hw := xm_W.cast hce10.symm hw
  have f_T : ce10 iT = some (.inr (0, [.ref (ad (b + s.heap.size)), .ref (ad (b + (s.heap.size + 1))), .int 0, .ref (ad (b + (s.heap.size + 2))), .null, .null, .null, .null, .null, .int 0, .int 0, .int 0])) := by rw [hce10]; exact va_up_self _ _ _
  have f_PL : ce10 (b + s.heap.size) = some (.inl (cI, 10, .inl (fun _ => 0))) := by rw [hce10, va_up_ne _ _ ne_PL_T]; exact f_PL
  have f_BR : ce10 (b + (s.heap.size + 1)) = some (.inl (cZ, 10, .inl (fun _ => 0))) := by rw [hce10, va_up_ne _ _ ne_BR_T]; exact f_BR
  have f_L : ce10 (b + (s.heap.size + 2)) = some (.inr (5, [.ref t0, .int 0, .int 0])) := by rw [hce10, va_up_ne _ _ ne_L_T]; exact f_L
  refine lv_aload_n hx hb d_Qd_init_41 rfl (lv_at hl 0 rfl) ?_
  have fr_PP : ce10 (b + z8) = none := xa_free hw hba (Nat.le_of_eq hz)
  have ne_T_PP : iT ≠ (b + z8) := xa_ne f_T fr_PP
  have ne_PP_T : (b + z8) ≠ iT := Ne.symm ne_T_PP
  have ne_PL_PP : (b + s.heap.size) ≠ (b + z8) := xa_ne f_PL fr_PP
  have ne_PP_PL : (b + z8) ≠ (b + s.heap.size) := Ne.symm ne_PL_PP
  have ne_BR_PP : (b + (s.heap.size + 1)) ≠ (b + z8) := xa_ne f_BR fr_PP
  have ne_PP_BR : (b + z8) ≠ (b + (s.heap.size + 1)) := Ne.symm ne_BR_PP
  have ne_L_PP : (b + (s.heap.size + 2)) ≠ (b + z8) := xa_ne f_L fr_PP
  have ne_PP_L : (b + z8) ≠ (b + (s.heap.size + 2)) := Ne.symm ne_L_PP
  refine xa_new (D := D) (b := b) (ci := 1) (fs := [.null]) (C := R_Pr) (T := F_Pr) (N := 1) hx hb hts (fun w h => List.mem_cons_of_mem _ (i_Pr w h)) t_Pr o_Pr hown (hts _ (List.mem_cons_of_mem _ xw_57)) (hts _ (List.mem_cons_of_mem _ xw_58)) (hts _ (List.mem_cons_of_mem _ xw_5)) hw hba rfl (by decide) (by decide) (by decide) d_Qd_init_42 (fun H hz1 hw => ?_)
  rw [hz] at hz1 hw
  rw [hz]
  have hz : H.size = z8 + 1 := hz1
  obtain ⟨ce11, hce11⟩ : ∃ z, z = va_up ce10 (b + z8) (some (.inr (1, [.null]))) := ⟨_, rfl⟩
  have hw := xm_W.cast hce11.symm hw
  have f_T : ce11 iT = some (.inr (0, [.ref (ad (b + s.heap.size)), .ref (ad (b + (s.heap.size + 1))), .int 0, .ref (ad (b + (s.heap.size + 2))), .null, .null, .null, .null, .null, .int 0, .int 0, .int 0])) := by rw [hce11, va_up_ne _ _ ne_T_PP]; exact f_T
  have f_PL : ce11 (b + s.heap.size) = some (.inl (cI, 10, .inl (fun _ => 0))) := by rw [hce11, va_up_ne _ _ ne_PL_PP]; exact f_PL
  have f_BR : ce11 (b + (s.heap.size + 1)) = some (.inl (cZ, 10, .inl (fun _ => 0))) := by rw [hce11, va_up_ne _ _ ne_BR_PP]; exact f_BR
  have f_L : ce11 (b + (s.heap.size + 2)) = some (.inr (5, [.ref t0, .int 0, .int 0])) := by rw [hce11, va_up_ne _ _ ne_L_PP]; exact f_L
  have f_PP : ce11 (b + z8) = some (.inr (1, [.null])) := by rw [hce11]; exact va_up_self _ _ _
  refine lv_dup hx hb d_Qd_init_45 rfl ?_
  have fr_R : ce11 (b + (z8 + 1)) = none := xa_free hw hba (by rw [hz]; omega)
  have ne_T_R : iT ≠ (b + (z8 + 1)) := xa_ne f_T fr_R
  have ne_R_T : (b + (z8 + 1)) ≠ iT := Ne.symm ne_T_R
  have ne_PL_R : (b + s.heap.size) ≠ (b + (z8 + 1)) := xa_ne f_PL fr_R
  have ne_R_PL : (b + (z8 + 1)) ≠ (b + s.heap.size) := Ne.symm ne_PL_R
  have ne_BR_R : (b + (s.heap.size + 1)) ≠ (b + (z8 + 1)) := xa_ne f_BR fr_R
  have ne_R_BR : (b + (z8 + 1)) ≠ (b + (s.heap.size + 1)) := Ne.symm ne_BR_R
  have ne_L_R : (b + (s.heap.size + 2)) ≠ (b + (z8 + 1)) := xa_ne f_L fr_R
  have ne_R_L : (b + (z8 + 1)) ≠ (b + (s.heap.size + 2)) := Ne.symm ne_L_R
  have ne_PP_R : (b + z8) ≠ (b + (z8 + 1)) := xa_ne f_PP fr_R
  have ne_R_PP : (b + (z8 + 1)) ≠ (b + z8) := Ne.symm ne_PP_R
  refine xm_callv (ua := fun _ => ad) (va_runIN (As := []) (rest := [.ref (ad (b + z8)), .ref (ad iT)]) ⟨hx, hb, hml, hown, hts⟩ (c_Pr_init (D := D) (ad := ad) ce11 hba f_PP _) (xg_cnI 0 hts xw_61 hw.2.2.2.2.2.2.2.1 xw_60 xw_5 rfl rfl rfl (by decide +kernel) ⟨Nat.le_of_ble_eq_true rfl, Nat.le_of_ble_eq_true rfl⟩) (xm_pre hw _) rfl rfl hl.1 rfl (lv_room (Nat.le_of_ble_eq_true rfl)) d_Qd_init_46 ⟨Nat.le_of_ble_eq_true rfl, Nat.le_of_ble_eq_true rfl⟩) hw (fun ce12 H1 locs h hw => ?_)
  rw [hz] at h
  try simp only [Nat.add_assoc, Nat.reduceAdd] at h
  obtain ⟨f_PP, f_R, gfr_ce12⟩ := h
  try dsimp only at hw
  have f_T : ce12 iT = some (.inr (0, [.ref (ad (b + s.heap.size)), .ref (ad (b + (s.heap.size + 1))), .int 0, .ref (ad (b + (s.heap.size + 2))), .null, .null, .null, .null, .null, .int 0, .int 0, .int 0])) := (gfr_ce12 _ ne_T_PP ne_T_R).trans f_T
  have f_PL : ce12 (b + s.heap.size) = some (.inl (cI, 10, .inl (fun _ => 0))) := (gfr_ce12 _ ne_PL_PP ne_PL_R).trans f_PL
  have f_BR : ce12 (b + (s.heap.size + 1)) = some (.inl (cZ, 10, .inl (fun _ => 0))) := (gfr_ce12 _ ne_BR_PP ne_BR_R).trans f_BR
  have f_L : ce12 (b + (s.heap.size + 2)) = some (.inr (5, [.ref t0, .int 0, .int 0])) := (gfr_ce12 _ ne_L_PP ne_L_R).trans f_L
  obtain ⟨z13, hz⟩ : ∃ z, H1.size = z := ⟨_, rfl⟩
  obtain ⟨H, eH⟩ : ∃ z, z = H1 := ⟨_, rfl⟩
  subst eH
  refine xa_putF (D := D) (v := .ref (ad (b + z8))) (ty := .object "QuestionDesk$Pairs") (C := R_Qd) (T := F_Qd) (N := 12) hx hb hts (fun w h => List.mem_cons_of_mem _ (i_Qd w h)) t_Qd o_Qd n_Qd hown hw f_T rfl 5 (by decide) (hts _ (List.mem_cons_of_mem _ xw_112)) (fun _ h9 => h9) rfl hnm rfl (by decide +kernel) rfl rfl (Nat.le_of_ble_eq_true rfl) d_Qd_init_49 (fun H locs hz1 hw => ?_)
  rw [hz] at hz1
  have hz : H.size = z13 := hz1
  obtain ⟨ce14, hce14⟩ : ∃ z, z = va_up ce12 iT (some (.inr (0, [.ref (ad (b + s.heap.size)), .ref (ad (b + (s.heap.size + 1))), .int 0, .ref (ad (b + (s.heap.size + 2))), .null, .ref (ad (b + z8)), .null, .null, .null, .int 0, .int 0, .int 0]))) := ⟨_, rfl⟩
  have hw := xm_W.cast hce14.symm hw
  have f_T : ce14 iT = some (.inr (0, [.ref (ad (b + s.heap.size)), .ref (ad (b + (s.heap.size + 1))), .int 0, .ref (ad (b + (s.heap.size + 2))), .null, .ref (ad (b + z8)), .null, .null, .null, .int 0, .int 0, .int 0])) := by rw [hce14]; exact va_up_self _ _ _
  have f_PL : ce14 (b + s.heap.size) = some (.inl (cI, 10, .inl (fun _ => 0))) := by rw [hce14, va_up_ne _ _ ne_PL_T]; exact f_PL
  have f_BR : ce14 (b + (s.heap.size + 1)) = some (.inl (cZ, 10, .inl (fun _ => 0))) := by rw [hce14, va_up_ne _ _ ne_BR_T]; exact f_BR
  have f_L : ce14 (b + (s.heap.size + 2)) = some (.inr (5, [.ref t0, .int 0, .int 0])) := by rw [hce14, va_up_ne _ _ ne_L_T]; exact f_L
  have f_PP : ce14 (b + z8) = some (.inr (1, [.ref (ad (b + (z8 + 1)))])) := by rw [hce14, va_up_ne _ _ ne_PP_T]; exact f_PP
  have f_R : ce14 (b + (z8 + 1)) = some (.inl (cI, 341, .inl (fun _ => 0))) := by rw [hce14, va_up_ne _ _ ne_R_T]; exact f_R
  refine lv_aload_n hx hb d_Qd_init_52 rfl (lv_at hl 0 rfl) ?_
  have fr_MM : ce14 (b + z13) = none := xa_free hw hba (Nat.le_of_eq hz)
  have ne_T_MM : iT ≠ (b + z13) := xa_ne f_T fr_MM
  have ne_MM_T : (b + z13) ≠ iT := Ne.symm ne_T_MM
  have ne_PL_MM : (b + s.heap.size) ≠ (b + z13) := xa_ne f_PL fr_MM
  have ne_MM_PL : (b + z13) ≠ (b + s.heap.size) := Ne.symm ne_PL_MM
  have ne_BR_MM : (b + (s.heap.size + 1)) ≠ (b + z13) := xa_ne f_BR fr_MM
  have ne_MM_BR : (b + z13) ≠ (b + (s.heap.size + 1)) := Ne.symm ne_BR_MM
  have ne_L_MM : (b + (s.heap.size + 2)) ≠ (b + z13) := xa_ne f_L fr_MM
  have ne_MM_L : (b + z13) ≠ (b + (s.heap.size + 2)) := Ne.symm ne_L_MM
  have ne_PP_MM : (b + z8) ≠ (b + z13) := xa_ne f_PP fr_MM
  have ne_MM_PP : (b + z13) ≠ (b + z8) := Ne.symm ne_PP_MM
  have ne_R_MM : (b + (z8 + 1)) ≠ (b + z13) := xa_ne f_R fr_MM
  have ne_MM_R : (b + z13) ≠ (b + (z8 + 1)) := Ne.symm ne_R_MM
  refine xa_new (D := D) (b := b) (ci := 2) (fs := [.null, .null]) (C := R_Mt) (T := F_Mt) (N := 2) hx hb hts (fun w h => List.mem_cons_of_mem _ (i_Mt w h)) t_Mt o_Mt hown (hts _ (List.mem_cons_of_mem _ xw_67)) (hts _ (List.mem_cons_of_mem _ xw_68)) (hts _ (List.mem_cons_of_mem _ xw_6)) hw hba rfl (by decide) (by decide) (by decide) d_Qd_init_53 (fun H hz1 hw => ?_)
  rw [hz] at hz1 hw
  rw [hz]
  have hz : H.size = z13 + 1 := hz1
  obtain ⟨ce15, hce15⟩ : ∃ z, z = va_up ce14 (b + z13) (some (.inr (2, [.null, .null]))) := ⟨_, rfl⟩
  have hw := xm_W.cast hce15.symm hw
  have f_T : ce15 iT = some (.inr (0, [.ref (ad (b + s.heap.size)), .ref (ad (b + (s.heap.size + 1))), .int 0, .ref (ad (b + (s.heap.size + 2))), .null, .ref (ad (b + z8)), .null, .null, .null, .int 0, .int 0, .int 0])) := by rw [hce15, va_up_ne _ _ ne_T_MM]; exact f_T
  have f_PL : ce15 (b + s.heap.size) = some (.inl (cI, 10, .inl (fun _ => 0))) := by rw [hce15, va_up_ne _ _ ne_PL_MM]; exact f_PL
  have f_BR : ce15 (b + (s.heap.size + 1)) = some (.inl (cZ, 10, .inl (fun _ => 0))) := by rw [hce15, va_up_ne _ _ ne_BR_MM]; exact f_BR
  have f_L : ce15 (b + (s.heap.size + 2)) = some (.inr (5, [.ref t0, .int 0, .int 0])) := by rw [hce15, va_up_ne _ _ ne_L_MM]; exact f_L
  have f_PP : ce15 (b + z8) = some (.inr (1, [.ref (ad (b + (z8 + 1)))])) := by rw [hce15, va_up_ne _ _ ne_PP_MM]; exact f_PP
  have f_R : ce15 (b + (z8 + 1)) = some (.inl (cI, 341, .inl (fun _ => 0))) := by rw [hce15, va_up_ne _ _ ne_R_MM]; exact f_R
  have f_MM : ce15 (b + z13) = some (.inr (2, [.null, .null])) := by rw [hce15]; exact va_up_self _ _ _
  refine lv_dup hx hb d_Qd_init_56 rfl ?_
  refine lv_aload_n hx hb d_Qd_init_57 rfl (lv_at hl 0 rfl) ?_
  refine xm_get (D := D) (v := .ref (ad (b + z8))) (C := R_Qd) (T := F_Qd) (N := 12) hx hb hts (fun w h => List.mem_cons_of_mem _ (i_Qd w h)) hown hw f_T rfl 5 (by decide) (hts _ (List.mem_cons_of_mem _ xw_112)) (fun _ h9 => h9) rfl d_Qd_init_58 ?_
  have fr_V : ce15 (b + (z13 + 1)) = none := xa_free hw hba (by rw [hz]; omega)
  have ne_T_V : iT ≠ (b + (z13 + 1)) := xa_ne f_T fr_V
  have ne_V_T : (b + (z13 + 1)) ≠ iT := Ne.symm ne_T_V
  have ne_PL_V : (b + s.heap.size) ≠ (b + (z13 + 1)) := xa_ne f_PL fr_V
  have ne_V_PL : (b + (z13 + 1)) ≠ (b + s.heap.size) := Ne.symm ne_PL_V
  have ne_BR_V : (b + (s.heap.size + 1)) ≠ (b + (z13 + 1)) := xa_ne f_BR fr_V
  have ne_V_BR : (b + (z13 + 1)) ≠ (b + (s.heap.size + 1)) := Ne.symm ne_BR_V
  have ne_L_V : (b + (s.heap.size + 2)) ≠ (b + (z13 + 1)) := xa_ne f_L fr_V
  have ne_V_L : (b + (z13 + 1)) ≠ (b + (s.heap.size + 2)) := Ne.symm ne_L_V
  have ne_PP_V : (b + z8) ≠ (b + (z13 + 1)) := xa_ne f_PP fr_V
  have ne_V_PP : (b + (z13 + 1)) ≠ (b + z8) := Ne.symm ne_PP_V
  have ne_R_V : (b + (z8 + 1)) ≠ (b + (z13 + 1)) := xa_ne f_R fr_V
  have ne_V_R : (b + (z13 + 1)) ≠ (b + (z8 + 1)) := Ne.symm ne_R_V
  have ne_MM_V : (b + z13) ≠ (b + (z13 + 1)) := xa_ne f_MM fr_V
  have ne_V_MM : (b + (z13 + 1)) ≠ (b + z13) := Ne.symm ne_MM_V
  refine xm_callv (ua := fun _ => ad) (va_runI (As := [.ref (ad (b + z8))]) (rest := [.ref (ad (b + z13)), .ref (ad iT)]) ⟨hx, hb, hml, hown, hts⟩ (c_Mt_init (D := D) (ad := ad) ce15 (iP := b + z8) hba f_MM _) (xg_cwI 1 hts xw_71 xw_69 xw_70 xw_6 rfl rfl rfl (by decide +kernel) ⟨Nat.le_of_ble_eq_true rfl, Nat.le_of_ble_eq_true rfl⟩) (xm_pre hw _) rfl rfl hl.1 rfl (lv_room (Nat.le_of_ble_eq_true rfl)) d_Qd_init_61 ⟨Nat.le_of_ble_eq_true rfl, Nat.le_of_ble_eq_true rfl⟩) hw (fun ce16 H1 locs h hw => ?_)
  rw [hz] at h
  try simp only [Nat.add_assoc, Nat.reduceAdd] at h
  obtain ⟨f_MM, f_V, gfr_ce16⟩ := h
  try dsimp only at hw
  have f_T : ce16 iT = some (.inr (0, [.ref (ad (b + s.heap.size)), .ref (ad (b + (s.heap.size + 1))), .int 0, .ref (ad (b + (s.heap.size + 2))), .null, .ref (ad (b + z8)), .null, .null, .null, .int 0, .int 0, .int 0])) := (gfr_ce16 _ ne_T_MM ne_T_V).trans f_T
  have f_PL : ce16 (b + s.heap.size) = some (.inl (cI, 10, .inl (fun _ => 0))) := (gfr_ce16 _ ne_PL_MM ne_PL_V).trans f_PL
  have f_BR : ce16 (b + (s.heap.size + 1)) = some (.inl (cZ, 10, .inl (fun _ => 0))) := (gfr_ce16 _ ne_BR_MM ne_BR_V).trans f_BR
  have f_L : ce16 (b + (s.heap.size + 2)) = some (.inr (5, [.ref t0, .int 0, .int 0])) := (gfr_ce16 _ ne_L_MM ne_L_V).trans f_L
  have f_PP : ce16 (b + z8) = some (.inr (1, [.ref (ad (b + (z8 + 1)))])) := (gfr_ce16 _ ne_PP_MM ne_PP_V).trans f_PP
  have f_R : ce16 (b + (z8 + 1)) = some (.inl (cI, 341, .inl (fun _ => 0))) := (gfr_ce16 _ ne_R_MM ne_R_V).trans f_R
  obtain ⟨z17, hz⟩ : ∃ z, H1.size = z := ⟨_, rfl⟩
  obtain ⟨H, eH⟩ : ∃ z, z = H1 := ⟨_, rfl⟩
  subst eH
  refine xa_putF (D := D) (v := .ref (ad (b + z13))) (ty := .object "QuestionDesk$Matcher") (C := R_Qd) (T := F_Qd) (N := 12) hx hb hts (fun w h => List.mem_cons_of_mem _ (i_Qd w h)) t_Qd o_Qd n_Qd hown hw f_T rfl 6 (by decide) (hts _ (List.mem_cons_of_mem _ xw_113)) (fun _ h9 => h9) rfl hnm rfl (by decide +kernel) rfl rfl (Nat.le_of_ble_eq_true rfl) d_Qd_init_64 (fun H locs hz1 hw => ?_)
  rw [hz] at hz1
  have hz : H.size = z17 := hz1
  obtain ⟨ce18, hce18⟩ : ∃ z, z = va_up ce16 iT (some (.inr (0, [.ref (ad (b + s.heap.size)), .ref (ad (b + (s.heap.size + 1))), .int 0, .ref (ad (b + (s.heap.size + 2))), .null, .ref (ad (b + z8)), .ref (ad (b + z13)), .null, .null, .int 0, .int 0, .int 0]))) := ⟨_, rfl⟩
  have hw := xm_W.cast hce18.symm hw
  have f_T : ce18 iT = some (.inr (0, [.ref (ad (b + s.heap.size)), .ref (ad (b + (s.heap.size + 1))), .int 0, .ref (ad (b + (s.heap.size + 2))), .null, .ref (ad (b + z8)), .ref (ad (b + z13)), .null, .null, .int 0, .int 0, .int 0])) := by rw [hce18]; exact va_up_self _ _ _
  have f_PL : ce18 (b + s.heap.size) = some (.inl (cI, 10, .inl (fun _ => 0))) := by rw [hce18, va_up_ne _ _ ne_PL_T]; exact f_PL
  have f_BR : ce18 (b + (s.heap.size + 1)) = some (.inl (cZ, 10, .inl (fun _ => 0))) := by rw [hce18, va_up_ne _ _ ne_BR_T]; exact f_BR
  have f_L : ce18 (b + (s.heap.size + 2)) = some (.inr (5, [.ref t0, .int 0, .int 0])) := by rw [hce18, va_up_ne _ _ ne_L_T]; exact f_L
  have f_PP : ce18 (b + z8) = some (.inr (1, [.ref (ad (b + (z8 + 1)))])) := by rw [hce18, va_up_ne _ _ ne_PP_T]; exact f_PP
  have f_R : ce18 (b + (z8 + 1)) = some (.inl (cI, 341, .inl (fun _ => 0))) := by rw [hce18, va_up_ne _ _ ne_R_T]; exact f_R
  have f_MM : ce18 (b + z13) = some (.inr (2, [.ref (ad (b + z8)), .ref (ad (b + (z13 + 1)))])) := by rw [hce18, va_up_ne _ _ ne_MM_T]; exact f_MM
  have f_V : ce18 (b + (z13 + 1)) = some (.inl (cI, 20, .inl (vF vi0))) := by rw [hce18, va_up_ne _ _ ne_V_T]; exact f_V
  refine lv_aload_n hx hb d_Qd_init_67 rfl (lv_at hl 0 rfl) ?_
  have fr_UU : ce18 (b + z17) = none := xa_free hw hba (Nat.le_of_eq hz)
  have ne_T_UU : iT ≠ (b + z17) := xa_ne f_T fr_UU
  have ne_UU_T : (b + z17) ≠ iT := Ne.symm ne_T_UU
  have ne_PL_UU : (b + s.heap.size) ≠ (b + z17) := xa_ne f_PL fr_UU
  have ne_UU_PL : (b + z17) ≠ (b + s.heap.size) := Ne.symm ne_PL_UU
  have ne_BR_UU : (b + (s.heap.size + 1)) ≠ (b + z17) := xa_ne f_BR fr_UU
  have ne_UU_BR : (b + z17) ≠ (b + (s.heap.size + 1)) := Ne.symm ne_BR_UU
  have ne_L_UU : (b + (s.heap.size + 2)) ≠ (b + z17) := xa_ne f_L fr_UU
  have ne_UU_L : (b + z17) ≠ (b + (s.heap.size + 2)) := Ne.symm ne_L_UU
  have ne_PP_UU : (b + z8) ≠ (b + z17) := xa_ne f_PP fr_UU
  have ne_UU_PP : (b + z17) ≠ (b + z8) := Ne.symm ne_PP_UU
  have ne_R_UU : (b + (z8 + 1)) ≠ (b + z17) := xa_ne f_R fr_UU
  have ne_UU_R : (b + z17) ≠ (b + (z8 + 1)) := Ne.symm ne_R_UU
  have ne_MM_UU : (b + z13) ≠ (b + z17) := xa_ne f_MM fr_UU
  have ne_UU_MM : (b + z17) ≠ (b + z13) := Ne.symm ne_MM_UU
  have ne_V_UU : (b + (z13 + 1)) ≠ (b + z17) := xa_ne f_V fr_UU
  have ne_UU_V : (b + z17) ≠ (b + (z13 + 1)) := Ne.symm ne_V_UU
  refine xa_new (D := D) (b := b) (ci := 3) (fs := [.null, .null, .null, .int 0]) (C := R_Ru) (T := F_Ru) (N := 4) hx hb hts (fun w h => List.mem_cons_of_mem _ (i_Ru w h)) t_Ru o_Ru hown (hts _ (List.mem_cons_of_mem _ xw_80)) (hts _ (List.mem_cons_of_mem _ xw_81)) (hts _ (List.mem_cons_of_mem _ xw_7)) hw hba rfl (by decide) (by decide) (by decide) d_Qd_init_68 (fun H hz1 hw => ?_)
  rw [hz] at hz1 hw
  rw [hz]
  have hz : H.size = z17 + 1 := hz1
  obtain ⟨ce19, hce19⟩ : ∃ z, z = va_up ce18 (b + z17) (some (.inr (3, [.null, .null, .null, .int 0]))) := ⟨_, rfl⟩
  have hw := xm_W.cast hce19.symm hw
  have f_T : ce19 iT = some (.inr (0, [.ref (ad (b + s.heap.size)), .ref (ad (b + (s.heap.size + 1))), .int 0, .ref (ad (b + (s.heap.size + 2))), .null, .ref (ad (b + z8)), .ref (ad (b + z13)), .null, .null, .int 0, .int 0, .int 0])) := by rw [hce19, va_up_ne _ _ ne_T_UU]; exact f_T
  have f_PL : ce19 (b + s.heap.size) = some (.inl (cI, 10, .inl (fun _ => 0))) := by rw [hce19, va_up_ne _ _ ne_PL_UU]; exact f_PL
  have f_BR : ce19 (b + (s.heap.size + 1)) = some (.inl (cZ, 10, .inl (fun _ => 0))) := by rw [hce19, va_up_ne _ _ ne_BR_UU]; exact f_BR
  have f_L : ce19 (b + (s.heap.size + 2)) = some (.inr (5, [.ref t0, .int 0, .int 0])) := by rw [hce19, va_up_ne _ _ ne_L_UU]; exact f_L
  have f_PP : ce19 (b + z8) = some (.inr (1, [.ref (ad (b + (z8 + 1)))])) := by rw [hce19, va_up_ne _ _ ne_PP_UU]; exact f_PP
  have f_R : ce19 (b + (z8 + 1)) = some (.inl (cI, 341, .inl (fun _ => 0))) := by rw [hce19, va_up_ne _ _ ne_R_UU]; exact f_R
  have f_MM : ce19 (b + z13) = some (.inr (2, [.ref (ad (b + z8)), .ref (ad (b + (z13 + 1)))])) := by rw [hce19, va_up_ne _ _ ne_MM_UU]; exact f_MM
  have f_V : ce19 (b + (z13 + 1)) = some (.inl (cI, 20, .inl (vF vi0))) := by rw [hce19, va_up_ne _ _ ne_V_UU]; exact f_V
  have f_UU : ce19 (b + z17) = some (.inr (3, [.null, .null, .null, .int 0])) := by rw [hce19]; exact va_up_self _ _ _
  refine lv_dup hx hb d_Qd_init_71 rfl ?_
  have fr_A : ce19 (b + (z17 + 1)) = none := xa_free hw hba (by rw [hz]; omega)
  have ne_T_A : iT ≠ (b + (z17 + 1)) := xa_ne f_T fr_A
  have ne_A_T : (b + (z17 + 1)) ≠ iT := Ne.symm ne_T_A
  have ne_PL_A : (b + s.heap.size) ≠ (b + (z17 + 1)) := xa_ne f_PL fr_A
  have ne_A_PL : (b + (z17 + 1)) ≠ (b + s.heap.size) := Ne.symm ne_PL_A
  have ne_BR_A : (b + (s.heap.size + 1)) ≠ (b + (z17 + 1)) := xa_ne f_BR fr_A
  have ne_A_BR : (b + (z17 + 1)) ≠ (b + (s.heap.size + 1)) := Ne.symm ne_BR_A
  have ne_L_A : (b + (s.heap.size + 2)) ≠ (b + (z17 + 1)) := xa_ne f_L fr_A
  have ne_A_L : (b + (z17 + 1)) ≠ (b + (s.heap.size + 2)) := Ne.symm ne_L_A
  have ne_PP_A : (b + z8) ≠ (b + (z17 + 1)) := xa_ne f_PP fr_A
  have ne_A_PP : (b + (z17 + 1)) ≠ (b + z8) := Ne.symm ne_PP_A
  have ne_R_A : (b + (z8 + 1)) ≠ (b + (z17 + 1)) := xa_ne f_R fr_A
  have ne_A_R : (b + (z17 + 1)) ≠ (b + (z8 + 1)) := Ne.symm ne_R_A
  have ne_MM_A : (b + z13) ≠ (b + (z17 + 1)) := xa_ne f_MM fr_A
  have ne_A_MM : (b + (z17 + 1)) ≠ (b + z13) := Ne.symm ne_MM_A
  have ne_V_A : (b + (z13 + 1)) ≠ (b + (z17 + 1)) := xa_ne f_V fr_A
  have ne_A_V : (b + (z17 + 1)) ≠ (b + (z13 + 1)) := Ne.symm ne_V_A
  have ne_UU_A : (b + z17) ≠ (b + (z17 + 1)) := xa_ne f_UU fr_A
  have ne_A_UU : (b + (z17 + 1)) ≠ (b + z17) := Ne.symm ne_UU_A
  have fr_B : ce19 (b + (z17 + 2)) = none := xa_free hw hba (by rw [hz]; omega)
  have ne_T_B : iT ≠ (b + (z17 + 2)) := xa_ne f_T fr_B
  have ne_B_T : (b + (z17 + 2)) ≠ iT := Ne.symm ne_T_B
  have ne_PL_B : (b + s.heap.size) ≠ (b + (z17 + 2)) := xa_ne f_PL fr_B
  have ne_B_PL : (b + (z17 + 2)) ≠ (b + s.heap.size) := Ne.symm ne_PL_B
  have ne_BR_B : (b + (s.heap.size + 1)) ≠ (b + (z17 + 2)) := xa_ne f_BR fr_B
  have ne_B_BR : (b + (z17 + 2)) ≠ (b + (s.heap.size + 1)) := Ne.symm ne_BR_B
  have ne_L_B : (b + (s.heap.size + 2)) ≠ (b + (z17 + 2)) := xa_ne f_L fr_B
  have ne_B_L : (b + (z17 + 2)) ≠ (b + (s.heap.size + 2)) := Ne.symm ne_L_B
  have ne_PP_B : (b + z8) ≠ (b + (z17 + 2)) := xa_ne f_PP fr_B
  have ne_B_PP : (b + (z17 + 2)) ≠ (b + z8) := Ne.symm ne_PP_B
  have ne_R_B : (b + (z8 + 1)) ≠ (b + (z17 + 2)) := xa_ne f_R fr_B
  have ne_B_R : (b + (z17 + 2)) ≠ (b + (z8 + 1)) := Ne.symm ne_R_B
  have ne_MM_B : (b + z13) ≠ (b + (z17 + 2)) := xa_ne f_MM fr_B
  have ne_B_MM : (b + (z17 + 2)) ≠ (b + z13) := Ne.symm ne_MM_B
  have ne_V_B : (b + (z13 + 1)) ≠ (b + (z17 + 2)) := xa_ne f_V fr_B
  have ne_B_V : (b + (z17 + 2)) ≠ (b + (z13 + 1)) := Ne.symm ne_V_B
  have ne_UU_B : (b + z17) ≠ (b + (z17 + 2)) := xa_ne f_UU fr_B
  have ne_B_UU : (b + (z17 + 2)) ≠ (b + z17) := Ne.symm ne_UU_B
  have fr_C : ce19 (b + (z17 + 3)) = none := xa_free hw hba (by rw [hz]; omega)
  have ne_T_C : iT ≠ (b + (z17 + 3)) := xa_ne f_T fr_C
  have ne_C_T : (b + (z17 + 3)) ≠ iT := Ne.symm ne_T_C
  have ne_PL_C : (b + s.heap.size) ≠ (b + (z17 + 3)) := xa_ne f_PL fr_C
  have ne_C_PL : (b + (z17 + 3)) ≠ (b + s.heap.size) := Ne.symm ne_PL_C
  have ne_BR_C : (b + (s.heap.size + 1)) ≠ (b + (z17 + 3)) := xa_ne f_BR fr_C
  have ne_C_BR : (b + (z17 + 3)) ≠ (b + (s.heap.size + 1)) := Ne.symm ne_BR_C
  have ne_L_C : (b + (s.heap.size + 2)) ≠ (b + (z17 + 3)) := xa_ne f_L fr_C
  have ne_C_L : (b + (z17 + 3)) ≠ (b + (s.heap.size + 2)) := Ne.symm ne_L_C
  have ne_PP_C : (b + z8) ≠ (b + (z17 + 3)) := xa_ne f_PP fr_C
  have ne_C_PP : (b + (z17 + 3)) ≠ (b + z8) := Ne.symm ne_PP_C
  have ne_R_C : (b + (z8 + 1)) ≠ (b + (z17 + 3)) := xa_ne f_R fr_C
  have ne_C_R : (b + (z17 + 3)) ≠ (b + (z8 + 1)) := Ne.symm ne_R_C
  have ne_MM_C : (b + z13) ≠ (b + (z17 + 3)) := xa_ne f_MM fr_C
  have ne_C_MM : (b + (z17 + 3)) ≠ (b + z13) := Ne.symm ne_MM_C
  have ne_V_C : (b + (z13 + 1)) ≠ (b + (z17 + 3)) := xa_ne f_V fr_C
  have ne_C_V : (b + (z17 + 3)) ≠ (b + (z13 + 1)) := Ne.symm ne_V_C
  have ne_UU_C : (b + z17) ≠ (b + (z17 + 3)) := xa_ne f_UU fr_C
  have ne_C_UU : (b + (z17 + 3)) ≠ (b + z17) := Ne.symm ne_UU_C
  have ne_A_B : (b + (z17 + 1)) ≠ (b + (z17 + 2)) := by omega
  have ne_B_A : (b + (z17 + 2)) ≠ (b + (z17 + 1)) := Ne.symm ne_A_B
  have ne_A_C : (b + (z17 + 1)) ≠ (b + (z17 + 3)) := by omega
  have ne_C_A : (b + (z17 + 3)) ≠ (b + (z17 + 1)) := Ne.symm ne_A_C
  have ne_B_C : (b + (z17 + 2)) ≠ (b + (z17 + 3)) := by omega
  have ne_C_B : (b + (z17 + 3)) ≠ (b + (z17 + 2)) := Ne.symm ne_B_C
  refine xm_callv (ua := fun _ => ad) (va_runIN (As := []) (rest := [.ref (ad (b + z17)), .ref (ad iT)]) ⟨hx, hb, hml, hown, hts⟩ (c_Ru_init (D := D) (ad := ad) ce19 hba f_UU _) (xg_cnI 0 hts xw_84 hw.2.2.2.2.2.2.2.2 xw_83 xw_7 rfl rfl rfl (by decide +kernel) ⟨Nat.le_of_ble_eq_true rfl, Nat.le_of_ble_eq_true rfl⟩) (xm_pre hw _) rfl rfl hl.1 rfl (lv_room (Nat.le_of_ble_eq_true rfl)) d_Qd_init_72 ⟨Nat.le_of_ble_eq_true rfl, Nat.le_of_ble_eq_true rfl⟩) hw (fun ce20 H1 locs h hw => ?_)
  rw [hz] at h
  try simp only [Nat.add_assoc, Nat.reduceAdd] at h
  obtain ⟨f_UU, f_A, f_B, f_C, gfr_ce20⟩ := h
  try dsimp only at hw
  have f_T : ce20 iT = some (.inr (0, [.ref (ad (b + s.heap.size)), .ref (ad (b + (s.heap.size + 1))), .int 0, .ref (ad (b + (s.heap.size + 2))), .null, .ref (ad (b + z8)), .ref (ad (b + z13)), .null, .null, .int 0, .int 0, .int 0])) := (gfr_ce20 _ ne_T_UU ne_T_A ne_T_B ne_T_C).trans f_T
  have f_PL : ce20 (b + s.heap.size) = some (.inl (cI, 10, .inl (fun _ => 0))) := (gfr_ce20 _ ne_PL_UU ne_PL_A ne_PL_B ne_PL_C).trans f_PL
  have f_BR : ce20 (b + (s.heap.size + 1)) = some (.inl (cZ, 10, .inl (fun _ => 0))) := (gfr_ce20 _ ne_BR_UU ne_BR_A ne_BR_B ne_BR_C).trans f_BR
  have f_L : ce20 (b + (s.heap.size + 2)) = some (.inr (5, [.ref t0, .int 0, .int 0])) := (gfr_ce20 _ ne_L_UU ne_L_A ne_L_B ne_L_C).trans f_L
  have f_PP : ce20 (b + z8) = some (.inr (1, [.ref (ad (b + (z8 + 1)))])) := (gfr_ce20 _ ne_PP_UU ne_PP_A ne_PP_B ne_PP_C).trans f_PP
  have f_R : ce20 (b + (z8 + 1)) = some (.inl (cI, 341, .inl (fun _ => 0))) := (gfr_ce20 _ ne_R_UU ne_R_A ne_R_B ne_R_C).trans f_R
  have f_MM : ce20 (b + z13) = some (.inr (2, [.ref (ad (b + z8)), .ref (ad (b + (z13 + 1)))])) := (gfr_ce20 _ ne_MM_UU ne_MM_A ne_MM_B ne_MM_C).trans f_MM
  have f_V : ce20 (b + (z13 + 1)) = some (.inl (cI, 20, .inl (vF vi0))) := (gfr_ce20 _ ne_V_UU ne_V_A ne_V_B ne_V_C).trans f_V
  obtain ⟨z21, hz⟩ : ∃ z, H1.size = z := ⟨_, rfl⟩
  obtain ⟨H, eH⟩ : ∃ z, z = H1 := ⟨_, rfl⟩
  subst eH
  refine xa_putF (D := D) (v := .ref (ad (b + z17))) (ty := .object "QuestionDesk$Rule") (C := R_Qd) (T := F_Qd) (N := 12) hx hb hts (fun w h => List.mem_cons_of_mem _ (i_Qd w h)) t_Qd o_Qd n_Qd hown hw f_T rfl 7 (by decide) (hts _ (List.mem_cons_of_mem _ xw_114)) (fun _ h9 => h9) rfl hnm rfl (by decide +kernel) rfl rfl (Nat.le_of_ble_eq_true rfl) d_Qd_init_75 (fun H locs hz1 hw => ?_)
  rw [hz] at hz1
  have hz : H.size = z21 := hz1
  obtain ⟨ce22, hce22⟩ : ∃ z, z = va_up ce20 iT (some (.inr (0, [.ref (ad (b + s.heap.size)), .ref (ad (b + (s.heap.size + 1))), .int 0, .ref (ad (b + (s.heap.size + 2))), .null, .ref (ad (b + z8)), .ref (ad (b + z13)), .ref (ad (b + z17)), .null, .int 0, .int 0, .int 0]))) := ⟨_, rfl⟩
  have hw := xm_W.cast hce22.symm hw
  have f_T : ce22 iT = some (.inr (0, [.ref (ad (b + s.heap.size)), .ref (ad (b + (s.heap.size + 1))), .int 0, .ref (ad (b + (s.heap.size + 2))), .null, .ref (ad (b + z8)), .ref (ad (b + z13)), .ref (ad (b + z17)), .null, .int 0, .int 0, .int 0])) := by rw [hce22]; exact va_up_self _ _ _
  have f_PL : ce22 (b + s.heap.size) = some (.inl (cI, 10, .inl (fun _ => 0))) := by rw [hce22, va_up_ne _ _ ne_PL_T]; exact f_PL
  have f_BR : ce22 (b + (s.heap.size + 1)) = some (.inl (cZ, 10, .inl (fun _ => 0))) := by rw [hce22, va_up_ne _ _ ne_BR_T]; exact f_BR
  have f_L : ce22 (b + (s.heap.size + 2)) = some (.inr (5, [.ref t0, .int 0, .int 0])) := by rw [hce22, va_up_ne _ _ ne_L_T]; exact f_L
  have f_PP : ce22 (b + z8) = some (.inr (1, [.ref (ad (b + (z8 + 1)))])) := by rw [hce22, va_up_ne _ _ ne_PP_T]; exact f_PP
  have f_R : ce22 (b + (z8 + 1)) = some (.inl (cI, 341, .inl (fun _ => 0))) := by rw [hce22, va_up_ne _ _ ne_R_T]; exact f_R
  have f_MM : ce22 (b + z13) = some (.inr (2, [.ref (ad (b + z8)), .ref (ad (b + (z13 + 1)))])) := by rw [hce22, va_up_ne _ _ ne_MM_T]; exact f_MM
  have f_V : ce22 (b + (z13 + 1)) = some (.inl (cI, 20, .inl (vF vi0))) := by rw [hce22, va_up_ne _ _ ne_V_T]; exact f_V
  have f_UU : ce22 (b + z17) = some (.inr (3, [.ref (ad (b + (z17 + 1))), .ref (ad (b + (z17 + 2))), .ref (ad (b + (z17 + 3))), .int 0])) := by rw [hce22, va_up_ne _ _ ne_UU_T]; exact f_UU
  have f_A : ce22 (b + (z17 + 1)) = some (.inl (cI, 4, .inl (fun _ => 0))) := by rw [hce22, va_up_ne _ _ ne_A_T]; exact f_A
  have f_B : ce22 (b + (z17 + 2)) = some (.inl (cI, 4, .inl (fun _ => 0))) := by rw [hce22, va_up_ne _ _ ne_B_T]; exact f_B
  have f_C : ce22 (b + (z17 + 3)) = some (.inl (cI, 4, .inl (fun _ => 0))) := by rw [hce22, va_up_ne _ _ ne_C_T]; exact f_C
  refine lv_aload_n hx hb d_Qd_init_78 rfl (lv_at hl 0 rfl) ?_
  refine lv_bipush (v := 10) hx hb d_Qd_init_79 (by decide) ?_
  have fr_PT : ce22 (b + z21) = none := xa_free hw hba (Nat.le_of_eq hz)
  have ne_T_PT : iT ≠ (b + z21) := xa_ne f_T fr_PT
  have ne_PT_T : (b + z21) ≠ iT := Ne.symm ne_T_PT
  have ne_PL_PT : (b + s.heap.size) ≠ (b + z21) := xa_ne f_PL fr_PT
  have ne_PT_PL : (b + z21) ≠ (b + s.heap.size) := Ne.symm ne_PL_PT
  have ne_BR_PT : (b + (s.heap.size + 1)) ≠ (b + z21) := xa_ne f_BR fr_PT
  have ne_PT_BR : (b + z21) ≠ (b + (s.heap.size + 1)) := Ne.symm ne_BR_PT
  have ne_L_PT : (b + (s.heap.size + 2)) ≠ (b + z21) := xa_ne f_L fr_PT
  have ne_PT_L : (b + z21) ≠ (b + (s.heap.size + 2)) := Ne.symm ne_L_PT
  have ne_PP_PT : (b + z8) ≠ (b + z21) := xa_ne f_PP fr_PT
  have ne_PT_PP : (b + z21) ≠ (b + z8) := Ne.symm ne_PP_PT
  have ne_R_PT : (b + (z8 + 1)) ≠ (b + z21) := xa_ne f_R fr_PT
  have ne_PT_R : (b + z21) ≠ (b + (z8 + 1)) := Ne.symm ne_R_PT
  have ne_MM_PT : (b + z13) ≠ (b + z21) := xa_ne f_MM fr_PT
  have ne_PT_MM : (b + z21) ≠ (b + z13) := Ne.symm ne_MM_PT
  have ne_V_PT : (b + (z13 + 1)) ≠ (b + z21) := xa_ne f_V fr_PT
  have ne_PT_V : (b + z21) ≠ (b + (z13 + 1)) := Ne.symm ne_V_PT
  have ne_UU_PT : (b + z17) ≠ (b + z21) := xa_ne f_UU fr_PT
  have ne_PT_UU : (b + z21) ≠ (b + z17) := Ne.symm ne_UU_PT
  have ne_A_PT : (b + (z17 + 1)) ≠ (b + z21) := xa_ne f_A fr_PT
  have ne_PT_A : (b + z21) ≠ (b + (z17 + 1)) := Ne.symm ne_A_PT
  have ne_B_PT : (b + (z17 + 2)) ≠ (b + z21) := xa_ne f_B fr_PT
  have ne_PT_B : (b + z21) ≠ (b + (z17 + 2)) := Ne.symm ne_B_PT
  have ne_C_PT : (b + (z17 + 3)) ≠ (b + z21) := xa_ne f_C fr_PT
  have ne_PT_C : (b + z21) ≠ (b + (z17 + 3)) := Ne.symm ne_C_PT
  refine xa_newa (D := D) (b := b) (atype := .int) (N' := 10) (a0 := (10, .inl (fun _ => 0))) hx hb (hts _ (List.mem_cons_of_mem _ xw_55)) rfl hw hba 0 rfl (fun _ => rfl) (by decide) (by decide) (by decide) (by decide) (by decide) d_Qd_init_81 (fun H hz1 hw => ?_)
  rw [hz] at hz1 hw
  rw [hz]
  have hz : H.size = z21 + 1 := hz1
  obtain ⟨ce23, hce23⟩ : ∃ z, z = va_up ce22 (b + z21) (some (.inl (cI, 10, .inl (fun _ => 0)))) := ⟨_, rfl⟩
  have hw := xm_W.cast hce23.symm hw
  have f_T : ce23 iT = some (.inr (0, [.ref (ad (b + s.heap.size)), .ref (ad (b + (s.heap.size + 1))), .int 0, .ref (ad (b + (s.heap.size + 2))), .null, .ref (ad (b + z8)), .ref (ad (b + z13)), .ref (ad (b + z17)), .null, .int 0, .int 0, .int 0])) := by rw [hce23, va_up_ne _ _ ne_T_PT]; exact f_T
  have f_PL : ce23 (b + s.heap.size) = some (.inl (cI, 10, .inl (fun _ => 0))) := by rw [hce23, va_up_ne _ _ ne_PL_PT]; exact f_PL
  have f_BR : ce23 (b + (s.heap.size + 1)) = some (.inl (cZ, 10, .inl (fun _ => 0))) := by rw [hce23, va_up_ne _ _ ne_BR_PT]; exact f_BR
  have f_L : ce23 (b + (s.heap.size + 2)) = some (.inr (5, [.ref t0, .int 0, .int 0])) := by rw [hce23, va_up_ne _ _ ne_L_PT]; exact f_L
  have f_PP : ce23 (b + z8) = some (.inr (1, [.ref (ad (b + (z8 + 1)))])) := by rw [hce23, va_up_ne _ _ ne_PP_PT]; exact f_PP
  have f_R : ce23 (b + (z8 + 1)) = some (.inl (cI, 341, .inl (fun _ => 0))) := by rw [hce23, va_up_ne _ _ ne_R_PT]; exact f_R
  have f_MM : ce23 (b + z13) = some (.inr (2, [.ref (ad (b + z8)), .ref (ad (b + (z13 + 1)))])) := by rw [hce23, va_up_ne _ _ ne_MM_PT]; exact f_MM
  have f_V : ce23 (b + (z13 + 1)) = some (.inl (cI, 20, .inl (vF vi0))) := by rw [hce23, va_up_ne _ _ ne_V_PT]; exact f_V
  have f_UU : ce23 (b + z17) = some (.inr (3, [.ref (ad (b + (z17 + 1))), .ref (ad (b + (z17 + 2))), .ref (ad (b + (z17 + 3))), .int 0])) := by rw [hce23, va_up_ne _ _ ne_UU_PT]; exact f_UU
  have f_A : ce23 (b + (z17 + 1)) = some (.inl (cI, 4, .inl (fun _ => 0))) := by rw [hce23, va_up_ne _ _ ne_A_PT]; exact f_A
  have f_B : ce23 (b + (z17 + 2)) = some (.inl (cI, 4, .inl (fun _ => 0))) := by rw [hce23, va_up_ne _ _ ne_B_PT]; exact f_B
  have f_C : ce23 (b + (z17 + 3)) = some (.inl (cI, 4, .inl (fun _ => 0))) := by rw [hce23, va_up_ne _ _ ne_C_PT]; exact f_C
  have f_PT : ce23 (b + z21) = some (.inl (cI, 10, .inl (fun _ => 0))) := by rw [hce23]; exact va_up_self _ _ _
  refine xa_putF (D := D) (v := .ref (ad (b + z21))) (ty := .array .int) (C := R_Qd) (T := F_Qd) (N := 12) hx hb hts (fun w h => List.mem_cons_of_mem _ (i_Qd w h)) t_Qd o_Qd n_Qd hown hw f_T rfl 8 (by decide) (hts _ (List.mem_cons_of_mem _ xw_115)) (fun _ h9 => h9) rfl hnm rfl (by decide +kernel) rfl rfl (Nat.le_of_ble_eq_true rfl) d_Qd_init_83 (fun H locs hz1 hw => ?_)
  rw [hz] at hz1
  have hz : H.size = z21 + 1 := hz1
  obtain ⟨ce24, hce24⟩ : ∃ z, z = va_up ce23 iT (some (.inr (0, [.ref (ad (b + s.heap.size)), .ref (ad (b + (s.heap.size + 1))), .int 0, .ref (ad (b + (s.heap.size + 2))), .null, .ref (ad (b + z8)), .ref (ad (b + z13)), .ref (ad (b + z17)), .ref (ad (b + z21)), .int 0, .int 0, .int 0]))) := ⟨_, rfl⟩
  have hw := xm_W.cast hce24.symm hw
  have f_T : ce24 iT = some (.inr (0, [.ref (ad (b + s.heap.size)), .ref (ad (b + (s.heap.size + 1))), .int 0, .ref (ad (b + (s.heap.size + 2))), .null, .ref (ad (b + z8)), .ref (ad (b + z13)), .ref (ad (b + z17)), .ref (ad (b + z21)), .int 0, .int 0, .int 0])) := by rw [hce24]; exact va_up_self _ _ _
  have f_PL : ce24 (b + s.heap.size) = some (.inl (cI, 10, .inl (fun _ => 0))) := by rw [hce24, va_up_ne _ _ ne_PL_T]; exact f_PL
  have f_BR : ce24 (b + (s.heap.size + 1)) = some (.inl (cZ, 10, .inl (fun _ => 0))) := by rw [hce24, va_up_ne _ _ ne_BR_T]; exact f_BR
  have f_L : ce24 (b + (s.heap.size + 2)) = some (.inr (5, [.ref t0, .int 0, .int 0])) := by rw [hce24, va_up_ne _ _ ne_L_T]; exact f_L
  have f_PP : ce24 (b + z8) = some (.inr (1, [.ref (ad (b + (z8 + 1)))])) := by rw [hce24, va_up_ne _ _ ne_PP_T]; exact f_PP
  have f_R : ce24 (b + (z8 + 1)) = some (.inl (cI, 341, .inl (fun _ => 0))) := by rw [hce24, va_up_ne _ _ ne_R_T]; exact f_R
  have f_MM : ce24 (b + z13) = some (.inr (2, [.ref (ad (b + z8)), .ref (ad (b + (z13 + 1)))])) := by rw [hce24, va_up_ne _ _ ne_MM_T]; exact f_MM
  have f_V : ce24 (b + (z13 + 1)) = some (.inl (cI, 20, .inl (vF vi0))) := by rw [hce24, va_up_ne _ _ ne_V_T]; exact f_V
  have f_UU : ce24 (b + z17) = some (.inr (3, [.ref (ad (b + (z17 + 1))), .ref (ad (b + (z17 + 2))), .ref (ad (b + (z17 + 3))), .int 0])) := by rw [hce24, va_up_ne _ _ ne_UU_T]; exact f_UU
  have f_A : ce24 (b + (z17 + 1)) = some (.inl (cI, 4, .inl (fun _ => 0))) := by rw [hce24, va_up_ne _ _ ne_A_T]; exact f_A
  have f_B : ce24 (b + (z17 + 2)) = some (.inl (cI, 4, .inl (fun _ => 0))) := by rw [hce24, va_up_ne _ _ ne_B_T]; exact f_B
  have f_C : ce24 (b + (z17 + 3)) = some (.inl (cI, 4, .inl (fun _ => 0))) := by rw [hce24, va_up_ne _ _ ne_C_T]; exact f_C
  have f_PT : ce24 (b + z21) = some (.inl (cI, 10, .inl (fun _ => 0))) := by rw [hce24, va_up_ne _ _ ne_PT_T]; exact f_PT
  refine lv_aload_n hx hb d_Qd_init_86 rfl (lv_at hl 0 rfl) ?_
  refine lv_iconst (v := 0) hx hb d_Qd_init_87 (by decide) ?_
  refine xa_put (D := D) (v := .int 0) (ty := .int) (C := R_Qd) (T := F_Qd) (N := 12) hx hb hts (fun w h => List.mem_cons_of_mem _ (i_Qd w h)) t_Qd o_Qd n_Qd hown hw f_T rfl 9 (by decide) (hts _ (List.mem_cons_of_mem _ xw_116)) (fun _ h9 => h9) rfl (by decide +kernel) rfl rfl (Nat.le_of_ble_eq_true rfl) d_Qd_init_88 (fun H locs hz1 hw => ?_)
  rw [hz] at hz1
  have hz : H.size = z21 + 1 := hz1
  obtain ⟨ce25, hce25⟩ : ∃ z, z = va_up ce24 iT (some (.inr (0, [.ref (ad (b + s.heap.size)), .ref (ad (b + (s.heap.size + 1))), .int 0, .ref (ad (b + (s.heap.size + 2))), .null, .ref (ad (b + z8)), .ref (ad (b + z13)), .ref (ad (b + z17)), .ref (ad (b + z21)), .int 0, .int 0, .int 0]))) := ⟨_, rfl⟩
  have hw := xm_W.cast hce25.symm hw
  have f_T : ce25 iT = some (.inr (0, [.ref (ad (b + s.heap.size)), .ref (ad (b + (s.heap.size + 1))), .int 0, .ref (ad (b + (s.heap.size + 2))), .null, .ref (ad (b + z8)), .ref (ad (b + z13)), .ref (ad (b + z17)), .ref (ad (b + z21)), .int 0, .int 0, .int 0])) := by rw [hce25]; exact va_up_self _ _ _
  have f_PL : ce25 (b + s.heap.size) = some (.inl (cI, 10, .inl (fun _ => 0))) := by rw [hce25, va_up_ne _ _ ne_PL_T]; exact f_PL
  have f_BR : ce25 (b + (s.heap.size + 1)) = some (.inl (cZ, 10, .inl (fun _ => 0))) := by rw [hce25, va_up_ne _ _ ne_BR_T]; exact f_BR
  have f_L : ce25 (b + (s.heap.size + 2)) = some (.inr (5, [.ref t0, .int 0, .int 0])) := by rw [hce25, va_up_ne _ _ ne_L_T]; exact f_L
  have f_PP : ce25 (b + z8) = some (.inr (1, [.ref (ad (b + (z8 + 1)))])) := by rw [hce25, va_up_ne _ _ ne_PP_T]; exact f_PP
  have f_R : ce25 (b + (z8 + 1)) = some (.inl (cI, 341, .inl (fun _ => 0))) := by rw [hce25, va_up_ne _ _ ne_R_T]; exact f_R
  have f_MM : ce25 (b + z13) = some (.inr (2, [.ref (ad (b + z8)), .ref (ad (b + (z13 + 1)))])) := by rw [hce25, va_up_ne _ _ ne_MM_T]; exact f_MM
  have f_V : ce25 (b + (z13 + 1)) = some (.inl (cI, 20, .inl (vF vi0))) := by rw [hce25, va_up_ne _ _ ne_V_T]; exact f_V
  have f_UU : ce25 (b + z17) = some (.inr (3, [.ref (ad (b + (z17 + 1))), .ref (ad (b + (z17 + 2))), .ref (ad (b + (z17 + 3))), .int 0])) := by rw [hce25, va_up_ne _ _ ne_UU_T]; exact f_UU
  have f_A : ce25 (b + (z17 + 1)) = some (.inl (cI, 4, .inl (fun _ => 0))) := by rw [hce25, va_up_ne _ _ ne_A_T]; exact f_A
  have f_B : ce25 (b + (z17 + 2)) = some (.inl (cI, 4, .inl (fun _ => 0))) := by rw [hce25, va_up_ne _ _ ne_B_T]; exact f_B
  have f_C : ce25 (b + (z17 + 3)) = some (.inl (cI, 4, .inl (fun _ => 0))) := by rw [hce25, va_up_ne _ _ ne_C_T]; exact f_C
  have f_PT : ce25 (b + z21) = some (.inl (cI, 10, .inl (fun _ => 0))) := by rw [hce25, va_up_ne _ _ ne_PT_T]; exact f_PT
  refine lv_aload_n hx hb d_Qd_init_91 rfl (lv_at hl 0 rfl) ?_
  refine lv_iconst (v := 0) hx hb d_Qd_init_92 (by decide) ?_
  refine xa_put (D := D) (v := .int 0) (ty := .boolean) (C := R_Qd) (T := F_Qd) (N := 12) hx hb hts (fun w h => List.mem_cons_of_mem _ (i_Qd w h)) t_Qd o_Qd n_Qd hown hw f_T rfl 10 (by decide) (hts _ (List.mem_cons_of_mem _ xw_117)) (fun _ h9 => h9) rfl (by decide +kernel) rfl rfl (Nat.le_of_ble_eq_true rfl) d_Qd_init_93 (fun H locs hz1 hw => ?_)
  rw [hz] at hz1
  have hz : H.size = z21 + 1 := hz1
  obtain ⟨ce26, hce26⟩ : ∃ z, z = va_up ce25 iT (some (.inr (0, [.ref (ad (b + s.heap.size)), .ref (ad (b + (s.heap.size + 1))), .int 0, .ref (ad (b + (s.heap.size + 2))), .null, .ref (ad (b + z8)), .ref (ad (b + z13)), .ref (ad (b + z17)), .ref (ad (b + z21)), .int 0, .int 0, .int 0]))) := ⟨_, rfl⟩
  have hw := xm_W.cast hce26.symm hw
  have f_T : ce26 iT = some (.inr (0, [.ref (ad (b + s.heap.size)), .ref (ad (b + (s.heap.size + 1))), .int 0, .ref (ad (b + (s.heap.size + 2))), .null, .ref (ad (b + z8)), .ref (ad (b + z13)), .ref (ad (b + z17)), .ref (ad (b + z21)), .int 0, .int 0, .int 0])) := by rw [hce26]; exact va_up_self _ _ _
  have f_PL : ce26 (b + s.heap.size) = some (.inl (cI, 10, .inl (fun _ => 0))) := by rw [hce26, va_up_ne _ _ ne_PL_T]; exact f_PL
  have f_BR : ce26 (b + (s.heap.size + 1)) = some (.inl (cZ, 10, .inl (fun _ => 0))) := by rw [hce26, va_up_ne _ _ ne_BR_T]; exact f_BR
  have f_L : ce26 (b + (s.heap.size + 2)) = some (.inr (5, [.ref t0, .int 0, .int 0])) := by rw [hce26, va_up_ne _ _ ne_L_T]; exact f_L
  have f_PP : ce26 (b + z8) = some (.inr (1, [.ref (ad (b + (z8 + 1)))])) := by rw [hce26, va_up_ne _ _ ne_PP_T]; exact f_PP
  have f_R : ce26 (b + (z8 + 1)) = some (.inl (cI, 341, .inl (fun _ => 0))) := by rw [hce26, va_up_ne _ _ ne_R_T]; exact f_R
  have f_MM : ce26 (b + z13) = some (.inr (2, [.ref (ad (b + z8)), .ref (ad (b + (z13 + 1)))])) := by rw [hce26, va_up_ne _ _ ne_MM_T]; exact f_MM
  have f_V : ce26 (b + (z13 + 1)) = some (.inl (cI, 20, .inl (vF vi0))) := by rw [hce26, va_up_ne _ _ ne_V_T]; exact f_V
  have f_UU : ce26 (b + z17) = some (.inr (3, [.ref (ad (b + (z17 + 1))), .ref (ad (b + (z17 + 2))), .ref (ad (b + (z17 + 3))), .int 0])) := by rw [hce26, va_up_ne _ _ ne_UU_T]; exact f_UU
  have f_A : ce26 (b + (z17 + 1)) = some (.inl (cI, 4, .inl (fun _ => 0))) := by rw [hce26, va_up_ne _ _ ne_A_T]; exact f_A
  have f_B : ce26 (b + (z17 + 2)) = some (.inl (cI, 4, .inl (fun _ => 0))) := by rw [hce26, va_up_ne _ _ ne_B_T]; exact f_B
  have f_C : ce26 (b + (z17 + 3)) = some (.inl (cI, 4, .inl (fun _ => 0))) := by rw [hce26, va_up_ne _ _ ne_C_T]; exact f_C
  have f_PT : ce26 (b + z21) = some (.inl (cI, 10, .inl (fun _ => 0))) := by rw [hce26, va_up_ne _ _ ne_PT_T]; exact f_PT
  refine lv_aload_n hx hb d_Qd_init_96 rfl (lv_at hl 0 rfl) ?_
  refine lv_iconst (v := 0) hx hb d_Qd_init_97 (by decide) ?_
  refine xa_put (D := D) (v := .int 0) (ty := .int) (C := R_Qd) (T := F_Qd) (N := 12) hx hb hts (fun w h => List.mem_cons_of_mem _ (i_Qd w h)) t_Qd o_Qd n_Qd hown hw f_T rfl 11 (by decide) (hts _ (List.mem_cons_of_mem _ xw_118)) (fun _ h9 => h9) rfl (by decide +kernel) rfl rfl (Nat.le_of_ble_eq_true rfl) d_Qd_init_98 (fun H locs hz1 hw => ?_)
  rw [hz] at hz1
  have hz : H.size = z21 + 1 := hz1
  obtain ⟨ce27, hce27⟩ : ∃ z, z = va_up ce26 iT (some (.inr (0, [.ref (ad (b + s.heap.size)), .ref (ad (b + (s.heap.size + 1))), .int 0, .ref (ad (b + (s.heap.size + 2))), .null, .ref (ad (b + z8)), .ref (ad (b + z13)), .ref (ad (b + z17)), .ref (ad (b + z21)), .int 0, .int 0, .int 0]))) := ⟨_, rfl⟩
  have hw := xm_W.cast hce27.symm hw
  have f_T : ce27 iT = some (.inr (0, [.ref (ad (b + s.heap.size)), .ref (ad (b + (s.heap.size + 1))), .int 0, .ref (ad (b + (s.heap.size + 2))), .null, .ref (ad (b + z8)), .ref (ad (b + z13)), .ref (ad (b + z17)), .ref (ad (b + z21)), .int 0, .int 0, .int 0])) := by rw [hce27]; exact va_up_self _ _ _
  have f_PL : ce27 (b + s.heap.size) = some (.inl (cI, 10, .inl (fun _ => 0))) := by rw [hce27, va_up_ne _ _ ne_PL_T]; exact f_PL
  have f_BR : ce27 (b + (s.heap.size + 1)) = some (.inl (cZ, 10, .inl (fun _ => 0))) := by rw [hce27, va_up_ne _ _ ne_BR_T]; exact f_BR
  have f_L : ce27 (b + (s.heap.size + 2)) = some (.inr (5, [.ref t0, .int 0, .int 0])) := by rw [hce27, va_up_ne _ _ ne_L_T]; exact f_L
  have f_PP : ce27 (b + z8) = some (.inr (1, [.ref (ad (b + (z8 + 1)))])) := by rw [hce27, va_up_ne _ _ ne_PP_T]; exact f_PP
  have f_R : ce27 (b + (z8 + 1)) = some (.inl (cI, 341, .inl (fun _ => 0))) := by rw [hce27, va_up_ne _ _ ne_R_T]; exact f_R
  have f_MM : ce27 (b + z13) = some (.inr (2, [.ref (ad (b + z8)), .ref (ad (b + (z13 + 1)))])) := by rw [hce27, va_up_ne _ _ ne_MM_T]; exact f_MM
  have f_V : ce27 (b + (z13 + 1)) = some (.inl (cI, 20, .inl (vF vi0))) := by rw [hce27, va_up_ne _ _ ne_V_T]; exact f_V
  have f_UU : ce27 (b + z17) = some (.inr (3, [.ref (ad (b + (z17 + 1))), .ref (ad (b + (z17 + 2))), .ref (ad (b + (z17 + 3))), .int 0])) := by rw [hce27, va_up_ne _ _ ne_UU_T]; exact f_UU
  have f_A : ce27 (b + (z17 + 1)) = some (.inl (cI, 4, .inl (fun _ => 0))) := by rw [hce27, va_up_ne _ _ ne_A_T]; exact f_A
  have f_B : ce27 (b + (z17 + 2)) = some (.inl (cI, 4, .inl (fun _ => 0))) := by rw [hce27, va_up_ne _ _ ne_B_T]; exact f_B
  have f_C : ce27 (b + (z17 + 3)) = some (.inl (cI, 4, .inl (fun _ => 0))) := by rw [hce27, va_up_ne _ _ ne_C_T]; exact f_C
  have f_PT : ce27 (b + z21) = some (.inl (cI, 10, .inl (fun _ => 0))) := by rw [hce27, va_up_ne _ _ ne_PT_T]; exact f_PT
  subst hQQ
  exact xm_vret hx hb hr hlk hw ce27 rfl rfl ⟨b + s.heap.size, b + (s.heap.size + 1), b + (s.heap.size + 2), b + z8, b + (z8 + 1), b + z13, b + (z13 + 1), b + z17, b + (z17 + 1), b + (z17 + 2), b + (z17 + 3), b + z21, by simp only [List.nodup_cons, List.mem_cons, List.not_mem_nil, or_false, not_or, not_false_eq_true, List.nodup_nil, and_true, ne_eq] at *; exact ⟨⟨ne_T_PL, ne_T_BR, ne_T_L, ne_T_PP, ne_T_R, ne_T_MM, ne_T_V, ne_T_UU, ne_T_A, ne_T_B, ne_T_C, ne_T_PT⟩, ⟨ne_PL_BR, ne_PL_L, ne_PL_PP, ne_PL_R, ne_PL_MM, ne_PL_V, ne_PL_UU, ne_PL_A, ne_PL_B, ne_PL_C, ne_PL_PT⟩, ⟨ne_BR_L, ne_BR_PP, ne_BR_R, ne_BR_MM, ne_BR_V, ne_BR_UU, ne_BR_A, ne_BR_B, ne_BR_C, ne_BR_PT⟩, ⟨ne_L_PP, ne_L_R, ne_L_MM, ne_L_V, ne_L_UU, ne_L_A, ne_L_B, ne_L_C, ne_L_PT⟩, ⟨ne_PP_R, ne_PP_MM, ne_PP_V, ne_PP_UU, ne_PP_A, ne_PP_B, ne_PP_C, ne_PP_PT⟩, ⟨ne_R_MM, ne_R_V, ne_R_UU, ne_R_A, ne_R_B, ne_R_C, ne_R_PT⟩, ⟨ne_MM_V, ne_MM_UU, ne_MM_A, ne_MM_B, ne_MM_C, ne_MM_PT⟩, ⟨ne_V_UU, ne_V_A, ne_V_B, ne_V_C, ne_V_PT⟩, ⟨ne_UU_A, ne_UU_B, ne_UU_C, ne_UU_PT⟩, ⟨ne_A_B, ne_A_C, ne_A_PT⟩, ⟨ne_B_C, ne_B_PT⟩, ne_C_PT⟩, f_T, f_PL, f_BR, f_L, f_PP, f_R, f_MM, f_V, f_UU, f_A, f_B, f_C, f_PT⟩ d_Qd_init_101
