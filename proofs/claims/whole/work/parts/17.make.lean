abbrev b_Ru_init : ByteArray := prog_4_method_1_code
def y_Ru_init : MethodName := ⟨"QuestionDesk$Rule", "<init>", "()V"⟩
theorem d_Ru_init_0 : decode b_Ru_init 0 = .ok (.aload_n 0, 1) := by decide +kernel
theorem d_Ru_init_1 : decode b_Ru_init 1 = .ok (.invokespecial 3, 3) := by decide +kernel
theorem d_Ru_init_4 : decode b_Ru_init 4 = .ok (.aload_n 0, 1) := by decide +kernel
theorem d_Ru_init_5 : decode b_Ru_init 5 = .ok (.iconst 4, 1) := by decide +kernel
theorem d_Ru_init_6 : decode b_Ru_init 6 = .ok (.newarray .int, 2) := by decide +kernel
theorem d_Ru_init_8 : decode b_Ru_init 8 = .ok (.putfield 9, 3) := by decide +kernel
theorem d_Ru_init_11 : decode b_Ru_init 11 = .ok (.aload_n 0, 1) := by decide +kernel
theorem d_Ru_init_12 : decode b_Ru_init 12 = .ok (.iconst 4, 1) := by decide +kernel
theorem d_Ru_init_13 : decode b_Ru_init 13 = .ok (.newarray .int, 2) := by decide +kernel
theorem d_Ru_init_15 : decode b_Ru_init 15 = .ok (.putfield 15, 3) := by decide +kernel
theorem d_Ru_init_18 : decode b_Ru_init 18 = .ok (.aload_n 0, 1) := by decide +kernel
theorem d_Ru_init_19 : decode b_Ru_init 19 = .ok (.iconst 4, 1) := by decide +kernel
theorem d_Ru_init_20 : decode b_Ru_init 20 = .ok (.newarray .int, 2) := by decide +kernel
theorem d_Ru_init_22 : decode b_Ru_init 22 = .ok (.putfield 18, 3) := by decide +kernel
theorem d_Ru_init_25 : decode b_Ru_init 25 = .ok (.aload_n 0, 1) := by decide +kernel
theorem d_Ru_init_26 : decode b_Ru_init 26 = .ok (.iconst 0, 1) := by decide +kernel
theorem d_Ru_init_27 : decode b_Ru_init 27 = .ok (.putfield 21, 3) := by decide +kernel
theorem d_Ru_init_30 : decode b_Ru_init 30 = .ok (.return_, 1) := by decide +kernel
abbrev b_Pr_init : ByteArray := prog_3_method_1_code
def y_Pr_init : MethodName := ⟨"QuestionDesk$Pairs", "<init>", "()V"⟩
theorem d_Pr_init_0 : decode b_Pr_init 0 = .ok (.aload_n 0, 1) := by decide +kernel
theorem d_Pr_init_1 : decode b_Pr_init 1 = .ok (.invokespecial 3, 3) := by decide +kernel
theorem d_Pr_init_4 : decode b_Pr_init 4 = .ok (.aload_n 0, 1) := by decide +kernel
theorem d_Pr_init_5 : decode b_Pr_init 5 = .ok (.sipush 341, 3) := by decide +kernel
theorem d_Pr_init_8 : decode b_Pr_init 8 = .ok (.newarray .int, 2) := by decide +kernel
theorem d_Pr_init_10 : decode b_Pr_init 10 = .ok (.putfield 11, 3) := by decide +kernel
theorem d_Pr_init_13 : decode b_Pr_init 13 = .ok (.return_, 1) := by decide +kernel
abbrev b_Mo_init : ByteArray := prog_6_method_1_code
def y_Mo_init : MethodName := ⟨"QuestionDeskModel", "<init>", "()V"⟩
theorem d_Mo_init_0 : decode b_Mo_init 0 = .ok (.aload_n 0, 1) := by decide +kernel
theorem d_Mo_init_1 : decode b_Mo_init 1 = .ok (.invokespecial 1, 3) := by decide +kernel
theorem d_Mo_init_4 : decode b_Mo_init 4 = .ok (.aload_n 0, 1) := by decide +kernel
theorem d_Mo_init_5 : decode b_Mo_init 5 = .ok (.bipush 10, 2) := by decide +kernel
theorem d_Mo_init_7 : decode b_Mo_init 7 = .ok (.newarray .int, 2) := by decide +kernel
theorem d_Mo_init_9 : decode b_Mo_init 9 = .ok (.putfield 7, 3) := by decide +kernel
theorem d_Mo_init_12 : decode b_Mo_init 12 = .ok (.aload_n 0, 1) := by decide +kernel
theorem d_Mo_init_13 : decode b_Mo_init 13 = .ok (.bipush 10, 2) := by decide +kernel
theorem d_Mo_init_15 : decode b_Mo_init 15 = .ok (.newarray .boolean, 2) := by decide +kernel
theorem d_Mo_init_17 : decode b_Mo_init 17 = .ok (.putfield 13, 3) := by decide +kernel
theorem d_Mo_init_20 : decode b_Mo_init 20 = .ok (.aload_n 0, 1) := by decide +kernel
theorem d_Mo_init_21 : decode b_Mo_init 21 = .ok (.sipush 1000, 3) := by decide +kernel
theorem d_Mo_init_24 : decode b_Mo_init 24 = .ok (.newarray .boolean, 2) := by decide +kernel
theorem d_Mo_init_26 : decode b_Mo_init 26 = .ok (.putfield 17, 3) := by decide +kernel
theorem d_Mo_init_29 : decode b_Mo_init 29 = .ok (.aload_n 0, 1) := by decide +kernel
theorem d_Mo_init_30 : decode b_Mo_init 30 = .ok (.sipush 1000, 3) := by decide +kernel
theorem d_Mo_init_33 : decode b_Mo_init 33 = .ok (.newarray .boolean, 2) := by decide +kernel
theorem d_Mo_init_35 : decode b_Mo_init 35 = .ok (.putfield 20, 3) := by decide +kernel
theorem d_Mo_init_38 : decode b_Mo_init 38 = .ok (.aload_n 0, 1) := by decide +kernel
theorem d_Mo_init_39 : decode b_Mo_init 39 = .ok (.bipush 124, 2) := by decide +kernel
theorem d_Mo_init_41 : decode b_Mo_init 41 = .ok (.newarray .int, 2) := by decide +kernel
theorem d_Mo_init_43 : decode b_Mo_init 43 = .ok (.putfield 23, 3) := by decide +kernel
theorem d_Mo_init_46 : decode b_Mo_init 46 = .ok (.aload_n 0, 1) := by decide +kernel
theorem d_Mo_init_47 : decode b_Mo_init 47 = .ok (.bipush 124, 2) := by decide +kernel
theorem d_Mo_init_49 : decode b_Mo_init 49 = .ok (.newarray .int, 2) := by decide +kernel
theorem d_Mo_init_51 : decode b_Mo_init 51 = .ok (.putfield 26, 3) := by decide +kernel
theorem d_Mo_init_54 : decode b_Mo_init 54 = .ok (.aload_n 0, 1) := by decide +kernel
theorem d_Mo_init_55 : decode b_Mo_init 55 = .ok (.bipush 124, 2) := by decide +kernel
theorem d_Mo_init_57 : decode b_Mo_init 57 = .ok (.newarray .int, 2) := by decide +kernel
theorem d_Mo_init_59 : decode b_Mo_init 59 = .ok (.putfield 29, 3) := by decide +kernel
theorem d_Mo_init_62 : decode b_Mo_init 62 = .ok (.aload_n 0, 1) := by decide +kernel
theorem d_Mo_init_63 : decode b_Mo_init 63 = .ok (.bipush 31, 2) := by decide +kernel
theorem d_Mo_init_65 : decode b_Mo_init 65 = .ok (.newarray .int, 2) := by decide +kernel
theorem d_Mo_init_67 : decode b_Mo_init 67 = .ok (.putfield 32, 3) := by decide +kernel
theorem d_Mo_init_70 : decode b_Mo_init 70 = .ok (.aload_n 0, 1) := by decide +kernel
theorem d_Mo_init_71 : decode b_Mo_init 71 = .ok (.sipush 1210, 3) := by decide +kernel
theorem d_Mo_init_74 : decode b_Mo_init 74 = .ok (.newarray .boolean, 2) := by decide +kernel
theorem d_Mo_init_76 : decode b_Mo_init 76 = .ok (.putfield 35, 3) := by decide +kernel
theorem d_Mo_init_79 : decode b_Mo_init 79 = .ok (.aload_n 0, 1) := by decide +kernel
theorem d_Mo_init_80 : decode b_Mo_init 80 = .ok (.sipush 1210, 3) := by decide +kernel
theorem d_Mo_init_83 : decode b_Mo_init 83 = .ok (.newarray .int, 2) := by decide +kernel
theorem d_Mo_init_85 : decode b_Mo_init 85 = .ok (.putfield 38, 3) := by decide +kernel
theorem d_Mo_init_88 : decode b_Mo_init 88 = .ok (.aload_n 0, 1) := by decide +kernel
theorem d_Mo_init_89 : decode b_Mo_init 89 = .ok (.bipush 40, 2) := by decide +kernel
theorem d_Mo_init_91 : decode b_Mo_init 91 = .ok (.newarray .boolean, 2) := by decide +kernel
theorem d_Mo_init_93 : decode b_Mo_init 93 = .ok (.putfield 41, 3) := by decide +kernel
theorem d_Mo_init_96 : decode b_Mo_init 96 = .ok (.aload_n 0, 1) := by decide +kernel
theorem d_Mo_init_97 : decode b_Mo_init 97 = .ok (.bipush 8, 2) := by decide +kernel
theorem d_Mo_init_99 : decode b_Mo_init 99 = .ok (.newarray .int, 2) := by decide +kernel
theorem d_Mo_init_101 : decode b_Mo_init 101 = .ok (.putfield 44, 3) := by decide +kernel
theorem d_Mo_init_104 : decode b_Mo_init 104 = .ok (.aload_n 0, 1) := by decide +kernel
theorem d_Mo_init_105 : decode b_Mo_init 105 = .ok (.bipush 8, 2) := by decide +kernel
theorem d_Mo_init_107 : decode b_Mo_init 107 = .ok (.newarray .int, 2) := by decide +kernel
theorem d_Mo_init_109 : decode b_Mo_init 109 = .ok (.putfield 47, 3) := by decide +kernel
theorem d_Mo_init_112 : decode b_Mo_init 112 = .ok (.aload_n 0, 1) := by decide +kernel
theorem d_Mo_init_113 : decode b_Mo_init 113 = .ok (.iconst 4, 1) := by decide +kernel
theorem d_Mo_init_114 : decode b_Mo_init 114 = .ok (.newarray .int, 2) := by decide +kernel
theorem d_Mo_init_116 : decode b_Mo_init 116 = .ok (.putfield 50, 3) := by decide +kernel
theorem d_Mo_init_119 : decode b_Mo_init 119 = .ok (.return_, 1) := by decide +kernel
theorem xw_85 : (Jvm.Cond.methodLink "QuestionDesk$Rule" (3 : Nat) ({ cls := "java/lang/Object", name := "<init>", desc := "()V" } : Jvm.MethodName)) ∈ xg := xg_t (i := 85) (by decide +kernel) (by decide +kernel)
theorem xw_27 : (Jvm.Cond.instanceMethod ({ cls := "java/lang/Object", name := "<init>", desc := "()V" } : Jvm.MethodName)) ∈ xg := xg_t (i := 27) (by decide +kernel) (by decide +kernel)
theorem xw_28 : (Jvm.Cond.code ({ cls := "java/lang/Object", name := "<init>", desc := "()V" } : Jvm.MethodName) object_method_1_code (1 : Nat) (Option.none : Option Jvm.ClassFile.FieldType)) ∈ xg := xg_t (i := 28) (by decide +kernel) (by decide +kernel)
theorem xw_55 : (Jvm.Cond.arrayClass Jvm.ClassFile.FieldType.int) ∈ xg := xg_t (i := 55) (by decide +kernel) (by decide +kernel)
theorem xw_62 : (Jvm.Cond.methodLink "QuestionDesk$Pairs" (3 : Nat) ({ cls := "java/lang/Object", name := "<init>", desc := "()V" } : Jvm.MethodName)) ∈ xg := xg_t (i := 62) (by decide +kernel) (by decide +kernel)
theorem xw_561 : (Jvm.Cond.methodLink "QuestionDeskModel" (1 : Nat) ({ cls := "java/lang/Object", name := "<init>", desc := "()V" } : Jvm.MethodName)) ∈ xg := xg_t (i := 561) (by decide +kernel) (by decide +kernel)
theorem xw_56 : (Jvm.Cond.arrayClass Jvm.ClassFile.FieldType.boolean) ∈ xg := xg_t (i := 56) (by decide +kernel) (by decide +kernel)
abbrev rm_Ru_init : Room := { frames := 1, cells := 3, slots := 12, locals := 30 }
set_option maxHeartbeats 4000000 in
set_option maxRecDepth 100000 in
theorem c_Ru_init {l : Launch} {D : va_G} {ad : Nat → Nat} (ce : Nat → Option va_E) {b : Nat} {cI cZ cJ cO : ClassId} {iT : Nat} (hba : ∀ a, ad (b + a) = a) (f_T : ce iT = some (.inr (3, [.null, .null, .null, .int 0]))) : ∀ sz, Met l y_Ru_init (Cond.code y_Ru_init b_Ru_init 1 none :: xg) rm_Ru_init (xm_Pc D xcl (xT cI cZ cJ cO) ad ce sz [.ref (ad iT)]) (va_Qv (fun u : Nat → Option va_E => u iT = some (.inr (3, [.ref (ad (b + sz)), .ref (ad (b + (sz + 1))), .ref (ad (b + (sz + 2))), .int 0])) ∧ u (b + sz) = some (.inl (cI, 4, .inl (fun _ => 0))) ∧ u (b + (sz + 1)) = some (.inl (cI, 4, .inl (fun _ => 0))) ∧ u (b + (sz + 2)) = some (.inl (cI, 4, .inl (fun _ => 0))) ∧ ∀ i, i ≠ iT → i ≠ b + sz → i ≠ b + (sz + 1) → i ≠ b + (sz + 2) → u i = ce i) (xm_B D xcl (xT cI cZ cJ cO) (xm_A ad ce sz) (fun _ => ad) (fun u => u)) (xm_A ad ce sz)) 3 12 (xm_A ad ce sz) := by
  refine xm_ofW (cc := b_Ru_init) (maxL := 1) (ret := none) (by decide) rfl (Nat.le_of_ble_eq_true rfl) ?_
  intro p e s m args below meth c ls QQ hQQ hx hb hml hr hown hlk hnm hts hl hw
  have hl : lv_has ls 1 [(0, .ref (ad iT))] := hl
  refine lv_aload_n hx hb d_Ru_init_0 rfl (lv_at hl 0 rfl) ?_
  refine xa_oi hx hb hown (hts _ (List.mem_cons_of_mem _ xw_85)) (hts _ (List.mem_cons_of_mem _ xw_27)) (hts _ (List.mem_cons_of_mem _ xw_28)) (hl.1.trans hml.symm) d_Ru_init_1 (by decide) (Nat.le_of_ble_eq_true rfl) ?_
  refine lv_aload_n hx hb d_Ru_init_4 rfl (lv_at hl 0 rfl) ?_
  refine lv_iconst (v := 4) hx hb d_Ru_init_5 (by decide) ?_
  have fr_A : ce (b + s.heap.size) = none := xa_free hw hba (Nat.le_of_eq rfl)
  have ne_T_A : iT ≠ (b + s.heap.size) := xa_ne f_T fr_A
  have ne_A_T : (b + s.heap.size) ≠ iT := Ne.symm ne_T_A
  refine xa_newa (D := D) (b := b) (atype := .int) (N' := 4) (a0 := (4, .inl (fun _ => 0))) hx hb (hts _ (List.mem_cons_of_mem _ xw_55)) rfl hw hba 0 rfl (fun _ => rfl) (by decide) (by decide) (by decide) (by decide) (by decide) d_Ru_init_6 (fun H hz1 hw => ?_)
  have hz : H.size = s.heap.size + 1 := hz1
  obtain ⟨ce1, hce1⟩ : ∃ z, z = va_up ce (b + s.heap.size) (some (.inl (cI, 4, .inl (fun _ => 0)))) := ⟨_, rfl⟩
  have hw := xm_W.cast hce1.symm hw
  have f_T : ce1 iT = some (.inr (3, [.null, .null, .null, .int 0])) := by rw [hce1, va_up_ne _ _ ne_T_A]; exact f_T
  have f_A : ce1 (b + s.heap.size) = some (.inl (cI, 4, .inl (fun _ => 0))) := by rw [hce1]; exact va_up_self _ _ _
  refine xa_putF (D := D) (v := .ref (ad (b + s.heap.size))) (ty := .array .int) (C := R_Ru) (T := F_Ru) (N := 4) hx hb hts (fun w h => List.mem_cons_of_mem _ (i_Ru w h)) t_Ru o_Ru n_Ru hown hw f_T rfl 0 (by decide) (hts _ (List.mem_cons_of_mem _ xw_86)) (fun _ h9 => h9) rfl hnm rfl (by decide +kernel) rfl rfl (Nat.le_of_ble_eq_true rfl) d_Ru_init_8 (fun H locs hz1 hw => ?_)
  rw [hz] at hz1
  have hz : H.size = s.heap.size + 1 := hz1
  obtain ⟨ce2, hce2⟩ : ∃ z, z = va_up ce1 iT (some (.inr (3, [.ref (ad (b + s.heap.size)), .null, .null, .int 0]))) := ⟨_, rfl⟩
  have hw := xm_W.cast hce2.symm hw
  have f_T : ce2 iT = some (.inr (3, [.ref (ad (b + s.heap.size)), .null, .null, .int 0])) := by rw [hce2]; exact va_up_self _ _ _
  have f_A : ce2 (b + s.heap.size) = some (.inl (cI, 4, .inl (fun _ => 0))) := by rw [hce2, va_up_ne _ _ ne_A_T]; exact f_A
  refine lv_aload_n hx hb d_Ru_init_11 rfl (lv_at hl 0 rfl) ?_
  refine lv_iconst (v := 4) hx hb d_Ru_init_12 (by decide) ?_
  have fr_B : ce2 (b + (s.heap.size + 1)) = none := xa_free hw hba (Nat.le_of_eq hz)
  have ne_T_B : iT ≠ (b + (s.heap.size + 1)) := xa_ne f_T fr_B
  have ne_B_T : (b + (s.heap.size + 1)) ≠ iT := Ne.symm ne_T_B
  have ne_A_B : (b + s.heap.size) ≠ (b + (s.heap.size + 1)) := xa_ne f_A fr_B
  have ne_B_A : (b + (s.heap.size + 1)) ≠ (b + s.heap.size) := Ne.symm ne_A_B
  refine xa_newa (D := D) (b := b) (atype := .int) (N' := 4) (a0 := (4, .inl (fun _ => 0))) hx hb (hts _ (List.mem_cons_of_mem _ xw_55)) rfl hw hba 0 rfl (fun _ => rfl) (by decide) (by decide) (by decide) (by decide) (by decide) d_Ru_init_13 (fun H hz1 hw => ?_)
  rw [hz] at hz1 hw
  rw [hz]
  have hz : H.size = s.heap.size + 2 := hz1
  obtain ⟨ce3, hce3⟩ : ∃ z, z = va_up ce2 (b + (s.heap.size + 1)) (some (.inl (cI, 4, .inl (fun _ => 0)))) := ⟨_, rfl⟩
  have hw := xm_W.cast hce3.symm hw
  have f_T : ce3 iT = some (.inr (3, [.ref (ad (b + s.heap.size)), .null, .null, .int 0])) := by rw [hce3, va_up_ne _ _ ne_T_B]; exact f_T
  have f_A : ce3 (b + s.heap.size) = some (.inl (cI, 4, .inl (fun _ => 0))) := by rw [hce3, va_up_ne _ _ ne_A_B]; exact f_A
  have f_B : ce3 (b + (s.heap.size + 1)) = some (.inl (cI, 4, .inl (fun _ => 0))) := by rw [hce3]; exact va_up_self _ _ _
  refine xa_putF (D := D) (v := .ref (ad (b + (s.heap.size + 1)))) (ty := .array .int) (C := R_Ru) (T := F_Ru) (N := 4) hx hb hts (fun w h => List.mem_cons_of_mem _ (i_Ru w h)) t_Ru o_Ru n_Ru hown hw f_T rfl 1 (by decide) (hts _ (List.mem_cons_of_mem _ xw_89)) (fun _ h9 => h9) rfl hnm rfl (by decide +kernel) rfl rfl (Nat.le_of_ble_eq_true rfl) d_Ru_init_15 (fun H locs hz1 hw => ?_)
  rw [hz] at hz1
  have hz : H.size = s.heap.size + 2 := hz1
  obtain ⟨ce4, hce4⟩ : ∃ z, z = va_up ce3 iT (some (.inr (3, [.ref (ad (b + s.heap.size)), .ref (ad (b + (s.heap.size + 1))), .null, .int 0]))) := ⟨_, rfl⟩
  have hw := xm_W.cast hce4.symm hw
  have f_T : ce4 iT = some (.inr (3, [.ref (ad (b + s.heap.size)), .ref (ad (b + (s.heap.size + 1))), .null, .int 0])) := by rw [hce4]; exact va_up_self _ _ _
  have f_A : ce4 (b + s.heap.size) = some (.inl (cI, 4, .inl (fun _ => 0))) := by rw [hce4, va_up_ne _ _ ne_A_T]; exact f_A
  have f_B : ce4 (b + (s.heap.size + 1)) = some (.inl (cI, 4, .inl (fun _ => 0))) := by rw [hce4, va_up_ne _ _ ne_B_T]; exact f_B
  refine lv_aload_n hx hb d_Ru_init_18 rfl (lv_at hl 0 rfl) ?_
  refine lv_iconst (v := 4) hx hb d_Ru_init_19 (by decide) ?_
  have fr_C : ce4 (b + (s.heap.size + 2)) = none := xa_free hw hba (Nat.le_of_eq hz)
  have ne_T_C : iT ≠ (b + (s.heap.size + 2)) := xa_ne f_T fr_C
  have ne_C_T : (b + (s.heap.size + 2)) ≠ iT := Ne.symm ne_T_C
  have ne_A_C : (b + s.heap.size) ≠ (b + (s.heap.size + 2)) := xa_ne f_A fr_C
  have ne_C_A : (b + (s.heap.size + 2)) ≠ (b + s.heap.size) := Ne.symm ne_A_C
  have ne_B_C : (b + (s.heap.size + 1)) ≠ (b + (s.heap.size + 2)) := xa_ne f_B fr_C
  have ne_C_B : (b + (s.heap.size + 2)) ≠ (b + (s.heap.size + 1)) := Ne.symm ne_B_C
  refine xa_newa (D := D) (b := b) (atype := .int) (N' := 4) (a0 := (4, .inl (fun _ => 0))) hx hb (hts _ (List.mem_cons_of_mem _ xw_55)) rfl hw hba 0 rfl (fun _ => rfl) (by decide) (by decide) (by decide) (by decide) (by decide) d_Ru_init_20 (fun H hz1 hw => ?_)
  rw [hz] at hz1 hw
  rw [hz]
  have hz : H.size = s.heap.size + 3 := hz1
  obtain ⟨ce5, hce5⟩ : ∃ z, z = va_up ce4 (b + (s.heap.size + 2)) (some (.inl (cI, 4, .inl (fun _ => 0)))) := ⟨_, rfl⟩
  have hw := xm_W.cast hce5.symm hw
  have f_T : ce5 iT = some (.inr (3, [.ref (ad (b + s.heap.size)), .ref (ad (b + (s.heap.size + 1))), .null, .int 0])) := by rw [hce5, va_up_ne _ _ ne_T_C]; exact f_T
  have f_A : ce5 (b + s.heap.size) = some (.inl (cI, 4, .inl (fun _ => 0))) := by rw [hce5, va_up_ne _ _ ne_A_C]; exact f_A
  have f_B : ce5 (b + (s.heap.size + 1)) = some (.inl (cI, 4, .inl (fun _ => 0))) := by rw [hce5, va_up_ne _ _ ne_B_C]; exact f_B
  have f_C : ce5 (b + (s.heap.size + 2)) = some (.inl (cI, 4, .inl (fun _ => 0))) := by rw [hce5]; exact va_up_self _ _ _
  refine xa_putF (D := D) (v := .ref (ad (b + (s.heap.size + 2)))) (ty := .array .int) (C := R_Ru) (T := F_Ru) (N := 4) hx hb hts (fun w h => List.mem_cons_of_mem _ (i_Ru w h)) t_Ru o_Ru n_Ru hown hw f_T rfl 2 (by decide) (hts _ (List.mem_cons_of_mem _ xw_92)) (fun _ h9 => h9) rfl hnm rfl (by decide +kernel) rfl rfl (Nat.le_of_ble_eq_true rfl) d_Ru_init_22 (fun H locs hz1 hw => ?_)
  rw [hz] at hz1
  have hz : H.size = s.heap.size + 3 := hz1
  obtain ⟨ce6, hce6⟩ : ∃ z, z = va_up ce5 iT (some (.inr (3, [.ref (ad (b + s.heap.size)), .ref (ad (b + (s.heap.size + 1))), .ref (ad (b + (s.heap.size + 2))), .int 0]))) := ⟨_, rfl⟩
  have hw := xm_W.cast hce6.symm hw
  have f_T : ce6 iT = some (.inr (3, [.ref (ad (b + s.heap.size)), .ref (ad (b + (s.heap.size + 1))), .ref (ad (b + (s.heap.size + 2))), .int 0])) := by rw [hce6]; exact va_up_self _ _ _
  have f_A : ce6 (b + s.heap.size) = some (.inl (cI, 4, .inl (fun _ => 0))) := by rw [hce6, va_up_ne _ _ ne_A_T]; exact f_A
  have f_B : ce6 (b + (s.heap.size + 1)) = some (.inl (cI, 4, .inl (fun _ => 0))) := by rw [hce6, va_up_ne _ _ ne_B_T]; exact f_B
  have f_C : ce6 (b + (s.heap.size + 2)) = some (.inl (cI, 4, .inl (fun _ => 0))) := by rw [hce6, va_up_ne _ _ ne_C_T]; exact f_C
  refine lv_aload_n hx hb d_Ru_init_25 rfl (lv_at hl 0 rfl) ?_
  refine lv_iconst (v := 0) hx hb d_Ru_init_26 (by decide) ?_
  refine xa_put (D := D) (v := .int 0) (ty := .int) (C := R_Ru) (T := F_Ru) (N := 4) hx hb hts (fun w h => List.mem_cons_of_mem _ (i_Ru w h)) t_Ru o_Ru n_Ru hown hw f_T rfl 3 (by decide) (hts _ (List.mem_cons_of_mem _ xw_95)) (fun _ h9 => h9) rfl (by decide +kernel) rfl rfl (Nat.le_of_ble_eq_true rfl) d_Ru_init_27 (fun H locs hz1 hw => ?_)
  rw [hz] at hz1
  have hz : H.size = s.heap.size + 3 := hz1
  obtain ⟨ce7, hce7⟩ : ∃ z, z = va_up ce6 iT (some (.inr (3, [.ref (ad (b + s.heap.size)), .ref (ad (b + (s.heap.size + 1))), .ref (ad (b + (s.heap.size + 2))), .int 0]))) := ⟨_, rfl⟩
  have hw := xm_W.cast hce7.symm hw
  have f_T : ce7 iT = some (.inr (3, [.ref (ad (b + s.heap.size)), .ref (ad (b + (s.heap.size + 1))), .ref (ad (b + (s.heap.size + 2))), .int 0])) := by rw [hce7]; exact va_up_self _ _ _
  have f_A : ce7 (b + s.heap.size) = some (.inl (cI, 4, .inl (fun _ => 0))) := by rw [hce7, va_up_ne _ _ ne_A_T]; exact f_A
  have f_B : ce7 (b + (s.heap.size + 1)) = some (.inl (cI, 4, .inl (fun _ => 0))) := by rw [hce7, va_up_ne _ _ ne_B_T]; exact f_B
  have f_C : ce7 (b + (s.heap.size + 2)) = some (.inl (cI, 4, .inl (fun _ => 0))) := by rw [hce7, va_up_ne _ _ ne_C_T]; exact f_C
  subst hQQ
  exact xm_vret hx hb hr hlk hw ce7 rfl rfl ⟨f_T, f_A, f_B, f_C, (fun i i_T i_A i_B i_C => by rw [hce7, va_up_ne _ _ i_T]; rw [hce6, va_up_ne _ _ i_T]; rw [hce5, va_up_ne _ _ i_C]; rw [hce4, va_up_ne _ _ i_T]; rw [hce3, va_up_ne _ _ i_B]; rw [hce2, va_up_ne _ _ i_T]; rw [hce1, va_up_ne _ _ i_A])⟩ d_Ru_init_30
abbrev rm_Pr_init : Room := { frames := 1, cells := 1, slots := 341, locals := 30 }
set_option maxHeartbeats 4000000 in
set_option maxRecDepth 100000 in
theorem c_Pr_init {l : Launch} {D : va_G} {ad : Nat → Nat} (ce : Nat → Option va_E) {b : Nat} {cI cZ cJ cO : ClassId} {iT : Nat} (hba : ∀ a, ad (b + a) = a) (f_T : ce iT = some (.inr (1, [.null]))) : ∀ sz, Met l y_Pr_init (Cond.code y_Pr_init b_Pr_init 1 none :: xg) rm_Pr_init (xm_Pc D xcl (xT cI cZ cJ cO) ad ce sz [.ref (ad iT)]) (va_Qv (fun u : Nat → Option va_E => u iT = some (.inr (1, [.ref (ad (b + sz))])) ∧ u (b + sz) = some (.inl (cI, 341, .inl (fun _ => 0))) ∧ ∀ i, i ≠ iT → i ≠ b + sz → u i = ce i) (xm_B D xcl (xT cI cZ cJ cO) (xm_A ad ce sz) (fun _ => ad) (fun u => u)) (xm_A ad ce sz)) 1 341 (xm_A ad ce sz) := by
  refine xm_ofW (cc := b_Pr_init) (maxL := 1) (ret := none) (by decide) rfl (Nat.le_of_ble_eq_true rfl) ?_
  intro p e s m args below meth c ls QQ hQQ hx hb hml hr hown hlk hnm hts hl hw
  have hl : lv_has ls 1 [(0, .ref (ad iT))] := hl
  refine lv_aload_n hx hb d_Pr_init_0 rfl (lv_at hl 0 rfl) ?_
  refine xa_oi hx hb hown (hts _ (List.mem_cons_of_mem _ xw_62)) (hts _ (List.mem_cons_of_mem _ xw_27)) (hts _ (List.mem_cons_of_mem _ xw_28)) (hl.1.trans hml.symm) d_Pr_init_1 (by decide) (Nat.le_of_ble_eq_true rfl) ?_
  refine lv_aload_n hx hb d_Pr_init_4 rfl (lv_at hl 0 rfl) ?_
  refine lv_sipush (v := 341) hx hb d_Pr_init_5 (by decide) ?_
  have fr_A : ce (b + s.heap.size) = none := xa_free hw hba (Nat.le_of_eq rfl)
  have ne_T_A : iT ≠ (b + s.heap.size) := xa_ne f_T fr_A
  have ne_A_T : (b + s.heap.size) ≠ iT := Ne.symm ne_T_A
  refine xa_newa (D := D) (b := b) (atype := .int) (N' := 341) (a0 := (341, .inl (fun _ => 0))) hx hb (hts _ (List.mem_cons_of_mem _ xw_55)) rfl hw hba 0 rfl (fun _ => rfl) (by decide) (by decide) (by decide) (by decide) (by decide) d_Pr_init_8 (fun H hz1 hw => ?_)
  have hz : H.size = s.heap.size + 1 := hz1
  obtain ⟨ce1, hce1⟩ : ∃ z, z = va_up ce (b + s.heap.size) (some (.inl (cI, 341, .inl (fun _ => 0)))) := ⟨_, rfl⟩
  have hw := xm_W.cast hce1.symm hw
  have f_T : ce1 iT = some (.inr (1, [.null])) := by rw [hce1, va_up_ne _ _ ne_T_A]; exact f_T
  have f_A : ce1 (b + s.heap.size) = some (.inl (cI, 341, .inl (fun _ => 0))) := by rw [hce1]; exact va_up_self _ _ _
  refine xa_putF (D := D) (v := .ref (ad (b + s.heap.size))) (ty := .array .int) (C := R_Pr) (T := F_Pr) (N := 1) hx hb hts (fun w h => List.mem_cons_of_mem _ (i_Pr w h)) t_Pr o_Pr n_Pr hown hw f_T rfl 0 (by decide) (hts _ (List.mem_cons_of_mem _ xw_63)) (fun _ h9 => h9) rfl hnm rfl (by decide +kernel) rfl rfl (Nat.le_of_ble_eq_true rfl) d_Pr_init_10 (fun H locs hz1 hw => ?_)
  rw [hz] at hz1
  have hz : H.size = s.heap.size + 1 := hz1
  obtain ⟨ce2, hce2⟩ : ∃ z, z = va_up ce1 iT (some (.inr (1, [.ref (ad (b + s.heap.size))]))) := ⟨_, rfl⟩
  have hw := xm_W.cast hce2.symm hw
  have f_T : ce2 iT = some (.inr (1, [.ref (ad (b + s.heap.size))])) := by rw [hce2]; exact va_up_self _ _ _
  have f_A : ce2 (b + s.heap.size) = some (.inl (cI, 341, .inl (fun _ => 0))) := by rw [hce2, va_up_ne _ _ ne_A_T]; exact f_A
  subst hQQ
  exact xm_vret hx hb hr hlk hw ce2 rfl rfl ⟨f_T, f_A, (fun i i_T i_A => by rw [hce2, va_up_ne _ _ i_T]; rw [hce1, va_up_ne _ _ i_A])⟩ d_Pr_init_13
abbrev rm_Mo_init : Room := { frames := 1, cells := 14, slots := 4903, locals := 30 }
set_option maxHeartbeats 4000000 in
set_option maxRecDepth 100000 in
theorem c_Mo_init {l : Launch} {D : va_G} {ad : Nat → Nat} (ce : Nat → Option va_E) {b : Nat} {cI cZ cJ cO : ClassId} {iT : Nat} (hba : ∀ a, ad (b + a) = a) (f_T : ce iT = some (.inr (4, [.int 0, .null, .null, .int 0, .null, .null, .null, .null, .null, .null, .int 0, .int 0, .int 0, .int 0, .int 0, .int 0, .int 0, .null, .null, .int 0, .null, .int 0, .null, .null, .null, .int 0, .int 0, .int 0]))) : ∀ sz, Met l y_Mo_init (Cond.code y_Mo_init b_Mo_init 1 none :: xg) rm_Mo_init (xm_Pc D xcl (xT cI cZ cJ cO) ad ce sz [.ref (ad iT)]) (va_Qv (fun u : Nat → Option va_E => u iT = some (.inr (4, [.int 0, .ref (ad (b + sz)), .ref (ad (b + (sz + 1))), .int 0, .ref (ad (b + (sz + 2))), .ref (ad (b + (sz + 3))), .ref (ad (b + (sz + 4))), .ref (ad (b + (sz + 5))), .ref (ad (b + (sz + 6))), .ref (ad (b + (sz + 7))), .int 0, .int 0, .int 0, .int 0, .int 0, .int 0, .int 0, .ref (ad (b + (sz + 8))), .ref (ad (b + (sz + 9))), .int 0, .ref (ad (b + (sz + 10))), .int 0, .ref (ad (b + (sz + 11))), .ref (ad (b + (sz + 12))), .ref (ad (b + (sz + 13))), .int 0, .int 0, .int 0])) ∧ u (b + sz) = some (.inl (cI, 10, .inl (fun _ => 0))) ∧ u (b + (sz + 1)) = some (.inl (cZ, 10, .inl (fun _ => 0))) ∧ u (b + (sz + 2)) = some (.inl (cZ, 1000, .inl (fun _ => 0))) ∧ u (b + (sz + 3)) = some (.inl (cZ, 1000, .inl (fun _ => 0))) ∧ u (b + (sz + 4)) = some (.inl (cI, 124, .inl (fun _ => 0))) ∧ u (b + (sz + 5)) = some (.inl (cI, 124, .inl (fun _ => 0))) ∧ u (b + (sz + 6)) = some (.inl (cI, 124, .inl (fun _ => 0))) ∧ u (b + (sz + 7)) = some (.inl (cI, 31, .inl (fun _ => 0))) ∧ u (b + (sz + 8)) = some (.inl (cZ, 1210, .inl (fun _ => 0))) ∧ u (b + (sz + 9)) = some (.inl (cI, 1210, .inl (fun _ => 0))) ∧ u (b + (sz + 10)) = some (.inl (cZ, 40, .inl (fun _ => 0))) ∧ u (b + (sz + 11)) = some (.inl (cI, 8, .inl (fun _ => 0))) ∧ u (b + (sz + 12)) = some (.inl (cI, 8, .inl (fun _ => 0))) ∧ u (b + (sz + 13)) = some (.inl (cI, 4, .inl (fun _ => 0))) ∧ ∀ i, i ≠ iT → i ≠ b + sz → i ≠ b + (sz + 1) → i ≠ b + (sz + 2) → i ≠ b + (sz + 3) → i ≠ b + (sz + 4) → i ≠ b + (sz + 5) → i ≠ b + (sz + 6) → i ≠ b + (sz + 7) → i ≠ b + (sz + 8) → i ≠ b + (sz + 9) → i ≠ b + (sz + 10) → i ≠ b + (sz + 11) → i ≠ b + (sz + 12) → i ≠ b + (sz + 13) → u i = ce i) (xm_B D xcl (xT cI cZ cJ cO) (xm_A ad ce sz) (fun _ => ad) (fun u => u)) (xm_A ad ce sz)) 14 4903 (xm_A ad ce sz) := by
  refine xm_ofW (cc := b_Mo_init) (maxL := 1) (ret := none) (by decide) rfl (Nat.le_of_ble_eq_true rfl) ?_
  intro p e s m args below meth c ls QQ hQQ hx hb hml hr hown hlk hnm hts hl hw
  have hl : lv_has ls 1 [(0, .ref (ad iT))] := hl
  refine lv_aload_n hx hb d_Mo_init_0 rfl (lv_at hl 0 rfl) ?_
  refine xa_oi hx hb hown (hts _ (List.mem_cons_of_mem _ xw_561)) (hts _ (List.mem_cons_of_mem _ xw_27)) (hts _ (List.mem_cons_of_mem _ xw_28)) (hl.1.trans hml.symm) d_Mo_init_1 (by decide) (Nat.le_of_ble_eq_true rfl) ?_
  refine lv_aload_n hx hb d_Mo_init_4 rfl (lv_at hl 0 rfl) ?_
  refine lv_bipush (v := 10) hx hb d_Mo_init_5 (by decide) ?_
  have fr_A0 : ce (b + s.heap.size) = none := xa_free hw hba (Nat.le_of_eq rfl)
  have ne_T_A0 : iT ≠ (b + s.heap.size) := xa_ne f_T fr_A0
  have ne_A0_T : (b + s.heap.size) ≠ iT := Ne.symm ne_T_A0
  refine xa_newa (D := D) (b := b) (atype := .int) (N' := 10) (a0 := (10, .inl (fun _ => 0))) hx hb (hts _ (List.mem_cons_of_mem _ xw_55)) rfl hw hba 0 rfl (fun _ => rfl) (by decide) (by decide) (by decide) (by decide) (by decide) d_Mo_init_7 (fun H hz1 hw => ?_)
  have hz : H.size = s.heap.size + 1 := hz1
  obtain ⟨ce1, hce1⟩ : ∃ z, z = va_up ce (b + s.heap.size) (some (.inl (cI, 10, .inl (fun _ => 0)))) := ⟨_, rfl⟩
  have hw := xm_W.cast hce1.symm hw
  have f_T : ce1 iT = some (.inr (4, [.int 0, .null, .null, .int 0, .null, .null, .null, .null, .null, .null, .int 0, .int 0, .int 0, .int 0, .int 0, .int 0, .int 0, .null, .null, .int 0, .null, .int 0, .null, .null, .null, .int 0, .int 0, .int 0])) := by rw [hce1, va_up_ne _ _ ne_T_A0]; exact f_T
  have f_A0 : ce1 (b + s.heap.size) = some (.inl (cI, 10, .inl (fun _ => 0))) := by rw [hce1]; exact va_up_self _ _ _
  refine xa_putF (D := D) (v := .ref (ad (b + s.heap.size))) (ty := .array .int) (C := R_Mo) (T := F_Mo) (N := 28) hx hb hts (fun w h => List.mem_cons_of_mem _ (i_Mo w h)) t_Mo o_Mo n_Mo hown hw f_T rfl 1 (by decide) (hts _ (List.mem_cons_of_mem _ xw_563)) (fun _ h9 => h9) rfl hnm rfl (by decide +kernel) rfl rfl (Nat.le_of_ble_eq_true rfl) d_Mo_init_9 (fun H locs hz1 hw => ?_)
  rw [hz] at hz1
  have hz : H.size = s.heap.size + 1 := hz1
  obtain ⟨ce2, hce2⟩ : ∃ z, z = va_up ce1 iT (some (.inr (4, [.int 0, .ref (ad (b + s.heap.size)), .null, .int 0, .null, .null, .null, .null, .null, .null, .int 0, .int 0, .int 0, .int 0, .int 0, .int 0, .int 0, .null, .null, .int 0, .null, .int 0, .null, .null, .null, .int 0, .int 0, .int 0]))) := ⟨_, rfl⟩
  have hw := xm_W.cast hce2.symm hw
  have f_T : ce2 iT = some (.inr (4, [.int 0, .ref (ad (b + s.heap.size)), .null, .int 0, .null, .null, .null, .null, .null, .null, .int 0, .int 0, .int 0, .int 0, .int 0, .int 0, .int 0, .null, .null, .int 0, .null, .int 0, .null, .null, .null, .int 0, .int 0, .int 0])) := by rw [hce2]; exact va_up_self _ _ _
  have f_A0 : ce2 (b + s.heap.size) = some (.inl (cI, 10, .inl (fun _ => 0))) := by rw [hce2, va_up_ne _ _ ne_A0_T]; exact f_A0
  refine lv_aload_n hx hb d_Mo_init_12 rfl (lv_at hl 0 rfl) ?_
  refine lv_bipush (v := 10) hx hb d_Mo_init_13 (by decide) ?_
  have fr_A1 : ce2 (b + (s.heap.size + 1)) = none := xa_free hw hba (Nat.le_of_eq hz)
  have ne_T_A1 : iT ≠ (b + (s.heap.size + 1)) := xa_ne f_T fr_A1
  have ne_A1_T : (b + (s.heap.size + 1)) ≠ iT := Ne.symm ne_T_A1
  have ne_A0_A1 : (b + s.heap.size) ≠ (b + (s.heap.size + 1)) := xa_ne f_A0 fr_A1
  have ne_A1_A0 : (b + (s.heap.size + 1)) ≠ (b + s.heap.size) := Ne.symm ne_A0_A1
  refine xa_newa (D := D) (b := b) (atype := .boolean) (N' := 10) (a0 := (10, .inl (fun _ => 0))) hx hb (hts _ (List.mem_cons_of_mem _ xw_56)) rfl hw hba 1 rfl (fun _ => rfl) (by decide) (by decide) (by decide) (by decide) (by decide) d_Mo_init_15 (fun H hz1 hw => ?_)
  rw [hz] at hz1 hw
  rw [hz]
  have hz : H.size = s.heap.size + 2 := hz1
  obtain ⟨ce3, hce3⟩ : ∃ z, z = va_up ce2 (b + (s.heap.size + 1)) (some (.inl (cZ, 10, .inl (fun _ => 0)))) := ⟨_, rfl⟩
  have hw := xm_W.cast hce3.symm hw
  have f_T : ce3 iT = some (.inr (4, [.int 0, .ref (ad (b + s.heap.size)), .null, .int 0, .null, .null, .null, .null, .null, .null, .int 0, .int 0, .int 0, .int 0, .int 0, .int 0, .int 0, .null, .null, .int 0, .null, .int 0, .null, .null, .null, .int 0, .int 0, .int 0])) := by rw [hce3, va_up_ne _ _ ne_T_A1]; exact f_T
  have f_A0 : ce3 (b + s.heap.size) = some (.inl (cI, 10, .inl (fun _ => 0))) := by rw [hce3, va_up_ne _ _ ne_A0_A1]; exact f_A0
  have f_A1 : ce3 (b + (s.heap.size + 1)) = some (.inl (cZ, 10, .inl (fun _ => 0))) := by rw [hce3]; exact va_up_self _ _ _
  refine xa_putF (D := D) (v := .ref (ad (b + (s.heap.size + 1)))) (ty := .array .boolean) (C := R_Mo) (T := F_Mo) (N := 28) hx hb hts (fun w h => List.mem_cons_of_mem _ (i_Mo w h)) t_Mo o_Mo n_Mo hown hw f_T rfl 2 (by decide) (hts _ (List.mem_cons_of_mem _ xw_564)) (fun _ h9 => h9) rfl hnm rfl (by decide +kernel) rfl rfl (Nat.le_of_ble_eq_true rfl) d_Mo_init_17 (fun H locs hz1 hw => ?_)
  rw [hz] at hz1
  have hz : H.size = s.heap.size + 2 := hz1
  obtain ⟨ce4, hce4⟩ : ∃ z, z = va_up ce3 iT (some (.inr (4, [.int 0, .ref (ad (b + s.heap.size)), .ref (ad (b + (s.heap.size + 1))), .int 0, .null, .null, .null, .null, .null, .null, .int 0, .int 0, .int 0, .int 0, .int 0, .int 0, .int 0, .null, .null, .int 0, .null, .int 0, .null, .null, .null, .int 0, .int 0, .int 0]))) := ⟨_, rfl⟩
  have hw := xm_W.cast hce4.symm hw
  have f_T : ce4 iT = some (.inr (4, [.int 0, .ref (ad (b + s.heap.size)), .ref (ad (b + (s.heap.size + 1))), .int 0, .null, .null, .null, .null, .null, .null, .int 0, .int 0, .int 0, .int 0, .int 0, .int 0, .int 0, .null, .null, .int 0, .null, .int 0, .null, .null, .null, .int 0, .int 0, .int 0])) := by rw [hce4]; exact va_up_self _ _ _
  have f_A0 : ce4 (b + s.heap.size) = some (.inl (cI, 10, .inl (fun _ => 0))) := by rw [hce4, va_up_ne _ _ ne_A0_T]; exact f_A0
  have f_A1 : ce4 (b + (s.heap.size + 1)) = some (.inl (cZ, 10, .inl (fun _ => 0))) := by rw [hce4, va_up_ne _ _ ne_A1_T]; exact f_A1
  refine lv_aload_n hx hb d_Mo_init_20 rfl (lv_at hl 0 rfl) ?_
  refine lv_sipush (v := 1000) hx hb d_Mo_init_21 (by decide) ?_
  have fr_A2 : ce4 (b + (s.heap.size + 2)) = none := xa_free hw hba (Nat.le_of_eq hz)
  have ne_T_A2 : iT ≠ (b + (s.heap.size + 2)) := xa_ne f_T fr_A2
  have ne_A2_T : (b + (s.heap.size + 2)) ≠ iT := Ne.symm ne_T_A2
  have ne_A0_A2 : (b + s.heap.size) ≠ (b + (s.heap.size + 2)) := xa_ne f_A0 fr_A2
  have ne_A2_A0 : (b + (s.heap.size + 2)) ≠ (b + s.heap.size) := Ne.symm ne_A0_A2
  have ne_A1_A2 : (b + (s.heap.size + 1)) ≠ (b + (s.heap.size + 2)) := xa_ne f_A1 fr_A2
  have ne_A2_A1 : (b + (s.heap.size + 2)) ≠ (b + (s.heap.size + 1)) := Ne.symm ne_A1_A2
  refine xa_newa (D := D) (b := b) (atype := .boolean) (N' := 1000) (a0 := (1000, .inl (fun _ => 0))) hx hb (hts _ (List.mem_cons_of_mem _ xw_56)) rfl hw hba 1 rfl (fun _ => rfl) (by decide) (by decide) (by decide) (by decide) (by decide) d_Mo_init_24 (fun H hz1 hw => ?_)
  rw [hz] at hz1 hw
  rw [hz]
  have hz : H.size = s.heap.size + 3 := hz1
  obtain ⟨ce5, hce5⟩ : ∃ z, z = va_up ce4 (b + (s.heap.size + 2)) (some (.inl (cZ, 1000, .inl (fun _ => 0)))) := ⟨_, rfl⟩
  have hw := xm_W.cast hce5.symm hw
  have f_T : ce5 iT = some (.inr (4, [.int 0, .ref (ad (b + s.heap.size)), .ref (ad (b + (s.heap.size + 1))), .int 0, .null, .null, .null, .null, .null, .null, .int 0, .int 0, .int 0, .int 0, .int 0, .int 0, .int 0, .null, .null, .int 0, .null, .int 0, .null, .null, .null, .int 0, .int 0, .int 0])) := by rw [hce5, va_up_ne _ _ ne_T_A2]; exact f_T
  have f_A0 : ce5 (b + s.heap.size) = some (.inl (cI, 10, .inl (fun _ => 0))) := by rw [hce5, va_up_ne _ _ ne_A0_A2]; exact f_A0
  have f_A1 : ce5 (b + (s.heap.size + 1)) = some (.inl (cZ, 10, .inl (fun _ => 0))) := by rw [hce5, va_up_ne _ _ ne_A1_A2]; exact f_A1
  have f_A2 : ce5 (b + (s.heap.size + 2)) = some (.inl (cZ, 1000, .inl (fun _ => 0))) := by rw [hce5]; exact va_up_self _ _ _
  refine xa_putF (D := D) (v := .ref (ad (b + (s.heap.size + 2)))) (ty := .array .boolean) (C := R_Mo) (T := F_Mo) (N := 28) hx hb hts (fun w h => List.mem_cons_of_mem _ (i_Mo w h)) t_Mo o_Mo n_Mo hown hw f_T rfl 4 (by decide) (hts _ (List.mem_cons_of_mem _ xw_566)) (fun _ h9 => h9) rfl hnm rfl (by decide +kernel) rfl rfl (Nat.le_of_ble_eq_true rfl) d_Mo_init_26 (fun H locs hz1 hw => ?_)
  rw [hz] at hz1
  have hz : H.size = s.heap.size + 3 := hz1
  obtain ⟨ce6, hce6⟩ : ∃ z, z = va_up ce5 iT (some (.inr (4, [.int 0, .ref (ad (b + s.heap.size)), .ref (ad (b + (s.heap.size + 1))), .int 0, .ref (ad (b + (s.heap.size + 2))), .null, .null, .null, .null, .null, .int 0, .int 0, .int 0, .int 0, .int 0, .int 0, .int 0, .null, .null, .int 0, .null, .int 0, .null, .null, .null, .int 0, .int 0, .int 0]))) := ⟨_, rfl⟩
  have hw := xm_W.cast hce6.symm hw
  have f_T : ce6 iT = some (.inr (4, [.int 0, .ref (ad (b + s.heap.size)), .ref (ad (b + (s.heap.size + 1))), .int 0, .ref (ad (b + (s.heap.size + 2))), .null, .null, .null, .null, .null, .int 0, .int 0, .int 0, .int 0, .int 0, .int 0, .int 0, .null, .null, .int 0, .null, .int 0, .null, .null, .null, .int 0, .int 0, .int 0])) := by rw [hce6]; exact va_up_self _ _ _
  have f_A0 : ce6 (b + s.heap.size) = some (.inl (cI, 10, .inl (fun _ => 0))) := by rw [hce6, va_up_ne _ _ ne_A0_T]; exact f_A0
  have f_A1 : ce6 (b + (s.heap.size + 1)) = some (.inl (cZ, 10, .inl (fun _ => 0))) := by rw [hce6, va_up_ne _ _ ne_A1_T]; exact f_A1
  have f_A2 : ce6 (b + (s.heap.size + 2)) = some (.inl (cZ, 1000, .inl (fun _ => 0))) := by rw [hce6, va_up_ne _ _ ne_A2_T]; exact f_A2
  refine lv_aload_n hx hb d_Mo_init_29 rfl (lv_at hl 0 rfl) ?_
  refine lv_sipush (v := 1000) hx hb d_Mo_init_30 (by decide) ?_
  have fr_A3 : ce6 (b + (s.heap.size + 3)) = none := xa_free hw hba (Nat.le_of_eq hz)
  have ne_T_A3 : iT ≠ (b + (s.heap.size + 3)) := xa_ne f_T fr_A3
  have ne_A3_T : (b + (s.heap.size + 3)) ≠ iT := Ne.symm ne_T_A3
  have ne_A0_A3 : (b + s.heap.size) ≠ (b + (s.heap.size + 3)) := xa_ne f_A0 fr_A3
  have ne_A3_A0 : (b + (s.heap.size + 3)) ≠ (b + s.heap.size) := Ne.symm ne_A0_A3
  have ne_A1_A3 : (b + (s.heap.size + 1)) ≠ (b + (s.heap.size + 3)) := xa_ne f_A1 fr_A3
  have ne_A3_A1 : (b + (s.heap.size + 3)) ≠ (b + (s.heap.size + 1)) := Ne.symm ne_A1_A3
  have ne_A2_A3 : (b + (s.heap.size + 2)) ≠ (b + (s.heap.size + 3)) := xa_ne f_A2 fr_A3
  have ne_A3_A2 : (b + (s.heap.size + 3)) ≠ (b + (s.heap.size + 2)) := Ne.symm ne_A2_A3
  refine xa_newa (D := D) (b := b) (atype := .boolean) (N' := 1000) (a0 := (1000, .inl (fun _ => 0))) hx hb (hts _ (List.mem_cons_of_mem _ xw_56)) rfl hw hba 1 rfl (fun _ => rfl) (by decide) (by decide) (by decide) (by decide) (by decide) d_Mo_init_33 (fun H hz1 hw => ?_)
  rw [hz] at hz1 hw
  rw [hz]
  have hz : H.size = s.heap.size + 4 := hz1
  obtain ⟨ce7, hce7⟩ : ∃ z, z = va_up ce6 (b + (s.heap.size + 3)) (some (.inl (cZ, 1000, .inl (fun _ => 0)))) := ⟨_, rfl⟩
  have hw := xm_W.cast hce7.symm hw
  have f_T : ce7 iT = some (.inr (4, [.int 0, .ref (ad (b + s.heap.size)), .ref (ad (b + (s.heap.size + 1))), .int 0, .ref (ad (b + (s.heap.size + 2))), .null, .null, .null, .null, .null, .int 0, .int 0, .int 0, .int 0, .int 0, .int 0, .int 0, .null, .null, .int 0, .null, .int 0, .null, .null, .null, .int 0, .int 0, .int 0])) := by rw [hce7, va_up_ne _ _ ne_T_A3]; exact f_T
  have f_A0 : ce7 (b + s.heap.size) = some (.inl (cI, 10, .inl (fun _ => 0))) := by rw [hce7, va_up_ne _ _ ne_A0_A3]; exact f_A0
  have f_A1 : ce7 (b + (s.heap.size + 1)) = some (.inl (cZ, 10, .inl (fun _ => 0))) := by rw [hce7, va_up_ne _ _ ne_A1_A3]; exact f_A1
  have f_A2 : ce7 (b + (s.heap.size + 2)) = some (.inl (cZ, 1000, .inl (fun _ => 0))) := by rw [hce7, va_up_ne _ _ ne_A2_A3]; exact f_A2
  have f_A3 : ce7 (b + (s.heap.size + 3)) = some (.inl (cZ, 1000, .inl (fun _ => 0))) := by rw [hce7]; exact va_up_self _ _ _
  refine xa_putF (D := D) (v := .ref (ad (b + (s.heap.size + 3)))) (ty := .array .boolean) (C := R_Mo) (T := F_Mo) (N := 28) hx hb hts (fun w h => List.mem_cons_of_mem _ (i_Mo w h)) t_Mo o_Mo n_Mo hown hw f_T rfl 5 (by decide) (hts _ (List.mem_cons_of_mem _ xw_567)) (fun _ h9 => h9) rfl hnm rfl (by decide +kernel) rfl rfl (Nat.le_of_ble_eq_true rfl) d_Mo_init_35 (fun H locs hz1 hw => ?_)
  rw [hz] at hz1
  have hz : H.size = s.heap.size + 4 := hz1
  obtain ⟨ce8, hce8⟩ : ∃ z, z = va_up ce7 iT (some (.inr (4, [.int 0, .ref (ad (b + s.heap.size)), .ref (ad (b + (s.heap.size + 1))), .int 0, .ref (ad (b + (s.heap.size + 2))), .ref (ad (b + (s.heap.size + 3))), .null, .null, .null, .null, .int 0, .int 0, .int 0, .int 0, .int 0, .int 0, .int 0, .null, .null, .int 0, .null, .int 0, .null, .null, .null, .int 0, .int 0, .int 0]))) := ⟨_, rfl⟩
  have hw := xm_W.cast hce8.symm hw
  have f_T : ce8 iT = some (.inr (4, [.int 0, .ref (ad (b + s.heap.size)), .ref (ad (b + (s.heap.size + 1))), .int 0, .ref (ad (b + (s.heap.size + 2))), .ref (ad (b + (s.heap.size + 3))), .null, .null, .null, .null, .int 0, .int 0, .int 0, .int 0, .int 0, .int 0, .int 0, .null, .null, .int 0, .null, .int 0, .null, .null, .null, .int 0, .int 0, .int 0])) := by rw [hce8]; exact va_up_self _ _ _
  have f_A0 : ce8 (b + s.heap.size) = some (.inl (cI, 10, .inl (fun _ => 0))) := by rw [hce8, va_up_ne _ _ ne_A0_T]; exact f_A0
  have f_A1 : ce8 (b + (s.heap.size + 1)) = some (.inl (cZ, 10, .inl (fun _ => 0))) := by rw [hce8, va_up_ne _ _ ne_A1_T]; exact f_A1
  have f_A2 : ce8 (b + (s.heap.size + 2)) = some (.inl (cZ, 1000, .inl (fun _ => 0))) := by rw [hce8, va_up_ne _ _ ne_A2_T]; exact f_A2
  have f_A3 : ce8 (b + (s.heap.size + 3)) = some (.inl (cZ, 1000, .inl (fun _ => 0))) := by rw [hce8, va_up_ne _ _ ne_A3_T]; exact f_A3
  refine lv_aload_n hx hb d_Mo_init_38 rfl (lv_at hl 0 rfl) ?_
  refine lv_bipush (v := 124) hx hb d_Mo_init_39 (by decide) ?_
  have fr_A4 : ce8 (b + (s.heap.size + 4)) = none := xa_free hw hba (Nat.le_of_eq hz)
  have ne_T_A4 : iT ≠ (b + (s.heap.size + 4)) := xa_ne f_T fr_A4
  have ne_A4_T : (b + (s.heap.size + 4)) ≠ iT := Ne.symm ne_T_A4
  have ne_A0_A4 : (b + s.heap.size) ≠ (b + (s.heap.size + 4)) := xa_ne f_A0 fr_A4
  have ne_A4_A0 : (b + (s.heap.size + 4)) ≠ (b + s.heap.size) := Ne.symm ne_A0_A4
  have ne_A1_A4 : (b + (s.heap.size + 1)) ≠ (b + (s.heap.size + 4)) := xa_ne f_A1 fr_A4
  have ne_A4_A1 : (b + (s.heap.size + 4)) ≠ (b + (s.heap.size + 1)) := Ne.symm ne_A1_A4
  have ne_A2_A4 : (b + (s.heap.size + 2)) ≠ (b + (s.heap.size + 4)) := xa_ne f_A2 fr_A4
  have ne_A4_A2 : (b + (s.heap.size + 4)) ≠ (b + (s.heap.size + 2)) := Ne.symm ne_A2_A4
  have ne_A3_A4 : (b + (s.heap.size + 3)) ≠ (b + (s.heap.size + 4)) := xa_ne f_A3 fr_A4
  have ne_A4_A3 : (b + (s.heap.size + 4)) ≠ (b + (s.heap.size + 3)) := Ne.symm ne_A3_A4
  refine xa_newa (D := D) (b := b) (atype := .int) (N' := 124) (a0 := (124, .inl (fun _ => 0))) hx hb (hts _ (List.mem_cons_of_mem _ xw_55)) rfl hw hba 0 rfl (fun _ => rfl) (by decide) (by decide) (by decide) (by decide) (by decide) d_Mo_init_41 (fun H hz1 hw => ?_)
  rw [hz] at hz1 hw
  rw [hz]
  have hz : H.size = s.heap.size + 5 := hz1
  obtain ⟨ce9, hce9⟩ : ∃ z, z = va_up ce8 (b + (s.heap.size + 4)) (some (.inl (cI, 124, .inl (fun _ => 0)))) := ⟨_, rfl⟩
  have hw := xm_W.cast hce9.symm hw
  have f_T : ce9 iT = some (.inr (4, [.int 0, .ref (ad (b + s.heap.size)), .ref (ad (b + (s.heap.size + 1))), .int 0, .ref (ad (b + (s.heap.size + 2))), .ref (ad (b + (s.heap.size + 3))), .null, .null, .null, .null, .int 0, .int 0, .int 0, .int 0, .int 0, .int 0, .int 0, .null, .null, .int 0, .null, .int 0, .null, .null, .null, .int 0, .int 0, .int 0])) := by rw [hce9, va_up_ne _ _ ne_T_A4]; exact f_T
  have f_A0 : ce9 (b + s.heap.size) = some (.inl (cI, 10, .inl (fun _ => 0))) := by rw [hce9, va_up_ne _ _ ne_A0_A4]; exact f_A0
  have f_A1 : ce9 (b + (s.heap.size + 1)) = some (.inl (cZ, 10, .inl (fun _ => 0))) := by rw [hce9, va_up_ne _ _ ne_A1_A4]; exact f_A1
  have f_A2 : ce9 (b + (s.heap.size + 2)) = some (.inl (cZ, 1000, .inl (fun _ => 0))) := by rw [hce9, va_up_ne _ _ ne_A2_A4]; exact f_A2
  have f_A3 : ce9 (b + (s.heap.size + 3)) = some (.inl (cZ, 1000, .inl (fun _ => 0))) := by rw [hce9, va_up_ne _ _ ne_A3_A4]; exact f_A3
  have f_A4 : ce9 (b + (s.heap.size + 4)) = some (.inl (cI, 124, .inl (fun _ => 0))) := by rw [hce9]; exact va_up_self _ _ _
  refine xa_putF (D := D) (v := .ref (ad (b + (s.heap.size + 4)))) (ty := .array .int) (C := R_Mo) (T := F_Mo) (N := 28) hx hb hts (fun w h => List.mem_cons_of_mem _ (i_Mo w h)) t_Mo o_Mo n_Mo hown hw f_T rfl 6 (by decide) (hts _ (List.mem_cons_of_mem _ xw_568)) (fun _ h9 => h9) rfl hnm rfl (by decide +kernel) rfl rfl (Nat.le_of_ble_eq_true rfl) d_Mo_init_43 (fun H locs hz1 hw => ?_)
  rw [hz] at hz1
  have hz : H.size = s.heap.size + 5 := hz1
  obtain ⟨ce10, hce10⟩ : ∃ z, z = va_up ce9 iT (some (.inr (4, [.int 0, .ref (ad (b + s.heap.size)), .ref (ad (b + (s.heap.size + 1))), .int 0, .ref (ad (b + (s.heap.size + 2))), .ref (ad (b + (s.heap.size + 3))), .ref (ad (b + (s.heap.size + 4))), .null, .null, .null, .int 0, .int 0, .int 0, .int 0, .int 0, .int 0, .int 0, .null, .null, .int 0, .null, .int 0, .null, .null, .null, .int 0, .int 0, .int 0]))) := ⟨_, rfl⟩
  have hw := xm_W.cast hce10.symm hw
  have f_T : ce10 iT = some (.inr (4, [.int 0, .ref (ad (b + s.heap.size)), .ref (ad (b + (s.heap.size + 1))), .int 0, .ref (ad (b + (s.heap.size + 2))), .ref (ad (b + (s.heap.size + 3))), .ref (ad (b + (s.heap.size + 4))), .null, .null, .null, .int 0, .int 0, .int 0, .int 0, .int 0, .int 0, .int 0, .null, .null, .int 0, .null, .int 0, .null, .null, .null, .int 0, .int 0, .int 0])) := by rw [hce10]; exact va_up_self _ _ _
  have f_A0 : ce10 (b + s.heap.size) = some (.inl (cI, 10, .inl (fun _ => 0))) := by rw [hce10, va_up_ne _ _ ne_A0_T]; exact f_A0
  have f_A1 : ce10 (b + (s.heap.size + 1)) = some (.inl (cZ, 10, .inl (fun _ => 0))) := by rw [hce10, va_up_ne _ _ ne_A1_T]; exact f_A1
  have f_A2 : ce10 (b + (s.heap.size + 2)) = some (.inl (cZ, 1000, .inl (fun _ => 0))) := by rw [hce10, va_up_ne _ _ ne_A2_T]; exact f_A2
  have f_A3 : ce10 (b + (s.heap.size + 3)) = some (.inl (cZ, 1000, .inl (fun _ => 0))) := by rw [hce10, va_up_ne _ _ ne_A3_T]; exact f_A3
  have f_A4 : ce10 (b + (s.heap.size + 4)) = some (.inl (cI, 124, .inl (fun _ => 0))) := by rw [hce10, va_up_ne _ _ ne_A4_T]; exact f_A4
  refine lv_aload_n hx hb d_Mo_init_46 rfl (lv_at hl 0 rfl) ?_
  refine lv_bipush (v := 124) hx hb d_Mo_init_47 (by decide) ?_
  have fr_A5 : ce10 (b + (s.heap.size + 5)) = none := xa_free hw hba (Nat.le_of_eq hz)
  have ne_T_A5 : iT ≠ (b + (s.heap.size + 5)) := xa_ne f_T fr_A5
  have ne_A5_T : (b + (s.heap.size + 5)) ≠ iT := Ne.symm ne_T_A5
  have ne_A0_A5 : (b + s.heap.size) ≠ (b + (s.heap.size + 5)) := xa_ne f_A0 fr_A5
  have ne_A5_A0 : (b + (s.heap.size + 5)) ≠ (b + s.heap.size) := Ne.symm ne_A0_A5
  have ne_A1_A5 : (b + (s.heap.size + 1)) ≠ (b + (s.heap.size + 5)) := xa_ne f_A1 fr_A5
  have ne_A5_A1 : (b + (s.heap.size + 5)) ≠ (b + (s.heap.size + 1)) := Ne.symm ne_A1_A5
  have ne_A2_A5 : (b + (s.heap.size + 2)) ≠ (b + (s.heap.size + 5)) := xa_ne f_A2 fr_A5
  have ne_A5_A2 : (b + (s.heap.size + 5)) ≠ (b + (s.heap.size + 2)) := Ne.symm ne_A2_A5
  have ne_A3_A5 : (b + (s.heap.size + 3)) ≠ (b + (s.heap.size + 5)) := xa_ne f_A3 fr_A5
  have ne_A5_A3 : (b + (s.heap.size + 5)) ≠ (b + (s.heap.size + 3)) := Ne.symm ne_A3_A5
  have ne_A4_A5 : (b + (s.heap.size + 4)) ≠ (b + (s.heap.size + 5)) := xa_ne f_A4 fr_A5
  have ne_A5_A4 : (b + (s.heap.size + 5)) ≠ (b + (s.heap.size + 4)) := Ne.symm ne_A4_A5
  refine xa_newa (D := D) (b := b) (atype := .int) (N' := 124) (a0 := (124, .inl (fun _ => 0))) hx hb (hts _ (List.mem_cons_of_mem _ xw_55)) rfl hw hba 0 rfl (fun _ => rfl) (by decide) (by decide) (by decide) (by decide) (by decide) d_Mo_init_49 (fun H hz1 hw => ?_)
  rw [hz] at hz1 hw
  rw [hz]
  have hz : H.size = s.heap.size + 6 := hz1
  obtain ⟨ce11, hce11⟩ : ∃ z, z = va_up ce10 (b + (s.heap.size + 5)) (some (.inl (cI, 124, .inl (fun _ => 0)))) := ⟨_, rfl⟩
  have hw := xm_W.cast hce11.symm hw
  have f_T : ce11 iT = some (.inr (4, [.int 0, .ref (ad (b + s.heap.size)), .ref (ad (b + (s.heap.size + 1))), .int 0, .ref (ad (b + (s.heap.size + 2))), .ref (ad (b + (s.heap.size + 3))), .ref (ad (b + (s.heap.size + 4))), .null, .null, .null, .int 0, .int 0, .int 0, .int 0, .int 0, .int 0, .int 0, .null, .null, .int 0, .null, .int 0, .null, .null, .null, .int 0, .int 0, .int 0])) := by rw [hce11, va_up_ne _ _ ne_T_A5]; exact f_T
  have f_A0 : ce11 (b + s.heap.size) = some (.inl (cI, 10, .inl (fun _ => 0))) := by rw [hce11, va_up_ne _ _ ne_A0_A5]; exact f_A0
  have f_A1 : ce11 (b + (s.heap.size + 1)) = some (.inl (cZ, 10, .inl (fun _ => 0))) := by rw [hce11, va_up_ne _ _ ne_A1_A5]; exact f_A1
  have f_A2 : ce11 (b + (s.heap.size + 2)) = some (.inl (cZ, 1000, .inl (fun _ => 0))) := by rw [hce11, va_up_ne _ _ ne_A2_A5]; exact f_A2
  have f_A3 : ce11 (b + (s.heap.size + 3)) = some (.inl (cZ, 1000, .inl (fun _ => 0))) := by rw [hce11, va_up_ne _ _ ne_A3_A5]; exact f_A3
  have f_A4 : ce11 (b + (s.heap.size + 4)) = some (.inl (cI, 124, .inl (fun _ => 0))) := by rw [hce11, va_up_ne _ _ ne_A4_A5]; exact f_A4
  have f_A5 : ce11 (b + (s.heap.size + 5)) = some (.inl (cI, 124, .inl (fun _ => 0))) := by rw [hce11]; exact va_up_self _ _ _
  refine xa_putF (D := D) (v := .ref (ad (b + (s.heap.size + 5)))) (ty := .array .int) (C := R_Mo) (T := F_Mo) (N := 28) hx hb hts (fun w h => List.mem_cons_of_mem _ (i_Mo w h)) t_Mo o_Mo n_Mo hown hw f_T rfl 7 (by decide) (hts _ (List.mem_cons_of_mem _ xw_569)) (fun _ h9 => h9) rfl hnm rfl (by decide +kernel) rfl rfl (Nat.le_of_ble_eq_true rfl) d_Mo_init_51 (fun H locs hz1 hw => ?_)
  rw [hz] at hz1
  have hz : H.size = s.heap.size + 6 := hz1
  obtain ⟨ce12, hce12⟩ : ∃ z, z = va_up ce11 iT (some (.inr (4, [.int 0, .ref (ad (b + s.heap.size)), .ref (ad (b + (s.heap.size + 1))), .int 0, .ref (ad (b + (s.heap.size + 2))), .ref (ad (b + (s.heap.size + 3))), .ref (ad (b + (s.heap.size + 4))), .ref (ad (b + (s.heap.size + 5))), .null, .null, .int 0, .int 0, .int 0, .int 0, .int 0, .int 0, .int 0, .null, .null, .int 0, .null, .int 0, .null, .null, .null, .int 0, .int 0, .int 0]))) := ⟨_, rfl⟩
  have hw := xm_W.cast hce12.symm hw
  have f_T : ce12 iT = some (.inr (4, [.int 0, .ref (ad (b + s.heap.size)), .ref (ad (b + (s.heap.size + 1))), .int 0, .ref (ad (b + (s.heap.size + 2))), .ref (ad (b + (s.heap.size + 3))), .ref (ad (b + (s.heap.size + 4))), .ref (ad (b + (s.heap.size + 5))), .null, .null, .int 0, .int 0, .int 0, .int 0, .int 0, .int 0, .int 0, .null, .null, .int 0, .null, .int 0, .null, .null, .null, .int 0, .int 0, .int 0])) := by rw [hce12]; exact va_up_self _ _ _
  have f_A0 : ce12 (b + s.heap.size) = some (.inl (cI, 10, .inl (fun _ => 0))) := by rw [hce12, va_up_ne _ _ ne_A0_T]; exact f_A0
  have f_A1 : ce12 (b + (s.heap.size + 1)) = some (.inl (cZ, 10, .inl (fun _ => 0))) := by rw [hce12, va_up_ne _ _ ne_A1_T]; exact f_A1
  have f_A2 : ce12 (b + (s.heap.size + 2)) = some (.inl (cZ, 1000, .inl (fun _ => 0))) := by rw [hce12, va_up_ne _ _ ne_A2_T]; exact f_A2
  have f_A3 : ce12 (b + (s.heap.size + 3)) = some (.inl (cZ, 1000, .inl (fun _ => 0))) := by rw [hce12, va_up_ne _ _ ne_A3_T]; exact f_A3
  have f_A4 : ce12 (b + (s.heap.size + 4)) = some (.inl (cI, 124, .inl (fun _ => 0))) := by rw [hce12, va_up_ne _ _ ne_A4_T]; exact f_A4
  have f_A5 : ce12 (b + (s.heap.size + 5)) = some (.inl (cI, 124, .inl (fun _ => 0))) := by rw [hce12, va_up_ne _ _ ne_A5_T]; exact f_A5
  refine lv_aload_n hx hb d_Mo_init_54 rfl (lv_at hl 0 rfl) ?_
  refine lv_bipush (v := 124) hx hb d_Mo_init_55 (by decide) ?_
  have fr_A6 : ce12 (b + (s.heap.size + 6)) = none := xa_free hw hba (Nat.le_of_eq hz)
  have ne_T_A6 : iT ≠ (b + (s.heap.size + 6)) := xa_ne f_T fr_A6
  have ne_A6_T : (b + (s.heap.size + 6)) ≠ iT := Ne.symm ne_T_A6
  have ne_A0_A6 : (b + s.heap.size) ≠ (b + (s.heap.size + 6)) := xa_ne f_A0 fr_A6
  have ne_A6_A0 : (b + (s.heap.size + 6)) ≠ (b + s.heap.size) := Ne.symm ne_A0_A6
  have ne_A1_A6 : (b + (s.heap.size + 1)) ≠ (b + (s.heap.size + 6)) := xa_ne f_A1 fr_A6
  have ne_A6_A1 : (b + (s.heap.size + 6)) ≠ (b + (s.heap.size + 1)) := Ne.symm ne_A1_A6
  have ne_A2_A6 : (b + (s.heap.size + 2)) ≠ (b + (s.heap.size + 6)) := xa_ne f_A2 fr_A6
  have ne_A6_A2 : (b + (s.heap.size + 6)) ≠ (b + (s.heap.size + 2)) := Ne.symm ne_A2_A6
  have ne_A3_A6 : (b + (s.heap.size + 3)) ≠ (b + (s.heap.size + 6)) := xa_ne f_A3 fr_A6
  have ne_A6_A3 : (b + (s.heap.size + 6)) ≠ (b + (s.heap.size + 3)) := Ne.symm ne_A3_A6
  have ne_A4_A6 : (b + (s.heap.size + 4)) ≠ (b + (s.heap.size + 6)) := xa_ne f_A4 fr_A6
  have ne_A6_A4 : (b + (s.heap.size + 6)) ≠ (b + (s.heap.size + 4)) := Ne.symm ne_A4_A6
  have ne_A5_A6 : (b + (s.heap.size + 5)) ≠ (b + (s.heap.size + 6)) := xa_ne f_A5 fr_A6
  have ne_A6_A5 : (b + (s.heap.size + 6)) ≠ (b + (s.heap.size + 5)) := Ne.symm ne_A5_A6
  refine xa_newa (D := D) (b := b) (atype := .int) (N' := 124) (a0 := (124, .inl (fun _ => 0))) hx hb (hts _ (List.mem_cons_of_mem _ xw_55)) rfl hw hba 0 rfl (fun _ => rfl) (by decide) (by decide) (by decide) (by decide) (by decide) d_Mo_init_57 (fun H hz1 hw => ?_)
  rw [hz] at hz1 hw
  rw [hz]
  have hz : H.size = s.heap.size + 7 := hz1
  obtain ⟨ce13, hce13⟩ : ∃ z, z = va_up ce12 (b + (s.heap.size + 6)) (some (.inl (cI, 124, .inl (fun _ => 0)))) := ⟨_, rfl⟩
  have hw := xm_W.cast hce13.symm hw
  have f_T : ce13 iT = some (.inr (4, [.int 0, .ref (ad (b + s.heap.size)), .ref (ad (b + (s.heap.size + 1))), .int 0, .ref (ad (b + (s.heap.size + 2))), .ref (ad (b + (s.heap.size + 3))), .ref (ad (b + (s.heap.size + 4))), .ref (ad (b + (s.heap.size + 5))), .null, .null, .int 0, .int 0, .int 0, .int 0, .int 0, .int 0, .int 0, .null, .null, .int 0, .null, .int 0, .null, .null, .null, .int 0, .int 0, .int 0])) := by rw [hce13, va_up_ne _ _ ne_T_A6]; exact f_T
  have f_A0 : ce13 (b + s.heap.size) = some (.inl (cI, 10, .inl (fun _ => 0))) := by rw [hce13, va_up_ne _ _ ne_A0_A6]; exact f_A0
  have f_A1 : ce13 (b + (s.heap.size + 1)) = some (.inl (cZ, 10, .inl (fun _ => 0))) := by rw [hce13, va_up_ne _ _ ne_A1_A6]; exact f_A1
  have f_A2 : ce13 (b + (s.heap.size + 2)) = some (.inl (cZ, 1000, .inl (fun _ => 0))) := by rw [hce13, va_up_ne _ _ ne_A2_A6]; exact f_A2
  have f_A3 : ce13 (b + (s.heap.size + 3)) = some (.inl (cZ, 1000, .inl (fun _ => 0))) := by rw [hce13, va_up_ne _ _ ne_A3_A6]; exact f_A3
  have f_A4 : ce13 (b + (s.heap.size + 4)) = some (.inl (cI, 124, .inl (fun _ => 0))) := by rw [hce13, va_up_ne _ _ ne_A4_A6]; exact f_A4
  have f_A5 : ce13 (b + (s.heap.size + 5)) = some (.inl (cI, 124, .inl (fun _ => 0))) := by rw [hce13, va_up_ne _ _ ne_A5_A6]; exact f_A5
  have f_A6 : ce13 (b + (s.heap.size + 6)) = some (.inl (cI, 124, .inl (fun _ => 0))) := by rw [hce13]; exact va_up_self _ _ _
  refine xa_putF (D := D) (v := .ref (ad (b + (s.heap.size + 6)))) (ty := .array .int) (C := R_Mo) (T := F_Mo) (N := 28) hx hb hts (fun w h => List.mem_cons_of_mem _ (i_Mo w h)) t_Mo o_Mo n_Mo hown hw f_T rfl 8 (by decide) (hts _ (List.mem_cons_of_mem _ xw_570)) (fun _ h9 => h9) rfl hnm rfl (by decide +kernel) rfl rfl (Nat.le_of_ble_eq_true rfl) d_Mo_init_59 (fun H locs hz1 hw => ?_)
  rw [hz] at hz1
  have hz : H.size = s.heap.size + 7 := hz1
  obtain ⟨ce14, hce14⟩ : ∃ z, z = va_up ce13 iT (some (.inr (4, [.int 0, .ref (ad (b + s.heap.size)), .ref (ad (b + (s.heap.size + 1))), .int 0, .ref (ad (b + (s.heap.size + 2))), .ref (ad (b + (s.heap.size + 3))), .ref (ad (b + (s.heap.size + 4))), .ref (ad (b + (s.heap.size + 5))), .ref (ad (b + (s.heap.size + 6))), .null, .int 0, .int 0, .int 0, .int 0, .int 0, .int 0, .int 0, .null, .null, .int 0, .null, .int 0, .null, .null, .null, .int 0, .int 0, .int 0]))) := ⟨_, rfl⟩
  have hw := xm_W.cast hce14.symm hw
  have f_T : ce14 iT = some (.inr (4, [.int 0, .ref (ad (b + s.heap.size)), .ref (ad (b + (s.heap.size + 1))), .int 0, .ref (ad (b + (s.heap.size + 2))), .ref (ad (b + (s.heap.size + 3))), .ref (ad (b + (s.heap.size + 4))), .ref (ad (b + (s.heap.size + 5))), .ref (ad (b + (s.heap.size + 6))), .null, .int 0, .int 0, .int 0, .int 0, .int 0, .int 0, .int 0, .null, .null, .int 0, .null, .int 0, .null, .null, .null, .int 0, .int 0, .int 0])) := by rw [hce14]; exact va_up_self _ _ _
  have f_A0 : ce14 (b + s.heap.size) = some (.inl (cI, 10, .inl (fun _ => 0))) := by rw [hce14, va_up_ne _ _ ne_A0_T]; exact f_A0
  have f_A1 : ce14 (b + (s.heap.size + 1)) = some (.inl (cZ, 10, .inl (fun _ => 0))) := by rw [hce14, va_up_ne _ _ ne_A1_T]; exact f_A1
  have f_A2 : ce14 (b + (s.heap.size + 2)) = some (.inl (cZ, 1000, .inl (fun _ => 0))) := by rw [hce14, va_up_ne _ _ ne_A2_T]; exact f_A2
  have f_A3 : ce14 (b + (s.heap.size + 3)) = some (.inl (cZ, 1000, .inl (fun _ => 0))) := by rw [hce14, va_up_ne _ _ ne_A3_T]; exact f_A3
  have f_A4 : ce14 (b + (s.heap.size + 4)) = some (.inl (cI, 124, .inl (fun _ => 0))) := by rw [hce14, va_up_ne _ _ ne_A4_T]; exact f_A4
  have f_A5 : ce14 (b + (s.heap.size + 5)) = some (.inl (cI, 124, .inl (fun _ => 0))) := by rw [hce14, va_up_ne _ _ ne_A5_T]; exact f_A5
  have f_A6 : ce14 (b + (s.heap.size + 6)) = some (.inl (cI, 124, .inl (fun _ => 0))) := by rw [hce14, va_up_ne _ _ ne_A6_T]; exact f_A6
  refine lv_aload_n hx hb d_Mo_init_62 rfl (lv_at hl 0 rfl) ?_
  refine lv_bipush (v := 31) hx hb d_Mo_init_63 (by decide) ?_
  have fr_A7 : ce14 (b + (s.heap.size + 7)) = none := xa_free hw hba (Nat.le_of_eq hz)
  have ne_T_A7 : iT ≠ (b + (s.heap.size + 7)) := xa_ne f_T fr_A7
  have ne_A7_T : (b + (s.heap.size + 7)) ≠ iT := Ne.symm ne_T_A7
  have ne_A0_A7 : (b + s.heap.size) ≠ (b + (s.heap.size + 7)) := xa_ne f_A0 fr_A7
  have ne_A7_A0 : (b + (s.heap.size + 7)) ≠ (b + s.heap.size) := Ne.symm ne_A0_A7
  have ne_A1_A7 : (b + (s.heap.size + 1)) ≠ (b + (s.heap.size + 7)) := xa_ne f_A1 fr_A7
  have ne_A7_A1 : (b + (s.heap.size + 7)) ≠ (b + (s.heap.size + 1)) := Ne.symm ne_A1_A7
  have ne_A2_A7 : (b + (s.heap.size + 2)) ≠ (b + (s.heap.size + 7)) := xa_ne f_A2 fr_A7
  have ne_A7_A2 : (b + (s.heap.size + 7)) ≠ (b + (s.heap.size + 2)) := Ne.symm ne_A2_A7
  have ne_A3_A7 : (b + (s.heap.size + 3)) ≠ (b + (s.heap.size + 7)) := xa_ne f_A3 fr_A7
  have ne_A7_A3 : (b + (s.heap.size + 7)) ≠ (b + (s.heap.size + 3)) := Ne.symm ne_A3_A7
  have ne_A4_A7 : (b + (s.heap.size + 4)) ≠ (b + (s.heap.size + 7)) := xa_ne f_A4 fr_A7
  have ne_A7_A4 : (b + (s.heap.size + 7)) ≠ (b + (s.heap.size + 4)) := Ne.symm ne_A4_A7
  have ne_A5_A7 : (b + (s.heap.size + 5)) ≠ (b + (s.heap.size + 7)) := xa_ne f_A5 fr_A7
  have ne_A7_A5 : (b + (s.heap.size + 7)) ≠ (b + (s.heap.size + 5)) := Ne.symm ne_A5_A7
  have ne_A6_A7 : (b + (s.heap.size + 6)) ≠ (b + (s.heap.size + 7)) := xa_ne f_A6 fr_A7
  have ne_A7_A6 : (b + (s.heap.size + 7)) ≠ (b + (s.heap.size + 6)) := Ne.symm ne_A6_A7
  refine xa_newa (D := D) (b := b) (atype := .int) (N' := 31) (a0 := (31, .inl (fun _ => 0))) hx hb (hts _ (List.mem_cons_of_mem _ xw_55)) rfl hw hba 0 rfl (fun _ => rfl) (by decide) (by decide) (by decide) (by decide) (by decide) d_Mo_init_65 (fun H hz1 hw => ?_)
  rw [hz] at hz1 hw
  rw [hz]
  have hz : H.size = s.heap.size + 8 := hz1
  obtain ⟨ce15, hce15⟩ : ∃ z, z = va_up ce14 (b + (s.heap.size + 7)) (some (.inl (cI, 31, .inl (fun _ => 0)))) := ⟨_, rfl⟩
  have hw := xm_W.cast hce15.symm hw
  have f_T : ce15 iT = some (.inr (4, [.int 0, .ref (ad (b + s.heap.size)), .ref (ad (b + (s.heap.size + 1))), .int 0, .ref (ad (b + (s.heap.size + 2))), .ref (ad (b + (s.heap.size + 3))), .ref (ad (b + (s.heap.size + 4))), .ref (ad (b + (s.heap.size + 5))), .ref (ad (b + (s.heap.size + 6))), .null, .int 0, .int 0, .int 0, .int 0, .int 0, .int 0, .int 0, .null, .null, .int 0, .null, .int 0, .null, .null, .null, .int 0, .int 0, .int 0])) := by rw [hce15, va_up_ne _ _ ne_T_A7]; exact f_T
  have f_A0 : ce15 (b + s.heap.size) = some (.inl (cI, 10, .inl (fun _ => 0))) := by rw [hce15, va_up_ne _ _ ne_A0_A7]; exact f_A0
  have f_A1 : ce15 (b + (s.heap.size + 1)) = some (.inl (cZ, 10, .inl (fun _ => 0))) := by rw [hce15, va_up_ne _ _ ne_A1_A7]; exact f_A1
  have f_A2 : ce15 (b + (s.heap.size + 2)) = some (.inl (cZ, 1000, .inl (fun _ => 0))) := by rw [hce15, va_up_ne _ _ ne_A2_A7]; exact f_A2
  have f_A3 : ce15 (b + (s.heap.size + 3)) = some (.inl (cZ, 1000, .inl (fun _ => 0))) := by rw [hce15, va_up_ne _ _ ne_A3_A7]; exact f_A3
  have f_A4 : ce15 (b + (s.heap.size + 4)) = some (.inl (cI, 124, .inl (fun _ => 0))) := by rw [hce15, va_up_ne _ _ ne_A4_A7]; exact f_A4
  have f_A5 : ce15 (b + (s.heap.size + 5)) = some (.inl (cI, 124, .inl (fun _ => 0))) := by rw [hce15, va_up_ne _ _ ne_A5_A7]; exact f_A5
  have f_A6 : ce15 (b + (s.heap.size + 6)) = some (.inl (cI, 124, .inl (fun _ => 0))) := by rw [hce15, va_up_ne _ _ ne_A6_A7]; exact f_A6
  have f_A7 : ce15 (b + (s.heap.size + 7)) = some (.inl (cI, 31, .inl (fun _ => 0))) := by rw [hce15]; exact va_up_self _ _ _
  refine xa_putF (D := D) (v := .ref (ad (b + (s.heap.size + 7)))) (ty := .array .int) (C := R_Mo) (T := F_Mo) (N := 28) hx hb hts (fun w h => List.mem_cons_of_mem _ (i_Mo w h)) t_Mo o_Mo n_Mo hown hw f_T rfl 9 (by decide) (hts _ (List.mem_cons_of_mem _ xw_571)) (fun _ h9 => h9) rfl hnm rfl (by decide +kernel) rfl rfl (Nat.le_of_ble_eq_true rfl) d_Mo_init_67 (fun H locs hz1 hw => ?_)
  rw [hz] at hz1
  have hz : H.size = s.heap.size + 8 := hz1
  obtain ⟨ce16, hce16⟩ : ∃ z, z = va_up ce15 iT (some (.inr (4, [.int 0, .ref (ad (b + s.heap.size)), .ref (ad (b + (s.heap.size + 1))), .int 0, .ref (ad (b + (s.heap.size + 2))), .ref (ad (b + (s.heap.size + 3))), .ref (ad (b + (s.heap.size + 4))), .ref (ad (b + (s.heap.size + 5))), .ref (ad (b + (s.heap.size + 6))), .ref (ad (b + (s.heap.size + 7))), .int 0, .int 0, .int 0, .int 0, .int 0, .int 0, .int 0, .null, .null, .int 0, .null, .int 0, .null, .null, .null, .int 0, .int 0, .int 0]))) := ⟨_, rfl⟩
  have hw := xm_W.cast hce16.symm hw
  have f_T : ce16 iT = some (.inr (4, [.int 0, .ref (ad (b + s.heap.size)), .ref (ad (b + (s.heap.size + 1))), .int 0, .ref (ad (b + (s.heap.size + 2))), .ref (ad (b + (s.heap.size + 3))), .ref (ad (b + (s.heap.size + 4))), .ref (ad (b + (s.heap.size + 5))), .ref (ad (b + (s.heap.size + 6))), .ref (ad (b + (s.heap.size + 7))), .int 0, .int 0, .int 0, .int 0, .int 0, .int 0, .int 0, .null, .null, .int 0, .null, .int 0, .null, .null, .null, .int 0, .int 0, .int 0])) := by rw [hce16]; exact va_up_self _ _ _
  have f_A0 : ce16 (b + s.heap.size) = some (.inl (cI, 10, .inl (fun _ => 0))) := by rw [hce16, va_up_ne _ _ ne_A0_T]; exact f_A0
  have f_A1 : ce16 (b + (s.heap.size + 1)) = some (.inl (cZ, 10, .inl (fun _ => 0))) := by rw [hce16, va_up_ne _ _ ne_A1_T]; exact f_A1
  have f_A2 : ce16 (b + (s.heap.size + 2)) = some (.inl (cZ, 1000, .inl (fun _ => 0))) := by rw [hce16, va_up_ne _ _ ne_A2_T]; exact f_A2
  have f_A3 : ce16 (b + (s.heap.size + 3)) = some (.inl (cZ, 1000, .inl (fun _ => 0))) := by rw [hce16, va_up_ne _ _ ne_A3_T]; exact f_A3
  have f_A4 : ce16 (b + (s.heap.size + 4)) = some (.inl (cI, 124, .inl (fun _ => 0))) := by rw [hce16, va_up_ne _ _ ne_A4_T]; exact f_A4
  have f_A5 : ce16 (b + (s.heap.size + 5)) = some (.inl (cI, 124, .inl (fun _ => 0))) := by rw [hce16, va_up_ne _ _ ne_A5_T]; exact f_A5
  have f_A6 : ce16 (b + (s.heap.size + 6)) = some (.inl (cI, 124, .inl (fun _ => 0))) := by rw [hce16, va_up_ne _ _ ne_A6_T]; exact f_A6
  have f_A7 : ce16 (b + (s.heap.size + 7)) = some (.inl (cI, 31, .inl (fun _ => 0))) := by rw [hce16, va_up_ne _ _ ne_A7_T]; exact f_A7
  refine lv_aload_n hx hb d_Mo_init_70 rfl (lv_at hl 0 rfl) ?_
  refine lv_sipush (v := 1210) hx hb d_Mo_init_71 (by decide) ?_
  have fr_A8 : ce16 (b + (s.heap.size + 8)) = none := xa_free hw hba (Nat.le_of_eq hz)
  have ne_T_A8 : iT ≠ (b + (s.heap.size + 8)) := xa_ne f_T fr_A8
  have ne_A8_T : (b + (s.heap.size + 8)) ≠ iT := Ne.symm ne_T_A8
  have ne_A0_A8 : (b + s.heap.size) ≠ (b + (s.heap.size + 8)) := xa_ne f_A0 fr_A8
  have ne_A8_A0 : (b + (s.heap.size + 8)) ≠ (b + s.heap.size) := Ne.symm ne_A0_A8
  have ne_A1_A8 : (b + (s.heap.size + 1)) ≠ (b + (s.heap.size + 8)) := xa_ne f_A1 fr_A8
  have ne_A8_A1 : (b + (s.heap.size + 8)) ≠ (b + (s.heap.size + 1)) := Ne.symm ne_A1_A8
  have ne_A2_A8 : (b + (s.heap.size + 2)) ≠ (b + (s.heap.size + 8)) := xa_ne f_A2 fr_A8
  have ne_A8_A2 : (b + (s.heap.size + 8)) ≠ (b + (s.heap.size + 2)) := Ne.symm ne_A2_A8
  have ne_A3_A8 : (b + (s.heap.size + 3)) ≠ (b + (s.heap.size + 8)) := xa_ne f_A3 fr_A8
  have ne_A8_A3 : (b + (s.heap.size + 8)) ≠ (b + (s.heap.size + 3)) := Ne.symm ne_A3_A8
  have ne_A4_A8 : (b + (s.heap.size + 4)) ≠ (b + (s.heap.size + 8)) := xa_ne f_A4 fr_A8
  have ne_A8_A4 : (b + (s.heap.size + 8)) ≠ (b + (s.heap.size + 4)) := Ne.symm ne_A4_A8
  have ne_A5_A8 : (b + (s.heap.size + 5)) ≠ (b + (s.heap.size + 8)) := xa_ne f_A5 fr_A8
  have ne_A8_A5 : (b + (s.heap.size + 8)) ≠ (b + (s.heap.size + 5)) := Ne.symm ne_A5_A8
  have ne_A6_A8 : (b + (s.heap.size + 6)) ≠ (b + (s.heap.size + 8)) := xa_ne f_A6 fr_A8
  have ne_A8_A6 : (b + (s.heap.size + 8)) ≠ (b + (s.heap.size + 6)) := Ne.symm ne_A6_A8
  have ne_A7_A8 : (b + (s.heap.size + 7)) ≠ (b + (s.heap.size + 8)) := xa_ne f_A7 fr_A8
  have ne_A8_A7 : (b + (s.heap.size + 8)) ≠ (b + (s.heap.size + 7)) := Ne.symm ne_A7_A8
  refine xa_newa (D := D) (b := b) (atype := .boolean) (N' := 1210) (a0 := (1210, .inl (fun _ => 0))) hx hb (hts _ (List.mem_cons_of_mem _ xw_56)) rfl hw hba 1 rfl (fun _ => rfl) (by decide) (by decide) (by decide) (by decide) (by decide) d_Mo_init_74 (fun H hz1 hw => ?_)
  rw [hz] at hz1 hw
  rw [hz]
  have hz : H.size = s.heap.size + 9 := hz1
  obtain ⟨ce17, hce17⟩ : ∃ z, z = va_up ce16 (b + (s.heap.size + 8)) (some (.inl (cZ, 1210, .inl (fun _ => 0)))) := ⟨_, rfl⟩
  have hw := xm_W.cast hce17.symm hw
  have f_T : ce17 iT = some (.inr (4, [.int 0, .ref (ad (b + s.heap.size)), .ref (ad (b + (s.heap.size + 1))), .int 0, .ref (ad (b + (s.heap.size + 2))), .ref (ad (b + (s.heap.size + 3))), .ref (ad (b + (s.heap.size + 4))), .ref (ad (b + (s.heap.size + 5))), .ref (ad (b + (s.heap.size + 6))), .ref (ad (b + (s.heap.size + 7))), .int 0, .int 0, .int 0, .int 0, .int 0, .int 0, .int 0, .null, .null, .int 0, .null, .int 0, .null, .null, .null, .int 0, .int 0, .int 0])) := by rw [hce17, va_up_ne _ _ ne_T_A8]; exact f_T
  have f_A0 : ce17 (b + s.heap.size) = some (.inl (cI, 10, .inl (fun _ => 0))) := by rw [hce17, va_up_ne _ _ ne_A0_A8]; exact f_A0
  have f_A1 : ce17 (b + (s.heap.size + 1)) = some (.inl (cZ, 10, .inl (fun _ => 0))) := by rw [hce17, va_up_ne _ _ ne_A1_A8]; exact f_A1
  have f_A2 : ce17 (b + (s.heap.size + 2)) = some (.inl (cZ, 1000, .inl (fun _ => 0))) := by rw [hce17, va_up_ne _ _ ne_A2_A8]; exact f_A2
  have f_A3 : ce17 (b + (s.heap.size + 3)) = some (.inl (cZ, 1000, .inl (fun _ => 0))) := by rw [hce17, va_up_ne _ _ ne_A3_A8]; exact f_A3
  have f_A4 : ce17 (b + (s.heap.size + 4)) = some (.inl (cI, 124, .inl (fun _ => 0))) := by rw [hce17, va_up_ne _ _ ne_A4_A8]; exact f_A4
  have f_A5 : ce17 (b + (s.heap.size + 5)) = some (.inl (cI, 124, .inl (fun _ => 0))) := by rw [hce17, va_up_ne _ _ ne_A5_A8]; exact f_A5
  have f_A6 : ce17 (b + (s.heap.size + 6)) = some (.inl (cI, 124, .inl (fun _ => 0))) := by rw [hce17, va_up_ne _ _ ne_A6_A8]; exact f_A6
  have f_A7 : ce17 (b + (s.heap.size + 7)) = some (.inl (cI, 31, .inl (fun _ => 0))) := by rw [hce17, va_up_ne _ _ ne_A7_A8]; exact f_A7
  have f_A8 : ce17 (b + (s.heap.size + 8)) = some (.inl (cZ, 1210, .inl (fun _ => 0))) := by rw [hce17]; exact va_up_self _ _ _
  refine xa_putF (D := D) (v := .ref (ad (b + (s.heap.size + 8)))) (ty := .array .boolean) (C := R_Mo) (T := F_Mo) (N := 28) hx hb hts (fun w h => List.mem_cons_of_mem _ (i_Mo w h)) t_Mo o_Mo n_Mo hown hw f_T rfl 17 (by decide) (hts _ (List.mem_cons_of_mem _ xw_579)) (fun _ h9 => h9) rfl hnm rfl (by decide +kernel) rfl rfl (Nat.le_of_ble_eq_true rfl) d_Mo_init_76 (fun H locs hz1 hw => ?_)
  rw [hz] at hz1
  have hz : H.size = s.heap.size + 9 := hz1
  obtain ⟨ce18, hce18⟩ : ∃ z, z = va_up ce17 iT (some (.inr (4, [.int 0, .ref (ad (b + s.heap.size)), .ref (ad (b + (s.heap.size + 1))), .int 0, .ref (ad (b + (s.heap.size + 2))), .ref (ad (b + (s.heap.size + 3))), .ref (ad (b + (s.heap.size + 4))), .ref (ad (b + (s.heap.size + 5))), .ref (ad (b + (s.heap.size + 6))), .ref (ad (b + (s.heap.size + 7))), .int 0, .int 0, .int 0, .int 0, .int 0, .int 0, .int 0, .ref (ad (b + (s.heap.size + 8))), .null, .int 0, .null, .int 0, .null, .null, .null, .int 0, .int 0, .int 0]))) := ⟨_, rfl⟩
  have hw := xm_W.cast hce18.symm hw
  have f_T : ce18 iT = some (.inr (4, [.int 0, .ref (ad (b + s.heap.size)), .ref (ad (b + (s.heap.size + 1))), .int 0, .ref (ad (b + (s.heap.size + 2))), .ref (ad (b + (s.heap.size + 3))), .ref (ad (b + (s.heap.size + 4))), .ref (ad (b + (s.heap.size + 5))), .ref (ad (b + (s.heap.size + 6))), .ref (ad (b + (s.heap.size + 7))), .int 0, .int 0, .int 0, .int 0, .int 0, .int 0, .int 0, .ref (ad (b + (s.heap.size + 8))), .null, .int 0, .null, .int 0, .null, .null, .null, .int 0, .int 0, .int 0])) := by rw [hce18]; exact va_up_self _ _ _
  have f_A0 : ce18 (b + s.heap.size) = some (.inl (cI, 10, .inl (fun _ => 0))) := by rw [hce18, va_up_ne _ _ ne_A0_T]; exact f_A0
  have f_A1 : ce18 (b + (s.heap.size + 1)) = some (.inl (cZ, 10, .inl (fun _ => 0))) := by rw [hce18, va_up_ne _ _ ne_A1_T]; exact f_A1
  have f_A2 : ce18 (b + (s.heap.size + 2)) = some (.inl (cZ, 1000, .inl (fun _ => 0))) := by rw [hce18, va_up_ne _ _ ne_A2_T]; exact f_A2
  have f_A3 : ce18 (b + (s.heap.size + 3)) = some (.inl (cZ, 1000, .inl (fun _ => 0))) := by rw [hce18, va_up_ne _ _ ne_A3_T]; exact f_A3
  have f_A4 : ce18 (b + (s.heap.size + 4)) = some (.inl (cI, 124, .inl (fun _ => 0))) := by rw [hce18, va_up_ne _ _ ne_A4_T]; exact f_A4
  have f_A5 : ce18 (b + (s.heap.size + 5)) = some (.inl (cI, 124, .inl (fun _ => 0))) := by rw [hce18, va_up_ne _ _ ne_A5_T]; exact f_A5
  have f_A6 : ce18 (b + (s.heap.size + 6)) = some (.inl (cI, 124, .inl (fun _ => 0))) := by rw [hce18, va_up_ne _ _ ne_A6_T]; exact f_A6
  have f_A7 : ce18 (b + (s.heap.size + 7)) = some (.inl (cI, 31, .inl (fun _ => 0))) := by rw [hce18, va_up_ne _ _ ne_A7_T]; exact f_A7
  have f_A8 : ce18 (b + (s.heap.size + 8)) = some (.inl (cZ, 1210, .inl (fun _ => 0))) := by rw [hce18, va_up_ne _ _ ne_A8_T]; exact f_A8
  refine lv_aload_n hx hb d_Mo_init_79 rfl (lv_at hl 0 rfl) ?_
  refine lv_sipush (v := 1210) hx hb d_Mo_init_80 (by decide) ?_
  have fr_A9 : ce18 (b + (s.heap.size + 9)) = none := xa_free hw hba (Nat.le_of_eq hz)
  have ne_T_A9 : iT ≠ (b + (s.heap.size + 9)) := xa_ne f_T fr_A9
  have ne_A9_T : (b + (s.heap.size + 9)) ≠ iT := Ne.symm ne_T_A9
  have ne_A0_A9 : (b + s.heap.size) ≠ (b + (s.heap.size + 9)) := xa_ne f_A0 fr_A9
  have ne_A9_A0 : (b + (s.heap.size + 9)) ≠ (b + s.heap.size) := Ne.symm ne_A0_A9
  have ne_A1_A9 : (b + (s.heap.size + 1)) ≠ (b + (s.heap.size + 9)) := xa_ne f_A1 fr_A9
  have ne_A9_A1 : (b + (s.heap.size + 9)) ≠ (b + (s.heap.size + 1)) := Ne.symm ne_A1_A9
  have ne_A2_A9 : (b + (s.heap.size + 2)) ≠ (b + (s.heap.size + 9)) := xa_ne f_A2 fr_A9
  have ne_A9_A2 : (b + (s.heap.size + 9)) ≠ (b + (s.heap.size + 2)) := Ne.symm ne_A2_A9
  have ne_A3_A9 : (b + (s.heap.size + 3)) ≠ (b + (s.heap.size + 9)) := xa_ne f_A3 fr_A9
  have ne_A9_A3 : (b + (s.heap.size + 9)) ≠ (b + (s.heap.size + 3)) := Ne.symm ne_A3_A9
  have ne_A4_A9 : (b + (s.heap.size + 4)) ≠ (b + (s.heap.size + 9)) := xa_ne f_A4 fr_A9
  have ne_A9_A4 : (b + (s.heap.size + 9)) ≠ (b + (s.heap.size + 4)) := Ne.symm ne_A4_A9
  have ne_A5_A9 : (b + (s.heap.size + 5)) ≠ (b + (s.heap.size + 9)) := xa_ne f_A5 fr_A9
  have ne_A9_A5 : (b + (s.heap.size + 9)) ≠ (b + (s.heap.size + 5)) := Ne.symm ne_A5_A9
  have ne_A6_A9 : (b + (s.heap.size + 6)) ≠ (b + (s.heap.size + 9)) := xa_ne f_A6 fr_A9
  have ne_A9_A6 : (b + (s.heap.size + 9)) ≠ (b + (s.heap.size + 6)) := Ne.symm ne_A6_A9
  have ne_A7_A9 : (b + (s.heap.size + 7)) ≠ (b + (s.heap.size + 9)) := xa_ne f_A7 fr_A9
  have ne_A9_A7 : (b + (s.heap.size + 9)) ≠ (b + (s.heap.size + 7)) := Ne.symm ne_A7_A9
  have ne_A8_A9 : (b + (s.heap.size + 8)) ≠ (b + (s.heap.size + 9)) := xa_ne f_A8 fr_A9
  have ne_A9_A8 : (b + (s.heap.size + 9)) ≠ (b + (s.heap.size + 8)) := Ne.symm ne_A8_A9
  refine xa_newa (D := D) (b := b) (atype := .int) (N' := 1210) (a0 := (1210, .inl (fun _ => 0))) hx hb (hts _ (List.mem_cons_of_mem _ xw_55)) rfl hw hba 0 rfl (fun _ => rfl) (by decide) (by decide) (by decide) (by decide) (by decide) d_Mo_init_83 (fun H hz1 hw => ?_)
  rw [hz] at hz1 hw
  rw [hz]
  have hz : H.size = s.heap.size + 10 := hz1
  obtain ⟨ce19, hce19⟩ : ∃ z, z = va_up ce18 (b + (s.heap.size + 9)) (some (.inl (cI, 1210, .inl (fun _ => 0)))) := ⟨_, rfl⟩
  have hw := xm_W.cast hce19.symm hw
  have f_T : ce19 iT = some (.inr (4, [.int 0, .ref (ad (b + s.heap.size)), .ref (ad (b + (s.heap.size + 1))), .int 0, .ref (ad (b + (s.heap.size + 2))), .ref (ad (b + (s.heap.size + 3))), .ref (ad (b + (s.heap.size + 4))), .ref (ad (b + (s.heap.size + 5))), .ref (ad (b + (s.heap.size + 6))), .ref (ad (b + (s.heap.size + 7))), .int 0, .int 0, .int 0, .int 0, .int 0, .int 0, .int 0, .ref (ad (b + (s.heap.size + 8))), .null, .int 0, .null, .int 0, .null, .null, .null, .int 0, .int 0, .int 0])) := by rw [hce19, va_up_ne _ _ ne_T_A9]; exact f_T
  have f_A0 : ce19 (b + s.heap.size) = some (.inl (cI, 10, .inl (fun _ => 0))) := by rw [hce19, va_up_ne _ _ ne_A0_A9]; exact f_A0
  have f_A1 : ce19 (b + (s.heap.size + 1)) = some (.inl (cZ, 10, .inl (fun _ => 0))) := by rw [hce19, va_up_ne _ _ ne_A1_A9]; exact f_A1
  have f_A2 : ce19 (b + (s.heap.size + 2)) = some (.inl (cZ, 1000, .inl (fun _ => 0))) := by rw [hce19, va_up_ne _ _ ne_A2_A9]; exact f_A2
  have f_A3 : ce19 (b + (s.heap.size + 3)) = some (.inl (cZ, 1000, .inl (fun _ => 0))) := by rw [hce19, va_up_ne _ _ ne_A3_A9]; exact f_A3
  have f_A4 : ce19 (b + (s.heap.size + 4)) = some (.inl (cI, 124, .inl (fun _ => 0))) := by rw [hce19, va_up_ne _ _ ne_A4_A9]; exact f_A4
  have f_A5 : ce19 (b + (s.heap.size + 5)) = some (.inl (cI, 124, .inl (fun _ => 0))) := by rw [hce19, va_up_ne _ _ ne_A5_A9]; exact f_A5
  have f_A6 : ce19 (b + (s.heap.size + 6)) = some (.inl (cI, 124, .inl (fun _ => 0))) := by rw [hce19, va_up_ne _ _ ne_A6_A9]; exact f_A6
  have f_A7 : ce19 (b + (s.heap.size + 7)) = some (.inl (cI, 31, .inl (fun _ => 0))) := by rw [hce19, va_up_ne _ _ ne_A7_A9]; exact f_A7
  have f_A8 : ce19 (b + (s.heap.size + 8)) = some (.inl (cZ, 1210, .inl (fun _ => 0))) := by rw [hce19, va_up_ne _ _ ne_A8_A9]; exact f_A8
  have f_A9 : ce19 (b + (s.heap.size + 9)) = some (.inl (cI, 1210, .inl (fun _ => 0))) := by rw [hce19]; exact va_up_self _ _ _
  refine xa_putF (D := D) (v := .ref (ad (b + (s.heap.size + 9)))) (ty := .array .int) (C := R_Mo) (T := F_Mo) (N := 28) hx hb hts (fun w h => List.mem_cons_of_mem _ (i_Mo w h)) t_Mo o_Mo n_Mo hown hw f_T rfl 18 (by decide) (hts _ (List.mem_cons_of_mem _ xw_580)) (fun _ h9 => h9) rfl hnm rfl (by decide +kernel) rfl rfl (Nat.le_of_ble_eq_true rfl) d_Mo_init_85 (fun H locs hz1 hw => ?_)
  rw [hz] at hz1
  have hz : H.size = s.heap.size + 10 := hz1
  obtain ⟨ce20, hce20⟩ : ∃ z, z = va_up ce19 iT (some (.inr (4, [.int 0, .ref (ad (b + s.heap.size)), .ref (ad (b + (s.heap.size + 1))), .int 0, .ref (ad (b + (s.heap.size + 2))), .ref (ad (b + (s.heap.size + 3))), .ref (ad (b + (s.heap.size + 4))), .ref (ad (b + (s.heap.size + 5))), .ref (ad (b + (s.heap.size + 6))), .ref (ad (b + (s.heap.size + 7))), .int 0, .int 0, .int 0, .int 0, .int 0, .int 0, .int 0, .ref (ad (b + (s.heap.size + 8))), .ref (ad (b + (s.heap.size + 9))), .int 0, .null, .int 0, .null, .null, .null, .int 0, .int 0, .int 0]))) := ⟨_, rfl⟩
  have hw := xm_W.cast hce20.symm hw
  have f_T : ce20 iT = some (.inr (4, [.int 0, .ref (ad (b + s.heap.size)), .ref (ad (b + (s.heap.size + 1))), .int 0, .ref (ad (b + (s.heap.size + 2))), .ref (ad (b + (s.heap.size + 3))), .ref (ad (b + (s.heap.size + 4))), .ref (ad (b + (s.heap.size + 5))), .ref (ad (b + (s.heap.size + 6))), .ref (ad (b + (s.heap.size + 7))), .int 0, .int 0, .int 0, .int 0, .int 0, .int 0, .int 0, .ref (ad (b + (s.heap.size + 8))), .ref (ad (b + (s.heap.size + 9))), .int 0, .null, .int 0, .null, .null, .null, .int 0, .int 0, .int 0])) := by rw [hce20]; exact va_up_self _ _ _
  have f_A0 : ce20 (b + s.heap.size) = some (.inl (cI, 10, .inl (fun _ => 0))) := by rw [hce20, va_up_ne _ _ ne_A0_T]; exact f_A0
  have f_A1 : ce20 (b + (s.heap.size + 1)) = some (.inl (cZ, 10, .inl (fun _ => 0))) := by rw [hce20, va_up_ne _ _ ne_A1_T]; exact f_A1
  have f_A2 : ce20 (b + (s.heap.size + 2)) = some (.inl (cZ, 1000, .inl (fun _ => 0))) := by rw [hce20, va_up_ne _ _ ne_A2_T]; exact f_A2
  have f_A3 : ce20 (b + (s.heap.size + 3)) = some (.inl (cZ, 1000, .inl (fun _ => 0))) := by rw [hce20, va_up_ne _ _ ne_A3_T]; exact f_A3
  have f_A4 : ce20 (b + (s.heap.size + 4)) = some (.inl (cI, 124, .inl (fun _ => 0))) := by rw [hce20, va_up_ne _ _ ne_A4_T]; exact f_A4
  have f_A5 : ce20 (b + (s.heap.size + 5)) = some (.inl (cI, 124, .inl (fun _ => 0))) := by rw [hce20, va_up_ne _ _ ne_A5_T]; exact f_A5
  have f_A6 : ce20 (b + (s.heap.size + 6)) = some (.inl (cI, 124, .inl (fun _ => 0))) := by rw [hce20, va_up_ne _ _ ne_A6_T]; exact f_A6
  have f_A7 : ce20 (b + (s.heap.size + 7)) = some (.inl (cI, 31, .inl (fun _ => 0))) := by rw [hce20, va_up_ne _ _ ne_A7_T]; exact f_A7
  have f_A8 : ce20 (b + (s.heap.size + 8)) = some (.inl (cZ, 1210, .inl (fun _ => 0))) := by rw [hce20, va_up_ne _ _ ne_A8_T]; exact f_A8
  have f_A9 : ce20 (b + (s.heap.size + 9)) = some (.inl (cI, 1210, .inl (fun _ => 0))) := by rw [hce20, va_up_ne _ _ ne_A9_T]; exact f_A9
  refine lv_aload_n hx hb d_Mo_init_88 rfl (lv_at hl 0 rfl) ?_
  refine lv_bipush (v := 40) hx hb d_Mo_init_89 (by decide) ?_
  have fr_A10 : ce20 (b + (s.heap.size + 10)) = none := xa_free hw hba (Nat.le_of_eq hz)
  have ne_T_A10 : iT ≠ (b + (s.heap.size + 10)) := xa_ne f_T fr_A10
  have ne_A10_T : (b + (s.heap.size + 10)) ≠ iT := Ne.symm ne_T_A10
  have ne_A0_A10 : (b + s.heap.size) ≠ (b + (s.heap.size + 10)) := xa_ne f_A0 fr_A10
  have ne_A10_A0 : (b + (s.heap.size + 10)) ≠ (b + s.heap.size) := Ne.symm ne_A0_A10
  have ne_A1_A10 : (b + (s.heap.size + 1)) ≠ (b + (s.heap.size + 10)) := xa_ne f_A1 fr_A10
  have ne_A10_A1 : (b + (s.heap.size + 10)) ≠ (b + (s.heap.size + 1)) := Ne.symm ne_A1_A10
  have ne_A2_A10 : (b + (s.heap.size + 2)) ≠ (b + (s.heap.size + 10)) := xa_ne f_A2 fr_A10
  have ne_A10_A2 : (b + (s.heap.size + 10)) ≠ (b + (s.heap.size + 2)) := Ne.symm ne_A2_A10
  have ne_A3_A10 : (b + (s.heap.size + 3)) ≠ (b + (s.heap.size + 10)) := xa_ne f_A3 fr_A10
  have ne_A10_A3 : (b + (s.heap.size + 10)) ≠ (b + (s.heap.size + 3)) := Ne.symm ne_A3_A10
  have ne_A4_A10 : (b + (s.heap.size + 4)) ≠ (b + (s.heap.size + 10)) := xa_ne f_A4 fr_A10
  have ne_A10_A4 : (b + (s.heap.size + 10)) ≠ (b + (s.heap.size + 4)) := Ne.symm ne_A4_A10
  have ne_A5_A10 : (b + (s.heap.size + 5)) ≠ (b + (s.heap.size + 10)) := xa_ne f_A5 fr_A10
  have ne_A10_A5 : (b + (s.heap.size + 10)) ≠ (b + (s.heap.size + 5)) := Ne.symm ne_A5_A10
  have ne_A6_A10 : (b + (s.heap.size + 6)) ≠ (b + (s.heap.size + 10)) := xa_ne f_A6 fr_A10
  have ne_A10_A6 : (b + (s.heap.size + 10)) ≠ (b + (s.heap.size + 6)) := Ne.symm ne_A6_A10
  have ne_A7_A10 : (b + (s.heap.size + 7)) ≠ (b + (s.heap.size + 10)) := xa_ne f_A7 fr_A10
  have ne_A10_A7 : (b + (s.heap.size + 10)) ≠ (b + (s.heap.size + 7)) := Ne.symm ne_A7_A10
  have ne_A8_A10 : (b + (s.heap.size + 8)) ≠ (b + (s.heap.size + 10)) := xa_ne f_A8 fr_A10
  have ne_A10_A8 : (b + (s.heap.size + 10)) ≠ (b + (s.heap.size + 8)) := Ne.symm ne_A8_A10
  have ne_A9_A10 : (b + (s.heap.size + 9)) ≠ (b + (s.heap.size + 10)) := xa_ne f_A9 fr_A10
  have ne_A10_A9 : (b + (s.heap.size + 10)) ≠ (b + (s.heap.size + 9)) := Ne.symm ne_A9_A10
  refine xa_newa (D := D) (b := b) (atype := .boolean) (N' := 40) (a0 := (40, .inl (fun _ => 0))) hx hb (hts _ (List.mem_cons_of_mem _ xw_56)) rfl hw hba 1 rfl (fun _ => rfl) (by decide) (by decide) (by decide) (by decide) (by decide) d_Mo_init_91 (fun H hz1 hw => ?_)
  rw [hz] at hz1 hw
  rw [hz]
  have hz : H.size = s.heap.size + 11 := hz1
  obtain ⟨ce21, hce21⟩ : ∃ z, z = va_up ce20 (b + (s.heap.size + 10)) (some (.inl (cZ, 40, .inl (fun _ => 0)))) := ⟨_, rfl⟩
  have hw := xm_W.cast hce21.symm hw
  have f_T : ce21 iT = some (.inr (4, [.int 0, .ref (ad (b + s.heap.size)), .ref (ad (b + (s.heap.size + 1))), .int 0, .ref (ad (b + (s.heap.size + 2))), .ref (ad (b + (s.heap.size + 3))), .ref (ad (b + (s.heap.size + 4))), .ref (ad (b + (s.heap.size + 5))), .ref (ad (b + (s.heap.size + 6))), .ref (ad (b + (s.heap.size + 7))), .int 0, .int 0, .int 0, .int 0, .int 0, .int 0, .int 0, .ref (ad (b + (s.heap.size + 8))), .ref (ad (b + (s.heap.size + 9))), .int 0, .null, .int 0, .null, .null, .null, .int 0, .int 0, .int 0])) := by rw [hce21, va_up_ne _ _ ne_T_A10]; exact f_T
  have f_A0 : ce21 (b + s.heap.size) = some (.inl (cI, 10, .inl (fun _ => 0))) := by rw [hce21, va_up_ne _ _ ne_A0_A10]; exact f_A0
  have f_A1 : ce21 (b + (s.heap.size + 1)) = some (.inl (cZ, 10, .inl (fun _ => 0))) := by rw [hce21, va_up_ne _ _ ne_A1_A10]; exact f_A1
  have f_A2 : ce21 (b + (s.heap.size + 2)) = some (.inl (cZ, 1000, .inl (fun _ => 0))) := by rw [hce21, va_up_ne _ _ ne_A2_A10]; exact f_A2
  have f_A3 : ce21 (b + (s.heap.size + 3)) = some (.inl (cZ, 1000, .inl (fun _ => 0))) := by rw [hce21, va_up_ne _ _ ne_A3_A10]; exact f_A3
  have f_A4 : ce21 (b + (s.heap.size + 4)) = some (.inl (cI, 124, .inl (fun _ => 0))) := by rw [hce21, va_up_ne _ _ ne_A4_A10]; exact f_A4
  have f_A5 : ce21 (b + (s.heap.size + 5)) = some (.inl (cI, 124, .inl (fun _ => 0))) := by rw [hce21, va_up_ne _ _ ne_A5_A10]; exact f_A5
  have f_A6 : ce21 (b + (s.heap.size + 6)) = some (.inl (cI, 124, .inl (fun _ => 0))) := by rw [hce21, va_up_ne _ _ ne_A6_A10]; exact f_A6
  have f_A7 : ce21 (b + (s.heap.size + 7)) = some (.inl (cI, 31, .inl (fun _ => 0))) := by rw [hce21, va_up_ne _ _ ne_A7_A10]; exact f_A7
  have f_A8 : ce21 (b + (s.heap.size + 8)) = some (.inl (cZ, 1210, .inl (fun _ => 0))) := by rw [hce21, va_up_ne _ _ ne_A8_A10]; exact f_A8
  have f_A9 : ce21 (b + (s.heap.size + 9)) = some (.inl (cI, 1210, .inl (fun _ => 0))) := by rw [hce21, va_up_ne _ _ ne_A9_A10]; exact f_A9
  have f_A10 : ce21 (b + (s.heap.size + 10)) = some (.inl (cZ, 40, .inl (fun _ => 0))) := by rw [hce21]; exact va_up_self _ _ _
  refine xa_putF (D := D) (v := .ref (ad (b + (s.heap.size + 10)))) (ty := .array .boolean) (C := R_Mo) (T := F_Mo) (N := 28) hx hb hts (fun w h => List.mem_cons_of_mem _ (i_Mo w h)) t_Mo o_Mo n_Mo hown hw f_T rfl 20 (by decide) (hts _ (List.mem_cons_of_mem _ xw_582)) (fun _ h9 => h9) rfl hnm rfl (by decide +kernel) rfl rfl (Nat.le_of_ble_eq_true rfl) d_Mo_init_93 (fun H locs hz1 hw => ?_)
  rw [hz] at hz1
  have hz : H.size = s.heap.size + 11 := hz1
  obtain ⟨ce22, hce22⟩ : ∃ z, z = va_up ce21 iT (some (.inr (4, [.int 0, .ref (ad (b + s.heap.size)), .ref (ad (b + (s.heap.size + 1))), .int 0, .ref (ad (b + (s.heap.size + 2))), .ref (ad (b + (s.heap.size + 3))), .ref (ad (b + (s.heap.size + 4))), .ref (ad (b + (s.heap.size + 5))), .ref (ad (b + (s.heap.size + 6))), .ref (ad (b + (s.heap.size + 7))), .int 0, .int 0, .int 0, .int 0, .int 0, .int 0, .int 0, .ref (ad (b + (s.heap.size + 8))), .ref (ad (b + (s.heap.size + 9))), .int 0, .ref (ad (b + (s.heap.size + 10))), .int 0, .null, .null, .null, .int 0, .int 0, .int 0]))) := ⟨_, rfl⟩
  have hw := xm_W.cast hce22.symm hw
  have f_T : ce22 iT = some (.inr (4, [.int 0, .ref (ad (b + s.heap.size)), .ref (ad (b + (s.heap.size + 1))), .int 0, .ref (ad (b + (s.heap.size + 2))), .ref (ad (b + (s.heap.size + 3))), .ref (ad (b + (s.heap.size + 4))), .ref (ad (b + (s.heap.size + 5))), .ref (ad (b + (s.heap.size + 6))), .ref (ad (b + (s.heap.size + 7))), .int 0, .int 0, .int 0, .int 0, .int 0, .int 0, .int 0, .ref (ad (b + (s.heap.size + 8))), .ref (ad (b + (s.heap.size + 9))), .int 0, .ref (ad (b + (s.heap.size + 10))), .int 0, .null, .null, .null, .int 0, .int 0, .int 0])) := by rw [hce22]; exact va_up_self _ _ _
  have f_A0 : ce22 (b + s.heap.size) = some (.inl (cI, 10, .inl (fun _ => 0))) := by rw [hce22, va_up_ne _ _ ne_A0_T]; exact f_A0
  have f_A1 : ce22 (b + (s.heap.size + 1)) = some (.inl (cZ, 10, .inl (fun _ => 0))) := by rw [hce22, va_up_ne _ _ ne_A1_T]; exact f_A1
  have f_A2 : ce22 (b + (s.heap.size + 2)) = some (.inl (cZ, 1000, .inl (fun _ => 0))) := by rw [hce22, va_up_ne _ _ ne_A2_T]; exact f_A2
  have f_A3 : ce22 (b + (s.heap.size + 3)) = some (.inl (cZ, 1000, .inl (fun _ => 0))) := by rw [hce22, va_up_ne _ _ ne_A3_T]; exact f_A3
  have f_A4 : ce22 (b + (s.heap.size + 4)) = some (.inl (cI, 124, .inl (fun _ => 0))) := by rw [hce22, va_up_ne _ _ ne_A4_T]; exact f_A4
  have f_A5 : ce22 (b + (s.heap.size + 5)) = some (.inl (cI, 124, .inl (fun _ => 0))) := by rw [hce22, va_up_ne _ _ ne_A5_T]; exact f_A5
  have f_A6 : ce22 (b + (s.heap.size + 6)) = some (.inl (cI, 124, .inl (fun _ => 0))) := by rw [hce22, va_up_ne _ _ ne_A6_T]; exact f_A6
  have f_A7 : ce22 (b + (s.heap.size + 7)) = some (.inl (cI, 31, .inl (fun _ => 0))) := by rw [hce22, va_up_ne _ _ ne_A7_T]; exact f_A7
  have f_A8 : ce22 (b + (s.heap.size + 8)) = some (.inl (cZ, 1210, .inl (fun _ => 0))) := by rw [hce22, va_up_ne _ _ ne_A8_T]; exact f_A8
  have f_A9 : ce22 (b + (s.heap.size + 9)) = some (.inl (cI, 1210, .inl (fun _ => 0))) := by rw [hce22, va_up_ne _ _ ne_A9_T]; exact f_A9
  have f_A10 : ce22 (b + (s.heap.size + 10)) = some (.inl (cZ, 40, .inl (fun _ => 0))) := by rw [hce22, va_up_ne _ _ ne_A10_T]; exact f_A10
  refine lv_aload_n hx hb d_Mo_init_96 rfl (lv_at hl 0 rfl) ?_
  refine lv_bipush (v := 8) hx hb d_Mo_init_97 (by decide) ?_
  have fr_A11 : ce22 (b + (s.heap.size + 11)) = none := xa_free hw hba (Nat.le_of_eq hz)
  have ne_T_A11 : iT ≠ (b + (s.heap.size + 11)) := xa_ne f_T fr_A11
  have ne_A11_T : (b + (s.heap.size + 11)) ≠ iT := Ne.symm ne_T_A11
  have ne_A0_A11 : (b + s.heap.size) ≠ (b + (s.heap.size + 11)) := xa_ne f_A0 fr_A11
  have ne_A11_A0 : (b + (s.heap.size + 11)) ≠ (b + s.heap.size) := Ne.symm ne_A0_A11
  have ne_A1_A11 : (b + (s.heap.size + 1)) ≠ (b + (s.heap.size + 11)) := xa_ne f_A1 fr_A11
  have ne_A11_A1 : (b + (s.heap.size + 11)) ≠ (b + (s.heap.size + 1)) := Ne.symm ne_A1_A11
  have ne_A2_A11 : (b + (s.heap.size + 2)) ≠ (b + (s.heap.size + 11)) := xa_ne f_A2 fr_A11
  have ne_A11_A2 : (b + (s.heap.size + 11)) ≠ (b + (s.heap.size + 2)) := Ne.symm ne_A2_A11
  have ne_A3_A11 : (b + (s.heap.size + 3)) ≠ (b + (s.heap.size + 11)) := xa_ne f_A3 fr_A11
  have ne_A11_A3 : (b + (s.heap.size + 11)) ≠ (b + (s.heap.size + 3)) := Ne.symm ne_A3_A11
  have ne_A4_A11 : (b + (s.heap.size + 4)) ≠ (b + (s.heap.size + 11)) := xa_ne f_A4 fr_A11
  have ne_A11_A4 : (b + (s.heap.size + 11)) ≠ (b + (s.heap.size + 4)) := Ne.symm ne_A4_A11
  have ne_A5_A11 : (b + (s.heap.size + 5)) ≠ (b + (s.heap.size + 11)) := xa_ne f_A5 fr_A11
  have ne_A11_A5 : (b + (s.heap.size + 11)) ≠ (b + (s.heap.size + 5)) := Ne.symm ne_A5_A11
  have ne_A6_A11 : (b + (s.heap.size + 6)) ≠ (b + (s.heap.size + 11)) := xa_ne f_A6 fr_A11
  have ne_A11_A6 : (b + (s.heap.size + 11)) ≠ (b + (s.heap.size + 6)) := Ne.symm ne_A6_A11
  have ne_A7_A11 : (b + (s.heap.size + 7)) ≠ (b + (s.heap.size + 11)) := xa_ne f_A7 fr_A11
  have ne_A11_A7 : (b + (s.heap.size + 11)) ≠ (b + (s.heap.size + 7)) := Ne.symm ne_A7_A11
  have ne_A8_A11 : (b + (s.heap.size + 8)) ≠ (b + (s.heap.size + 11)) := xa_ne f_A8 fr_A11
  have ne_A11_A8 : (b + (s.heap.size + 11)) ≠ (b + (s.heap.size + 8)) := Ne.symm ne_A8_A11
  have ne_A9_A11 : (b + (s.heap.size + 9)) ≠ (b + (s.heap.size + 11)) := xa_ne f_A9 fr_A11
  have ne_A11_A9 : (b + (s.heap.size + 11)) ≠ (b + (s.heap.size + 9)) := Ne.symm ne_A9_A11
  have ne_A10_A11 : (b + (s.heap.size + 10)) ≠ (b + (s.heap.size + 11)) := xa_ne f_A10 fr_A11
  have ne_A11_A10 : (b + (s.heap.size + 11)) ≠ (b + (s.heap.size + 10)) := Ne.symm ne_A10_A11
  refine xa_newa (D := D) (b := b) (atype := .int) (N' := 8) (a0 := (8, .inl (fun _ => 0))) hx hb (hts _ (List.mem_cons_of_mem _ xw_55)) rfl hw hba 0 rfl (fun _ => rfl) (by decide) (by decide) (by decide) (by decide) (by decide) d_Mo_init_99 (fun H hz1 hw => ?_)
  rw [hz] at hz1 hw
  rw [hz]
  have hz : H.size = s.heap.size + 12 := hz1
  obtain ⟨ce23, hce23⟩ : ∃ z, z = va_up ce22 (b + (s.heap.size + 11)) (some (.inl (cI, 8, .inl (fun _ => 0)))) := ⟨_, rfl⟩
  have hw := xm_W.cast hce23.symm hw
  have f_T : ce23 iT = some (.inr (4, [.int 0, .ref (ad (b + s.heap.size)), .ref (ad (b + (s.heap.size + 1))), .int 0, .ref (ad (b + (s.heap.size + 2))), .ref (ad (b + (s.heap.size + 3))), .ref (ad (b + (s.heap.size + 4))), .ref (ad (b + (s.heap.size + 5))), .ref (ad (b + (s.heap.size + 6))), .ref (ad (b + (s.heap.size + 7))), .int 0, .int 0, .int 0, .int 0, .int 0, .int 0, .int 0, .ref (ad (b + (s.heap.size + 8))), .ref (ad (b + (s.heap.size + 9))), .int 0, .ref (ad (b + (s.heap.size + 10))), .int 0, .null, .null, .null, .int 0, .int 0, .int 0])) := by rw [hce23, va_up_ne _ _ ne_T_A11]; exact f_T
  have f_A0 : ce23 (b + s.heap.size) = some (.inl (cI, 10, .inl (fun _ => 0))) := by rw [hce23, va_up_ne _ _ ne_A0_A11]; exact f_A0
  have f_A1 : ce23 (b + (s.heap.size + 1)) = some (.inl (cZ, 10, .inl (fun _ => 0))) := by rw [hce23, va_up_ne _ _ ne_A1_A11]; exact f_A1
  have f_A2 : ce23 (b + (s.heap.size + 2)) = some (.inl (cZ, 1000, .inl (fun _ => 0))) := by rw [hce23, va_up_ne _ _ ne_A2_A11]; exact f_A2
  have f_A3 : ce23 (b + (s.heap.size + 3)) = some (.inl (cZ, 1000, .inl (fun _ => 0))) := by rw [hce23, va_up_ne _ _ ne_A3_A11]; exact f_A3
  have f_A4 : ce23 (b + (s.heap.size + 4)) = some (.inl (cI, 124, .inl (fun _ => 0))) := by rw [hce23, va_up_ne _ _ ne_A4_A11]; exact f_A4
  have f_A5 : ce23 (b + (s.heap.size + 5)) = some (.inl (cI, 124, .inl (fun _ => 0))) := by rw [hce23, va_up_ne _ _ ne_A5_A11]; exact f_A5
  have f_A6 : ce23 (b + (s.heap.size + 6)) = some (.inl (cI, 124, .inl (fun _ => 0))) := by rw [hce23, va_up_ne _ _ ne_A6_A11]; exact f_A6
  have f_A7 : ce23 (b + (s.heap.size + 7)) = some (.inl (cI, 31, .inl (fun _ => 0))) := by rw [hce23, va_up_ne _ _ ne_A7_A11]; exact f_A7
  have f_A8 : ce23 (b + (s.heap.size + 8)) = some (.inl (cZ, 1210, .inl (fun _ => 0))) := by rw [hce23, va_up_ne _ _ ne_A8_A11]; exact f_A8
  have f_A9 : ce23 (b + (s.heap.size + 9)) = some (.inl (cI, 1210, .inl (fun _ => 0))) := by rw [hce23, va_up_ne _ _ ne_A9_A11]; exact f_A9
  have f_A10 : ce23 (b + (s.heap.size + 10)) = some (.inl (cZ, 40, .inl (fun _ => 0))) := by rw [hce23, va_up_ne _ _ ne_A10_A11]; exact f_A10
  have f_A11 : ce23 (b + (s.heap.size + 11)) = some (.inl (cI, 8, .inl (fun _ => 0))) := by rw [hce23]; exact va_up_self _ _ _
  refine xa_putF (D := D) (v := .ref (ad (b + (s.heap.size + 11)))) (ty := .array .int) (C := R_Mo) (T := F_Mo) (N := 28) hx hb hts (fun w h => List.mem_cons_of_mem _ (i_Mo w h)) t_Mo o_Mo n_Mo hown hw f_T rfl 22 (by decide) (hts _ (List.mem_cons_of_mem _ xw_584)) (fun _ h9 => h9) rfl hnm rfl (by decide +kernel) rfl rfl (Nat.le_of_ble_eq_true rfl) d_Mo_init_101 (fun H locs hz1 hw => ?_)
  rw [hz] at hz1
  have hz : H.size = s.heap.size + 12 := hz1
  obtain ⟨ce24, hce24⟩ : ∃ z, z = va_up ce23 iT (some (.inr (4, [.int 0, .ref (ad (b + s.heap.size)), .ref (ad (b + (s.heap.size + 1))), .int 0, .ref (ad (b + (s.heap.size + 2))), .ref (ad (b + (s.heap.size + 3))), .ref (ad (b + (s.heap.size + 4))), .ref (ad (b + (s.heap.size + 5))), .ref (ad (b + (s.heap.size + 6))), .ref (ad (b + (s.heap.size + 7))), .int 0, .int 0, .int 0, .int 0, .int 0, .int 0, .int 0, .ref (ad (b + (s.heap.size + 8))), .ref (ad (b + (s.heap.size + 9))), .int 0, .ref (ad (b + (s.heap.size + 10))), .int 0, .ref (ad (b + (s.heap.size + 11))), .null, .null, .int 0, .int 0, .int 0]))) := ⟨_, rfl⟩
  have hw := xm_W.cast hce24.symm hw
  have f_T : ce24 iT = some (.inr (4, [.int 0, .ref (ad (b + s.heap.size)), .ref (ad (b + (s.heap.size + 1))), .int 0, .ref (ad (b + (s.heap.size + 2))), .ref (ad (b + (s.heap.size + 3))), .ref (ad (b + (s.heap.size + 4))), .ref (ad (b + (s.heap.size + 5))), .ref (ad (b + (s.heap.size + 6))), .ref (ad (b + (s.heap.size + 7))), .int 0, .int 0, .int 0, .int 0, .int 0, .int 0, .int 0, .ref (ad (b + (s.heap.size + 8))), .ref (ad (b + (s.heap.size + 9))), .int 0, .ref (ad (b + (s.heap.size + 10))), .int 0, .ref (ad (b + (s.heap.size + 11))), .null, .null, .int 0, .int 0, .int 0])) := by rw [hce24]; exact va_up_self _ _ _
  have f_A0 : ce24 (b + s.heap.size) = some (.inl (cI, 10, .inl (fun _ => 0))) := by rw [hce24, va_up_ne _ _ ne_A0_T]; exact f_A0
  have f_A1 : ce24 (b + (s.heap.size + 1)) = some (.inl (cZ, 10, .inl (fun _ => 0))) := by rw [hce24, va_up_ne _ _ ne_A1_T]; exact f_A1
  have f_A2 : ce24 (b + (s.heap.size + 2)) = some (.inl (cZ, 1000, .inl (fun _ => 0))) := by rw [hce24, va_up_ne _ _ ne_A2_T]; exact f_A2
  have f_A3 : ce24 (b + (s.heap.size + 3)) = some (.inl (cZ, 1000, .inl (fun _ => 0))) := by rw [hce24, va_up_ne _ _ ne_A3_T]; exact f_A3
  have f_A4 : ce24 (b + (s.heap.size + 4)) = some (.inl (cI, 124, .inl (fun _ => 0))) := by rw [hce24, va_up_ne _ _ ne_A4_T]; exact f_A4
  have f_A5 : ce24 (b + (s.heap.size + 5)) = some (.inl (cI, 124, .inl (fun _ => 0))) := by rw [hce24, va_up_ne _ _ ne_A5_T]; exact f_A5
  have f_A6 : ce24 (b + (s.heap.size + 6)) = some (.inl (cI, 124, .inl (fun _ => 0))) := by rw [hce24, va_up_ne _ _ ne_A6_T]; exact f_A6
  have f_A7 : ce24 (b + (s.heap.size + 7)) = some (.inl (cI, 31, .inl (fun _ => 0))) := by rw [hce24, va_up_ne _ _ ne_A7_T]; exact f_A7
  have f_A8 : ce24 (b + (s.heap.size + 8)) = some (.inl (cZ, 1210, .inl (fun _ => 0))) := by rw [hce24, va_up_ne _ _ ne_A8_T]; exact f_A8
  have f_A9 : ce24 (b + (s.heap.size + 9)) = some (.inl (cI, 1210, .inl (fun _ => 0))) := by rw [hce24, va_up_ne _ _ ne_A9_T]; exact f_A9
  have f_A10 : ce24 (b + (s.heap.size + 10)) = some (.inl (cZ, 40, .inl (fun _ => 0))) := by rw [hce24, va_up_ne _ _ ne_A10_T]; exact f_A10
  have f_A11 : ce24 (b + (s.heap.size + 11)) = some (.inl (cI, 8, .inl (fun _ => 0))) := by rw [hce24, va_up_ne _ _ ne_A11_T]; exact f_A11
  refine lv_aload_n hx hb d_Mo_init_104 rfl (lv_at hl 0 rfl) ?_
  refine lv_bipush (v := 8) hx hb d_Mo_init_105 (by decide) ?_
  have fr_A12 : ce24 (b + (s.heap.size + 12)) = none := xa_free hw hba (Nat.le_of_eq hz)
  have ne_T_A12 : iT ≠ (b + (s.heap.size + 12)) := xa_ne f_T fr_A12
  have ne_A12_T : (b + (s.heap.size + 12)) ≠ iT := Ne.symm ne_T_A12
  have ne_A0_A12 : (b + s.heap.size) ≠ (b + (s.heap.size + 12)) := xa_ne f_A0 fr_A12
  have ne_A12_A0 : (b + (s.heap.size + 12)) ≠ (b + s.heap.size) := Ne.symm ne_A0_A12
  have ne_A1_A12 : (b + (s.heap.size + 1)) ≠ (b + (s.heap.size + 12)) := xa_ne f_A1 fr_A12
  have ne_A12_A1 : (b + (s.heap.size + 12)) ≠ (b + (s.heap.size + 1)) := Ne.symm ne_A1_A12
  have ne_A2_A12 : (b + (s.heap.size + 2)) ≠ (b + (s.heap.size + 12)) := xa_ne f_A2 fr_A12
  have ne_A12_A2 : (b + (s.heap.size + 12)) ≠ (b + (s.heap.size + 2)) := Ne.symm ne_A2_A12
  have ne_A3_A12 : (b + (s.heap.size + 3)) ≠ (b + (s.heap.size + 12)) := xa_ne f_A3 fr_A12
  have ne_A12_A3 : (b + (s.heap.size + 12)) ≠ (b + (s.heap.size + 3)) := Ne.symm ne_A3_A12
  have ne_A4_A12 : (b + (s.heap.size + 4)) ≠ (b + (s.heap.size + 12)) := xa_ne f_A4 fr_A12
  have ne_A12_A4 : (b + (s.heap.size + 12)) ≠ (b + (s.heap.size + 4)) := Ne.symm ne_A4_A12
  have ne_A5_A12 : (b + (s.heap.size + 5)) ≠ (b + (s.heap.size + 12)) := xa_ne f_A5 fr_A12
  have ne_A12_A5 : (b + (s.heap.size + 12)) ≠ (b + (s.heap.size + 5)) := Ne.symm ne_A5_A12
  have ne_A6_A12 : (b + (s.heap.size + 6)) ≠ (b + (s.heap.size + 12)) := xa_ne f_A6 fr_A12
  have ne_A12_A6 : (b + (s.heap.size + 12)) ≠ (b + (s.heap.size + 6)) := Ne.symm ne_A6_A12
  have ne_A7_A12 : (b + (s.heap.size + 7)) ≠ (b + (s.heap.size + 12)) := xa_ne f_A7 fr_A12
  have ne_A12_A7 : (b + (s.heap.size + 12)) ≠ (b + (s.heap.size + 7)) := Ne.symm ne_A7_A12
  have ne_A8_A12 : (b + (s.heap.size + 8)) ≠ (b + (s.heap.size + 12)) := xa_ne f_A8 fr_A12
  have ne_A12_A8 : (b + (s.heap.size + 12)) ≠ (b + (s.heap.size + 8)) := Ne.symm ne_A8_A12
  have ne_A9_A12 : (b + (s.heap.size + 9)) ≠ (b + (s.heap.size + 12)) := xa_ne f_A9 fr_A12
  have ne_A12_A9 : (b + (s.heap.size + 12)) ≠ (b + (s.heap.size + 9)) := Ne.symm ne_A9_A12
  have ne_A10_A12 : (b + (s.heap.size + 10)) ≠ (b + (s.heap.size + 12)) := xa_ne f_A10 fr_A12
  have ne_A12_A10 : (b + (s.heap.size + 12)) ≠ (b + (s.heap.size + 10)) := Ne.symm ne_A10_A12
  have ne_A11_A12 : (b + (s.heap.size + 11)) ≠ (b + (s.heap.size + 12)) := xa_ne f_A11 fr_A12
  have ne_A12_A11 : (b + (s.heap.size + 12)) ≠ (b + (s.heap.size + 11)) := Ne.symm ne_A11_A12
  refine xa_newa (D := D) (b := b) (atype := .int) (N' := 8) (a0 := (8, .inl (fun _ => 0))) hx hb (hts _ (List.mem_cons_of_mem _ xw_55)) rfl hw hba 0 rfl (fun _ => rfl) (by decide) (by decide) (by decide) (by decide) (by decide) d_Mo_init_107 (fun H hz1 hw => ?_)
  rw [hz] at hz1 hw
  rw [hz]
  have hz : H.size = s.heap.size + 13 := hz1
  obtain ⟨ce25, hce25⟩ : ∃ z, z = va_up ce24 (b + (s.heap.size + 12)) (some (.inl (cI, 8, .inl (fun _ => 0)))) := ⟨_, rfl⟩
  have hw := xm_W.cast hce25.symm hw
  have f_T : ce25 iT = some (.inr (4, [.int 0, .ref (ad (b + s.heap.size)), .ref (ad (b + (s.heap.size + 1))), .int 0, .ref (ad (b + (s.heap.size + 2))), .ref (ad (b + (s.heap.size + 3))), .ref (ad (b + (s.heap.size + 4))), .ref (ad (b + (s.heap.size + 5))), .ref (ad (b + (s.heap.size + 6))), .ref (ad (b + (s.heap.size + 7))), .int 0, .int 0, .int 0, .int 0, .int 0, .int 0, .int 0, .ref (ad (b + (s.heap.size + 8))), .ref (ad (b + (s.heap.size + 9))), .int 0, .ref (ad (b + (s.heap.size + 10))), .int 0, .ref (ad (b + (s.heap.size + 11))), .null, .null, .int 0, .int 0, .int 0])) := by rw [hce25, va_up_ne _ _ ne_T_A12]; exact f_T
  have f_A0 : ce25 (b + s.heap.size) = some (.inl (cI, 10, .inl (fun _ => 0))) := by rw [hce25, va_up_ne _ _ ne_A0_A12]; exact f_A0
  have f_A1 : ce25 (b + (s.heap.size + 1)) = some (.inl (cZ, 10, .inl (fun _ => 0))) := by rw [hce25, va_up_ne _ _ ne_A1_A12]; exact f_A1
  have f_A2 : ce25 (b + (s.heap.size + 2)) = some (.inl (cZ, 1000, .inl (fun _ => 0))) := by rw [hce25, va_up_ne _ _ ne_A2_A12]; exact f_A2
  have f_A3 : ce25 (b + (s.heap.size + 3)) = some (.inl (cZ, 1000, .inl (fun _ => 0))) := by rw [hce25, va_up_ne _ _ ne_A3_A12]; exact f_A3
  have f_A4 : ce25 (b + (s.heap.size + 4)) = some (.inl (cI, 124, .inl (fun _ => 0))) := by rw [hce25, va_up_ne _ _ ne_A4_A12]; exact f_A4
  have f_A5 : ce25 (b + (s.heap.size + 5)) = some (.inl (cI, 124, .inl (fun _ => 0))) := by rw [hce25, va_up_ne _ _ ne_A5_A12]; exact f_A5
  have f_A6 : ce25 (b + (s.heap.size + 6)) = some (.inl (cI, 124, .inl (fun _ => 0))) := by rw [hce25, va_up_ne _ _ ne_A6_A12]; exact f_A6
  have f_A7 : ce25 (b + (s.heap.size + 7)) = some (.inl (cI, 31, .inl (fun _ => 0))) := by rw [hce25, va_up_ne _ _ ne_A7_A12]; exact f_A7
  have f_A8 : ce25 (b + (s.heap.size + 8)) = some (.inl (cZ, 1210, .inl (fun _ => 0))) := by rw [hce25, va_up_ne _ _ ne_A8_A12]; exact f_A8
  have f_A9 : ce25 (b + (s.heap.size + 9)) = some (.inl (cI, 1210, .inl (fun _ => 0))) := by rw [hce25, va_up_ne _ _ ne_A9_A12]; exact f_A9
  have f_A10 : ce25 (b + (s.heap.size + 10)) = some (.inl (cZ, 40, .inl (fun _ => 0))) := by rw [hce25, va_up_ne _ _ ne_A10_A12]; exact f_A10
  have f_A11 : ce25 (b + (s.heap.size + 11)) = some (.inl (cI, 8, .inl (fun _ => 0))) := by rw [hce25, va_up_ne _ _ ne_A11_A12]; exact f_A11
  have f_A12 : ce25 (b + (s.heap.size + 12)) = some (.inl (cI, 8, .inl (fun _ => 0))) := by rw [hce25]; exact va_up_self _ _ _
  refine xa_putF (D := D) (v := .ref (ad (b + (s.heap.size + 12)))) (ty := .array .int) (C := R_Mo) (T := F_Mo) (N := 28) hx hb hts (fun w h => List.mem_cons_of_mem _ (i_Mo w h)) t_Mo o_Mo n_Mo hown hw f_T rfl 23 (by decide) (hts _ (List.mem_cons_of_mem _ xw_585)) (fun _ h9 => h9) rfl hnm rfl (by decide +kernel) rfl rfl (Nat.le_of_ble_eq_true rfl) d_Mo_init_109 (fun H locs hz1 hw => ?_)
  rw [hz] at hz1
  have hz : H.size = s.heap.size + 13 := hz1
  obtain ⟨ce26, hce26⟩ : ∃ z, z = va_up ce25 iT (some (.inr (4, [.int 0, .ref (ad (b + s.heap.size)), .ref (ad (b + (s.heap.size + 1))), .int 0, .ref (ad (b + (s.heap.size + 2))), .ref (ad (b + (s.heap.size + 3))), .ref (ad (b + (s.heap.size + 4))), .ref (ad (b + (s.heap.size + 5))), .ref (ad (b + (s.heap.size + 6))), .ref (ad (b + (s.heap.size + 7))), .int 0, .int 0, .int 0, .int 0, .int 0, .int 0, .int 0, .ref (ad (b + (s.heap.size + 8))), .ref (ad (b + (s.heap.size + 9))), .int 0, .ref (ad (b + (s.heap.size + 10))), .int 0, .ref (ad (b + (s.heap.size + 11))), .ref (ad (b + (s.heap.size + 12))), .null, .int 0, .int 0, .int 0]))) := ⟨_, rfl⟩
  have hw := xm_W.cast hce26.symm hw
  have f_T : ce26 iT = some (.inr (4, [.int 0, .ref (ad (b + s.heap.size)), .ref (ad (b + (s.heap.size + 1))), .int 0, .ref (ad (b + (s.heap.size + 2))), .ref (ad (b + (s.heap.size + 3))), .ref (ad (b + (s.heap.size + 4))), .ref (ad (b + (s.heap.size + 5))), .ref (ad (b + (s.heap.size + 6))), .ref (ad (b + (s.heap.size + 7))), .int 0, .int 0, .int 0, .int 0, .int 0, .int 0, .int 0, .ref (ad (b + (s.heap.size + 8))), .ref (ad (b + (s.heap.size + 9))), .int 0, .ref (ad (b + (s.heap.size + 10))), .int 0, .ref (ad (b + (s.heap.size + 11))), .ref (ad (b + (s.heap.size + 12))), .null, .int 0, .int 0, .int 0])) := by rw [hce26]; exact va_up_self _ _ _
  have f_A0 : ce26 (b + s.heap.size) = some (.inl (cI, 10, .inl (fun _ => 0))) := by rw [hce26, va_up_ne _ _ ne_A0_T]; exact f_A0
  have f_A1 : ce26 (b + (s.heap.size + 1)) = some (.inl (cZ, 10, .inl (fun _ => 0))) := by rw [hce26, va_up_ne _ _ ne_A1_T]; exact f_A1
  have f_A2 : ce26 (b + (s.heap.size + 2)) = some (.inl (cZ, 1000, .inl (fun _ => 0))) := by rw [hce26, va_up_ne _ _ ne_A2_T]; exact f_A2
  have f_A3 : ce26 (b + (s.heap.size + 3)) = some (.inl (cZ, 1000, .inl (fun _ => 0))) := by rw [hce26, va_up_ne _ _ ne_A3_T]; exact f_A3
  have f_A4 : ce26 (b + (s.heap.size + 4)) = some (.inl (cI, 124, .inl (fun _ => 0))) := by rw [hce26, va_up_ne _ _ ne_A4_T]; exact f_A4
  have f_A5 : ce26 (b + (s.heap.size + 5)) = some (.inl (cI, 124, .inl (fun _ => 0))) := by rw [hce26, va_up_ne _ _ ne_A5_T]; exact f_A5
  have f_A6 : ce26 (b + (s.heap.size + 6)) = some (.inl (cI, 124, .inl (fun _ => 0))) := by rw [hce26, va_up_ne _ _ ne_A6_T]; exact f_A6
  have f_A7 : ce26 (b + (s.heap.size + 7)) = some (.inl (cI, 31, .inl (fun _ => 0))) := by rw [hce26, va_up_ne _ _ ne_A7_T]; exact f_A7
  have f_A8 : ce26 (b + (s.heap.size + 8)) = some (.inl (cZ, 1210, .inl (fun _ => 0))) := by rw [hce26, va_up_ne _ _ ne_A8_T]; exact f_A8
  have f_A9 : ce26 (b + (s.heap.size + 9)) = some (.inl (cI, 1210, .inl (fun _ => 0))) := by rw [hce26, va_up_ne _ _ ne_A9_T]; exact f_A9
  have f_A10 : ce26 (b + (s.heap.size + 10)) = some (.inl (cZ, 40, .inl (fun _ => 0))) := by rw [hce26, va_up_ne _ _ ne_A10_T]; exact f_A10
  have f_A11 : ce26 (b + (s.heap.size + 11)) = some (.inl (cI, 8, .inl (fun _ => 0))) := by rw [hce26, va_up_ne _ _ ne_A11_T]; exact f_A11
  have f_A12 : ce26 (b + (s.heap.size + 12)) = some (.inl (cI, 8, .inl (fun _ => 0))) := by rw [hce26, va_up_ne _ _ ne_A12_T]; exact f_A12
  refine lv_aload_n hx hb d_Mo_init_112 rfl (lv_at hl 0 rfl) ?_
  refine lv_iconst (v := 4) hx hb d_Mo_init_113 (by decide) ?_
  have fr_A13 : ce26 (b + (s.heap.size + 13)) = none := xa_free hw hba (Nat.le_of_eq hz)
  have ne_T_A13 : iT ≠ (b + (s.heap.size + 13)) := xa_ne f_T fr_A13
  have ne_A13_T : (b + (s.heap.size + 13)) ≠ iT := Ne.symm ne_T_A13
  have ne_A0_A13 : (b + s.heap.size) ≠ (b + (s.heap.size + 13)) := xa_ne f_A0 fr_A13
  have ne_A13_A0 : (b + (s.heap.size + 13)) ≠ (b + s.heap.size) := Ne.symm ne_A0_A13
  have ne_A1_A13 : (b + (s.heap.size + 1)) ≠ (b + (s.heap.size + 13)) := xa_ne f_A1 fr_A13
  have ne_A13_A1 : (b + (s.heap.size + 13)) ≠ (b + (s.heap.size + 1)) := Ne.symm ne_A1_A13
  have ne_A2_A13 : (b + (s.heap.size + 2)) ≠ (b + (s.heap.size + 13)) := xa_ne f_A2 fr_A13
  have ne_A13_A2 : (b + (s.heap.size + 13)) ≠ (b + (s.heap.size + 2)) := Ne.symm ne_A2_A13
  have ne_A3_A13 : (b + (s.heap.size + 3)) ≠ (b + (s.heap.size + 13)) := xa_ne f_A3 fr_A13
  have ne_A13_A3 : (b + (s.heap.size + 13)) ≠ (b + (s.heap.size + 3)) := Ne.symm ne_A3_A13
  have ne_A4_A13 : (b + (s.heap.size + 4)) ≠ (b + (s.heap.size + 13)) := xa_ne f_A4 fr_A13
  have ne_A13_A4 : (b + (s.heap.size + 13)) ≠ (b + (s.heap.size + 4)) := Ne.symm ne_A4_A13
  have ne_A5_A13 : (b + (s.heap.size + 5)) ≠ (b + (s.heap.size + 13)) := xa_ne f_A5 fr_A13
  have ne_A13_A5 : (b + (s.heap.size + 13)) ≠ (b + (s.heap.size + 5)) := Ne.symm ne_A5_A13
  have ne_A6_A13 : (b + (s.heap.size + 6)) ≠ (b + (s.heap.size + 13)) := xa_ne f_A6 fr_A13
  have ne_A13_A6 : (b + (s.heap.size + 13)) ≠ (b + (s.heap.size + 6)) := Ne.symm ne_A6_A13
  have ne_A7_A13 : (b + (s.heap.size + 7)) ≠ (b + (s.heap.size + 13)) := xa_ne f_A7 fr_A13
  have ne_A13_A7 : (b + (s.heap.size + 13)) ≠ (b + (s.heap.size + 7)) := Ne.symm ne_A7_A13
  have ne_A8_A13 : (b + (s.heap.size + 8)) ≠ (b + (s.heap.size + 13)) := xa_ne f_A8 fr_A13
  have ne_A13_A8 : (b + (s.heap.size + 13)) ≠ (b + (s.heap.size + 8)) := Ne.symm ne_A8_A13
  have ne_A9_A13 : (b + (s.heap.size + 9)) ≠ (b + (s.heap.size + 13)) := xa_ne f_A9 fr_A13
  have ne_A13_A9 : (b + (s.heap.size + 13)) ≠ (b + (s.heap.size + 9)) := Ne.symm ne_A9_A13
  have ne_A10_A13 : (b + (s.heap.size + 10)) ≠ (b + (s.heap.size + 13)) := xa_ne f_A10 fr_A13
  have ne_A13_A10 : (b + (s.heap.size + 13)) ≠ (b + (s.heap.size + 10)) := Ne.symm ne_A10_A13
  have ne_A11_A13 : (b + (s.heap.size + 11)) ≠ (b + (s.heap.size + 13)) := xa_ne f_A11 fr_A13
  have ne_A13_A11 : (b + (s.heap.size + 13)) ≠ (b + (s.heap.size + 11)) := Ne.symm ne_A11_A13
  have ne_A12_A13 : (b + (s.heap.size + 12)) ≠ (b + (s.heap.size + 13)) := xa_ne f_A12 fr_A13
  have ne_A13_A12 : (b + (s.heap.size + 13)) ≠ (b + (s.heap.size + 12)) := Ne.symm ne_A12_A13
  refine xa_newa (D := D) (b := b) (atype := .int) (N' := 4) (a0 := (4, .inl (fun _ => 0))) hx hb (hts _ (List.mem_cons_of_mem _ xw_55)) rfl hw hba 0 rfl (fun _ => rfl) (by decide) (by decide) (by decide) (by decide) (by decide) d_Mo_init_114 (fun H hz1 hw => ?_)
  rw [hz] at hz1 hw
  rw [hz]
  have hz : H.size = s.heap.size + 14 := hz1
  obtain ⟨ce27, hce27⟩ : ∃ z, z = va_up ce26 (b + (s.heap.size + 13)) (some (.inl (cI, 4, .inl (fun _ => 0)))) := ⟨_, rfl⟩
  have hw := xm_W.cast hce27.symm hw
  have f_T : ce27 iT = some (.inr (4, [.int 0, .ref (ad (b + s.heap.size)), .ref (ad (b + (s.heap.size + 1))), .int 0, .ref (ad (b + (s.heap.size + 2))), .ref (ad (b + (s.heap.size + 3))), .ref (ad (b + (s.heap.size + 4))), .ref (ad (b + (s.heap.size + 5))), .ref (ad (b + (s.heap.size + 6))), .ref (ad (b + (s.heap.size + 7))), .int 0, .int 0, .int 0, .int 0, .int 0, .int 0, .int 0, .ref (ad (b + (s.heap.size + 8))), .ref (ad (b + (s.heap.size + 9))), .int 0, .ref (ad (b + (s.heap.size + 10))), .int 0, .ref (ad (b + (s.heap.size + 11))), .ref (ad (b + (s.heap.size + 12))), .null, .int 0, .int 0, .int 0])) := by rw [hce27, va_up_ne _ _ ne_T_A13]; exact f_T
  have f_A0 : ce27 (b + s.heap.size) = some (.inl (cI, 10, .inl (fun _ => 0))) := by rw [hce27, va_up_ne _ _ ne_A0_A13]; exact f_A0
  have f_A1 : ce27 (b + (s.heap.size + 1)) = some (.inl (cZ, 10, .inl (fun _ => 0))) := by rw [hce27, va_up_ne _ _ ne_A1_A13]; exact f_A1
  have f_A2 : ce27 (b + (s.heap.size + 2)) = some (.inl (cZ, 1000, .inl (fun _ => 0))) := by rw [hce27, va_up_ne _ _ ne_A2_A13]; exact f_A2
  have f_A3 : ce27 (b + (s.heap.size + 3)) = some (.inl (cZ, 1000, .inl (fun _ => 0))) := by rw [hce27, va_up_ne _ _ ne_A3_A13]; exact f_A3
  have f_A4 : ce27 (b + (s.heap.size + 4)) = some (.inl (cI, 124, .inl (fun _ => 0))) := by rw [hce27, va_up_ne _ _ ne_A4_A13]; exact f_A4
  have f_A5 : ce27 (b + (s.heap.size + 5)) = some (.inl (cI, 124, .inl (fun _ => 0))) := by rw [hce27, va_up_ne _ _ ne_A5_A13]; exact f_A5
  have f_A6 : ce27 (b + (s.heap.size + 6)) = some (.inl (cI, 124, .inl (fun _ => 0))) := by rw [hce27, va_up_ne _ _ ne_A6_A13]; exact f_A6
  have f_A7 : ce27 (b + (s.heap.size + 7)) = some (.inl (cI, 31, .inl (fun _ => 0))) := by rw [hce27, va_up_ne _ _ ne_A7_A13]; exact f_A7
  have f_A8 : ce27 (b + (s.heap.size + 8)) = some (.inl (cZ, 1210, .inl (fun _ => 0))) := by rw [hce27, va_up_ne _ _ ne_A8_A13]; exact f_A8
  have f_A9 : ce27 (b + (s.heap.size + 9)) = some (.inl (cI, 1210, .inl (fun _ => 0))) := by rw [hce27, va_up_ne _ _ ne_A9_A13]; exact f_A9
  have f_A10 : ce27 (b + (s.heap.size + 10)) = some (.inl (cZ, 40, .inl (fun _ => 0))) := by rw [hce27, va_up_ne _ _ ne_A10_A13]; exact f_A10
  have f_A11 : ce27 (b + (s.heap.size + 11)) = some (.inl (cI, 8, .inl (fun _ => 0))) := by rw [hce27, va_up_ne _ _ ne_A11_A13]; exact f_A11
  have f_A12 : ce27 (b + (s.heap.size + 12)) = some (.inl (cI, 8, .inl (fun _ => 0))) := by rw [hce27, va_up_ne _ _ ne_A12_A13]; exact f_A12
  have f_A13 : ce27 (b + (s.heap.size + 13)) = some (.inl (cI, 4, .inl (fun _ => 0))) := by rw [hce27]; exact va_up_self _ _ _
  refine xa_putF (D := D) (v := .ref (ad (b + (s.heap.size + 13)))) (ty := .array .int) (C := R_Mo) (T := F_Mo) (N := 28) hx hb hts (fun w h => List.mem_cons_of_mem _ (i_Mo w h)) t_Mo o_Mo n_Mo hown hw f_T rfl 24 (by decide) (hts _ (List.mem_cons_of_mem _ xw_586)) (fun _ h9 => h9) rfl hnm rfl (by decide +kernel) rfl rfl (Nat.le_of_ble_eq_true rfl) d_Mo_init_116 (fun H locs hz1 hw => ?_)
  rw [hz] at hz1
  have hz : H.size = s.heap.size + 14 := hz1
  obtain ⟨ce28, hce28⟩ : ∃ z, z = va_up ce27 iT (some (.inr (4, [.int 0, .ref (ad (b + s.heap.size)), .ref (ad (b + (s.heap.size + 1))), .int 0, .ref (ad (b + (s.heap.size + 2))), .ref (ad (b + (s.heap.size + 3))), .ref (ad (b + (s.heap.size + 4))), .ref (ad (b + (s.heap.size + 5))), .ref (ad (b + (s.heap.size + 6))), .ref (ad (b + (s.heap.size + 7))), .int 0, .int 0, .int 0, .int 0, .int 0, .int 0, .int 0, .ref (ad (b + (s.heap.size + 8))), .ref (ad (b + (s.heap.size + 9))), .int 0, .ref (ad (b + (s.heap.size + 10))), .int 0, .ref (ad (b + (s.heap.size + 11))), .ref (ad (b + (s.heap.size + 12))), .ref (ad (b + (s.heap.size + 13))), .int 0, .int 0, .int 0]))) := ⟨_, rfl⟩
  have hw := xm_W.cast hce28.symm hw
  have f_T : ce28 iT = some (.inr (4, [.int 0, .ref (ad (b + s.heap.size)), .ref (ad (b + (s.heap.size + 1))), .int 0, .ref (ad (b + (s.heap.size + 2))), .ref (ad (b + (s.heap.size + 3))), .ref (ad (b + (s.heap.size + 4))), .ref (ad (b + (s.heap.size + 5))), .ref (ad (b + (s.heap.size + 6))), .ref (ad (b + (s.heap.size + 7))), .int 0, .int 0, .int 0, .int 0, .int 0, .int 0, .int 0, .ref (ad (b + (s.heap.size + 8))), .ref (ad (b + (s.heap.size + 9))), .int 0, .ref (ad (b + (s.heap.size + 10))), .int 0, .ref (ad (b + (s.heap.size + 11))), .ref (ad (b + (s.heap.size + 12))), .ref (ad (b + (s.heap.size + 13))), .int 0, .int 0, .int 0])) := by rw [hce28]; exact va_up_self _ _ _
  have f_A0 : ce28 (b + s.heap.size) = some (.inl (cI, 10, .inl (fun _ => 0))) := by rw [hce28, va_up_ne _ _ ne_A0_T]; exact f_A0
  have f_A1 : ce28 (b + (s.heap.size + 1)) = some (.inl (cZ, 10, .inl (fun _ => 0))) := by rw [hce28, va_up_ne _ _ ne_A1_T]; exact f_A1
  have f_A2 : ce28 (b + (s.heap.size + 2)) = some (.inl (cZ, 1000, .inl (fun _ => 0))) := by rw [hce28, va_up_ne _ _ ne_A2_T]; exact f_A2
  have f_A3 : ce28 (b + (s.heap.size + 3)) = some (.inl (cZ, 1000, .inl (fun _ => 0))) := by rw [hce28, va_up_ne _ _ ne_A3_T]; exact f_A3
  have f_A4 : ce28 (b + (s.heap.size + 4)) = some (.inl (cI, 124, .inl (fun _ => 0))) := by rw [hce28, va_up_ne _ _ ne_A4_T]; exact f_A4
  have f_A5 : ce28 (b + (s.heap.size + 5)) = some (.inl (cI, 124, .inl (fun _ => 0))) := by rw [hce28, va_up_ne _ _ ne_A5_T]; exact f_A5
  have f_A6 : ce28 (b + (s.heap.size + 6)) = some (.inl (cI, 124, .inl (fun _ => 0))) := by rw [hce28, va_up_ne _ _ ne_A6_T]; exact f_A6
  have f_A7 : ce28 (b + (s.heap.size + 7)) = some (.inl (cI, 31, .inl (fun _ => 0))) := by rw [hce28, va_up_ne _ _ ne_A7_T]; exact f_A7
  have f_A8 : ce28 (b + (s.heap.size + 8)) = some (.inl (cZ, 1210, .inl (fun _ => 0))) := by rw [hce28, va_up_ne _ _ ne_A8_T]; exact f_A8
  have f_A9 : ce28 (b + (s.heap.size + 9)) = some (.inl (cI, 1210, .inl (fun _ => 0))) := by rw [hce28, va_up_ne _ _ ne_A9_T]; exact f_A9
  have f_A10 : ce28 (b + (s.heap.size + 10)) = some (.inl (cZ, 40, .inl (fun _ => 0))) := by rw [hce28, va_up_ne _ _ ne_A10_T]; exact f_A10
  have f_A11 : ce28 (b + (s.heap.size + 11)) = some (.inl (cI, 8, .inl (fun _ => 0))) := by rw [hce28, va_up_ne _ _ ne_A11_T]; exact f_A11
  have f_A12 : ce28 (b + (s.heap.size + 12)) = some (.inl (cI, 8, .inl (fun _ => 0))) := by rw [hce28, va_up_ne _ _ ne_A12_T]; exact f_A12
  have f_A13 : ce28 (b + (s.heap.size + 13)) = some (.inl (cI, 4, .inl (fun _ => 0))) := by rw [hce28, va_up_ne _ _ ne_A13_T]; exact f_A13
  subst hQQ
  exact xm_vret hx hb hr hlk hw ce28 rfl rfl ⟨f_T, f_A0, f_A1, f_A2, f_A3, f_A4, f_A5, f_A6, f_A7, f_A8, f_A9, f_A10, f_A11, f_A12, f_A13, (fun i i_T i_A0 i_A1 i_A2 i_A3 i_A4 i_A5 i_A6 i_A7 i_A8 i_A9 i_A10 i_A11 i_A12 i_A13 => by rw [hce28, va_up_ne _ _ i_T]; rw [hce27, va_up_ne _ _ i_A13]; rw [hce26, va_up_ne _ _ i_T]; rw [hce25, va_up_ne _ _ i_A12]; rw [hce24, va_up_ne _ _ i_T]; rw [hce23, va_up_ne _ _ i_A11]; rw [hce22, va_up_ne _ _ i_T]; rw [hce21, va_up_ne _ _ i_A10]; rw [hce20, va_up_ne _ _ i_T]; rw [hce19, va_up_ne _ _ i_A9]; rw [hce18, va_up_ne _ _ i_T]; rw [hce17, va_up_ne _ _ i_A8]; rw [hce16, va_up_ne _ _ i_T]; rw [hce15, va_up_ne _ _ i_A7]; rw [hce14, va_up_ne _ _ i_T]; rw [hce13, va_up_ne _ _ i_A6]; rw [hce12, va_up_ne _ _ i_T]; rw [hce11, va_up_ne _ _ i_A5]; rw [hce10, va_up_ne _ _ i_T]; rw [hce9, va_up_ne _ _ i_A4]; rw [hce8, va_up_ne _ _ i_T]; rw [hce7, va_up_ne _ _ i_A3]; rw [hce6, va_up_ne _ _ i_T]; rw [hce5, va_up_ne _ _ i_A2]; rw [hce4, va_up_ne _ _ i_T]; rw [hce3, va_up_ne _ _ i_A1]; rw [hce2, va_up_ne _ _ i_T]; rw [hce1, va_up_ne _ _ i_A0])⟩ d_Mo_init_119
abbrev b_Mt_init : ByteArray := prog_2_method_1_code
def y_Mt_init : MethodName := ⟨"QuestionDesk$Matcher", "<init>", "(LQuestionDesk$Pairs;)V"⟩
theorem d_Mt_init_0 : decode b_Mt_init 0 = .ok (.aload_n 0, 1) := by decide +kernel
theorem d_Mt_init_1 : decode b_Mt_init 1 = .ok (.invokespecial 3, 3) := by decide +kernel
theorem d_Mt_init_4 : decode b_Mt_init 4 = .ok (.aload_n 0, 1) := by decide +kernel
theorem d_Mt_init_5 : decode b_Mt_init 5 = .ok (.bipush 20, 2) := by decide +kernel
theorem d_Mt_init_7 : decode b_Mt_init 7 = .ok (.newarray .int, 2) := by decide +kernel
theorem d_Mt_init_9 : decode b_Mt_init 9 = .ok (.putfield 9, 3) := by decide +kernel
theorem d_Mt_init_12 : decode b_Mt_init 12 = .ok (.aload_n 0, 1) := by decide +kernel
theorem d_Mt_init_13 : decode b_Mt_init 13 = .ok (.aload_n 1, 1) := by decide +kernel
theorem d_Mt_init_14 : decode b_Mt_init 14 = .ok (.putfield 15, 3) := by decide +kernel
theorem d_Mt_init_17 : decode b_Mt_init 17 = .ok (.iconst (-1), 1) := by decide +kernel
theorem d_Mt_init_18 : decode b_Mt_init 18 = .ok (.istore_n 2, 1) := by decide +kernel
theorem d_Mt_init_19 : decode b_Mt_init 19 = .ok (.iload_n 2, 1) := by decide +kernel
theorem d_Mt_init_20 : decode b_Mt_init 20 = .ok (.bipush 18, 2) := by decide +kernel
theorem d_Mt_init_22 : decode b_Mt_init 22 = .ok (.if_icmp .gt 29, 3) := by decide +kernel
theorem d_Mt_init_25 : decode b_Mt_init 25 = .ok (.aload_n 0, 1) := by decide +kernel
theorem d_Mt_init_26 : decode b_Mt_init 26 = .ok (.getfield 9, 3) := by decide +kernel
theorem d_Mt_init_29 : decode b_Mt_init 29 = .ok (.iload_n 2, 1) := by decide +kernel
theorem d_Mt_init_30 : decode b_Mt_init 30 = .ok (.iconst 1, 1) := by decide +kernel
theorem d_Mt_init_31 : decode b_Mt_init 31 = .ok (.iadd, 1) := by decide +kernel
theorem d_Mt_init_32 : decode b_Mt_init 32 = .ok (.iload_n 2, 1) := by decide +kernel
theorem d_Mt_init_33 : decode b_Mt_init 33 = .ok (.bipush 10, 2) := by decide +kernel
theorem d_Mt_init_35 : decode b_Mt_init 35 = .ok (.if_icmp .ge 7, 3) := by decide +kernel
theorem d_Mt_init_38 : decode b_Mt_init 38 = .ok (.iload_n 2, 1) := by decide +kernel
theorem d_Mt_init_39 : decode b_Mt_init 39 = .ok (.goto 5, 3) := by decide +kernel
theorem d_Mt_init_42 : decode b_Mt_init 42 = .ok (.bipush (-2), 2) := by decide +kernel
theorem d_Mt_init_44 : decode b_Mt_init 44 = .ok (.iastore, 1) := by decide +kernel
theorem d_Mt_init_45 : decode b_Mt_init 45 = .ok (.iinc 2 1, 3) := by decide +kernel
theorem d_Mt_init_48 : decode b_Mt_init 48 = .ok (.goto (-29), 3) := by decide +kernel
theorem d_Mt_init_51 : decode b_Mt_init 51 = .ok (.return_, 1) := by decide +kernel
abbrev rm_Mt_init : Room := { frames := 1, cells := 1, slots := 20, locals := 30 }
def wp_Mt_initL (E : (Nat → Int32) → Prop) (v : Nat → Int32)  : Prop :=
xL (fun (K_2 : Int32 × (Nat → Int32) → Prop) (v_1 : Int32 × (Nat → Int32)) =>
((18 < v_1.1 →
E v_1.2) ∧ (¬ 18 < v_1.1 →
xj (fun (v_3 : Int32) =>
vp_in (v_1.1 + 1) 20 ∧
∀ v_5 : Nat → Int32, v_5 = upd v_1.2 (Int32.toNatClampNeg (v_1.1 + 1)) v_3 →
∀ x_6 : Int32, x_6 = v_1.1 + 1 →
K_2 (x_6, v_5)) (fun (J_4 : Int32 → Prop) =>
((10 ≤ v_1.1 →
J_4 (-2)) ∧ (¬ 10 ≤ v_1.1 →
J_4 v_1.1)))))) ((-1), v)
set_option maxHeartbeats 8000000 in
set_option maxRecDepth 100000 in
theorem s_Mt_initL {p : Program} {l : Launch} {e : Env} {s : State} {m : MethodId} {args : Array Value} {below : List Frame} {meth : Method} {c : Code} {QQ : State → Prop} {D : va_G} {ad : Nat → Nat} (CE : (Nat → Int32) → Nat → Option va_E) {cI cZ cJ cO : ClassId} {iM : Nat} {iP : Nat} {iV : Nat}  {v : Nat → Int32}  (k_M : ∀ (v : Nat → Int32), (CE v) iM = some (.inr (2, [.ref (ad iP), .ref (ad iV)]))) (k_V : ∀ (v : Nat → Int32), (CE v) iV = some (.inl (cI, 20, .inl v))) (u_V : ∀ (v : Nat → Int32) (v' : Nat → Int32), va_up (CE v) iV (some (.inl (cI, 20, .inl v'))) = (CE v')) {ce0 : Nat → Option va_E} {E : (Nat → Int32) → Prop} (hE : ∀ v, E v → (fun (v_E : (Nat → Int32)) => ∀ (H : Heap) (locs : List Loc) (ls : Array Slot), xm_W D xcl (xT cI cZ cJ cO) (xm_A ad ce0 s.heap.size) ad (CE v_E) s s.heap H locs → lv_has ls 3 [(0, .ref (ad iM))] → W p l e rm_Mt_init s m args below meth c H locs 1 20 QQ (F0 m 51 ls [])) v) (h : wp_Mt_initL E v ) (hx : p.tables.exec = Jvm.exec) (hb : c.code = b_Mt_init) (hml : c.maxLocals = 3) (hown : s.vm.findClass "QuestionDesk$Matcher" = some m.cls) (hts : ∀ w ∈ (Cond.code y_Mt_init b_Mt_init 3 none :: xg), w.before args s = true) {H : Heap} {locs : List Loc} {ls : Array Slot} (hw : xm_W D xcl (xT cI cZ cJ cO) (xm_A ad ce0 s.heap.size) ad (CE v) s s.heap H locs) (hl : lv_has ls 3 [(0, .ref (ad iM)), (1, .ref (ad iP))]) : W p l e rm_Mt_init s m args below meth c H locs 1 20 QQ (F0 m 17 ls []) := by
  unfold wp_Mt_initL at h
  refine lv_iconst (v := (-1)) hx hb d_Mt_init_17 (by decide) ?_
  refine lv_istore_n (lv' := [(2, .int (-1)), (0, .ref (ad iM)), (1, .ref (ad iP))]) hx hb d_Mt_init_18 rfl hl (by decide) rfl (fun ls hl => ?_)
  refine xL_use h (fun (v_1 : Int32 × (Nat → Int32)) => ∀ (H : Heap) (locs : List Loc) (ls : Array Slot), xm_W D xcl (xT cI cZ cJ cO) (xm_A ad ce0 s.heap.size) ad (CE v_1.2) s s.heap H locs → lv_has ls 3 [(2, .int v_1.1), (0, .ref (ad iM))] → W p l e rm_Mt_init s m args below meth c H locs 1 20 QQ (F0 m 19 ls [])) (fun K_2 hK_2 v_1 h H locs ls hw hl => ?_) _ _ _ hw (lv_sub hl [0, 1] rfl)
  refine lv_iload_n hx hb d_Mt_init_19 rfl (lv_at hl 0 rfl) ?_
  refine lv_bipush (v := 18) hx hb d_Mt_init_20 (by decide) ?_
  refine lv_icmp_gt (tgt := 51) hx hb d_Mt_init_22 (by decide) (fun hc => ?_) (fun hc => ?_)
  · have h := h.1 hc
    exact hE v_1.2 h _ _ _ hw (lv_sub hl [1] rfl)
  · have h := h.2 hc
    refine lv_aload_n hx hb d_Mt_init_25 rfl (lv_at hl 1 rfl) ?_
    refine xm_get (D := D) (v := .ref (ad iV)) (C := R_Mt) (T := F_Mt) (N := 2) hx hb hts (fun w h => List.mem_cons_of_mem _ (i_Mt w h)) hown hw (k_M v_1.2) rfl 1 (by decide) (hts _ (List.mem_cons_of_mem _ xw_74)) (fun _ h9 => h9) rfl d_Mt_init_26 ?_
    refine lv_iload_n hx hb d_Mt_init_29 rfl (lv_at hl 0 rfl) ?_
    refine lv_iconst (v := 1) hx hb d_Mt_init_30 (by decide) ?_
    refine lv_iadd hx hb d_Mt_init_31 ?_
    refine lv_iload_n hx hb d_Mt_init_32 rfl (lv_at hl 0 rfl) ?_
    refine lv_bipush (v := 10) hx hb d_Mt_init_33 (by decide) ?_
    refine xj_use h (fun (v_3 : Int32) => ∀ (H : Heap) (locs : List Loc) (ls : Array Slot), xm_W D xcl (xT cI cZ cJ cO) (xm_A ad ce0 s.heap.size) ad (CE v_1.2) s s.heap H locs → lv_has ls 3 [(0, .ref (ad iM)), (2, .int v_1.1)] → W p l e rm_Mt_init s m args below meth c H locs 1 20 QQ (F0 m 44 ls [.int v_3, .int (v_1.1 + 1), .ref (ad iV)])) (fun v_3 h H locs ls hw hl => ?_) (fun J_4 hJ_4 h => ?_)
    · obtain ⟨hin, h⟩ := h
      refine xm_iast hx hb hw 0 (k_V v_1.2) rfl hin d_Mt_init_44 (fun H locs hw => ?_)
      have hw : xm_W D xcl (xT cI cZ cJ cO) (xm_A ad ce0 s.heap.size) ad (CE (upd v_1.2 (Int32.toNatClampNeg (v_1.1 + 1)) v_3)) s s.heap H locs := xm_W.cast (u_V v_1.2 (upd v_1.2 (Int32.toNatClampNeg (v_1.1 + 1)) v_3)) hw
      obtain ⟨v_5, ev_5⟩ : ∃ z : Nat → Int32, z = upd v_1.2 (Int32.toNatClampNeg (v_1.1 + 1)) v_3 := ⟨_, rfl⟩
      have h := h v_5 ev_5
      rw [← ev_5] at hw
      obtain ⟨x_6, ex_6⟩ : ∃ y : Int32, y = v_1.1 + 1 := ⟨_, rfl⟩
      have h := h x_6 ex_6
      refine lv_iinc (v := x_6) (lv' := [(2, .int x_6), (0, .ref (ad iM))]) hx hb d_Mt_init_45 hl (k := 1) rfl (by rw [ex_6]; rfl) (by decide) rfl (fun ls hl => ?_)
      refine lv_goto (tgt := 19) hx hb d_Mt_init_48 (by decide) ?_
      exact hK_2 (x_6, v_5) h _ _ _ hw (lv_sub hl [0, 1] rfl)
    · refine lv_icmp_ge (tgt := 42) hx hb d_Mt_init_35 (by decide) (fun hc => ?_) (fun hc => ?_)
      · have h := h.1 hc
        refine lv_bipush (v := (-2)) hx hb d_Mt_init_42 (by decide) ?_
        exact hJ_4 (-2) h _ _ _ hw (lv_sub hl [1, 0] rfl)
      · have h := h.2 hc
        refine lv_iload_n hx hb d_Mt_init_38 rfl (lv_at hl 0 rfl) ?_
        refine lv_goto (tgt := 44) hx hb d_Mt_init_39 (by decide) ?_
        exact hJ_4 v_1.1 h _ _ _ hw (lv_sub hl [1, 0] rfl)
