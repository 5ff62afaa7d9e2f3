abbrev b_Ac_init : ByteArray := prog_19_method_1_code
def y_Ac_init : MethodName := ⟨"java/util/AbstractCollection", "<init>", "()V"⟩
theorem d_Ac_init_0 : decode b_Ac_init 0 = .ok (.aload_n 0, 1) := by decide +kernel
theorem d_Ac_init_1 : decode b_Ac_init 1 = .ok (.invokespecial 1, 3) := by decide +kernel
theorem d_Ac_init_4 : decode b_Ac_init 4 = .ok (.return_, 1) := by decide +kernel
abbrev b_Ab_init : ByteArray := prog_20_method_1_code
def y_Ab_init : MethodName := ⟨"java/util/AbstractList", "<init>", "()V"⟩
theorem d_Ab_init_0 : decode b_Ab_init 0 = .ok (.aload_n 0, 1) := by decide +kernel
theorem d_Ab_init_1 : decode b_Ab_init 1 = .ok (.invokespecial 1, 3) := by decide +kernel
theorem d_Ab_init_4 : decode b_Ab_init 4 = .ok (.aload_n 0, 1) := by decide +kernel
theorem d_Ab_init_5 : decode b_Ab_init 5 = .ok (.iconst 0, 1) := by decide +kernel
theorem d_Ab_init_6 : decode b_Ab_init 6 = .ok (.putfield 7, 3) := by decide +kernel
theorem d_Ab_init_9 : decode b_Ab_init 9 = .ok (.return_, 1) := by decide +kernel
abbrev b_Al_init : ByteArray := prog_21_method_2_code
def y_Al_init : MethodName := ⟨"java/util/ArrayList", "<init>", "()V"⟩
theorem d_Al_init_0 : decode b_Al_init 0 = .ok (.aload_n 0, 1) := by decide +kernel
theorem d_Al_init_1 : decode b_Al_init 1 = .ok (.invokespecial 1, 3) := by decide +kernel
theorem d_Al_init_4 : decode b_Al_init 4 = .ok (.aload_n 0, 1) := by decide +kernel
theorem d_Al_init_5 : decode b_Al_init 5 = .ok (.getstatic 39, 3) := by decide +kernel
theorem d_Al_init_8 : decode b_Al_init 8 = .ok (.putfield 9, 3) := by decide +kernel
theorem d_Al_init_11 : decode b_Al_init 11 = .ok (.return_, 1) := by decide +kernel
theorem xw_40 : (Jvm.Cond.methodLink "java/util/AbstractCollection" (1 : Nat) ({ cls := "java/lang/Object", name := "<init>", desc := "()V" } : Jvm.MethodName)) ∈ xg := xg_t (i := 40) (by decide +kernel) (by decide +kernel)
theorem xw_39 : (Jvm.Cond.code ({ cls := "java/util/AbstractCollection", name := "<init>", desc := "()V" } : Jvm.MethodName) prog_19_method_1_code (1 : Nat) (Option.none : Option Jvm.ClassFile.FieldType)) ∈ xg := xg_t (i := 39) (by decide +kernel) (by decide +kernel)
theorem xw_2 : (Jvm.Cond.initialized "java/util/AbstractCollection") ∈ xg := xg_t (i := 2) (by decide +kernel) (by decide +kernel)
theorem xw_38 : (Jvm.Cond.instanceMethod ({ cls := "java/util/AbstractCollection", name := "<init>", desc := "()V" } : Jvm.MethodName)) ∈ xg := xg_t (i := 38) (by decide +kernel) (by decide +kernel)
theorem xw_37 : (Jvm.Cond.methodLink "java/util/AbstractList" (1 : Nat) ({ cls := "java/util/AbstractCollection", name := "<init>", desc := "()V" } : Jvm.MethodName)) ∈ xg := xg_t (i := 37) (by decide +kernel) (by decide +kernel)
theorem xw_45 : (Jvm.Cond.fieldLink "java/util/AbstractList" (7 : Nat) "java/util/AbstractList" "modCount" "I") ∈ xg := xg_t (i := 45) (by decide +kernel) (by decide +kernel)
theorem xw_36 : (Jvm.Cond.code ({ cls := "java/util/AbstractList", name := "<init>", desc := "()V" } : Jvm.MethodName) prog_20_method_1_code (1 : Nat) (Option.none : Option Jvm.ClassFile.FieldType)) ∈ xg := xg_t (i := 36) (by decide +kernel) (by decide +kernel)
theorem xw_3 : (Jvm.Cond.initialized "java/util/AbstractList") ∈ xg := xg_t (i := 3) (by decide +kernel) (by decide +kernel)
theorem xw_35 : (Jvm.Cond.instanceMethod ({ cls := "java/util/AbstractList", name := "<init>", desc := "()V" } : Jvm.MethodName)) ∈ xg := xg_t (i := 35) (by decide +kernel) (by decide +kernel)
theorem xw_34 : (Jvm.Cond.methodLink "java/util/ArrayList" (1 : Nat) ({ cls := "java/util/AbstractList", name := "<init>", desc := "()V" } : Jvm.MethodName)) ∈ xg := xg_t (i := 34) (by decide +kernel) (by decide +kernel)
theorem xw_41 : (Jvm.Cond.fieldLink "java/util/ArrayList" (39 : Nat) "java/util/ArrayList" "DEFAULTCAPACITY_EMPTY_ELEMENTDATA" "[Ljava/lang/Object;") ∈ xg := xg_t (i := 41) (by decide +kernel) (by decide +kernel)
theorem xw_72 : (Jvm.Cond.methodLink "QuestionDesk$Matcher" (3 : Nat) ({ cls := "java/lang/Object", name := "<init>", desc := "()V" } : Jvm.MethodName)) ∈ xg := xg_t (i := 72) (by decide +kernel) (by decide +kernel)
abbrev rm_Ac_init : Room := { frames := 1, cells := 0, slots := 0, locals := 30 }
set_option maxHeartbeats 4000000 in
set_option maxRecDepth 100000 in
theorem c_Ac_init {l : Launch} {D : va_G} {ad : Nat → Nat} (ce : Nat → Option va_E) {b : Nat} {cI cZ cJ cO : ClassId} {iT : Nat} (hba : ∀ a, ad (b + a) = a) (f_T : ce iT = some (.inr (5, [.null, .int 0, .int 0]))) : ∀ sz, Met l y_Ac_init (Cond.code y_Ac_init b_Ac_init 1 none :: xg) rm_Ac_init (xm_Pc D xcl (xT cI cZ cJ cO) ad ce sz [.ref (ad iT)]) (va_Qv (fun u : Nat → Option va_E => ∀ i, u i = ce i) (xm_B D xcl (xT cI cZ cJ cO) (xm_A ad ce sz) (fun _ => ad) (fun u => u)) (xm_A ad ce sz)) 0 0 (xm_A ad ce sz) := by
  refine xm_ofW (cc := b_Ac_init) (maxL := 1) (ret := none) (by decide) rfl (Nat.le_of_ble_eq_true rfl) ?_
  intro p e s m args below meth c ls QQ hQQ hx hb hml hr hown hlk hnm hts hl hw
  have hl : lv_has ls 1 [(0, .ref (ad iT))] := hl
  refine lv_aload_n hx hb d_Ac_init_0 rfl (lv_at hl 0 rfl) ?_
  refine xa_oi hx hb hown (hts _ (List.mem_cons_of_mem _ xw_40)) (hts _ (List.mem_cons_of_mem _ xw_27)) (hts _ (List.mem_cons_of_mem _ xw_28)) (hl.1.trans hml.symm) d_Ac_init_1 (by decide) (Nat.le_of_ble_eq_true rfl) ?_
  subst hQQ
  exact xm_vret hx hb hr hlk hw ce rfl rfl (fun i  => rfl) d_Ac_init_4
abbrev rm_Ab_init : Room := { frames := 2, cells := 0, slots := 0, locals := 50 }
set_option maxHeartbeats 4000000 in
set_option maxRecDepth 100000 in
theorem c_Ab_init {l : Launch} {D : va_G} {ad : Nat → Nat} (ce : Nat → Option va_E) {b : Nat} {cI cZ cJ cO : ClassId} {iT : Nat} (hba : ∀ a, ad (b + a) = a) (f_T : ce iT = some (.inr (5, [.null, .int 0, .int 0]))) : ∀ sz, Met l y_Ab_init (Cond.code y_Ab_init b_Ab_init 1 none :: xg) rm_Ab_init (xm_Pc D xcl (xT cI cZ cJ cO) ad ce sz [.ref (ad iT)]) (va_Qv (fun u : Nat → Option va_E => u iT = some (.inr (5, [.null, .int 0, .int 0])) ∧ ∀ i, i ≠ iT → u i = ce i) (xm_B D xcl (xT cI cZ cJ cO) (xm_A ad ce sz) (fun _ => ad) (fun u => u)) (xm_A ad ce sz)) 0 0 (xm_A ad ce sz) := by
  refine xm_ofW (cc := b_Ab_init) (maxL := 1) (ret := none) (by decide) rfl (Nat.le_of_ble_eq_true rfl) ?_
  intro p e s m args below meth c ls QQ hQQ hx hb hml hr hown hlk hnm hts hl hw
  have hl : lv_has ls 1 [(0, .ref (ad iT))] := hl
  refine lv_aload_n hx hb d_Ab_init_0 rfl (lv_at hl 0 rfl) ?_
  refine xm_callv (ua := fun _ => ad) (va_runI (As := []) (rest := []) ⟨hx, hb, hml, hown, hts⟩ (c_Ac_init (D := D) (ad := ad) ce hba f_T _) (xg_cwI 0 hts xw_39 xw_37 xw_38 xw_2 rfl rfl rfl (by decide +kernel) ⟨Nat.le_of_ble_eq_true rfl, Nat.le_of_ble_eq_true rfl⟩) (xm_pre hw _) rfl rfl hl.1 rfl (lv_room (Nat.le_of_ble_eq_true rfl)) d_Ab_init_1 ⟨Nat.le_of_ble_eq_true rfl, Nat.le_of_ble_eq_true rfl⟩) hw (fun ce1 H1 locs h hw => ?_)
  have gfr_ce1 := h
  try dsimp only at hw
  have f_T : ce1 iT = some (.inr (5, [.null, .int 0, .int 0])) := (gfr_ce1 _ ).trans f_T
  obtain ⟨z2, hz⟩ : ∃ z, H1.size = z := ⟨_, rfl⟩
  obtain ⟨H, eH⟩ : ∃ z, z = H1 := ⟨_, rfl⟩
  subst eH
  refine lv_aload_n hx hb d_Ab_init_4 rfl (lv_at hl 0 rfl) ?_
  refine lv_iconst (v := 0) hx hb d_Ab_init_5 (by decide) ?_
  refine xa_put (D := D) (v := .int 0) (ty := .int) (C := R_Al) (T := F_Al) (N := 3) hx hb hts (fun w h => List.mem_cons_of_mem _ (i_Al w h)) t_Al o_Al n_Al hown hw f_T rfl 2 (by decide) (hts _ (List.mem_cons_of_mem _ xw_45)) (fun _ h9 => h9) rfl (by decide +kernel) rfl rfl (Nat.le_of_ble_eq_true rfl) d_Ab_init_6 (fun H locs hz1 hw => ?_)
  rw [hz] at hz1
  have hz : H.size = z2 := hz1
  obtain ⟨ce3, hce3⟩ : ∃ z, z = va_up ce1 iT (some (.inr (5, [.null, .int 0, .int 0]))) := ⟨_, rfl⟩
  have hw := xm_W.cast hce3.symm hw
  have f_T : ce3 iT = some (.inr (5, [.null, .int 0, .int 0])) := by rw [hce3]; exact va_up_self _ _ _
  subst hQQ
  exact xm_vret hx hb hr hlk hw ce3 rfl rfl ⟨f_T, (fun i i_T => by rw [hce3, va_up_ne _ _ i_T]; rw [gfr_ce1 _ ])⟩ d_Ab_init_9
abbrev rm_Al_init : Room := { frames := 3, cells := 0, slots := 0, locals := 70 }
set_option maxHeartbeats 4000000 in
set_option maxRecDepth 100000 in
theorem c_Al_init {l : Launch} {D : va_G} {ad : Nat → Nat} (ce : Nat → Option va_E) {b : Nat} {cI cZ cJ cO : ClassId} {t0 mi : Nat} {iT : Nat} (hba : ∀ a, ad (b + a) = a) (f_T : ce iT = some (.inr (5, [.null, .int 0, .int 0]))) : ∀ sz, Met l y_Al_init (Cond.code y_Al_init b_Al_init 1 none :: xg) rm_Al_init (xq_Pc t0 mi D xcl (xT cI cZ cJ cO) ad ce sz [.ref (ad iT)]) (va_Qv (fun u : Nat → Option va_E => u iT = some (.inr (5, [.ref t0, .int 0, .int 0])) ∧ ∀ i, i ≠ iT → u i = ce i) (xm_B D xcl (xT cI cZ cJ cO) (xm_A ad ce sz) (fun _ => ad) (fun u => u)) (xm_A ad ce sz)) 0 0 (xm_A ad ce sz) := by
  refine xq_ofW (cc := b_Al_init) (maxL := 1) (ret := none) (by decide) rfl (Nat.le_of_ble_eq_true rfl) ?_
  intro p e s m args below meth c ls QQ hQQ hT hx hb hml hr hown hlk hnm hts hl hw
  have hl : lv_has ls 1 [(0, .ref (ad iT))] := hl
  refine lv_aload_n hx hb d_Al_init_0 rfl (lv_at hl 0 rfl) ?_
  refine xm_callv (ua := fun _ => ad) (va_runI (As := []) (rest := []) ⟨hx, hb, hml, hown, hts⟩ (c_Ab_init (D := D) (ad := ad) ce hba f_T _) (xg_cwI 0 hts xw_36 xw_34 xw_35 xw_3 rfl rfl rfl (by decide +kernel) ⟨Nat.le_of_ble_eq_true rfl, Nat.le_of_ble_eq_true rfl⟩) (xm_pre hw _) rfl rfl hl.1 rfl (lv_room (Nat.le_of_ble_eq_true rfl)) d_Al_init_1 ⟨Nat.le_of_ble_eq_true rfl, Nat.le_of_ble_eq_true rfl⟩) hw (fun ce1 H1 locs h hw => ?_)
  obtain ⟨f_T, gfr_ce1⟩ := h
  try dsimp only at hw
  obtain ⟨z2, hz⟩ : ∃ z, H1.size = z := ⟨_, rfl⟩
  obtain ⟨H, eH⟩ : ∃ z, z = H1 := ⟨_, rfl⟩
  subst eH
  refine lv_aload_n hx hb d_Al_init_4 rfl (lv_at hl 0 rfl) ?_
  refine va_gets hx hb hT.1 hw.2.2.2.1 hown (hts _ (List.mem_cons_of_mem _ xw_41)) (fun _ h9 => h9) d_Al_init_5 ?_
  refine xa_put (D := D) (v := .ref t0) (ty := .array (.object "java/lang/Object")) (C := R_Al) (T := F_Al) (N := 3) hx hb hts (fun w h => List.mem_cons_of_mem _ (i_Al w h)) t_Al o_Al n_Al hown hw f_T rfl 0 (by decide) (hts _ (List.mem_cons_of_mem _ xw_43)) (fun _ h9 => h9) rfl (by decide +kernel) rfl rfl (Nat.le_of_ble_eq_true rfl) d_Al_init_8 (fun H locs hz1 hw => ?_)
  rw [hz] at hz1
  have hz : H.size = z2 := hz1
  obtain ⟨ce3, hce3⟩ : ∃ z, z = va_up ce1 iT (some (.inr (5, [.ref t0, .int 0, .int 0]))) := ⟨_, rfl⟩
  have hw := xm_W.cast hce3.symm hw
  have f_T : ce3 iT = some (.inr (5, [.ref t0, .int 0, .int 0])) := by rw [hce3]; exact va_up_self _ _ _
  subst hQQ
  exact xm_vret hx hb hr hlk hw ce3 rfl rfl ⟨f_T, (fun i i_T => by rw [hce3, va_up_ne _ _ i_T]; rw [gfr_ce1 _ i_T])⟩ d_Al_init_11
set_option maxHeartbeats 4000000 in
set_option maxRecDepth 100000 in
theorem c_Mt_init {l : Launch} {D : va_G} {ad : Nat → Nat} (ce : Nat → Option va_E) {b : Nat} {cI cZ cJ cO : ClassId} {iT : Nat} {iP : Nat} (hba : ∀ a, ad (b + a) = a) (f_T : ce iT = some (.inr (2, [.null, .null]))) : ∀ sz, Met l y_Mt_init (Cond.code y_Mt_init b_Mt_init 3 none :: xg) rm_Mt_init (xm_Pc D xcl (xT cI cZ cJ cO) ad ce sz [.ref (ad iT), .ref (ad iP)]) (va_Qv (fun u : Nat → Option va_E => u iT = some (.inr (2, [.ref (ad iP), .ref (ad (b + sz))])) ∧ u (b + sz) = some (.inl (cI, 20, .inl (vF vi0))) ∧ ∀ i, i ≠ iT → i ≠ b + sz → u i = ce i) (xm_B D xcl (xT cI cZ cJ cO) (xm_A ad ce sz) (fun _ => ad) (fun u => u)) (xm_A ad ce sz)) 1 20 (xm_A ad ce sz) := by
  refine xm_ofW (cc := b_Mt_init) (maxL := 3) (ret := none) (by decide) rfl (Nat.le_of_ble_eq_true rfl) ?_
  intro p e s m args below meth c ls QQ hQQ hx hb hml hr hown hlk hnm hts hl hw
  have hl : lv_has ls 3 [(0, .ref (ad iT)), (1, .ref (ad iP))] := hl
  refine lv_aload_n hx hb d_Mt_init_0 rfl (lv_at hl 0 rfl) ?_
  refine xa_oi hx hb hown (hts _ (List.mem_cons_of_mem _ xw_72)) (hts _ (List.mem_cons_of_mem _ xw_27)) (hts _ (List.mem_cons_of_mem _ xw_28)) (hl.1.trans hml.symm) d_Mt_init_1 (by decide) (Nat.le_of_ble_eq_true rfl) ?_
  refine lv_aload_n hx hb d_Mt_init_4 rfl (lv_at hl 0 rfl) ?_
  refine lv_bipush (v := 20) hx hb d_Mt_init_5 (by decide) ?_
  have fr_A : ce (b + s.heap.size) = none := xa_free hw hba (Nat.le_of_eq rfl)
  have ne_T_A : iT ≠ (b + s.heap.size) := xa_ne f_T fr_A
  have ne_A_T : (b + s.heap.size) ≠ iT := Ne.symm ne_T_A
  refine xa_newa (D := D) (b := b) (atype := .int) (N' := 20) (a0 := (20, .inl (fun _ => 0))) hx hb (hts _ (List.mem_cons_of_mem _ xw_55)) rfl hw hba 0 rfl (fun _ => rfl) (by decide) (by decide) (by decide) (by decide) (by decide) d_Mt_init_7 (fun H hz1 hw => ?_)
  have hz : H.size = s.heap.size + 1 := hz1
  obtain ⟨ce1, hce1⟩ : ∃ z, z = va_up ce (b + s.heap.size) (some (.inl (cI, 20, .inl (fun _ => 0)))) := ⟨_, rfl⟩
  have hw := xm_W.cast hce1.symm hw
  have f_T : ce1 iT = some (.inr (2, [.null, .null])) := by rw [hce1, va_up_ne _ _ ne_T_A]; exact f_T
  have f_A : ce1 (b + s.heap.size) = some (.inl (cI, 20, .inl (fun _ => 0))) := by rw [hce1]; exact va_up_self _ _ _
  refine xa_putF (D := D) (v := .ref (ad (b + s.heap.size))) (ty := .array .int) (C := R_Mt) (T := F_Mt) (N := 2) hx hb hts (fun w h => List.mem_cons_of_mem _ (i_Mt w h)) t_Mt o_Mt n_Mt hown hw f_T rfl 1 (by decide) (hts _ (List.mem_cons_of_mem _ xw_74)) (fun _ h9 => h9) rfl hnm rfl (by decide +kernel) rfl rfl (Nat.le_of_ble_eq_true rfl) d_Mt_init_9 (fun H locs hz1 hw => ?_)
  rw [hz] at hz1
  have hz : H.size = s.heap.size + 1 := hz1
  obtain ⟨ce2, hce2⟩ : ∃ z, z = va_up ce1 iT (some (.inr (2, [.null, .ref (ad (b + s.heap.size))]))) := ⟨_, rfl⟩
  have hw := xm_W.cast hce2.symm hw
  have f_T : ce2 iT = some (.inr (2, [.null, .ref (ad (b + s.heap.size))])) := by rw [hce2]; exact va_up_self _ _ _
  have f_A : ce2 (b + s.heap.size) = some (.inl (cI, 20, .inl (fun _ => 0))) := by rw [hce2, va_up_ne _ _ ne_A_T]; exact f_A
  refine lv_aload_n hx hb d_Mt_init_12 rfl (lv_at hl 0 rfl) ?_
  refine lv_aload_n hx hb d_Mt_init_13 rfl (lv_at hl 1 rfl) ?_
  refine xa_putF (D := D) (v := .ref (ad iP)) (ty := .object "QuestionDesk$Pairs") (C := R_Mt) (T := F_Mt) (N := 2) hx hb hts (fun w h => List.mem_cons_of_mem _ (i_Mt w h)) t_Mt o_Mt n_Mt hown hw f_T rfl 0 (by decide) (hts _ (List.mem_cons_of_mem _ xw_73)) (fun _ h9 => h9) rfl hnm rfl (by decide +kernel) rfl rfl (Nat.le_of_ble_eq_true rfl) d_Mt_init_14 (fun H locs hz1 hw => ?_)
  rw [hz] at hz1
  have hz : H.size = s.heap.size + 1 := hz1
  obtain ⟨ce3, hce3⟩ : ∃ z, z = va_up ce2 iT (some (.inr (2, [.ref (ad iP), .ref (ad (b + s.heap.size))]))) := ⟨_, rfl⟩
  have hw := xm_W.cast hce3.symm hw
  have f_T : ce3 iT = some (.inr (2, [.ref (ad iP), .ref (ad (b + s.heap.size))])) := by rw [hce3]; exact va_up_self _ _ _
  have f_A : ce3 (b + s.heap.size) = some (.inl (cI, 20, .inl (fun _ => 0))) := by rw [hce3, va_up_ne _ _ ne_A_T]; exact f_A
  refine s_Mt_initL (D := D) (ad := ad) (fun v => va_up ce3 (b + s.heap.size) (some (.inl (cI, 20, .inl v)))) (fun v => (va_up_ne _ _ ne_T_A).trans f_T) (fun v => va_up_self _ _ _) (fun v v' => xa_uu _ _ _ _) (E := fun v => v = vF vi0) (fun v hv H locs ls hw hl => ?_) pq_Mt_init hx hb hml hown hts (xm_W.cast (xm_up_id f_A).symm hw) hl
  subst hv
  obtain ⟨ce4, hce4⟩ : ∃ z, z = va_up ce3 (b + s.heap.size) (some (.inl (cI, 20, .inl (vF vi0)))) := ⟨_, rfl⟩
  have hw := xm_W.cast hce4.symm hw
  have f_T : ce4 iT = some (.inr (2, [.ref (ad iP), .ref (ad (b + s.heap.size))])) := by rw [hce4, va_up_ne _ _ ne_T_A]; exact f_T
  have f_A : ce4 (b + s.heap.size) = some (.inl (cI, 20, .inl (vF vi0))) := by rw [hce4]; exact va_up_self _ _ _
  subst hQQ
  exact xm_vret hx hb hr hlk hw ce4 rfl rfl ⟨f_T, f_A, (fun i i_T i_A => by rw [hce4, va_up_ne _ _ i_A]; rw [hce3, va_up_ne _ _ i_T]; rw [hce2, va_up_ne _ _ i_T]; rw [hce1, va_up_ne _ _ i_A])⟩ d_Mt_init_51
