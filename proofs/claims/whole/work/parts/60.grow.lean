abbrev b_As_copyOf_ObjectIClassObject : ByteArray := prog_22_method_120_code
def y_As_copyOf_ObjectIClassObject : MethodName := ⟨"java/util/Arrays", "copyOf", "([Ljava/lang/Object;ILjava/lang/Class;)[Ljava/lang/Object;"⟩
theorem d_As_copyOf_ObjectIClassObject_0 : decode b_As_copyOf_ObjectIClassObject 0 = .ok (.aload_n 2, 1) := by decide +kernel
theorem d_As_copyOf_ObjectIClassObject_1 : decode b_As_copyOf_ObjectIClassObject 1 = .ok (.ldc 110, 2) := by decide +kernel
theorem d_As_copyOf_ObjectIClassObject_3 : decode b_As_copyOf_ObjectIClassObject 3 = .ok (.if_acmp .ne 10, 3) := by decide +kernel
theorem d_As_copyOf_ObjectIClassObject_6 : decode b_As_copyOf_ObjectIClassObject 6 = .ok (.iload_n 1, 1) := by decide +kernel
theorem d_As_copyOf_ObjectIClassObject_7 : decode b_As_copyOf_ObjectIClassObject 7 = .ok (.anewarray 2, 3) := by decide +kernel
theorem d_As_copyOf_ObjectIClassObject_10 : decode b_As_copyOf_ObjectIClassObject 10 = .ok (.goto 14, 3) := by decide +kernel
theorem d_As_copyOf_ObjectIClassObject_13 : decode b_As_copyOf_ObjectIClassObject 13 = .ok (.aload_n 2, 1) := by decide +kernel
theorem d_As_copyOf_ObjectIClassObject_14 : decode b_As_copyOf_ObjectIClassObject 14 = .ok (.invokevirtual 90, 3) := by decide +kernel
theorem d_As_copyOf_ObjectIClassObject_17 : decode b_As_copyOf_ObjectIClassObject 17 = .ok (.iload_n 1, 1) := by decide +kernel
theorem d_As_copyOf_ObjectIClassObject_18 : decode b_As_copyOf_ObjectIClassObject 18 = .ok (.invokestatic 95, 3) := by decide +kernel
theorem d_As_copyOf_ObjectIClassObject_21 : decode b_As_copyOf_ObjectIClassObject 21 = .ok (.checkcast 110, 3) := by decide +kernel
theorem d_As_copyOf_ObjectIClassObject_24 : decode b_As_copyOf_ObjectIClassObject 24 = .ok (.astore_n 3, 1) := by decide +kernel
theorem d_As_copyOf_ObjectIClassObject_25 : decode b_As_copyOf_ObjectIClassObject 25 = .ok (.aload_n 0, 1) := by decide +kernel
theorem d_As_copyOf_ObjectIClassObject_26 : decode b_As_copyOf_ObjectIClassObject 26 = .ok (.iconst 0, 1) := by decide +kernel
theorem d_As_copyOf_ObjectIClassObject_27 : decode b_As_copyOf_ObjectIClassObject 27 = .ok (.aload_n 3, 1) := by decide +kernel
theorem d_As_copyOf_ObjectIClassObject_28 : decode b_As_copyOf_ObjectIClassObject 28 = .ok (.iconst 0, 1) := by decide +kernel
theorem d_As_copyOf_ObjectIClassObject_29 : decode b_As_copyOf_ObjectIClassObject 29 = .ok (.aload_n 0, 1) := by decide +kernel
theorem d_As_copyOf_ObjectIClassObject_30 : decode b_As_copyOf_ObjectIClassObject 30 = .ok (.arraylength, 1) := by decide +kernel
theorem d_As_copyOf_ObjectIClassObject_31 : decode b_As_copyOf_ObjectIClassObject 31 = .ok (.iload_n 1, 1) := by decide +kernel
theorem d_As_copyOf_ObjectIClassObject_32 : decode b_As_copyOf_ObjectIClassObject 32 = .ok (.invokestatic 304, 3) := by decide +kernel
theorem d_As_copyOf_ObjectIClassObject_35 : decode b_As_copyOf_ObjectIClassObject 35 = .ok (.invokestatic 150, 3) := by decide +kernel
theorem d_As_copyOf_ObjectIClassObject_38 : decode b_As_copyOf_ObjectIClassObject 38 = .ok (.aload_n 3, 1) := by decide +kernel
theorem d_As_copyOf_ObjectIClassObject_39 : decode b_As_copyOf_ObjectIClassObject 39 = .ok (.areturn, 1) := by decide +kernel
theorem xw_450 : (Jvm.Cond.classLink "java/util/Arrays" (110 : Nat) "[Ljava/lang/Object;") ∈ xg := xg_t (i := 450) (by decide +kernel) (by decide +kernel)
theorem xw_452 : (Jvm.Cond.classLink "java/util/Arrays" (2 : Nat) "java/lang/Object") ∈ xg := xg_t (i := 452) (by decide +kernel) (by decide +kernel)
theorem xw_453 : (Jvm.Cond.methodLink "java/util/Arrays" (304 : Nat) ({ cls := "java/lang/Math", name := "min", desc := "(II)I" } : Jvm.MethodName)) ∈ xg := xg_t (i := 453) (by decide +kernel) (by decide +kernel)
theorem xw_454 : (Jvm.Cond.static ({ cls := "java/lang/Math", name := "min", desc := "(II)I" } : Jvm.MethodName)) ∈ xg := xg_t (i := 454) (by decide +kernel) (by decide +kernel)
theorem xw_455 : (Jvm.Cond.code ({ cls := "java/lang/Math", name := "min", desc := "(II)I" } : Jvm.MethodName) prog_14_method_69_code (2 : Nat) (Option.some Jvm.ClassFile.FieldType.int)) ∈ xg := xg_t (i := 455) (by decide +kernel) (by decide +kernel)
theorem xw_456 : (Jvm.Cond.methodLink "java/util/Arrays" (150 : Nat) ({ cls := "java/lang/System", name := "arraycopy", desc := "(Ljava/lang/Object;ILjava/lang/Object;II)V" } : Jvm.MethodName)) ∈ xg := xg_t (i := 456) (by decide +kernel) (by decide +kernel)
abbrev rm_Ar_copyOf3 : Room := { frames := 1, cells := 1, slots := 100, locals := 40 }
set_option maxHeartbeats 4000000 in
set_option maxRecDepth 100000 in
theorem c_Ar_copyOf3 {l : Launch} {D : va_G} {ad : Nat → Nat} (ce : Nat → Option va_E) {b : Nat} {cI cZ cJ cO : ClassId} {t0 mi : Nat} {iE : Nat} (hba : ∀ a, ad (b + a) = a) {n n2 : Nat} (hn2 : n ≤ n2) (hm : n2 ≤ 100) {ec : Nat → Option Nat} (hel : ∀ i, i < n → ∀ y, ec i = some y → ∃ (j : Nat) (vs : List Value), y = ad j ∧ ce j = some (.inr (3, vs))) (f_E : ce iE = some (.inl (cO, n, .inr (.inr (.inr (.inr ec)))))) : ∀ sz, Met l y_As_copyOf_ObjectIClassObject (Cond.code y_As_copyOf_ObjectIClassObject b_As_copyOf_ObjectIClassObject 4 (some (.array (.object "java/lang/Object"))) :: xg) rm_Ar_copyOf3 (xq_Pc t0 mi D xcl (xT cI cZ cJ cO) ad ce sz [.ref (ad iE), .int (nI n2), .ref mi]) (va_Qr (fun j : Nat => b ≤ j ∧ ce j = none) (xm_Br D xcl (xT cI cZ cJ cO) (xm_A ad ce sz) (fun _ => ad) (fun j => va_up ce j (some (.inl (cO, n2, .inr (.inr (.inr (.inr (va_cpy ec (fun _ => none) 0 0 n)))))))) (fun j => j)) (xm_A ad ce sz)) 1 100 (xm_A ad ce sz) := by
  refine xq_ofW (cc := b_As_copyOf_ObjectIClassObject) (maxL := 4) (ret := (some (.array (.object "java/lang/Object")))) (by decide) rfl (Nat.le_of_ble_eq_true rfl) ?_
  intro p e s m args below meth c ls QQ hQQ hT hx hb hml hr hown hlk hnm hts hl hw
  have hl : lv_has ls 4 [(0, .ref (ad iE)), (1, .int (nI n2)), (2, .ref mi)] := hl
  refine lv_aload_n hx hb d_As_copyOf_ObjectIClassObject_0 rfl (lv_at hl 2 rfl) ?_
  refine va_ldcM hx hb hown (hts _ (List.mem_cons_of_mem _ xw_450)) hT.2.2.2.2.1 d_As_copyOf_ObjectIClassObject_1 ?_
  refine lv_acmp_ne (rx := some mi) (ry := some mi) (tgt := 13) hx hb d_As_copyOf_ObjectIClassObject_3 (by decide) (fun q => absurd rfl q) (fun _ => ?_)
  refine lv_iload_n hx hb d_As_copyOf_ObjectIClassObject_6 rfl (lv_at hl 1 rfl) ?_
  have fr_N : ce (b + s.heap.size) = none := xa_free hw hba (Nat.le_of_eq rfl)
  have ne_E_N : iE ≠ (b + s.heap.size) := xa_ne f_E fr_N
  have ne_N_E : (b + s.heap.size) ≠ iE := Ne.symm ne_E_N
  refine xa_anew (D := D) (b := b) (N' := n2) hx hb hown (hts _ (List.mem_cons_of_mem _ xw_452)) hT.2.2.1 hw hba 3 rfl (nI_pos (by omega)) (nI_clamp (by omega)) (by omega) (by decide) (show 0 + n2 ≤ 100 by omega) d_As_copyOf_ObjectIClassObject_7 (fun H hz1 hw => ?_)
  have hz : H.size = s.heap.size + 1 := hz1
  obtain ⟨ce1, hce1⟩ : ∃ z, z = va_up ce (b + s.heap.size) (some (.inl (cO, n2, .inr (.inr (.inr (.inr (fun _ => none))))))) := ⟨_, rfl⟩
  have hw := xm_W.cast hce1.symm hw
  have f_E : ce1 iE = some (.inl (cO, n, .inr (.inr (.inr (.inr ec))))) := by rw [hce1, va_up_ne _ _ ne_E_N]; exact f_E
  have f_N : ce1 (b + s.heap.size) = some (.inl (cO, n2, .inr (.inr (.inr (.inr (fun _ => none)))))) := by rw [hce1]; exact va_up_self _ _ _
  refine lv_goto (tgt := 24) hx hb d_As_copyOf_ObjectIClassObject_10 (by decide) ?_
  refine lv_astore_n (lv' := [(3, .ref (ad (b + s.heap.size))), (0, .ref (ad iE)), (1, .int (nI n2)), (2, .ref mi)]) hx hb d_As_copyOf_ObjectIClassObject_24 rfl hl (by decide) rfl (fun ls hl => ?_)
  refine lv_aload_n hx hb d_As_copyOf_ObjectIClassObject_25 rfl (lv_at hl 1 rfl) ?_
  refine lv_iconst (v := 0) hx hb d_As_copyOf_ObjectIClassObject_26 (by decide) ?_
  refine lv_aload_n hx hb d_As_copyOf_ObjectIClassObject_27 rfl (lv_at hl 0 rfl) ?_
  refine lv_iconst (v := 0) hx hb d_As_copyOf_ObjectIClassObject_28 (by decide) ?_
  refine lv_aload_n hx hb d_As_copyOf_ObjectIClassObject_29 rfl (lv_at hl 1 rfl) ?_
  refine xm_alen (v := nI n) hx hb hw 3 f_E rfl rfl d_As_copyOf_ObjectIClassObject_30 ?_
  refine lv_iload_n hx hb d_As_copyOf_ObjectIClassObject_31 rfl (lv_at hl 2 rfl) ?_
  refine va_mmin hx hb (hml.trans hl.1.symm) hown (hts _ (List.mem_cons_of_mem _ xw_453)) (hts _ (List.mem_cons_of_mem _ xw_454)) (hts _ (List.mem_cons_of_mem _ xw_15)) (hts _ (List.mem_cons_of_mem _ xw_455)) (by decide) (Nat.le_of_ble_eq_true rfl) (by decide) (show 0 + n2 ≤ 100 by omega) d_As_copyOf_ObjectIClassObject_32 ?_
  rw [if_neg (nI_nlt hn2 (by omega))]
  refine xa_copy (r := (R_Ru, F_Ru, 4)) hx hb (hml.trans hl.1.symm) hown (hts _ (List.mem_cons_of_mem _ xw_456)) (hts _ (List.mem_cons_of_mem _ xw_168)) (hts _ (List.mem_cons_of_mem _ xw_167)) (hts _ (List.mem_cons_of_mem _ xw_17)) hw 3 f_E f_N rfl (show xcl[3]? = _ from rfl) hT.2.2.2.1 (by decide) (by decide) (nI_pos (by omega)) (by rw [sb_cl0, nI_clamp (by omega)]; omega) (by rw [sb_cl0, nI_clamp (by omega)]; omega) (fun i9 g9 y9 z9 => by rw [nI_clamp (by omega)] at g9; rw [sb_cl0, Nat.zero_add] at z9; obtain ⟨j9, v9, a9, b9⟩ := hel i9 g9 y9 z9; exact ⟨j9, v9, a9, by rw [hce1, va_up_ne _ _ (xa_ne b9 fr_N)]; exact b9⟩) (by decide) (Nat.le_of_ble_eq_true rfl) d_As_copyOf_ObjectIClassObject_35 (fun H locs hw => ?_)
  rw [sb_cl0, nI_clamp (by omega)] at hw
  obtain ⟨ce2, hce2⟩ : ∃ z, z = va_up ce1 (b + s.heap.size) (some (.inl (cO, n2, .inr (.inr (.inr (.inr (va_cpy ec (fun _ => none) 0 0 n))))))) := ⟨_, rfl⟩
  have hw := xm_W.cast hce2.symm hw
  have f_E : ce2 iE = some (.inl (cO, n, .inr (.inr (.inr (.inr ec))))) := by rw [hce2, va_up_ne _ _ ne_E_N]; exact f_E
  have f_N : ce2 (b + s.heap.size) = some (.inl (cO, n2, .inr (.inr (.inr (.inr (va_cpy ec (fun _ => none) 0 0 n)))))) := by rw [hce2]; exact va_up_self _ _ _
  refine lv_aload_n hx hb d_As_copyOf_ObjectIClassObject_38 rfl (lv_at hl 0 rfl) ?_
  subst hQQ
  refine W.widen (k := 1) (n := 100) (by decide) (show 0 + n2 ≤ 100 by omega) ?_
  exact xa_aret hx hb hr hlk hw (b + s.heap.size) rfl (by rw [hce2, hce1, xa_uu]) rfl ⟨Nat.le_add_right _ _, fr_N⟩ d_As_copyOf_ObjectIClassObject_39
abbrev b_As_copyOf_ObjectIObject : ByteArray := prog_22_method_119_code
def y_As_copyOf_ObjectIObject : MethodName := ⟨"java/util/Arrays", "copyOf", "([Ljava/lang/Object;I)[Ljava/lang/Object;"⟩
theorem d_As_copyOf_ObjectIObject_0 : decode b_As_copyOf_ObjectIObject 0 = .ok (.aload_n 0, 1) := by decide +kernel
theorem d_As_copyOf_ObjectIObject_1 : decode b_As_copyOf_ObjectIObject 1 = .ok (.iload_n 1, 1) := by decide +kernel
theorem d_As_copyOf_ObjectIObject_2 : decode b_As_copyOf_ObjectIObject 2 = .ok (.aload_n 0, 1) := by decide +kernel
theorem d_As_copyOf_ObjectIObject_3 : decode b_As_copyOf_ObjectIObject 3 = .ok (.invokevirtual 86, 3) := by decide +kernel
theorem d_As_copyOf_ObjectIObject_6 : decode b_As_copyOf_ObjectIObject 6 = .ok (.invokestatic 300, 3) := by decide +kernel
theorem d_As_copyOf_ObjectIObject_9 : decode b_As_copyOf_ObjectIObject 9 = .ok (.areturn, 1) := by decide +kernel
theorem xw_802 : (Jvm.Cond.selects "[Ljava/lang/Object;" ({ cls := "java/lang/Object", name := "getClass", desc := "()Ljava/lang/Class;" } : Jvm.MethodName) ({ cls := "java/lang/Object", name := "getClass", desc := "()Ljava/lang/Class;" } : Jvm.MethodName)) ∈ xg := xg_t (i := 802) (by decide +kernel) (by decide +kernel)
theorem xw_435 : (Jvm.Cond.methodLink "java/util/Arrays" (86 : Nat) ({ cls := "java/lang/Object", name := "getClass", desc := "()Ljava/lang/Class;" } : Jvm.MethodName)) ∈ xg := xg_t (i := 435) (by decide +kernel) (by decide +kernel)
theorem xw_436 : (Jvm.Cond.instanceMethod ({ cls := "java/lang/Object", name := "getClass", desc := "()Ljava/lang/Class;" } : Jvm.MethodName)) ∈ xg := xg_t (i := 436) (by decide +kernel) (by decide +kernel)
theorem xw_446 : (Jvm.Cond.native ({ cls := "java/lang/Object", name := "getClass", desc := "()Ljava/lang/Class;" } : Jvm.MethodName)) ∈ xg := xg_t (i := 446) (by decide +kernel) (by decide +kernel)
theorem xw_449 : (Jvm.Cond.code ({ cls := "java/util/Arrays", name := "copyOf", desc := "([Ljava/lang/Object;ILjava/lang/Class;)[Ljava/lang/Object;" } : Jvm.MethodName) prog_22_method_120_code (4 : Nat) (Option.some (Jvm.ClassFile.FieldType.array (Jvm.ClassFile.FieldType.object "java/lang/Object")))) ∈ xg := xg_t (i := 449) (by decide +kernel) (by decide +kernel)
theorem xw_16 : (Jvm.Cond.initialized "java/util/Arrays") ∈ xg := xg_t (i := 16) (by decide +kernel) (by decide +kernel)
theorem xw_447 : (Jvm.Cond.methodLink "java/util/Arrays" (300 : Nat) ({ cls := "java/util/Arrays", name := "copyOf", desc := "([Ljava/lang/Object;ILjava/lang/Class;)[Ljava/lang/Object;" } : Jvm.MethodName)) ∈ xg := xg_t (i := 447) (by decide +kernel) (by decide +kernel)
theorem xw_448 : (Jvm.Cond.static ({ cls := "java/util/Arrays", name := "copyOf", desc := "([Ljava/lang/Object;ILjava/lang/Class;)[Ljava/lang/Object;" } : Jvm.MethodName)) ∈ xg := xg_t (i := 448) (by decide +kernel) (by decide +kernel)
abbrev rm_Ar_copyOf2 : Room := { frames := 2, cells := 1, slots := 100, locals := 63 }
set_option maxHeartbeats 4000000 in
set_option maxRecDepth 100000 in
theorem c_Ar_copyOf2 {l : Launch} {D : va_G} {ad : Nat → Nat} (ce : Nat → Option va_E) {b : Nat} {cI cZ cJ cO : ClassId} {t0 mi : Nat} {iE : Nat} (hba : ∀ a, ad (b + a) = a) {n n2 : Nat} (hn2 : n ≤ n2) (hm : n2 ≤ 100) {ec : Nat → Option Nat} (hel : ∀ i, i < n → ∀ y, ec i = some y → ∃ (j : Nat) (vs : List Value), y = ad j ∧ ce j = some (.inr (3, vs))) (f_E : ce iE = some (.inl (cO, n, .inr (.inr (.inr (.inr ec)))))) : ∀ sz, Met l y_As_copyOf_ObjectIObject (Cond.code y_As_copyOf_ObjectIObject b_As_copyOf_ObjectIObject 2 (some (.array (.object "java/lang/Object"))) :: xg) rm_Ar_copyOf2 (xq_Pc t0 mi D xcl (xT cI cZ cJ cO) ad ce sz [.ref (ad iE), .int (nI n2)]) (va_Qr (fun j : Nat => b ≤ j ∧ ce j = none) (xm_Br D xcl (xT cI cZ cJ cO) (xm_A ad ce sz) (fun _ => ad) (fun j => va_up ce j (some (.inl (cO, n2, .inr (.inr (.inr (.inr (va_cpy ec (fun _ => none) 0 0 n)))))))) (fun j => j)) (xm_A ad ce sz)) 1 100 (xm_A ad ce sz) := by
  refine xq_ofW (cc := b_As_copyOf_ObjectIObject) (maxL := 2) (ret := (some (.array (.object "java/lang/Object")))) (by decide) rfl (Nat.le_of_ble_eq_true rfl) ?_
  intro p e s m args below meth c ls QQ hQQ hT hx hb hml hr hown hlk hnm hts hl hw
  have hl : lv_has ls 2 [(0, .ref (ad iE)), (1, .int (nI n2))] := hl
  refine lv_aload_n hx hb d_As_copyOf_ObjectIObject_0 rfl (lv_at hl 0 rfl) ?_
  refine lv_iload_n hx hb d_As_copyOf_ObjectIObject_1 rfl (lv_at hl 1 rfl) ?_
  refine lv_aload_n hx hb d_As_copyOf_ObjectIObject_2 rfl (lv_at hl 0 rfl) ?_
  refine xa_getC hx hb (hml.trans hl.1.symm) hown (hts _ (List.mem_cons_of_mem _ xw_435)) hT.2.2.2.2.2 (hts _ (List.mem_cons_of_mem _ xw_802)) (hts _ (List.mem_cons_of_mem _ xw_436)) (hts _ (List.mem_cons_of_mem _ xw_446)) hT.2.2.2.2.1 hw 3 rfl f_E (by decide) (Nat.le_of_ble_eq_true rfl) d_As_copyOf_ObjectIObject_3 ?_
  refine xm_callr (ua := fun _ => ad) (va_runS (As := [.ref (ad iE), .int (nI n2), .ref mi]) (rest := []) ⟨hx, hb, hml, hown, hts⟩ (c_Ar_copyOf3 (D := D) (ad := ad) ce hba hn2 hm hel f_E _) (xg_cwS 3 hts xw_449 xw_447 xw_448 xw_16 rfl rfl (by decide +kernel) ⟨Nat.le_of_ble_eq_true rfl, Nat.le_of_ble_eq_true rfl⟩) (xq_pre hw hT _) rfl rfl hl.1 rfl (lv_room (Nat.le_of_ble_eq_true rfl)) d_As_copyOf_ObjectIObject_6 ⟨Nat.le_of_ble_eq_true rfl, Nat.le_of_ble_eq_true rfl⟩) hw (fun j1 H locs h hw => ?_)
  try dsimp only at h hw
  obtain ⟨z1, hz⟩ : ∃ z, H.size = z := ⟨_, rfl⟩
  subst hQQ
  exact xa_aret hx hb hr hlk hw j1 rfl rfl rfl h d_As_copyOf_ObjectIObject_9
abbrev b_Al_grow_IObject : ByteArray := prog_21_method_6_code
def y_Al_grow_IObject : MethodName := ⟨"java/util/ArrayList", "grow", "(I)[Ljava/lang/Object;"⟩
theorem d_Al_grow_IObject_0 : decode b_Al_grow_IObject 0 = .ok (.aload_n 0, 1) := by decide +kernel
theorem d_Al_grow_IObject_1 : decode b_Al_grow_IObject 1 = .ok (.getfield 9, 3) := by decide +kernel
theorem d_Al_grow_IObject_4 : decode b_Al_grow_IObject 4 = .ok (.arraylength, 1) := by decide +kernel
theorem d_Al_grow_IObject_5 : decode b_Al_grow_IObject 5 = .ok (.istore_n 2, 1) := by decide +kernel
theorem d_Al_grow_IObject_6 : decode b_Al_grow_IObject 6 = .ok (.iload_n 2, 1) := by decide +kernel
theorem d_Al_grow_IObject_7 : decode b_Al_grow_IObject 7 = .ok (.ifCond .gt 13, 3) := by decide +kernel
theorem d_Al_grow_IObject_10 : decode b_Al_grow_IObject 10 = .ok (.aload_n 0, 1) := by decide +kernel
theorem d_Al_grow_IObject_11 : decode b_Al_grow_IObject 11 = .ok (.getfield 9, 3) := by decide +kernel
theorem d_Al_grow_IObject_14 : decode b_Al_grow_IObject 14 = .ok (.getstatic 39, 3) := by decide +kernel
theorem d_Al_grow_IObject_17 : decode b_Al_grow_IObject 17 = .ok (.if_acmp .eq 28, 3) := by decide +kernel
theorem d_Al_grow_IObject_20 : decode b_Al_grow_IObject 20 = .ok (.iload_n 2, 1) := by decide +kernel
theorem d_Al_grow_IObject_21 : decode b_Al_grow_IObject 21 = .ok (.iload_n 1, 1) := by decide +kernel
theorem d_Al_grow_IObject_22 : decode b_Al_grow_IObject 22 = .ok (.iload_n 2, 1) := by decide +kernel
theorem d_Al_grow_IObject_23 : decode b_Al_grow_IObject 23 = .ok (.isub, 1) := by decide +kernel
theorem d_Al_grow_IObject_24 : decode b_Al_grow_IObject 24 = .ok (.iload_n 2, 1) := by decide +kernel
theorem d_Al_grow_IObject_25 : decode b_Al_grow_IObject 25 = .ok (.iconst 1, 1) := by decide +kernel
theorem d_Al_grow_IObject_26 : decode b_Al_grow_IObject 26 = .ok (.ishr, 1) := by decide +kernel
theorem d_Al_grow_IObject_27 : decode b_Al_grow_IObject 27 = .ok (.invokestatic 73, 3) := by decide +kernel
theorem d_Al_grow_IObject_30 : decode b_Al_grow_IObject 30 = .ok (.istore_n 3, 1) := by decide +kernel
theorem d_Al_grow_IObject_31 : decode b_Al_grow_IObject 31 = .ok (.aload_n 0, 1) := by decide +kernel
theorem d_Al_grow_IObject_32 : decode b_Al_grow_IObject 32 = .ok (.aload_n 0, 1) := by decide +kernel
theorem d_Al_grow_IObject_33 : decode b_Al_grow_IObject 33 = .ok (.getfield 9, 3) := by decide +kernel
theorem d_Al_grow_IObject_36 : decode b_Al_grow_IObject 36 = .ok (.iload_n 3, 1) := by decide +kernel
theorem d_Al_grow_IObject_37 : decode b_Al_grow_IObject 37 = .ok (.invokestatic 66, 3) := by decide +kernel
theorem d_Al_grow_IObject_40 : decode b_Al_grow_IObject 40 = .ok (.dup_x1, 1) := by decide +kernel
theorem d_Al_grow_IObject_41 : decode b_Al_grow_IObject 41 = .ok (.putfield 9, 3) := by decide +kernel
theorem d_Al_grow_IObject_44 : decode b_Al_grow_IObject 44 = .ok (.areturn, 1) := by decide +kernel
theorem d_Al_grow_IObject_45 : decode b_Al_grow_IObject 45 = .ok (.aload_n 0, 1) := by decide +kernel
theorem d_Al_grow_IObject_46 : decode b_Al_grow_IObject 46 = .ok (.bipush 10, 2) := by decide +kernel
theorem d_Al_grow_IObject_48 : decode b_Al_grow_IObject 48 = .ok (.iload_n 1, 1) := by decide +kernel
theorem d_Al_grow_IObject_49 : decode b_Al_grow_IObject 49 = .ok (.invokestatic 79, 3) := by decide +kernel
theorem d_Al_grow_IObject_52 : decode b_Al_grow_IObject 52 = .ok (.anewarray 7, 3) := by decide +kernel
theorem d_Al_grow_IObject_55 : decode b_Al_grow_IObject 55 = .ok (.dup_x1, 1) := by decide +kernel
theorem d_Al_grow_IObject_56 : decode b_Al_grow_IObject 56 = .ok (.putfield 9, 3) := by decide +kernel
theorem d_Al_grow_IObject_59 : decode b_Al_grow_IObject 59 = .ok (.areturn, 1) := by decide +kernel
theorem xw_424 : (Jvm.Cond.code ({ cls := "jdk/internal/util/ArraysSupport", name := "newLength", desc := "(III)I" } : Jvm.MethodName) prog_28_method_27_code (4 : Nat) (Option.some Jvm.ClassFile.FieldType.int)) ∈ xg := xg_t (i := 424) (by decide +kernel) (by decide +kernel)
theorem xw_14 : (Jvm.Cond.initialized "jdk/internal/util/ArraysSupport") ∈ xg := xg_t (i := 14) (by decide +kernel) (by decide +kernel)
theorem xw_422 : (Jvm.Cond.methodLink "java/util/ArrayList" (73 : Nat) ({ cls := "jdk/internal/util/ArraysSupport", name := "newLength", desc := "(III)I" } : Jvm.MethodName)) ∈ xg := xg_t (i := 422) (by decide +kernel) (by decide +kernel)
theorem xw_423 : (Jvm.Cond.static ({ cls := "jdk/internal/util/ArraysSupport", name := "newLength", desc := "(III)I" } : Jvm.MethodName)) ∈ xg := xg_t (i := 423) (by decide +kernel) (by decide +kernel)
theorem xw_434 : (Jvm.Cond.code ({ cls := "java/util/Arrays", name := "copyOf", desc := "([Ljava/lang/Object;I)[Ljava/lang/Object;" } : Jvm.MethodName) prog_22_method_119_code (2 : Nat) (Option.some (Jvm.ClassFile.FieldType.array (Jvm.ClassFile.FieldType.object "java/lang/Object")))) ∈ xg := xg_t (i := 434) (by decide +kernel) (by decide +kernel)
theorem xw_432 : (Jvm.Cond.methodLink "java/util/ArrayList" (66 : Nat) ({ cls := "java/util/Arrays", name := "copyOf", desc := "([Ljava/lang/Object;I)[Ljava/lang/Object;" } : Jvm.MethodName)) ∈ xg := xg_t (i := 432) (by decide +kernel) (by decide +kernel)
theorem xw_433 : (Jvm.Cond.static ({ cls := "java/util/Arrays", name := "copyOf", desc := "([Ljava/lang/Object;I)[Ljava/lang/Object;" } : Jvm.MethodName)) ∈ xg := xg_t (i := 433) (by decide +kernel) (by decide +kernel)
theorem q_newLen {n : Nat} (h2 : 2 ≤ n) (h40 : n ≤ 40) : wp_Su_newLength (fun r => r = nI (n + n / 2)) (nI n) (nI (n + 1) - nI n) (nI n >>> (1 &&& 31)) := by
  unfold wp_Su_newLength xj
  intro x1 e1
  rw [pk_sub (by omega), show n + 1 - n = 1 by omega, pk_shrN (by omega) (1 &&& 31) 1 (by decide), show n / 2 ^ 1 = n / 2 from rfl] at e1
  have e2 : (if nI 1 < nI (n / 2) then nI (n / 2) else nI 1) = nI (n / 2) := by
    by_cases q : n / 2 = 1
    · rw [q, if_neg (by decide)]
    · rw [if_pos (nI_lt (by omega) (by omega))]
  rw [e2, nI_add] at e1
  subst e1
  refine ⟨fun q => ?_, fun _ => ⟨fun q => ?_, fun _ => rfl⟩⟩
  · rw [show (0 : Int32) = nI 0 from rfl, nI_leI (by omega) (by omega)] at q
    omega
  · rw [show (2147483639 : Int32) = nI 2147483639 from rfl, nI_ltI (by omega) (by omega)] at q
    omega
abbrev rm_Al_growI : Room := { frames := 3, cells := 1, slots := 100, locals := 84 }
set_option maxHeartbeats 4000000 in
set_option maxRecDepth 100000 in
theorem c_Al_growI {l : Launch} {D : va_G} {ad : Nat → Nat} (ce : Nat → Option va_E) {b : Nat} {cI cZ cJ cO : ClassId} {t0 mi : Nat} {iL : Nat} {iE : Nat} (hba : ∀ a, ad (b + a) = a) {n : Nat} (h2 : 2 ≤ n) (h40 : n ≤ 40) {ec : Nat → Option Nat} {lz mo : Int32} (hel : ∀ i, i < n → ∀ y, ec i = some y → ∃ (j : Nat) (vs : List Value), y = ad j ∧ ce j = some (.inr (3, vs))) (f_L : ce iL = some (.inr (5, [.ref (ad iE), .int lz, .int mo]))) (f_E : ce iE = some (.inl (cO, n, .inr (.inr (.inr (.inr ec)))))) : ∀ sz, Met l y_Al_grow_IObject (Cond.code y_Al_grow_IObject b_Al_grow_IObject 4 (some (.array (.object "java/lang/Object"))) :: xg) rm_Al_growI (xq_Pc t0 mi D xcl (xT cI cZ cJ cO) ad ce sz [.ref (ad iL), .int (nI (n + 1))]) (va_Qr (fun j : Nat => b ≤ j ∧ ce j = none) (xm_Br D xcl (xT cI cZ cJ cO) (xm_A ad ce sz) (fun _ => ad) (fun j => va_up (va_up ce j (some (.inl (cO, (n + n / 2), .inr (.inr (.inr (.inr (va_cpy ec (fun _ => none) 0 0 n)))))))) iL (some (.inr (5, [.ref (ad j), .int lz, .int mo])))) (fun j => j)) (xm_A ad ce sz)) 1 100 (xm_A ad ce sz) := by
  refine xq_ofW (cc := b_Al_grow_IObject) (maxL := 4) (ret := (some (.array (.object "java/lang/Object")))) (by decide) rfl (Nat.le_of_ble_eq_true rfl) ?_
  intro p e s m args below meth c ls QQ hQQ hT hx hb hml hr hown hlk hnm hts hl hw
  have hl : lv_has ls 4 [(0, .ref (ad iL)), (1, .int (nI (n + 1)))] := hl
  refine lv_aload_n hx hb d_Al_grow_IObject_0 rfl (lv_at hl 0 rfl) ?_
  refine xm_get (D := D) (v := .ref (ad iE)) (C := R_Al) (T := F_Al) (N := 3) hx hb hts (fun w h => List.mem_cons_of_mem _ (i_Al w h)) hown hw f_L rfl 0 (by decide) (hts _ (List.mem_cons_of_mem _ xw_43)) (fun _ h9 => h9) rfl d_Al_grow_IObject_1 ?_
  refine xm_alen (v := nI n) hx hb hw 3 f_E rfl rfl d_Al_grow_IObject_4 ?_
  refine lv_istore_n (lv' := [(2, .int (nI n)), (0, .ref (ad iL)), (1, .int (nI (n + 1)))]) hx hb d_Al_grow_IObject_5 rfl hl (by decide) rfl (fun ls hl => ?_)
  refine lv_iload_n hx hb d_Al_grow_IObject_6 rfl (lv_at hl 0 rfl) ?_
  refine lv_if_gt (tgt := 20) hx hb d_Al_grow_IObject_7 (by decide) (fun _ => ?_) (fun q => absurd (nI_lt (a := 0) (by omega) (by omega)) q)
  refine lv_iload_n hx hb d_Al_grow_IObject_20 rfl (lv_at hl 0 rfl) ?_
  refine lv_iload_n hx hb d_Al_grow_IObject_21 rfl (lv_at hl 2 rfl) ?_
  refine lv_iload_n hx hb d_Al_grow_IObject_22 rfl (lv_at hl 0 rfl) ?_
  refine lv_isub hx hb d_Al_grow_IObject_23 ?_
  refine lv_iload_n hx hb d_Al_grow_IObject_24 rfl (lv_at hl 0 rfl) ?_
  refine lv_iconst (v := 1) hx hb d_Al_grow_IObject_25 (by decide) ?_
  refine lv_ishr hx hb d_Al_grow_IObject_26 ?_
  refine xm_calli (ua := fun _ => ad) (va_runS (As := [.int (nI n), .int (nI (n + 1) - nI n), .int (nI n >>> (1 &&& 31))]) (rest := []) ⟨hx, hb, hml, hown, hts⟩ (c_Su_newLength (D := D) (ad := ad) ce (post := fun r => r = nI (n + n / 2)) (q_newLen h2 h40) _) (xg_cwS 3 hts xw_424 xw_422 xw_423 xw_14 rfl rfl (by decide +kernel) ⟨Nat.le_of_ble_eq_true rfl, Nat.le_of_ble_eq_true rfl⟩) (xm_pre hw _) rfl rfl hl.1 rfl (lv_room (Nat.le_of_ble_eq_true rfl)) d_Al_grow_IObject_27 ⟨Nat.le_of_ble_eq_true rfl, Nat.le_of_ble_eq_true rfl⟩) hw (fun r _ H locs h hw => ?_)
  try dsimp only at h hw
  subst h
  refine lv_istore_n (lv' := [(3, .int (nI (n + n / 2))), (2, .int (nI n)), (0, .ref (ad iL)), (1, .int (nI (n + 1)))]) hx hb d_Al_grow_IObject_30 rfl hl (by decide) rfl (fun ls hl => ?_)
  refine lv_aload_n hx hb d_Al_grow_IObject_31 rfl (lv_at hl 2 rfl) ?_
  refine lv_aload_n hx hb d_Al_grow_IObject_32 rfl (lv_at hl 2 rfl) ?_
  refine xm_get (D := D) (v := .ref (ad iE)) (C := R_Al) (T := F_Al) (N := 3) hx hb hts (fun w h => List.mem_cons_of_mem _ (i_Al w h)) hown hw f_L rfl 0 (by decide) (hts _ (List.mem_cons_of_mem _ xw_43)) (fun _ h9 => h9) rfl d_Al_grow_IObject_33 ?_
  refine lv_iload_n hx hb d_Al_grow_IObject_36 rfl (lv_at hl 0 rfl) ?_
  refine xm_callr (ua := fun _ => ad) (va_runS (As := [.ref (ad iE), .int (nI (n + n / 2))]) (rest := [.ref (ad iL)]) ⟨hx, hb, hml, hown, hts⟩ (c_Ar_copyOf2 (D := D) (ad := ad) ce (n2 := n + n / 2) hba (by omega) (by omega) hel f_E _) (xg_cwS 2 hts xw_434 xw_432 xw_433 xw_16 rfl rfl (by decide +kernel) ⟨Nat.le_of_ble_eq_true rfl, Nat.le_of_ble_eq_true rfl⟩) (xq_pre hw hT _) rfl rfl hl.1 rfl (lv_room (Nat.le_of_ble_eq_true rfl)) d_Al_grow_IObject_37 ⟨Nat.le_of_ble_eq_true rfl, Nat.le_of_ble_eq_true rfl⟩) hw (fun j1 H locs h hw => ?_)
  try dsimp only at h hw
  obtain ⟨z1, hz⟩ : ∃ z, H.size = z := ⟨_, rfl⟩
  have ne_L : iL ≠ j1 := xa_ne f_L h.2
  have ne_E : iE ≠ j1 := xa_ne f_E h.2
  obtain ⟨ce2, hce2⟩ : ∃ z, z = va_up ce j1 (some (.inl (cO, (n + n / 2), .inr (.inr (.inr (.inr (va_cpy ec (fun _ => none) 0 0 n))))))) := ⟨_, rfl⟩
  have hw := xm_W.cast hce2.symm hw
  have f_L : ce2 iL = some (.inr (5, [.ref (ad iE), .int lz, .int mo])) := by rw [hce2]; exact (va_up_ne _ _ ne_L).trans f_L
  have f_N : ce2 j1 = some (.inl (cO, (n + n / 2), .inr (.inr (.inr (.inr (va_cpy ec (fun _ => none) 0 0 n)))))) := by rw [hce2]; exact va_up_self _ _ _
  have ne_N_L : j1 ≠ iL := Ne.symm ne_L
  refine lv_dup_x1 hx hb d_Al_grow_IObject_40 rfl rfl ?_
  refine xa_put (D := D) (v := .ref (ad j1)) (ty := .array (.object "java/lang/Object")) (C := R_Al) (T := F_Al) (N := 3) hx hb hts (fun w h => List.mem_cons_of_mem _ (i_Al w h)) t_Al o_Al n_Al hown hw f_L rfl 0 (by decide) (hts _ (List.mem_cons_of_mem _ xw_43)) (fun _ h9 => h9) rfl (by decide +kernel) rfl rfl (Nat.le_of_ble_eq_true rfl) d_Al_grow_IObject_41 (fun H locs hz1 hw => ?_)
  rw [hz] at hz1
  have hz : H.size = z1 := hz1
  obtain ⟨ce3, hce3⟩ : ∃ z, z = va_up ce2 iL (some (.inr (5, [.ref (ad j1), .int lz, .int mo]))) := ⟨_, rfl⟩
  have hw := xm_W.cast hce3.symm hw
  have f_L : ce3 iL = some (.inr (5, [.ref (ad j1), .int lz, .int mo])) := by rw [hce3]; exact va_up_self _ _ _
  have f_N : ce3 j1 = some (.inl (cO, (n + n / 2), .inr (.inr (.inr (.inr (va_cpy ec (fun _ => none) 0 0 n)))))) := by rw [hce3, va_up_ne _ _ ne_N_L]; exact f_N
  subst hQQ
  exact xa_aret hx hb hr hlk hw j1 rfl (by rw [hce3, hce2]) rfl h d_Al_grow_IObject_44
abbrev b_Al_grow_Object : ByteArray := prog_21_method_7_code
def y_Al_grow_Object : MethodName := ⟨"java/util/ArrayList", "grow", "()[Ljava/lang/Object;"⟩
theorem d_Al_grow_Object_0 : decode b_Al_grow_Object 0 = .ok (.aload_n 0, 1) := by decide +kernel
theorem d_Al_grow_Object_1 : decode b_Al_grow_Object 1 = .ok (.aload_n 0, 1) := by decide +kernel
theorem d_Al_grow_Object_2 : decode b_Al_grow_Object 2 = .ok (.getfield 48, 3) := by decide +kernel
theorem d_Al_grow_Object_5 : decode b_Al_grow_Object 5 = .ok (.iconst 1, 1) := by decide +kernel
theorem d_Al_grow_Object_6 : decode b_Al_grow_Object 6 = .ok (.iadd, 1) := by decide +kernel
theorem d_Al_grow_Object_7 : decode b_Al_grow_Object 7 = .ok (.invokevirtual 69, 3) := by decide +kernel
theorem d_Al_grow_Object_10 : decode b_Al_grow_Object 10 = .ok (.areturn, 1) := by decide +kernel
theorem xw_421 : (Jvm.Cond.code ({ cls := "java/util/ArrayList", name := "grow", desc := "(I)[Ljava/lang/Object;" } : Jvm.MethodName) prog_21_method_6_code (4 : Nat) (Option.some (Jvm.ClassFile.FieldType.array (Jvm.ClassFile.FieldType.object "java/lang/Object")))) ∈ xg := xg_t (i := 421) (by decide +kernel) (by decide +kernel)
theorem xw_418 : (Jvm.Cond.methodLink "java/util/ArrayList" (69 : Nat) ({ cls := "java/util/ArrayList", name := "grow", desc := "(I)[Ljava/lang/Object;" } : Jvm.MethodName)) ∈ xg := xg_t (i := 418) (by decide +kernel) (by decide +kernel)
theorem xw_420 : (Jvm.Cond.instanceMethod ({ cls := "java/util/ArrayList", name := "grow", desc := "(I)[Ljava/lang/Object;" } : Jvm.MethodName)) ∈ xg := xg_t (i := 420) (by decide +kernel) (by decide +kernel)
theorem xw_p13 : Cond.selects "java/util/ArrayList" ⟨"java/util/ArrayList", "grow", "(I)[Ljava/lang/Object;"⟩ ⟨"java/util/ArrayList", "grow", "(I)[Ljava/lang/Object;"⟩ ∈ xg := xg_p (q := (⟨"java/util/ArrayList", "grow", "(I)[Ljava/lang/Object;"⟩, 3)) (i := 13) (by decide +kernel) (by decide +kernel)
abbrev rm_Al_grow0 : Room := { frames := 4, cells := 1, slots := 100, locals := 107 }
set_option maxHeartbeats 4000000 in
set_option maxRecDepth 100000 in
theorem c_Al_grow0 {l : Launch} {D : va_G} {ad : Nat → Nat} (ce : Nat → Option va_E) {b : Nat} {cI cZ cJ cO : ClassId} {t0 mi : Nat} {iL : Nat} {iE : Nat} (hba : ∀ a, ad (b + a) = a) {n : Nat} (h2 : 2 ≤ n) (h40 : n ≤ 40) {ec : Nat → Option Nat} {mo : Int32} (hel : ∀ i, i < n → ∀ y, ec i = some y → ∃ (j : Nat) (vs : List Value), y = ad j ∧ ce j = some (.inr (3, vs))) (f_L : ce iL = some (.inr (5, [.ref (ad iE), .int (nI n), .int mo]))) (f_E : ce iE = some (.inl (cO, n, .inr (.inr (.inr (.inr ec)))))) : ∀ sz, Met l y_Al_grow_Object (Cond.code y_Al_grow_Object b_Al_grow_Object 1 (some (.array (.object "java/lang/Object"))) :: xg) rm_Al_grow0 (xq_Pc t0 mi D xcl (xT cI cZ cJ cO) ad ce sz [.ref (ad iL)]) (va_Qr (fun j : Nat => b ≤ j ∧ ce j = none) (xm_Br D xcl (xT cI cZ cJ cO) (xm_A ad ce sz) (fun _ => ad) (fun j => va_up (va_up ce j (some (.inl (cO, (n + n / 2), .inr (.inr (.inr (.inr (va_cpy ec (fun _ => none) 0 0 n)))))))) iL (some (.inr (5, [.ref (ad j), .int (nI n), .int mo])))) (fun j => j)) (xm_A ad ce sz)) 1 100 (xm_A ad ce sz) := by
  refine xq_ofW (cc := b_Al_grow_Object) (maxL := 1) (ret := (some (.array (.object "java/lang/Object")))) (by decide) rfl (Nat.le_of_ble_eq_true rfl) ?_
  intro p e s m args below meth c ls QQ hQQ hT hx hb hml hr hown hlk hnm hts hl hw
  have hl : lv_has ls 1 [(0, .ref (ad iL))] := hl
  refine lv_aload_n hx hb d_Al_grow_Object_0 rfl (lv_at hl 0 rfl) ?_
  refine lv_aload_n hx hb d_Al_grow_Object_1 rfl (lv_at hl 0 rfl) ?_
  refine xm_get (D := D) (v := .int (nI n)) (C := R_Al) (T := F_Al) (N := 3) hx hb hts (fun w h => List.mem_cons_of_mem _ (i_Al w h)) hown hw f_L rfl 1 (by decide) (hts _ (List.mem_cons_of_mem _ xw_44)) (fun _ h9 => h9) rfl d_Al_grow_Object_2 ?_
  refine lv_iconst (v := 1) hx hb d_Al_grow_Object_5 (by decide) ?_
  refine lv_iadd hx hb d_Al_grow_Object_6 ?_
  rw [nI_1]
  refine xm_callr (ua := fun _ => ad) (va_runV (As := [.int (nI (n + 1))]) (rest := []) ⟨hx, hb, hml, hown, hts⟩ (c_Al_growI (D := D) (ad := ad) ce hba h2 h40 hel f_L f_E _) (xg_cwV 1 hts xw_421 xw_418 xw_420 xw_p13 xw_4 rfl rfl (by decide +kernel) ⟨Nat.le_of_ble_eq_true rfl, Nat.le_of_ble_eq_true rfl⟩) (xq_preV hw hT f_L rfl _) rfl rfl hl.1 rfl (lv_room (Nat.le_of_ble_eq_true rfl)) d_Al_grow_Object_7 ⟨Nat.le_of_ble_eq_true rfl, Nat.le_of_ble_eq_true rfl⟩) hw (fun j1 H locs h hw => ?_)
  try dsimp only at h hw
  obtain ⟨z1, hz⟩ : ∃ z, H.size = z := ⟨_, rfl⟩
  subst hQQ
  exact xa_aret hx hb hr hlk hw j1 rfl rfl rfl h d_Al_grow_Object_10
theorem xw_417 : (Jvm.Cond.code ({ cls := "java/util/ArrayList", name := "grow", desc := "()[Ljava/lang/Object;" } : Jvm.MethodName) prog_21_method_7_code (1 : Nat) (Option.some (Jvm.ClassFile.FieldType.array (Jvm.ClassFile.FieldType.object "java/lang/Object")))) ∈ xg := xg_t (i := 417) (by decide +kernel) (by decide +kernel)
theorem xw_414 : (Jvm.Cond.methodLink "java/util/ArrayList" (129 : Nat) ({ cls := "java/util/ArrayList", name := "grow", desc := "()[Ljava/lang/Object;" } : Jvm.MethodName)) ∈ xg := xg_t (i := 414) (by decide +kernel) (by decide +kernel)
theorem xw_416 : (Jvm.Cond.instanceMethod ({ cls := "java/util/ArrayList", name := "grow", desc := "()[Ljava/lang/Object;" } : Jvm.MethodName)) ∈ xg := xg_t (i := 416) (by decide +kernel) (by decide +kernel)
theorem xw_p12 : Cond.selects "java/util/ArrayList" ⟨"java/util/ArrayList", "grow", "()[Ljava/lang/Object;"⟩ ⟨"java/util/ArrayList", "grow", "()[Ljava/lang/Object;"⟩ ∈ xg := xg_p (q := (⟨"java/util/ArrayList", "grow", "()[Ljava/lang/Object;"⟩, 3)) (i := 12) (by decide +kernel) (by decide +kernel)
abbrev rm_Al_add3F : Room := { frames := 5, cells := 1, slots := 100, locals := 127 }
set_option maxHeartbeats 4000000 in
set_option maxRecDepth 100000 in
theorem c_Al_add3F {l : Launch} {D : va_G} {ad : Nat → Nat} (ce : Nat → Option va_E) {b : Nat} {cI cZ cJ cO : ClassId} {t0 mi : Nat} {iL : Nat} {iE : Nat} {iwU : Nat} (hba : ∀ a, ad (b + a) = a) {n : Nat} (h2 : 2 ≤ n) (h40 : n ≤ 40) {ec : Nat → Option Nat} {mo : Int32} (hel : ∀ i, i < n → ∀ y, ec i = some y → ∃ (j : Nat) (vs : List Value), y = ad j ∧ ce j = some (.inr (3, vs))) {wf : List Value} (f_L : ce iL = some (.inr (5, [.ref (ad iE), .int (nI n), .int mo]))) (f_E : ce iE = some (.inl (cO, n, .inr (.inr (.inr (.inr ec)))))) (f_wU : ce iwU = some (.inr (3, wf))) : ∀ sz, Met l y_Al_add_ObjectObjectIV (Cond.code y_Al_add_ObjectObjectIV b_Al_add_ObjectObjectIV 4 none :: xg) rm_Al_add3F (xq_Pc t0 mi D xcl (xT cI cZ cJ cO) ad ce sz [.ref (ad iL), .ref (ad iwU), .ref (ad iE), .int (nI n)]) (va_Qv (fun j : Nat => b ≤ j ∧ ce j = none) (xm_B D xcl (xT cI cZ cJ cO) (xm_A ad ce sz) (fun _ => ad) (fun j => va_up (va_up ce j (some (.inl (cO, (n + n / 2), .inr (.inr (.inr (.inr (va_up (va_cpy ec (fun _ => none) 0 0 n) n (some (ad iwU)))))))))) iL (some (.inr (5, [.ref (ad j), .int (nI (n + 1)), .int mo]))))) (xm_A ad ce sz)) 1 100 (xm_A ad ce sz) := by
  refine xq_ofW (cc := b_Al_add_ObjectObjectIV) (maxL := 4) (ret := none) (by decide) rfl (Nat.le_of_ble_eq_true rfl) ?_
  intro p e s m args below meth c ls QQ hQQ hT hx hb hml hr hown hlk hnm hts hl hw
  have hl : lv_has ls 4 [(0, .ref (ad iL)), (1, .ref (ad iwU)), (2, .ref (ad iE)), (3, .int (nI n))] := hl
  refine lv_iload_n hx hb d_Al_add_ObjectObjectIV_0 rfl (lv_at hl 3 rfl) ?_
  refine lv_aload_n hx hb d_Al_add_ObjectObjectIV_1 rfl (lv_at hl 2 rfl) ?_
  refine xm_alen (v := nI n) hx hb hw 3 f_E rfl rfl d_Al_add_ObjectObjectIV_2 ?_
  refine lv_icmp_ne (tgt := 11) hx hb d_Al_add_ObjectObjectIV_3 (by decide) (fun q => absurd rfl q) (fun _ => ?_)
  refine lv_aload_n hx hb d_Al_add_ObjectObjectIV_6 rfl (lv_at hl 0 rfl) ?_
  refine xm_callr (ua := fun _ => ad) (va_runV (As := []) (rest := []) ⟨hx, hb, hml, hown, hts⟩ (c_Al_grow0 (D := D) (ad := ad) ce hba h2 h40 hel f_L f_E _) (xg_cwV 0 hts xw_417 xw_414 xw_416 xw_p12 xw_4 rfl rfl (by decide +kernel) ⟨Nat.le_of_ble_eq_true rfl, Nat.le_of_ble_eq_true rfl⟩) (xq_preV hw hT f_L rfl _) rfl rfl hl.1 rfl (lv_room (Nat.le_of_ble_eq_true rfl)) d_Al_add_ObjectObjectIV_7 ⟨Nat.le_of_ble_eq_true rfl, Nat.le_of_ble_eq_true rfl⟩) hw (fun j1 H locs h hw => ?_)
  try dsimp only at h hw
  obtain ⟨z1, hz⟩ : ∃ z, H.size = z := ⟨_, rfl⟩
  have ne_L : iL ≠ j1 := xa_ne f_L h.2
  have ne_wU : iwU ≠ j1 := xa_ne f_wU h.2
  have ne_wU_L : iwU ≠ iL := fun e => by rw [e, f_L] at f_wU; simp at f_wU
  have ne_N_L : j1 ≠ iL := Ne.symm ne_L
  have ne_L_N : iL ≠ j1 := ne_L
  have ne_wU_N : iwU ≠ j1 := ne_wU
  obtain ⟨ce2, hce2⟩ : ∃ z, z = va_up (va_up ce j1 (some (.inl (cO, (n + n / 2), .inr (.inr (.inr (.inr (va_cpy ec (fun _ => none) 0 0 n)))))))) iL (some (.inr (5, [.ref (ad j1), .int (nI n), .int mo]))) := ⟨_, rfl⟩
  have hw := xm_W.cast hce2.symm hw
  have f_L : ce2 iL = some (.inr (5, [.ref (ad j1), .int (nI n), .int mo])) := by rw [hce2]; exact va_up_self _ _ _
  have f_N : ce2 j1 = some (.inl (cO, (n + n / 2), .inr (.inr (.inr (.inr (va_cpy ec (fun _ => none) 0 0 n)))))) := by rw [hce2]; exact (va_up_ne _ _ ne_N_L).trans (va_up_self _ _ _)
  have f_wU : ce2 iwU = some (.inr (3, wf)) := by rw [hce2]; exact (va_up_ne _ _ ne_wU_L).trans ((va_up_ne _ _ ne_wU).trans f_wU)
  refine lv_astore_n (lv' := [(2, .ref (ad j1)), (0, .ref (ad iL)), (1, .ref (ad iwU)), (3, .int (nI n))]) hx hb d_Al_add_ObjectObjectIV_10 rfl hl (by decide) rfl (fun ls hl => ?_)
  refine lv_aload_n hx hb d_Al_add_ObjectObjectIV_11 rfl (lv_at hl 0 rfl) ?_
  refine lv_iload_n hx hb d_Al_add_ObjectObjectIV_12 rfl (lv_at hl 3 rfl) ?_
  refine lv_aload_n hx hb d_Al_add_ObjectObjectIV_13 rfl (lv_at hl 2 rfl) ?_
  refine xa_aast (r := (R_Ru, F_Ru, 4)) hx hb hw 3 f_N rfl hT.2.2.2.1 f_wU rfl (vp_in_nI (by omega) (by omega)) d_Al_add_ObjectObjectIV_14 (fun H locs hw => ?_)
  rw [nI_clamp (by omega)] at hw
  obtain ⟨ce3, hce3⟩ : ∃ z, z = va_up ce2 j1 (some (.inl (cO, (n + n / 2), .inr (.inr (.inr (.inr (va_up (va_cpy ec (fun _ => none) 0 0 n) n (some (ad iwU))))))))) := ⟨_, rfl⟩
  have hw := xm_W.cast hce3.symm hw
  have f_L : ce3 iL = some (.inr (5, [.ref (ad j1), .int (nI n), .int mo])) := by rw [hce3, va_up_ne _ _ ne_L_N]; exact f_L
  have f_wU : ce3 iwU = some (.inr (3, wf)) := by rw [hce3, va_up_ne _ _ ne_wU_N]; exact f_wU
  have f_N : ce3 j1 = some (.inl (cO, (n + n / 2), .inr (.inr (.inr (.inr (va_up (va_cpy ec (fun _ => none) 0 0 n) n (some (ad iwU)))))))) := by rw [hce3]; exact va_up_self _ _ _
  obtain ⟨z4, hz⟩ : ∃ z, H.size = z := ⟨_, rfl⟩
  refine lv_aload_n hx hb d_Al_add_ObjectObjectIV_15 rfl (lv_at hl 1 rfl) ?_
  refine lv_iload_n hx hb d_Al_add_ObjectObjectIV_16 rfl (lv_at hl 3 rfl) ?_
  refine lv_iconst (v := 1) hx hb d_Al_add_ObjectObjectIV_17 (by decide) ?_
  refine lv_iadd hx hb d_Al_add_ObjectObjectIV_18 ?_
  rw [nI_1]
  have ne_wU_N2 := ne_wU_N
  refine xa_put (D := D) (v := .int (nI (n + 1))) (ty := .int) (C := R_Al) (T := F_Al) (N := 3) hx hb hts (fun w h => List.mem_cons_of_mem _ (i_Al w h)) t_Al o_Al n_Al hown hw f_L rfl 1 (by decide) (hts _ (List.mem_cons_of_mem _ xw_44)) (fun _ h9 => h9) rfl (by decide +kernel) rfl rfl (Nat.le_of_ble_eq_true rfl) d_Al_add_ObjectObjectIV_19 (fun H locs hz1 hw => ?_)
  rw [hz] at hz1
  have hz : H.size = z4 := hz1
  obtain ⟨ce5, hce5⟩ : ∃ z, z = va_up ce3 iL (some (.inr (5, [.ref (ad j1), .int (nI (n + 1)), .int mo]))) := ⟨_, rfl⟩
  have hw := xm_W.cast hce5.symm hw
  have f_L : ce5 iL = some (.inr (5, [.ref (ad j1), .int (nI (n + 1)), .int mo])) := by rw [hce5]; exact va_up_self _ _ _
  have f_wU : ce5 iwU = some (.inr (3, wf)) := by rw [hce5, va_up_ne _ _ ne_wU_L]; exact f_wU
  have f_N : ce5 j1 = some (.inl (cO, (n + n / 2), .inr (.inr (.inr (.inr (va_up (va_cpy ec (fun _ => none) 0 0 n) n (some (ad iwU)))))))) := by rw [hce5, va_up_ne _ _ ne_N_L]; exact f_N
  subst hQQ
  exact xm_vret hx hb hr hlk hw j1 rfl (by rw [hce5, hce3, hce2, xa_uc _ ne_L_N, xa_uu, xa_uu]) h d_Al_add_ObjectObjectIV_22
abbrev rm_Al_addF : Room := { frames := 6, cells := 1, slots := 100, locals := 150 }
set_option maxHeartbeats 4000000 in
set_option maxRecDepth 100000 in
theorem c_Al_addF {l : Launch} {D : va_G} {ad : Nat → Nat} (ce : Nat → Option va_E) {b : Nat} {cI cZ cJ cO : ClassId} {t0 mi : Nat} {iL : Nat} {iE : Nat} {iwU : Nat} (hba : ∀ a, ad (b + a) = a) {n : Nat} (h2 : 2 ≤ n) (h40 : n ≤ 40) {ec : Nat → Option Nat} {mo : Int32} (hel : ∀ i, i < n → ∀ y, ec i = some y → ∃ (j : Nat) (vs : List Value), y = ad j ∧ ce j = some (.inr (3, vs))) {wf : List Value} (f_L : ce iL = some (.inr (5, [.ref (ad iE), .int (nI n), .int mo]))) (f_E : ce iE = some (.inl (cO, n, .inr (.inr (.inr (.inr ec)))))) (f_wU : ce iwU = some (.inr (3, wf))) : ∀ sz, Met l y_Al_add_ObjectZ (Cond.code y_Al_add_ObjectZ b_Al_add_ObjectZ 2 (some .boolean) :: xg) rm_Al_addF (xq_Pc t0 mi D xcl (xT cI cZ cJ cO) ad ce sz [.ref (ad iL), .ref (ad iwU)]) (va_Qi (fun (r : Int32) (j : Nat) => r = 1 ∧ b ≤ j ∧ ce j = none) (xm_B D xcl (xT cI cZ cJ cO) (xm_A ad ce sz) (fun _ => ad) (fun j => va_up (va_up ce j (some (.inl (cO, (n + n / 2), .inr (.inr (.inr (.inr (va_up (va_cpy ec (fun _ => none) 0 0 n) n (some (ad iwU)))))))))) iL (some (.inr (5, [.ref (ad j), .int (nI (n + 1)), .int (mo + 1)]))))) (xm_A ad ce sz)) 1 100 (xm_A ad ce sz) := by
  refine xq_ofW (cc := b_Al_add_ObjectZ) (maxL := 2) (ret := (some .boolean)) (by decide) rfl (Nat.le_of_ble_eq_true rfl) ?_
  intro p e s m args below meth c ls QQ hQQ hT hx hb hml hr hown hlk hnm hts hl hw
  have hl : lv_has ls 2 [(0, .ref (ad iL)), (1, .ref (ad iwU))] := hl
  refine lv_aload_n hx hb d_Al_add_ObjectZ_0 rfl (lv_at hl 0 rfl) ?_
  refine lv_dup hx hb d_Al_add_ObjectZ_1 rfl ?_
  refine xm_get (D := D) (v := .int mo) (C := R_Al) (T := F_Al) (N := 3) hx hb hts (fun w h => List.mem_cons_of_mem _ (i_Al w h)) hown hw f_L rfl 2 (by decide) (hts _ (List.mem_cons_of_mem _ xw_46)) (fun _ h9 => u_same (hts _ (List.mem_cons_of_mem _ xw_47)) _ h9) rfl d_Al_add_ObjectZ_2 ?_
  refine lv_iconst (v := 1) hx hb d_Al_add_ObjectZ_5 (by decide) ?_
  refine lv_iadd hx hb d_Al_add_ObjectZ_6 ?_
  have f_L0 := f_L
  have ne_E_L : iE ≠ iL := fun e => by rw [e, f_L] at f_E; simp at f_E
  have ne_wU_L : iwU ≠ iL := fun e => by rw [e, f_L] at f_wU; simp at f_wU
  refine xa_put (D := D) (v := .int (mo + 1)) (ty := .int) (C := R_Al) (T := F_Al) (N := 3) hx hb hts (fun w h => List.mem_cons_of_mem _ (i_Al w h)) t_Al o_Al n_Al hown hw f_L rfl 2 (by decide) (hts _ (List.mem_cons_of_mem _ xw_46)) (fun _ h9 => u_same (hts _ (List.mem_cons_of_mem _ xw_47)) _ h9) rfl (by decide +kernel) rfl rfl (Nat.le_of_ble_eq_true rfl) d_Al_add_ObjectZ_7 (fun H locs hz1 hw => ?_)
  have hz : H.size = s.heap.size := hz1
  obtain ⟨ce1, hce1⟩ : ∃ z, z = va_up ce iL (some (.inr (5, [.ref (ad iE), .int (nI n), .int (mo + 1)]))) := ⟨_, rfl⟩
  have hw := xm_W.cast hce1.symm hw
  have f_L : ce1 iL = some (.inr (5, [.ref (ad iE), .int (nI n), .int (mo + 1)])) := by rw [hce1]; exact va_up_self _ _ _
  have f_E : ce1 iE = some (.inl (cO, n, .inr (.inr (.inr (.inr ec))))) := by rw [hce1, va_up_ne _ _ ne_E_L]; exact f_E
  have f_wU : ce1 iwU = some (.inr (3, wf)) := by rw [hce1, va_up_ne _ _ ne_wU_L]; exact f_wU
  refine lv_aload_n hx hb d_Al_add_ObjectZ_10 rfl (lv_at hl 0 rfl) ?_
  refine lv_aload_n hx hb d_Al_add_ObjectZ_11 rfl (lv_at hl 1 rfl) ?_
  refine lv_aload_n hx hb d_Al_add_ObjectZ_12 rfl (lv_at hl 0 rfl) ?_
  refine xm_get (D := D) (v := .ref (ad iE)) (C := R_Al) (T := F_Al) (N := 3) hx hb hts (fun w h => List.mem_cons_of_mem _ (i_Al w h)) hown hw f_L rfl 0 (by decide) (hts _ (List.mem_cons_of_mem _ xw_43)) (fun _ h9 => h9) rfl d_Al_add_ObjectZ_13 ?_
  refine lv_aload_n hx hb d_Al_add_ObjectZ_16 rfl (lv_at hl 0 rfl) ?_
  refine xm_get (D := D) (v := .int (nI n)) (C := R_Al) (T := F_Al) (N := 3) hx hb hts (fun w h => List.mem_cons_of_mem _ (i_Al w h)) hown hw f_L rfl 1 (by decide) (hts _ (List.mem_cons_of_mem _ xw_44)) (fun _ h9 => h9) rfl d_Al_add_ObjectZ_17 ?_
  have hel1 : ∀ i, i < n → ∀ y, ec i = some y → ∃ (j : Nat) (vs : List Value), y = ad j ∧ ce1 j = some (.inr (3, vs)) := fun i hi y hy => by obtain ⟨j, vs, a, q⟩ := hel i hi y hy; exact ⟨j, vs, a, by rw [hce1, va_up_ne _ _ (fun e => by rw [e, f_L0] at q; simp at q)]; exact q⟩
  refine xm_callv (ua := fun _ => ad) (va_runV (As := [.ref (ad iwU), .ref (ad iE), .int (nI n)]) (rest := []) ⟨hx, hb, hml, hown, hts⟩ (c_Al_add3F (D := D) (ad := ad) ce1 hba h2 h40 hel1 f_L f_E f_wU _) (xg_cwV 3 hts xw_413 xw_410 xw_412 xw_p11 xw_4 rfl rfl (by decide +kernel) ⟨Nat.le_of_ble_eq_true rfl, Nat.le_of_ble_eq_true rfl⟩) (xq_preV hw hT f_L rfl _) rfl rfl hl.1 rfl (lv_room (Nat.le_of_ble_eq_true rfl)) d_Al_add_ObjectZ_20 ⟨Nat.le_of_ble_eq_true rfl, Nat.le_of_ble_eq_true rfl⟩) hw (fun j1 H locs h hw => ?_)
  try dsimp only at h hw
  obtain ⟨z2, hz⟩ : ∃ z, H.size = z := ⟨_, rfl⟩
  have ne_L : iL ≠ j1 := xa_ne f_L h.2
  have hj : ce j1 = none := by have q := h.2; rw [hce1, va_up_ne _ _ (Ne.symm ne_L)] at q; exact q
  refine lv_iconst (v := 1) hx hb d_Al_add_ObjectZ_23 (by decide) ?_
  subst hQQ
  exact xm_zret hx hb hr hlk rfl hw j1 rfl (by rw [hce1, xa_uc _ ne_L, xa_uu]) ⟨rfl, h.1, hj⟩ d_Al_add_ObjectZ_24
theorem xw_457 : (Jvm.Cond.methodLink "java/util/ArrayList" (79 : Nat) ({ cls := "java/lang/Math", name := "max", desc := "(II)I" } : Jvm.MethodName)) ∈ xg := xg_t (i := 457) (by decide +kernel) (by decide +kernel)
theorem xw_458 : (Jvm.Cond.classLink "java/util/ArrayList" (7 : Nat) "java/lang/Object") ∈ xg := xg_t (i := 458) (by decide +kernel) (by decide +kernel)
abbrev rm_Al_growI0 : Room := { frames := 1, cells := 1, slots := 100, locals := 30 }
set_option maxHeartbeats 4000000 in
set_option maxRecDepth 100000 in
theorem c_Al_growI0 {l : Launch} {D : va_G} {ad : Nat → Nat} (ce : Nat → Option va_E) {b : Nat} {cI cZ cJ cO : ClassId} {t0 mi : Nat} {iL : Nat} (hba : ∀ a, ad (b + a) = a) {mo : Int32} (f_L : ce iL = some (.inr (5, [.ref t0, .int 0, .int mo]))) : ∀ sz, Met l y_Al_grow_IObject (Cond.code y_Al_grow_IObject b_Al_grow_IObject 4 (some (.array (.object "java/lang/Object"))) :: xg) rm_Al_growI0 (xq_Pc t0 mi D xcl (xT cI cZ cJ cO) ad ce sz [.ref (ad iL), .int 1]) (va_Qr (fun j : Nat => b ≤ j ∧ ce j = none) (xm_Br D xcl (xT cI cZ cJ cO) (xm_A ad ce sz) (fun _ => ad) (fun j => va_up (va_up ce j (some (.inl (cO, 10, .inr (.inr (.inr (.inr (fun _ => none)))))))) iL (some (.inr (5, [.ref (ad j), .int 0, .int mo])))) (fun j => j)) (xm_A ad ce sz)) 1 100 (xm_A ad ce sz) := by
  refine xq_ofW (cc := b_Al_grow_IObject) (maxL := 4) (ret := (some (.array (.object "java/lang/Object")))) (by decide) rfl (Nat.le_of_ble_eq_true rfl) ?_
  intro p e s m args below meth c ls QQ hQQ hT hx hb hml hr hown hlk hnm hts hl hw
  have hl : lv_has ls 4 [(0, .ref (ad iL)), (1, .int 1)] := hl
  refine lv_aload_n hx hb d_Al_grow_IObject_0 rfl (lv_at hl 0 rfl) ?_
  refine xm_get (D := D) (v := .ref t0) (C := R_Al) (T := F_Al) (N := 3) hx hb hts (fun w h => List.mem_cons_of_mem _ (i_Al w h)) hown hw f_L rfl 0 (by decide) (hts _ (List.mem_cons_of_mem _ xw_43)) (fun _ h9 => h9) rfl d_Al_grow_IObject_1 ?_
  refine va_tlen (v := 0) hx hb hT.2.1 hw.2.2.2.1 rfl d_Al_grow_IObject_4 ?_
  refine lv_istore_n (lv' := [(2, .int 0), (0, .ref (ad iL)), (1, .int 1)]) hx hb d_Al_grow_IObject_5 rfl hl (by decide) rfl (fun ls hl => ?_)
  refine lv_iload_n hx hb d_Al_grow_IObject_6 rfl (lv_at hl 0 rfl) ?_
  refine lv_if_gt (tgt := 20) hx hb d_Al_grow_IObject_7 (by decide) (fun q => absurd q (by decide)) (fun _ => ?_)
  refine lv_aload_n hx hb d_Al_grow_IObject_10 rfl (lv_at hl 1 rfl) ?_
  refine xm_get (D := D) (v := .ref t0) (C := R_Al) (T := F_Al) (N := 3) hx hb hts (fun w h => List.mem_cons_of_mem _ (i_Al w h)) hown hw f_L rfl 0 (by decide) (hts _ (List.mem_cons_of_mem _ xw_43)) (fun _ h9 => h9) rfl d_Al_grow_IObject_11 ?_
  refine va_gets hx hb hT.1 hw.2.2.2.1 hown (hts _ (List.mem_cons_of_mem _ xw_41)) (fun _ h9 => h9) d_Al_grow_IObject_14 ?_
  refine lv_acmp_eq (rx := some t0) (ry := some t0) (tgt := 45) hx hb d_Al_grow_IObject_17 (by decide) (fun _ => ?_) (fun q => absurd rfl q)
  refine lv_aload_n hx hb d_Al_grow_IObject_45 rfl (lv_at hl 1 rfl) ?_
  refine lv_bipush (v := 10) hx hb d_Al_grow_IObject_46 (by decide) ?_
  refine lv_iload_n hx hb d_Al_grow_IObject_48 rfl (lv_at hl 2 rfl) ?_
  refine va_mmax hx hb (hml.trans hl.1.symm) hown (hts _ (List.mem_cons_of_mem _ xw_457)) (hts _ (List.mem_cons_of_mem _ xw_426)) (hts _ (List.mem_cons_of_mem _ xw_15)) (hts _ (List.mem_cons_of_mem _ xw_427)) (by decide) (Nat.le_of_ble_eq_true rfl) (Nat.le_of_ble_eq_true rfl) (Nat.le_of_ble_eq_true rfl) d_Al_grow_IObject_49 ?_
  rw [if_neg (by decide)]
  have fr_N : ce (b + s.heap.size) = none := xa_free hw hba (Nat.le_of_eq rfl)
  have ne_L_N : iL ≠ (b + s.heap.size) := xa_ne f_L fr_N
  have ne_N_L : (b + s.heap.size) ≠ iL := Ne.symm ne_L_N
  refine xa_anew (D := D) (b := b) (N' := 10) hx hb hown (hts _ (List.mem_cons_of_mem _ xw_458)) hT.2.2.1 hw hba 3 rfl (by decide) (by decide) (by decide) (by decide) (by decide) d_Al_grow_IObject_52 (fun H hz1 hw => ?_)
  have hz : H.size = s.heap.size + 1 := hz1
  obtain ⟨ce1, hce1⟩ : ∃ z, z = va_up ce (b + s.heap.size) (some (.inl (cO, 10, .inr (.inr (.inr (.inr (fun _ => none))))))) := ⟨_, rfl⟩
  have hw := xm_W.cast hce1.symm hw
  have f_L : ce1 iL = some (.inr (5, [.ref t0, .int 0, .int mo])) := by rw [hce1, va_up_ne _ _ ne_L_N]; exact f_L
  have f_N : ce1 (b + s.heap.size) = some (.inl (cO, 10, .inr (.inr (.inr (.inr (fun _ => none)))))) := by rw [hce1]; exact va_up_self _ _ _
  refine lv_dup_x1 hx hb d_Al_grow_IObject_55 rfl rfl ?_
  refine xa_put (D := D) (v := .ref (ad (b + s.heap.size))) (ty := .array (.object "java/lang/Object")) (C := R_Al) (T := F_Al) (N := 3) hx hb hts (fun w h => List.mem_cons_of_mem _ (i_Al w h)) t_Al o_Al n_Al hown hw f_L rfl 0 (by decide) (hts _ (List.mem_cons_of_mem _ xw_43)) (fun _ h9 => h9) rfl (by decide +kernel) rfl rfl (Nat.le_of_ble_eq_true rfl) d_Al_grow_IObject_56 (fun H locs hz1 hw => ?_)
  rw [hz] at hz1
  have hz : H.size = s.heap.size + 1 := hz1
  obtain ⟨ce2, hce2⟩ : ∃ z, z = va_up ce1 iL (some (.inr (5, [.ref (ad (b + s.heap.size)), .int 0, .int mo]))) := ⟨_, rfl⟩
  have hw := xm_W.cast hce2.symm hw
  have f_L : ce2 iL = some (.inr (5, [.ref (ad (b + s.heap.size)), .int 0, .int mo])) := by rw [hce2]; exact va_up_self _ _ _
  have f_N : ce2 (b + s.heap.size) = some (.inl (cO, 10, .inr (.inr (.inr (.inr (fun _ => none)))))) := by rw [hce2, va_up_ne _ _ ne_N_L]; exact f_N
  subst hQQ
  refine W.widen (k := 1) (n := 100) (by decide) (by decide) ?_
  exact xa_aret hx hb hr hlk hw (b + s.heap.size) rfl (by rw [hce2, hce1]) rfl ⟨Nat.le_add_right _ _, fr_N⟩ d_Al_grow_IObject_59
abbrev rm_Al_grow00 : Room := { frames := 2, cells := 1, slots := 100, locals := 53 }
set_option maxHeartbeats 4000000 in
set_option maxRecDepth 100000 in
theorem c_Al_grow00 {l : Launch} {D : va_G} {ad : Nat → Nat} (ce : Nat → Option va_E) {b : Nat} {cI cZ cJ cO : ClassId} {t0 mi : Nat} {iL : Nat} (hba : ∀ a, ad (b + a) = a) {mo : Int32} (f_L : ce iL = some (.inr (5, [.ref t0, .int 0, .int mo]))) : ∀ sz, Met l y_Al_grow_Object (Cond.code y_Al_grow_Object b_Al_grow_Object 1 (some (.array (.object "java/lang/Object"))) :: xg) rm_Al_grow00 (xq_Pc t0 mi D xcl (xT cI cZ cJ cO) ad ce sz [.ref (ad iL)]) (va_Qr (fun j : Nat => b ≤ j ∧ ce j = none) (xm_Br D xcl (xT cI cZ cJ cO) (xm_A ad ce sz) (fun _ => ad) (fun j => va_up (va_up ce j (some (.inl (cO, 10, .inr (.inr (.inr (.inr (fun _ => none)))))))) iL (some (.inr (5, [.ref (ad j), .int 0, .int mo])))) (fun j => j)) (xm_A ad ce sz)) 1 100 (xm_A ad ce sz) := by
  refine xq_ofW (cc := b_Al_grow_Object) (maxL := 1) (ret := (some (.array (.object "java/lang/Object")))) (by decide) rfl (Nat.le_of_ble_eq_true rfl) ?_
  intro p e s m args below meth c ls QQ hQQ hT hx hb hml hr hown hlk hnm hts hl hw
  have hl : lv_has ls 1 [(0, .ref (ad iL))] := hl
  refine lv_aload_n hx hb d_Al_grow_Object_0 rfl (lv_at hl 0 rfl) ?_
  refine lv_aload_n hx hb d_Al_grow_Object_1 rfl (lv_at hl 0 rfl) ?_
  refine xm_get (D := D) (v := .int 0) (C := R_Al) (T := F_Al) (N := 3) hx hb hts (fun w h => List.mem_cons_of_mem _ (i_Al w h)) hown hw f_L rfl 1 (by decide) (hts _ (List.mem_cons_of_mem _ xw_44)) (fun _ h9 => h9) rfl d_Al_grow_Object_2 ?_
  refine lv_iconst (v := 1) hx hb d_Al_grow_Object_5 (by decide) ?_
  refine lv_iadd hx hb d_Al_grow_Object_6 ?_
  rw [show (0 : Int32) + 1 = 1 from rfl]
  refine xm_callr (ua := fun _ => ad) (va_runV (As := [.int 1]) (rest := []) ⟨hx, hb, hml, hown, hts⟩ (c_Al_growI0 (D := D) (ad := ad) ce hba f_L _) (xg_cwV 1 hts xw_421 xw_418 xw_420 xw_p13 xw_4 rfl rfl (by decide +kernel) ⟨Nat.le_of_ble_eq_true rfl, Nat.le_of_ble_eq_true rfl⟩) (xq_preV hw hT f_L rfl _) rfl rfl hl.1 rfl (lv_room (Nat.le_of_ble_eq_true rfl)) d_Al_grow_Object_7 ⟨Nat.le_of_ble_eq_true rfl, Nat.le_of_ble_eq_true rfl⟩) hw (fun j1 H locs h hw => ?_)
  try dsimp only at h hw
  obtain ⟨z1, hz⟩ : ∃ z, H.size = z := ⟨_, rfl⟩
  subst hQQ
  exact xa_aret hx hb hr hlk hw j1 rfl rfl rfl h d_Al_grow_Object_10
abbrev rm_Al_add30 : Room := { frames := 3, cells := 1, slots := 100, locals := 73 }
set_option maxHeartbeats 4000000 in
set_option maxRecDepth 100000 in
theorem c_Al_add30 {l : Launch} {D : va_G} {ad : Nat → Nat} (ce : Nat → Option va_E) {b : Nat} {cI cZ cJ cO : ClassId} {t0 mi : Nat} {iL : Nat} {iwU : Nat} (hba : ∀ a, ad (b + a) = a) {mo : Int32} {wf : List Value} (f_L : ce iL = some (.inr (5, [.ref t0, .int 0, .int mo]))) (f_wU : ce iwU = some (.inr (3, wf))) : ∀ sz, Met l y_Al_add_ObjectObjectIV (Cond.code y_Al_add_ObjectObjectIV b_Al_add_ObjectObjectIV 4 none :: xg) rm_Al_add30 (xq_Pc t0 mi D xcl (xT cI cZ cJ cO) ad ce sz [.ref (ad iL), .ref (ad iwU), .ref t0, .int 0]) (va_Qv (fun j : Nat => b ≤ j ∧ ce j = none) (xm_B D xcl (xT cI cZ cJ cO) (xm_A ad ce sz) (fun _ => ad) (fun j => va_up (va_up ce j (some (.inl (cO, 10, .inr (.inr (.inr (.inr (va_up (fun _ => none) 0 (some (ad iwU)))))))))) iL (some (.inr (5, [.ref (ad j), .int 1, .int mo]))))) (xm_A ad ce sz)) 1 100 (xm_A ad ce sz) := by
  refine xq_ofW (cc := b_Al_add_ObjectObjectIV) (maxL := 4) (ret := none) (by decide) rfl (Nat.le_of_ble_eq_true rfl) ?_
  intro p e s m args below meth c ls QQ hQQ hT hx hb hml hr hown hlk hnm hts hl hw
  have hl : lv_has ls 4 [(0, .ref (ad iL)), (1, .ref (ad iwU)), (2, .ref t0), (3, .int 0)] := hl
  refine lv_iload_n hx hb d_Al_add_ObjectObjectIV_0 rfl (lv_at hl 3 rfl) ?_
  refine lv_aload_n hx hb d_Al_add_ObjectObjectIV_1 rfl (lv_at hl 2 rfl) ?_
  refine va_tlen (v := 0) hx hb hT.2.1 hw.2.2.2.1 rfl d_Al_add_ObjectObjectIV_2 ?_
  refine lv_icmp_ne (tgt := 11) hx hb d_Al_add_ObjectObjectIV_3 (by decide) (fun q => absurd rfl q) (fun _ => ?_)
  refine lv_aload_n hx hb d_Al_add_ObjectObjectIV_6 rfl (lv_at hl 0 rfl) ?_
  refine xm_callr (ua := fun _ => ad) (va_runV (As := []) (rest := []) ⟨hx, hb, hml, hown, hts⟩ (c_Al_grow00 (D := D) (ad := ad) ce hba f_L _) (xg_cwV 0 hts xw_417 xw_414 xw_416 xw_p12 xw_4 rfl rfl (by decide +kernel) ⟨Nat.le_of_ble_eq_true rfl, Nat.le_of_ble_eq_true rfl⟩) (xq_preV hw hT f_L rfl _) rfl rfl hl.1 rfl (lv_room (Nat.le_of_ble_eq_true rfl)) d_Al_add_ObjectObjectIV_7 ⟨Nat.le_of_ble_eq_true rfl, Nat.le_of_ble_eq_true rfl⟩) hw (fun j1 H locs h hw => ?_)
  try dsimp only at h hw
  obtain ⟨z1, hz⟩ : ∃ z, H.size = z := ⟨_, rfl⟩
  have ne_L : iL ≠ j1 := xa_ne f_L h.2
  have ne_wU : iwU ≠ j1 := xa_ne f_wU h.2
  have ne_wU_L : iwU ≠ iL := fun e => by rw [e, f_L] at f_wU; simp at f_wU
  have ne_N_L : j1 ≠ iL := Ne.symm ne_L
  have ne_L_N : iL ≠ j1 := ne_L
  have ne_wU_N : iwU ≠ j1 := ne_wU
  obtain ⟨ce2, hce2⟩ : ∃ z, z = va_up (va_up ce j1 (some (.inl (cO, 10, .inr (.inr (.inr (.inr (fun _ => none)))))))) iL (some (.inr (5, [.ref (ad j1), .int 0, .int mo]))) := ⟨_, rfl⟩
  have hw := xm_W.cast hce2.symm hw
  have f_L : ce2 iL = some (.inr (5, [.ref (ad j1), .int 0, .int mo])) := by rw [hce2]; exact va_up_self _ _ _
  have f_N : ce2 j1 = some (.inl (cO, 10, .inr (.inr (.inr (.inr (fun _ => none)))))) := by rw [hce2]; exact (va_up_ne _ _ ne_N_L).trans (va_up_self _ _ _)
  have f_wU : ce2 iwU = some (.inr (3, wf)) := by rw [hce2]; exact (va_up_ne _ _ ne_wU_L).trans ((va_up_ne _ _ ne_wU).trans f_wU)
  refine lv_astore_n (lv' := [(2, .ref (ad j1)), (0, .ref (ad iL)), (1, .ref (ad iwU)), (3, .int 0)]) hx hb d_Al_add_ObjectObjectIV_10 rfl hl (by decide) rfl (fun ls hl => ?_)
  refine lv_aload_n hx hb d_Al_add_ObjectObjectIV_11 rfl (lv_at hl 0 rfl) ?_
  refine lv_iload_n hx hb d_Al_add_ObjectObjectIV_12 rfl (lv_at hl 3 rfl) ?_
  refine lv_aload_n hx hb d_Al_add_ObjectObjectIV_13 rfl (lv_at hl 2 rfl) ?_
  refine xa_aast (r := (R_Ru, F_Ru, 4)) hx hb hw 3 f_N rfl hT.2.2.2.1 f_wU rfl (vp_in_nI (n := 0) (by decide) (by decide)) d_Al_add_ObjectObjectIV_14 (fun H locs hw => ?_)
  rw [sb_cl0] at hw
  obtain ⟨ce3, hce3⟩ : ∃ z, z = va_up ce2 j1 (some (.inl (cO, 10, .inr (.inr (.inr (.inr (va_up (fun _ => none) 0 (some (ad iwU))))))))) := ⟨_, rfl⟩
  have hw := xm_W.cast hce3.symm hw
  have f_L : ce3 iL = some (.inr (5, [.ref (ad j1), .int 0, .int mo])) := by rw [hce3, va_up_ne _ _ ne_L_N]; exact f_L
  have f_wU : ce3 iwU = some (.inr (3, wf)) := by rw [hce3, va_up_ne _ _ ne_wU_N]; exact f_wU
  have f_N : ce3 j1 = some (.inl (cO, 10, .inr (.inr (.inr (.inr (va_up (fun _ => none) 0 (some (ad iwU)))))))) := by rw [hce3]; exact va_up_self _ _ _
  obtain ⟨z4, hz⟩ : ∃ z, H.size = z := ⟨_, rfl⟩
  refine lv_aload_n hx hb d_Al_add_ObjectObjectIV_15 rfl (lv_at hl 1 rfl) ?_
  refine lv_iload_n hx hb d_Al_add_ObjectObjectIV_16 rfl (lv_at hl 3 rfl) ?_
  refine lv_iconst (v := 1) hx hb d_Al_add_ObjectObjectIV_17 (by decide) ?_
  refine lv_iadd hx hb d_Al_add_ObjectObjectIV_18 ?_
  rw [show (0 : Int32) + 1 = 1 from rfl]
  have ne_wU_N2 := ne_wU_N
  refine xa_put (D := D) (v := .int 1) (ty := .int) (C := R_Al) (T := F_Al) (N := 3) hx hb hts (fun w h => List.mem_cons_of_mem _ (i_Al w h)) t_Al o_Al n_Al hown hw f_L rfl 1 (by decide) (hts _ (List.mem_cons_of_mem _ xw_44)) (fun _ h9 => h9) rfl (by decide +kernel) rfl rfl (Nat.le_of_ble_eq_true rfl) d_Al_add_ObjectObjectIV_19 (fun H locs hz1 hw => ?_)
  rw [hz] at hz1
  have hz : H.size = z4 := hz1
  obtain ⟨ce5, hce5⟩ : ∃ z, z = va_up ce3 iL (some (.inr (5, [.ref (ad j1), .int 1, .int mo]))) := ⟨_, rfl⟩
  have hw := xm_W.cast hce5.symm hw
  have f_L : ce5 iL = some (.inr (5, [.ref (ad j1), .int 1, .int mo])) := by rw [hce5]; exact va_up_self _ _ _
  have f_wU : ce5 iwU = some (.inr (3, wf)) := by rw [hce5, va_up_ne _ _ ne_wU_L]; exact f_wU
  have f_N : ce5 j1 = some (.inl (cO, 10, .inr (.inr (.inr (.inr (va_up (fun _ => none) 0 (some (ad iwU)))))))) := by rw [hce5, va_up_ne _ _ ne_N_L]; exact f_N
  subst hQQ
  exact xm_vret hx hb hr hlk hw j1 rfl (by rw [hce5, hce3, hce2, xa_uc _ ne_L_N, xa_uu, xa_uu]) h d_Al_add_ObjectObjectIV_22
abbrev rm_Al_add0 : Room := { frames := 4, cells := 1, slots := 100, locals := 96 }
set_option maxHeartbeats 4000000 in
set_option maxRecDepth 100000 in
theorem c_Al_add0 {l : Launch} {D : va_G} {ad : Nat → Nat} (ce : Nat → Option va_E) {b : Nat} {cI cZ cJ cO : ClassId} {t0 mi : Nat} {iL : Nat} {iwU : Nat} (hba : ∀ a, ad (b + a) = a) {mo : Int32} {wf : List Value} (f_L : ce iL = some (.inr (5, [.ref t0, .int 0, .int mo]))) (f_wU : ce iwU = some (.inr (3, wf))) : ∀ sz, Met l y_Al_add_ObjectZ (Cond.code y_Al_add_ObjectZ b_Al_add_ObjectZ 2 (some .boolean) :: xg) rm_Al_add0 (xq_Pc t0 mi D xcl (xT cI cZ cJ cO) ad ce sz [.ref (ad iL), .ref (ad iwU)]) (va_Qi (fun (r : Int32) (j : Nat) => r = 1 ∧ b ≤ j ∧ ce j = none) (xm_B D xcl (xT cI cZ cJ cO) (xm_A ad ce sz) (fun _ => ad) (fun j => va_up (va_up ce j (some (.inl (cO, 10, .inr (.inr (.inr (.inr (va_up (fun _ => none) 0 (some (ad iwU)))))))))) iL (some (.inr (5, [.ref (ad j), .int 1, .int (mo + 1)]))))) (xm_A ad ce sz)) 1 100 (xm_A ad ce sz) := by
  refine xq_ofW (cc := b_Al_add_ObjectZ) (maxL := 2) (ret := (some .boolean)) (by decide) rfl (Nat.le_of_ble_eq_true rfl) ?_
  intro p e s m args below meth c ls QQ hQQ hT hx hb hml hr hown hlk hnm hts hl hw
  have hl : lv_has ls 2 [(0, .ref (ad iL)), (1, .ref (ad iwU))] := hl
  refine lv_aload_n hx hb d_Al_add_ObjectZ_0 rfl (lv_at hl 0 rfl) ?_
  refine lv_dup hx hb d_Al_add_ObjectZ_1 rfl ?_
  refine xm_get (D := D) (v := .int mo) (C := R_Al) (T := F_Al) (N := 3) hx hb hts (fun w h => List.mem_cons_of_mem _ (i_Al w h)) hown hw f_L rfl 2 (by decide) (hts _ (List.mem_cons_of_mem _ xw_46)) (fun _ h9 => u_same (hts _ (List.mem_cons_of_mem _ xw_47)) _ h9) rfl d_Al_add_ObjectZ_2 ?_
  refine lv_iconst (v := 1) hx hb d_Al_add_ObjectZ_5 (by decide) ?_
  refine lv_iadd hx hb d_Al_add_ObjectZ_6 ?_
  have f_L0 := f_L
  have ne_wU_L : iwU ≠ iL := fun e => by rw [e, f_L] at f_wU; simp at f_wU
  refine xa_put (D := D) (v := .int (mo + 1)) (ty := .int) (C := R_Al) (T := F_Al) (N := 3) hx hb hts (fun w h => List.mem_cons_of_mem _ (i_Al w h)) t_Al o_Al n_Al hown hw f_L rfl 2 (by decide) (hts _ (List.mem_cons_of_mem _ xw_46)) (fun _ h9 => u_same (hts _ (List.mem_cons_of_mem _ xw_47)) _ h9) rfl (by decide +kernel) rfl rfl (Nat.le_of_ble_eq_true rfl) d_Al_add_ObjectZ_7 (fun H locs hz1 hw => ?_)
  have hz : H.size = s.heap.size := hz1
  obtain ⟨ce1, hce1⟩ : ∃ z, z = va_up ce iL (some (.inr (5, [.ref t0, .int 0, .int (mo + 1)]))) := ⟨_, rfl⟩
  have hw := xm_W.cast hce1.symm hw
  have f_L : ce1 iL = some (.inr (5, [.ref t0, .int 0, .int (mo + 1)])) := by rw [hce1]; exact va_up_self _ _ _
  have f_wU : ce1 iwU = some (.inr (3, wf)) := by rw [hce1, va_up_ne _ _ ne_wU_L]; exact f_wU
  refine lv_aload_n hx hb d_Al_add_ObjectZ_10 rfl (lv_at hl 0 rfl) ?_
  refine lv_aload_n hx hb d_Al_add_ObjectZ_11 rfl (lv_at hl 1 rfl) ?_
  refine lv_aload_n hx hb d_Al_add_ObjectZ_12 rfl (lv_at hl 0 rfl) ?_
  refine xm_get (D := D) (v := .ref t0) (C := R_Al) (T := F_Al) (N := 3) hx hb hts (fun w h => List.mem_cons_of_mem _ (i_Al w h)) hown hw f_L rfl 0 (by decide) (hts _ (List.mem_cons_of_mem _ xw_43)) (fun _ h9 => h9) rfl d_Al_add_ObjectZ_13 ?_
  refine lv_aload_n hx hb d_Al_add_ObjectZ_16 rfl (lv_at hl 0 rfl) ?_
  refine xm_get (D := D) (v := .int 0) (C := R_Al) (T := F_Al) (N := 3) hx hb hts (fun w h => List.mem_cons_of_mem _ (i_Al w h)) hown hw f_L rfl 1 (by decide) (hts _ (List.mem_cons_of_mem _ xw_44)) (fun _ h9 => h9) rfl d_Al_add_ObjectZ_17 ?_
  refine xm_callv (ua := fun _ => ad) (va_runV (As := [.ref (ad iwU), .ref t0, .int 0]) (rest := []) ⟨hx, hb, hml, hown, hts⟩ (c_Al_add30 (D := D) (ad := ad) ce1 hba f_L f_wU _) (xg_cwV 3 hts xw_413 xw_410 xw_412 xw_p11 xw_4 rfl rfl (by decide +kernel) ⟨Nat.le_of_ble_eq_true rfl, Nat.le_of_ble_eq_true rfl⟩) (xq_preV hw hT f_L rfl _) rfl rfl hl.1 rfl (lv_room (Nat.le_of_ble_eq_true rfl)) d_Al_add_ObjectZ_20 ⟨Nat.le_of_ble_eq_true rfl, Nat.le_of_ble_eq_true rfl⟩) hw (fun j1 H locs h hw => ?_)
  try dsimp only at h hw
  obtain ⟨z2, hz⟩ : ∃ z, H.size = z := ⟨_, rfl⟩
  have ne_L : iL ≠ j1 := xa_ne f_L h.2
  have hj : ce j1 = none := by have q := h.2; rw [hce1, va_up_ne _ _ (Ne.symm ne_L)] at q; exact q
  refine lv_iconst (v := 1) hx hb d_Al_add_ObjectZ_23 (by decide) ?_
  subst hQQ
  exact xm_zret hx hb hr hlk rfl hw j1 rfl (by rw [hce1, xa_uc _ ne_L, xa_uu]) ⟨rfl, h.1, hj⟩ d_Al_add_ObjectZ_24
