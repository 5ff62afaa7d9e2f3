abbrev b_Su_newLength : ByteArray := prog_28_method_27_code
def y_Su_newLength : MethodName := ⟨"jdk/internal/util/ArraysSupport", "newLength", "(III)I"⟩
theorem d_Su_newLength_0 : decode b_Su_newLength 0 = .ok (.iload_n 0, 1) := by decide +kernel
theorem d_Su_newLength_1 : decode b_Su_newLength 1 = .ok (.iload_n 1, 1) := by decide +kernel
theorem d_Su_newLength_2 : decode b_Su_newLength 2 = .ok (.iload_n 2, 1) := by decide +kernel
theorem d_Su_newLength_3 : decode b_Su_newLength 3 = .ok (.invokestatic 194, 3) := by decide +kernel
theorem d_Su_newLength_6 : decode b_Su_newLength 6 = .ok (.iadd, 1) := by decide +kernel
theorem d_Su_newLength_7 : decode b_Su_newLength 7 = .ok (.istore_n 3, 1) := by decide +kernel
theorem d_Su_newLength_8 : decode b_Su_newLength 8 = .ok (.iconst 0, 1) := by decide +kernel
theorem d_Su_newLength_9 : decode b_Su_newLength 9 = .ok (.iload_n 3, 1) := by decide +kernel
theorem d_Su_newLength_10 : decode b_Su_newLength 10 = .ok (.if_icmp .ge 11, 3) := by decide +kernel
theorem d_Su_newLength_13 : decode b_Su_newLength 13 = .ok (.iload_n 3, 1) := by decide +kernel
theorem d_Su_newLength_14 : decode b_Su_newLength 14 = .ok (.ldc 200, 2) := by decide +kernel
theorem d_Su_newLength_16 : decode b_Su_newLength 16 = .ok (.if_icmp .gt 5, 3) := by decide +kernel
theorem d_Su_newLength_19 : decode b_Su_newLength 19 = .ok (.iload_n 3, 1) := by decide +kernel
theorem d_Su_newLength_20 : decode b_Su_newLength 20 = .ok (.ireturn, 1) := by decide +kernel
theorem d_Su_newLength_21 : decode b_Su_newLength 21 = .ok (.iload_n 0, 1) := by decide +kernel
theorem d_Su_newLength_22 : decode b_Su_newLength 22 = .ok (.iload_n 1, 1) := by decide +kernel
theorem d_Su_newLength_23 : decode b_Su_newLength 23 = .ok (.invokestatic 201, 3) := by decide +kernel
theorem d_Su_newLength_26 : decode b_Su_newLength 26 = .ok (.ireturn, 1) := by decide +kernel
abbrev b_Al_fastRemove : ByteArray := prog_21_method_39_code
def y_Al_fastRemove : MethodName := ⟨"java/util/ArrayList", "fastRemove", "([Ljava/lang/Object;I)V"⟩
theorem d_Al_fastRemove_0 : decode b_Al_fastRemove 0 = .ok (.aload_n 0, 1) := by decide +kernel
theorem d_Al_fastRemove_1 : decode b_Al_fastRemove 1 = .ok (.dup, 1) := by decide +kernel
theorem d_Al_fastRemove_2 : decode b_Al_fastRemove 2 = .ok (.getfield 63, 3) := by decide +kernel
theorem d_Al_fastRemove_5 : decode b_Al_fastRemove 5 = .ok (.iconst 1, 1) := by decide +kernel
theorem d_Al_fastRemove_6 : decode b_Al_fastRemove 6 = .ok (.iadd, 1) := by decide +kernel
theorem d_Al_fastRemove_7 : decode b_Al_fastRemove 7 = .ok (.putfield 63, 3) := by decide +kernel
theorem d_Al_fastRemove_10 : decode b_Al_fastRemove 10 = .ok (.aload_n 0, 1) := by decide +kernel
theorem d_Al_fastRemove_11 : decode b_Al_fastRemove 11 = .ok (.getfield 48, 3) := by decide +kernel
theorem d_Al_fastRemove_14 : decode b_Al_fastRemove 14 = .ok (.iconst 1, 1) := by decide +kernel
theorem d_Al_fastRemove_15 : decode b_Al_fastRemove 15 = .ok (.isub, 1) := by decide +kernel
theorem d_Al_fastRemove_16 : decode b_Al_fastRemove 16 = .ok (.dup, 1) := by decide +kernel
theorem d_Al_fastRemove_17 : decode b_Al_fastRemove 17 = .ok (.istore_n 3, 1) := by decide +kernel
theorem d_Al_fastRemove_18 : decode b_Al_fastRemove 18 = .ok (.iload_n 2, 1) := by decide +kernel
theorem d_Al_fastRemove_19 : decode b_Al_fastRemove 19 = .ok (.if_icmp .le 15, 3) := by decide +kernel
theorem d_Al_fastRemove_22 : decode b_Al_fastRemove 22 = .ok (.aload_n 1, 1) := by decide +kernel
theorem d_Al_fastRemove_23 : decode b_Al_fastRemove 23 = .ok (.iload_n 2, 1) := by decide +kernel
theorem d_Al_fastRemove_24 : decode b_Al_fastRemove 24 = .ok (.iconst 1, 1) := by decide +kernel
theorem d_Al_fastRemove_25 : decode b_Al_fastRemove 25 = .ok (.iadd, 1) := by decide +kernel
theorem d_Al_fastRemove_26 : decode b_Al_fastRemove 26 = .ok (.aload_n 1, 1) := by decide +kernel
theorem d_Al_fastRemove_27 : decode b_Al_fastRemove 27 = .ok (.iload_n 2, 1) := by decide +kernel
theorem d_Al_fastRemove_28 : decode b_Al_fastRemove 28 = .ok (.iload_n 3, 1) := by decide +kernel
theorem d_Al_fastRemove_29 : decode b_Al_fastRemove 29 = .ok (.iload_n 2, 1) := by decide +kernel
theorem d_Al_fastRemove_30 : decode b_Al_fastRemove 30 = .ok (.isub, 1) := by decide +kernel
theorem d_Al_fastRemove_31 : decode b_Al_fastRemove 31 = .ok (.invokestatic 112, 3) := by decide +kernel
theorem d_Al_fastRemove_34 : decode b_Al_fastRemove 34 = .ok (.aload_n 1, 1) := by decide +kernel
theorem d_Al_fastRemove_35 : decode b_Al_fastRemove 35 = .ok (.aload_n 0, 1) := by decide +kernel
theorem d_Al_fastRemove_36 : decode b_Al_fastRemove 36 = .ok (.iload_n 3, 1) := by decide +kernel
theorem d_Al_fastRemove_37 : decode b_Al_fastRemove 37 = .ok (.dup_x1, 1) := by decide +kernel
theorem d_Al_fastRemove_38 : decode b_Al_fastRemove 38 = .ok (.putfield 48, 3) := by decide +kernel
theorem d_Al_fastRemove_41 : decode b_Al_fastRemove 41 = .ok (.aconst_null, 1) := by decide +kernel
theorem d_Al_fastRemove_42 : decode b_Al_fastRemove 42 = .ok (.aastore, 1) := by decide +kernel
theorem d_Al_fastRemove_43 : decode b_Al_fastRemove 43 = .ok (.return_, 1) := by decide +kernel
abbrev b_Al_remove : ByteArray := prog_21_method_29_code
def y_Al_remove : MethodName := ⟨"java/util/ArrayList", "remove", "(I)Ljava/lang/Object;"⟩
theorem d_Al_remove_0 : decode b_Al_remove 0 = .ok (.iload_n 1, 1) := by decide +kernel
theorem d_Al_remove_1 : decode b_Al_remove 1 = .ok (.aload_n 0, 1) := by decide +kernel
theorem d_Al_remove_2 : decode b_Al_remove 2 = .ok (.getfield 48, 3) := by decide +kernel
theorem d_Al_remove_5 : decode b_Al_remove 5 = .ok (.invokestatic 118, 3) := by decide +kernel
theorem d_Al_remove_8 : decode b_Al_remove 8 = .ok (.pop, 1) := by decide +kernel
theorem d_Al_remove_9 : decode b_Al_remove 9 = .ok (.aload_n 0, 1) := by decide +kernel
theorem d_Al_remove_10 : decode b_Al_remove 10 = .ok (.getfield 9, 3) := by decide +kernel
theorem d_Al_remove_13 : decode b_Al_remove 13 = .ok (.astore_n 2, 1) := by decide +kernel
theorem d_Al_remove_14 : decode b_Al_remove 14 = .ok (.aload_n 2, 1) := by decide +kernel
theorem d_Al_remove_15 : decode b_Al_remove 15 = .ok (.iload_n 1, 1) := by decide +kernel
theorem d_Al_remove_16 : decode b_Al_remove 16 = .ok (.aaload, 1) := by decide +kernel
theorem d_Al_remove_17 : decode b_Al_remove 17 = .ok (.astore_n 3, 1) := by decide +kernel
theorem d_Al_remove_18 : decode b_Al_remove 18 = .ok (.aload_n 0, 1) := by decide +kernel
theorem d_Al_remove_19 : decode b_Al_remove 19 = .ok (.aload_n 2, 1) := by decide +kernel
theorem d_Al_remove_20 : decode b_Al_remove 20 = .ok (.iload_n 1, 1) := by decide +kernel
theorem d_Al_remove_21 : decode b_Al_remove 21 = .ok (.invokevirtual 144, 3) := by decide +kernel
theorem d_Al_remove_24 : decode b_Al_remove 24 = .ok (.aload_n 3, 1) := by decide +kernel
theorem d_Al_remove_25 : decode b_Al_remove 25 = .ok (.areturn, 1) := by decide +kernel
abbrev b_Qd_take : ByteArray := prog_1_method_8_code
def y_Qd_take : MethodName := ⟨"QuestionDesk", "take", "(I)Z"⟩
theorem d_Qd_take_0 : decode b_Qd_take 0 = .ok (.iload_n 1, 1) := by decide +kernel
theorem d_Qd_take_1 : decode b_Qd_take 1 = .ok (.ifCond .lt 14, 3) := by decide +kernel
theorem d_Qd_take_4 : decode b_Qd_take 4 = .ok (.iload_n 1, 1) := by decide +kernel
theorem d_Qd_take_5 : decode b_Qd_take 5 = .ok (.aload_n 0, 1) := by decide +kernel
theorem d_Qd_take_6 : decode b_Qd_take 6 = .ok (.getfield 24, 3) := by decide +kernel
theorem d_Qd_take_9 : decode b_Qd_take 9 = .ok (.invokevirtual 105, 3) := by decide +kernel
theorem d_Qd_take_12 : decode b_Qd_take 12 = .ok (.if_icmp .lt 5, 3) := by decide +kernel
theorem d_Qd_take_15 : decode b_Qd_take 15 = .ok (.iconst 0, 1) := by decide +kernel
theorem d_Qd_take_16 : decode b_Qd_take 16 = .ok (.ireturn, 1) := by decide +kernel
theorem d_Qd_take_17 : decode b_Qd_take 17 = .ok (.aload_n 0, 1) := by decide +kernel
theorem d_Qd_take_18 : decode b_Qd_take 18 = .ok (.getfield 24, 3) := by decide +kernel
theorem d_Qd_take_21 : decode b_Qd_take 21 = .ok (.iload_n 1, 1) := by decide +kernel
theorem d_Qd_take_22 : decode b_Qd_take 22 = .ok (.invokevirtual 116, 3) := by decide +kernel
theorem d_Qd_take_25 : decode b_Qd_take 25 = .ok (.pop, 1) := by decide +kernel
theorem d_Qd_take_26 : decode b_Qd_take 26 = .ok (.iconst 1, 1) := by decide +kernel
theorem d_Qd_take_27 : decode b_Qd_take 27 = .ok (.ireturn, 1) := by decide +kernel
abbrev b_Al_add_ObjectObjectIV : ByteArray := prog_21_method_24_code
def y_Al_add_ObjectObjectIV : MethodName := ⟨"java/util/ArrayList", "add", "(Ljava/lang/Object;[Ljava/lang/Object;I)V"⟩
theorem d_Al_add_ObjectObjectIV_0 : decode b_Al_add_ObjectObjectIV 0 = .ok (.iload_n 3, 1) := by decide +kernel
theorem d_Al_add_ObjectObjectIV_1 : decode b_Al_add_ObjectObjectIV 1 = .ok (.aload_n 2, 1) := by decide +kernel
theorem d_Al_add_ObjectObjectIV_2 : decode b_Al_add_ObjectObjectIV 2 = .ok (.arraylength, 1) := by decide +kernel
theorem d_Al_add_ObjectObjectIV_3 : decode b_Al_add_ObjectObjectIV 3 = .ok (.if_icmp .ne 8, 3) := by decide +kernel
theorem d_Al_add_ObjectObjectIV_6 : decode b_Al_add_ObjectObjectIV 6 = .ok (.aload_n 0, 1) := by decide +kernel
theorem d_Al_add_ObjectObjectIV_7 : decode b_Al_add_ObjectObjectIV 7 = .ok (.invokevirtual 129, 3) := by decide +kernel
theorem d_Al_add_ObjectObjectIV_10 : decode b_Al_add_ObjectObjectIV 10 = .ok (.astore_n 2, 1) := by decide +kernel
theorem d_Al_add_ObjectObjectIV_11 : decode b_Al_add_ObjectObjectIV 11 = .ok (.aload_n 2, 1) := by decide +kernel
theorem d_Al_add_ObjectObjectIV_12 : decode b_Al_add_ObjectObjectIV 12 = .ok (.iload_n 3, 1) := by decide +kernel
theorem d_Al_add_ObjectObjectIV_13 : decode b_Al_add_ObjectObjectIV 13 = .ok (.aload_n 1, 1) := by decide +kernel
theorem d_Al_add_ObjectObjectIV_14 : decode b_Al_add_ObjectObjectIV 14 = .ok (.aastore, 1) := by decide +kernel
theorem d_Al_add_ObjectObjectIV_15 : decode b_Al_add_ObjectObjectIV 15 = .ok (.aload_n 0, 1) := by decide +kernel
theorem d_Al_add_ObjectObjectIV_16 : decode b_Al_add_ObjectObjectIV 16 = .ok (.iload_n 3, 1) := by decide +kernel
theorem d_Al_add_ObjectObjectIV_17 : decode b_Al_add_ObjectObjectIV 17 = .ok (.iconst 1, 1) := by decide +kernel
theorem d_Al_add_ObjectObjectIV_18 : decode b_Al_add_ObjectObjectIV 18 = .ok (.iadd, 1) := by decide +kernel
theorem d_Al_add_ObjectObjectIV_19 : decode b_Al_add_ObjectObjectIV 19 = .ok (.putfield 48, 3) := by decide +kernel
theorem d_Al_add_ObjectObjectIV_22 : decode b_Al_add_ObjectObjectIV 22 = .ok (.return_, 1) := by decide +kernel
abbrev b_Al_add_ObjectZ : ByteArray := prog_21_method_25_code
def y_Al_add_ObjectZ : MethodName := ⟨"java/util/ArrayList", "add", "(Ljava/lang/Object;)Z"⟩
theorem d_Al_add_ObjectZ_0 : decode b_Al_add_ObjectZ 0 = .ok (.aload_n 0, 1) := by decide +kernel
theorem d_Al_add_ObjectZ_1 : decode b_Al_add_ObjectZ 1 = .ok (.dup, 1) := by decide +kernel
theorem d_Al_add_ObjectZ_2 : decode b_Al_add_ObjectZ 2 = .ok (.getfield 63, 3) := by decide +kernel
theorem d_Al_add_ObjectZ_5 : decode b_Al_add_ObjectZ 5 = .ok (.iconst 1, 1) := by decide +kernel
theorem d_Al_add_ObjectZ_6 : decode b_Al_add_ObjectZ 6 = .ok (.iadd, 1) := by decide +kernel
theorem d_Al_add_ObjectZ_7 : decode b_Al_add_ObjectZ 7 = .ok (.putfield 63, 3) := by decide +kernel
theorem d_Al_add_ObjectZ_10 : decode b_Al_add_ObjectZ 10 = .ok (.aload_n 0, 1) := by decide +kernel
theorem d_Al_add_ObjectZ_11 : decode b_Al_add_ObjectZ 11 = .ok (.aload_n 1, 1) := by decide +kernel
theorem d_Al_add_ObjectZ_12 : decode b_Al_add_ObjectZ 12 = .ok (.aload_n 0, 1) := by decide +kernel
theorem d_Al_add_ObjectZ_13 : decode b_Al_add_ObjectZ 13 = .ok (.getfield 9, 3) := by decide +kernel
theorem d_Al_add_ObjectZ_16 : decode b_Al_add_ObjectZ 16 = .ok (.aload_n 0, 1) := by decide +kernel
theorem d_Al_add_ObjectZ_17 : decode b_Al_add_ObjectZ 17 = .ok (.getfield 48, 3) := by decide +kernel
theorem d_Al_add_ObjectZ_20 : decode b_Al_add_ObjectZ 20 = .ok (.invokevirtual 131, 3) := by decide +kernel
theorem d_Al_add_ObjectZ_23 : decode b_Al_add_ObjectZ 23 = .ok (.iconst 1, 1) := by decide +kernel
theorem d_Al_add_ObjectZ_24 : decode b_Al_add_ObjectZ 24 = .ok (.ireturn, 1) := by decide +kernel
theorem xw_425 : (Jvm.Cond.methodLink "jdk/internal/util/ArraysSupport" (194 : Nat) ({ cls := "java/lang/Math", name := "max", desc := "(II)I" } : Jvm.MethodName)) ∈ xg := xg_t (i := 425) (by decide +kernel) (by decide +kernel)
theorem xw_426 : (Jvm.Cond.static ({ cls := "java/lang/Math", name := "max", desc := "(II)I" } : Jvm.MethodName)) ∈ xg := xg_t (i := 426) (by decide +kernel) (by decide +kernel)
theorem xw_15 : (Jvm.Cond.initialized "java/lang/Math") ∈ xg := xg_t (i := 15) (by decide +kernel) (by decide +kernel)
theorem xw_427 : (Jvm.Cond.code ({ cls := "java/lang/Math", name := "max", desc := "(II)I" } : Jvm.MethodName) prog_14_method_65_code (2 : Nat) (Option.some Jvm.ClassFile.FieldType.int)) ∈ xg := xg_t (i := 427) (by decide +kernel) (by decide +kernel)
theorem xw_428 : (Jvm.Cond.constant "jdk/internal/util/ArraysSupport" (200 : Nat) (2147483639 : Int32)) ∈ xg := xg_t (i := 428) (by decide +kernel) (by decide +kernel)
def wp_Su_newLength (post : Int32 → Prop)  (ol : Int32) (mg : Int32) (pg : Int32) : Prop :=
∀ x_1 : Int32, x_1 = ol + (if mg < pg then pg else mg) →
xj (fun (v_2 : Unit) =>
False) (fun (J_3 : Unit → Prop) =>
((x_1 ≤ 0 →
J_3 ()) ∧ (¬ x_1 ≤ 0 →
((2147483639 < x_1 →
J_3 ()) ∧ (¬ 2147483639 < x_1 →
post x_1)))))
abbrev rm_Su_newLength : Room := { frames := 1, cells := 0, slots := 0, locals := 30 }
set_option maxHeartbeats 4000000 in
set_option maxRecDepth 100000 in
theorem c_Su_newLength {l : Launch} {D : va_G} {ad : Nat → Nat} (CE : Nat → Option va_E) {cI cZ cJ cO : ClassId}    {post : Int32 → Prop} {ol : Int32} {mg : Int32} {pg : Int32} (h : wp_Su_newLength post ol mg pg) : ∀ sz, Met l y_Su_newLength (Cond.code y_Su_newLength b_Su_newLength 4 (some .int) :: xg) rm_Su_newLength (xm_Pc D xcl (xT cI cZ cJ cO) ad CE sz [.int ol, .int mg, .int pg]) (va_Qi (fun (r : Int32) (_ : Unit) => post r) (xm_B D xcl (xT cI cZ cJ cO) (xm_A ad CE sz) (fun _ => ad) (fun _ : Unit => CE)) (xm_A ad CE sz)) 0 0 (xm_A ad CE sz) := by
  refine xm_ofW (cc := b_Su_newLength) (maxL := 4) (ret := (some .int)) (by decide) rfl (Nat.le_of_ble_eq_true rfl) ?_
  intro p e s m args below meth c ls QQ hQQ hx hb hml hr hown hlk hnm hts hl hw
  have hl : lv_has ls 4 [(0, .int ol), (1, .int mg), (2, .int pg)] := hl
  unfold wp_Su_newLength at h
  refine lv_iload_n hx hb d_Su_newLength_0 rfl (lv_at hl 0 rfl) ?_
  refine lv_iload_n hx hb d_Su_newLength_1 rfl (lv_at hl 1 rfl) ?_
  refine lv_iload_n hx hb d_Su_newLength_2 rfl (lv_at hl 2 rfl) ?_
  refine va_mmax hx hb (hml.trans hl.1.symm) hown (hts _ (List.mem_cons_of_mem _ xw_425)) (hts _ (List.mem_cons_of_mem _ xw_426)) (hts _ (List.mem_cons_of_mem _ xw_15)) (hts _ (List.mem_cons_of_mem _ xw_427)) (by decide) (Nat.le_of_ble_eq_true rfl) (Nat.le_of_ble_eq_true rfl) (Nat.le_of_ble_eq_true rfl) d_Su_newLength_3 ?_
  refine lv_iadd hx hb d_Su_newLength_6 ?_
  refine lv_topi (fun x_1 ex_1 => ?_)
  have h := h x_1 ex_1
  refine lv_istore_n (lv' := [(3, .int x_1), (0, .int ol), (1, .int mg), (2, .int pg)]) hx hb d_Su_newLength_7 rfl hl (by decide) rfl (fun ls hl => ?_)
  refine lv_iconst (v := 0) hx hb d_Su_newLength_8 (by decide) ?_
  refine lv_iload_n hx hb d_Su_newLength_9 rfl (lv_at hl 0 rfl) ?_
  refine xj_use h (fun (v_2 : Unit) => ∀ (H : Heap) (locs : List Loc) (ls : Array Slot), xm_W D xcl (xT cI cZ cJ cO) (xm_A ad CE s.heap.size) ad CE s s.heap H locs → lv_has ls 4 [] → W p l e rm_Su_newLength s m args below meth c H locs 0 0 QQ (F0 m 21 ls [])) (fun v_2 h H locs ls hw hl => ?_) (fun J_3 hJ_3 h => ?_)
  · exact False.elim h
  · refine lv_icmp_ge (tgt := 21) hx hb d_Su_newLength_10 (by decide) (fun hc => ?_) (fun hc => ?_)
    · have h := h.1 hc
      exact hJ_3 () h _ _ _ hw (lv_sub hl [] rfl)
    · have h := h.2 hc
      refine lv_iload_n hx hb d_Su_newLength_13 rfl (lv_at hl 0 rfl) ?_
      refine lv_ldc (v := 2147483639) hx hb hown (hts _ (List.mem_cons_of_mem _ xw_428)) d_Su_newLength_14 ?_
      refine lv_icmp_gt (tgt := 21) hx hb d_Su_newLength_16 (by decide) (fun hc => ?_) (fun hc => ?_)
      · have h := h.1 hc
        exact hJ_3 () h _ _ _ hw (lv_sub hl [] rfl)
      · have h := h.2 hc
        refine lv_iload_n hx hb d_Su_newLength_19 rfl (lv_at hl 0 rfl) ?_
        subst hQQ
        exact xm_iret hx hb hr hlk hw () rfl rfl h d_Su_newLength_20
theorem xw_46 : (Jvm.Cond.fieldLink "java/util/ArrayList" (63 : Nat) "java/util/ArrayList" "modCount" "I") ∈ xg := xg_t (i := 46) (by decide +kernel) (by decide +kernel)
theorem xw_47 : (Jvm.Cond.sameField "java/util/ArrayList" "java/util/AbstractList" "modCount" "I") ∈ xg := xg_t (i := 47) (by decide +kernel) (by decide +kernel)
theorem xw_166 : (Jvm.Cond.methodLink "java/util/ArrayList" (112 : Nat) ({ cls := "java/lang/System", name := "arraycopy", desc := "(Ljava/lang/Object;ILjava/lang/Object;II)V" } : Jvm.MethodName)) ∈ xg := xg_t (i := 166) (by decide +kernel) (by decide +kernel)
theorem xw_168 : (Jvm.Cond.native ({ cls := "java/lang/System", name := "arraycopy", desc := "(Ljava/lang/Object;ILjava/lang/Object;II)V" } : Jvm.MethodName)) ∈ xg := xg_t (i := 168) (by decide +kernel) (by decide +kernel)
theorem xw_167 : (Jvm.Cond.static ({ cls := "java/lang/System", name := "arraycopy", desc := "(Ljava/lang/Object;ILjava/lang/Object;II)V" } : Jvm.MethodName)) ∈ xg := xg_t (i := 167) (by decide +kernel) (by decide +kernel)
theorem xw_17 : (Jvm.Cond.initialized "java/lang/System") ∈ xg := xg_t (i := 17) (by decide +kernel) (by decide +kernel)
def wp_Al_fastRemove (post : Int32 → Int32 → (Nat → Option Nat) → Prop) (ad : Nat → Nat)  (RV : Nat → Prop) (grs : Nat → Nat → Int32) (grf : Nat → Nat → Int32) (grc : Nat → Nat → Int32) (gna : Nat → Int32) (nE : Nat) (lz : Int32) (mo : Int32) (ec : Nat → Option Nat) (ri : Int32) : Prop :=
∀ x_1 : Int32, x_1 = lz - 1 →
xj (fun (v_2 : Int32 × Int32 × (Nat → Option Nat)) =>
vp_in x_1 nE ∧
∀ ec_4 : Nat → Option Nat, ec_4 = va_up v_2.2.2 (Int32.toNatClampNeg x_1) none →
post x_1 v_2.2.1 ec_4) (fun (J_3 : Int32 × Int32 × (Nat → Option Nat) → Prop) =>
(((lz - 1) ≤ ri →
J_3 (lz, mo + 1, ec)) ∧ (¬ (lz - 1) ≤ ri →
¬ (ri + 1) < 0 ∧ ¬ ri < 0 ∧ ¬ (x_1 - ri) < 0 ∧ (Int32.toNatClampNeg (ri + 1)) + (Int32.toNatClampNeg (x_1 - ri)) ≤ nE ∧ (Int32.toNatClampNeg ri) + (Int32.toNatClampNeg (x_1 - ri)) ≤ nE ∧ (∀ i9 : Nat, i9 < (Int32.toNatClampNeg (x_1 - ri)) → ∀ y9 : Nat, ec ((Int32.toNatClampNeg (ri + 1)) + i9) = some y9 → ∃ j9 : Nat, RV j9 ∧ y9 = ad j9) ∧
∀ ec_5 : Nat → Option Nat, ec_5 = va_cpy ec ec (Int32.toNatClampNeg (ri + 1)) (Int32.toNatClampNeg ri) (Int32.toNatClampNeg (x_1 - ri)) →
J_3 (lz, mo + 1, ec_5))))
abbrev rm_Al_fastRemove : Room := { frames := 1, cells := 0, slots := 0, locals := 40 }
set_option maxHeartbeats 4000000 in
set_option maxRecDepth 100000 in
theorem c_Al_fastRemove {l : Launch} {D : va_G} {ad : Nat → Nat} (CE : Int32 → Int32 → (Nat → Option Nat) → Nat → Option va_E) {cI cZ cJ cO : ClassId} {iL : Nat} {iE : Nat} {RV : Nat → Prop} {grs : Nat → Nat → Int32} {grf : Nat → Nat → Int32} {grc : Nat → Nat → Int32} {gna : Nat → Int32} {nE : Nat} {t0 mi : Nat} (k_L : ∀ (lz : Int32) (mo : Int32) (ec : Nat → Option Nat), (CE lz mo ec) iL = some (.inr (5, [.ref (ad iE), .int lz, .int mo]))) (k_E : ∀ (lz : Int32) (mo : Int32) (ec : Nat → Option Nat), (CE lz mo ec) iE = some (.inl (cO, nE, .inr (.inr (.inr (.inr ec)))))) (kf_U : ∀ (lz : Int32) (mo : Int32) (ec : Nat → Option Nat) (ix : Nat), RV ix → (CE lz mo ec) ix = some (.inr (3, [.ref (ad (ix + 1)), .ref (ad (ix + 2)), .ref (ad (ix + 3)), .int (gna ix)]))) (kf_A : ∀ (lz : Int32) (mo : Int32) (ec : Nat → Option Nat) (ix : Nat), RV ix → (CE lz mo ec) (ix + 1) = some (.inl (cI, 4, .inl (grs ix)))) (kf_B : ∀ (lz : Int32) (mo : Int32) (ec : Nat → Option Nat) (ix : Nat), RV ix → (CE lz mo ec) (ix + 2) = some (.inl (cI, 4, .inl (grf ix)))) (kf_C : ∀ (lz : Int32) (mo : Int32) (ec : Nat → Option Nat) (ix : Nat), RV ix → (CE lz mo ec) (ix + 3) = some (.inl (cI, 4, .inl (grc ix)))) (u_L : ∀ (lz : Int32) (mo : Int32) (ec : Nat → Option Nat) (lz' : Int32) (mo' : Int32), va_up (CE lz mo ec) iL (some (.inr (5, [.ref (ad iE), .int lz', .int mo']))) = (CE lz' mo' ec)) (u_E : ∀ (lz : Int32) (mo : Int32) (ec : Nat → Option Nat) (ec' : Nat → Option Nat), va_up (CE lz mo ec) iE (some (.inl (cO, nE, .inr (.inr (.inr (.inr ec')))))) = (CE lz mo ec')) {post : Int32 → Int32 → (Nat → Option Nat) → Prop} {lz : Int32} {mo : Int32} {ec : Nat → Option Nat} {ri : Int32} (h : wp_Al_fastRemove post ad RV grs grf grc gna nE lz mo ec ri) : ∀ sz, Met l y_Al_fastRemove (Cond.code y_Al_fastRemove b_Al_fastRemove 4 none :: xg) rm_Al_fastRemove (xq_Pc t0 mi D xcl (xT cI cZ cJ cO) ad (CE lz mo ec) sz [.ref (ad iL), .ref (ad iE), .int ri]) (va_Qv (fun u : Int32 × Int32 × (Nat → Option Nat) => post u.1 u.2.1 u.2.2) (xm_B D xcl (xT cI cZ cJ cO) (xm_A ad (CE lz mo ec) sz) (fun _ => ad) (fun u : Int32 × Int32 × (Nat → Option Nat) => CE u.1 u.2.1 u.2.2)) (xm_A ad (CE lz mo ec) sz)) 0 0 (xm_A ad (CE lz mo ec) sz) := by
  refine xq_ofW (cc := b_Al_fastRemove) (maxL := 4) (ret := none) (by decide) rfl (Nat.le_of_ble_eq_true rfl) ?_
  intro p e s m args below meth c ls QQ hQQ hT hx hb hml hr hown hlk hnm hts hl hw
  have hl : lv_has ls 4 [(0, .ref (ad iL)), (1, .ref (ad iE)), (2, .int ri)] := hl
  unfold wp_Al_fastRemove at h
  refine lv_aload_n hx hb d_Al_fastRemove_0 rfl (lv_at hl 0 rfl) ?_
  refine lv_dup hx hb d_Al_fastRemove_1 rfl ?_
  refine xm_get (D := D) (v := .int mo) (C := R_Al) (T := F_Al) (N := 3) hx hb hts (fun w h => List.mem_cons_of_mem _ (i_Al w h)) hown hw (k_L lz mo ec) rfl 2 (by decide) (hts _ (List.mem_cons_of_mem _ xw_46)) (fun _ h9 => u_same (hts _ (List.mem_cons_of_mem _ xw_47)) _ h9) rfl d_Al_fastRemove_2 ?_
  refine lv_iconst (v := 1) hx hb d_Al_fastRemove_5 (by decide) ?_
  refine lv_iadd hx hb d_Al_fastRemove_6 ?_
  refine xm_put (D := D) (v := .int (mo + 1)) (ty := .int) (C := R_Al) (T := F_Al) (N := 3) hx hb hts (fun w h => List.mem_cons_of_mem _ (i_Al w h)) t_Al o_Al n_Al hown hw (k_L lz mo ec) rfl 2 (by decide) (hts _ (List.mem_cons_of_mem _ xw_46)) (fun _ h9 => u_same (hts _ (List.mem_cons_of_mem _ xw_47)) _ h9) rfl (by decide +kernel) rfl rfl (Nat.le_of_ble_eq_true rfl) d_Al_fastRemove_7 (fun H locs hw => ?_)
  have hw : xm_W D xcl (xT cI cZ cJ cO) (xm_A ad (CE lz mo ec) s.heap.size) ad (CE lz (mo + 1) ec) s s.heap H locs := xm_W.cast (u_L lz mo ec lz (mo + 1)) hw
  refine lv_aload_n hx hb d_Al_fastRemove_10 rfl (lv_at hl 0 rfl) ?_
  refine xm_get (D := D) (v := .int lz) (C := R_Al) (T := F_Al) (N := 3) hx hb hts (fun w h => List.mem_cons_of_mem _ (i_Al w h)) hown hw (k_L lz (mo + 1) ec) rfl 1 (by decide) (hts _ (List.mem_cons_of_mem _ xw_44)) (fun _ h9 => h9) rfl d_Al_fastRemove_11 ?_
  refine lv_iconst (v := 1) hx hb d_Al_fastRemove_14 (by decide) ?_
  refine lv_isub hx hb d_Al_fastRemove_15 ?_
  refine lv_dup hx hb d_Al_fastRemove_16 rfl ?_
  refine lv_topi (fun x_1 ex_1 => ?_)
  have h := h x_1 ex_1
  refine lv_istore_n (lv' := [(3, .int x_1), (0, .ref (ad iL)), (1, .ref (ad iE)), (2, .int ri)]) hx hb d_Al_fastRemove_17 rfl hl (by decide) rfl (fun ls hl => ?_)
  refine lv_iload_n hx hb d_Al_fastRemove_18 rfl (lv_at hl 3 rfl) ?_
  refine xj_use h (fun (v_2 : Int32 × Int32 × (Nat → Option Nat)) => ∀ (H : Heap) (locs : List Loc) (ls : Array Slot), xm_W D xcl (xT cI cZ cJ cO) (xm_A ad (CE lz mo ec) s.heap.size) ad (CE v_2.1 v_2.2.1 v_2.2.2) s s.heap H locs → lv_has ls 4 [(0, .ref (ad iL)), (1, .ref (ad iE)), (3, .int x_1)] → W p l e rm_Al_fastRemove s m args below meth c H locs 0 0 QQ (F0 m 34 ls [])) (fun v_2 h H locs ls hw hl => ?_) (fun J_3 hJ_3 h => ?_)
  · refine lv_aload_n hx hb d_Al_fastRemove_34 rfl (lv_at hl 1 rfl) ?_
    refine lv_aload_n hx hb d_Al_fastRemove_35 rfl (lv_at hl 0 rfl) ?_
    refine lv_iload_n hx hb d_Al_fastRemove_36 rfl (lv_at hl 2 rfl) ?_
    refine lv_dup_x1 hx hb d_Al_fastRemove_37 rfl rfl ?_
    refine xm_put (D := D) (v := .int x_1) (ty := .int) (C := R_Al) (T := F_Al) (N := 3) hx hb hts (fun w h => List.mem_cons_of_mem _ (i_Al w h)) t_Al o_Al n_Al hown hw (k_L v_2.1 v_2.2.1 v_2.2.2) rfl 1 (by decide) (hts _ (List.mem_cons_of_mem _ xw_44)) (fun _ h9 => h9) rfl (by decide +kernel) rfl rfl (Nat.le_of_ble_eq_true rfl) d_Al_fastRemove_38 (fun H locs hw => ?_)
    have hw : xm_W D xcl (xT cI cZ cJ cO) (xm_A ad (CE lz mo ec) s.heap.size) ad (CE x_1 v_2.2.1 v_2.2.2) s s.heap H locs := xm_W.cast (u_L v_2.1 v_2.2.1 v_2.2.2 x_1 v_2.2.1) hw
    refine lv_null hx hb d_Al_fastRemove_41 ?_
    obtain ⟨hin, h⟩ := h
    refine xa_aastN hx hb hw 3 (k_E x_1 v_2.2.1 v_2.2.2) rfl hin d_Al_fastRemove_42 (fun H locs hw => ?_)
    have hw : xm_W D xcl (xT cI cZ cJ cO) (xm_A ad (CE lz mo ec) s.heap.size) ad (CE x_1 v_2.2.1 (va_up v_2.2.2 (Int32.toNatClampNeg x_1) none)) s s.heap H locs := xm_W.cast (u_E x_1 v_2.2.1 v_2.2.2 (va_up v_2.2.2 (Int32.toNatClampNeg x_1) none)) hw
    obtain ⟨ec_4, eec_4⟩ : ∃ z : Nat → Option Nat, z = va_up v_2.2.2 (Int32.toNatClampNeg x_1) none := ⟨_, rfl⟩
    have h := h ec_4 eec_4
    rw [← eec_4] at hw
    subst hQQ
    exact xm_vret hx hb hr hlk hw (x_1, v_2.2.1, ec_4) rfl rfl h d_Al_fastRemove_43
  · refine lv_icmp_le (tgt := 34) hx hb d_Al_fastRemove_19 (by decide) (fun hc => ?_) (fun hc => ?_)
    · have h := h.1 hc
      exact hJ_3 (lz, mo + 1, ec) h _ _ _ hw (lv_sub hl [1, 2, 0] rfl)
    · have h := h.2 hc
      refine lv_aload_n hx hb d_Al_fastRemove_22 rfl (lv_at hl 2 rfl) ?_
      refine lv_iload_n hx hb d_Al_fastRemove_23 rfl (lv_at hl 3 rfl) ?_
      refine lv_iconst (v := 1) hx hb d_Al_fastRemove_24 (by decide) ?_
      refine lv_iadd hx hb d_Al_fastRemove_25 ?_
      refine lv_aload_n hx hb d_Al_fastRemove_26 rfl (lv_at hl 2 rfl) ?_
      refine lv_iload_n hx hb d_Al_fastRemove_27 rfl (lv_at hl 3 rfl) ?_
      refine lv_iload_n hx hb d_Al_fastRemove_28 rfl (lv_at hl 0 rfl) ?_
      refine lv_iload_n hx hb d_Al_fastRemove_29 rfl (lv_at hl 3 rfl) ?_
      refine lv_isub hx hb d_Al_fastRemove_30 ?_
      obtain ⟨hk1, hk2, hk3, hk4, hk5, hk6, h⟩ := h
      refine xa_copy (r := (R_Ru, F_Ru, 4)) hx hb (hml.trans hl.1.symm) hown (hts _ (List.mem_cons_of_mem _ xw_166)) (hts _ (List.mem_cons_of_mem _ xw_168)) (hts _ (List.mem_cons_of_mem _ xw_167)) (hts _ (List.mem_cons_of_mem _ xw_17)) hw 3 (k_E lz (mo + 1) ec) (k_E lz (mo + 1) ec) rfl (show xcl[3]? = _ from rfl) hT.2.2.2.1 hk1 hk2 hk3 hk4 hk5 (fun i9 g9 y9 z9 => by obtain ⟨j9, a9, b9⟩ := hk6 i9 g9 y9 z9; exact ⟨j9, _, b9, kf_U lz (mo + 1) ec j9 a9⟩) (by decide) (Nat.le_of_ble_eq_true rfl) d_Al_fastRemove_31 (fun H locs hw => ?_)
      have hw : xm_W D xcl (xT cI cZ cJ cO) (xm_A ad (CE lz mo ec) s.heap.size) ad (CE lz (mo + 1) (va_cpy ec ec (Int32.toNatClampNeg (ri + 1)) (Int32.toNatClampNeg ri) (Int32.toNatClampNeg (x_1 - ri)))) s s.heap H locs := xm_W.cast (u_E lz (mo + 1) ec (va_cpy ec ec (Int32.toNatClampNeg (ri + 1)) (Int32.toNatClampNeg ri) (Int32.toNatClampNeg (x_1 - ri)))) hw
      obtain ⟨ec_5, eec_5⟩ : ∃ z : Nat → Option Nat, z = va_cpy ec ec (Int32.toNatClampNeg (ri + 1)) (Int32.toNatClampNeg ri) (Int32.toNatClampNeg (x_1 - ri)) := ⟨_, rfl⟩
      have h := h ec_5 eec_5
      rw [← eec_5] at hw
      exact hJ_3 (lz, mo + 1, ec_5) h _ _ _ hw (lv_sub hl [1, 2, 0] rfl)
theorem xw_165 : (Jvm.Cond.code ({ cls := "java/util/ArrayList", name := "fastRemove", desc := "([Ljava/lang/Object;I)V" } : Jvm.MethodName) prog_21_method_39_code (4 : Nat) (Option.none : Option Jvm.ClassFile.FieldType)) ∈ xg := xg_t (i := 165) (by decide +kernel) (by decide +kernel)
theorem xw_162 : (Jvm.Cond.methodLink "java/util/ArrayList" (144 : Nat) ({ cls := "java/util/ArrayList", name := "fastRemove", desc := "([Ljava/lang/Object;I)V" } : Jvm.MethodName)) ∈ xg := xg_t (i := 162) (by decide +kernel) (by decide +kernel)
theorem xw_164 : (Jvm.Cond.instanceMethod ({ cls := "java/util/ArrayList", name := "fastRemove", desc := "([Ljava/lang/Object;I)V" } : Jvm.MethodName)) ∈ xg := xg_t (i := 164) (by decide +kernel) (by decide +kernel)
theorem xw_p0 : Cond.selects "java/util/ArrayList" ⟨"java/util/ArrayList", "fastRemove", "([Ljava/lang/Object;I)V"⟩ ⟨"java/util/ArrayList", "fastRemove", "([Ljava/lang/Object;I)V"⟩ ∈ xg := xg_p (q := (⟨"java/util/ArrayList", "fastRemove", "([Ljava/lang/Object;I)V"⟩, 3)) (i := 0) (by decide +kernel) (by decide +kernel)
def wp_Al_remove (post : Nat → Int32 → Int32 → (Nat → Option Nat) → Prop) (ad : Nat → Nat)  (RV : Nat → Prop) (grs : Nat → Nat → Int32) (grf : Nat → Nat → Int32) (grc : Nat → Nat → Int32) (gna : Nat → Int32) (nE : Nat) (lz : Int32) (mo : Int32) (ec : Nat → Option Nat) (ri : Int32) : Prop :=
wp_Ob_checkIndex (fun r_1 =>
vp_in ri nE ∧
∃ ix_3 : Nat, ec (Int32.toNatClampNeg ri) = some (ad ix_3) ∧
wp_Al_fastRemove (fun lz_6 mo_7 ec_8 =>
post ix_3 lz_6 mo_7 ec_8) ad RV grs grf grc gna nE lz mo ec ri) ri lz
abbrev rm_Al_remove : Room := { frames := 2, cells := 0, slots := 0, locals := 63 }
set_option maxHeartbeats 4000000 in
set_option maxRecDepth 100000 in
theorem c_Al_remove {l : Launch} {D : va_G} {ad : Nat → Nat} (CE : Int32 → Int32 → (Nat → Option Nat) → Nat → Option va_E) {cI cZ cJ cO : ClassId} {iL : Nat} {iE : Nat} {RV : Nat → Prop} {grs : Nat → Nat → Int32} {grf : Nat → Nat → Int32} {grc : Nat → Nat → Int32} {gna : Nat → Int32} {nE : Nat} {t0 mi : Nat} (k_L : ∀ (lz : Int32) (mo : Int32) (ec : Nat → Option Nat), (CE lz mo ec) iL = some (.inr (5, [.ref (ad iE), .int lz, .int mo]))) (k_E : ∀ (lz : Int32) (mo : Int32) (ec : Nat → Option Nat), (CE lz mo ec) iE = some (.inl (cO, nE, .inr (.inr (.inr (.inr ec)))))) (kf_U : ∀ (lz : Int32) (mo : Int32) (ec : Nat → Option Nat) (ix : Nat), RV ix → (CE lz mo ec) ix = some (.inr (3, [.ref (ad (ix + 1)), .ref (ad (ix + 2)), .ref (ad (ix + 3)), .int (gna ix)]))) (kf_A : ∀ (lz : Int32) (mo : Int32) (ec : Nat → Option Nat) (ix : Nat), RV ix → (CE lz mo ec) (ix + 1) = some (.inl (cI, 4, .inl (grs ix)))) (kf_B : ∀ (lz : Int32) (mo : Int32) (ec : Nat → Option Nat) (ix : Nat), RV ix → (CE lz mo ec) (ix + 2) = some (.inl (cI, 4, .inl (grf ix)))) (kf_C : ∀ (lz : Int32) (mo : Int32) (ec : Nat → Option Nat) (ix : Nat), RV ix → (CE lz mo ec) (ix + 3) = some (.inl (cI, 4, .inl (grc ix)))) (u_L : ∀ (lz : Int32) (mo : Int32) (ec : Nat → Option Nat) (lz' : Int32) (mo' : Int32), va_up (CE lz mo ec) iL (some (.inr (5, [.ref (ad iE), .int lz', .int mo']))) = (CE lz' mo' ec)) (u_E : ∀ (lz : Int32) (mo : Int32) (ec : Nat → Option Nat) (ec' : Nat → Option Nat), va_up (CE lz mo ec) iE (some (.inl (cO, nE, .inr (.inr (.inr (.inr ec')))))) = (CE lz mo ec')) {post : Nat → Int32 → Int32 → (Nat → Option Nat) → Prop} {lz : Int32} {mo : Int32} {ec : Nat → Option Nat} {ri : Int32} (h : wp_Al_remove post ad RV grs grf grc gna nE lz mo ec ri) : ∀ sz, Met l y_Al_remove (Cond.code y_Al_remove b_Al_remove 4 (some (.object "java/lang/Object")) :: xg) rm_Al_remove (xq_Pc t0 mi D xcl (xT cI cZ cJ cO) ad (CE lz mo ec) sz [.ref (ad iL), .int ri]) (va_Qr (fun u : Nat × Int32 × Int32 × (Nat → Option Nat) => post u.1 u.2.1 u.2.2.1 u.2.2.2) (xm_Br D xcl (xT cI cZ cJ cO) (xm_A ad (CE lz mo ec) sz) (fun _ => ad) (fun u : Nat × Int32 × Int32 × (Nat → Option Nat) => CE u.2.1 u.2.2.1 u.2.2.2) (fun u => u.1)) (xm_A ad (CE lz mo ec) sz)) 0 0 (xm_A ad (CE lz mo ec) sz) := by
  refine xq_ofW (cc := b_Al_remove) (maxL := 4) (ret := (some (.object "java/lang/Object"))) (by decide) rfl (Nat.le_of_ble_eq_true rfl) ?_
  intro p e s m args below meth c ls QQ hQQ hT hx hb hml hr hown hlk hnm hts hl hw
  have hl : lv_has ls 4 [(0, .ref (ad iL)), (1, .int ri)] := hl
  unfold wp_Al_remove at h
  refine lv_iload_n hx hb d_Al_remove_0 rfl (lv_at hl 1 rfl) ?_
  refine lv_aload_n hx hb d_Al_remove_1 rfl (lv_at hl 0 rfl) ?_
  refine xm_get (D := D) (v := .int lz) (C := R_Al) (T := F_Al) (N := 3) hx hb hts (fun w h => List.mem_cons_of_mem _ (i_Al w h)) hown hw (k_L lz mo ec) rfl 1 (by decide) (hts _ (List.mem_cons_of_mem _ xw_44)) (fun _ h9 => h9) rfl d_Al_remove_2 ?_
  refine xm_calli (ua := fun _ => ad) (va_runS (As := [.int ri, .int lz]) (rest := []) ⟨hx, hb, hml, hown, hts⟩ (c_Ob_checkIndex (D := D) (ad := ad) (CE := ((CE lz mo ec)))   h _) (xg_cwS 2 hts xw_158 xw_156 xw_157 xw_18 rfl rfl (by decide +kernel) ⟨Nat.le_of_ble_eq_true rfl, Nat.le_of_ble_eq_true rfl⟩) (xm_pre hw _) rfl rfl hl.1 rfl (lv_room (Nat.le_of_ble_eq_true rfl)) d_Al_remove_5 ⟨Nat.le_of_ble_eq_true rfl, Nat.le_of_ble_eq_true rfl⟩) hw (fun r_1 _ H locs h hw => ?_)
  refine lv_pop hx hb d_Al_remove_8 rfl ?_
  refine lv_aload_n hx hb d_Al_remove_9 rfl (lv_at hl 0 rfl) ?_
  refine xm_get (D := D) (v := .ref (ad iE)) (C := R_Al) (T := F_Al) (N := 3) hx hb hts (fun w h => List.mem_cons_of_mem _ (i_Al w h)) hown hw (k_L lz mo ec) rfl 0 (by decide) (hts _ (List.mem_cons_of_mem _ xw_43)) (fun _ h9 => h9) rfl d_Al_remove_10 ?_
  refine lv_astore_n (lv' := [(2, .ref (ad iE)), (0, .ref (ad iL)), (1, .int ri)]) hx hb d_Al_remove_13 rfl hl (by decide) rfl (fun ls hl => ?_)
  refine lv_aload_n hx hb d_Al_remove_14 rfl (lv_at hl 0 rfl) ?_
  refine lv_iload_n hx hb d_Al_remove_15 rfl (lv_at hl 2 rfl) ?_
  obtain ⟨hin, ix_3, eix_3, h⟩ := h
  refine xm_aaldS hx hb hw 3 (k_E lz mo ec) rfl hin eix_3 d_Al_remove_16 ?_
  refine lv_astore_n (lv' := [(3, .ref (ad ix_3)), (2, .ref (ad iE)), (0, .ref (ad iL)), (1, .int ri)]) hx hb d_Al_remove_17 rfl hl (by decide) rfl (fun ls hl => ?_)
  refine lv_aload_n hx hb d_Al_remove_18 rfl (lv_at hl 2 rfl) ?_
  refine lv_aload_n hx hb d_Al_remove_19 rfl (lv_at hl 1 rfl) ?_
  refine lv_iload_n hx hb d_Al_remove_20 rfl (lv_at hl 3 rfl) ?_
  refine xm_callv (ua := fun _ => ad) (va_runV (As := [.ref (ad iE), .int ri]) (rest := []) ⟨hx, hb, hml, hown, hts⟩ (c_Al_fastRemove (D := D) (ad := ad) (CE := (fun lz mo ec => (CE lz mo ec)))  (fun lz mo ec => k_L lz mo ec) (fun lz mo ec => k_E lz mo ec) (fun lz mo ec => kf_U lz mo ec) (fun lz mo ec => kf_A lz mo ec) (fun lz mo ec => kf_B lz mo ec) (fun lz mo ec => kf_C lz mo ec) (fun lz mo ec lz' mo' => u_L lz mo ec lz' mo') (fun lz mo ec ec' => u_E lz mo ec ec') h _) (xg_cwV 2 hts xw_165 xw_162 xw_164 xw_p0 xw_4 rfl rfl (by decide +kernel) ⟨Nat.le_of_ble_eq_true rfl, Nat.le_of_ble_eq_true rfl⟩) (xq_preV hw hT (k_L lz mo ec) rfl _) rfl rfl hl.1 rfl (lv_room (Nat.le_of_ble_eq_true rfl)) d_Al_remove_21 ⟨Nat.le_of_ble_eq_true rfl, Nat.le_of_ble_eq_true rfl⟩) hw (fun u_5 H locs h hw => ?_)
  obtain ⟨lz_6, elz_6⟩ : ∃ z, z = u_5.1 := ⟨_, rfl⟩
  obtain ⟨mo_7, emo_7⟩ : ∃ z, z = u_5.2.1 := ⟨_, rfl⟩
  obtain ⟨ec_8, eec_8⟩ : ∃ z, z = u_5.2.2 := ⟨_, rfl⟩
  try dsimp only at h hw
  rw [← elz_6, ← emo_7, ← eec_8] at h hw
  refine lv_aload_n hx hb d_Al_remove_24 rfl (lv_at hl 0 rfl) ?_
  subst hQQ
  exact xm_aret hx hb hr hlk hw (ix_3, lz_6, mo_7, ec_8) rfl rfl rfl h d_Al_remove_25
theorem xw_155 : (Jvm.Cond.code ({ cls := "java/util/ArrayList", name := "remove", desc := "(I)Ljava/lang/Object;" } : Jvm.MethodName) prog_21_method_29_code (4 : Nat) (Option.some (Jvm.ClassFile.FieldType.object "java/lang/Object"))) ∈ xg := xg_t (i := 155) (by decide +kernel) (by decide +kernel)
theorem xw_152 : (Jvm.Cond.methodLink "QuestionDesk" (116 : Nat) ({ cls := "java/util/ArrayList", name := "remove", desc := "(I)Ljava/lang/Object;" } : Jvm.MethodName)) ∈ xg := xg_t (i := 152) (by decide +kernel) (by decide +kernel)
theorem xw_153 : (Jvm.Cond.instanceMethod ({ cls := "java/util/ArrayList", name := "remove", desc := "(I)Ljava/lang/Object;" } : Jvm.MethodName)) ∈ xg := xg_t (i := 153) (by decide +kernel) (by decide +kernel)
theorem xw_154 : (Jvm.Cond.selects "java/util/ArrayList" ({ cls := "java/util/ArrayList", name := "remove", desc := "(I)Ljava/lang/Object;" } : Jvm.MethodName) ({ cls := "java/util/ArrayList", name := "remove", desc := "(I)Ljava/lang/Object;" } : Jvm.MethodName)) ∈ xg := xg_t (i := 154) (by decide +kernel) (by decide +kernel)
def wp_Qd_take (post : Int32 → Int32 → Int32 → (Nat → Option Nat) → Prop) (ad : Nat → Nat)  (RV : Nat → Prop) (grs : Nat → Nat → Int32) (grf : Nat → Nat → Int32) (grc : Nat → Nat → Int32) (gna : Nat → Int32) (nE : Nat) (lz : Int32) (mo : Int32) (ec : Nat → Option Nat) (tr : Int32) : Prop :=
xj (fun (v_1 : Unit) =>
post 0 lz mo ec) (fun (J_2 : Unit → Prop) =>
((tr < 0 →
J_2 ()) ∧ (¬ tr < 0 →
wp_Al_size (fun r_3 =>
((tr < r_3 →
wp_Al_remove (fun ix_10 lz_7 mo_8 ec_9 =>
post 1 lz_7 mo_8 ec_9) ad RV grs grf grc gna nE lz mo ec tr) ∧ (¬ tr < r_3 →
J_2 ()))) lz)))
abbrev rm_Qd_take : Room := { frames := 3, cells := 0, slots := 0, locals := 86 }
set_option maxHeartbeats 4000000 in
set_option maxRecDepth 100000 in
theorem c_Qd_take {l : Launch} {D : va_G} {ad : Nat → Nat} (CE : Int32 → Int32 → (Nat → Option Nat) → Nat → Option va_E) {cI cZ cJ cO : ClassId} {iQ : Nat} {ipl : Nat} {ibr : Nat} {iL : Nat} {iP : Nat} {iM : Nat} {iU : Nat} {ipt : Nat} {iE : Nat} {RV : Nat → Prop} {grs : Nat → Nat → Int32} {grf : Nat → Nat → Int32} {grc : Nat → Nat → Int32} {gna : Nat → Int32} {nE : Nat} {np : Int32} {bg : Value} {rw : Int32} {aq : Int32} {pn : Int32} {t0 mi : Nat} (k_Q : ∀ (lz : Int32) (mo : Int32) (ec : Nat → Option Nat), (CE lz mo ec) iQ = some (.inr (0, [.ref (ad ipl), .ref (ad ibr), .int np, .ref (ad iL), bg, .ref (ad iP), .ref (ad iM), .ref (ad iU), .ref (ad ipt), .int rw, .int aq, .int pn]))) (k_L : ∀ (lz : Int32) (mo : Int32) (ec : Nat → Option Nat), (CE lz mo ec) iL = some (.inr (5, [.ref (ad iE), .int lz, .int mo]))) (k_E : ∀ (lz : Int32) (mo : Int32) (ec : Nat → Option Nat), (CE lz mo ec) iE = some (.inl (cO, nE, .inr (.inr (.inr (.inr ec)))))) (kf_U : ∀ (lz : Int32) (mo : Int32) (ec : Nat → Option Nat) (ix : Nat), RV ix → (CE lz mo ec) ix = some (.inr (3, [.ref (ad (ix + 1)), .ref (ad (ix + 2)), .ref (ad (ix + 3)), .int (gna ix)]))) (kf_A : ∀ (lz : Int32) (mo : Int32) (ec : Nat → Option Nat) (ix : Nat), RV ix → (CE lz mo ec) (ix + 1) = some (.inl (cI, 4, .inl (grs ix)))) (kf_B : ∀ (lz : Int32) (mo : Int32) (ec : Nat → Option Nat) (ix : Nat), RV ix → (CE lz mo ec) (ix + 2) = some (.inl (cI, 4, .inl (grf ix)))) (kf_C : ∀ (lz : Int32) (mo : Int32) (ec : Nat → Option Nat) (ix : Nat), RV ix → (CE lz mo ec) (ix + 3) = some (.inl (cI, 4, .inl (grc ix)))) (u_L : ∀ (lz : Int32) (mo : Int32) (ec : Nat → Option Nat) (lz' : Int32) (mo' : Int32), va_up (CE lz mo ec) iL (some (.inr (5, [.ref (ad iE), .int lz', .int mo']))) = (CE lz' mo' ec)) (u_E : ∀ (lz : Int32) (mo : Int32) (ec : Nat → Option Nat) (ec' : Nat → Option Nat), va_up (CE lz mo ec) iE (some (.inl (cO, nE, .inr (.inr (.inr (.inr ec')))))) = (CE lz mo ec')) {post : Int32 → Int32 → Int32 → (Nat → Option Nat) → Prop} {lz : Int32} {mo : Int32} {ec : Nat → Option Nat} {tr : Int32} (h : wp_Qd_take post ad RV grs grf grc gna nE lz mo ec tr) : ∀ sz, Met l y_Qd_take (Cond.code y_Qd_take b_Qd_take 2 (some .boolean) :: xg) rm_Qd_take (xq_Pc t0 mi D xcl (xT cI cZ cJ cO) ad (CE lz mo ec) sz [.ref (ad iQ), .int tr]) (va_Qi (fun (r : Int32) (u : Int32 × Int32 × (Nat → Option Nat)) => post r u.1 u.2.1 u.2.2) (xm_B D xcl (xT cI cZ cJ cO) (xm_A ad (CE lz mo ec) sz) (fun _ => ad) (fun u : Int32 × Int32 × (Nat → Option Nat) => CE u.1 u.2.1 u.2.2)) (xm_A ad (CE lz mo ec) sz)) 0 0 (xm_A ad (CE lz mo ec) sz) := by
  refine xq_ofW (cc := b_Qd_take) (maxL := 2) (ret := (some .boolean)) (by decide) rfl (Nat.le_of_ble_eq_true rfl) ?_
  intro p e s m args below meth c ls QQ hQQ hT hx hb hml hr hown hlk hnm hts hl hw
  have hl : lv_has ls 2 [(0, .ref (ad iQ)), (1, .int tr)] := hl
  unfold wp_Qd_take at h
  refine lv_iload_n hx hb d_Qd_take_0 rfl (lv_at hl 1 rfl) ?_
  refine xj_use h (fun (v_1 : Unit) => ∀ (H : Heap) (locs : List Loc) (ls : Array Slot), xm_W D xcl (xT cI cZ cJ cO) (xm_A ad (CE lz mo ec) s.heap.size) ad (CE lz mo ec) s s.heap H locs → lv_has ls 2 [] → W p l e rm_Qd_take s m args below meth c H locs 0 0 QQ (F0 m 15 ls [])) (fun v_1 h H locs ls hw hl => ?_) (fun J_2 hJ_2 h => ?_)
  · refine lv_iconst (v := 0) hx hb d_Qd_take_15 (by decide) ?_
    subst hQQ
    exact xm_zret hx hb hr hlk rfl hw (lz, mo, ec) rfl rfl h d_Qd_take_16
  · refine lv_if_lt (tgt := 15) hx hb d_Qd_take_1 (by decide) (fun hc => ?_) (fun hc => ?_)
    · have h := h.1 hc
      exact hJ_2 () h _ _ _ hw (lv_sub hl [] rfl)
    · have h := h.2 hc
      refine lv_iload_n hx hb d_Qd_take_4 rfl (lv_at hl 1 rfl) ?_
      refine lv_aload_n hx hb d_Qd_take_5 rfl (lv_at hl 0 rfl) ?_
      refine xm_get (D := D) (v := .ref (ad iL)) (C := R_Qd) (T := F_Qd) (N := 12) hx hb hts (fun w h => List.mem_cons_of_mem _ (i_Qd w h)) hown hw (k_Q lz mo ec) rfl 3 (by decide) (hts _ (List.mem_cons_of_mem _ xw_110)) (fun _ h9 => h9) rfl d_Qd_take_6 ?_
      refine xm_calli (ua := fun _ => ad) (va_runV (As := []) (rest := [.int tr]) ⟨hx, hb, hml, hown, hts⟩ (c_Al_size (D := D) (ad := ad) (CE := ((CE lz mo ec)))  (k_L lz mo ec) h _) (xg_cwV 0 hts xw_151 xw_148 xw_149 xw_150 xw_4 rfl rfl (by decide +kernel) ⟨Nat.le_of_ble_eq_true rfl, Nat.le_of_ble_eq_true rfl⟩) (xm_preV hw (k_L lz mo ec) rfl _) rfl rfl hl.1 rfl (lv_room (Nat.le_of_ble_eq_true rfl)) d_Qd_take_9 ⟨Nat.le_of_ble_eq_true rfl, Nat.le_of_ble_eq_true rfl⟩) hw (fun r_3 _ H locs h hw => ?_)
      refine lv_icmp_lt (tgt := 17) hx hb d_Qd_take_12 (by decide) (fun hc => ?_) (fun hc => ?_)
      · have h := h.1 hc
        refine lv_aload_n hx hb d_Qd_take_17 rfl (lv_at hl 0 rfl) ?_
        refine xm_get (D := D) (v := .ref (ad iL)) (C := R_Qd) (T := F_Qd) (N := 12) hx hb hts (fun w h => List.mem_cons_of_mem _ (i_Qd w h)) hown hw (k_Q lz mo ec) rfl 3 (by decide) (hts _ (List.mem_cons_of_mem _ xw_110)) (fun _ h9 => h9) rfl d_Qd_take_18 ?_
        refine lv_iload_n hx hb d_Qd_take_21 rfl (lv_at hl 1 rfl) ?_
        refine xm_callr (ua := fun _ => ad) (va_runV (As := [.int tr]) (rest := []) ⟨hx, hb, hml, hown, hts⟩ (c_Al_remove (D := D) (ad := ad) (CE := (fun lz mo ec => (CE lz mo ec)))  (fun lz mo ec => k_L lz mo ec) (fun lz mo ec => k_E lz mo ec) (fun lz mo ec => kf_U lz mo ec) (fun lz mo ec => kf_A lz mo ec) (fun lz mo ec => kf_B lz mo ec) (fun lz mo ec => kf_C lz mo ec) (fun lz mo ec lz' mo' => u_L lz mo ec lz' mo') (fun lz mo ec ec' => u_E lz mo ec ec') h _) (xg_cwV 1 hts xw_155 xw_152 xw_153 xw_154 xw_4 rfl rfl (by decide +kernel) ⟨Nat.le_of_ble_eq_true rfl, Nat.le_of_ble_eq_true rfl⟩) (xq_preV hw hT (k_L lz mo ec) rfl _) rfl rfl hl.1 rfl (lv_room (Nat.le_of_ble_eq_true rfl)) d_Qd_take_22 ⟨Nat.le_of_ble_eq_true rfl, Nat.le_of_ble_eq_true rfl⟩) hw (fun u_6 H locs h hw => ?_)
        obtain ⟨ix_10, eix_10⟩ : ∃ z, z = u_6.1 := ⟨_, rfl⟩
        obtain ⟨lz_7, elz_7⟩ : ∃ z, z = u_6.2.1 := ⟨_, rfl⟩
        obtain ⟨mo_8, emo_8⟩ : ∃ z, z = u_6.2.2.1 := ⟨_, rfl⟩
        obtain ⟨ec_9, eec_9⟩ : ∃ z, z = u_6.2.2.2 := ⟨_, rfl⟩
        try dsimp only at h hw
        try rw [← eix_10] at h
        try rw [← eix_10] at hw
        try rw [← eix_10]
        try rw [← elz_7] at h
        try rw [← elz_7] at hw
        try rw [← elz_7]
        try rw [← emo_8] at h
        try rw [← emo_8] at hw
        try rw [← emo_8]
        try rw [← eec_9] at h
        try rw [← eec_9] at hw
        try rw [← eec_9]
        refine lv_pop hx hb d_Qd_take_25 rfl ?_
        refine lv_iconst (v := 1) hx hb d_Qd_take_26 (by decide) ?_
        subst hQQ
        exact xm_zret hx hb hr hlk rfl hw (lz_7, mo_8, ec_9) rfl rfl h d_Qd_take_27
      · have h := h.2 hc
        exact hJ_2 () h _ _ _ hw (lv_sub hl [] rfl)
def wp_Qd_take0 (post : Int32 → Prop)  (sz : Int32) (tr : Int32) : Prop :=
xj (fun (v_1 : Unit) =>
post 0) (fun (J_2 : Unit → Prop) =>
((tr < 0 →
J_2 ()) ∧ (¬ tr < 0 →
wp_Al_size (fun r_3 =>
((tr < r_3 →
False) ∧ (¬ tr < r_3 →
J_2 ()))) sz)))
abbrev rm_Qd_take0 : Room := { frames := 1, cells := 0, slots := 0, locals := 20 }
set_option maxHeartbeats 4000000 in
set_option maxRecDepth 100000 in
theorem c_Qd_take0 {l : Launch} {D : va_G} {ad : Nat → Nat} (CE : Nat → Option va_E) {cI cZ cJ cO : ClassId} {iQ : Nat} {ipl : Nat} {ibr : Nat} {iL : Nat} {iP : Nat} {iM : Nat} {iU : Nat} {ipt : Nat} {sz : Int32} {np : Int32} {bg : Value} {rw : Int32} {aq : Int32} {pn : Int32} {mo : Int32} {ev : Value} (k_Q : CE iQ = some (.inr (0, [.ref (ad ipl), .ref (ad ibr), .int np, .ref (ad iL), bg, .ref (ad iP), .ref (ad iM), .ref (ad iU), .ref (ad ipt), .int rw, .int aq, .int pn]))) (k_L : CE iL = some (.inr (5, [ev, .int sz, .int mo]))) {post : Int32 → Prop} {tr : Int32} (h : wp_Qd_take0 post sz tr) : ∀ sz, Met l y_Qd_take (Cond.code y_Qd_take b_Qd_take 2 (some .boolean) :: xg) rm_Qd_take0 (xm_Pc D xcl (xT cI cZ cJ cO) ad CE sz [.ref (ad iQ), .int tr]) (va_Qi (fun (r : Int32) (_ : Unit) => post r) (xm_B D xcl (xT cI cZ cJ cO) (xm_A ad CE sz) (fun _ => ad) (fun _ : Unit => CE)) (xm_A ad CE sz)) 0 0 (xm_A ad CE sz) := by
  refine xm_ofW (cc := b_Qd_take) (maxL := 2) (ret := (some .boolean)) (by decide) rfl (Nat.le_of_ble_eq_true rfl) ?_
  intro p e s m args below meth c ls QQ hQQ hx hb hml hr hown hlk hnm hts hl hw
  have hl : lv_has ls 2 [(0, .ref (ad iQ)), (1, .int tr)] := hl
  unfold wp_Qd_take0 at h
  refine lv_iload_n hx hb d_Qd_take_0 rfl (lv_at hl 1 rfl) ?_
  refine xj_use h (fun (v_1 : Unit) => ∀ (H : Heap) (locs : List Loc) (ls : Array Slot), xm_W D xcl (xT cI cZ cJ cO) (xm_A ad CE s.heap.size) ad CE s s.heap H locs → lv_has ls 2 [] → W p l e rm_Qd_take0 s m args below meth c H locs 0 0 QQ (F0 m 15 ls [])) (fun v_1 h H locs ls hw hl => ?_) (fun J_2 hJ_2 h => ?_)
  · refine lv_iconst (v := 0) hx hb d_Qd_take_15 (by decide) ?_
    subst hQQ
    exact xm_zret hx hb hr hlk rfl hw () rfl rfl h d_Qd_take_16
  · refine lv_if_lt (tgt := 15) hx hb d_Qd_take_1 (by decide) (fun hc => ?_) (fun hc => ?_)
    · have h := h.1 hc
      exact hJ_2 () h _ _ _ hw (lv_sub hl [] rfl)
    · have h := h.2 hc
      refine lv_iload_n hx hb d_Qd_take_4 rfl (lv_at hl 1 rfl) ?_
      refine lv_aload_n hx hb d_Qd_take_5 rfl (lv_at hl 0 rfl) ?_
      refine xm_get (D := D) (v := .ref (ad iL)) (C := R_Qd) (T := F_Qd) (N := 12) hx hb hts (fun w h => List.mem_cons_of_mem _ (i_Qd w h)) hown hw k_Q rfl 3 (by decide) (hts _ (List.mem_cons_of_mem _ xw_110)) (fun _ h9 => h9) rfl d_Qd_take_6 ?_
      refine xm_calli (ua := fun _ => ad) (va_runV (As := []) (rest := [.int tr]) ⟨hx, hb, hml, hown, hts⟩ (c_Al_size (D := D) (ad := ad) (CE := (CE))  k_L h _) (xg_cwV 0 hts xw_151 xw_148 xw_149 xw_150 xw_4 rfl rfl (by decide +kernel) ⟨Nat.le_of_ble_eq_true rfl, Nat.le_of_ble_eq_true rfl⟩) (xm_preV hw k_L rfl _) rfl rfl hl.1 rfl (lv_room (Nat.le_of_ble_eq_true rfl)) d_Qd_take_9 ⟨Nat.le_of_ble_eq_true rfl, Nat.le_of_ble_eq_true rfl⟩) hw (fun r_3 _ H locs h hw => ?_)
      refine lv_icmp_lt (tgt := 17) hx hb d_Qd_take_12 (by decide) (fun hc => ?_) (fun hc => ?_)
      · have h := h.1 hc
        exact False.elim h
      · have h := h.2 hc
        exact hJ_2 () h _ _ _ hw (lv_sub hl [] rfl)
def wp_Al_add3A (post : Int32 → (Nat → Option Nat) → Prop) (ad : Nat → Nat) (iwU : Nat) (nE : Nat) (lz : Int32) (ec : Nat → Option Nat) (ai : Int32) : Prop :=
((¬ ai = (Int32.ofNat nE) →
vp_in ai nE ∧
∀ ec_1 : Nat → Option Nat, ec_1 = va_up ec (Int32.toNatClampNeg ai) (some (ad iwU)) →
post (ai + 1) ec_1) ∧ (ai = (Int32.ofNat nE) →
False))
abbrev rm_Al_add3A : Room := { frames := 0, cells := 0, slots := 0, locals := 0 }
set_option maxHeartbeats 4000000 in
set_option maxRecDepth 100000 in
theorem c_Al_add3A {l : Launch} {D : va_G} {ad : Nat → Nat} (CE : Int32 → (Nat → Option Nat) → Nat → Option va_E) {cI cZ cJ cO : ClassId} {iL : Nat} {iE : Nat} {iwU : Nat} {nE : Nat} {mo : Int32} {w1 : Value} {w2 : Value} {w3 : Value} {w4 : Int32} {t0 mi : Nat} (k_L : ∀ (lz : Int32) (ec : Nat → Option Nat), (CE lz ec) iL = some (.inr (5, [.ref (ad iE), .int lz, .int mo]))) (k_E : ∀ (lz : Int32) (ec : Nat → Option Nat), (CE lz ec) iE = some (.inl (cO, nE, .inr (.inr (.inr (.inr ec)))))) (k_wU : ∀ (lz : Int32) (ec : Nat → Option Nat), (CE lz ec) iwU = some (.inr (3, [w1, w2, w3, .int w4]))) (u_L : ∀ (lz : Int32) (ec : Nat → Option Nat) (lz' : Int32), va_up (CE lz ec) iL (some (.inr (5, [.ref (ad iE), .int lz', .int mo]))) = (CE lz' ec)) (u_E : ∀ (lz : Int32) (ec : Nat → Option Nat) (ec' : Nat → Option Nat), va_up (CE lz ec) iE (some (.inl (cO, nE, .inr (.inr (.inr (.inr ec')))))) = (CE lz ec')) {post : Int32 → (Nat → Option Nat) → Prop} {lz : Int32} {ec : Nat → Option Nat} {ai : Int32} (h : wp_Al_add3A post ad iwU nE lz ec ai) : ∀ sz, Met l y_Al_add_ObjectObjectIV (Cond.code y_Al_add_ObjectObjectIV b_Al_add_ObjectObjectIV 4 none :: xg) rm_Al_add3A (xq_Pc t0 mi D xcl (xT cI cZ cJ cO) ad (CE lz ec) sz [.ref (ad iL), .ref (ad iwU), .ref (ad iE), .int ai]) (va_Qv (fun u : Int32 × (Nat → Option Nat) => post u.1 u.2) (xm_B D xcl (xT cI cZ cJ cO) (xm_A ad (CE lz ec) sz) (fun _ => ad) (fun u : Int32 × (Nat → Option Nat) => CE u.1 u.2)) (xm_A ad (CE lz ec) sz)) 0 0 (xm_A ad (CE lz ec) sz) := by
  refine xq_ofW (cc := b_Al_add_ObjectObjectIV) (maxL := 4) (ret := none) (by decide) rfl (Nat.le_of_ble_eq_true rfl) ?_
  intro p e s m args below meth c ls QQ hQQ hT hx hb hml hr hown hlk hnm hts hl hw
  have hl : lv_has ls 4 [(0, .ref (ad iL)), (1, .ref (ad iwU)), (2, .ref (ad iE)), (3, .int ai)] := hl
  unfold wp_Al_add3A at h
  refine lv_iload_n hx hb d_Al_add_ObjectObjectIV_0 rfl (lv_at hl 3 rfl) ?_
  refine lv_aload_n hx hb d_Al_add_ObjectObjectIV_1 rfl (lv_at hl 2 rfl) ?_
  refine xm_alen (v := Int32.ofNat nE) hx hb hw 3 (k_E lz ec) rfl rfl d_Al_add_ObjectObjectIV_2 ?_
  refine lv_icmp_ne (tgt := 11) hx hb d_Al_add_ObjectObjectIV_3 (by decide) (fun hc => ?_) (fun hc => ?_)
  · have h := h.1 hc
    refine lv_aload_n hx hb d_Al_add_ObjectObjectIV_11 rfl (lv_at hl 2 rfl) ?_
    refine lv_iload_n hx hb d_Al_add_ObjectObjectIV_12 rfl (lv_at hl 3 rfl) ?_
    refine lv_aload_n hx hb d_Al_add_ObjectObjectIV_13 rfl (lv_at hl 1 rfl) ?_
    obtain ⟨hin, h⟩ := h
    refine xa_aast (r := (R_Ru, F_Ru, 4)) hx hb hw 3 (k_E lz ec) rfl hT.2.2.2.1 (k_wU lz ec) rfl hin d_Al_add_ObjectObjectIV_14 (fun H locs hw => ?_)
    have hw : xm_W D xcl (xT cI cZ cJ cO) (xm_A ad (CE lz ec) s.heap.size) ad (CE lz (va_up ec (Int32.toNatClampNeg ai) (some (ad iwU)))) s s.heap H locs := xm_W.cast (u_E lz ec (va_up ec (Int32.toNatClampNeg ai) (some (ad iwU)))) hw
    obtain ⟨ec_1, eec_1⟩ : ∃ z : Nat → Option Nat, z = va_up ec (Int32.toNatClampNeg ai) (some (ad iwU)) := ⟨_, rfl⟩
    have h := h ec_1 eec_1
    rw [← eec_1] at hw
    refine lv_aload_n hx hb d_Al_add_ObjectObjectIV_15 rfl (lv_at hl 0 rfl) ?_
    refine lv_iload_n hx hb d_Al_add_ObjectObjectIV_16 rfl (lv_at hl 3 rfl) ?_
    refine lv_iconst (v := 1) hx hb d_Al_add_ObjectObjectIV_17 (by decide) ?_
    refine lv_iadd hx hb d_Al_add_ObjectObjectIV_18 ?_
    refine xm_put (D := D) (v := .int (ai + 1)) (ty := .int) (C := R_Al) (T := F_Al) (N := 3) hx hb hts (fun w h => List.mem_cons_of_mem _ (i_Al w h)) t_Al o_Al n_Al hown hw (k_L lz ec_1) rfl 1 (by decide) (hts _ (List.mem_cons_of_mem _ xw_44)) (fun _ h9 => h9) rfl (by decide +kernel) rfl rfl (Nat.le_of_ble_eq_true rfl) d_Al_add_ObjectObjectIV_19 (fun H locs hw => ?_)
    have hw : xm_W D xcl (xT cI cZ cJ cO) (xm_A ad (CE lz ec) s.heap.size) ad (CE (ai + 1) ec_1) s s.heap H locs := xm_W.cast (u_L lz ec_1 (ai + 1)) hw
    subst hQQ
    exact xm_vret hx hb hr hlk hw (ai + 1, ec_1) rfl rfl h d_Al_add_ObjectObjectIV_22
  · have h := h.2 hc
    exact False.elim h
theorem xw_413 : (Jvm.Cond.code ({ cls := "java/util/ArrayList", name := "add", desc := "(Ljava/lang/Object;[Ljava/lang/Object;I)V" } : Jvm.MethodName) prog_21_method_24_code (4 : Nat) (Option.none : Option Jvm.ClassFile.FieldType)) ∈ xg := xg_t (i := 413) (by decide +kernel) (by decide +kernel)
theorem xw_410 : (Jvm.Cond.methodLink "java/util/ArrayList" (131 : Nat) ({ cls := "java/util/ArrayList", name := "add", desc := "(Ljava/lang/Object;[Ljava/lang/Object;I)V" } : Jvm.MethodName)) ∈ xg := xg_t (i := 410) (by decide +kernel) (by decide +kernel)
theorem xw_412 : (Jvm.Cond.instanceMethod ({ cls := "java/util/ArrayList", name := "add", desc := "(Ljava/lang/Object;[Ljava/lang/Object;I)V" } : Jvm.MethodName)) ∈ xg := xg_t (i := 412) (by decide +kernel) (by decide +kernel)
theorem xw_p11 : Cond.selects "java/util/ArrayList" ⟨"java/util/ArrayList", "add", "(Ljava/lang/Object;[Ljava/lang/Object;I)V"⟩ ⟨"java/util/ArrayList", "add", "(Ljava/lang/Object;[Ljava/lang/Object;I)V"⟩ ∈ xg := xg_p (q := (⟨"java/util/ArrayList", "add", "(Ljava/lang/Object;[Ljava/lang/Object;I)V"⟩, 3)) (i := 11) (by decide +kernel) (by decide +kernel)
def wp_Al_addA (post : Int32 → Int32 → Int32 → (Nat → Option Nat) → Prop) (ad : Nat → Nat) (iwU : Nat) (nE : Nat) (lz : Int32) (mo : Int32) (ec : Nat → Option Nat) : Prop :=
wp_Al_add3A (fun lz_3 ec_4 =>
post 1 lz_3 (mo + 1) ec_4) ad iwU nE lz ec lz
abbrev rm_Al_addA : Room := { frames := 1, cells := 0, slots := 0, locals := 23 }
set_option maxHeartbeats 4000000 in
set_option maxRecDepth 100000 in
theorem c_Al_addA {l : Launch} {D : va_G} {ad : Nat → Nat} (CE : Int32 → Int32 → (Nat → Option Nat) → Nat → Option va_E) {cI cZ cJ cO : ClassId} {iL : Nat} {iE : Nat} {iwU : Nat} {nE : Nat} {w1 : Value} {w2 : Value} {w3 : Value} {w4 : Int32} {t0 mi : Nat} (k_L : ∀ (lz : Int32) (mo : Int32) (ec : Nat → Option Nat), (CE lz mo ec) iL = some (.inr (5, [.ref (ad iE), .int lz, .int mo]))) (k_E : ∀ (lz : Int32) (mo : Int32) (ec : Nat → Option Nat), (CE lz mo ec) iE = some (.inl (cO, nE, .inr (.inr (.inr (.inr ec)))))) (k_wU : ∀ (lz : Int32) (mo : Int32) (ec : Nat → Option Nat), (CE lz mo ec) iwU = some (.inr (3, [w1, w2, w3, .int w4]))) (u_L : ∀ (lz : Int32) (mo : Int32) (ec : Nat → Option Nat) (lz' : Int32) (mo' : Int32), va_up (CE lz mo ec) iL (some (.inr (5, [.ref (ad iE), .int lz', .int mo']))) = (CE lz' mo' ec)) (u_E : ∀ (lz : Int32) (mo : Int32) (ec : Nat → Option Nat) (ec' : Nat → Option Nat), va_up (CE lz mo ec) iE (some (.inl (cO, nE, .inr (.inr (.inr (.inr ec')))))) = (CE lz mo ec')) {post : Int32 → Int32 → Int32 → (Nat → Option Nat) → Prop} {lz : Int32} {mo : Int32} {ec : Nat → Option Nat} (h : wp_Al_addA post ad iwU nE lz mo ec) : ∀ sz, Met l y_Al_add_ObjectZ (Cond.code y_Al_add_ObjectZ b_Al_add_ObjectZ 2 (some .boolean) :: xg) rm_Al_addA (xq_Pc t0 mi D xcl (xT cI cZ cJ cO) ad (CE lz mo ec) sz [.ref (ad iL), .ref (ad iwU)]) (va_Qi (fun (r : Int32) (u : Int32 × Int32 × (Nat → Option Nat)) => post r u.1 u.2.1 u.2.2) (xm_B D xcl (xT cI cZ cJ cO) (xm_A ad (CE lz mo ec) sz) (fun _ => ad) (fun u : Int32 × Int32 × (Nat → Option Nat) => CE u.1 u.2.1 u.2.2)) (xm_A ad (CE lz mo ec) sz)) 0 0 (xm_A ad (CE lz mo ec) sz) := by
  refine xq_ofW (cc := b_Al_add_ObjectZ) (maxL := 2) (ret := (some .boolean)) (by decide) rfl (Nat.le_of_ble_eq_true rfl) ?_
  intro p e s m args below meth c ls QQ hQQ hT hx hb hml hr hown hlk hnm hts hl hw
  have hl : lv_has ls 2 [(0, .ref (ad iL)), (1, .ref (ad iwU))] := hl
  unfold wp_Al_addA at h
  refine lv_aload_n hx hb d_Al_add_ObjectZ_0 rfl (lv_at hl 0 rfl) ?_
  refine lv_dup hx hb d_Al_add_ObjectZ_1 rfl ?_
  refine xm_get (D := D) (v := .int mo) (C := R_Al) (T := F_Al) (N := 3) hx hb hts (fun w h => List.mem_cons_of_mem _ (i_Al w h)) hown hw (k_L lz mo ec) rfl 2 (by decide) (hts _ (List.mem_cons_of_mem _ xw_46)) (fun _ h9 => u_same (hts _ (List.mem_cons_of_mem _ xw_47)) _ h9) rfl d_Al_add_ObjectZ_2 ?_
  refine lv_iconst (v := 1) hx hb d_Al_add_ObjectZ_5 (by decide) ?_
  refine lv_iadd hx hb d_Al_add_ObjectZ_6 ?_
  refine xm_put (D := D) (v := .int (mo + 1)) (ty := .int) (C := R_Al) (T := F_Al) (N := 3) hx hb hts (fun w h => List.mem_cons_of_mem _ (i_Al w h)) t_Al o_Al n_Al hown hw (k_L lz mo ec) rfl 2 (by decide) (hts _ (List.mem_cons_of_mem _ xw_46)) (fun _ h9 => u_same (hts _ (List.mem_cons_of_mem _ xw_47)) _ h9) rfl (by decide +kernel) rfl rfl (Nat.le_of_ble_eq_true rfl) d_Al_add_ObjectZ_7 (fun H locs hw => ?_)
  have hw : xm_W D xcl (xT cI cZ cJ cO) (xm_A ad (CE lz mo ec) s.heap.size) ad (CE lz (mo + 1) ec) s s.heap H locs := xm_W.cast (u_L lz mo ec lz (mo + 1)) hw
  refine lv_aload_n hx hb d_Al_add_ObjectZ_10 rfl (lv_at hl 0 rfl) ?_
  refine lv_aload_n hx hb d_Al_add_ObjectZ_11 rfl (lv_at hl 1 rfl) ?_
  refine lv_aload_n hx hb d_Al_add_ObjectZ_12 rfl (lv_at hl 0 rfl) ?_
  refine xm_get (D := D) (v := .ref (ad iE)) (C := R_Al) (T := F_Al) (N := 3) hx hb hts (fun w h => List.mem_cons_of_mem _ (i_Al w h)) hown hw (k_L lz (mo + 1) ec) rfl 0 (by decide) (hts _ (List.mem_cons_of_mem _ xw_43)) (fun _ h9 => h9) rfl d_Al_add_ObjectZ_13 ?_
  refine lv_aload_n hx hb d_Al_add_ObjectZ_16 rfl (lv_at hl 0 rfl) ?_
  refine xm_get (D := D) (v := .int lz) (C := R_Al) (T := F_Al) (N := 3) hx hb hts (fun w h => List.mem_cons_of_mem _ (i_Al w h)) hown hw (k_L lz (mo + 1) ec) rfl 1 (by decide) (hts _ (List.mem_cons_of_mem _ xw_44)) (fun _ h9 => h9) rfl d_Al_add_ObjectZ_17 ?_
  refine xm_callv (ua := fun _ => ad) (va_runV (As := [.ref (ad iwU), .ref (ad iE), .int lz]) (rest := []) ⟨hx, hb, hml, hown, hts⟩ (c_Al_add3A (D := D) (ad := ad) (CE := (fun lz ec => (CE lz (mo + 1) ec)))  (fun lz ec => k_L lz (mo + 1) ec) (fun lz ec => k_E lz (mo + 1) ec) (fun lz ec => k_wU lz (mo + 1) ec) (fun lz ec lz' => u_L lz (mo + 1) ec lz' (mo + 1)) (fun lz ec ec' => u_E lz (mo + 1) ec ec') h _) (xg_cwV 3 hts xw_413 xw_410 xw_412 xw_p11 xw_4 rfl rfl (by decide +kernel) ⟨Nat.le_of_ble_eq_true rfl, Nat.le_of_ble_eq_true rfl⟩) (xq_preV hw hT (k_L lz (mo + 1) ec) rfl _) rfl rfl hl.1 rfl (lv_room (Nat.le_of_ble_eq_true rfl)) d_Al_add_ObjectZ_20 ⟨Nat.le_of_ble_eq_true rfl, Nat.le_of_ble_eq_true rfl⟩) hw (fun u_2 H locs h hw => ?_)
  obtain ⟨lz_3, elz_3⟩ : ∃ z, z = u_2.1 := ⟨_, rfl⟩
  obtain ⟨ec_4, eec_4⟩ : ∃ z, z = u_2.2 := ⟨_, rfl⟩
  try dsimp only at h hw
  rw [← elz_3, ← eec_4] at h hw
  refine lv_iconst (v := 1) hx hb d_Al_add_ObjectZ_23 (by decide) ?_
  subst hQQ
  exact xm_zret hx hb hr hlk rfl hw (lz_3, mo + 1, ec_4) rfl rfl h d_Al_add_ObjectZ_24
