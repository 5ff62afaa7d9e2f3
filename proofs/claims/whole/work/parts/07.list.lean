abbrev b_Al_size : ByteArray := prog_21_method_8_code
def y_Al_size : MethodName := ⟨"java/util/ArrayList", "size", "()I"⟩
theorem d_Al_size_0 : decode b_Al_size 0 = .ok (.aload_n 0, 1) := by decide +kernel
theorem d_Al_size_1 : decode b_Al_size 1 = .ok (.getfield 48, 3) := by decide +kernel
theorem d_Al_size_4 : decode b_Al_size 4 = .ok (.ireturn, 1) := by decide +kernel
abbrev b_Pc_checkIndex : ByteArray := prog_29_method_11_code
def y_Pc_checkIndex : MethodName := ⟨"jdk/internal/util/Preconditions", "checkIndex", "(IILjava/util/function/BiFunction;)I"⟩
theorem d_Pc_checkIndex_0 : decode b_Pc_checkIndex 0 = .ok (.iload_n 0, 1) := by decide +kernel
theorem d_Pc_checkIndex_1 : decode b_Pc_checkIndex 1 = .ok (.ifCond .lt 8, 3) := by decide +kernel
theorem d_Pc_checkIndex_4 : decode b_Pc_checkIndex 4 = .ok (.iload_n 0, 1) := by decide +kernel
theorem d_Pc_checkIndex_5 : decode b_Pc_checkIndex 5 = .ok (.iload_n 1, 1) := by decide +kernel
theorem d_Pc_checkIndex_6 : decode b_Pc_checkIndex 6 = .ok (.if_icmp .lt 10, 3) := by decide +kernel
theorem d_Pc_checkIndex_9 : decode b_Pc_checkIndex 9 = .ok (.aload_n 2, 1) := by decide +kernel
theorem d_Pc_checkIndex_10 : decode b_Pc_checkIndex 10 = .ok (.iload_n 0, 1) := by decide +kernel
theorem d_Pc_checkIndex_11 : decode b_Pc_checkIndex 11 = .ok (.iload_n 1, 1) := by decide +kernel
theorem d_Pc_checkIndex_12 : decode b_Pc_checkIndex 12 = .ok (.invokestatic 95, 3) := by decide +kernel
theorem d_Pc_checkIndex_15 : decode b_Pc_checkIndex 15 = .ok (.athrow, 1) := by decide +kernel
theorem d_Pc_checkIndex_16 : decode b_Pc_checkIndex 16 = .ok (.iload_n 0, 1) := by decide +kernel
theorem d_Pc_checkIndex_17 : decode b_Pc_checkIndex 17 = .ok (.ireturn, 1) := by decide +kernel
abbrev b_Ob_checkIndex : ByteArray := prog_25_method_17_code
def y_Ob_checkIndex : MethodName := ⟨"java/util/Objects", "checkIndex", "(II)I"⟩
theorem d_Ob_checkIndex_0 : decode b_Ob_checkIndex 0 = .ok (.iload_n 0, 1) := by decide +kernel
theorem d_Ob_checkIndex_1 : decode b_Ob_checkIndex 1 = .ok (.iload_n 1, 1) := by decide +kernel
theorem d_Ob_checkIndex_2 : decode b_Ob_checkIndex 2 = .ok (.aconst_null, 1) := by decide +kernel
theorem d_Ob_checkIndex_3 : decode b_Ob_checkIndex 3 = .ok (.invokestatic 105, 3) := by decide +kernel
theorem d_Ob_checkIndex_6 : decode b_Ob_checkIndex 6 = .ok (.ireturn, 1) := by decide +kernel
abbrev b_Al_elementData : ByteArray := prog_21_method_18_code
def y_Al_elementData : MethodName := ⟨"java/util/ArrayList", "elementData", "(I)Ljava/lang/Object;"⟩
theorem d_Al_elementData_0 : decode b_Al_elementData 0 = .ok (.aload_n 0, 1) := by decide +kernel
theorem d_Al_elementData_1 : decode b_Al_elementData 1 = .ok (.getfield 9, 3) := by decide +kernel
theorem d_Al_elementData_4 : decode b_Al_elementData 4 = .ok (.iload_n 1, 1) := by decide +kernel
theorem d_Al_elementData_5 : decode b_Al_elementData 5 = .ok (.aaload, 1) := by decide +kernel
theorem d_Al_elementData_6 : decode b_Al_elementData 6 = .ok (.areturn, 1) := by decide +kernel
abbrev b_Al_get : ByteArray := prog_21_method_20_code
def y_Al_get : MethodName := ⟨"java/util/ArrayList", "get", "(I)Ljava/lang/Object;"⟩
theorem d_Al_get_0 : decode b_Al_get 0 = .ok (.iload_n 1, 1) := by decide +kernel
theorem d_Al_get_1 : decode b_Al_get 1 = .ok (.aload_n 0, 1) := by decide +kernel
theorem d_Al_get_2 : decode b_Al_get 2 = .ok (.getfield 48, 3) := by decide +kernel
theorem d_Al_get_5 : decode b_Al_get 5 = .ok (.invokestatic 118, 3) := by decide +kernel
theorem d_Al_get_8 : decode b_Al_get 8 = .ok (.pop, 1) := by decide +kernel
theorem d_Al_get_9 : decode b_Al_get 9 = .ok (.aload_n 0, 1) := by decide +kernel
theorem d_Al_get_10 : decode b_Al_get 10 = .ok (.iload_n 1, 1) := by decide +kernel
theorem d_Al_get_11 : decode b_Al_get 11 = .ok (.invokevirtual 123, 3) := by decide +kernel
theorem d_Al_get_14 : decode b_Al_get 14 = .ok (.areturn, 1) := by decide +kernel
theorem xw_44 : (Jvm.Cond.fieldLink "java/util/ArrayList" (48 : Nat) "java/util/ArrayList" "size" "I") ∈ xg := xg_t (i := 44) (by decide +kernel) (by decide +kernel)
theorem i_Al : ∀ w ∈ u_ws R_Al F_Al 3, w ∈ xg := by decide +kernel
def wp_Al_size (post : Int32 → Prop)  (sz : Int32) : Prop :=
post sz
abbrev rm_Al_size : Room := { frames := 0, cells := 0, slots := 0, locals := 0 }
set_option maxHeartbeats 4000000 in
set_option maxRecDepth 100000 in
theorem c_Al_size {l : Launch} {D : va_G} {ad : Nat → Nat} (CE : Nat → Option va_E) {cI cZ cJ cO : ClassId} {iL : Nat} {sz : Int32} {ev : Value} {mo : Int32} (k_L : CE iL = some (.inr (5, [ev, .int sz, .int mo]))) {post : Int32 → Prop}  (h : wp_Al_size post sz) : ∀ sz, Met l y_Al_size (Cond.code y_Al_size b_Al_size 1 (some .int) :: xg) rm_Al_size (xm_Pc D xcl (xT cI cZ cJ cO) ad CE sz [.ref (ad iL)]) (va_Qi (fun (r : Int32) (_ : Unit) => post r) (xm_B D xcl (xT cI cZ cJ cO) (xm_A ad CE sz) (fun _ => ad) (fun _ : Unit => CE)) (xm_A ad CE sz)) 0 0 (xm_A ad CE sz) := by
  refine xm_ofW (cc := b_Al_size) (maxL := 1) (ret := (some .int)) (by decide) rfl (Nat.le_of_ble_eq_true rfl) ?_
  intro p e s m args below meth c ls QQ hQQ hx hb hml hr hown hlk hnm hts hl hw
  have hl : lv_has ls 1 [(0, .ref (ad iL))] := hl
  unfold wp_Al_size at h
  refine lv_aload_n hx hb d_Al_size_0 rfl (lv_at hl 0 rfl) ?_
  refine xm_get (D := D) (v := .int sz) (C := R_Al) (T := F_Al) (N := 3) hx hb hts (fun w h => List.mem_cons_of_mem _ (i_Al w h)) hown hw k_L rfl 1 (by decide) (hts _ (List.mem_cons_of_mem _ xw_44)) (fun _ h9 => h9) rfl d_Al_size_1 ?_
  subst hQQ
  exact xm_iret hx hb hr hlk hw () rfl rfl h d_Al_size_4
def wp_Pc_checkIndex (post : Int32 → Prop)  (i : Int32) (n : Int32) : Prop :=
xj (fun (v_1 : Unit) =>
False) (fun (J_2 : Unit → Prop) =>
((i < 0 →
J_2 ()) ∧ (¬ i < 0 →
((i < n →
post i) ∧ (¬ i < n →
J_2 ())))))
abbrev rm_Pc_checkIndex : Room := { frames := 0, cells := 0, slots := 0, locals := 0 }
set_option maxHeartbeats 4000000 in
set_option maxRecDepth 100000 in
theorem c_Pc_checkIndex {l : Launch} {D : va_G} {ad : Nat → Nat} (CE : Nat → Option va_E) {cI cZ cJ cO : ClassId}    {post : Int32 → Prop} {i : Int32} {n : Int32} (h : wp_Pc_checkIndex post i n) : ∀ sz, Met l y_Pc_checkIndex (Cond.code y_Pc_checkIndex b_Pc_checkIndex 3 (some .int) :: xg) rm_Pc_checkIndex (xm_Pc D xcl (xT cI cZ cJ cO) ad CE sz [.int i, .int n, .null]) (va_Qi (fun (r : Int32) (_ : Unit) => post r) (xm_B D xcl (xT cI cZ cJ cO) (xm_A ad CE sz) (fun _ => ad) (fun _ : Unit => CE)) (xm_A ad CE sz)) 0 0 (xm_A ad CE sz) := by
  refine xm_ofW (cc := b_Pc_checkIndex) (maxL := 3) (ret := (some .int)) (by decide) rfl (Nat.le_of_ble_eq_true rfl) ?_
  intro p e s m args below meth c ls QQ hQQ hx hb hml hr hown hlk hnm hts hl hw
  have hl : lv_has ls 3 [(0, .int i), (1, .int n), (2, .null)] := hl
  unfold wp_Pc_checkIndex at h
  refine lv_iload_n hx hb d_Pc_checkIndex_0 rfl (lv_at hl 0 rfl) ?_
  refine xj_use h (fun (v_1 : Unit) => ∀ (H : Heap) (locs : List Loc) (ls : Array Slot), xm_W D xcl (xT cI cZ cJ cO) (xm_A ad CE s.heap.size) ad CE s s.heap H locs → lv_has ls 3 [] → W p l e rm_Pc_checkIndex s m args below meth c H locs 0 0 QQ (F0 m 9 ls [])) (fun v_1 h H locs ls hw hl => ?_) (fun J_2 hJ_2 h => ?_)
  · exact False.elim h
  · refine lv_if_lt (tgt := 9) hx hb d_Pc_checkIndex_1 (by decide) (fun hc => ?_) (fun hc => ?_)
    · have h := h.1 hc
      exact hJ_2 () h _ _ _ hw (lv_sub hl [] rfl)
    · have h := h.2 hc
      refine lv_iload_n hx hb d_Pc_checkIndex_4 rfl (lv_at hl 0 rfl) ?_
      refine lv_iload_n hx hb d_Pc_checkIndex_5 rfl (lv_at hl 1 rfl) ?_
      refine lv_icmp_lt (tgt := 16) hx hb d_Pc_checkIndex_6 (by decide) (fun hc => ?_) (fun hc => ?_)
      · have h := h.1 hc
        refine lv_iload_n hx hb d_Pc_checkIndex_16 rfl (lv_at hl 0 rfl) ?_
        subst hQQ
        exact xm_iret hx hb hr hlk hw () rfl rfl h d_Pc_checkIndex_17
      · have h := h.2 hc
        exact hJ_2 () h _ _ _ hw (lv_sub hl [] rfl)
theorem xw_161 : (Jvm.Cond.code ({ cls := "jdk/internal/util/Preconditions", name := "checkIndex", desc := "(IILjava/util/function/BiFunction;)I" } : Jvm.MethodName) prog_29_method_11_code (3 : Nat) (Option.some Jvm.ClassFile.FieldType.int)) ∈ xg := xg_t (i := 161) (by decide +kernel) (by decide +kernel)
theorem xw_19 : (Jvm.Cond.initialized "jdk/internal/util/Preconditions") ∈ xg := xg_t (i := 19) (by decide +kernel) (by decide +kernel)
theorem xw_159 : (Jvm.Cond.methodLink "java/util/Objects" (105 : Nat) ({ cls := "jdk/internal/util/Preconditions", name := "checkIndex", desc := "(IILjava/util/function/BiFunction;)I" } : Jvm.MethodName)) ∈ xg := xg_t (i := 159) (by decide +kernel) (by decide +kernel)
theorem xw_160 : (Jvm.Cond.static ({ cls := "jdk/internal/util/Preconditions", name := "checkIndex", desc := "(IILjava/util/function/BiFunction;)I" } : Jvm.MethodName)) ∈ xg := xg_t (i := 160) (by decide +kernel) (by decide +kernel)
def wp_Ob_checkIndex (post : Int32 → Prop)  (i : Int32) (n : Int32) : Prop :=
wp_Pc_checkIndex (fun r_1 =>
post r_1) i n
abbrev rm_Ob_checkIndex : Room := { frames := 1, cells := 0, slots := 0, locals := 22 }
set_option maxHeartbeats 4000000 in
set_option maxRecDepth 100000 in
theorem c_Ob_checkIndex {l : Launch} {D : va_G} {ad : Nat → Nat} (CE : Nat → Option va_E) {cI cZ cJ cO : ClassId}    {post : Int32 → Prop} {i : Int32} {n : Int32} (h : wp_Ob_checkIndex post i n) : ∀ sz, Met l y_Ob_checkIndex (Cond.code y_Ob_checkIndex b_Ob_checkIndex 2 (some .int) :: xg) rm_Ob_checkIndex (xm_Pc D xcl (xT cI cZ cJ cO) ad CE sz [.int i, .int n]) (va_Qi (fun (r : Int32) (_ : Unit) => post r) (xm_B D xcl (xT cI cZ cJ cO) (xm_A ad CE sz) (fun _ => ad) (fun _ : Unit => CE)) (xm_A ad CE sz)) 0 0 (xm_A ad CE sz) := by
  refine xm_ofW (cc := b_Ob_checkIndex) (maxL := 2) (ret := (some .int)) (by decide) rfl (Nat.le_of_ble_eq_true rfl) ?_
  intro p e s m args below meth c ls QQ hQQ hx hb hml hr hown hlk hnm hts hl hw
  have hl : lv_has ls 2 [(0, .int i), (1, .int n)] := hl
  unfold wp_Ob_checkIndex at h
  refine lv_iload_n hx hb d_Ob_checkIndex_0 rfl (lv_at hl 0 rfl) ?_
  refine lv_iload_n hx hb d_Ob_checkIndex_1 rfl (lv_at hl 1 rfl) ?_
  refine lv_null hx hb d_Ob_checkIndex_2 ?_
  refine xm_calli (ua := fun _ => ad) (va_runS (As := [.int i, .int n, .null]) (rest := []) ⟨hx, hb, hml, hown, hts⟩ (c_Pc_checkIndex (D := D) (ad := ad) (CE := (CE))   h _) (xg_cwS 3 hts xw_161 xw_159 xw_160 xw_19 rfl rfl (by decide +kernel) ⟨Nat.le_of_ble_eq_true rfl, Nat.le_of_ble_eq_true rfl⟩) (xm_pre hw _) rfl rfl hl.1 rfl (lv_room (Nat.le_of_ble_eq_true rfl)) d_Ob_checkIndex_3 ⟨Nat.le_of_ble_eq_true rfl, Nat.le_of_ble_eq_true rfl⟩) hw (fun r_1 _ H locs h hw => ?_)
  subst hQQ
  exact xm_iret hx hb hr hlk hw () rfl rfl h d_Ob_checkIndex_6
theorem xw_43 : (Jvm.Cond.fieldLink "java/util/ArrayList" (9 : Nat) "java/util/ArrayList" "elementData" "[Ljava/lang/Object;") ∈ xg := xg_t (i := 43) (by decide +kernel) (by decide +kernel)
def wp_Al_elementData (post : Nat → Prop) (ad : Nat → Nat)  (nE : Nat) (ec : Nat → Option Nat) (i : Int32) : Prop :=
vp_in i nE ∧
∃ ix_1 : Nat, ec (Int32.toNatClampNeg i) = some (ad ix_1) ∧
post ix_1
abbrev rm_Al_elementData : Room := { frames := 0, cells := 0, slots := 0, locals := 0 }
set_option maxHeartbeats 4000000 in
set_option maxRecDepth 100000 in
theorem c_Al_elementData {l : Launch} {D : va_G} {ad : Nat → Nat} (CE : Nat → Option va_E) {cI cZ cJ cO : ClassId} {iL : Nat} {iE : Nat} {nE : Nat} {ec : Nat → Option Nat} {sz : Int32} {mo : Int32} (k_L : CE iL = some (.inr (5, [.ref (ad iE), .int sz, .int mo]))) (k_E : CE iE = some (.inl (cO, nE, .inr (.inr (.inr (.inr ec)))))) {post : Nat → Prop} {i : Int32} (h : wp_Al_elementData post ad nE ec i) : ∀ sz, Met l y_Al_elementData (Cond.code y_Al_elementData b_Al_elementData 2 (some (.object "java/lang/Object")) :: xg) rm_Al_elementData (xm_Pc D xcl (xT cI cZ cJ cO) ad CE sz [.ref (ad iL), .int i]) (va_Qr (fun u : Nat => post u) (xm_Br D xcl (xT cI cZ cJ cO) (xm_A ad CE sz) (fun _ => ad) (fun u : Nat => CE) (fun u => u)) (xm_A ad CE sz)) 0 0 (xm_A ad CE sz) := by
  refine xm_ofW (cc := b_Al_elementData) (maxL := 2) (ret := (some (.object "java/lang/Object"))) (by decide) rfl (Nat.le_of_ble_eq_true rfl) ?_
  intro p e s m args below meth c ls QQ hQQ hx hb hml hr hown hlk hnm hts hl hw
  have hl : lv_has ls 2 [(0, .ref (ad iL)), (1, .int i)] := hl
  unfold wp_Al_elementData at h
  refine lv_aload_n hx hb d_Al_elementData_0 rfl (lv_at hl 0 rfl) ?_
  refine xm_get (D := D) (v := .ref (ad iE)) (C := R_Al) (T := F_Al) (N := 3) hx hb hts (fun w h => List.mem_cons_of_mem _ (i_Al w h)) hown hw k_L rfl 0 (by decide) (hts _ (List.mem_cons_of_mem _ xw_43)) (fun _ h9 => h9) rfl d_Al_elementData_1 ?_
  refine lv_iload_n hx hb d_Al_elementData_4 rfl (lv_at hl 1 rfl) ?_
  obtain ⟨hin, ix_1, eix_1, h⟩ := h
  refine xm_aaldS hx hb hw 3 k_E rfl hin eix_1 d_Al_elementData_5 ?_
  subst hQQ
  exact xm_aret hx hb hr hlk hw ix_1 rfl rfl rfl h d_Al_elementData_6
theorem xw_481 : (Jvm.Cond.code ({ cls := "java/util/ArrayList", name := "elementData", desc := "(I)Ljava/lang/Object;" } : Jvm.MethodName) prog_21_method_18_code (2 : Nat) (Option.some (Jvm.ClassFile.FieldType.object "java/lang/Object"))) ∈ xg := xg_t (i := 481) (by decide +kernel) (by decide +kernel)
theorem xw_4 : (Jvm.Cond.initialized "java/util/ArrayList") ∈ xg := xg_t (i := 4) (by decide +kernel) (by decide +kernel)
theorem xw_478 : (Jvm.Cond.methodLink "java/util/ArrayList" (123 : Nat) ({ cls := "java/util/ArrayList", name := "elementData", desc := "(I)Ljava/lang/Object;" } : Jvm.MethodName)) ∈ xg := xg_t (i := 478) (by decide +kernel) (by decide +kernel)
theorem xw_479 : (Jvm.Cond.instanceMethod ({ cls := "java/util/ArrayList", name := "elementData", desc := "(I)Ljava/lang/Object;" } : Jvm.MethodName)) ∈ xg := xg_t (i := 479) (by decide +kernel) (by decide +kernel)
theorem xw_480 : (Jvm.Cond.selects "java/util/ArrayList" ({ cls := "java/util/ArrayList", name := "elementData", desc := "(I)Ljava/lang/Object;" } : Jvm.MethodName) ({ cls := "java/util/ArrayList", name := "elementData", desc := "(I)Ljava/lang/Object;" } : Jvm.MethodName)) ∈ xg := xg_t (i := 480) (by decide +kernel) (by decide +kernel)
theorem xw_158 : (Jvm.Cond.code ({ cls := "java/util/Objects", name := "checkIndex", desc := "(II)I" } : Jvm.MethodName) prog_25_method_17_code (2 : Nat) (Option.some Jvm.ClassFile.FieldType.int)) ∈ xg := xg_t (i := 158) (by decide +kernel) (by decide +kernel)
theorem xw_18 : (Jvm.Cond.initialized "java/util/Objects") ∈ xg := xg_t (i := 18) (by decide +kernel) (by decide +kernel)
theorem xw_156 : (Jvm.Cond.methodLink "java/util/ArrayList" (118 : Nat) ({ cls := "java/util/Objects", name := "checkIndex", desc := "(II)I" } : Jvm.MethodName)) ∈ xg := xg_t (i := 156) (by decide +kernel) (by decide +kernel)
theorem xw_157 : (Jvm.Cond.static ({ cls := "java/util/Objects", name := "checkIndex", desc := "(II)I" } : Jvm.MethodName)) ∈ xg := xg_t (i := 157) (by decide +kernel) (by decide +kernel)
def wp_Al_get (post : Nat → Prop) (ad : Nat → Nat)  (nE : Nat) (ec : Nat → Option Nat) (sz : Int32) (i : Int32) : Prop :=
wp_Ob_checkIndex (fun r_1 =>
wp_Al_elementData (fun ix_5 =>
post ix_5) ad nE ec i) i sz
abbrev rm_Al_get : Room := { frames := 2, cells := 0, slots := 0, locals := 43 }
set_option maxHeartbeats 4000000 in
set_option maxRecDepth 100000 in
theorem c_Al_get {l : Launch} {D : va_G} {ad : Nat → Nat} (CE : Nat → Option va_E) {cI cZ cJ cO : ClassId} {iL : Nat} {iE : Nat} {nE : Nat} {ec : Nat → Option Nat} {sz : Int32} {mo : Int32} (k_L : CE iL = some (.inr (5, [.ref (ad iE), .int sz, .int mo]))) (k_E : CE iE = some (.inl (cO, nE, .inr (.inr (.inr (.inr ec)))))) {post : Nat → Prop} {i : Int32} (h : wp_Al_get post ad nE ec sz i) : ∀ sz, Met l y_Al_get (Cond.code y_Al_get b_Al_get 2 (some (.object "java/lang/Object")) :: xg) rm_Al_get (xm_Pc D xcl (xT cI cZ cJ cO) ad CE sz [.ref (ad iL), .int i]) (va_Qr (fun u : Nat => post u) (xm_Br D xcl (xT cI cZ cJ cO) (xm_A ad CE sz) (fun _ => ad) (fun u : Nat => CE) (fun u => u)) (xm_A ad CE sz)) 0 0 (xm_A ad CE sz) := by
  refine xm_ofW (cc := b_Al_get) (maxL := 2) (ret := (some (.object "java/lang/Object"))) (by decide) rfl (Nat.le_of_ble_eq_true rfl) ?_
  intro p e s m args below meth c ls QQ hQQ hx hb hml hr hown hlk hnm hts hl hw
  have hl : lv_has ls 2 [(0, .ref (ad iL)), (1, .int i)] := hl
  unfold wp_Al_get at h
  refine lv_iload_n hx hb d_Al_get_0 rfl (lv_at hl 1 rfl) ?_
  refine lv_aload_n hx hb d_Al_get_1 rfl (lv_at hl 0 rfl) ?_
  refine xm_get (D := D) (v := .int sz) (C := R_Al) (T := F_Al) (N := 3) hx hb hts (fun w h => List.mem_cons_of_mem _ (i_Al w h)) hown hw k_L rfl 1 (by decide) (hts _ (List.mem_cons_of_mem _ xw_44)) (fun _ h9 => h9) rfl d_Al_get_2 ?_
  refine xm_calli (ua := fun _ => ad) (va_runS (As := [.int i, .int sz]) (rest := []) ⟨hx, hb, hml, hown, hts⟩ (c_Ob_checkIndex (D := D) (ad := ad) (CE := (CE))   h _) (xg_cwS 2 hts xw_158 xw_156 xw_157 xw_18 rfl rfl (by decide +kernel) ⟨Nat.le_of_ble_eq_true rfl, Nat.le_of_ble_eq_true rfl⟩) (xm_pre hw _) rfl rfl hl.1 rfl (lv_room (Nat.le_of_ble_eq_true rfl)) d_Al_get_5 ⟨Nat.le_of_ble_eq_true rfl, Nat.le_of_ble_eq_true rfl⟩) hw (fun r_1 _ H locs h hw => ?_)
  refine lv_pop hx hb d_Al_get_8 rfl ?_
  refine lv_aload_n hx hb d_Al_get_9 rfl (lv_at hl 0 rfl) ?_
  refine lv_iload_n hx hb d_Al_get_10 rfl (lv_at hl 1 rfl) ?_
  refine xm_callr (ua := fun _ => ad) (va_runV (As := [.int i]) (rest := []) ⟨hx, hb, hml, hown, hts⟩ (c_Al_elementData (D := D) (ad := ad) (CE := (CE))  k_L k_E h _) (xg_cwV 1 hts xw_481 xw_478 xw_479 xw_480 xw_4 rfl rfl (by decide +kernel) ⟨Nat.le_of_ble_eq_true rfl, Nat.le_of_ble_eq_true rfl⟩) (xm_preV hw k_L rfl _) rfl rfl hl.1 rfl (lv_room (Nat.le_of_ble_eq_true rfl)) d_Al_get_11 ⟨Nat.le_of_ble_eq_true rfl, Nat.le_of_ble_eq_true rfl⟩) hw (fun u_4 H locs h hw => ?_)
  obtain ⟨ix_5, eix_5⟩ : ∃ z, z = u_4 := ⟨_, rfl⟩
  try dsimp only at h hw
  rw [← eix_5] at h
  try dsimp only
  rw [← eix_5]
  subst hQQ
  exact xm_aret hx hb hr hlk hw ix_5 rfl rfl rfl h d_Al_get_14
