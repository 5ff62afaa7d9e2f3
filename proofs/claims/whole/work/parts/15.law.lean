abbrev b_La_predicate : ByteArray := method_3_code
def y_La_predicate : MethodName := ⟨"QuestionDeskLaw", "predicate", "(LQuestionDesk;IZ[J)I"⟩
theorem d_La_predicate_0 : decode b_La_predicate 0 = .ok (.aload_n 3, 1) := by decide +kernel
theorem d_La_predicate_1 : decode b_La_predicate 1 = .ok (.iconst 0, 1) := by decide +kernel
theorem d_La_predicate_2 : decode b_La_predicate 2 = .ok (.aload_n 0, 1) := by decide +kernel
theorem d_La_predicate_3 : decode b_La_predicate 3 = .ok (.iload_n 1, 1) := by decide +kernel
theorem d_La_predicate_4 : decode b_La_predicate 4 = .ok (.iload_n 2, 1) := by decide +kernel
theorem d_La_predicate_5 : decode b_La_predicate 5 = .ok (.invokevirtual 7, 3) := by decide +kernel
theorem d_La_predicate_8 : decode b_La_predicate 8 = .ok (.i2l, 1) := by decide +kernel
theorem d_La_predicate_9 : decode b_La_predicate 9 = .ok (.lastore, 1) := by decide +kernel
theorem d_La_predicate_10 : decode b_La_predicate 10 = .ok (.goto 7, 3) := by decide +kernel
theorem d_La_predicate_13 : decode b_La_predicate 13 = .ok (.astore 4, 2) := by decide +kernel
theorem d_La_predicate_15 : decode b_La_predicate 15 = .ok (.iconst 1, 1) := by decide +kernel
theorem d_La_predicate_16 : decode b_La_predicate 16 = .ok (.ireturn, 1) := by decide +kernel
theorem d_La_predicate_17 : decode b_La_predicate 17 = .ok (.iconst 0, 1) := by decide +kernel
theorem d_La_predicate_18 : decode b_La_predicate 18 = .ok (.ireturn, 1) := by decide +kernel
abbrev b_La_fact : ByteArray := method_4_code
def y_La_fact : MethodName := ⟨"QuestionDeskLaw", "fact", "(LQuestionDesk;III[J)I"⟩
theorem d_La_fact_0 : decode b_La_fact 0 = .ok (.aload 4, 2) := by decide +kernel
theorem d_La_fact_2 : decode b_La_fact 2 = .ok (.iconst 0, 1) := by decide +kernel
theorem d_La_fact_3 : decode b_La_fact 3 = .ok (.aload_n 0, 1) := by decide +kernel
theorem d_La_fact_4 : decode b_La_fact 4 = .ok (.iload_n 1, 1) := by decide +kernel
theorem d_La_fact_5 : decode b_La_fact 5 = .ok (.iload_n 2, 1) := by decide +kernel
theorem d_La_fact_6 : decode b_La_fact 6 = .ok (.iload_n 3, 1) := by decide +kernel
theorem d_La_fact_7 : decode b_La_fact 7 = .ok (.invokevirtual 15, 3) := by decide +kernel
theorem d_La_fact_10 : decode b_La_fact 10 = .ok (.ifCond .eq 7, 3) := by decide +kernel
theorem d_La_fact_13 : decode b_La_fact 13 = .ok (.lconst 1, 1) := by decide +kernel
theorem d_La_fact_14 : decode b_La_fact 14 = .ok (.goto 4, 3) := by decide +kernel
theorem d_La_fact_17 : decode b_La_fact 17 = .ok (.lconst 0, 1) := by decide +kernel
theorem d_La_fact_18 : decode b_La_fact 18 = .ok (.lastore, 1) := by decide +kernel
theorem d_La_fact_19 : decode b_La_fact 19 = .ok (.goto 7, 3) := by decide +kernel
theorem d_La_fact_22 : decode b_La_fact 22 = .ok (.astore 5, 2) := by decide +kernel
theorem d_La_fact_24 : decode b_La_fact 24 = .ok (.iconst 1, 1) := by decide +kernel
theorem d_La_fact_25 : decode b_La_fact 25 = .ok (.ireturn, 1) := by decide +kernel
theorem d_La_fact_26 : decode b_La_fact 26 = .ok (.iconst 0, 1) := by decide +kernel
theorem d_La_fact_27 : decode b_La_fact 27 = .ok (.ireturn, 1) := by decide +kernel
abbrev b_La_drop : ByteArray := method_5_code
def y_La_drop : MethodName := ⟨"QuestionDeskLaw", "drop", "(LQuestionDesk;III[J)I"⟩
theorem d_La_drop_0 : decode b_La_drop 0 = .ok (.aload 4, 2) := by decide +kernel
theorem d_La_drop_2 : decode b_La_drop 2 = .ok (.iconst 0, 1) := by decide +kernel
theorem d_La_drop_3 : decode b_La_drop 3 = .ok (.aload_n 0, 1) := by decide +kernel
theorem d_La_drop_4 : decode b_La_drop 4 = .ok (.iload_n 1, 1) := by decide +kernel
theorem d_La_drop_5 : decode b_La_drop 5 = .ok (.iload_n 2, 1) := by decide +kernel
theorem d_La_drop_6 : decode b_La_drop 6 = .ok (.iload_n 3, 1) := by decide +kernel
theorem d_La_drop_7 : decode b_La_drop 7 = .ok (.invokevirtual 19, 3) := by decide +kernel
theorem d_La_drop_10 : decode b_La_drop 10 = .ok (.ifCond .eq 7, 3) := by decide +kernel
theorem d_La_drop_13 : decode b_La_drop 13 = .ok (.lconst 1, 1) := by decide +kernel
theorem d_La_drop_14 : decode b_La_drop 14 = .ok (.goto 4, 3) := by decide +kernel
theorem d_La_drop_17 : decode b_La_drop 17 = .ok (.lconst 0, 1) := by decide +kernel
theorem d_La_drop_18 : decode b_La_drop 18 = .ok (.lastore, 1) := by decide +kernel
theorem d_La_drop_19 : decode b_La_drop 19 = .ok (.goto 7, 3) := by decide +kernel
theorem d_La_drop_22 : decode b_La_drop 22 = .ok (.astore 5, 2) := by decide +kernel
theorem d_La_drop_24 : decode b_La_drop 24 = .ok (.iconst 1, 1) := by decide +kernel
theorem d_La_drop_25 : decode b_La_drop 25 = .ok (.ireturn, 1) := by decide +kernel
theorem d_La_drop_26 : decode b_La_drop 26 = .ok (.iconst 0, 1) := by decide +kernel
theorem d_La_drop_27 : decode b_La_drop 27 = .ok (.ireturn, 1) := by decide +kernel
abbrev b_La_holds : ByteArray := method_10_code
def y_La_holds : MethodName := ⟨"QuestionDeskLaw", "holds", "(LQuestionDesk;III[J)I"⟩
theorem d_La_holds_0 : decode b_La_holds 0 = .ok (.aload 4, 2) := by decide +kernel
theorem d_La_holds_2 : decode b_La_holds 2 = .ok (.iconst 0, 1) := by decide +kernel
theorem d_La_holds_3 : decode b_La_holds 3 = .ok (.aload_n 0, 1) := by decide +kernel
theorem d_La_holds_4 : decode b_La_holds 4 = .ok (.iload_n 1, 1) := by decide +kernel
theorem d_La_holds_5 : decode b_La_holds 5 = .ok (.iload_n 2, 1) := by decide +kernel
theorem d_La_holds_6 : decode b_La_holds 6 = .ok (.iload_n 3, 1) := by decide +kernel
theorem d_La_holds_7 : decode b_La_holds 7 = .ok (.invokevirtual 39, 3) := by decide +kernel
theorem d_La_holds_10 : decode b_La_holds 10 = .ok (.ifCond .eq 7, 3) := by decide +kernel
theorem d_La_holds_13 : decode b_La_holds 13 = .ok (.lconst 1, 1) := by decide +kernel
theorem d_La_holds_14 : decode b_La_holds 14 = .ok (.goto 4, 3) := by decide +kernel
theorem d_La_holds_17 : decode b_La_holds 17 = .ok (.lconst 0, 1) := by decide +kernel
theorem d_La_holds_18 : decode b_La_holds 18 = .ok (.lastore, 1) := by decide +kernel
theorem d_La_holds_19 : decode b_La_holds 19 = .ok (.goto 7, 3) := by decide +kernel
theorem d_La_holds_22 : decode b_La_holds 22 = .ok (.astore 5, 2) := by decide +kernel
theorem d_La_holds_24 : decode b_La_holds 24 = .ok (.iconst 1, 1) := by decide +kernel
theorem d_La_holds_25 : decode b_La_holds 25 = .ok (.ireturn, 1) := by decide +kernel
theorem d_La_holds_26 : decode b_La_holds 26 = .ok (.iconst 0, 1) := by decide +kernel
theorem d_La_holds_27 : decode b_La_holds 27 = .ok (.ireturn, 1) := by decide +kernel
abbrev b_La_wanted : ByteArray := method_11_code
def y_La_wanted : MethodName := ⟨"QuestionDeskLaw", "wanted", "(LQuestionDesk;III[J)I"⟩
theorem d_La_wanted_0 : decode b_La_wanted 0 = .ok (.aload 4, 2) := by decide +kernel
theorem d_La_wanted_2 : decode b_La_wanted 2 = .ok (.iconst 0, 1) := by decide +kernel
theorem d_La_wanted_3 : decode b_La_wanted 3 = .ok (.aload_n 0, 1) := by decide +kernel
theorem d_La_wanted_4 : decode b_La_wanted 4 = .ok (.iload_n 1, 1) := by decide +kernel
theorem d_La_wanted_5 : decode b_La_wanted 5 = .ok (.iload_n 2, 1) := by decide +kernel
theorem d_La_wanted_6 : decode b_La_wanted 6 = .ok (.iload_n 3, 1) := by decide +kernel
theorem d_La_wanted_7 : decode b_La_wanted 7 = .ok (.invokevirtual 42, 3) := by decide +kernel
theorem d_La_wanted_10 : decode b_La_wanted 10 = .ok (.ifCond .eq 7, 3) := by decide +kernel
theorem d_La_wanted_13 : decode b_La_wanted 13 = .ok (.lconst 1, 1) := by decide +kernel
theorem d_La_wanted_14 : decode b_La_wanted 14 = .ok (.goto 4, 3) := by decide +kernel
theorem d_La_wanted_17 : decode b_La_wanted 17 = .ok (.lconst 0, 1) := by decide +kernel
theorem d_La_wanted_18 : decode b_La_wanted 18 = .ok (.lastore, 1) := by decide +kernel
theorem d_La_wanted_19 : decode b_La_wanted 19 = .ok (.goto 7, 3) := by decide +kernel
theorem d_La_wanted_22 : decode b_La_wanted 22 = .ok (.astore 5, 2) := by decide +kernel
theorem d_La_wanted_24 : decode b_La_wanted 24 = .ok (.iconst 1, 1) := by decide +kernel
theorem d_La_wanted_25 : decode b_La_wanted 25 = .ok (.ireturn, 1) := by decide +kernel
theorem d_La_wanted_26 : decode b_La_wanted 26 = .ok (.iconst 0, 1) := by decide +kernel
theorem d_La_wanted_27 : decode b_La_wanted 27 = .ok (.ireturn, 1) := by decide +kernel
abbrev b_La_called : ByteArray := method_12_code
def y_La_called : MethodName := ⟨"QuestionDeskLaw", "called", "(LQuestionDesk;III[J)I"⟩
theorem d_La_called_0 : decode b_La_called 0 = .ok (.aload 4, 2) := by decide +kernel
theorem d_La_called_2 : decode b_La_called 2 = .ok (.iconst 0, 1) := by decide +kernel
theorem d_La_called_3 : decode b_La_called 3 = .ok (.aload_n 0, 1) := by decide +kernel
theorem d_La_called_4 : decode b_La_called 4 = .ok (.iload_n 1, 1) := by decide +kernel
theorem d_La_called_5 : decode b_La_called 5 = .ok (.iload_n 2, 1) := by decide +kernel
theorem d_La_called_6 : decode b_La_called 6 = .ok (.iload_n 3, 1) := by decide +kernel
theorem d_La_called_7 : decode b_La_called 7 = .ok (.invokevirtual 45, 3) := by decide +kernel
theorem d_La_called_10 : decode b_La_called 10 = .ok (.ifCond .eq 7, 3) := by decide +kernel
theorem d_La_called_13 : decode b_La_called 13 = .ok (.lconst 1, 1) := by decide +kernel
theorem d_La_called_14 : decode b_La_called 14 = .ok (.goto 4, 3) := by decide +kernel
theorem d_La_called_17 : decode b_La_called 17 = .ok (.lconst 0, 1) := by decide +kernel
theorem d_La_called_18 : decode b_La_called 18 = .ok (.lastore, 1) := by decide +kernel
theorem d_La_called_19 : decode b_La_called 19 = .ok (.goto 7, 3) := by decide +kernel
theorem d_La_called_22 : decode b_La_called 22 = .ok (.astore 5, 2) := by decide +kernel
theorem d_La_called_24 : decode b_La_called 24 = .ok (.iconst 1, 1) := by decide +kernel
theorem d_La_called_25 : decode b_La_called 25 = .ok (.ireturn, 1) := by decide +kernel
theorem d_La_called_26 : decode b_La_called 26 = .ok (.iconst 0, 1) := by decide +kernel
theorem d_La_called_27 : decode b_La_called 27 = .ok (.ireturn, 1) := by decide +kernel
abbrev b_La_ask : ByteArray := method_9_code
def y_La_ask : MethodName := ⟨"QuestionDeskLaw", "ask", "(LQuestionDesk;III[J)I"⟩
theorem d_La_ask_0 : decode b_La_ask 0 = .ok (.aload 4, 2) := by decide +kernel
theorem d_La_ask_2 : decode b_La_ask 2 = .ok (.iconst 0, 1) := by decide +kernel
theorem d_La_ask_3 : decode b_La_ask 3 = .ok (.aload_n 0, 1) := by decide +kernel
theorem d_La_ask_4 : decode b_La_ask 4 = .ok (.iload_n 1, 1) := by decide +kernel
theorem d_La_ask_5 : decode b_La_ask 5 = .ok (.iload_n 2, 1) := by decide +kernel
theorem d_La_ask_6 : decode b_La_ask 6 = .ok (.iload_n 3, 1) := by decide +kernel
theorem d_La_ask_7 : decode b_La_ask 7 = .ok (.invokevirtual 36, 3) := by decide +kernel
theorem d_La_ask_10 : decode b_La_ask 10 = .ok (.i2l, 1) := by decide +kernel
theorem d_La_ask_11 : decode b_La_ask 11 = .ok (.lastore, 1) := by decide +kernel
theorem d_La_ask_12 : decode b_La_ask 12 = .ok (.goto 7, 3) := by decide +kernel
theorem d_La_ask_15 : decode b_La_ask 15 = .ok (.astore 5, 2) := by decide +kernel
theorem d_La_ask_17 : decode b_La_ask 17 = .ok (.iconst 1, 1) := by decide +kernel
theorem d_La_ask_18 : decode b_La_ask 18 = .ok (.ireturn, 1) := by decide +kernel
theorem d_La_ask_19 : decode b_La_ask 19 = .ok (.iconst 0, 1) := by decide +kernel
theorem d_La_ask_20 : decode b_La_ask 20 = .ok (.ireturn, 1) := by decide +kernel
abbrev b_La_body : ByteArray := method_7_code
def y_La_body : MethodName := ⟨"QuestionDeskLaw", "body", "(LQuestionDesk;III[J)I"⟩
theorem d_La_body_0 : decode b_La_body 0 = .ok (.aload 4, 2) := by decide +kernel
theorem d_La_body_2 : decode b_La_body 2 = .ok (.iconst 0, 1) := by decide +kernel
theorem d_La_body_3 : decode b_La_body 3 = .ok (.aload_n 0, 1) := by decide +kernel
theorem d_La_body_4 : decode b_La_body 4 = .ok (.iload_n 1, 1) := by decide +kernel
theorem d_La_body_5 : decode b_La_body 5 = .ok (.iload_n 2, 1) := by decide +kernel
theorem d_La_body_6 : decode b_La_body 6 = .ok (.iload_n 3, 1) := by decide +kernel
theorem d_La_body_7 : decode b_La_body 7 = .ok (.invokevirtual 26, 3) := by decide +kernel
theorem d_La_body_10 : decode b_La_body 10 = .ok (.i2l, 1) := by decide +kernel
theorem d_La_body_11 : decode b_La_body 11 = .ok (.lastore, 1) := by decide +kernel
theorem d_La_body_12 : decode b_La_body 12 = .ok (.goto 11, 3) := by decide +kernel
theorem d_La_body_15 : decode b_La_body 15 = .ok (.astore 5, 2) := by decide +kernel
theorem d_La_body_17 : decode b_La_body 17 = .ok (.iconst 1, 1) := by decide +kernel
theorem d_La_body_18 : decode b_La_body 18 = .ok (.ireturn, 1) := by decide +kernel
theorem d_La_body_19 : decode b_La_body 19 = .ok (.astore 5, 2) := by decide +kernel
theorem d_La_body_21 : decode b_La_body 21 = .ok (.iconst 2, 1) := by decide +kernel
theorem d_La_body_22 : decode b_La_body 22 = .ok (.ireturn, 1) := by decide +kernel
theorem d_La_body_23 : decode b_La_body 23 = .ok (.iconst 0, 1) := by decide +kernel
theorem d_La_body_24 : decode b_La_body 24 = .ok (.ireturn, 1) := by decide +kernel
abbrev b_La_done : ByteArray := method_8_code
def y_La_done : MethodName := ⟨"QuestionDeskLaw", "done", "(LQuestionDesk;[J)I"⟩
theorem d_La_done_0 : decode b_La_done 0 = .ok (.aload_n 1, 1) := by decide +kernel
theorem d_La_done_1 : decode b_La_done 1 = .ok (.iconst 0, 1) := by decide +kernel
theorem d_La_done_2 : decode b_La_done 2 = .ok (.aload_n 0, 1) := by decide +kernel
theorem d_La_done_3 : decode b_La_done 3 = .ok (.invokevirtual 32, 3) := by decide +kernel
theorem d_La_done_6 : decode b_La_done 6 = .ok (.i2l, 1) := by decide +kernel
theorem d_La_done_7 : decode b_La_done 7 = .ok (.lastore, 1) := by decide +kernel
theorem d_La_done_8 : decode b_La_done 8 = .ok (.goto 6, 3) := by decide +kernel
theorem d_La_done_11 : decode b_La_done 11 = .ok (.astore_n 2, 1) := by decide +kernel
theorem d_La_done_12 : decode b_La_done 12 = .ok (.iconst 1, 1) := by decide +kernel
theorem d_La_done_13 : decode b_La_done 13 = .ok (.ireturn, 1) := by decide +kernel
theorem d_La_done_14 : decode b_La_done 14 = .ok (.iconst 0, 1) := by decide +kernel
theorem d_La_done_15 : decode b_La_done 15 = .ok (.ireturn, 1) := by decide +kernel
theorem xw_236 : (Jvm.Cond.code ({ cls := "QuestionDesk", name := "predicate", desc := "(IZ)I" } : Jvm.MethodName) prog_1_method_2_code (4 : Nat) (Option.some Jvm.ClassFile.FieldType.int)) ∈ xg := xg_t (i := 236) (by decide +kernel) (by decide +kernel)
theorem xw_233 : (Jvm.Cond.methodLink "QuestionDeskLaw" (7 : Nat) ({ cls := "QuestionDesk", name := "predicate", desc := "(IZ)I" } : Jvm.MethodName)) ∈ xg := xg_t (i := 233) (by decide +kernel) (by decide +kernel)
theorem xw_234 : (Jvm.Cond.instanceMethod ({ cls := "QuestionDesk", name := "predicate", desc := "(IZ)I" } : Jvm.MethodName)) ∈ xg := xg_t (i := 234) (by decide +kernel) (by decide +kernel)
theorem xw_235 : (Jvm.Cond.selects "QuestionDesk" ({ cls := "QuestionDesk", name := "predicate", desc := "(IZ)I" } : Jvm.MethodName) ({ cls := "QuestionDesk", name := "predicate", desc := "(IZ)I" } : Jvm.MethodName)) ∈ xg := xg_t (i := 235) (by decide +kernel) (by decide +kernel)
theorem xw_232 : (Jvm.Cond.classLink "QuestionDeskLaw" (13 : Nat) "java/lang/IllegalArgumentException") ∈ xg := xg_t (i := 232) (by decide +kernel) (by decide +kernel)
def wp_La_predicate (post : Int32 → Int32 → (Nat → Int32) → (Nat → Int32) → (Nat → Int64) → Prop)  (np : Int32) (qpl : Nat → Int32) (qbr : Nat → Int32) (oc : Nat → Int64) (a0 : Int32) (a1 : Int32) : Prop :=
wp_Qd_predicate (fun r_1 np_3 qpl_4 qbr_5 =>
vp_in 0 1 ∧
∀ oc_6 : Nat → Int64, oc_6 = vp_updL oc (Int32.toNatClampNeg 0) r_1.toInt64 →
post 0 np_3 qpl_4 qbr_5 oc_6) (fun E => (E = "java/lang/IllegalArgumentException" ∧
post 1 np qpl qbr oc)) np qpl qbr a0 a1
abbrev rm_La_predicate : Room := { frames := 8, cells := 1, slots := 6, locals := 133 }
set_option maxHeartbeats 4000000 in
set_option maxRecDepth 100000 in
theorem c_La_predicate {l : Launch} {D : va_G} {ad : Nat → Nat} (CE : Int32 → (Nat → Int32) → (Nat → Int32) → (Nat → Int64) → Nat → Option va_E) {cI cZ cJ cO : ClassId} {iQ : Nat} {ipl : Nat} {ibr : Nat} {iL : Nat} {iP : Nat} {iM : Nat} {iU : Nat} {ipt : Nat} {iO : Nat} {bg : Value} {rw : Int32} {aq : Int32} {pn : Int32} (k_Q : ∀ (np : Int32) (qpl : Nat → Int32) (qbr : Nat → Int32) (oc : Nat → Int64), (CE np qpl qbr oc) iQ = some (.inr (0, [.ref (ad ipl), .ref (ad ibr), .int np, .ref (ad iL), bg, .ref (ad iP), .ref (ad iM), .ref (ad iU), .ref (ad ipt), .int rw, .int aq, .int pn]))) (k_pl : ∀ (np : Int32) (qpl : Nat → Int32) (qbr : Nat → Int32) (oc : Nat → Int64), (CE np qpl qbr oc) ipl = some (.inl (cI, 10, .inl qpl))) (k_br : ∀ (np : Int32) (qpl : Nat → Int32) (qbr : Nat → Int32) (oc : Nat → Int64), (CE np qpl qbr oc) ibr = some (.inl (cZ, 10, .inl qbr))) (k_O : ∀ (np : Int32) (qpl : Nat → Int32) (qbr : Nat → Int32) (oc : Nat → Int64), (CE np qpl qbr oc) iO = some (.inl (cJ, 1, .inr (.inl oc)))) (u_Q : ∀ (np : Int32) (qpl : Nat → Int32) (qbr : Nat → Int32) (oc : Nat → Int64) (np' : Int32), va_up (CE np qpl qbr oc) iQ (some (.inr (0, [.ref (ad ipl), .ref (ad ibr), .int np', .ref (ad iL), bg, .ref (ad iP), .ref (ad iM), .ref (ad iU), .ref (ad ipt), .int rw, .int aq, .int pn]))) = (CE np' qpl qbr oc)) (u_pl : ∀ (np : Int32) (qpl : Nat → Int32) (qbr : Nat → Int32) (oc : Nat → Int64) (qpl' : Nat → Int32), va_up (CE np qpl qbr oc) ipl (some (.inl (cI, 10, .inl qpl'))) = (CE np qpl' qbr oc)) (u_br : ∀ (np : Int32) (qpl : Nat → Int32) (qbr : Nat → Int32) (oc : Nat → Int64) (qbr' : Nat → Int32), va_up (CE np qpl qbr oc) ibr (some (.inl (cZ, 10, .inl qbr'))) = (CE np qpl qbr' oc)) (u_O : ∀ (np : Int32) (qpl : Nat → Int32) (qbr : Nat → Int32) (oc : Nat → Int64) (oc' : Nat → Int64), va_up (CE np qpl qbr oc) iO (some (.inl (cJ, 1, .inr (.inl oc')))) = (CE np qpl qbr oc')) {post : Int32 → Int32 → (Nat → Int32) → (Nat → Int32) → (Nat → Int64) → Prop} {np : Int32} {qpl : Nat → Int32} {qbr : Nat → Int32} {oc : Nat → Int64} {a0 : Int32} {a1 : Int32} (hlt : l.stackTraces = false) (h : wp_La_predicate post np qpl qbr oc a0 a1) : ∀ sz, Met l y_La_predicate (Cond.codeWith y_La_predicate b_La_predicate 5 (some .int) [(0, 10, 13, 13)] :: xg) rm_La_predicate (xh_Pc D xcl (xT cI cZ cJ cO) ad (CE np qpl qbr oc) sz [.ref (ad iQ), .int a0, .int a1, .ref (ad iO)]) (va_Qi (fun (r : Int32) (u : Int32 × (Nat → Int32) × (Nat → Int32) × (Nat → Int64)) => post r u.1 u.2.1 u.2.2.1 u.2.2.2) (xm_B D xcl (xT cI cZ cJ cO) (xm_A ad (CE np qpl qbr oc) sz) (fun _ => ad) (fun u : Int32 × (Nat → Int32) × (Nat → Int32) × (Nat → Int64) => CE u.1 u.2.1 u.2.2.1 u.2.2.2)) (xm_A ad (CE np qpl qbr oc) sz)) 1 6 (xm_A ad (CE np qpl qbr oc) sz) := by
  refine xh_ofW (cc := b_La_predicate) (maxL := 5) (ret := (some .int)) (by decide) rfl (Nat.le_of_ble_eq_true rfl) ?_
  intro p e s m args below meth c ls QQ hQQ hT hNc htab hx hb hml hr hown hlk hnm hts hl hw
  have hl : lv_has ls 5 [(0, .ref (ad iQ)), (1, .int a0), (2, .int a1), (3, .ref (ad iO))] := hl
  unfold wp_La_predicate at h
  refine lv_aload_n hx hb d_La_predicate_0 rfl (lv_at hl 3 rfl) ?_
  refine lv_iconst (v := 0) hx hb d_La_predicate_1 (by decide) ?_
  refine lv_aload_n hx hb d_La_predicate_2 rfl (lv_at hl 0 rfl) ?_
  refine lv_iload_n hx hb d_La_predicate_3 rfl (lv_at hl 1 rfl) ?_
  refine lv_iload_n hx hb d_La_predicate_4 rfl (lv_at hl 2 rfl) ?_
  refine xv_calli (ua := fun _ => ad) (vx_runV (As := [.int a0, .int a1]) (rest := [.int 0, .ref (ad iO)]) ⟨hx, hb, hml, hown, hts⟩ (c_Qd_predicate (D := D) (ad := ad) (CE := (fun np qpl qbr => (CE np qpl qbr oc)))  (fun np qpl qbr => k_Q np qpl qbr oc) (fun np qpl qbr => k_pl np qpl qbr oc) (fun np qpl qbr => k_br np qpl qbr oc) (fun np qpl qbr np' => u_Q np qpl qbr oc np') (fun np qpl qbr qpl' => u_pl np qpl qbr oc qpl') (fun np qpl qbr qbr' => u_br np qpl qbr oc qbr') hlt h _) (xg_cwV 2 hts xw_236 xw_233 xw_234 xw_235 xw_1 rfl rfl (by decide +kernel) ⟨Nat.le_of_ble_eq_true rfl, Nat.le_of_ble_eq_true rfl⟩) (xv_preV hw hT (k_Q np qpl qbr oc) rfl _) rfl rfl hl.1 rfl (lv_room (Nat.le_of_ble_eq_true rfl)) d_La_predicate_5 ⟨Nat.le_of_ble_eq_true rfl, Nat.le_of_ble_eq_true rfl⟩) hw (fun E c9 q9 H locs hpx hw h1 h2 h3 => ?_) (fun r_1 u_2 H locs h hw => ?_)
  · rcases hpx with ⟨rfl, h⟩
    · refine vx_catch (name := "java/lang/IllegalArgumentException") hown [] ⟨0, 10, 13, 13⟩ [] (htab.trans rfl) (fun z hz => nomatch hz) (by decide) (by decide) (hts _ (List.mem_cons_of_mem _ xw_232)) ((hT.2.2.2.2.2 (.castable "java/lang/IllegalArgumentException" "java/lang/IllegalArgumentException") (by decide +kernel)).use rfl) h1 h2 h3 ?_
      refine lv_astore (lv' := [(4, .ref q9), (0, .ref (ad iQ)), (1, .int a0), (2, .int a1), (3, .ref (ad iO))]) hx hb d_La_predicate_13 hl (by decide) rfl (fun ls hl => ?_)
      refine lv_iconst (v := 1) hx hb d_La_predicate_15 (by decide) ?_
      subst hQQ
      refine W.widen (k := 1) (n := 6) (by decide) (by decide) ?_
      exact xm_iret hx hb hr hlk hw (np, qpl, qbr, oc) rfl rfl h d_La_predicate_16
  · obtain ⟨np_3, enp_3⟩ : ∃ z, z = u_2.1 := ⟨_, rfl⟩
    obtain ⟨qpl_4, eqpl_4⟩ : ∃ z, z = u_2.2.1 := ⟨_, rfl⟩
    obtain ⟨qbr_5, eqbr_5⟩ : ∃ z, z = u_2.2.2 := ⟨_, rfl⟩
    try dsimp only at h hw
    rw [← enp_3, ← eqpl_4, ← eqbr_5] at h hw
    refine lv_i2l hx hb d_La_predicate_8 rfl ?_
    obtain ⟨hin, h⟩ := h
    refine xm_last hx hb hw 2 (k_O np_3 qpl_4 qbr_5 oc) rfl hin d_La_predicate_9 (fun H locs hw => ?_)
    have hw : xm_W D xcl (xT cI cZ cJ cO) (xm_A ad (CE np qpl qbr oc) s.heap.size) ad (CE np_3 qpl_4 qbr_5 (vp_updL oc (Int32.toNatClampNeg 0) r_1.toInt64)) s s.heap H locs := xm_W.cast (u_O np_3 qpl_4 qbr_5 oc (vp_updL oc (Int32.toNatClampNeg 0) r_1.toInt64)) hw
    obtain ⟨oc_6, eoc_6⟩ : ∃ z : Nat → Int64, z = vp_updL oc (Int32.toNatClampNeg 0) r_1.toInt64 := ⟨_, rfl⟩
    have h := h oc_6 eoc_6
    rw [← eoc_6] at hw
    refine lv_goto (tgt := 17) hx hb d_La_predicate_10 (by decide) ?_
    refine lv_iconst (v := 0) hx hb d_La_predicate_17 (by decide) ?_
    subst hQQ
    refine W.widen (k := 1) (n := 6) (by decide) (by decide) ?_
    exact xm_iret hx hb hr hlk hw (np_3, qpl_4, qbr_5, oc_6) rfl rfl h d_La_predicate_18
theorem xw_313 : (Jvm.Cond.code ({ cls := "QuestionDesk", name := "fact", desc := "(III)Z" } : Jvm.MethodName) prog_1_method_3_code (4 : Nat) (Option.some Jvm.ClassFile.FieldType.boolean)) ∈ xg := xg_t (i := 313) (by decide +kernel) (by decide +kernel)
theorem xw_310 : (Jvm.Cond.methodLink "QuestionDeskLaw" (15 : Nat) ({ cls := "QuestionDesk", name := "fact", desc := "(III)Z" } : Jvm.MethodName)) ∈ xg := xg_t (i := 310) (by decide +kernel) (by decide +kernel)
theorem xw_311 : (Jvm.Cond.instanceMethod ({ cls := "QuestionDesk", name := "fact", desc := "(III)Z" } : Jvm.MethodName)) ∈ xg := xg_t (i := 311) (by decide +kernel) (by decide +kernel)
theorem xw_312 : (Jvm.Cond.selects "QuestionDesk" ({ cls := "QuestionDesk", name := "fact", desc := "(III)Z" } : Jvm.MethodName) ({ cls := "QuestionDesk", name := "fact", desc := "(III)Z" } : Jvm.MethodName)) ∈ xg := xg_t (i := 312) (by decide +kernel) (by decide +kernel)
def wp_La_fact (post : Int32 → (Nat → Int32) → (Nat → Int64) → Prop)  (np : Int32) (qpl : Nat → Int32) (qbr : Nat → Int32) (f : Nat → Int32) (oc : Nat → Int64) (a0 : Int32) (x : Int32) (y : Int32) : Prop :=
wp_Qd_fact (fun r_1 f_3 =>
xj (fun (v_4 : Int64) =>
vp_in 0 1 ∧
∀ oc_6 : Nat → Int64, oc_6 = vp_updL oc (Int32.toNatClampNeg 0) v_4 →
post 0 f_3 oc_6) (fun (J_5 : Int64 → Prop) =>
((r_1 = 0 →
J_5 0) ∧ (¬ r_1 = 0 →
J_5 1)))) (fun E => (E = "java/lang/IllegalArgumentException" ∧
post 1 f oc)) np qpl qbr f a0 x y
abbrev rm_La_fact : Room := { frames := 8, cells := 1, slots := 6, locals := 133 }
set_option maxHeartbeats 4000000 in
set_option maxRecDepth 100000 in
theorem c_La_fact {l : Launch} {D : va_G} {ad : Nat → Nat} (CE : (Nat → Int32) → (Nat → Int64) → Nat → Option va_E) {cI cZ cJ cO : ClassId} {iQ : Nat} {ipl : Nat} {ibr : Nat} {iL : Nat} {iP : Nat} {iM : Nat} {iU : Nat} {ipt : Nat} {iR : Nat} {iO : Nat} {np : Int32} {qpl : Nat → Int32} {qbr : Nat → Int32} {bg : Value} {rw : Int32} {aq : Int32} {pn : Int32} (k_Q : ∀ (f : Nat → Int32) (oc : Nat → Int64), (CE f oc) iQ = some (.inr (0, [.ref (ad ipl), .ref (ad ibr), .int np, .ref (ad iL), bg, .ref (ad iP), .ref (ad iM), .ref (ad iU), .ref (ad ipt), .int rw, .int aq, .int pn]))) (k_pl : ∀ (f : Nat → Int32) (oc : Nat → Int64), (CE f oc) ipl = some (.inl (cI, 10, .inl qpl))) (k_br : ∀ (f : Nat → Int32) (oc : Nat → Int64), (CE f oc) ibr = some (.inl (cZ, 10, .inl qbr))) (k_P : ∀ (f : Nat → Int32) (oc : Nat → Int64), (CE f oc) iP = some (.inr (1, [.ref (ad iR)]))) (k_R : ∀ (f : Nat → Int32) (oc : Nat → Int64), (CE f oc) iR = some (.inl (cI, 341, .inl f))) (k_O : ∀ (f : Nat → Int32) (oc : Nat → Int64), (CE f oc) iO = some (.inl (cJ, 1, .inr (.inl oc)))) (u_R : ∀ (f : Nat → Int32) (oc : Nat → Int64) (f' : Nat → Int32), va_up (CE f oc) iR (some (.inl (cI, 341, .inl f'))) = (CE f' oc)) (u_O : ∀ (f : Nat → Int32) (oc : Nat → Int64) (oc' : Nat → Int64), va_up (CE f oc) iO (some (.inl (cJ, 1, .inr (.inl oc')))) = (CE f oc')) {post : Int32 → (Nat → Int32) → (Nat → Int64) → Prop} {f : Nat → Int32} {oc : Nat → Int64} {a0 : Int32} {x : Int32} {y : Int32} (hlt : l.stackTraces = false) (h : wp_La_fact post np qpl qbr f oc a0 x y) : ∀ sz, Met l y_La_fact (Cond.codeWith y_La_fact b_La_fact 6 (some .int) [(0, 19, 22, 13)] :: xg) rm_La_fact (xh_Pc D xcl (xT cI cZ cJ cO) ad (CE f oc) sz [.ref (ad iQ), .int a0, .int x, .int y, .ref (ad iO)]) (va_Qi (fun (r : Int32) (u : (Nat → Int32) × (Nat → Int64)) => post r u.1 u.2) (xm_B D xcl (xT cI cZ cJ cO) (xm_A ad (CE f oc) sz) (fun _ => ad) (fun u : (Nat → Int32) × (Nat → Int64) => CE u.1 u.2)) (xm_A ad (CE f oc) sz)) 1 6 (xm_A ad (CE f oc) sz) := by
  refine xh_ofW (cc := b_La_fact) (maxL := 6) (ret := (some .int)) (by decide) rfl (Nat.le_of_ble_eq_true rfl) ?_
  intro p e s m args below meth c ls QQ hQQ hT hNc htab hx hb hml hr hown hlk hnm hts hl hw
  have hl : lv_has ls 6 [(0, .ref (ad iQ)), (1, .int a0), (2, .int x), (3, .int y), (4, .ref (ad iO))] := hl
  unfold wp_La_fact at h
  refine lv_aload hx hb d_La_fact_0 (lv_at hl 4 rfl) ?_
  refine lv_iconst (v := 0) hx hb d_La_fact_2 (by decide) ?_
  refine lv_aload_n hx hb d_La_fact_3 rfl (lv_at hl 0 rfl) ?_
  refine lv_iload_n hx hb d_La_fact_4 rfl (lv_at hl 1 rfl) ?_
  refine lv_iload_n hx hb d_La_fact_5 rfl (lv_at hl 2 rfl) ?_
  refine lv_iload_n hx hb d_La_fact_6 rfl (lv_at hl 3 rfl) ?_
  refine xv_calli (ua := fun _ => ad) (vx_runV (As := [.int a0, .int x, .int y]) (rest := [.int 0, .ref (ad iO)]) ⟨hx, hb, hml, hown, hts⟩ (c_Qd_fact (D := D) (ad := ad) (CE := (fun f => (CE f oc)))  (fun f => k_Q f oc) (fun f => k_pl f oc) (fun f => k_br f oc) (fun f => k_P f oc) (fun f => k_R f oc) (fun f f' => u_R f oc f') hlt h _) (xg_cwV 3 hts xw_313 xw_310 xw_311 xw_312 xw_1 rfl rfl (by decide +kernel) ⟨Nat.le_of_ble_eq_true rfl, Nat.le_of_ble_eq_true rfl⟩) (xv_preV hw hT (k_Q f oc) rfl _) rfl rfl hl.1 rfl (lv_room (Nat.le_of_ble_eq_true rfl)) d_La_fact_7 ⟨Nat.le_of_ble_eq_true rfl, Nat.le_of_ble_eq_true rfl⟩) hw (fun E c9 q9 H locs hpx hw h1 h2 h3 => ?_) (fun r_1 u_2 H locs h hw => ?_)
  · rcases hpx with ⟨rfl, h⟩
    · refine vx_catch (name := "java/lang/IllegalArgumentException") hown [] ⟨0, 19, 22, 13⟩ [] (htab.trans rfl) (fun z hz => nomatch hz) (by decide) (by decide) (hts _ (List.mem_cons_of_mem _ xw_232)) ((hT.2.2.2.2.2 (.castable "java/lang/IllegalArgumentException" "java/lang/IllegalArgumentException") (by decide +kernel)).use rfl) h1 h2 h3 ?_
      refine lv_astore (lv' := [(5, .ref q9), (0, .ref (ad iQ)), (1, .int a0), (2, .int x), (3, .int y), (4, .ref (ad iO))]) hx hb d_La_fact_22 hl (by decide) rfl (fun ls hl => ?_)
      refine lv_iconst (v := 1) hx hb d_La_fact_24 (by decide) ?_
      subst hQQ
      refine W.widen (k := 1) (n := 6) (by decide) (by decide) ?_
      exact xm_iret hx hb hr hlk hw (f, oc) rfl rfl h d_La_fact_25
  · obtain ⟨f_3, ef_3⟩ : ∃ z, z = u_2 := ⟨_, rfl⟩
    try dsimp only at h hw
    rw [← ef_3] at h hw
    refine xj_use h (fun (v_4 : Int64) => ∀ (H : Heap) (locs : List Loc) (ls : Array Slot), xm_W D xcl (xT cI cZ cJ cO) (xm_A ad (CE f oc) s.heap.size) ad (CE f_3 oc) s s.heap H locs → lv_has ls 6 [] → W p l e rm_La_fact s m args below meth c H locs 1 6 QQ (F0 m 18 ls [.long v_4, .int 0, .ref (ad iO)])) (fun v_4 h H locs ls hw hl => ?_) (fun J_5 hJ_5 h => ?_)
    · obtain ⟨hin, h⟩ := h
      refine xm_last hx hb hw 2 (k_O f_3 oc) rfl hin d_La_fact_18 (fun H locs hw => ?_)
      have hw : xm_W D xcl (xT cI cZ cJ cO) (xm_A ad (CE f oc) s.heap.size) ad (CE f_3 (vp_updL oc (Int32.toNatClampNeg 0) v_4)) s s.heap H locs := xm_W.cast (u_O f_3 oc (vp_updL oc (Int32.toNatClampNeg 0) v_4)) hw
      obtain ⟨oc_6, eoc_6⟩ : ∃ z : Nat → Int64, z = vp_updL oc (Int32.toNatClampNeg 0) v_4 := ⟨_, rfl⟩
      have h := h oc_6 eoc_6
      rw [← eoc_6] at hw
      refine lv_goto (tgt := 26) hx hb d_La_fact_19 (by decide) ?_
      refine lv_iconst (v := 0) hx hb d_La_fact_26 (by decide) ?_
      subst hQQ
      refine W.widen (k := 1) (n := 6) (by decide) (by decide) ?_
      exact xm_iret hx hb hr hlk hw (f_3, oc_6) rfl rfl h d_La_fact_27
    · refine lv_if_eq (tgt := 17) hx hb d_La_fact_10 (by decide) (fun hc => ?_) (fun hc => ?_)
      · have h := h.1 hc
        refine lv_lconst (v := 0) hx hb d_La_fact_17 (by decide) ?_
        exact hJ_5 0 h _ _ _ hw (lv_sub hl [] rfl)
      · have h := h.2 hc
        refine lv_lconst (v := 1) hx hb d_La_fact_13 (by decide) ?_
        refine lv_goto (tgt := 18) hx hb d_La_fact_14 (by decide) ?_
        exact hJ_5 1 h _ _ _ hw (lv_sub hl [] rfl)
theorem xw_328 : (Jvm.Cond.code ({ cls := "QuestionDesk", name := "drop", desc := "(III)Z" } : Jvm.MethodName) prog_1_method_4_code (4 : Nat) (Option.some Jvm.ClassFile.FieldType.boolean)) ∈ xg := xg_t (i := 328) (by decide +kernel) (by decide +kernel)
theorem xw_325 : (Jvm.Cond.methodLink "QuestionDeskLaw" (19 : Nat) ({ cls := "QuestionDesk", name := "drop", desc := "(III)Z" } : Jvm.MethodName)) ∈ xg := xg_t (i := 325) (by decide +kernel) (by decide +kernel)
theorem xw_326 : (Jvm.Cond.instanceMethod ({ cls := "QuestionDesk", name := "drop", desc := "(III)Z" } : Jvm.MethodName)) ∈ xg := xg_t (i := 326) (by decide +kernel) (by decide +kernel)
theorem xw_327 : (Jvm.Cond.selects "QuestionDesk" ({ cls := "QuestionDesk", name := "drop", desc := "(III)Z" } : Jvm.MethodName) ({ cls := "QuestionDesk", name := "drop", desc := "(III)Z" } : Jvm.MethodName)) ∈ xg := xg_t (i := 327) (by decide +kernel) (by decide +kernel)
def wp_La_drop (post : Int32 → (Nat → Int32) → (Nat → Int64) → Prop)  (np : Int32) (qpl : Nat → Int32) (qbr : Nat → Int32) (f : Nat → Int32) (oc : Nat → Int64) (a0 : Int32) (x : Int32) (y : Int32) : Prop :=
wp_Qd_drop (fun r_1 f_3 =>
xj (fun (v_4 : Int64) =>
vp_in 0 1 ∧
∀ oc_6 : Nat → Int64, oc_6 = vp_updL oc (Int32.toNatClampNeg 0) v_4 →
post 0 f_3 oc_6) (fun (J_5 : Int64 → Prop) =>
((r_1 = 0 →
J_5 0) ∧ (¬ r_1 = 0 →
J_5 1)))) (fun E => (E = "java/lang/IllegalArgumentException" ∧
post 1 f oc)) np qpl qbr f a0 x y
abbrev rm_La_drop : Room := { frames := 8, cells := 1, slots := 6, locals := 133 }
set_option maxHeartbeats 4000000 in
set_option maxRecDepth 100000 in
theorem c_La_drop {l : Launch} {D : va_G} {ad : Nat → Nat} (CE : (Nat → Int32) → (Nat → Int64) → Nat → Option va_E) {cI cZ cJ cO : ClassId} {iQ : Nat} {ipl : Nat} {ibr : Nat} {iL : Nat} {iP : Nat} {iM : Nat} {iU : Nat} {ipt : Nat} {iR : Nat} {iO : Nat} {np : Int32} {qpl : Nat → Int32} {qbr : Nat → Int32} {bg : Value} {rw : Int32} {aq : Int32} {pn : Int32} (k_Q : ∀ (f : Nat → Int32) (oc : Nat → Int64), (CE f oc) iQ = some (.inr (0, [.ref (ad ipl), .ref (ad ibr), .int np, .ref (ad iL), bg, .ref (ad iP), .ref (ad iM), .ref (ad iU), .ref (ad ipt), .int rw, .int aq, .int pn]))) (k_pl : ∀ (f : Nat → Int32) (oc : Nat → Int64), (CE f oc) ipl = some (.inl (cI, 10, .inl qpl))) (k_br : ∀ (f : Nat → Int32) (oc : Nat → Int64), (CE f oc) ibr = some (.inl (cZ, 10, .inl qbr))) (k_P : ∀ (f : Nat → Int32) (oc : Nat → Int64), (CE f oc) iP = some (.inr (1, [.ref (ad iR)]))) (k_R : ∀ (f : Nat → Int32) (oc : Nat → Int64), (CE f oc) iR = some (.inl (cI, 341, .inl f))) (k_O : ∀ (f : Nat → Int32) (oc : Nat → Int64), (CE f oc) iO = some (.inl (cJ, 1, .inr (.inl oc)))) (u_R : ∀ (f : Nat → Int32) (oc : Nat → Int64) (f' : Nat → Int32), va_up (CE f oc) iR (some (.inl (cI, 341, .inl f'))) = (CE f' oc)) (u_O : ∀ (f : Nat → Int32) (oc : Nat → Int64) (oc' : Nat → Int64), va_up (CE f oc) iO (some (.inl (cJ, 1, .inr (.inl oc')))) = (CE f oc')) {post : Int32 → (Nat → Int32) → (Nat → Int64) → Prop} {f : Nat → Int32} {oc : Nat → Int64} {a0 : Int32} {x : Int32} {y : Int32} (hlt : l.stackTraces = false) (h : wp_La_drop post np qpl qbr f oc a0 x y) : ∀ sz, Met l y_La_drop (Cond.codeWith y_La_drop b_La_drop 6 (some .int) [(0, 19, 22, 13)] :: xg) rm_La_drop (xh_Pc D xcl (xT cI cZ cJ cO) ad (CE f oc) sz [.ref (ad iQ), .int a0, .int x, .int y, .ref (ad iO)]) (va_Qi (fun (r : Int32) (u : (Nat → Int32) × (Nat → Int64)) => post r u.1 u.2) (xm_B D xcl (xT cI cZ cJ cO) (xm_A ad (CE f oc) sz) (fun _ => ad) (fun u : (Nat → Int32) × (Nat → Int64) => CE u.1 u.2)) (xm_A ad (CE f oc) sz)) 1 6 (xm_A ad (CE f oc) sz) := by
  refine xh_ofW (cc := b_La_drop) (maxL := 6) (ret := (some .int)) (by decide) rfl (Nat.le_of_ble_eq_true rfl) ?_
  intro p e s m args below meth c ls QQ hQQ hT hNc htab hx hb hml hr hown hlk hnm hts hl hw
  have hl : lv_has ls 6 [(0, .ref (ad iQ)), (1, .int a0), (2, .int x), (3, .int y), (4, .ref (ad iO))] := hl
  unfold wp_La_drop at h
  refine lv_aload hx hb d_La_drop_0 (lv_at hl 4 rfl) ?_
  refine lv_iconst (v := 0) hx hb d_La_drop_2 (by decide) ?_
  refine lv_aload_n hx hb d_La_drop_3 rfl (lv_at hl 0 rfl) ?_
  refine lv_iload_n hx hb d_La_drop_4 rfl (lv_at hl 1 rfl) ?_
  refine lv_iload_n hx hb d_La_drop_5 rfl (lv_at hl 2 rfl) ?_
  refine lv_iload_n hx hb d_La_drop_6 rfl (lv_at hl 3 rfl) ?_
  refine xv_calli (ua := fun _ => ad) (vx_runV (As := [.int a0, .int x, .int y]) (rest := [.int 0, .ref (ad iO)]) ⟨hx, hb, hml, hown, hts⟩ (c_Qd_drop (D := D) (ad := ad) (CE := (fun f => (CE f oc)))  (fun f => k_Q f oc) (fun f => k_pl f oc) (fun f => k_br f oc) (fun f => k_P f oc) (fun f => k_R f oc) (fun f f' => u_R f oc f') hlt h _) (xg_cwV 3 hts xw_328 xw_325 xw_326 xw_327 xw_1 rfl rfl (by decide +kernel) ⟨Nat.le_of_ble_eq_true rfl, Nat.le_of_ble_eq_true rfl⟩) (xv_preV hw hT (k_Q f oc) rfl _) rfl rfl hl.1 rfl (lv_room (Nat.le_of_ble_eq_true rfl)) d_La_drop_7 ⟨Nat.le_of_ble_eq_true rfl, Nat.le_of_ble_eq_true rfl⟩) hw (fun E c9 q9 H locs hpx hw h1 h2 h3 => ?_) (fun r_1 u_2 H locs h hw => ?_)
  · rcases hpx with ⟨rfl, h⟩
    · refine vx_catch (name := "java/lang/IllegalArgumentException") hown [] ⟨0, 19, 22, 13⟩ [] (htab.trans rfl) (fun z hz => nomatch hz) (by decide) (by decide) (hts _ (List.mem_cons_of_mem _ xw_232)) ((hT.2.2.2.2.2 (.castable "java/lang/IllegalArgumentException" "java/lang/IllegalArgumentException") (by decide +kernel)).use rfl) h1 h2 h3 ?_
      refine lv_astore (lv' := [(5, .ref q9), (0, .ref (ad iQ)), (1, .int a0), (2, .int x), (3, .int y), (4, .ref (ad iO))]) hx hb d_La_drop_22 hl (by decide) rfl (fun ls hl => ?_)
      refine lv_iconst (v := 1) hx hb d_La_drop_24 (by decide) ?_
      subst hQQ
      refine W.widen (k := 1) (n := 6) (by decide) (by decide) ?_
      exact xm_iret hx hb hr hlk hw (f, oc) rfl rfl h d_La_drop_25
  · obtain ⟨f_3, ef_3⟩ : ∃ z, z = u_2 := ⟨_, rfl⟩
    try dsimp only at h hw
    rw [← ef_3] at h hw
    refine xj_use h (fun (v_4 : Int64) => ∀ (H : Heap) (locs : List Loc) (ls : Array Slot), xm_W D xcl (xT cI cZ cJ cO) (xm_A ad (CE f oc) s.heap.size) ad (CE f_3 oc) s s.heap H locs → lv_has ls 6 [] → W p l e rm_La_drop s m args below meth c H locs 1 6 QQ (F0 m 18 ls [.long v_4, .int 0, .ref (ad iO)])) (fun v_4 h H locs ls hw hl => ?_) (fun J_5 hJ_5 h => ?_)
    · obtain ⟨hin, h⟩ := h
      refine xm_last hx hb hw 2 (k_O f_3 oc) rfl hin d_La_drop_18 (fun H locs hw => ?_)
      have hw : xm_W D xcl (xT cI cZ cJ cO) (xm_A ad (CE f oc) s.heap.size) ad (CE f_3 (vp_updL oc (Int32.toNatClampNeg 0) v_4)) s s.heap H locs := xm_W.cast (u_O f_3 oc (vp_updL oc (Int32.toNatClampNeg 0) v_4)) hw
      obtain ⟨oc_6, eoc_6⟩ : ∃ z : Nat → Int64, z = vp_updL oc (Int32.toNatClampNeg 0) v_4 := ⟨_, rfl⟩
      have h := h oc_6 eoc_6
      rw [← eoc_6] at hw
      refine lv_goto (tgt := 26) hx hb d_La_drop_19 (by decide) ?_
      refine lv_iconst (v := 0) hx hb d_La_drop_26 (by decide) ?_
      subst hQQ
      refine W.widen (k := 1) (n := 6) (by decide) (by decide) ?_
      exact xm_iret hx hb hr hlk hw (f_3, oc_6) rfl rfl h d_La_drop_27
    · refine lv_if_eq (tgt := 17) hx hb d_La_drop_10 (by decide) (fun hc => ?_) (fun hc => ?_)
      · have h := h.1 hc
        refine lv_lconst (v := 0) hx hb d_La_drop_17 (by decide) ?_
        exact hJ_5 0 h _ _ _ hw (lv_sub hl [] rfl)
      · have h := h.2 hc
        refine lv_lconst (v := 1) hx hb d_La_drop_13 (by decide) ?_
        refine lv_goto (tgt := 18) hx hb d_La_drop_14 (by decide) ?_
        exact hJ_5 1 h _ _ _ hw (lv_sub hl [] rfl)
theorem xw_541 : (Jvm.Cond.code ({ cls := "QuestionDesk", name := "holds", desc := "(III)Z" } : Jvm.MethodName) prog_1_method_11_code (4 : Nat) (Option.some Jvm.ClassFile.FieldType.boolean)) ∈ xg := xg_t (i := 541) (by decide +kernel) (by decide +kernel)
theorem xw_538 : (Jvm.Cond.methodLink "QuestionDeskLaw" (39 : Nat) ({ cls := "QuestionDesk", name := "holds", desc := "(III)Z" } : Jvm.MethodName)) ∈ xg := xg_t (i := 538) (by decide +kernel) (by decide +kernel)
theorem xw_539 : (Jvm.Cond.instanceMethod ({ cls := "QuestionDesk", name := "holds", desc := "(III)Z" } : Jvm.MethodName)) ∈ xg := xg_t (i := 539) (by decide +kernel) (by decide +kernel)
theorem xw_540 : (Jvm.Cond.selects "QuestionDesk" ({ cls := "QuestionDesk", name := "holds", desc := "(III)Z" } : Jvm.MethodName) ({ cls := "QuestionDesk", name := "holds", desc := "(III)Z" } : Jvm.MethodName)) ∈ xg := xg_t (i := 540) (by decide +kernel) (by decide +kernel)
def wp_La_holds (post : Int32 → (Nat → Int64) → Prop)  (np : Int32) (qpl : Nat → Int32) (f : Nat → Int32) (oc : Nat → Int64) (a0 : Int32) (x : Int32) (y : Int32) : Prop :=
wp_Qd_holds (fun r_1 =>
xj (fun (v_3 : Int64) =>
vp_in 0 1 ∧
∀ oc_5 : Nat → Int64, oc_5 = vp_updL oc (Int32.toNatClampNeg 0) v_3 →
post 0 oc_5) (fun (J_4 : Int64 → Prop) =>
((r_1 = 0 →
J_4 0) ∧ (¬ r_1 = 0 →
J_4 1)))) (fun E => (E = "java/lang/IllegalArgumentException" ∧
post 1 oc)) np qpl f a0 x y
abbrev rm_La_holds : Room := { frames := 8, cells := 1, slots := 6, locals := 133 }
set_option maxHeartbeats 4000000 in
set_option maxRecDepth 100000 in
theorem c_La_holds {l : Launch} {D : va_G} {ad : Nat → Nat} (CE : (Nat → Int64) → Nat → Option va_E) {cI cZ cJ cO : ClassId} {iQ : Nat} {ipl : Nat} {ibr : Nat} {iL : Nat} {iP : Nat} {iM : Nat} {iU : Nat} {ipt : Nat} {iR : Nat} {iO : Nat} {np : Int32} {qpl : Nat → Int32} {f : Nat → Int32} {bg : Value} {rw : Int32} {aq : Int32} {pn : Int32} (k_Q : ∀ (oc : Nat → Int64), (CE oc) iQ = some (.inr (0, [.ref (ad ipl), .ref (ad ibr), .int np, .ref (ad iL), bg, .ref (ad iP), .ref (ad iM), .ref (ad iU), .ref (ad ipt), .int rw, .int aq, .int pn]))) (k_pl : ∀ (oc : Nat → Int64), (CE oc) ipl = some (.inl (cI, 10, .inl qpl))) (k_P : ∀ (oc : Nat → Int64), (CE oc) iP = some (.inr (1, [.ref (ad iR)]))) (k_R : ∀ (oc : Nat → Int64), (CE oc) iR = some (.inl (cI, 341, .inl f))) (k_O : ∀ (oc : Nat → Int64), (CE oc) iO = some (.inl (cJ, 1, .inr (.inl oc)))) (u_O : ∀ (oc : Nat → Int64) (oc' : Nat → Int64), va_up (CE oc) iO (some (.inl (cJ, 1, .inr (.inl oc')))) = (CE oc')) {post : Int32 → (Nat → Int64) → Prop} {oc : Nat → Int64} {a0 : Int32} {x : Int32} {y : Int32} (hlt : l.stackTraces = false) (h : wp_La_holds post np qpl f oc a0 x y) : ∀ sz, Met l y_La_holds (Cond.codeWith y_La_holds b_La_holds 6 (some .int) [(0, 19, 22, 13)] :: xg) rm_La_holds (xh_Pc D xcl (xT cI cZ cJ cO) ad (CE oc) sz [.ref (ad iQ), .int a0, .int x, .int y, .ref (ad iO)]) (va_Qi (fun (r : Int32) (u : (Nat → Int64)) => post r u) (xm_B D xcl (xT cI cZ cJ cO) (xm_A ad (CE oc) sz) (fun _ => ad) (fun u : (Nat → Int64) => CE u)) (xm_A ad (CE oc) sz)) 1 6 (xm_A ad (CE oc) sz) := by
  refine xh_ofW (cc := b_La_holds) (maxL := 6) (ret := (some .int)) (by decide) rfl (Nat.le_of_ble_eq_true rfl) ?_
  intro p e s m args below meth c ls QQ hQQ hT hNc htab hx hb hml hr hown hlk hnm hts hl hw
  have hl : lv_has ls 6 [(0, .ref (ad iQ)), (1, .int a0), (2, .int x), (3, .int y), (4, .ref (ad iO))] := hl
  unfold wp_La_holds at h
  refine lv_aload hx hb d_La_holds_0 (lv_at hl 4 rfl) ?_
  refine lv_iconst (v := 0) hx hb d_La_holds_2 (by decide) ?_
  refine lv_aload_n hx hb d_La_holds_3 rfl (lv_at hl 0 rfl) ?_
  refine lv_iload_n hx hb d_La_holds_4 rfl (lv_at hl 1 rfl) ?_
  refine lv_iload_n hx hb d_La_holds_5 rfl (lv_at hl 2 rfl) ?_
  refine lv_iload_n hx hb d_La_holds_6 rfl (lv_at hl 3 rfl) ?_
  refine xv_calli (ua := fun _ => ad) (vx_runV (As := [.int a0, .int x, .int y]) (rest := [.int 0, .ref (ad iO)]) ⟨hx, hb, hml, hown, hts⟩ (c_Qd_holds (D := D) (ad := ad) (CE := ((CE oc)))  (k_Q oc) (k_pl oc) (k_P oc) (k_R oc) hlt h _) (xg_cwV 3 hts xw_541 xw_538 xw_539 xw_540 xw_1 rfl rfl (by decide +kernel) ⟨Nat.le_of_ble_eq_true rfl, Nat.le_of_ble_eq_true rfl⟩) (xv_preV hw hT (k_Q oc) rfl _) rfl rfl hl.1 rfl (lv_room (Nat.le_of_ble_eq_true rfl)) d_La_holds_7 ⟨Nat.le_of_ble_eq_true rfl, Nat.le_of_ble_eq_true rfl⟩) hw (fun E c9 q9 H locs hpx hw h1 h2 h3 => ?_) (fun r_1 _ H locs h hw => ?_)
  · rcases hpx with ⟨rfl, h⟩
    · refine vx_catch (name := "java/lang/IllegalArgumentException") hown [] ⟨0, 19, 22, 13⟩ [] (htab.trans rfl) (fun z hz => nomatch hz) (by decide) (by decide) (hts _ (List.mem_cons_of_mem _ xw_232)) ((hT.2.2.2.2.2 (.castable "java/lang/IllegalArgumentException" "java/lang/IllegalArgumentException") (by decide +kernel)).use rfl) h1 h2 h3 ?_
      refine lv_astore (lv' := [(5, .ref q9), (0, .ref (ad iQ)), (1, .int a0), (2, .int x), (3, .int y), (4, .ref (ad iO))]) hx hb d_La_holds_22 hl (by decide) rfl (fun ls hl => ?_)
      refine lv_iconst (v := 1) hx hb d_La_holds_24 (by decide) ?_
      subst hQQ
      refine W.widen (k := 1) (n := 6) (by decide) (by decide) ?_
      exact xm_iret hx hb hr hlk hw (oc) rfl rfl h d_La_holds_25
  · refine xj_use h (fun (v_3 : Int64) => ∀ (H : Heap) (locs : List Loc) (ls : Array Slot), xm_W D xcl (xT cI cZ cJ cO) (xm_A ad (CE oc) s.heap.size) ad (CE oc) s s.heap H locs → lv_has ls 6 [] → W p l e rm_La_holds s m args below meth c H locs 1 6 QQ (F0 m 18 ls [.long v_3, .int 0, .ref (ad iO)])) (fun v_3 h H locs ls hw hl => ?_) (fun J_4 hJ_4 h => ?_)
    · obtain ⟨hin, h⟩ := h
      refine xm_last hx hb hw 2 (k_O oc) rfl hin d_La_holds_18 (fun H locs hw => ?_)
      have hw : xm_W D xcl (xT cI cZ cJ cO) (xm_A ad (CE oc) s.heap.size) ad (CE (vp_updL oc (Int32.toNatClampNeg 0) v_3)) s s.heap H locs := xm_W.cast (u_O oc (vp_updL oc (Int32.toNatClampNeg 0) v_3)) hw
      obtain ⟨oc_5, eoc_5⟩ : ∃ z : Nat → Int64, z = vp_updL oc (Int32.toNatClampNeg 0) v_3 := ⟨_, rfl⟩
      have h := h oc_5 eoc_5
      rw [← eoc_5] at hw
      refine lv_goto (tgt := 26) hx hb d_La_holds_19 (by decide) ?_
      refine lv_iconst (v := 0) hx hb d_La_holds_26 (by decide) ?_
      subst hQQ
      refine W.widen (k := 1) (n := 6) (by decide) (by decide) ?_
      exact xm_iret hx hb hr hlk hw (oc_5) rfl rfl h d_La_holds_27
    · refine lv_if_eq (tgt := 17) hx hb d_La_holds_10 (by decide) (fun hc => ?_) (fun hc => ?_)
      · have h := h.1 hc
        refine lv_lconst (v := 0) hx hb d_La_holds_17 (by decide) ?_
        exact hJ_4 0 h _ _ _ hw (lv_sub hl [] rfl)
      · have h := h.2 hc
        refine lv_lconst (v := 1) hx hb d_La_holds_13 (by decide) ?_
        refine lv_goto (tgt := 18) hx hb d_La_holds_14 (by decide) ?_
        exact hJ_4 1 h _ _ _ hw (lv_sub hl [] rfl)
theorem xw_548 : (Jvm.Cond.code ({ cls := "QuestionDesk", name := "wanted", desc := "(III)Z" } : Jvm.MethodName) prog_1_method_12_code (4 : Nat) (Option.some Jvm.ClassFile.FieldType.boolean)) ∈ xg := xg_t (i := 548) (by decide +kernel) (by decide +kernel)
theorem xw_545 : (Jvm.Cond.methodLink "QuestionDeskLaw" (42 : Nat) ({ cls := "QuestionDesk", name := "wanted", desc := "(III)Z" } : Jvm.MethodName)) ∈ xg := xg_t (i := 545) (by decide +kernel) (by decide +kernel)
theorem xw_546 : (Jvm.Cond.instanceMethod ({ cls := "QuestionDesk", name := "wanted", desc := "(III)Z" } : Jvm.MethodName)) ∈ xg := xg_t (i := 546) (by decide +kernel) (by decide +kernel)
theorem xw_547 : (Jvm.Cond.selects "QuestionDesk" ({ cls := "QuestionDesk", name := "wanted", desc := "(III)Z" } : Jvm.MethodName) ({ cls := "QuestionDesk", name := "wanted", desc := "(III)Z" } : Jvm.MethodName)) ∈ xg := xg_t (i := 547) (by decide +kernel) (by decide +kernel)
def wp_La_wanted (post : Int32 → (Nat → Int64) → Prop)  (np : Int32) (qpl : Nat → Int32) (f : Nat → Int32) (oc : Nat → Int64) (a0 : Int32) (x : Int32) (y : Int32) : Prop :=
wp_Qd_wanted (fun r_1 =>
xj (fun (v_3 : Int64) =>
vp_in 0 1 ∧
∀ oc_5 : Nat → Int64, oc_5 = vp_updL oc (Int32.toNatClampNeg 0) v_3 →
post 0 oc_5) (fun (J_4 : Int64 → Prop) =>
((r_1 = 0 →
J_4 0) ∧ (¬ r_1 = 0 →
J_4 1)))) (fun E => (E = "java/lang/IllegalArgumentException" ∧
post 1 oc)) np qpl f a0 x y
abbrev rm_La_wanted : Room := { frames := 8, cells := 1, slots := 6, locals := 133 }
set_option maxHeartbeats 4000000 in
set_option maxRecDepth 100000 in
theorem c_La_wanted {l : Launch} {D : va_G} {ad : Nat → Nat} (CE : (Nat → Int64) → Nat → Option va_E) {cI cZ cJ cO : ClassId} {iQ : Nat} {ipl : Nat} {ibr : Nat} {iL : Nat} {iP : Nat} {iM : Nat} {iU : Nat} {ipt : Nat} {iR : Nat} {iO : Nat} {np : Int32} {qpl : Nat → Int32} {f : Nat → Int32} {bg : Value} {rw : Int32} {aq : Int32} {pn : Int32} (k_Q : ∀ (oc : Nat → Int64), (CE oc) iQ = some (.inr (0, [.ref (ad ipl), .ref (ad ibr), .int np, .ref (ad iL), bg, .ref (ad iP), .ref (ad iM), .ref (ad iU), .ref (ad ipt), .int rw, .int aq, .int pn]))) (k_pl : ∀ (oc : Nat → Int64), (CE oc) ipl = some (.inl (cI, 10, .inl qpl))) (k_P : ∀ (oc : Nat → Int64), (CE oc) iP = some (.inr (1, [.ref (ad iR)]))) (k_R : ∀ (oc : Nat → Int64), (CE oc) iR = some (.inl (cI, 341, .inl f))) (k_O : ∀ (oc : Nat → Int64), (CE oc) iO = some (.inl (cJ, 1, .inr (.inl oc)))) (u_O : ∀ (oc : Nat → Int64) (oc' : Nat → Int64), va_up (CE oc) iO (some (.inl (cJ, 1, .inr (.inl oc')))) = (CE oc')) {post : Int32 → (Nat → Int64) → Prop} {oc : Nat → Int64} {a0 : Int32} {x : Int32} {y : Int32} (hlt : l.stackTraces = false) (h : wp_La_wanted post np qpl f oc a0 x y) : ∀ sz, Met l y_La_wanted (Cond.codeWith y_La_wanted b_La_wanted 6 (some .int) [(0, 19, 22, 13)] :: xg) rm_La_wanted (xh_Pc D xcl (xT cI cZ cJ cO) ad (CE oc) sz [.ref (ad iQ), .int a0, .int x, .int y, .ref (ad iO)]) (va_Qi (fun (r : Int32) (u : (Nat → Int64)) => post r u) (xm_B D xcl (xT cI cZ cJ cO) (xm_A ad (CE oc) sz) (fun _ => ad) (fun u : (Nat → Int64) => CE u)) (xm_A ad (CE oc) sz)) 1 6 (xm_A ad (CE oc) sz) := by
  refine xh_ofW (cc := b_La_wanted) (maxL := 6) (ret := (some .int)) (by decide) rfl (Nat.le_of_ble_eq_true rfl) ?_
  intro p e s m args below meth c ls QQ hQQ hT hNc htab hx hb hml hr hown hlk hnm hts hl hw
  have hl : lv_has ls 6 [(0, .ref (ad iQ)), (1, .int a0), (2, .int x), (3, .int y), (4, .ref (ad iO))] := hl
  unfold wp_La_wanted at h
  refine lv_aload hx hb d_La_wanted_0 (lv_at hl 4 rfl) ?_
  refine lv_iconst (v := 0) hx hb d_La_wanted_2 (by decide) ?_
  refine lv_aload_n hx hb d_La_wanted_3 rfl (lv_at hl 0 rfl) ?_
  refine lv_iload_n hx hb d_La_wanted_4 rfl (lv_at hl 1 rfl) ?_
  refine lv_iload_n hx hb d_La_wanted_5 rfl (lv_at hl 2 rfl) ?_
  refine lv_iload_n hx hb d_La_wanted_6 rfl (lv_at hl 3 rfl) ?_
  refine xv_calli (ua := fun _ => ad) (vx_runV (As := [.int a0, .int x, .int y]) (rest := [.int 0, .ref (ad iO)]) ⟨hx, hb, hml, hown, hts⟩ (c_Qd_wanted (D := D) (ad := ad) (CE := ((CE oc)))  (k_Q oc) (k_pl oc) (k_P oc) (k_R oc) hlt h _) (xg_cwV 3 hts xw_548 xw_545 xw_546 xw_547 xw_1 rfl rfl (by decide +kernel) ⟨Nat.le_of_ble_eq_true rfl, Nat.le_of_ble_eq_true rfl⟩) (xv_preV hw hT (k_Q oc) rfl _) rfl rfl hl.1 rfl (lv_room (Nat.le_of_ble_eq_true rfl)) d_La_wanted_7 ⟨Nat.le_of_ble_eq_true rfl, Nat.le_of_ble_eq_true rfl⟩) hw (fun E c9 q9 H locs hpx hw h1 h2 h3 => ?_) (fun r_1 _ H locs h hw => ?_)
  · rcases hpx with ⟨rfl, h⟩
    · refine vx_catch (name := "java/lang/IllegalArgumentException") hown [] ⟨0, 19, 22, 13⟩ [] (htab.trans rfl) (fun z hz => nomatch hz) (by decide) (by decide) (hts _ (List.mem_cons_of_mem _ xw_232)) ((hT.2.2.2.2.2 (.castable "java/lang/IllegalArgumentException" "java/lang/IllegalArgumentException") (by decide +kernel)).use rfl) h1 h2 h3 ?_
      refine lv_astore (lv' := [(5, .ref q9), (0, .ref (ad iQ)), (1, .int a0), (2, .int x), (3, .int y), (4, .ref (ad iO))]) hx hb d_La_wanted_22 hl (by decide) rfl (fun ls hl => ?_)
      refine lv_iconst (v := 1) hx hb d_La_wanted_24 (by decide) ?_
      subst hQQ
      refine W.widen (k := 1) (n := 6) (by decide) (by decide) ?_
      exact xm_iret hx hb hr hlk hw (oc) rfl rfl h d_La_wanted_25
  · refine xj_use h (fun (v_3 : Int64) => ∀ (H : Heap) (locs : List Loc) (ls : Array Slot), xm_W D xcl (xT cI cZ cJ cO) (xm_A ad (CE oc) s.heap.size) ad (CE oc) s s.heap H locs → lv_has ls 6 [] → W p l e rm_La_wanted s m args below meth c H locs 1 6 QQ (F0 m 18 ls [.long v_3, .int 0, .ref (ad iO)])) (fun v_3 h H locs ls hw hl => ?_) (fun J_4 hJ_4 h => ?_)
    · obtain ⟨hin, h⟩ := h
      refine xm_last hx hb hw 2 (k_O oc) rfl hin d_La_wanted_18 (fun H locs hw => ?_)
      have hw : xm_W D xcl (xT cI cZ cJ cO) (xm_A ad (CE oc) s.heap.size) ad (CE (vp_updL oc (Int32.toNatClampNeg 0) v_3)) s s.heap H locs := xm_W.cast (u_O oc (vp_updL oc (Int32.toNatClampNeg 0) v_3)) hw
      obtain ⟨oc_5, eoc_5⟩ : ∃ z : Nat → Int64, z = vp_updL oc (Int32.toNatClampNeg 0) v_3 := ⟨_, rfl⟩
      have h := h oc_5 eoc_5
      rw [← eoc_5] at hw
      refine lv_goto (tgt := 26) hx hb d_La_wanted_19 (by decide) ?_
      refine lv_iconst (v := 0) hx hb d_La_wanted_26 (by decide) ?_
      subst hQQ
      refine W.widen (k := 1) (n := 6) (by decide) (by decide) ?_
      exact xm_iret hx hb hr hlk hw (oc_5) rfl rfl h d_La_wanted_27
    · refine lv_if_eq (tgt := 17) hx hb d_La_wanted_10 (by decide) (fun hc => ?_) (fun hc => ?_)
      · have h := h.1 hc
        refine lv_lconst (v := 0) hx hb d_La_wanted_17 (by decide) ?_
        exact hJ_4 0 h _ _ _ hw (lv_sub hl [] rfl)
      · have h := h.2 hc
        refine lv_lconst (v := 1) hx hb d_La_wanted_13 (by decide) ?_
        refine lv_goto (tgt := 18) hx hb d_La_wanted_14 (by decide) ?_
        exact hJ_4 1 h _ _ _ hw (lv_sub hl [] rfl)
theorem xw_555 : (Jvm.Cond.code ({ cls := "QuestionDesk", name := "called", desc := "(III)Z" } : Jvm.MethodName) prog_1_method_13_code (4 : Nat) (Option.some Jvm.ClassFile.FieldType.boolean)) ∈ xg := xg_t (i := 555) (by decide +kernel) (by decide +kernel)
theorem xw_552 : (Jvm.Cond.methodLink "QuestionDeskLaw" (45 : Nat) ({ cls := "QuestionDesk", name := "called", desc := "(III)Z" } : Jvm.MethodName)) ∈ xg := xg_t (i := 552) (by decide +kernel) (by decide +kernel)
theorem xw_553 : (Jvm.Cond.instanceMethod ({ cls := "QuestionDesk", name := "called", desc := "(III)Z" } : Jvm.MethodName)) ∈ xg := xg_t (i := 553) (by decide +kernel) (by decide +kernel)
theorem xw_554 : (Jvm.Cond.selects "QuestionDesk" ({ cls := "QuestionDesk", name := "called", desc := "(III)Z" } : Jvm.MethodName) ({ cls := "QuestionDesk", name := "called", desc := "(III)Z" } : Jvm.MethodName)) ∈ xg := xg_t (i := 554) (by decide +kernel) (by decide +kernel)
def wp_La_called (post : Int32 → (Nat → Int64) → Prop)  (np : Int32) (qpl : Nat → Int32) (f : Nat → Int32) (oc : Nat → Int64) (a0 : Int32) (x : Int32) (y : Int32) : Prop :=
wp_Qd_called (fun r_1 =>
xj (fun (v_3 : Int64) =>
vp_in 0 1 ∧
∀ oc_5 : Nat → Int64, oc_5 = vp_updL oc (Int32.toNatClampNeg 0) v_3 →
post 0 oc_5) (fun (J_4 : Int64 → Prop) =>
((r_1 = 0 →
J_4 0) ∧ (¬ r_1 = 0 →
J_4 1)))) (fun E => (E = "java/lang/IllegalArgumentException" ∧
post 1 oc)) np qpl f a0 x y
abbrev rm_La_called : Room := { frames := 8, cells := 1, slots := 6, locals := 133 }
set_option maxHeartbeats 4000000 in
set_option maxRecDepth 100000 in
theorem c_La_called {l : Launch} {D : va_G} {ad : Nat → Nat} (CE : (Nat → Int64) → Nat → Option va_E) {cI cZ cJ cO : ClassId} {iQ : Nat} {ipl : Nat} {ibr : Nat} {iL : Nat} {iP : Nat} {iM : Nat} {iU : Nat} {ipt : Nat} {iR : Nat} {iO : Nat} {np : Int32} {qpl : Nat → Int32} {f : Nat → Int32} {bg : Value} {rw : Int32} {aq : Int32} {pn : Int32} (k_Q : ∀ (oc : Nat → Int64), (CE oc) iQ = some (.inr (0, [.ref (ad ipl), .ref (ad ibr), .int np, .ref (ad iL), bg, .ref (ad iP), .ref (ad iM), .ref (ad iU), .ref (ad ipt), .int rw, .int aq, .int pn]))) (k_pl : ∀ (oc : Nat → Int64), (CE oc) ipl = some (.inl (cI, 10, .inl qpl))) (k_P : ∀ (oc : Nat → Int64), (CE oc) iP = some (.inr (1, [.ref (ad iR)]))) (k_R : ∀ (oc : Nat → Int64), (CE oc) iR = some (.inl (cI, 341, .inl f))) (k_O : ∀ (oc : Nat → Int64), (CE oc) iO = some (.inl (cJ, 1, .inr (.inl oc)))) (u_O : ∀ (oc : Nat → Int64) (oc' : Nat → Int64), va_up (CE oc) iO (some (.inl (cJ, 1, .inr (.inl oc')))) = (CE oc')) {post : Int32 → (Nat → Int64) → Prop} {oc : Nat → Int64} {a0 : Int32} {x : Int32} {y : Int32} (hlt : l.stackTraces = false) (h : wp_La_called post np qpl f oc a0 x y) : ∀ sz, Met l y_La_called (Cond.codeWith y_La_called b_La_called 6 (some .int) [(0, 19, 22, 13)] :: xg) rm_La_called (xh_Pc D xcl (xT cI cZ cJ cO) ad (CE oc) sz [.ref (ad iQ), .int a0, .int x, .int y, .ref (ad iO)]) (va_Qi (fun (r : Int32) (u : (Nat → Int64)) => post r u) (xm_B D xcl (xT cI cZ cJ cO) (xm_A ad (CE oc) sz) (fun _ => ad) (fun u : (Nat → Int64) => CE u)) (xm_A ad (CE oc) sz)) 1 6 (xm_A ad (CE oc) sz) := by
  refine xh_ofW (cc := b_La_called) (maxL := 6) (ret := (some .int)) (by decide) rfl (Nat.le_of_ble_eq_true rfl) ?_
  intro p e s m args below meth c ls QQ hQQ hT hNc htab hx hb hml hr hown hlk hnm hts hl hw
  have hl : lv_has ls 6 [(0, .ref (ad iQ)), (1, .int a0), (2, .int x), (3, .int y), (4, .ref (ad iO))] := hl
  unfold wp_La_called at h
  refine lv_aload hx hb d_La_called_0 (lv_at hl 4 rfl) ?_
  refine lv_iconst (v := 0) hx hb d_La_called_2 (by decide) ?_
  refine lv_aload_n hx hb d_La_called_3 rfl (lv_at hl 0 rfl) ?_
  refine lv_iload_n hx hb d_La_called_4 rfl (lv_at hl 1 rfl) ?_
  refine lv_iload_n hx hb d_La_called_5 rfl (lv_at hl 2 rfl) ?_
  refine lv_iload_n hx hb d_La_called_6 rfl (lv_at hl 3 rfl) ?_
  refine xv_calli (ua := fun _ => ad) (vx_runV (As := [.int a0, .int x, .int y]) (rest := [.int 0, .ref (ad iO)]) ⟨hx, hb, hml, hown, hts⟩ (c_Qd_called (D := D) (ad := ad) (CE := ((CE oc)))  (k_Q oc) (k_pl oc) (k_P oc) (k_R oc) hlt h _) (xg_cwV 3 hts xw_555 xw_552 xw_553 xw_554 xw_1 rfl rfl (by decide +kernel) ⟨Nat.le_of_ble_eq_true rfl, Nat.le_of_ble_eq_true rfl⟩) (xv_preV hw hT (k_Q oc) rfl _) rfl rfl hl.1 rfl (lv_room (Nat.le_of_ble_eq_true rfl)) d_La_called_7 ⟨Nat.le_of_ble_eq_true rfl, Nat.le_of_ble_eq_true rfl⟩) hw (fun E c9 q9 H locs hpx hw h1 h2 h3 => ?_) (fun r_1 _ H locs h hw => ?_)
  · rcases hpx with ⟨rfl, h⟩
    · refine vx_catch (name := "java/lang/IllegalArgumentException") hown [] ⟨0, 19, 22, 13⟩ [] (htab.trans rfl) (fun z hz => nomatch hz) (by decide) (by decide) (hts _ (List.mem_cons_of_mem _ xw_232)) ((hT.2.2.2.2.2 (.castable "java/lang/IllegalArgumentException" "java/lang/IllegalArgumentException") (by decide +kernel)).use rfl) h1 h2 h3 ?_
      refine lv_astore (lv' := [(5, .ref q9), (0, .ref (ad iQ)), (1, .int a0), (2, .int x), (3, .int y), (4, .ref (ad iO))]) hx hb d_La_called_22 hl (by decide) rfl (fun ls hl => ?_)
      refine lv_iconst (v := 1) hx hb d_La_called_24 (by decide) ?_
      subst hQQ
      refine W.widen (k := 1) (n := 6) (by decide) (by decide) ?_
      exact xm_iret hx hb hr hlk hw (oc) rfl rfl h d_La_called_25
  · refine xj_use h (fun (v_3 : Int64) => ∀ (H : Heap) (locs : List Loc) (ls : Array Slot), xm_W D xcl (xT cI cZ cJ cO) (xm_A ad (CE oc) s.heap.size) ad (CE oc) s s.heap H locs → lv_has ls 6 [] → W p l e rm_La_called s m args below meth c H locs 1 6 QQ (F0 m 18 ls [.long v_3, .int 0, .ref (ad iO)])) (fun v_3 h H locs ls hw hl => ?_) (fun J_4 hJ_4 h => ?_)
    · obtain ⟨hin, h⟩ := h
      refine xm_last hx hb hw 2 (k_O oc) rfl hin d_La_called_18 (fun H locs hw => ?_)
      have hw : xm_W D xcl (xT cI cZ cJ cO) (xm_A ad (CE oc) s.heap.size) ad (CE (vp_updL oc (Int32.toNatClampNeg 0) v_3)) s s.heap H locs := xm_W.cast (u_O oc (vp_updL oc (Int32.toNatClampNeg 0) v_3)) hw
      obtain ⟨oc_5, eoc_5⟩ : ∃ z : Nat → Int64, z = vp_updL oc (Int32.toNatClampNeg 0) v_3 := ⟨_, rfl⟩
      have h := h oc_5 eoc_5
      rw [← eoc_5] at hw
      refine lv_goto (tgt := 26) hx hb d_La_called_19 (by decide) ?_
      refine lv_iconst (v := 0) hx hb d_La_called_26 (by decide) ?_
      subst hQQ
      refine W.widen (k := 1) (n := 6) (by decide) (by decide) ?_
      exact xm_iret hx hb hr hlk hw (oc_5) rfl rfl h d_La_called_27
    · refine lv_if_eq (tgt := 17) hx hb d_La_called_10 (by decide) (fun hc => ?_) (fun hc => ?_)
      · have h := h.1 hc
        refine lv_lconst (v := 0) hx hb d_La_called_17 (by decide) ?_
        exact hJ_4 0 h _ _ _ hw (lv_sub hl [] rfl)
      · have h := h.2 hc
        refine lv_lconst (v := 1) hx hb d_La_called_13 (by decide) ?_
        refine lv_goto (tgt := 18) hx hb d_La_called_14 (by decide) ?_
        exact hJ_4 1 h _ _ _ hw (lv_sub hl [] rfl)
theorem xw_465 : (Jvm.Cond.code ({ cls := "QuestionDesk", name := "ask", desc := "(III)I" } : Jvm.MethodName) prog_1_method_9_code (4 : Nat) (Option.some Jvm.ClassFile.FieldType.int)) ∈ xg := xg_t (i := 465) (by decide +kernel) (by decide +kernel)
theorem xw_462 : (Jvm.Cond.methodLink "QuestionDeskLaw" (36 : Nat) ({ cls := "QuestionDesk", name := "ask", desc := "(III)I" } : Jvm.MethodName)) ∈ xg := xg_t (i := 462) (by decide +kernel) (by decide +kernel)
theorem xw_463 : (Jvm.Cond.instanceMethod ({ cls := "QuestionDesk", name := "ask", desc := "(III)I" } : Jvm.MethodName)) ∈ xg := xg_t (i := 463) (by decide +kernel) (by decide +kernel)
theorem xw_464 : (Jvm.Cond.selects "QuestionDesk" ({ cls := "QuestionDesk", name := "ask", desc := "(III)I" } : Jvm.MethodName) ({ cls := "QuestionDesk", name := "ask", desc := "(III)I" } : Jvm.MethodName)) ∈ xg := xg_t (i := 464) (by decide +kernel) (by decide +kernel)
def wp_La_ask (post : Int32 → Int32 → Int32 → Int32 → (Nat → Int32) → (Nat → Int32) → (Nat → Int32) → (Nat → Int32) → Int32 → (Nat → Int32) → (Nat → Int32) → (Nat → Int64) → Prop) (ad : Nat → Nat)  (RV : Nat → Prop) (grs : Nat → Nat → Int32) (grf : Nat → Nat → Int32) (grc : Nat → Nat → Int32) (gna : Nat → Int32) (np : Int32) (qpl : Nat → Int32) (qbr : Nat → Int32) (nE : Nat) (ec : Nat → Option Nat) (sz : Int32) (rw : Int32) (aq : Int32) (pn : Int32) (qpt : Nat → Int32) (rs : Nat → Int32) (rf : Nat → Int32) (rc : Nat → Int32) (na : Int32) (f : Nat → Int32) (v : Nat → Int32) (oc : Nat → Int64) (a0 : Int32) (x : Int32) (y : Int32) : Prop :=
wp_Qd_ask (fun r_1 rw_3 aq_4 pn_5 qpt_6 rs_7 rf_8 rc_9 na_10 f_11 v_12 =>
vp_in 0 1 ∧
∀ oc_13 : Nat → Int64, oc_13 = vp_updL oc (Int32.toNatClampNeg 0) r_1.toInt64 →
post 0 rw_3 aq_4 pn_5 qpt_6 rs_7 rf_8 rc_9 na_10 f_11 v_12 oc_13) (fun E => (E = "java/lang/IllegalArgumentException" ∧
post 1 rw aq pn qpt rs rf rc na f v oc)) ad RV grs grf grc gna np qpl qbr nE ec sz rw aq pn qpt rs rf rc na f v a0 x y
abbrev rm_La_ask : Room := { frames := 13, cells := 1, slots := 6, locals := 338 }
set_option maxHeartbeats 4000000 in
set_option maxRecDepth 100000 in
theorem c_La_ask {l : Launch} {D : va_G} {ad : Nat → Nat} (CE : Int32 → Int32 → Int32 → (Nat → Int32) → (Nat → Int32) → (Nat → Int32) → (Nat → Int32) → Int32 → (Nat → Int32) → (Nat → Int32) → (Nat → Int64) → Nat → Option va_E) {cI cZ cJ cO : ClassId} {iQ : Nat} {ipl : Nat} {ibr : Nat} {iL : Nat} {iP : Nat} {iM : Nat} {iU : Nat} {ipt : Nat} {iR : Nat} {iV : Nat} {iA : Nat} {iB : Nat} {iC : Nat} {iE : Nat} {iO : Nat} {RV : Nat → Prop} {grs : Nat → Nat → Int32} {grf : Nat → Nat → Int32} {grc : Nat → Nat → Int32} {gna : Nat → Int32} {np : Int32} {qpl : Nat → Int32} {qbr : Nat → Int32} {nE : Nat} {ec : Nat → Option Nat} {sz : Int32} {bg : Value} {mo : Int32} (k_Q : ∀ (rw : Int32) (aq : Int32) (pn : Int32) (qpt : Nat → Int32) (rs : Nat → Int32) (rf : Nat → Int32) (rc : Nat → Int32) (na : Int32) (f : Nat → Int32) (v : Nat → Int32) (oc : Nat → Int64), (CE rw aq pn qpt rs rf rc na f v oc) iQ = some (.inr (0, [.ref (ad ipl), .ref (ad ibr), .int np, .ref (ad iL), bg, .ref (ad iP), .ref (ad iM), .ref (ad iU), .ref (ad ipt), .int rw, .int aq, .int pn]))) (k_pl : ∀ (rw : Int32) (aq : Int32) (pn : Int32) (qpt : Nat → Int32) (rs : Nat → Int32) (rf : Nat → Int32) (rc : Nat → Int32) (na : Int32) (f : Nat → Int32) (v : Nat → Int32) (oc : Nat → Int64), (CE rw aq pn qpt rs rf rc na f v oc) ipl = some (.inl (cI, 10, .inl qpl))) (k_br : ∀ (rw : Int32) (aq : Int32) (pn : Int32) (qpt : Nat → Int32) (rs : Nat → Int32) (rf : Nat → Int32) (rc : Nat → Int32) (na : Int32) (f : Nat → Int32) (v : Nat → Int32) (oc : Nat → Int64), (CE rw aq pn qpt rs rf rc na f v oc) ibr = some (.inl (cZ, 10, .inl qbr))) (k_pt : ∀ (rw : Int32) (aq : Int32) (pn : Int32) (qpt : Nat → Int32) (rs : Nat → Int32) (rf : Nat → Int32) (rc : Nat → Int32) (na : Int32) (f : Nat → Int32) (v : Nat → Int32) (oc : Nat → Int64), (CE rw aq pn qpt rs rf rc na f v oc) ipt = some (.inl (cI, 10, .inl qpt))) (k_L : ∀ (rw : Int32) (aq : Int32) (pn : Int32) (qpt : Nat → Int32) (rs : Nat → Int32) (rf : Nat → Int32) (rc : Nat → Int32) (na : Int32) (f : Nat → Int32) (v : Nat → Int32) (oc : Nat → Int64), (CE rw aq pn qpt rs rf rc na f v oc) iL = some (.inr (5, [.ref (ad iE), .int sz, .int mo]))) (k_E : ∀ (rw : Int32) (aq : Int32) (pn : Int32) (qpt : Nat → Int32) (rs : Nat → Int32) (rf : Nat → Int32) (rc : Nat → Int32) (na : Int32) (f : Nat → Int32) (v : Nat → Int32) (oc : Nat → Int64), (CE rw aq pn qpt rs rf rc na f v oc) iE = some (.inl (cO, nE, .inr (.inr (.inr (.inr ec)))))) (k_P : ∀ (rw : Int32) (aq : Int32) (pn : Int32) (qpt : Nat → Int32) (rs : Nat → Int32) (rf : Nat → Int32) (rc : Nat → Int32) (na : Int32) (f : Nat → Int32) (v : Nat → Int32) (oc : Nat → Int64), (CE rw aq pn qpt rs rf rc na f v oc) iP = some (.inr (1, [.ref (ad iR)]))) (k_R : ∀ (rw : Int32) (aq : Int32) (pn : Int32) (qpt : Nat → Int32) (rs : Nat → Int32) (rf : Nat → Int32) (rc : Nat → Int32) (na : Int32) (f : Nat → Int32) (v : Nat → Int32) (oc : Nat → Int64), (CE rw aq pn qpt rs rf rc na f v oc) iR = some (.inl (cI, 341, .inl f))) (k_M : ∀ (rw : Int32) (aq : Int32) (pn : Int32) (qpt : Nat → Int32) (rs : Nat → Int32) (rf : Nat → Int32) (rc : Nat → Int32) (na : Int32) (f : Nat → Int32) (v : Nat → Int32) (oc : Nat → Int64), (CE rw aq pn qpt rs rf rc na f v oc) iM = some (.inr (2, [.ref (ad iP), .ref (ad iV)]))) (k_V : ∀ (rw : Int32) (aq : Int32) (pn : Int32) (qpt : Nat → Int32) (rs : Nat → Int32) (rf : Nat → Int32) (rc : Nat → Int32) (na : Int32) (f : Nat → Int32) (v : Nat → Int32) (oc : Nat → Int64), (CE rw aq pn qpt rs rf rc na f v oc) iV = some (.inl (cI, 20, .inl v))) (k_U : ∀ (rw : Int32) (aq : Int32) (pn : Int32) (qpt : Nat → Int32) (rs : Nat → Int32) (rf : Nat → Int32) (rc : Nat → Int32) (na : Int32) (f : Nat → Int32) (v : Nat → Int32) (oc : Nat → Int64), (CE rw aq pn qpt rs rf rc na f v oc) iU = some (.inr (3, [.ref (ad iA), .ref (ad iB), .ref (ad iC), .int na]))) (k_A : ∀ (rw : Int32) (aq : Int32) (pn : Int32) (qpt : Nat → Int32) (rs : Nat → Int32) (rf : Nat → Int32) (rc : Nat → Int32) (na : Int32) (f : Nat → Int32) (v : Nat → Int32) (oc : Nat → Int64), (CE rw aq pn qpt rs rf rc na f v oc) iA = some (.inl (cI, 4, .inl rs))) (k_B : ∀ (rw : Int32) (aq : Int32) (pn : Int32) (qpt : Nat → Int32) (rs : Nat → Int32) (rf : Nat → Int32) (rc : Nat → Int32) (na : Int32) (f : Nat → Int32) (v : Nat → Int32) (oc : Nat → Int64), (CE rw aq pn qpt rs rf rc na f v oc) iB = some (.inl (cI, 4, .inl rf))) (k_C : ∀ (rw : Int32) (aq : Int32) (pn : Int32) (qpt : Nat → Int32) (rs : Nat → Int32) (rf : Nat → Int32) (rc : Nat → Int32) (na : Int32) (f : Nat → Int32) (v : Nat → Int32) (oc : Nat → Int64), (CE rw aq pn qpt rs rf rc na f v oc) iC = some (.inl (cI, 4, .inl rc))) (k_O : ∀ (rw : Int32) (aq : Int32) (pn : Int32) (qpt : Nat → Int32) (rs : Nat → Int32) (rf : Nat → Int32) (rc : Nat → Int32) (na : Int32) (f : Nat → Int32) (v : Nat → Int32) (oc : Nat → Int64), (CE rw aq pn qpt rs rf rc na f v oc) iO = some (.inl (cJ, 1, .inr (.inl oc)))) (kf_U : ∀ (rw : Int32) (aq : Int32) (pn : Int32) (qpt : Nat → Int32) (rs : Nat → Int32) (rf : Nat → Int32) (rc : Nat → Int32) (na : Int32) (f : Nat → Int32) (v : Nat → Int32) (oc : Nat → Int64) (ix : Nat), RV ix → (CE rw aq pn qpt rs rf rc na f v oc) ix = some (.inr (3, [.ref (ad (ix + 1)), .ref (ad (ix + 2)), .ref (ad (ix + 3)), .int (gna ix)]))) (kf_A : ∀ (rw : Int32) (aq : Int32) (pn : Int32) (qpt : Nat → Int32) (rs : Nat → Int32) (rf : Nat → Int32) (rc : Nat → Int32) (na : Int32) (f : Nat → Int32) (v : Nat → Int32) (oc : Nat → Int64) (ix : Nat), RV ix → (CE rw aq pn qpt rs rf rc na f v oc) (ix + 1) = some (.inl (cI, 4, .inl (grs ix)))) (kf_B : ∀ (rw : Int32) (aq : Int32) (pn : Int32) (qpt : Nat → Int32) (rs : Nat → Int32) (rf : Nat → Int32) (rc : Nat → Int32) (na : Int32) (f : Nat → Int32) (v : Nat → Int32) (oc : Nat → Int64) (ix : Nat), RV ix → (CE rw aq pn qpt rs rf rc na f v oc) (ix + 2) = some (.inl (cI, 4, .inl (grf ix)))) (kf_C : ∀ (rw : Int32) (aq : Int32) (pn : Int32) (qpt : Nat → Int32) (rs : Nat → Int32) (rf : Nat → Int32) (rc : Nat → Int32) (na : Int32) (f : Nat → Int32) (v : Nat → Int32) (oc : Nat → Int64) (ix : Nat), RV ix → (CE rw aq pn qpt rs rf rc na f v oc) (ix + 3) = some (.inl (cI, 4, .inl (grc ix)))) (u_Q : ∀ (rw : Int32) (aq : Int32) (pn : Int32) (qpt : Nat → Int32) (rs : Nat → Int32) (rf : Nat → Int32) (rc : Nat → Int32) (na : Int32) (f : Nat → Int32) (v : Nat → Int32) (oc : Nat → Int64) (rw' : Int32) (aq' : Int32) (pn' : Int32), va_up (CE rw aq pn qpt rs rf rc na f v oc) iQ (some (.inr (0, [.ref (ad ipl), .ref (ad ibr), .int np, .ref (ad iL), bg, .ref (ad iP), .ref (ad iM), .ref (ad iU), .ref (ad ipt), .int rw', .int aq', .int pn']))) = (CE rw' aq' pn' qpt rs rf rc na f v oc)) (u_pt : ∀ (rw : Int32) (aq : Int32) (pn : Int32) (qpt : Nat → Int32) (rs : Nat → Int32) (rf : Nat → Int32) (rc : Nat → Int32) (na : Int32) (f : Nat → Int32) (v : Nat → Int32) (oc : Nat → Int64) (qpt' : Nat → Int32), va_up (CE rw aq pn qpt rs rf rc na f v oc) ipt (some (.inl (cI, 10, .inl qpt'))) = (CE rw aq pn qpt' rs rf rc na f v oc)) (u_R : ∀ (rw : Int32) (aq : Int32) (pn : Int32) (qpt : Nat → Int32) (rs : Nat → Int32) (rf : Nat → Int32) (rc : Nat → Int32) (na : Int32) (f : Nat → Int32) (v : Nat → Int32) (oc : Nat → Int64) (f' : Nat → Int32), va_up (CE rw aq pn qpt rs rf rc na f v oc) iR (some (.inl (cI, 341, .inl f'))) = (CE rw aq pn qpt rs rf rc na f' v oc)) (u_V : ∀ (rw : Int32) (aq : Int32) (pn : Int32) (qpt : Nat → Int32) (rs : Nat → Int32) (rf : Nat → Int32) (rc : Nat → Int32) (na : Int32) (f : Nat → Int32) (v : Nat → Int32) (oc : Nat → Int64) (v' : Nat → Int32), va_up (CE rw aq pn qpt rs rf rc na f v oc) iV (some (.inl (cI, 20, .inl v'))) = (CE rw aq pn qpt rs rf rc na f v' oc)) (u_U : ∀ (rw : Int32) (aq : Int32) (pn : Int32) (qpt : Nat → Int32) (rs : Nat → Int32) (rf : Nat → Int32) (rc : Nat → Int32) (na : Int32) (f : Nat → Int32) (v : Nat → Int32) (oc : Nat → Int64) (na' : Int32), va_up (CE rw aq pn qpt rs rf rc na f v oc) iU (some (.inr (3, [.ref (ad iA), .ref (ad iB), .ref (ad iC), .int na']))) = (CE rw aq pn qpt rs rf rc na' f v oc)) (u_A : ∀ (rw : Int32) (aq : Int32) (pn : Int32) (qpt : Nat → Int32) (rs : Nat → Int32) (rf : Nat → Int32) (rc : Nat → Int32) (na : Int32) (f : Nat → Int32) (v : Nat → Int32) (oc : Nat → Int64) (rs' : Nat → Int32), va_up (CE rw aq pn qpt rs rf rc na f v oc) iA (some (.inl (cI, 4, .inl rs'))) = (CE rw aq pn qpt rs' rf rc na f v oc)) (u_B : ∀ (rw : Int32) (aq : Int32) (pn : Int32) (qpt : Nat → Int32) (rs : Nat → Int32) (rf : Nat → Int32) (rc : Nat → Int32) (na : Int32) (f : Nat → Int32) (v : Nat → Int32) (oc : Nat → Int64) (rf' : Nat → Int32), va_up (CE rw aq pn qpt rs rf rc na f v oc) iB (some (.inl (cI, 4, .inl rf'))) = (CE rw aq pn qpt rs rf' rc na f v oc)) (u_C : ∀ (rw : Int32) (aq : Int32) (pn : Int32) (qpt : Nat → Int32) (rs : Nat → Int32) (rf : Nat → Int32) (rc : Nat → Int32) (na : Int32) (f : Nat → Int32) (v : Nat → Int32) (oc : Nat → Int64) (rc' : Nat → Int32), va_up (CE rw aq pn qpt rs rf rc na f v oc) iC (some (.inl (cI, 4, .inl rc'))) = (CE rw aq pn qpt rs rf rc' na f v oc)) (u_O : ∀ (rw : Int32) (aq : Int32) (pn : Int32) (qpt : Nat → Int32) (rs : Nat → Int32) (rf : Nat → Int32) (rc : Nat → Int32) (na : Int32) (f : Nat → Int32) (v : Nat → Int32) (oc : Nat → Int64) (oc' : Nat → Int64), va_up (CE rw aq pn qpt rs rf rc na f v oc) iO (some (.inl (cJ, 1, .inr (.inl oc')))) = (CE rw aq pn qpt rs rf rc na f v oc')) {post : Int32 → Int32 → Int32 → Int32 → (Nat → Int32) → (Nat → Int32) → (Nat → Int32) → (Nat → Int32) → Int32 → (Nat → Int32) → (Nat → Int32) → (Nat → Int64) → Prop} {rw : Int32} {aq : Int32} {pn : Int32} {qpt : Nat → Int32} {rs : Nat → Int32} {rf : Nat → Int32} {rc : Nat → Int32} {na : Int32} {f : Nat → Int32} {v : Nat → Int32} {oc : Nat → Int64} {a0 : Int32} {x : Int32} {y : Int32} (hlt : l.stackTraces = false) (h : wp_La_ask post ad RV grs grf grc gna np qpl qbr nE ec sz rw aq pn qpt rs rf rc na f v oc a0 x y) : ∀ sz, Met l y_La_ask (Cond.codeWith y_La_ask b_La_ask 6 (some .int) [(0, 12, 15, 13)] :: xg) rm_La_ask (xh_Pc D xcl (xT cI cZ cJ cO) ad (CE rw aq pn qpt rs rf rc na f v oc) sz [.ref (ad iQ), .int a0, .int x, .int y, .ref (ad iO)]) (va_Qi (fun (r : Int32) (u : Int32 × Int32 × Int32 × (Nat → Int32) × (Nat → Int32) × (Nat → Int32) × (Nat → Int32) × Int32 × (Nat → Int32) × (Nat → Int32) × (Nat → Int64)) => post r u.1 u.2.1 u.2.2.1 u.2.2.2.1 u.2.2.2.2.1 u.2.2.2.2.2.1 u.2.2.2.2.2.2.1 u.2.2.2.2.2.2.2.1 u.2.2.2.2.2.2.2.2.1 u.2.2.2.2.2.2.2.2.2.1 u.2.2.2.2.2.2.2.2.2.2) (xm_B D xcl (xT cI cZ cJ cO) (xm_A ad (CE rw aq pn qpt rs rf rc na f v oc) sz) (fun _ => ad) (fun u : Int32 × Int32 × Int32 × (Nat → Int32) × (Nat → Int32) × (Nat → Int32) × (Nat → Int32) × Int32 × (Nat → Int32) × (Nat → Int32) × (Nat → Int64) => CE u.1 u.2.1 u.2.2.1 u.2.2.2.1 u.2.2.2.2.1 u.2.2.2.2.2.1 u.2.2.2.2.2.2.1 u.2.2.2.2.2.2.2.1 u.2.2.2.2.2.2.2.2.1 u.2.2.2.2.2.2.2.2.2.1 u.2.2.2.2.2.2.2.2.2.2)) (xm_A ad (CE rw aq pn qpt rs rf rc na f v oc) sz)) 1 6 (xm_A ad (CE rw aq pn qpt rs rf rc na f v oc) sz) := by
  refine xh_ofW (cc := b_La_ask) (maxL := 6) (ret := (some .int)) (by decide) rfl (Nat.le_of_ble_eq_true rfl) ?_
  intro p e s m args below meth c ls QQ hQQ hT hNc htab hx hb hml hr hown hlk hnm hts hl hw
  have hl : lv_has ls 6 [(0, .ref (ad iQ)), (1, .int a0), (2, .int x), (3, .int y), (4, .ref (ad iO))] := hl
  unfold wp_La_ask at h
  refine lv_aload hx hb d_La_ask_0 (lv_at hl 4 rfl) ?_
  refine lv_iconst (v := 0) hx hb d_La_ask_2 (by decide) ?_
  refine lv_aload_n hx hb d_La_ask_3 rfl (lv_at hl 0 rfl) ?_
  refine lv_iload_n hx hb d_La_ask_4 rfl (lv_at hl 1 rfl) ?_
  refine lv_iload_n hx hb d_La_ask_5 rfl (lv_at hl 2 rfl) ?_
  refine lv_iload_n hx hb d_La_ask_6 rfl (lv_at hl 3 rfl) ?_
  refine xv_calli (ua := fun _ => ad) (vx_runV (As := [.int a0, .int x, .int y]) (rest := [.int 0, .ref (ad iO)]) ⟨hx, hb, hml, hown, hts⟩ (c_Qd_ask (D := D) (ad := ad) (CE := (fun rw aq pn qpt rs rf rc na f v => (CE rw aq pn qpt rs rf rc na f v oc)))  (fun rw aq pn qpt rs rf rc na f v => k_Q rw aq pn qpt rs rf rc na f v oc) (fun rw aq pn qpt rs rf rc na f v => k_pl rw aq pn qpt rs rf rc na f v oc) (fun rw aq pn qpt rs rf rc na f v => k_br rw aq pn qpt rs rf rc na f v oc) (fun rw aq pn qpt rs rf rc na f v => k_pt rw aq pn qpt rs rf rc na f v oc) (fun rw aq pn qpt rs rf rc na f v => k_L rw aq pn qpt rs rf rc na f v oc) (fun rw aq pn qpt rs rf rc na f v => k_E rw aq pn qpt rs rf rc na f v oc) (fun rw aq pn qpt rs rf rc na f v => k_P rw aq pn qpt rs rf rc na f v oc) (fun rw aq pn qpt rs rf rc na f v => k_R rw aq pn qpt rs rf rc na f v oc) (fun rw aq pn qpt rs rf rc na f v => k_M rw aq pn qpt rs rf rc na f v oc) (fun rw aq pn qpt rs rf rc na f v => k_V rw aq pn qpt rs rf rc na f v oc) (fun rw aq pn qpt rs rf rc na f v => k_U rw aq pn qpt rs rf rc na f v oc) (fun rw aq pn qpt rs rf rc na f v => k_A rw aq pn qpt rs rf rc na f v oc) (fun rw aq pn qpt rs rf rc na f v => k_B rw aq pn qpt rs rf rc na f v oc) (fun rw aq pn qpt rs rf rc na f v => k_C rw aq pn qpt rs rf rc na f v oc) (fun rw aq pn qpt rs rf rc na f v => kf_U rw aq pn qpt rs rf rc na f v oc) (fun rw aq pn qpt rs rf rc na f v => kf_A rw aq pn qpt rs rf rc na f v oc) (fun rw aq pn qpt rs rf rc na f v => kf_B rw aq pn qpt rs rf rc na f v oc) (fun rw aq pn qpt rs rf rc na f v => kf_C rw aq pn qpt rs rf rc na f v oc) (fun rw aq pn qpt rs rf rc na f v rw' aq' pn' => u_Q rw aq pn qpt rs rf rc na f v oc rw' aq' pn') (fun rw aq pn qpt rs rf rc na f v qpt' => u_pt rw aq pn qpt rs rf rc na f v oc qpt') (fun rw aq pn qpt rs rf rc na f v f' => u_R rw aq pn qpt rs rf rc na f v oc f') (fun rw aq pn qpt rs rf rc na f v v' => u_V rw aq pn qpt rs rf rc na f v oc v') (fun rw aq pn qpt rs rf rc na f v na' => u_U rw aq pn qpt rs rf rc na f v oc na') (fun rw aq pn qpt rs rf rc na f v rs' => u_A rw aq pn qpt rs rf rc na f v oc rs') (fun rw aq pn qpt rs rf rc na f v rf' => u_B rw aq pn qpt rs rf rc na f v oc rf') (fun rw aq pn qpt rs rf rc na f v rc' => u_C rw aq pn qpt rs rf rc na f v oc rc') hlt h _) (xg_cwV 3 hts xw_465 xw_462 xw_463 xw_464 xw_1 rfl rfl (by decide +kernel) ⟨Nat.le_of_ble_eq_true rfl, Nat.le_of_ble_eq_true rfl⟩) (xv_preV hw hT (k_Q rw aq pn qpt rs rf rc na f v oc) rfl _) rfl rfl hl.1 rfl (lv_room (Nat.le_of_ble_eq_true rfl)) d_La_ask_7 ⟨Nat.le_of_ble_eq_true rfl, Nat.le_of_ble_eq_true rfl⟩) hw (fun E c9 q9 H locs hpx hw h1 h2 h3 => ?_) (fun r_1 u_2 H locs h hw => ?_)
  · rcases hpx with ⟨rfl, h⟩
    · refine vx_catch (name := "java/lang/IllegalArgumentException") hown [] ⟨0, 12, 15, 13⟩ [] (htab.trans rfl) (fun z hz => nomatch hz) (by decide) (by decide) (hts _ (List.mem_cons_of_mem _ xw_232)) ((hT.2.2.2.2.2 (.castable "java/lang/IllegalArgumentException" "java/lang/IllegalArgumentException") (by decide +kernel)).use rfl) h1 h2 h3 ?_
      refine lv_astore (lv' := [(5, .ref q9), (0, .ref (ad iQ)), (1, .int a0), (2, .int x), (3, .int y), (4, .ref (ad iO))]) hx hb d_La_ask_15 hl (by decide) rfl (fun ls hl => ?_)
      refine lv_iconst (v := 1) hx hb d_La_ask_17 (by decide) ?_
      subst hQQ
      refine W.widen (k := 1) (n := 6) (by decide) (by decide) ?_
      exact xm_iret hx hb hr hlk hw (rw, aq, pn, qpt, rs, rf, rc, na, f, v, oc) rfl rfl h d_La_ask_18
  · obtain ⟨rw_3, erw_3⟩ : ∃ z, z = u_2.1 := ⟨_, rfl⟩
    obtain ⟨aq_4, eaq_4⟩ : ∃ z, z = u_2.2.1 := ⟨_, rfl⟩
    obtain ⟨pn_5, epn_5⟩ : ∃ z, z = u_2.2.2.1 := ⟨_, rfl⟩
    obtain ⟨qpt_6, eqpt_6⟩ : ∃ z, z = u_2.2.2.2.1 := ⟨_, rfl⟩
    obtain ⟨rs_7, ers_7⟩ : ∃ z, z = u_2.2.2.2.2.1 := ⟨_, rfl⟩
    obtain ⟨rf_8, erf_8⟩ : ∃ z, z = u_2.2.2.2.2.2.1 := ⟨_, rfl⟩
    obtain ⟨rc_9, erc_9⟩ : ∃ z, z = u_2.2.2.2.2.2.2.1 := ⟨_, rfl⟩
    obtain ⟨na_10, ena_10⟩ : ∃ z, z = u_2.2.2.2.2.2.2.2.1 := ⟨_, rfl⟩
    obtain ⟨f_11, ef_11⟩ : ∃ z, z = u_2.2.2.2.2.2.2.2.2.1 := ⟨_, rfl⟩
    obtain ⟨v_12, ev_12⟩ : ∃ z, z = u_2.2.2.2.2.2.2.2.2.2 := ⟨_, rfl⟩
    try dsimp only at h hw
    rw [← erw_3, ← eaq_4, ← epn_5, ← eqpt_6, ← ers_7, ← erf_8, ← erc_9, ← ena_10, ← ef_11, ← ev_12] at h hw
    refine lv_i2l hx hb d_La_ask_10 rfl ?_
    obtain ⟨hin, h⟩ := h
    refine xm_last hx hb hw 2 (k_O rw_3 aq_4 pn_5 qpt_6 rs_7 rf_8 rc_9 na_10 f_11 v_12 oc) rfl hin d_La_ask_11 (fun H locs hw => ?_)
    have hw : xm_W D xcl (xT cI cZ cJ cO) (xm_A ad (CE rw aq pn qpt rs rf rc na f v oc) s.heap.size) ad (CE rw_3 aq_4 pn_5 qpt_6 rs_7 rf_8 rc_9 na_10 f_11 v_12 (vp_updL oc (Int32.toNatClampNeg 0) r_1.toInt64)) s s.heap H locs := xm_W.cast (u_O rw_3 aq_4 pn_5 qpt_6 rs_7 rf_8 rc_9 na_10 f_11 v_12 oc (vp_updL oc (Int32.toNatClampNeg 0) r_1.toInt64)) hw
    obtain ⟨oc_13, eoc_13⟩ : ∃ z : Nat → Int64, z = vp_updL oc (Int32.toNatClampNeg 0) r_1.toInt64 := ⟨_, rfl⟩
    have h := h oc_13 eoc_13
    rw [← eoc_13] at hw
    refine lv_goto (tgt := 19) hx hb d_La_ask_12 (by decide) ?_
    refine lv_iconst (v := 0) hx hb d_La_ask_19 (by decide) ?_
    subst hQQ
    refine W.widen (k := 1) (n := 6) (by decide) (by decide) ?_
    exact xm_iret hx hb hr hlk hw (rw_3, aq_4, pn_5, qpt_6, rs_7, rf_8, rc_9, na_10, f_11, v_12, oc_13) rfl rfl h d_La_ask_20
theorem xw_355 : (Jvm.Cond.code ({ cls := "QuestionDesk", name := "body", desc := "(III)I" } : Jvm.MethodName) prog_1_method_6_code (4 : Nat) (Option.some Jvm.ClassFile.FieldType.int)) ∈ xg := xg_t (i := 355) (by decide +kernel) (by decide +kernel)
theorem xw_352 : (Jvm.Cond.methodLink "QuestionDeskLaw" (26 : Nat) ({ cls := "QuestionDesk", name := "body", desc := "(III)I" } : Jvm.MethodName)) ∈ xg := xg_t (i := 352) (by decide +kernel) (by decide +kernel)
theorem xw_353 : (Jvm.Cond.instanceMethod ({ cls := "QuestionDesk", name := "body", desc := "(III)I" } : Jvm.MethodName)) ∈ xg := xg_t (i := 353) (by decide +kernel) (by decide +kernel)
theorem xw_354 : (Jvm.Cond.selects "QuestionDesk" ({ cls := "QuestionDesk", name := "body", desc := "(III)I" } : Jvm.MethodName) ({ cls := "QuestionDesk", name := "body", desc := "(III)I" } : Jvm.MethodName)) ∈ xg := xg_t (i := 354) (by decide +kernel) (by decide +kernel)
theorem xw_351 : (Jvm.Cond.classLink "QuestionDeskLaw" (30 : Nat) "java/lang/IllegalStateException") ∈ xg := xg_t (i := 351) (by decide +kernel) (by decide +kernel)
def wp_La_bodyS (post : Int32 → (Nat → Int32) → (Nat → Int32) → (Nat → Int32) → Int32 → (Nat → Int64) → Prop)  (np : Int32) (qpl : Nat → Int32) (wrs : Nat → Int32) (wrf : Nat → Int32) (wrc : Nat → Int32) (wna : Int32) (oc : Nat → Int64) (a0 : Int32) (x : Int32) (y : Int32) : Prop :=
wp_Qd_bodyS (fun r_1 wrs_3 wrf_4 wrc_5 wna_6 =>
vp_in 0 1 ∧
∀ oc_7 : Nat → Int64, oc_7 = vp_updL oc (Int32.toNatClampNeg 0) r_1.toInt64 →
post 0 wrs_3 wrf_4 wrc_5 wna_6 oc_7) (fun E => (E = "java/lang/IllegalStateException" ∧
post 1 wrs wrf wrc wna oc) ∨ (E = "java/lang/IllegalArgumentException" ∧
post 2 wrs wrf wrc wna oc)) np qpl wrs wrf wrc wna a0 x y
abbrev rm_La_bodyS : Room := { frames := 8, cells := 1, slots := 6, locals := 133 }
set_option maxHeartbeats 4000000 in
set_option maxRecDepth 100000 in
theorem c_La_bodyS {l : Launch} {D : va_G} {ad : Nat → Nat} (CE : (Nat → Int32) → (Nat → Int32) → (Nat → Int32) → Int32 → (Nat → Int64) → Nat → Option va_E) {cI cZ cJ cO : ClassId} {iQ : Nat} {ipl : Nat} {ibr : Nat} {iL : Nat} {iP : Nat} {iM : Nat} {iU : Nat} {ipt : Nat} {iwU : Nat} {iwA : Nat} {iwB : Nat} {iwC : Nat} {iO : Nat} {np : Int32} {qpl : Nat → Int32} {rw : Int32} {aq : Int32} {pn : Int32} (k_Q : ∀ (wrs : Nat → Int32) (wrf : Nat → Int32) (wrc : Nat → Int32) (wna : Int32) (oc : Nat → Int64), (CE wrs wrf wrc wna oc) iQ = some (.inr (0, [.ref (ad ipl), .ref (ad ibr), .int np, .ref (ad iL), .ref (ad iwU), .ref (ad iP), .ref (ad iM), .ref (ad iU), .ref (ad ipt), .int rw, .int aq, .int pn]))) (k_pl : ∀ (wrs : Nat → Int32) (wrf : Nat → Int32) (wrc : Nat → Int32) (wna : Int32) (oc : Nat → Int64), (CE wrs wrf wrc wna oc) ipl = some (.inl (cI, 10, .inl qpl))) (k_wU : ∀ (wrs : Nat → Int32) (wrf : Nat → Int32) (wrc : Nat → Int32) (wna : Int32) (oc : Nat → Int64), (CE wrs wrf wrc wna oc) iwU = some (.inr (3, [.ref (ad iwA), .ref (ad iwB), .ref (ad iwC), .int wna]))) (k_wA : ∀ (wrs : Nat → Int32) (wrf : Nat → Int32) (wrc : Nat → Int32) (wna : Int32) (oc : Nat → Int64), (CE wrs wrf wrc wna oc) iwA = some (.inl (cI, 4, .inl wrs))) (k_wB : ∀ (wrs : Nat → Int32) (wrf : Nat → Int32) (wrc : Nat → Int32) (wna : Int32) (oc : Nat → Int64), (CE wrs wrf wrc wna oc) iwB = some (.inl (cI, 4, .inl wrf))) (k_wC : ∀ (wrs : Nat → Int32) (wrf : Nat → Int32) (wrc : Nat → Int32) (wna : Int32) (oc : Nat → Int64), (CE wrs wrf wrc wna oc) iwC = some (.inl (cI, 4, .inl wrc))) (k_O : ∀ (wrs : Nat → Int32) (wrf : Nat → Int32) (wrc : Nat → Int32) (wna : Int32) (oc : Nat → Int64), (CE wrs wrf wrc wna oc) iO = some (.inl (cJ, 1, .inr (.inl oc)))) (u_wU : ∀ (wrs : Nat → Int32) (wrf : Nat → Int32) (wrc : Nat → Int32) (wna : Int32) (oc : Nat → Int64) (wna' : Int32), va_up (CE wrs wrf wrc wna oc) iwU (some (.inr (3, [.ref (ad iwA), .ref (ad iwB), .ref (ad iwC), .int wna']))) = (CE wrs wrf wrc wna' oc)) (u_wA : ∀ (wrs : Nat → Int32) (wrf : Nat → Int32) (wrc : Nat → Int32) (wna : Int32) (oc : Nat → Int64) (wrs' : Nat → Int32), va_up (CE wrs wrf wrc wna oc) iwA (some (.inl (cI, 4, .inl wrs'))) = (CE wrs' wrf wrc wna oc)) (u_wB : ∀ (wrs : Nat → Int32) (wrf : Nat → Int32) (wrc : Nat → Int32) (wna : Int32) (oc : Nat → Int64) (wrf' : Nat → Int32), va_up (CE wrs wrf wrc wna oc) iwB (some (.inl (cI, 4, .inl wrf'))) = (CE wrs wrf' wrc wna oc)) (u_wC : ∀ (wrs : Nat → Int32) (wrf : Nat → Int32) (wrc : Nat → Int32) (wna : Int32) (oc : Nat → Int64) (wrc' : Nat → Int32), va_up (CE wrs wrf wrc wna oc) iwC (some (.inl (cI, 4, .inl wrc'))) = (CE wrs wrf wrc' wna oc)) (u_O : ∀ (wrs : Nat → Int32) (wrf : Nat → Int32) (wrc : Nat → Int32) (wna : Int32) (oc : Nat → Int64) (oc' : Nat → Int64), va_up (CE wrs wrf wrc wna oc) iO (some (.inl (cJ, 1, .inr (.inl oc')))) = (CE wrs wrf wrc wna oc')) {post : Int32 → (Nat → Int32) → (Nat → Int32) → (Nat → Int32) → Int32 → (Nat → Int64) → Prop} {wrs : Nat → Int32} {wrf : Nat → Int32} {wrc : Nat → Int32} {wna : Int32} {oc : Nat → Int64} {a0 : Int32} {x : Int32} {y : Int32} (hlt : l.stackTraces = false) (h : wp_La_bodyS post np qpl wrs wrf wrc wna oc a0 x y) : ∀ sz, Met l y_La_body (Cond.codeWith y_La_body b_La_body 6 (some .int) [(0, 12, 15, 30), (0, 12, 19, 13)] :: xg) rm_La_bodyS (xh_Pc D xcl (xT cI cZ cJ cO) ad (CE wrs wrf wrc wna oc) sz [.ref (ad iQ), .int a0, .int x, .int y, .ref (ad iO)]) (va_Qi (fun (r : Int32) (u : (Nat → Int32) × (Nat → Int32) × (Nat → Int32) × Int32 × (Nat → Int64)) => post r u.1 u.2.1 u.2.2.1 u.2.2.2.1 u.2.2.2.2) (xm_B D xcl (xT cI cZ cJ cO) (xm_A ad (CE wrs wrf wrc wna oc) sz) (fun _ => ad) (fun u : (Nat → Int32) × (Nat → Int32) × (Nat → Int32) × Int32 × (Nat → Int64) => CE u.1 u.2.1 u.2.2.1 u.2.2.2.1 u.2.2.2.2)) (xm_A ad (CE wrs wrf wrc wna oc) sz)) 1 6 (xm_A ad (CE wrs wrf wrc wna oc) sz) := by
  refine xh_ofW (cc := b_La_body) (maxL := 6) (ret := (some .int)) (by decide) rfl (Nat.le_of_ble_eq_true rfl) ?_
  intro p e s m args below meth c ls QQ hQQ hT hNc htab hx hb hml hr hown hlk hnm hts hl hw
  have hl : lv_has ls 6 [(0, .ref (ad iQ)), (1, .int a0), (2, .int x), (3, .int y), (4, .ref (ad iO))] := hl
  unfold wp_La_bodyS at h
  refine lv_aload hx hb d_La_body_0 (lv_at hl 4 rfl) ?_
  refine lv_iconst (v := 0) hx hb d_La_body_2 (by decide) ?_
  refine lv_aload_n hx hb d_La_body_3 rfl (lv_at hl 0 rfl) ?_
  refine lv_iload_n hx hb d_La_body_4 rfl (lv_at hl 1 rfl) ?_
  refine lv_iload_n hx hb d_La_body_5 rfl (lv_at hl 2 rfl) ?_
  refine lv_iload_n hx hb d_La_body_6 rfl (lv_at hl 3 rfl) ?_
  refine xv_calli (ua := fun _ => ad) (vx_runV (As := [.int a0, .int x, .int y]) (rest := [.int 0, .ref (ad iO)]) ⟨hx, hb, hml, hown, hts⟩ (c_Qd_bodyS (D := D) (ad := ad) (CE := (fun wrs wrf wrc wna => (CE wrs wrf wrc wna oc)))  (fun wrs wrf wrc wna => k_Q wrs wrf wrc wna oc) (fun wrs wrf wrc wna => k_pl wrs wrf wrc wna oc) (fun wrs wrf wrc wna => k_wU wrs wrf wrc wna oc) (fun wrs wrf wrc wna => k_wA wrs wrf wrc wna oc) (fun wrs wrf wrc wna => k_wB wrs wrf wrc wna oc) (fun wrs wrf wrc wna => k_wC wrs wrf wrc wna oc) (fun wrs wrf wrc wna wna' => u_wU wrs wrf wrc wna oc wna') (fun wrs wrf wrc wna wrs' => u_wA wrs wrf wrc wna oc wrs') (fun wrs wrf wrc wna wrf' => u_wB wrs wrf wrc wna oc wrf') (fun wrs wrf wrc wna wrc' => u_wC wrs wrf wrc wna oc wrc') hlt h _) (xg_cwV 3 hts xw_355 xw_352 xw_353 xw_354 xw_1 rfl rfl (by decide +kernel) ⟨Nat.le_of_ble_eq_true rfl, Nat.le_of_ble_eq_true rfl⟩) (xv_preV hw hT (k_Q wrs wrf wrc wna oc) rfl _) rfl rfl hl.1 rfl (lv_room (Nat.le_of_ble_eq_true rfl)) d_La_body_7 ⟨Nat.le_of_ble_eq_true rfl, Nat.le_of_ble_eq_true rfl⟩) hw (fun E c9 q9 H locs hpx hw h1 h2 h3 => ?_) (fun r_1 u_2 H locs h hw => ?_)
  · rcases hpx with ⟨rfl, h⟩ | ⟨rfl, h⟩
    · refine vx_catch (name := "java/lang/IllegalStateException") hown [] ⟨0, 12, 15, 30⟩ [⟨0, 12, 19, 13⟩] (htab.trans rfl) (fun z hz => nomatch hz) (by decide) (by decide) (hts _ (List.mem_cons_of_mem _ xw_351)) ((hT.2.2.2.2.2 (.castable "java/lang/IllegalStateException" "java/lang/IllegalStateException") (by decide +kernel)).use rfl) h1 h2 h3 ?_
      refine lv_astore (lv' := [(5, .ref q9), (0, .ref (ad iQ)), (1, .int a0), (2, .int x), (3, .int y), (4, .ref (ad iO))]) hx hb d_La_body_15 hl (by decide) rfl (fun ls hl => ?_)
      refine lv_iconst (v := 1) hx hb d_La_body_17 (by decide) ?_
      subst hQQ
      refine W.widen (k := 1) (n := 6) (by decide) (by decide) ?_
      exact xm_iret hx hb hr hlk hw (wrs, wrf, wrc, wna, oc) rfl rfl h d_La_body_18
    · refine vx_catch (name := "java/lang/IllegalArgumentException") hown [⟨0, 12, 15, 30⟩] ⟨0, 12, 19, 13⟩ [] (htab.trans rfl) (fun z hz => by rw [List.mem_singleton] at hz; subst hz; exact Or.inr ⟨by decide, "java/lang/IllegalStateException", (hts _ (List.mem_cons_of_mem _ xw_351)), hNc⟩) (by decide) (by decide) (hts _ (List.mem_cons_of_mem _ xw_232)) ((hT.2.2.2.2.2 (.castable "java/lang/IllegalArgumentException" "java/lang/IllegalArgumentException") (by decide +kernel)).use rfl) h1 h2 h3 ?_
      refine lv_astore (lv' := [(5, .ref q9), (0, .ref (ad iQ)), (1, .int a0), (2, .int x), (3, .int y), (4, .ref (ad iO))]) hx hb d_La_body_19 hl (by decide) rfl (fun ls hl => ?_)
      refine lv_iconst (v := 2) hx hb d_La_body_21 (by decide) ?_
      subst hQQ
      refine W.widen (k := 1) (n := 6) (by decide) (by decide) ?_
      exact xm_iret hx hb hr hlk hw (wrs, wrf, wrc, wna, oc) rfl rfl h d_La_body_22
  · obtain ⟨wrs_3, ewrs_3⟩ : ∃ z, z = u_2.1 := ⟨_, rfl⟩
    obtain ⟨wrf_4, ewrf_4⟩ : ∃ z, z = u_2.2.1 := ⟨_, rfl⟩
    obtain ⟨wrc_5, ewrc_5⟩ : ∃ z, z = u_2.2.2.1 := ⟨_, rfl⟩
    obtain ⟨wna_6, ewna_6⟩ : ∃ z, z = u_2.2.2.2 := ⟨_, rfl⟩
    try dsimp only at h hw
    rw [← ewrs_3, ← ewrf_4, ← ewrc_5, ← ewna_6] at h hw
    refine lv_i2l hx hb d_La_body_10 rfl ?_
    obtain ⟨hin, h⟩ := h
    refine xm_last hx hb hw 2 (k_O wrs_3 wrf_4 wrc_5 wna_6 oc) rfl hin d_La_body_11 (fun H locs hw => ?_)
    have hw : xm_W D xcl (xT cI cZ cJ cO) (xm_A ad (CE wrs wrf wrc wna oc) s.heap.size) ad (CE wrs_3 wrf_4 wrc_5 wna_6 (vp_updL oc (Int32.toNatClampNeg 0) r_1.toInt64)) s s.heap H locs := xm_W.cast (u_O wrs_3 wrf_4 wrc_5 wna_6 oc (vp_updL oc (Int32.toNatClampNeg 0) r_1.toInt64)) hw
    obtain ⟨oc_7, eoc_7⟩ : ∃ z : Nat → Int64, z = vp_updL oc (Int32.toNatClampNeg 0) r_1.toInt64 := ⟨_, rfl⟩
    have h := h oc_7 eoc_7
    rw [← eoc_7] at hw
    refine lv_goto (tgt := 23) hx hb d_La_body_12 (by decide) ?_
    refine lv_iconst (v := 0) hx hb d_La_body_23 (by decide) ?_
    subst hQQ
    refine W.widen (k := 1) (n := 6) (by decide) (by decide) ?_
    exact xm_iret hx hb hr hlk hw (wrs_3, wrf_4, wrc_5, wna_6, oc_7) rfl rfl h d_La_body_24
def wp_La_bodyN (post : Int32 → (Nat → Int64) → Prop)  (np : Int32) (qpl : Nat → Int32) (oc : Nat → Int64) (a0 : Int32) (x : Int32) (y : Int32) : Prop :=
wp_Qd_bodyN (fun r_1 =>
vp_in 0 1 ∧
∀ oc_3 : Nat → Int64, oc_3 = vp_updL oc (Int32.toNatClampNeg 0) r_1.toInt64 →
post 0 oc_3) (fun E => (E = "java/lang/IllegalStateException" ∧
post 1 oc) ∨ (E = "java/lang/IllegalArgumentException" ∧
post 2 oc)) np qpl a0 x y
abbrev rm_La_bodyN : Room := { frames := 7, cells := 1, slots := 6, locals := 113 }
set_option maxHeartbeats 4000000 in
set_option maxRecDepth 100000 in
theorem c_La_bodyN {l : Launch} {D : va_G} {ad : Nat → Nat} (CE : (Nat → Int64) → Nat → Option va_E) {cI cZ cJ cO : ClassId} {iQ : Nat} {ipl : Nat} {ibr : Nat} {iL : Nat} {iP : Nat} {iM : Nat} {iU : Nat} {ipt : Nat} {iO : Nat} {np : Int32} {qpl : Nat → Int32} {rw : Int32} {aq : Int32} {pn : Int32} (k_Q : ∀ (oc : Nat → Int64), (CE oc) iQ = some (.inr (0, [.ref (ad ipl), .ref (ad ibr), .int np, .ref (ad iL), .null, .ref (ad iP), .ref (ad iM), .ref (ad iU), .ref (ad ipt), .int rw, .int aq, .int pn]))) (k_pl : ∀ (oc : Nat → Int64), (CE oc) ipl = some (.inl (cI, 10, .inl qpl))) (k_O : ∀ (oc : Nat → Int64), (CE oc) iO = some (.inl (cJ, 1, .inr (.inl oc)))) (u_O : ∀ (oc : Nat → Int64) (oc' : Nat → Int64), va_up (CE oc) iO (some (.inl (cJ, 1, .inr (.inl oc')))) = (CE oc')) {post : Int32 → (Nat → Int64) → Prop} {oc : Nat → Int64} {a0 : Int32} {x : Int32} {y : Int32} (hlt : l.stackTraces = false) (h : wp_La_bodyN post np qpl oc a0 x y) : ∀ sz, Met l y_La_body (Cond.codeWith y_La_body b_La_body 6 (some .int) [(0, 12, 15, 30), (0, 12, 19, 13)] :: xg) rm_La_bodyN (xh_Pc D xcl (xT cI cZ cJ cO) ad (CE oc) sz [.ref (ad iQ), .int a0, .int x, .int y, .ref (ad iO)]) (va_Qi (fun (r : Int32) (u : (Nat → Int64)) => post r u) (xm_B D xcl (xT cI cZ cJ cO) (xm_A ad (CE oc) sz) (fun _ => ad) (fun u : (Nat → Int64) => CE u)) (xm_A ad (CE oc) sz)) 1 6 (xm_A ad (CE oc) sz) := by
  refine xh_ofW (cc := b_La_body) (maxL := 6) (ret := (some .int)) (by decide) rfl (Nat.le_of_ble_eq_true rfl) ?_
  intro p e s m args below meth c ls QQ hQQ hT hNc htab hx hb hml hr hown hlk hnm hts hl hw
  have hl : lv_has ls 6 [(0, .ref (ad iQ)), (1, .int a0), (2, .int x), (3, .int y), (4, .ref (ad iO))] := hl
  unfold wp_La_bodyN at h
  refine lv_aload hx hb d_La_body_0 (lv_at hl 4 rfl) ?_
  refine lv_iconst (v := 0) hx hb d_La_body_2 (by decide) ?_
  refine lv_aload_n hx hb d_La_body_3 rfl (lv_at hl 0 rfl) ?_
  refine lv_iload_n hx hb d_La_body_4 rfl (lv_at hl 1 rfl) ?_
  refine lv_iload_n hx hb d_La_body_5 rfl (lv_at hl 2 rfl) ?_
  refine lv_iload_n hx hb d_La_body_6 rfl (lv_at hl 3 rfl) ?_
  refine xv_calli (ua := fun _ => ad) (vx_runV (As := [.int a0, .int x, .int y]) (rest := [.int 0, .ref (ad iO)]) ⟨hx, hb, hml, hown, hts⟩ (c_Qd_bodyN (D := D) (ad := ad) (CE := ((CE oc)))  (k_Q oc) (k_pl oc) hlt h _) (xg_cwV 3 hts xw_355 xw_352 xw_353 xw_354 xw_1 rfl rfl (by decide +kernel) ⟨Nat.le_of_ble_eq_true rfl, Nat.le_of_ble_eq_true rfl⟩) (xv_preV hw hT (k_Q oc) rfl _) rfl rfl hl.1 rfl (lv_room (Nat.le_of_ble_eq_true rfl)) d_La_body_7 ⟨Nat.le_of_ble_eq_true rfl, Nat.le_of_ble_eq_true rfl⟩) hw (fun E c9 q9 H locs hpx hw h1 h2 h3 => ?_) (fun r_1 _ H locs h hw => ?_)
  · rcases hpx with ⟨rfl, h⟩ | ⟨rfl, h⟩
    · refine vx_catch (name := "java/lang/IllegalStateException") hown [] ⟨0, 12, 15, 30⟩ [⟨0, 12, 19, 13⟩] (htab.trans rfl) (fun z hz => nomatch hz) (by decide) (by decide) (hts _ (List.mem_cons_of_mem _ xw_351)) ((hT.2.2.2.2.2 (.castable "java/lang/IllegalStateException" "java/lang/IllegalStateException") (by decide +kernel)).use rfl) h1 h2 h3 ?_
      refine lv_astore (lv' := [(5, .ref q9), (0, .ref (ad iQ)), (1, .int a0), (2, .int x), (3, .int y), (4, .ref (ad iO))]) hx hb d_La_body_15 hl (by decide) rfl (fun ls hl => ?_)
      refine lv_iconst (v := 1) hx hb d_La_body_17 (by decide) ?_
      subst hQQ
      refine W.widen (k := 1) (n := 6) (by decide) (by decide) ?_
      exact xm_iret hx hb hr hlk hw (oc) rfl rfl h d_La_body_18
    · refine vx_catch (name := "java/lang/IllegalArgumentException") hown [⟨0, 12, 15, 30⟩] ⟨0, 12, 19, 13⟩ [] (htab.trans rfl) (fun z hz => by rw [List.mem_singleton] at hz; subst hz; exact Or.inr ⟨by decide, "java/lang/IllegalStateException", (hts _ (List.mem_cons_of_mem _ xw_351)), hNc⟩) (by decide) (by decide) (hts _ (List.mem_cons_of_mem _ xw_232)) ((hT.2.2.2.2.2 (.castable "java/lang/IllegalArgumentException" "java/lang/IllegalArgumentException") (by decide +kernel)).use rfl) h1 h2 h3 ?_
      refine lv_astore (lv' := [(5, .ref q9), (0, .ref (ad iQ)), (1, .int a0), (2, .int x), (3, .int y), (4, .ref (ad iO))]) hx hb d_La_body_19 hl (by decide) rfl (fun ls hl => ?_)
      refine lv_iconst (v := 2) hx hb d_La_body_21 (by decide) ?_
      subst hQQ
      refine W.widen (k := 1) (n := 6) (by decide) (by decide) ?_
      exact xm_iret hx hb hr hlk hw (oc) rfl rfl h d_La_body_22
  · refine lv_i2l hx hb d_La_body_10 rfl ?_
    obtain ⟨hin, h⟩ := h
    refine xm_last hx hb hw 2 (k_O oc) rfl hin d_La_body_11 (fun H locs hw => ?_)
    have hw : xm_W D xcl (xT cI cZ cJ cO) (xm_A ad (CE oc) s.heap.size) ad (CE (vp_updL oc (Int32.toNatClampNeg 0) r_1.toInt64)) s s.heap H locs := xm_W.cast (u_O oc (vp_updL oc (Int32.toNatClampNeg 0) r_1.toInt64)) hw
    obtain ⟨oc_3, eoc_3⟩ : ∃ z : Nat → Int64, z = vp_updL oc (Int32.toNatClampNeg 0) r_1.toInt64 := ⟨_, rfl⟩
    have h := h oc_3 eoc_3
    rw [← eoc_3] at hw
    refine lv_goto (tgt := 23) hx hb d_La_body_12 (by decide) ?_
    refine lv_iconst (v := 0) hx hb d_La_body_23 (by decide) ?_
    subst hQQ
    refine W.widen (k := 1) (n := 6) (by decide) (by decide) ?_
    exact xm_iret hx hb hr hlk hw (oc_3) rfl rfl h d_La_body_24
theorem xw_382 : (Jvm.Cond.code ({ cls := "QuestionDesk", name := "done", desc := "()I" } : Jvm.MethodName) prog_1_method_7_code (2 : Nat) (Option.some Jvm.ClassFile.FieldType.int)) ∈ xg := xg_t (i := 382) (by decide +kernel) (by decide +kernel)
theorem xw_379 : (Jvm.Cond.methodLink "QuestionDeskLaw" (32 : Nat) ({ cls := "QuestionDesk", name := "done", desc := "()I" } : Jvm.MethodName)) ∈ xg := xg_t (i := 379) (by decide +kernel) (by decide +kernel)
theorem xw_380 : (Jvm.Cond.instanceMethod ({ cls := "QuestionDesk", name := "done", desc := "()I" } : Jvm.MethodName)) ∈ xg := xg_t (i := 380) (by decide +kernel) (by decide +kernel)
theorem xw_381 : (Jvm.Cond.selects "QuestionDesk" ({ cls := "QuestionDesk", name := "done", desc := "()I" } : Jvm.MethodName) ({ cls := "QuestionDesk", name := "done", desc := "()I" } : Jvm.MethodName)) ∈ xg := xg_t (i := 381) (by decide +kernel) (by decide +kernel)
def wp_La_doneN (post : Int32 → (Nat → Int64) → Prop)  (oc : Nat → Int64) : Prop :=
wp_Qd_doneN (fun r_1 =>
vp_in 0 1 ∧
∀ oc_3 : Nat → Int64, oc_3 = vp_updL oc (Int32.toNatClampNeg 0) r_1.toInt64 →
post 0 oc_3) (fun E => (E = "java/lang/IllegalStateException" ∧
post 1 oc))
abbrev rm_La_doneN : Room := { frames := 7, cells := 1, slots := 6, locals := 111 }
set_option maxHeartbeats 4000000 in
set_option maxRecDepth 100000 in
theorem c_La_doneN {l : Launch} {D : va_G} {ad : Nat → Nat} (CE : (Nat → Int64) → Nat → Option va_E) {cI cZ cJ cO : ClassId} {iQ : Nat} {ipl : Nat} {ibr : Nat} {iL : Nat} {iP : Nat} {iM : Nat} {iU : Nat} {ipt : Nat} {iO : Nat} {np : Int32} {rw : Int32} {aq : Int32} {pn : Int32} (k_Q : ∀ (oc : Nat → Int64), (CE oc) iQ = some (.inr (0, [.ref (ad ipl), .ref (ad ibr), .int np, .ref (ad iL), .null, .ref (ad iP), .ref (ad iM), .ref (ad iU), .ref (ad ipt), .int rw, .int aq, .int pn]))) (k_O : ∀ (oc : Nat → Int64), (CE oc) iO = some (.inl (cJ, 1, .inr (.inl oc)))) (u_O : ∀ (oc : Nat → Int64) (oc' : Nat → Int64), va_up (CE oc) iO (some (.inl (cJ, 1, .inr (.inl oc')))) = (CE oc')) {post : Int32 → (Nat → Int64) → Prop} {oc : Nat → Int64} (hlt : l.stackTraces = false) (h : wp_La_doneN post oc) : ∀ sz, Met l y_La_done (Cond.codeWith y_La_done b_La_done 3 (some .int) [(0, 8, 11, 30)] :: xg) rm_La_doneN (xh_Pc D xcl (xT cI cZ cJ cO) ad (CE oc) sz [.ref (ad iQ), .ref (ad iO)]) (va_Qi (fun (r : Int32) (u : (Nat → Int64)) => post r u) (xm_B D xcl (xT cI cZ cJ cO) (xm_A ad (CE oc) sz) (fun _ => ad) (fun u : (Nat → Int64) => CE u)) (xm_A ad (CE oc) sz)) 1 6 (xm_A ad (CE oc) sz) := by
  refine xh_ofW (cc := b_La_done) (maxL := 3) (ret := (some .int)) (by decide) rfl (Nat.le_of_ble_eq_true rfl) ?_
  intro p e s m args below meth c ls QQ hQQ hT hNc htab hx hb hml hr hown hlk hnm hts hl hw
  have hl : lv_has ls 3 [(0, .ref (ad iQ)), (1, .ref (ad iO))] := hl
  unfold wp_La_doneN at h
  refine lv_aload_n hx hb d_La_done_0 rfl (lv_at hl 1 rfl) ?_
  refine lv_iconst (v := 0) hx hb d_La_done_1 (by decide) ?_
  refine lv_aload_n hx hb d_La_done_2 rfl (lv_at hl 0 rfl) ?_
  refine xv_calli (ua := fun _ => ad) (vx_runV (As := []) (rest := [.int 0, .ref (ad iO)]) ⟨hx, hb, hml, hown, hts⟩ (c_Qd_doneN (D := D) (ad := ad) (CE := ((CE oc)))  (k_Q oc) hlt h _) (xg_cwV 0 hts xw_382 xw_379 xw_380 xw_381 xw_1 rfl rfl (by decide +kernel) ⟨Nat.le_of_ble_eq_true rfl, Nat.le_of_ble_eq_true rfl⟩) (xv_preV hw hT (k_Q oc) rfl _) rfl rfl hl.1 rfl (lv_room (Nat.le_of_ble_eq_true rfl)) d_La_done_3 ⟨Nat.le_of_ble_eq_true rfl, Nat.le_of_ble_eq_true rfl⟩) hw (fun E c9 q9 H locs hpx hw h1 h2 h3 => ?_) (fun r_1 _ H locs h hw => ?_)
  · rcases hpx with ⟨rfl, h⟩
    · refine vx_catch (name := "java/lang/IllegalStateException") hown [] ⟨0, 8, 11, 30⟩ [] (htab.trans rfl) (fun z hz => nomatch hz) (by decide) (by decide) (hts _ (List.mem_cons_of_mem _ xw_351)) ((hT.2.2.2.2.2 (.castable "java/lang/IllegalStateException" "java/lang/IllegalStateException") (by decide +kernel)).use rfl) h1 h2 h3 ?_
      refine lv_astore_n (lv' := [(2, .ref q9), (0, .ref (ad iQ)), (1, .ref (ad iO))]) hx hb d_La_done_11 rfl hl (by decide) rfl (fun ls hl => ?_)
      refine lv_iconst (v := 1) hx hb d_La_done_12 (by decide) ?_
      subst hQQ
      refine W.widen (k := 1) (n := 6) (by decide) (by decide) ?_
      exact xm_iret hx hb hr hlk hw (oc) rfl rfl h d_La_done_13
  · refine lv_i2l hx hb d_La_done_6 rfl ?_
    obtain ⟨hin, h⟩ := h
    refine xm_last hx hb hw 2 (k_O oc) rfl hin d_La_done_7 (fun H locs hw => ?_)
    have hw : xm_W D xcl (xT cI cZ cJ cO) (xm_A ad (CE oc) s.heap.size) ad (CE (vp_updL oc (Int32.toNatClampNeg 0) r_1.toInt64)) s s.heap H locs := xm_W.cast (u_O oc (vp_updL oc (Int32.toNatClampNeg 0) r_1.toInt64)) hw
    obtain ⟨oc_3, eoc_3⟩ : ∃ z : Nat → Int64, z = vp_updL oc (Int32.toNatClampNeg 0) r_1.toInt64 := ⟨_, rfl⟩
    have h := h oc_3 eoc_3
    rw [← eoc_3] at hw
    refine lv_goto (tgt := 14) hx hb d_La_done_8 (by decide) ?_
    refine lv_iconst (v := 0) hx hb d_La_done_14 (by decide) ?_
    subst hQQ
    refine W.widen (k := 1) (n := 6) (by decide) (by decide) ?_
    exact xm_iret hx hb hr hlk hw (oc_3) rfl rfl h d_La_done_15
