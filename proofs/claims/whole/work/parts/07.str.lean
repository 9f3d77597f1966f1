theorem w_12 : (Jvm.Cond.initialized "java/lang/String") ∈ tW := tW_t (i := 12) (by decide +kernel) rfl
theorem w_13 : (Jvm.Cond.initialized "java/lang/StringLatin1") ∈ tW := tW_t (i := 13) (by decide +kernel) rfl
theorem w_14 : (Jvm.Cond.initialized "jdk/internal/util/Preconditions") ∈ tW := tW_t (i := 14) (by decide +kernel) rfl
theorem w_465 : (Jvm.Cond.methodLink "RoadOfDoors$Tape" (75 : Nat) ({ cls := "java/lang/String", name := "length", desc := "()I" } : Jvm.MethodName)) ∈ tW := tW_t (i := 465) (by decide +kernel) rfl
theorem w_466 : (Jvm.Cond.instanceMethod ({ cls := "java/lang/String", name := "length", desc := "()I" } : Jvm.MethodName)) ∈ tW := tW_t (i := 466) (by decide +kernel) rfl
theorem w_467 : (Jvm.Cond.selects "java/lang/String" ({ cls := "java/lang/String", name := "length", desc := "()I" } : Jvm.MethodName) ({ cls := "java/lang/String", name := "length", desc := "()I" } : Jvm.MethodName)) ∈ tW := tW_t (i := 467) (by decide +kernel) rfl
theorem w_469 : (Jvm.Cond.methodLink "java/lang/String" (335 : Nat) ({ cls := "java/lang/String", name := "coder", desc := "()B" } : Jvm.MethodName)) ∈ tW := tW_t (i := 469) (by decide +kernel) rfl
theorem w_470 : (Jvm.Cond.instanceMethod ({ cls := "java/lang/String", name := "coder", desc := "()B" } : Jvm.MethodName)) ∈ tW := tW_t (i := 470) (by decide +kernel) rfl
theorem w_471 : (Jvm.Cond.selects "java/lang/String" ({ cls := "java/lang/String", name := "coder", desc := "()B" } : Jvm.MethodName) ({ cls := "java/lang/String", name := "coder", desc := "()B" } : Jvm.MethodName)) ∈ tW := tW_t (i := 471) (by decide +kernel) rfl
theorem w_473 : (Jvm.Cond.fieldLink "java/lang/String" (38 : Nat) "java/lang/String" "COMPACT_STRINGS" "Z") ∈ tW := tW_t (i := 473) (by decide +kernel) rfl
theorem w_475 : (Jvm.Cond.methodLink "RoadOfDoors$Tape" (79 : Nat) ({ cls := "java/lang/String", name := "charAt", desc := "(I)C" } : Jvm.MethodName)) ∈ tW := tW_t (i := 475) (by decide +kernel) rfl
theorem w_476 : (Jvm.Cond.instanceMethod ({ cls := "java/lang/String", name := "charAt", desc := "(I)C" } : Jvm.MethodName)) ∈ tW := tW_t (i := 476) (by decide +kernel) rfl
theorem w_477 : (Jvm.Cond.selects "java/lang/String" ({ cls := "java/lang/String", name := "charAt", desc := "(I)C" } : Jvm.MethodName) ({ cls := "java/lang/String", name := "charAt", desc := "(I)C" } : Jvm.MethodName)) ∈ tW := tW_t (i := 477) (by decide +kernel) rfl
theorem w_479 : (Jvm.Cond.methodLink "java/lang/String" (492 : Nat) ({ cls := "java/lang/String", name := "isLatin1", desc := "()Z" } : Jvm.MethodName)) ∈ tW := tW_t (i := 479) (by decide +kernel) rfl
theorem w_480 : (Jvm.Cond.instanceMethod ({ cls := "java/lang/String", name := "isLatin1", desc := "()Z" } : Jvm.MethodName)) ∈ tW := tW_t (i := 480) (by decide +kernel) rfl
theorem w_481 : (Jvm.Cond.selects "java/lang/String" ({ cls := "java/lang/String", name := "isLatin1", desc := "()Z" } : Jvm.MethodName) ({ cls := "java/lang/String", name := "isLatin1", desc := "()Z" } : Jvm.MethodName)) ∈ tW := tW_t (i := 481) (by decide +kernel) rfl
theorem w_483 : (Jvm.Cond.methodLink "java/lang/String" (495 : Nat) ({ cls := "java/lang/StringLatin1", name := "charAt", desc := "([BI)C" } : Jvm.MethodName)) ∈ tW := tW_t (i := 483) (by decide +kernel) rfl
theorem w_484 : (Jvm.Cond.static ({ cls := "java/lang/StringLatin1", name := "charAt", desc := "([BI)C" } : Jvm.MethodName)) ∈ tW := tW_t (i := 484) (by decide +kernel) rfl
theorem w_486 : (Jvm.Cond.methodLink "java/lang/StringLatin1" (9 : Nat) ({ cls := "java/lang/String", name := "checkIndex", desc := "(II)V" } : Jvm.MethodName)) ∈ tW := tW_t (i := 486) (by decide +kernel) rfl
theorem w_487 : (Jvm.Cond.static ({ cls := "java/lang/String", name := "checkIndex", desc := "(II)V" } : Jvm.MethodName)) ∈ tW := tW_t (i := 487) (by decide +kernel) rfl
theorem w_489 : (Jvm.Cond.fieldLink "java/lang/String" (1053 : Nat) "jdk/internal/util/Preconditions" "SIOOBE_FORMATTER" "Ljava/util/function/BiFunction;") ∈ tW := tW_t (i := 489) (by decide +kernel) rfl
theorem w_491 : (Jvm.Cond.methodLink "java/lang/String" (1059 : Nat) ({ cls := "jdk/internal/util/Preconditions", name := "checkIndex", desc := "(IILjava/util/function/BiFunction;)I" } : Jvm.MethodName)) ∈ tW := tW_t (i := 491) (by decide +kernel) rfl
theorem w_492 : (Jvm.Cond.static ({ cls := "jdk/internal/util/Preconditions", name := "checkIndex", desc := "(IILjava/util/function/BiFunction;)I" } : Jvm.MethodName)) ∈ tW := tW_t (i := 492) (by decide +kernel) rfl
theorem w_1341 : (Jvm.Cond.fieldLink "java/lang/String" (9 : Nat) "java/lang/String" "value" "[B") ∈ tW := tW_t (i := 1341) (by decide +kernel) rfl
theorem w_1342 : (Jvm.Cond.fieldLink "java/lang/String" (15 : Nat) "java/lang/String" "coder" "B") ∈ tW := tW_t (i := 1342) (by decide +kernel) rfl
theorem kc_J0_coder_7d493 : Cond.code yJ0_coder_7d493 cJ0_coder_7d493 1 (some .byte) ∈ tW := tW_t (i := 472) (by decide +kernel) rfl
theorem kc_J3_checkIndex_8e157 : Cond.code yJ3_checkIndex_8e157 cJ3_checkIndex_8e157 3 (some .int) ∈ tW := tW_t (i := 493) (by decide +kernel) rfl
theorem kc_J0_checkIndex_df160 : Cond.code yJ0_checkIndex_df160 cJ0_checkIndex_df160 2 none ∈ tW := tW_t (i := 488) (by decide +kernel) rfl
theorem kc_J0_isLatin1_aae02 : Cond.code yJ0_isLatin1_aae02 cJ0_isLatin1_aae02 1 (some .boolean) ∈ tW := tW_t (i := 482) (by decide +kernel) rfl
theorem kc_J1_charAt_3b067 : Cond.code yJ1_charAt_3b067 cJ1_charAt_3b067 2 (some .char) ∈ tW := tW_t (i := 485) (by decide +kernel) rfl
theorem kc_J0_length_8abf5 : Cond.code yJ0_length_8abf5 cJ0_length_8abf5 1 (some .int) ∈ tW := tW_t (i := 468) (by decide +kernel) rfl
theorem kc_J0_charAt_5068e : Cond.code yJ0_charAt_5068e cJ0_charAt_5068e 2 (some .char) ∈ tW := tW_t (i := 478) (by decide +kernel) rfl
theorem jy_J0_charAt_5068e : jyes yJ0_charAt_5068e 1 := by unfold jyes; decide +kernel
theorem jy_J0_checkIndex_df160 : jyes yJ0_checkIndex_df160 2 := by unfold jyes; decide +kernel
theorem jy_J0_coder_7d493 : jyes yJ0_coder_7d493 0 := by unfold jyes; decide +kernel
theorem jy_J0_isLatin1_aae02 : jyes yJ0_isLatin1_aae02 0 := by unfold jyes; decide +kernel
theorem jy_J0_length_8abf5 : jyes yJ0_length_8abf5 0 := by unfold jyes; decide +kernel
theorem jy_J1_charAt_3b067 : jyes yJ1_charAt_3b067 2 := by unfold jyes; decide +kernel
theorem jy_J3_checkIndex_8e157 : jyes yJ3_checkIndex_8e157 3 := by unfold jyes; decide +kernel
theorem dJ0_coder_7d493_0 : decode cJ0_coder_7d493 0 = .ok (.getstatic 38, 3) := by decide +kernel
theorem dJ0_coder_7d493_3 : decode cJ0_coder_7d493 3 = .ok (.ifCond .eq 10, 3) := by decide +kernel
theorem dJ0_coder_7d493_6 : decode cJ0_coder_7d493 6 = .ok (.aload_n 0, 1) := by decide +kernel
theorem dJ0_coder_7d493_7 : decode cJ0_coder_7d493 7 = .ok (.getfield 15, 3) := by decide +kernel
theorem dJ0_coder_7d493_10 : decode cJ0_coder_7d493 10 = .ok (.goto 4, 3) := by decide +kernel
theorem dJ0_coder_7d493_13 : decode cJ0_coder_7d493 13 = .ok (.iconst 1, 1) := by decide +kernel
theorem dJ0_coder_7d493_14 : decode cJ0_coder_7d493 14 = .ok (.ireturn, 1) := by decide +kernel
theorem dJ0_isLatin1_aae02_0 : decode cJ0_isLatin1_aae02 0 = .ok (.getstatic 38, 3) := by decide +kernel
theorem dJ0_isLatin1_aae02_3 : decode cJ0_isLatin1_aae02 3 = .ok (.ifCond .eq 14, 3) := by decide +kernel
theorem dJ0_isLatin1_aae02_6 : decode cJ0_isLatin1_aae02 6 = .ok (.aload_n 0, 1) := by decide +kernel
theorem dJ0_isLatin1_aae02_7 : decode cJ0_isLatin1_aae02 7 = .ok (.getfield 15, 3) := by decide +kernel
theorem dJ0_isLatin1_aae02_10 : decode cJ0_isLatin1_aae02 10 = .ok (.ifCond .ne 7, 3) := by decide +kernel
theorem dJ0_isLatin1_aae02_13 : decode cJ0_isLatin1_aae02 13 = .ok (.iconst 1, 1) := by decide +kernel
theorem dJ0_isLatin1_aae02_14 : decode cJ0_isLatin1_aae02 14 = .ok (.goto 4, 3) := by decide +kernel
theorem dJ0_isLatin1_aae02_17 : decode cJ0_isLatin1_aae02 17 = .ok (.iconst 0, 1) := by decide +kernel
theorem dJ0_isLatin1_aae02_18 : decode cJ0_isLatin1_aae02 18 = .ok (.ireturn, 1) := by decide +kernel
theorem dJ0_length_8abf5_0 : decode cJ0_length_8abf5 0 = .ok (.aload_n 0, 1) := by decide +kernel
theorem dJ0_length_8abf5_1 : decode cJ0_length_8abf5 1 = .ok (.getfield 9, 3) := by decide +kernel
theorem dJ0_length_8abf5_4 : decode cJ0_length_8abf5 4 = .ok (.arraylength, 1) := by decide +kernel
theorem dJ0_length_8abf5_5 : decode cJ0_length_8abf5 5 = .ok (.aload_n 0, 1) := by decide +kernel
theorem dJ0_length_8abf5_6 : decode cJ0_length_8abf5 6 = .ok (.invokevirtual 335, 3) := by decide +kernel
theorem dJ0_length_8abf5_9 : decode cJ0_length_8abf5 9 = .ok (.ishr, 1) := by decide +kernel
theorem dJ0_length_8abf5_10 : decode cJ0_length_8abf5 10 = .ok (.ireturn, 1) := by decide +kernel
theorem dJ0_charAt_5068e_0 : decode cJ0_charAt_5068e 0 = .ok (.aload_n 0, 1) := by decide +kernel
theorem dJ0_charAt_5068e_1 : decode cJ0_charAt_5068e 1 = .ok (.invokevirtual 492, 3) := by decide +kernel
theorem dJ0_charAt_5068e_4 : decode cJ0_charAt_5068e 4 = .ok (.ifCond .eq 12, 3) := by decide +kernel
theorem dJ0_charAt_5068e_7 : decode cJ0_charAt_5068e 7 = .ok (.aload_n 0, 1) := by decide +kernel
theorem dJ0_charAt_5068e_8 : decode cJ0_charAt_5068e 8 = .ok (.getfield 9, 3) := by decide +kernel
theorem dJ0_charAt_5068e_11 : decode cJ0_charAt_5068e 11 = .ok (.iload_n 1, 1) := by decide +kernel
theorem dJ0_charAt_5068e_12 : decode cJ0_charAt_5068e 12 = .ok (.invokestatic 495, 3) := by decide +kernel
theorem dJ0_charAt_5068e_15 : decode cJ0_charAt_5068e 15 = .ok (.ireturn, 1) := by decide +kernel
theorem dJ0_charAt_5068e_16 : decode cJ0_charAt_5068e 16 = .ok (.aload_n 0, 1) := by decide +kernel
theorem dJ0_charAt_5068e_17 : decode cJ0_charAt_5068e 17 = .ok (.getfield 9, 3) := by decide +kernel
theorem dJ0_charAt_5068e_20 : decode cJ0_charAt_5068e 20 = .ok (.iload_n 1, 1) := by decide +kernel
theorem dJ0_charAt_5068e_21 : decode cJ0_charAt_5068e 21 = .ok (.invokestatic 498, 3) := by decide +kernel
theorem dJ0_charAt_5068e_24 : decode cJ0_charAt_5068e 24 = .ok (.ireturn, 1) := by decide +kernel
theorem dJ0_checkIndex_df160_0 : decode cJ0_checkIndex_df160 0 = .ok (.iload_n 0, 1) := by decide +kernel
theorem dJ0_checkIndex_df160_1 : decode cJ0_checkIndex_df160 1 = .ok (.iload_n 1, 1) := by decide +kernel
theorem dJ0_checkIndex_df160_2 : decode cJ0_checkIndex_df160 2 = .ok (.getstatic 1053, 3) := by decide +kernel
theorem dJ0_checkIndex_df160_5 : decode cJ0_checkIndex_df160 5 = .ok (.invokestatic 1059, 3) := by decide +kernel
theorem dJ0_checkIndex_df160_8 : decode cJ0_checkIndex_df160 8 = .ok (.pop, 1) := by decide +kernel
theorem dJ0_checkIndex_df160_9 : decode cJ0_checkIndex_df160 9 = .ok (.return_, 1) := by decide +kernel
theorem dJ1_charAt_3b067_0 : decode cJ1_charAt_3b067 0 = .ok (.iload_n 1, 1) := by decide +kernel
theorem dJ1_charAt_3b067_1 : decode cJ1_charAt_3b067 1 = .ok (.aload_n 0, 1) := by decide +kernel
theorem dJ1_charAt_3b067_2 : decode cJ1_charAt_3b067 2 = .ok (.arraylength, 1) := by decide +kernel
theorem dJ1_charAt_3b067_3 : decode cJ1_charAt_3b067 3 = .ok (.invokestatic 9, 3) := by decide +kernel
theorem dJ1_charAt_3b067_6 : decode cJ1_charAt_3b067 6 = .ok (.aload_n 0, 1) := by decide +kernel
theorem dJ1_charAt_3b067_7 : decode cJ1_charAt_3b067 7 = .ok (.iload_n 1, 1) := by decide +kernel
theorem dJ1_charAt_3b067_8 : decode cJ1_charAt_3b067 8 = .ok (.baload, 1) := by decide +kernel
theorem dJ1_charAt_3b067_9 : decode cJ1_charAt_3b067 9 = .ok (.sipush 255, 3) := by decide +kernel
theorem dJ1_charAt_3b067_12 : decode cJ1_charAt_3b067 12 = .ok (.iand, 1) := by decide +kernel
theorem dJ1_charAt_3b067_13 : decode cJ1_charAt_3b067 13 = .ok (.i2c, 1) := by decide +kernel
theorem dJ1_charAt_3b067_14 : decode cJ1_charAt_3b067 14 = .ok (.ireturn, 1) := by decide +kernel
theorem dJ3_checkIndex_8e157_0 : decode cJ3_checkIndex_8e157 0 = .ok (.iload_n 0, 1) := by decide +kernel
theorem dJ3_checkIndex_8e157_1 : decode cJ3_checkIndex_8e157 1 = .ok (.ifCond .lt 8, 3) := by decide +kernel
theorem dJ3_checkIndex_8e157_4 : decode cJ3_checkIndex_8e157 4 = .ok (.iload_n 0, 1) := by decide +kernel
theorem dJ3_checkIndex_8e157_5 : decode cJ3_checkIndex_8e157 5 = .ok (.iload_n 1, 1) := by decide +kernel
theorem dJ3_checkIndex_8e157_6 : decode cJ3_checkIndex_8e157 6 = .ok (.if_icmp .lt 10, 3) := by decide +kernel
theorem dJ3_checkIndex_8e157_9 : decode cJ3_checkIndex_8e157 9 = .ok (.aload_n 2, 1) := by decide +kernel
theorem dJ3_checkIndex_8e157_10 : decode cJ3_checkIndex_8e157 10 = .ok (.iload_n 0, 1) := by decide +kernel
theorem dJ3_checkIndex_8e157_11 : decode cJ3_checkIndex_8e157 11 = .ok (.iload_n 1, 1) := by decide +kernel
theorem dJ3_checkIndex_8e157_12 : decode cJ3_checkIndex_8e157 12 = .ok (.invokestatic 95, 3) := by decide +kernel
theorem dJ3_checkIndex_8e157_15 : decode cJ3_checkIndex_8e157 15 = .ok (.athrow, 1) := by decide +kernel
theorem dJ3_checkIndex_8e157_16 : decode cJ3_checkIndex_8e157 16 = .ok (.iload_n 0, 1) := by decide +kernel
theorem dJ3_checkIndex_8e157_17 : decode cJ3_checkIndex_8e157 17 = .ok (.ireturn, 1) := by decide +kernel
theorem dX4_spells_0 : decode cX4_spells 0 = .ok (.aload_n 0, 1) := by decide +kernel
theorem dX4_spells_1 : decode cX4_spells 1 = .ok (.getfield 19, 3) := by decide +kernel
theorem dX4_spells_4 : decode cX4_spells 4 = .ok (.aload_n 0, 1) := by decide +kernel
theorem dX4_spells_5 : decode cX4_spells 5 = .ok (.getfield 30, 3) := by decide +kernel
theorem dX4_spells_8 : decode cX4_spells 8 = .ok (.isub, 1) := by decide +kernel
theorem dX4_spells_9 : decode cX4_spells 9 = .ok (.aload_n 1, 1) := by decide +kernel
theorem dX4_spells_10 : decode cX4_spells 10 = .ok (.invokevirtual 75, 3) := by decide +kernel
theorem dX4_spells_13 : decode cX4_spells 13 = .ok (.if_icmp .eq 5, 3) := by decide +kernel
theorem dX4_spells_16 : decode cX4_spells 16 = .ok (.iconst 0, 1) := by decide +kernel
theorem dX4_spells_17 : decode cX4_spells 17 = .ok (.ireturn, 1) := by decide +kernel
theorem dX4_spells_18 : decode cX4_spells 18 = .ok (.iconst 0, 1) := by decide +kernel
theorem dX4_spells_19 : decode cX4_spells 19 = .ok (.istore_n 2, 1) := by decide +kernel
theorem dX4_spells_20 : decode cX4_spells 20 = .ok (.iload_n 2, 1) := by decide +kernel
theorem dX4_spells_21 : decode cX4_spells 21 = .ok (.aload_n 1, 1) := by decide +kernel
theorem dX4_spells_22 : decode cX4_spells 22 = .ok (.invokevirtual 75, 3) := by decide +kernel
theorem dX4_spells_25 : decode cX4_spells 25 = .ok (.if_icmp .ge 29, 3) := by decide +kernel
theorem dX4_spells_28 : decode cX4_spells 28 = .ok (.aload_n 0, 1) := by decide +kernel
theorem dX4_spells_29 : decode cX4_spells 29 = .ok (.aload_n 0, 1) := by decide +kernel
theorem dX4_spells_30 : decode cX4_spells 30 = .ok (.getfield 30, 3) := by decide +kernel
theorem dX4_spells_33 : decode cX4_spells 33 = .ok (.iload_n 2, 1) := by decide +kernel
theorem dX4_spells_34 : decode cX4_spells 34 = .ok (.iadd, 1) := by decide +kernel
theorem dX4_spells_35 : decode cX4_spells 35 = .ok (.invokevirtual 22, 3) := by decide +kernel
theorem dX4_spells_38 : decode cX4_spells 38 = .ok (.aload_n 1, 1) := by decide +kernel
theorem dX4_spells_39 : decode cX4_spells 39 = .ok (.iload_n 2, 1) := by decide +kernel
theorem dX4_spells_40 : decode cX4_spells 40 = .ok (.invokevirtual 79, 3) := by decide +kernel
theorem dX4_spells_43 : decode cX4_spells 43 = .ok (.if_icmp .eq 5, 3) := by decide +kernel
theorem dX4_spells_46 : decode cX4_spells 46 = .ok (.iconst 0, 1) := by decide +kernel
theorem dX4_spells_47 : decode cX4_spells 47 = .ok (.ireturn, 1) := by decide +kernel
theorem dX4_spells_48 : decode cX4_spells 48 = .ok (.iinc 2 1, 3) := by decide +kernel
theorem dX4_spells_51 : decode cX4_spells 51 = .ok (.goto (-31), 3) := by decide +kernel
theorem dX4_spells_54 : decode cX4_spells 54 = .ok (.iconst 1, 1) := by decide +kernel
theorem dX4_spells_55 : decode cX4_spells 55 = .ok (.ireturn, 1) := by decide +kernel
section JSTR
variable {l : Launch} {D : va_G} {G : Nat → ClassId} {KV : jV} {own : String} {cc : ByteArray} {nL : Nat} {ret : Option FieldType} {R : Room} {mc ms : Nat} {nm : String} {PP : Option Value → va_W → Prop} {K : Nat → Nat → va_W → Nat → List (Nat × Value) → List Value → Prop}
variable {cs sl pc : Nat} {ws : va_W} {L : List (Nat × Value)} {rest : List Value}
theorem j_strV (C : jK l D G KV own cc nL ret R mc ms nm PP K) {idx i : Nat} (hdg : decode cc pc = .ok (.getfield idx, 3)) (hi : i < 15) (hlink : Cond.fieldLink own idx "java/lang/String" "value" "[B" ∈ tW) (k : K cs sl ws (pc + 3) L (.ref (KV.1.2 i) :: rest)) : K cs sl ws pc L (.ref (KV.1.1 i) :: rest) := by
  obtain ⟨p, e, s, m, args, below, meth, c, A, Qc, hx, hb, hml, hown, hts, hr, hlk, hnm, hK, hE, hA, hend, rfl⟩ := C
  exact fun H locs ls hP hD hS hL => vk_getf hx hb (hE.2.1.1 i hi).2.2.1 hS hown (hts _ hlink) (fun _ h => h) hdg (k H locs ls hP hD hS hL)
theorem j_strC (C : jK l D G KV own cc nL ret R mc ms nm PP K) {idx i : Nat} (hdg : decode cc pc = .ok (.getfield idx, 3)) (hi : i < 15) (hlink : Cond.fieldLink own idx "java/lang/String" "coder" "B" ∈ tW) (k : K cs sl ws (pc + 3) L (.int 0 :: rest)) : K cs sl ws pc L (.ref (KV.1.1 i) :: rest) := by
  obtain ⟨p, e, s, m, args, below, meth, c, A, Qc, hx, hb, hml, hown, hts, hr, hlk, hnm, hK, hE, hA, hend, rfl⟩ := C
  exact fun H locs ls hP hD hS hL => vk_getf hx hb (hE.2.1.1 i hi).2.1 hS hown (hts _ hlink) (fun _ h => h) hdg (k H locs ls hP hD hS hL)
theorem j_strLen (C : jK l D G KV own cc nL ret R mc ms nm PP K) {i : Nat} (hdg : decode cc pc = .ok (.arraylength, 1)) (hi : i < 15) (k : K cs sl ws (pc + 1) L (.int (Int32.ofNat (jlen.getD i 0)) :: rest)) : K cs sl ws pc L (.ref (KV.1.2 i) :: rest) := by
  obtain ⟨p, e, s, m, args, below, meth, c, A, Qc, hx, hb, hml, hown, hts, hr, hlk, hnm, hK, hE, hA, hend, rfl⟩ := C
  exact fun H locs ls hP hD hS hL => va_tlen hx hb (hE.2.1.1 i hi).2.2.2 hS rfl hdg (k H locs ls hP hD hS hL)
theorem j_strB (C : jK l D G KV own cc nL ret R mc ms nm PP K) {i : Nat} {x : Int32} (hdg : decode cc pc = .ok (.baload, 1)) (hi : i < 15) (hin : vp_in x (jlen.getD i 0)) (k : K cs sl ws (pc + 1) L (.int ((jbyt.getD i []).getD x.toNatClampNeg 0) :: rest)) : K cs sl ws pc L (.int x :: .ref (KV.1.2 i) :: rest) := by
  obtain ⟨p, e, s, m, args, below, meth, c, A, Qc, hx, hb, hml, hown, hts, hr, hlk, hnm, hK, hE, hA, hend, rfl⟩ := C
  exact fun H locs ls hP hD hS hL => va_tb hx hb (hE.2.1.1 i hi).2.2.2 hS hin rfl hdg (k H locs ls hP hD hS hL)
theorem j_comp (C : jK l D G KV own cc nL ret R mc ms nm PP K) {idx : Nat} (hdg : decode cc pc = .ok (.getstatic idx, 3)) (hlink : Cond.fieldLink own idx "java/lang/String" "COMPACT_STRINGS" "Z" ∈ tW) (k : K cs sl ws (pc + 3) L (.int 1 :: rest)) : K cs sl ws pc L rest := by
  obtain ⟨p, e, s, m, args, below, meth, c, A, Qc, hx, hb, hml, hown, hts, hr, hlk, hnm, hK, hE, hA, hend, rfl⟩ := C
  exact fun H locs ls hP hD hS hL => va_gets hx hb hE.2.2.2.1 hS hown (hts _ hlink) (fun _ h => h) hdg (k H locs ls hP hD hS hL)
theorem j_form (C : jK l D G KV own cc nL ret R mc ms nm PP K) {idx : Nat} (hdg : decode cc pc = .ok (.getstatic idx, 3)) (hlink : Cond.fieldLink own idx "jdk/internal/util/Preconditions" "SIOOBE_FORMATTER" "Ljava/util/function/BiFunction;" ∈ tW) (k : ∀ r : Option Nat, K cs sl ws (pc + 3) L (va_rf r :: rest)) : K cs sl ws pc L rest := by
  obtain ⟨p, e, s, m, args, below, meth, c, A, Qc, hx, hb, hml, hown, hts, hr, hlk, hnm, hK, hE, hA, hend, rfl⟩ := C
  intro H locs ls hP hD hS hL
  rcases hE.2.2.2.2.1 with h | ⟨t, h⟩
  · exact va_gets hx hb h hS hown (hts _ hlink) (fun _ h => h) hdg (k none H locs ls hP hD hS hL)
  · exact va_gets hx hb h hS hown (hts _ hlink) (fun _ h => h) hdg (k (some t) H locs ls hP hD hS hL)
theorem j_callStr (C : jK l D G KV own cc nL ret R mc ms nm PP K) {y : MethodName} {b : ByteArray} {nL' : Nat} {ret' : Option FieldType} {rm : Room} {av st : List Value} {idx i : Nat} {x : Value} {w' : va_W} {PP' : Option Value → va_W → Prop} (hdg : decode cc pc = .ok (.invokevirtual idx, 3)) (hM : jM l D G KV y b nL' ret' rm (.ref (KV.1.1 i) :: av) ws 0 0 PP') (hcode : Cond.code y b nL' ret' ∈ tW) (hlink : Cond.methodLink own idx y ∈ tW) (hin : Cond.instanceMethod y ∈ tW) (hsel : Cond.selects y.cls y y ∈ tW) (hini : Cond.initialized y.cls ∈ tW) (hy : jyes y av.length) (hf : jfit R rm nL' 0 0 cs sl) (hw : (rest.map fun v => v.category).sum ≤ 8) (hi : i < 15) (hrc : "java/lang/String" = y.cls) (hs : st = av.reverse ++ .ref (KV.1.1 i) :: rest) (hP : ∀ v u, PP' v u → v = some x ∧ u = w')
    (k : K cs sl w' (pc + 3) L (x :: rest)) : K cs sl ws pc L st := by
  obtain ⟨p, e, s, m, args, below, meth, c, A, Qc, hx, hb, hml, hown, hts, hr, hlk, hnm, hK, hE, hA, hend, rfl⟩ := C
  intro H locs ls hP1 hD hS hL
  have hrecv := vk_recv hE.2.1 hi hS
  rw [hrc] at hrecv
  refine jr_call (sz := H.size) (ws := ws) (av := (Value.ref (KV.1.1 i) :: av).toArray) rfl (va_runV (As := av) (b := KV.1.1 i) (C := y.cls) (rest := rest) (n := av.length) ⟨hx, hb, hml, hown, hts⟩ (hM H.size) ⟨callB_of av.length hts (tW_goodIn hcode) rfl hf.2.1.1 hf.2.1.2 (hts _ hini) (hts _ hlink) hy hf.1, hts _ hin, hts _ hsel⟩ ⟨jr_blind, hrecv, fun U hU hW => jr_pre hK hE hA hP1 hD hS hU hW⟩ rfl rfl hL.1 hs (lv_room hw) hdg hf.2.2) hS (jr_A hD hS hA) (fun v u H1 locs1 hp hP2 hD2 hS2 => ?_)
  obtain ⟨rfl, rfl⟩ := hP v u hp
  exact k H1 locs1 ls hP2 hD2 hS2 hL
end JSTR
theorem jb_ch : ∀ i : Nat, i < 15 → ∀ j : Nat, j < jlen.getD i 0 → ((((jbyt.getD i []).getD j 0 &&& 255).toUInt32 % 65536).toInt32) = (jbyt.getD i []).getD j 0 ∧ narrow .char (.int ((jbyt.getD i []).getD j 0)) = .int ((jbyt.getD i []).getD j 0) := by decide +kernel
theorem jlen_le : ∀ i : Nat, i < 15 → jlen.getD i 0 ≤ 6 := by decide
def rm_J0_coder_7d493 : Room := { frames := 0, cells := 0, slots := 0, locals := 0 }
theorem ct_coder {l : Launch} {D : va_G} {G : Nat → ClassId} {KV : jV} {ws : va_W} {i : Nat} (hi : i < 15) : jM l D G KV yJ0_coder_7d493 cJ0_coder_7d493 1 (some .byte) rm_J0_coder_7d493 [.ref (KV.1.1 i)] ws 0 0 (fun v u => v = some (.int 0) ∧ u = ws) := by
  refine jM.of (by decide) (Nat.le_of_ble_eq_true rfl) ?_
  intro K C
  refine j_comp C dJ0_coder_7d493_0 w_473 ?_
  refine j_if_eq C dJ0_coder_7d493_3 (tgt := 13) (by decide) (fun cq => absurd cq (by decide)) (fun _ => ?_)
  refine j_aload_n C dJ0_coder_7d493_6 0 rfl ?_
  refine j_strC C dJ0_coder_7d493_7 hi w_1342 ?_
  refine j_goto C dJ0_coder_7d493_10 (tgt := 14) (by decide) ?_
  exact j_iret C dJ0_coder_7d493_14 rfl rfl (Nat.zero_le _) (Nat.zero_le _) ⟨rfl, rfl⟩
def rm_J0_isLatin1_aae02 : Room := { frames := 0, cells := 0, slots := 0, locals := 0 }
theorem ct_isLatin1 {l : Launch} {D : va_G} {G : Nat → ClassId} {KV : jV} {ws : va_W} {i : Nat} (hi : i < 15) : jM l D G KV yJ0_isLatin1_aae02 cJ0_isLatin1_aae02 1 (some .boolean) rm_J0_isLatin1_aae02 [.ref (KV.1.1 i)] ws 0 0 (fun v u => v = some (.int 1) ∧ u = ws) := by
  refine jM.of (by decide) (Nat.le_of_ble_eq_true rfl) ?_
  intro K C
  refine j_comp C dJ0_isLatin1_aae02_0 w_473 ?_
  refine j_if_eq C dJ0_isLatin1_aae02_3 (tgt := 17) (by decide) (fun cq => absurd cq (by decide)) (fun _ => ?_)
  refine j_aload_n C dJ0_isLatin1_aae02_6 0 rfl ?_
  refine j_strC C dJ0_isLatin1_aae02_7 hi w_1342 ?_
  refine j_if_ne C dJ0_isLatin1_aae02_10 (tgt := 17) (by decide) (fun cq => absurd rfl cq) (fun _ => ?_)
  refine j_iconst C dJ0_isLatin1_aae02_13 (v := 1) (by decide) ?_
  refine j_goto C dJ0_isLatin1_aae02_14 (tgt := 18) (by decide) ?_
  exact j_iret C dJ0_isLatin1_aae02_18 rfl (jb_nar true) (Nat.zero_le _) (Nat.zero_le _) ⟨rfl, rfl⟩
def rm_J0_length_8abf5 : Room := { frames := 1, cells := 0, slots := 0, locals := 40 }
theorem ct_length {l : Launch} {D : va_G} {G : Nat → ClassId} {KV : jV} {ws : va_W} {i : Nat} (hi : i < 15) : jM l D G KV yJ0_length_8abf5 cJ0_length_8abf5 1 (some .int) rm_J0_length_8abf5 [.ref (KV.1.1 i)] ws 0 0 (fun v u => v = some (.int (Int32.ofNat (jlen.getD i 0))) ∧ u = ws) := by
  refine jM.of (by decide) (Nat.le_of_ble_eq_true rfl) ?_
  intro K C
  refine j_aload_n C dJ0_length_8abf5_0 0 rfl ?_
  refine j_strV C dJ0_length_8abf5_1 hi w_1341 ?_
  refine j_strLen C dJ0_length_8abf5_4 hi ?_
  refine j_aload_n C dJ0_length_8abf5_5 0 rfl ?_
  refine j_callStr C (rest := [.int (Int32.ofNat (jlen.getD i 0))]) dJ0_length_8abf5_6 (ct_coder hi) kc_J0_coder_7d493 w_469 w_470 w_471 w_12 jy_J0_coder_7d493 ⟨⟨Nat.le_of_ble_eq_true rfl, Nat.le_of_ble_eq_true rfl⟩, ⟨rfl, rfl⟩, ⟨Nat.zero_le _, Nat.zero_le _⟩⟩ (Nat.le_of_ble_eq_true rfl) hi rfl rfl (fun _ _ h => h) ?_
  refine j_ishr C dJ0_length_8abf5_9 ?_
  have hs : Int32.ofNat (jlen.getD i 0) >>> ((0 : Int32) &&& 31) = Int32.ofNat (jlen.getD i 0) := sc_shr0 (by have := jlen_le i hi; omega)
  rw [hs]
  exact j_iret C dJ0_length_8abf5_10 rfl rfl (Nat.zero_le _) (Nat.zero_le _) ⟨rfl, rfl⟩
def rm_J3_checkIndex_8e157 : Room := { frames := 0, cells := 0, slots := 0, locals := 0 }
theorem ct_pre0 {l : Launch} {D : va_G} {G : Nat → ClassId} {KV : jV} {ws : va_W} {x y : Int32} (h1 : ¬ x < 0) (h2 : x < y) : jM l D G KV yJ3_checkIndex_8e157 cJ3_checkIndex_8e157 3 (some .int) rm_J3_checkIndex_8e157 [.int x, .int y, .null] ws 0 0 (fun v u => v = some (.int x) ∧ u = ws) := by
  refine jM.of (by decide) (Nat.le_of_ble_eq_true rfl) ?_
  intro K C
  refine j_iload_n C dJ3_checkIndex_8e157_0 0 rfl ?_
  refine j_if_lt C dJ3_checkIndex_8e157_1 (tgt := 9) (by decide) (fun cq => absurd cq h1) (fun _ => ?_)
  refine j_iload_n C dJ3_checkIndex_8e157_4 0 rfl ?_
  refine j_iload_n C dJ3_checkIndex_8e157_5 1 rfl ?_
  refine j_icmp_lt C dJ3_checkIndex_8e157_6 (tgt := 16) (by decide) (fun _ => ?_) (fun cq => absurd h2 cq)
  refine j_iload_n C dJ3_checkIndex_8e157_16 0 rfl ?_
  exact j_iret C dJ3_checkIndex_8e157_17 rfl rfl (Nat.zero_le _) (Nat.zero_le _) ⟨rfl, rfl⟩
theorem ct_pre1 {l : Launch} {D : va_G} {G : Nat → ClassId} {KV : jV} {ws : va_W} {x y : Int32} {t : Nat} (h1 : ¬ x < 0) (h2 : x < y) : jM l D G KV yJ3_checkIndex_8e157 cJ3_checkIndex_8e157 3 (some .int) rm_J3_checkIndex_8e157 [.int x, .int y, .ref t] ws 0 0 (fun v u => v = some (.int x) ∧ u = ws) := by
  refine jM.of (by decide) (Nat.le_of_ble_eq_true rfl) ?_
  intro K C
  refine j_iload_n C dJ3_checkIndex_8e157_0 0 rfl ?_
  refine j_if_lt C dJ3_checkIndex_8e157_1 (tgt := 9) (by decide) (fun cq => absurd cq h1) (fun _ => ?_)
  refine j_iload_n C dJ3_checkIndex_8e157_4 0 rfl ?_
  refine j_iload_n C dJ3_checkIndex_8e157_5 1 rfl ?_
  refine j_icmp_lt C dJ3_checkIndex_8e157_6 (tgt := 16) (by decide) (fun _ => ?_) (fun cq => absurd h2 cq)
  refine j_iload_n C dJ3_checkIndex_8e157_16 0 rfl ?_
  exact j_iret C dJ3_checkIndex_8e157_17 rfl rfl (Nat.zero_le _) (Nat.zero_le _) ⟨rfl, rfl⟩
def rm_J0_checkIndex_df160 : Room := { frames := 1, cells := 0, slots := 0, locals := 40 }
theorem ct_check {l : Launch} {D : va_G} {G : Nat → ClassId} {KV : jV} {ws : va_W} {x y : Int32} (h1 : ¬ x < 0) (h2 : x < y) : jM l D G KV yJ0_checkIndex_df160 cJ0_checkIndex_df160 2 none rm_J0_checkIndex_df160 [.int x, .int y] ws 0 0 (fun v u => v = none ∧ u = ws) := by
  refine jM.of (by decide) (Nat.le_of_ble_eq_true rfl) ?_
  intro K C
  refine j_iload_n C dJ0_checkIndex_df160_0 0 rfl ?_
  refine j_iload_n C dJ0_checkIndex_df160_1 1 rfl ?_
  refine j_form C dJ0_checkIndex_df160_2 w_489 (fun r => ?_)
  cases r with
  | none =>
    refine j_cS1 C (rest := []) dJ0_checkIndex_df160_5 (ct_pre0 h1 h2) kc_J3_checkIndex_8e157 w_491 w_492 w_14 jy_J3_checkIndex_8e157 ⟨⟨Nat.le_of_ble_eq_true rfl, Nat.le_of_ble_eq_true rfl⟩, ⟨rfl, rfl⟩, ⟨Nat.zero_le _, Nat.zero_le _⟩⟩ (Nat.le_of_ble_eq_true rfl) rfl (fun _ _ h => h) ?_
    refine j_pop C dJ0_checkIndex_df160_8 rfl ?_
    exact j_vret C dJ0_checkIndex_df160_9 rfl (Nat.zero_le _) (Nat.zero_le _) ⟨rfl, rfl⟩
  | some t =>
    refine j_cS1 C (rest := []) dJ0_checkIndex_df160_5 (ct_pre1 h1 h2) kc_J3_checkIndex_8e157 w_491 w_492 w_14 jy_J3_checkIndex_8e157 ⟨⟨Nat.le_of_ble_eq_true rfl, Nat.le_of_ble_eq_true rfl⟩, ⟨rfl, rfl⟩, ⟨Nat.zero_le _, Nat.zero_le _⟩⟩ (Nat.le_of_ble_eq_true rfl) rfl (fun _ _ h => h) ?_
    refine j_pop C dJ0_checkIndex_df160_8 rfl ?_
    exact j_vret C dJ0_checkIndex_df160_9 rfl (Nat.zero_le _) (Nat.zero_le _) ⟨rfl, rfl⟩
theorem jin_ge {x : Int32} {n : Nat} (h : jin x n = true) : ¬ x < 0 := by
  have h1 := (jin_iff.mp h).1
  intro q
  have h2 := Int32.lt_iff_toInt_lt.mp q
  have e0 : (0 : Int32).toInt = 0 := by decide
  omega
theorem jin_lt2 {x : Int32} {n : Nat} (h : jin x n = true) (hn : n < 2 ^ 31) : x < Int32.ofNat n := by
  have h1 := (jin_iff.mp h).2
  rw [Int32.lt_iff_toInt_lt, show (Int32.ofNat n).toInt = (n : Int) from nI_toInt hn]
  exact h1
def rm_J1_charAt_3b067 : Room := { frames := 2, cells := 0, slots := 0, locals := 80 }
theorem ct_l1 {l : Launch} {D : va_G} {G : Nat → ClassId} {KV : jV} {ws : va_W} {i : Nat} (hi : i < 15) {x : Int32} (hx : jin x (jlen.getD i 0) = true) : jM l D G KV yJ1_charAt_3b067 cJ1_charAt_3b067 2 (some .char) rm_J1_charAt_3b067 [.ref (KV.1.2 i), .int x] ws 0 0 (fun v u => v = some (.int ((jbyt.getD i []).getD x.toNatClampNeg 0)) ∧ u = ws) := by
  refine jM.of (by decide) (Nat.le_of_ble_eq_true rfl) ?_
  intro K C
  have hl := jlen_le i hi
  refine j_iload_n C dJ1_charAt_3b067_0 1 rfl ?_
  refine j_aload_n C dJ1_charAt_3b067_1 0 rfl ?_
  refine j_strLen C dJ1_charAt_3b067_2 hi ?_
  refine j_cS0 C (rest := []) dJ1_charAt_3b067_3 (ct_check (jin_ge hx) (jin_lt2 hx (by omega))) kc_J0_checkIndex_df160 w_486 w_487 w_12 jy_J0_checkIndex_df160 ⟨⟨Nat.le_of_ble_eq_true rfl, Nat.le_of_ble_eq_true rfl⟩, ⟨rfl, rfl⟩, ⟨Nat.zero_le _, Nat.zero_le _⟩⟩ (Nat.le_of_ble_eq_true rfl) rfl (fun _ _ h => h) ?_
  refine j_aload_n C dJ1_charAt_3b067_6 0 rfl ?_
  refine j_iload_n C dJ1_charAt_3b067_7 1 rfl ?_
  refine j_strB C dJ1_charAt_3b067_8 hi (jin_vp hx) ?_
  refine j_sipush C dJ1_charAt_3b067_9 (v := 255) (by decide) ?_
  refine j_iand C dJ1_charAt_3b067_12 ?_
  refine j_i2c C dJ1_charAt_3b067_13 ?_
  have hc := jb_ch i hi x.toNatClampNeg (jin_lt hx)
  rw [hc.1]
  exact j_iret C dJ1_charAt_3b067_14 rfl hc.2 (Nat.zero_le _) (Nat.zero_le _) ⟨rfl, rfl⟩
def rm_J0_charAt_5068e : Room := { frames := 3, cells := 0, slots := 0, locals := 120 }
theorem ct_charAt {l : Launch} {D : va_G} {G : Nat → ClassId} {KV : jV} {ws : va_W} {i : Nat} (hi : i < 15) {x : Int32} (hx : jin x (jlen.getD i 0) = true) : jM l D G KV yJ0_charAt_5068e cJ0_charAt_5068e 2 (some .char) rm_J0_charAt_5068e [.ref (KV.1.1 i), .int x] ws 0 0 (fun v u => v = some (.int ((jbyt.getD i []).getD x.toNatClampNeg 0)) ∧ u = ws) := by
  refine jM.of (by decide) (Nat.le_of_ble_eq_true rfl) ?_
  intro K C
  refine j_aload_n C dJ0_charAt_5068e_0 0 rfl ?_
  refine j_callStr C (rest := []) dJ0_charAt_5068e_1 (ct_isLatin1 hi) kc_J0_isLatin1_aae02 w_479 w_480 w_481 w_12 jy_J0_isLatin1_aae02 ⟨⟨Nat.le_of_ble_eq_true rfl, Nat.le_of_ble_eq_true rfl⟩, ⟨rfl, rfl⟩, ⟨Nat.zero_le _, Nat.zero_le _⟩⟩ (Nat.le_of_ble_eq_true rfl) hi rfl rfl (fun _ _ h => h) ?_
  refine j_if_eq C dJ0_charAt_5068e_4 (tgt := 16) (by decide) (fun cq => absurd cq (by decide)) (fun _ => ?_)
  refine j_aload_n C dJ0_charAt_5068e_7 0 rfl ?_
  refine j_strV C dJ0_charAt_5068e_8 hi w_1341 ?_
  refine j_iload_n C dJ0_charAt_5068e_11 1 rfl ?_
  refine j_cS1 C (rest := []) dJ0_charAt_5068e_12 (ct_l1 hi hx) kc_J1_charAt_3b067 w_483 w_484 w_13 jy_J1_charAt_3b067 ⟨⟨Nat.le_of_ble_eq_true rfl, Nat.le_of_ble_eq_true rfl⟩, ⟨rfl, rfl⟩, ⟨Nat.zero_le _, Nat.zero_le _⟩⟩ (Nat.le_of_ble_eq_true rfl) rfl (fun _ _ h => h) ?_
  exact j_iret C dJ0_charAt_5068e_15 rfl (jb_ch i hi x.toNatClampNeg (jin_lt hx)).2 (Nat.zero_le _) (Nat.zero_le _) ⟨rfl, rfl⟩
