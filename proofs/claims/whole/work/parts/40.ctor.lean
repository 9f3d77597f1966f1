theorem w_23 : (Jvm.Cond.methodLink "RoadOfDoors" (3 : Nat) ({ cls := "java/lang/Object", name := "<init>", desc := "()V" } : Jvm.MethodName)) ∈ tW := tW_t (i := 23) (by decide +kernel) rfl
theorem w_24 : (Jvm.Cond.instanceMethod ({ cls := "java/lang/Object", name := "<init>", desc := "()V" } : Jvm.MethodName)) ∈ tW := tW_t (i := 24) (by decide +kernel) rfl
theorem w_25 : (Jvm.Cond.code ({ cls := "java/lang/Object", name := "<init>", desc := "()V" } : Jvm.MethodName) object_method_1_code (1 : Nat) (Option.none : Option Jvm.ClassFile.FieldType)) ∈ tW := tW_t (i := 25) (by decide +kernel) rfl
theorem w_26 : (Jvm.Cond.methodLink "RoadOfDoors" (9 : Nat) ({ cls := "java/lang/Math", name := "min", desc := "(II)I" } : Jvm.MethodName)) ∈ tW := tW_t (i := 26) (by decide +kernel) rfl
theorem w_29 : (Jvm.Cond.methodLink "RoadOfDoors" (15 : Nat) ({ cls := "java/lang/Math", name := "max", desc := "(II)I" } : Jvm.MethodName)) ∈ tW := tW_t (i := 29) (by decide +kernel) rfl
theorem w_30 : (Jvm.Cond.static ({ cls := "java/lang/Math", name := "max", desc := "(II)I" } : Jvm.MethodName)) ∈ tW := tW_t (i := 30) (by decide +kernel) rfl
theorem w_31 : (Jvm.Cond.code ({ cls := "java/lang/Math", name := "max", desc := "(II)I" } : Jvm.MethodName) prog_12_method_65_code (2 : Nat) (Option.some Jvm.ClassFile.FieldType.int)) ∈ tW := tW_t (i := 31) (by decide +kernel) rfl
theorem w_32 : (Jvm.Cond.classLink "RoadOfDoors" (18 : Nat) "RoadOfDoors$Text") ∈ tW := tW_t (i := 32) (by decide +kernel) rfl
theorem w_34 : (Jvm.Cond.instantiable "RoadOfDoors$Text" (7 : Nat)) ∈ tW := tW_t (i := 34) (by decide +kernel) rfl
theorem w_36 : (Jvm.Cond.instanceMethod ({ cls := "RoadOfDoors$Text", name := "<init>", desc := "()V" } : Jvm.MethodName)) ∈ tW := tW_t (i := 36) (by decide +kernel) rfl
theorem w_38 : (Jvm.Cond.methodLink "RoadOfDoors$Text" (3 : Nat) ({ cls := "java/lang/Object", name := "<init>", desc := "()V" } : Jvm.MethodName)) ∈ tW := tW_t (i := 38) (by decide +kernel) rfl
theorem w_70 : (Jvm.Cond.arrayClass Jvm.ClassFile.FieldType.int) ∈ tW := tW_t (i := 70) (by decide +kernel) rfl
theorem w_71 : (Jvm.Cond.classLink "RoadOfDoors" (21 : Nat) "RoadOfDoors$Road") ∈ tW := tW_t (i := 71) (by decide +kernel) rfl
theorem w_72 : (Jvm.Cond.instantiable "RoadOfDoors$Road" (10 : Nat)) ∈ tW := tW_t (i := 72) (by decide +kernel) rfl
theorem w_73 : (Jvm.Cond.methodLink "RoadOfDoors" (23 : Nat) ({ cls := "RoadOfDoors$Road", name := "<init>", desc := "()V" } : Jvm.MethodName)) ∈ tW := tW_t (i := 73) (by decide +kernel) rfl
theorem w_74 : (Jvm.Cond.instanceMethod ({ cls := "RoadOfDoors$Road", name := "<init>", desc := "()V" } : Jvm.MethodName)) ∈ tW := tW_t (i := 74) (by decide +kernel) rfl
theorem w_76 : (Jvm.Cond.methodLink "RoadOfDoors$Road" (3 : Nat) ({ cls := "java/lang/Object", name := "<init>", desc := "()V" } : Jvm.MethodName)) ∈ tW := tW_t (i := 76) (by decide +kernel) rfl
theorem w_77 : (Jvm.Cond.classLink "RoadOfDoors$Road" (31 : Nat) "RoadOfDoors$Traveller") ∈ tW := tW_t (i := 77) (by decide +kernel) rfl
theorem w_78 : (Jvm.Cond.instantiable "RoadOfDoors$Traveller" (8 : Nat)) ∈ tW := tW_t (i := 78) (by decide +kernel) rfl
theorem w_80 : (Jvm.Cond.instanceMethod ({ cls := "RoadOfDoors$Traveller", name := "<init>", desc := "()V" } : Jvm.MethodName)) ∈ tW := tW_t (i := 80) (by decide +kernel) rfl
theorem w_82 : (Jvm.Cond.methodLink "RoadOfDoors$Traveller" (3 : Nat) ({ cls := "java/lang/Object", name := "<init>", desc := "()V" } : Jvm.MethodName)) ∈ tW := tW_t (i := 82) (by decide +kernel) rfl
theorem w_115 : (Jvm.Cond.arrayClass Jvm.ClassFile.FieldType.boolean) ∈ tW := tW_t (i := 115) (by decide +kernel) rfl
theorem w_165 : (Jvm.Cond.classLink "RoadOfDoors" (24 : Nat) "RoadOfDoors$Tape") ∈ tW := tW_t (i := 165) (by decide +kernel) rfl
theorem w_166 : (Jvm.Cond.instantiable "RoadOfDoors$Tape" (6 : Nat)) ∈ tW := tW_t (i := 166) (by decide +kernel) rfl
theorem w_168 : (Jvm.Cond.instanceMethod ({ cls := "RoadOfDoors$Tape", name := "<init>", desc := "()V" } : Jvm.MethodName)) ∈ tW := tW_t (i := 168) (by decide +kernel) rfl
theorem w_170 : (Jvm.Cond.methodLink "RoadOfDoors$Tape" (3 : Nat) ({ cls := "java/lang/Object", name := "<init>", desc := "()V" } : Jvm.MethodName)) ∈ tW := tW_t (i := 170) (by decide +kernel) rfl
theorem w_194 : (Jvm.Cond.arrayClass Jvm.ClassFile.FieldType.byte) ∈ tW := tW_t (i := 194) (by decide +kernel) rfl
theorem w_195 : (Jvm.Cond.classLink "RoadOfDoors" (27 : Nat) "RoadOfDoors$Rules") ∈ tW := tW_t (i := 195) (by decide +kernel) rfl
theorem w_196 : (Jvm.Cond.instantiable "RoadOfDoors$Rules" (7 : Nat)) ∈ tW := tW_t (i := 196) (by decide +kernel) rfl
theorem w_197 : (Jvm.Cond.methodLink "RoadOfDoors" (29 : Nat) ({ cls := "RoadOfDoors$Rules", name := "<init>", desc := "(ILRoadOfDoors$Road;[LRoadOfDoors$Text;)V" } : Jvm.MethodName)) ∈ tW := tW_t (i := 197) (by decide +kernel) rfl
theorem w_198 : (Jvm.Cond.instanceMethod ({ cls := "RoadOfDoors$Rules", name := "<init>", desc := "(ILRoadOfDoors$Road;[LRoadOfDoors$Text;)V" } : Jvm.MethodName)) ∈ tW := tW_t (i := 198) (by decide +kernel) rfl
theorem w_200 : (Jvm.Cond.methodLink "RoadOfDoors$Rules" (3 : Nat) ({ cls := "java/lang/Object", name := "<init>", desc := "()V" } : Jvm.MethodName)) ∈ tW := tW_t (i := 200) (by decide +kernel) rfl
theorem w_223 : (Jvm.Cond.arrayClass Jvm.ClassFile.FieldType.long) ∈ tW := tW_t (i := 223) (by decide +kernel) rfl
theorem w_224 : (Jvm.Cond.classLink "RoadOfDoors" (32 : Nat) "RoadOfDoors$Ways") ∈ tW := tW_t (i := 224) (by decide +kernel) rfl
theorem w_225 : (Jvm.Cond.instantiable "RoadOfDoors$Ways" (12 : Nat)) ∈ tW := tW_t (i := 225) (by decide +kernel) rfl
theorem w_226 : (Jvm.Cond.methodLink "RoadOfDoors" (34 : Nat) ({ cls := "RoadOfDoors$Ways", name := "<init>", desc := "(ILRoadOfDoors$Road;LRoadOfDoors$Rules;)V" } : Jvm.MethodName)) ∈ tW := tW_t (i := 226) (by decide +kernel) rfl
theorem w_227 : (Jvm.Cond.instanceMethod ({ cls := "RoadOfDoors$Ways", name := "<init>", desc := "(ILRoadOfDoors$Road;LRoadOfDoors$Rules;)V" } : Jvm.MethodName)) ∈ tW := tW_t (i := 227) (by decide +kernel) rfl
theorem w_229 : (Jvm.Cond.methodLink "RoadOfDoors$Ways" (3 : Nat) ({ cls := "java/lang/Object", name := "<init>", desc := "()V" } : Jvm.MethodName)) ∈ tW := tW_t (i := 229) (by decide +kernel) rfl
theorem w_271 : (Jvm.Cond.classLink "RoadOfDoors" (56 : Nat) "RoadOfDoors$Reader") ∈ tW := tW_t (i := 271) (by decide +kernel) rfl
theorem w_272 : (Jvm.Cond.instantiable "RoadOfDoors$Reader" (10 : Nat)) ∈ tW := tW_t (i := 272) (by decide +kernel) rfl
theorem w_273 : (Jvm.Cond.methodLink "RoadOfDoors" (58 : Nat) ({ cls := "RoadOfDoors$Reader", name := "<init>", desc := "(LRoadOfDoors$Tape;LRoadOfDoors$Text;)V" } : Jvm.MethodName)) ∈ tW := tW_t (i := 273) (by decide +kernel) rfl
theorem w_274 : (Jvm.Cond.instanceMethod ({ cls := "RoadOfDoors$Reader", name := "<init>", desc := "(LRoadOfDoors$Tape;LRoadOfDoors$Text;)V" } : Jvm.MethodName)) ∈ tW := tW_t (i := 274) (by decide +kernel) rfl
theorem w_276 : (Jvm.Cond.methodLink "RoadOfDoors$Reader" (3 : Nat) ({ cls := "java/lang/Object", name := "<init>", desc := "()V" } : Jvm.MethodName)) ∈ tW := tW_t (i := 276) (by decide +kernel) rfl
theorem w_310 : (Jvm.Cond.classLink "RoadOfDoors" (73 : Nat) "RoadOfDoors$Earnings") ∈ tW := tW_t (i := 310) (by decide +kernel) rfl
theorem w_311 : (Jvm.Cond.instantiable "RoadOfDoors$Earnings" (8 : Nat)) ∈ tW := tW_t (i := 311) (by decide +kernel) rfl
theorem w_312 : (Jvm.Cond.methodLink "RoadOfDoors" (75 : Nat) ({ cls := "RoadOfDoors$Earnings", name := "<init>", desc := "(ILRoadOfDoors$Road;LRoadOfDoors$Rules;LRoadOfDoors$Ways;)V" } : Jvm.MethodName)) ∈ tW := tW_t (i := 312) (by decide +kernel) rfl
theorem w_313 : (Jvm.Cond.instanceMethod ({ cls := "RoadOfDoors$Earnings", name := "<init>", desc := "(ILRoadOfDoors$Road;LRoadOfDoors$Rules;LRoadOfDoors$Ways;)V" } : Jvm.MethodName)) ∈ tW := tW_t (i := 313) (by decide +kernel) rfl
theorem w_315 : (Jvm.Cond.methodLink "RoadOfDoors$Earnings" (3 : Nat) ({ cls := "java/lang/Object", name := "<init>", desc := "()V" } : Jvm.MethodName)) ∈ tW := tW_t (i := 315) (by decide +kernel) rfl
theorem w_918 : (Jvm.Cond.methodLink "RoadOfDoorsModel" (1 : Nat) ({ cls := "java/lang/Object", name := "<init>", desc := "()V" } : Jvm.MethodName)) ∈ tW := tW_t (i := 918) (by decide +kernel) rfl
theorem w_919 : (Jvm.Cond.constant "RoadOfDoorsModel" (49 : Nat) (376320 : Int32)) ∈ tW := tW_t (i := 919) (by decide +kernel) rfl
theorem kc_X6_init : Cond.code yX6_init cX6_init 1 none ∈ tW := tW_t (i := 81) (by decide +kernel) rfl
theorem kc_X5_init : Cond.code yX5_init cX5_init 1 none ∈ tW := tW_t (i := 37) (by decide +kernel) rfl
theorem kc_X2_init : Cond.code yX2_init cX2_init 2 none ∈ tW := tW_t (i := 75) (by decide +kernel) rfl
theorem kc_X4_init : Cond.code yX4_init cX4_init 1 none ∈ tW := tW_t (i := 169) (by decide +kernel) rfl
theorem kc_X3_init : Cond.code yX3_init cX3_init 4 none ∈ tW := tW_t (i := 199) (by decide +kernel) rfl
theorem kc_X7_init : Cond.code yX7_init cX7_init 4 none ∈ tW := tW_t (i := 228) (by decide +kernel) rfl
theorem kc_X1_init : Cond.code yX1_init cX1_init 3 none ∈ tW := tW_t (i := 275) (by decide +kernel) rfl
theorem kc_X0_init : Cond.code yX0_init cX0_init 5 none ∈ tW := tW_t (i := 314) (by decide +kernel) rfl
theorem jy_X0_init : jyes yX0_init 4 := by unfold jyes; decide +kernel
theorem jy_X1_init : jyes yX1_init 2 := by unfold jyes; decide +kernel
theorem jy_X2_init : jyes yX2_init 0 := by unfold jyes; decide +kernel
theorem jy_X3_init : jyes yX3_init 3 := by unfold jyes; decide +kernel
theorem jy_X4_init : jyes yX4_init 0 := by unfold jyes; decide +kernel
theorem jy_X5_init : jyes yX5_init 0 := by unfold jyes; decide +kernel
theorem jy_X6_init : jyes yX6_init 0 := by unfold jyes; decide +kernel
theorem jy_X7_init : jyes yX7_init 3 := by unfold jyes; decide +kernel
def jnd (v : Int32) : Nat := (max 1 (min 8 v.toInt)).toNat
theorem jnd_in (v : Int32) : 1 ≤ jnd v ∧ jnd v ≤ 8 := by unfold jnd; omega
theorem jnd_of {v x : Int32} (h : x.toInt = max 1 (min 8 v.toInt)) : x = Int32.ofNat (jnd v) := by
  apply Int32.toInt_inj.mp
  have h2 : (Int32.ofNat (jnd v)).toInt = (jnd v : Int) := nI_toInt (by have := jnd_in v; omega)
  rw [h2, h]
  unfold jnd
  omega
theorem jnd_cls (v : Int32) : (if (1 : Int32) < (if (v : Int32) < 8 then v else 8) then (if (v : Int32) < 8 then v else 8) else 1) = Int32.ofNat (jnd v) := by
  have e8 : (8 : Int32).toInt = 8 := by decide
  have e1 : (1 : Int32).toInt = 1 := by decide
  apply jnd_of
  by_cases h : v < 8
  · rw [if_pos h]
    have h' := Int32.lt_iff_toInt_lt.mp h
    by_cases h2 : (1 : Int32) < v
    · rw [if_pos h2]
      have h2' := Int32.lt_iff_toInt_lt.mp h2
      omega
    · rw [if_neg h2]
      have h2' : ¬ (1 : Int32).toInt < v.toInt := fun q => h2 (Int32.lt_iff_toInt_lt.mpr q)
      omega
  · rw [if_neg h]
    have h' : ¬ v.toInt < (8 : Int32).toInt := fun q => h (Int32.lt_iff_toInt_lt.mpr q)
    rw [if_pos (by decide)]
    omega
theorem jnd_mid {v : Int32} (h : 1 ≤ v) (h2 : v ≤ 8) : v = Int32.ofNat (jnd v) := by
  have e8 : (8 : Int32).toInt = 8 := by decide
  have e1 : (1 : Int32).toInt = 1 := by decide
  apply jnd_of
  have a1 := Int32.le_iff_toInt_le.mp h
  have a2 := Int32.le_iff_toInt_le.mp h2
  omega
theorem jnd_hi {v : Int32} (h : ¬ v ≤ 8) : (8 : Int32) = Int32.ofNat (jnd v) := by
  have e8 : (8 : Int32).toInt = 8 := by decide
  apply jnd_of
  have a2 : ¬ v.toInt ≤ (8 : Int32).toInt := fun q => h (Int32.le_iff_toInt_le.mpr q)
  omega
theorem jnd_lo {v : Int32} (h : ¬ 1 ≤ v) : (1 : Int32) = Int32.ofNat (jnd v) := by
  have e1 : (1 : Int32).toInt = 1 := by decide
  apply jnd_of
  have a2 : ¬ (1 : Int32).toInt ≤ v.toInt := fun q => h (Int32.le_iff_toInt_le.mpr q)
  omega
theorem jlz2 : ∀ {nd : Nat}, nd ≤ 8 → ((((4 : Int32) * Int32.ofNat nd) * 10) * 24).toNatClampNeg = 960 * nd := by
  intro nd h
  match nd, h with
  | 0, _ => decide
  | 1, _ => decide
  | 2, _ => decide
  | 3, _ => decide
  | 4, _ => decide
  | 5, _ => decide
  | 6, _ => decide
  | 7, _ => decide
  | 8, _ => decide
theorem jlz1 : ∀ {nd : Nat}, nd ≤ 8 → ¬ ((((4 : Int32) * Int32.ofNat nd) * 10) * 24) < 0 := by
  intro nd h
  match nd, h with
  | 0, _ => decide
  | 1, _ => decide
  | 2, _ => decide
  | 3, _ => decide
  | 4, _ => decide
  | 5, _ => decide
  | 6, _ => decide
  | 7, _ => decide
  | 8, _ => decide
theorem dX5_init_0 : decode cX5_init 0 = .ok (.aload_n 0, 1) := by decide +kernel
theorem dX5_init_1 : decode cX5_init 1 = .ok (.invokespecial 3, 3) := by decide +kernel
theorem dX5_init_4 : decode cX5_init 4 = .ok (.aload_n 0, 1) := by decide +kernel
theorem dX5_init_5 : decode cX5_init 5 = .ok (.sipush 300, 3) := by decide +kernel
theorem dX5_init_8 : decode cX5_init 8 = .ok (.newarray .int, 2) := by decide +kernel
theorem dX5_init_10 : decode cX5_init 10 = .ok (.putfield 9, 3) := by decide +kernel
theorem dX5_init_13 : decode cX5_init 13 = .ok (.aload_n 0, 1) := by decide +kernel
theorem dX5_init_14 : decode cX5_init 14 = .ok (.bipush 24, 2) := by decide +kernel
theorem dX5_init_16 : decode cX5_init 16 = .ok (.newarray .int, 2) := by decide +kernel
theorem dX5_init_18 : decode cX5_init 18 = .ok (.putfield 15, 3) := by decide +kernel
theorem dX5_init_21 : decode cX5_init 21 = .ok (.aload_n 0, 1) := by decide +kernel
theorem dX5_init_22 : decode cX5_init 22 = .ok (.bipush 24, 2) := by decide +kernel
theorem dX5_init_24 : decode cX5_init 24 = .ok (.newarray .int, 2) := by decide +kernel
theorem dX5_init_26 : decode cX5_init 26 = .ok (.putfield 18, 3) := by decide +kernel
theorem dX5_init_29 : decode cX5_init 29 = .ok (.return_, 1) := by decide +kernel
def rm_X5_init : Room := { frames := 1, cells := 3, slots := 348, locals := 26 }
set_option maxHeartbeats 4000000 in
set_option maxRecDepth 100000 in
theorem ct_X5_init {l : Launch} {D : va_G} {G : Nat → ClassId} {KV : jV} {a : Nat} : jM l D G KV yX5_init cX5_init 1 none rm_X5_init [.ref a] [(a, .inr (5, [.null, .null, .null, .int 0, .int 0, .int 0, .int 0]))] 3 348 (fun v u => v = none ∧ ∃ q1 q2 q3 : Nat, u = [(a, .inr (5, [.ref q1, .ref q2, .ref q3, .int 0, .int 0, .int 0, .int 0])), (q1, .inl (G 0, 300, .inl (fun _ => 0))), (q2, .inl (G 0, 24, .inl (fun _ => 0))), (q3, .inl (G 0, 24, .inl (fun _ => 0)))]) := by
  refine jM.of (by decide) (Nat.le_of_ble_eq_true rfl) ?_
  intro K C
  refine j_aload_n C dX5_init_0 0 rfl ?_
  refine j_objInit C dX5_init_1 w_38 w_24 w_25 (Nat.le_of_ble_eq_true rfl) (Nat.le_of_ble_eq_true rfl) ?_
  refine j_aload_n C dX5_init_4 0 rfl ?_
  refine j_sipush C dX5_init_5 (v := 300) (by decide) ?_
  refine j_newa C (t := 0) (ty := .int) dX5_init_8 rfl rfl (fun _ _ h => h) w_70 (a0 := (300, .inl (fun _ => 0))) (N' := 300) (fun _ => rfl) (by decide) rfl (Nat.le_of_ble_eq_true rfl) (Nat.le_of_ble_eq_true rfl) (Nat.le_of_ble_eq_true rfl) (fun q1 => ?_)
  show K 1 300 [(a, .inr (5, [.null, .null, .null, .int 0, .int 0, .int 0, .int 0])), (q1, .inl (G 0, 300, .inl (fun _ => 0)))] 10 [(0, .ref a)] [.ref q1, .ref a]
  refine j_putF C dX5_init_10 inX5 tyX5 tyX5_ok nmX5 rfl 0 rfl 0 (by decide) w_39 rfl rfl rfl rfl rfl rfl (Nat.le_of_ble_eq_true rfl) ?_
  show K 1 300 [(a, .inr (5, [.ref q1, .null, .null, .int 0, .int 0, .int 0, .int 0])), (q1, .inl (G 0, 300, .inl (fun _ => 0)))] 13 [(0, .ref a)] []
  refine j_aload_n C dX5_init_13 0 rfl ?_
  refine j_bipush C dX5_init_14 (v := 24) (by decide) ?_
  refine j_newa C (t := 0) (ty := .int) dX5_init_16 rfl rfl (fun _ _ h => h) w_70 (a0 := (24, .inl (fun _ => 0))) (N' := 24) (fun _ => rfl) (by decide) rfl (Nat.le_of_ble_eq_true rfl) (Nat.le_of_ble_eq_true rfl) (Nat.le_of_ble_eq_true rfl) (fun q2 => ?_)
  show K 2 324 [(a, .inr (5, [.ref q1, .null, .null, .int 0, .int 0, .int 0, .int 0])), (q1, .inl (G 0, 300, .inl (fun _ => 0))), (q2, .inl (G 0, 24, .inl (fun _ => 0)))] 18 [(0, .ref a)] [.ref q2, .ref a]
  refine j_putF C dX5_init_18 inX5 tyX5 tyX5_ok nmX5 rfl 0 rfl 1 (by decide) w_41 rfl rfl rfl rfl rfl rfl (Nat.le_of_ble_eq_true rfl) ?_
  show K 2 324 [(a, .inr (5, [.ref q1, .ref q2, .null, .int 0, .int 0, .int 0, .int 0])), (q1, .inl (G 0, 300, .inl (fun _ => 0))), (q2, .inl (G 0, 24, .inl (fun _ => 0)))] 21 [(0, .ref a)] []
  refine j_aload_n C dX5_init_21 0 rfl ?_
  refine j_bipush C dX5_init_22 (v := 24) (by decide) ?_
  refine j_newa C (t := 0) (ty := .int) dX5_init_24 rfl rfl (fun _ _ h => h) w_70 (a0 := (24, .inl (fun _ => 0))) (N' := 24) (fun _ => rfl) (by decide) rfl (Nat.le_of_ble_eq_true rfl) (Nat.le_of_ble_eq_true rfl) (Nat.le_of_ble_eq_true rfl) (fun q3 => ?_)
  show K 3 348 [(a, .inr (5, [.ref q1, .ref q2, .null, .int 0, .int 0, .int 0, .int 0])), (q1, .inl (G 0, 300, .inl (fun _ => 0))), (q2, .inl (G 0, 24, .inl (fun _ => 0))), (q3, .inl (G 0, 24, .inl (fun _ => 0)))] 26 [(0, .ref a)] [.ref q3, .ref a]
  refine j_putF C dX5_init_26 inX5 tyX5 tyX5_ok nmX5 rfl 0 rfl 2 (by decide) w_43 rfl rfl rfl rfl rfl rfl (Nat.le_of_ble_eq_true rfl) ?_
  show K 3 348 [(a, .inr (5, [.ref q1, .ref q2, .ref q3, .int 0, .int 0, .int 0, .int 0])), (q1, .inl (G 0, 300, .inl (fun _ => 0))), (q2, .inl (G 0, 24, .inl (fun _ => 0))), (q3, .inl (G 0, 24, .inl (fun _ => 0)))] 29 [(0, .ref a)] []
  exact j_vret C dX5_init_29 rfl (Nat.le_of_ble_eq_true rfl) (Nat.le_of_ble_eq_true rfl) ⟨rfl, q1, q2, q3, rfl⟩
theorem dX6_init_0 : decode cX6_init 0 = .ok (.aload_n 0, 1) := by decide +kernel
theorem dX6_init_1 : decode cX6_init 1 = .ok (.invokespecial 3, 3) := by decide +kernel
theorem dX6_init_4 : decode cX6_init 4 = .ok (.aload_n 0, 1) := by decide +kernel
theorem dX6_init_5 : decode cX6_init 5 = .ok (.bipush 30, 2) := by decide +kernel
theorem dX6_init_7 : decode cX6_init 7 = .ok (.newarray .int, 2) := by decide +kernel
theorem dX6_init_9 : decode cX6_init 9 = .ok (.putfield 9, 3) := by decide +kernel
theorem dX6_init_12 : decode cX6_init 12 = .ok (.return_, 1) := by decide +kernel
def rm_X6_init : Room := { frames := 1, cells := 1, slots := 30, locals := 26 }
set_option maxHeartbeats 4000000 in
set_option maxRecDepth 100000 in
theorem ct_X6_init {l : Launch} {D : va_G} {G : Nat → ClassId} {KV : jV} {a : Nat} : jM l D G KV yX6_init cX6_init 1 none rm_X6_init [.ref a] [(a, .inr (6, [.int 0, .int 0, .int 0, .int 0, .int 0, .int 0, .int 0, .null]))] 1 30 (fun v u => v = none ∧ ∃ q1 : Nat, u = [(a, .inr (6, [.int 0, .int 0, .int 0, .int 0, .int 0, .int 0, .int 0, .ref q1])), (q1, .inl (G 0, 30, .inl (fun _ => 0)))]) := by
  refine jM.of (by decide) (Nat.le_of_ble_eq_true rfl) ?_
  intro K C
  refine j_aload_n C dX6_init_0 0 rfl ?_
  refine j_objInit C dX6_init_1 w_82 w_24 w_25 (Nat.le_of_ble_eq_true rfl) (Nat.le_of_ble_eq_true rfl) ?_
  refine j_aload_n C dX6_init_4 0 rfl ?_
  refine j_bipush C dX6_init_5 (v := 30) (by decide) ?_
  refine j_newa C (t := 0) (ty := .int) dX6_init_7 rfl rfl (fun _ _ h => h) w_70 (a0 := (30, .inl (fun _ => 0))) (N' := 30) (fun _ => rfl) (by decide) rfl (Nat.le_of_ble_eq_true rfl) (Nat.le_of_ble_eq_true rfl) (Nat.le_of_ble_eq_true rfl) (fun q1 => ?_)
  show K 1 30 [(a, .inr (6, [.int 0, .int 0, .int 0, .int 0, .int 0, .int 0, .int 0, .null])), (q1, .inl (G 0, 30, .inl (fun _ => 0)))] 9 [(0, .ref a)] [.ref q1, .ref a]
  refine j_putF C dX6_init_9 inX6 tyX6 tyX6_ok nmX6 rfl 0 rfl 7 (by decide) w_97 rfl rfl rfl rfl rfl rfl (Nat.le_of_ble_eq_true rfl) ?_
  show K 1 30 [(a, .inr (6, [.int 0, .int 0, .int 0, .int 0, .int 0, .int 0, .int 0, .ref q1])), (q1, .inl (G 0, 30, .inl (fun _ => 0)))] 12 [(0, .ref a)] []
  exact j_vret C dX6_init_12 rfl (Nat.le_of_ble_eq_true rfl) (Nat.le_of_ble_eq_true rfl) ⟨rfl, q1, rfl⟩
theorem dX2_init_0 : decode cX2_init 0 = .ok (.aload_n 0, 1) := by decide +kernel
theorem dX2_init_1 : decode cX2_init 1 = .ok (.invokespecial 3, 3) := by decide +kernel
theorem dX2_init_4 : decode cX2_init 4 = .ok (.aload_n 0, 1) := by decide +kernel
theorem dX2_init_5 : decode cX2_init 5 = .ok (.bipush 24, 2) := by decide +kernel
theorem dX2_init_7 : decode cX2_init 7 = .ok (.newarray .int, 2) := by decide +kernel
theorem dX2_init_9 : decode cX2_init 9 = .ok (.putfield 9, 3) := by decide +kernel
theorem dX2_init_12 : decode cX2_init 12 = .ok (.aload_n 0, 1) := by decide +kernel
theorem dX2_init_13 : decode cX2_init 13 = .ok (.bipush 8, 2) := by decide +kernel
theorem dX2_init_15 : decode cX2_init 15 = .ok (.newarray .int, 2) := by decide +kernel
theorem dX2_init_17 : decode cX2_init 17 = .ok (.putfield 15, 3) := by decide +kernel
theorem dX2_init_20 : decode cX2_init 20 = .ok (.aload_n 0, 1) := by decide +kernel
theorem dX2_init_21 : decode cX2_init 21 = .ok (.bipush 8, 2) := by decide +kernel
theorem dX2_init_23 : decode cX2_init 23 = .ok (.newarray .int, 2) := by decide +kernel
theorem dX2_init_25 : decode cX2_init 25 = .ok (.putfield 18, 3) := by decide +kernel
theorem dX2_init_28 : decode cX2_init 28 = .ok (.aload_n 0, 1) := by decide +kernel
theorem dX2_init_29 : decode cX2_init 29 = .ok (.bipush 8, 2) := by decide +kernel
theorem dX2_init_31 : decode cX2_init 31 = .ok (.newarray .boolean, 2) := by decide +kernel
theorem dX2_init_33 : decode cX2_init 33 = .ok (.putfield 21, 3) := by decide +kernel
theorem dX2_init_36 : decode cX2_init 36 = .ok (.aload_n 0, 1) := by decide +kernel
theorem dX2_init_37 : decode cX2_init 37 = .ok (.bipush 24, 2) := by decide +kernel
theorem dX2_init_39 : decode cX2_init 39 = .ok (.newarray .int, 2) := by decide +kernel
theorem dX2_init_41 : decode cX2_init 41 = .ok (.putfield 25, 3) := by decide +kernel
theorem dX2_init_44 : decode cX2_init 44 = .ok (.aload_n 0, 1) := by decide +kernel
theorem dX2_init_45 : decode cX2_init 45 = .ok (.bipush 120, 2) := by decide +kernel
theorem dX2_init_47 : decode cX2_init 47 = .ok (.newarray .int, 2) := by decide +kernel
theorem dX2_init_49 : decode cX2_init 49 = .ok (.putfield 28, 3) := by decide +kernel
theorem dX2_init_52 : decode cX2_init 52 = .ok (.aload_n 0, 1) := by decide +kernel
theorem dX2_init_53 : decode cX2_init 53 = .ok (.new 31, 3) := by decide +kernel
theorem dX2_init_56 : decode cX2_init 56 = .ok (.dup, 1) := by decide +kernel
theorem dX2_init_57 : decode cX2_init 57 = .ok (.invokespecial 33, 3) := by decide +kernel
theorem dX2_init_60 : decode cX2_init 60 = .ok (.putfield 34, 3) := by decide +kernel
theorem dX2_init_63 : decode cX2_init 63 = .ok (.iconst 0, 1) := by decide +kernel
theorem dX2_init_64 : decode cX2_init 64 = .ok (.istore_n 1, 1) := by decide +kernel
theorem dX2_init_65 : decode cX2_init 65 = .ok (.iload_n 1, 1) := by decide +kernel
theorem dX2_init_66 : decode cX2_init 66 = .ok (.bipush 8, 2) := by decide +kernel
theorem dX2_init_68 : decode cX2_init 68 = .ok (.if_icmp .ge 16, 3) := by decide +kernel
theorem dX2_init_71 : decode cX2_init 71 = .ok (.aload_n 0, 1) := by decide +kernel
theorem dX2_init_72 : decode cX2_init 72 = .ok (.getfield 18, 3) := by decide +kernel
theorem dX2_init_75 : decode cX2_init 75 = .ok (.iload_n 1, 1) := by decide +kernel
theorem dX2_init_76 : decode cX2_init 76 = .ok (.iconst (-1), 1) := by decide +kernel
theorem dX2_init_77 : decode cX2_init 77 = .ok (.iastore, 1) := by decide +kernel
theorem dX2_init_78 : decode cX2_init 78 = .ok (.iinc 1 1, 3) := by decide +kernel
theorem dX2_init_81 : decode cX2_init 81 = .ok (.goto (-16), 3) := by decide +kernel
theorem dX2_init_84 : decode cX2_init 84 = .ok (.return_, 1) := by decide +kernel
def rm_X2_init : Room := { frames := 2, cells := 8, slots := 230, locals := 46 }
set_option maxHeartbeats 4000000 in
set_option maxRecDepth 100000 in
theorem ct_X2_init {l : Launch} {D : va_G} {G : Nat → ClassId} {KV : jV} {a : Nat} : jM l D G KV yX2_init cX2_init 2 none rm_X2_init [.ref a] [(a, .inr (2, [.null, .null, .null, .null, .null, .null, .null, .int 0, .int 0, .int 0]))] 8 230 (fun v u => v = none ∧ ∃ q1 q2 q3 q4 q5 q6 q7 q9 : Nat, u = [(a, .inr (2, [.ref q1, .ref q2, .ref q3, .ref q4, .ref q5, .ref q6, .ref q7, .int 0, .int 0, .int 0])), (q1, .inl (G 0, 24, .inl (fun _ => 0))), (q2, .inl (G 0, 8, .inl (fun _ => 0))), (q3, .inl (G 0, 8, .inl (upd (upd (upd (upd (upd (upd (upd (upd (fun _ => 0) 0 (-1)) 1 (-1)) 2 (-1)) 3 (-1)) 4 (-1)) 5 (-1)) 6 (-1)) 7 (-1)))), (q4, .inl (G 2, 8, .inl (fun _ => 0))), (q5, .inl (G 0, 24, .inl (fun _ => 0))), (q6, .inl (G 0, 120, .inl (fun _ => 0))), (q7, .inr (6, [.int 0, .int 0, .int 0, .int 0, .int 0, .int 0, .int 0, .ref q9])), (q9, .inl (G 0, 30, .inl (fun _ => 0)))]) := by
  refine jM.of (by decide) (Nat.le_of_ble_eq_true rfl) ?_
  intro K C
  refine j_aload_n C dX2_init_0 0 rfl ?_
  refine j_objInit C dX2_init_1 w_76 w_24 w_25 (Nat.le_of_ble_eq_true rfl) (Nat.le_of_ble_eq_true rfl) ?_
  refine j_aload_n C dX2_init_4 0 rfl ?_
  refine j_bipush C dX2_init_5 (v := 24) (by decide) ?_
  refine j_newa C (t := 0) (ty := .int) dX2_init_7 rfl rfl (fun _ _ h => h) w_70 (a0 := (24, .inl (fun _ => 0))) (N' := 24) (fun _ => rfl) (by decide) rfl (Nat.le_of_ble_eq_true rfl) (Nat.le_of_ble_eq_true rfl) (Nat.le_of_ble_eq_true rfl) (fun q1 => ?_)
  show K 1 24 [(a, .inr (2, [.null, .null, .null, .null, .null, .null, .null, .int 0, .int 0, .int 0])), (q1, .inl (G 0, 24, .inl (fun _ => 0)))] 9 [(0, .ref a)] [.ref q1, .ref a]
  refine j_putF C dX2_init_9 inX2 tyX2 tyX2_ok nmX2 rfl 0 rfl 0 (by decide) w_116 rfl rfl rfl rfl rfl rfl (Nat.le_of_ble_eq_true rfl) ?_
  show K 1 24 [(a, .inr (2, [.ref q1, .null, .null, .null, .null, .null, .null, .int 0, .int 0, .int 0])), (q1, .inl (G 0, 24, .inl (fun _ => 0)))] 12 [(0, .ref a)] []
  refine j_aload_n C dX2_init_12 0 rfl ?_
  refine j_bipush C dX2_init_13 (v := 8) (by decide) ?_
  refine j_newa C (t := 0) (ty := .int) dX2_init_15 rfl rfl (fun _ _ h => h) w_70 (a0 := (8, .inl (fun _ => 0))) (N' := 8) (fun _ => rfl) (by decide) rfl (Nat.le_of_ble_eq_true rfl) (Nat.le_of_ble_eq_true rfl) (Nat.le_of_ble_eq_true rfl) (fun q2 => ?_)
  show K 2 32 [(a, .inr (2, [.ref q1, .null, .null, .null, .null, .null, .null, .int 0, .int 0, .int 0])), (q1, .inl (G 0, 24, .inl (fun _ => 0))), (q2, .inl (G 0, 8, .inl (fun _ => 0)))] 17 [(0, .ref a)] [.ref q2, .ref a]
  refine j_putF C dX2_init_17 inX2 tyX2 tyX2_ok nmX2 rfl 0 rfl 1 (by decide) w_119 rfl rfl rfl rfl rfl rfl (Nat.le_of_ble_eq_true rfl) ?_
  show K 2 32 [(a, .inr (2, [.ref q1, .ref q2, .null, .null, .null, .null, .null, .int 0, .int 0, .int 0])), (q1, .inl (G 0, 24, .inl (fun _ => 0))), (q2, .inl (G 0, 8, .inl (fun _ => 0)))] 20 [(0, .ref a)] []
  refine j_aload_n C dX2_init_20 0 rfl ?_
  refine j_bipush C dX2_init_21 (v := 8) (by decide) ?_
  refine j_newa C (t := 0) (ty := .int) dX2_init_23 rfl rfl (fun _ _ h => h) w_70 (a0 := (8, .inl (fun _ => 0))) (N' := 8) (fun _ => rfl) (by decide) rfl (Nat.le_of_ble_eq_true rfl) (Nat.le_of_ble_eq_true rfl) (Nat.le_of_ble_eq_true rfl) (fun q3 => ?_)
  show K 3 40 [(a, .inr (2, [.ref q1, .ref q2, .null, .null, .null, .null, .null, .int 0, .int 0, .int 0])), (q1, .inl (G 0, 24, .inl (fun _ => 0))), (q2, .inl (G 0, 8, .inl (fun _ => 0))), (q3, .inl (G 0, 8, .inl (fun _ => 0)))] 25 [(0, .ref a)] [.ref q3, .ref a]
  refine j_putF C dX2_init_25 inX2 tyX2 tyX2_ok nmX2 rfl 0 rfl 2 (by decide) w_122 rfl rfl rfl rfl rfl rfl (Nat.le_of_ble_eq_true rfl) ?_
  show K 3 40 [(a, .inr (2, [.ref q1, .ref q2, .ref q3, .null, .null, .null, .null, .int 0, .int 0, .int 0])), (q1, .inl (G 0, 24, .inl (fun _ => 0))), (q2, .inl (G 0, 8, .inl (fun _ => 0))), (q3, .inl (G 0, 8, .inl (fun _ => 0)))] 28 [(0, .ref a)] []
  refine j_aload_n C dX2_init_28 0 rfl ?_
  refine j_bipush C dX2_init_29 (v := 8) (by decide) ?_
  refine j_newa C (t := 2) (ty := .boolean) dX2_init_31 rfl rfl (fun _ _ h => h) w_115 (a0 := (8, .inl (fun _ => 0))) (N' := 8) (fun _ => rfl) (by decide) rfl (Nat.le_of_ble_eq_true rfl) (Nat.le_of_ble_eq_true rfl) (Nat.le_of_ble_eq_true rfl) (fun q4 => ?_)
  show K 4 48 [(a, .inr (2, [.ref q1, .ref q2, .ref q3, .null, .null, .null, .null, .int 0, .int 0, .int 0])), (q1, .inl (G 0, 24, .inl (fun _ => 0))), (q2, .inl (G 0, 8, .inl (fun _ => 0))), (q3, .inl (G 0, 8, .inl (fun _ => 0))), (q4, .inl (G 2, 8, .inl (fun _ => 0)))] 33 [(0, .ref a)] [.ref q4, .ref a]
  refine j_putF C dX2_init_33 inX2 tyX2 tyX2_ok nmX2 rfl 0 rfl 3 (by decide) w_125 rfl rfl rfl rfl rfl rfl (Nat.le_of_ble_eq_true rfl) ?_
  show K 4 48 [(a, .inr (2, [.ref q1, .ref q2, .ref q3, .ref q4, .null, .null, .null, .int 0, .int 0, .int 0])), (q1, .inl (G 0, 24, .inl (fun _ => 0))), (q2, .inl (G 0, 8, .inl (fun _ => 0))), (q3, .inl (G 0, 8, .inl (fun _ => 0))), (q4, .inl (G 2, 8, .inl (fun _ => 0)))] 36 [(0, .ref a)] []
  refine j_aload_n C dX2_init_36 0 rfl ?_
  refine j_bipush C dX2_init_37 (v := 24) (by decide) ?_
  refine j_newa C (t := 0) (ty := .int) dX2_init_39 rfl rfl (fun _ _ h => h) w_70 (a0 := (24, .inl (fun _ => 0))) (N' := 24) (fun _ => rfl) (by decide) rfl (Nat.le_of_ble_eq_true rfl) (Nat.le_of_ble_eq_true rfl) (Nat.le_of_ble_eq_true rfl) (fun q5 => ?_)
  show K 5 72 [(a, .inr (2, [.ref q1, .ref q2, .ref q3, .ref q4, .null, .null, .null, .int 0, .int 0, .int 0])), (q1, .inl (G 0, 24, .inl (fun _ => 0))), (q2, .inl (G 0, 8, .inl (fun _ => 0))), (q3, .inl (G 0, 8, .inl (fun _ => 0))), (q4, .inl (G 2, 8, .inl (fun _ => 0))), (q5, .inl (G 0, 24, .inl (fun _ => 0)))] 41 [(0, .ref a)] [.ref q5, .ref a]
  refine j_putF C dX2_init_41 inX2 tyX2 tyX2_ok nmX2 rfl 0 rfl 4 (by decide) w_129 rfl rfl rfl rfl rfl rfl (Nat.le_of_ble_eq_true rfl) ?_
  show K 5 72 [(a, .inr (2, [.ref q1, .ref q2, .ref q3, .ref q4, .ref q5, .null, .null, .int 0, .int 0, .int 0])), (q1, .inl (G 0, 24, .inl (fun _ => 0))), (q2, .inl (G 0, 8, .inl (fun _ => 0))), (q3, .inl (G 0, 8, .inl (fun _ => 0))), (q4, .inl (G 2, 8, .inl (fun _ => 0))), (q5, .inl (G 0, 24, .inl (fun _ => 0)))] 44 [(0, .ref a)] []
  refine j_aload_n C dX2_init_44 0 rfl ?_
  refine j_bipush C dX2_init_45 (v := 120) (by decide) ?_
  refine j_newa C (t := 0) (ty := .int) dX2_init_47 rfl rfl (fun _ _ h => h) w_70 (a0 := (120, .inl (fun _ => 0))) (N' := 120) (fun _ => rfl) (by decide) rfl (Nat.le_of_ble_eq_true rfl) (Nat.le_of_ble_eq_true rfl) (Nat.le_of_ble_eq_true rfl) (fun q6 => ?_)
  show K 6 192 [(a, .inr (2, [.ref q1, .ref q2, .ref q3, .ref q4, .ref q5, .null, .null, .int 0, .int 0, .int 0])), (q1, .inl (G 0, 24, .inl (fun _ => 0))), (q2, .inl (G 0, 8, .inl (fun _ => 0))), (q3, .inl (G 0, 8, .inl (fun _ => 0))), (q4, .inl (G 2, 8, .inl (fun _ => 0))), (q5, .inl (G 0, 24, .inl (fun _ => 0))), (q6, .inl (G 0, 120, .inl (fun _ => 0)))] 49 [(0, .ref a)] [.ref q6, .ref a]
  refine j_putF C dX2_init_49 inX2 tyX2 tyX2_ok nmX2 rfl 0 rfl 5 (by decide) w_131 rfl rfl rfl rfl rfl rfl (Nat.le_of_ble_eq_true rfl) ?_
  show K 6 192 [(a, .inr (2, [.ref q1, .ref q2, .ref q3, .ref q4, .ref q5, .ref q6, .null, .int 0, .int 0, .int 0])), (q1, .inl (G 0, 24, .inl (fun _ => 0))), (q2, .inl (G 0, 8, .inl (fun _ => 0))), (q3, .inl (G 0, 8, .inl (fun _ => 0))), (q4, .inl (G 2, 8, .inl (fun _ => 0))), (q5, .inl (G 0, 24, .inl (fun _ => 0))), (q6, .inl (G 0, 120, .inl (fun _ => 0)))] 52 [(0, .ref a)] []
  refine j_aload_n C dX2_init_52 0 rfl ?_
  refine j_new C (ci := 6) dX2_init_53 inX6 tyX6 tyX6_ok w_77 w_78 w_5 rfl (fs := [.int 0, .int 0, .int 0, .int 0, .int 0, .int 0, .int 0, .null]) (fun j hj => by rcases (show j = 0 ∨ j = 1 ∨ j = 2 ∨ j = 3 ∨ j = 4 ∨ j = 5 ∨ j = 6 ∨ j = 7 by omega) with rfl | rfl | rfl | rfl | rfl | rfl | rfl | rfl <;> rfl) (Nat.le_of_ble_eq_true rfl) (Nat.le_of_ble_eq_true rfl) (fun q7 => ?_)
  refine j_dup C dX2_init_56 rfl ?_
  refine j_fIN2 C (host := "RoadOfDoors") (cs := 7) (sl := 200) (pc := 57) (rest := [.ref q7, .ref a]) (w1 := [(a, .inr (2, [.ref q1, .ref q2, .ref q3, .ref q4, .ref q5, .ref q6, .null, .int 0, .int 0, .int 0])), (q1, .inl (G 0, 24, .inl (fun _ => 0))), (q2, .inl (G 0, 8, .inl (fun _ => 0))), (q3, .inl (G 0, 8, .inl (fun _ => 0))), (q4, .inl (G 2, 8, .inl (fun _ => 0))), (q5, .inl (G 0, 24, .inl (fun _ => 0))), (q6, .inl (G 0, 120, .inl (fun _ => 0)))]) (w2 := [(q7, .inr (6, [.int 0, .int 0, .int 0, .int 0, .int 0, .int 0, .int 0, .null]))]) dX2_init_57 (ct_X6_init (a := q7)) kc_X6_init (by decide +kernel) w_80 w_5 rfl jy_X6_init ⟨⟨Nat.le_of_ble_eq_true rfl, Nat.le_of_ble_eq_true rfl⟩, ⟨rfl, rfl⟩, ⟨Nat.le_of_ble_eq_true rfl, Nat.le_of_ble_eq_true rfl⟩⟩ (Nat.le_of_ble_eq_true rfl) rfl (fun v u hp => ?_)
  obtain ⟨rfl, q9, rfl⟩ := hp
  show K 8 230 [(a, .inr (2, [.ref q1, .ref q2, .ref q3, .ref q4, .ref q5, .ref q6, .null, .int 0, .int 0, .int 0])), (q1, .inl (G 0, 24, .inl (fun _ => 0))), (q2, .inl (G 0, 8, .inl (fun _ => 0))), (q3, .inl (G 0, 8, .inl (fun _ => 0))), (q4, .inl (G 2, 8, .inl (fun _ => 0))), (q5, .inl (G 0, 24, .inl (fun _ => 0))), (q6, .inl (G 0, 120, .inl (fun _ => 0))), (q7, .inr (6, [.int 0, .int 0, .int 0, .int 0, .int 0, .int 0, .int 0, .ref q9])), (q9, .inl (G 0, 30, .inl (fun _ => 0)))] 60 [(0, .ref a)] [.ref q7, .ref a]
  refine j_putF C dX2_init_60 inX2 tyX2 tyX2_ok nmX2 rfl 0 rfl 6 (by decide) w_133 rfl rfl rfl rfl rfl rfl (Nat.le_of_ble_eq_true rfl) ?_
  show K 8 230 [(a, .inr (2, [.ref q1, .ref q2, .ref q3, .ref q4, .ref q5, .ref q6, .ref q7, .int 0, .int 0, .int 0])), (q1, .inl (G 0, 24, .inl (fun _ => 0))), (q2, .inl (G 0, 8, .inl (fun _ => 0))), (q3, .inl (G 0, 8, .inl (fun _ => 0))), (q4, .inl (G 2, 8, .inl (fun _ => 0))), (q5, .inl (G 0, 24, .inl (fun _ => 0))), (q6, .inl (G 0, 120, .inl (fun _ => 0))), (q7, .inr (6, [.int 0, .int 0, .int 0, .int 0, .int 0, .int 0, .int 0, .ref q9])), (q9, .inl (G 0, 30, .inl (fun _ => 0)))] 63 [(0, .ref a)] []
  refine j_iconst C dX2_init_63 (v := 0) (by decide) ?_
  refine j_istore_n C dX2_init_64 (by decide) rfl ?_
  refine j_iload_n C dX2_init_65 0 rfl ?_
  refine j_bipush C dX2_init_66 (v := 8) (by decide) ?_
  refine j_icmp_ge C dX2_init_68 (tgt := 84) (by decide) (fun cq => absurd cq (by decide)) (fun _ => ?_)
  refine j_aload_n C dX2_init_71 1 rfl ?_
  refine j_get C dX2_init_72 inX2 rfl 0 rfl 2 (by decide) w_122 rfl rfl ?_
  refine j_iload_n C dX2_init_75 0 rfl ?_
  refine j_iconst C dX2_init_76 (v := (-1)) (by decide) ?_
  refine j_iast C dX2_init_77 3 rfl (jin_vp (i := 0) (n := 8) (by decide)) ?_
  show K 8 230 [(a, .inr (2, [.ref q1, .ref q2, .ref q3, .ref q4, .ref q5, .ref q6, .ref q7, .int 0, .int 0, .int 0])), (q1, .inl (G 0, 24, .inl (fun _ => 0))), (q2, .inl (G 0, 8, .inl (fun _ => 0))), (q3, .inl (G 0, 8, .inl (upd (fun _ => 0) 0 (-1)))), (q4, .inl (G 2, 8, .inl (fun _ => 0))), (q5, .inl (G 0, 24, .inl (fun _ => 0))), (q6, .inl (G 0, 120, .inl (fun _ => 0))), (q7, .inr (6, [.int 0, .int 0, .int 0, .int 0, .int 0, .int 0, .int 0, .ref q9])), (q9, .inl (G 0, 30, .inl (fun _ => 0)))] 78 [(1, .int 0), (0, .ref a)] []
  refine j_iinc C dX2_init_78 0 rfl (v := 1) (by decide) (by decide) rfl ?_
  refine j_goto C dX2_init_81 (tgt := 65) (by decide) ?_
  refine j_iload_n C dX2_init_65 0 rfl ?_
  refine j_bipush C dX2_init_66 (v := 8) (by decide) ?_
  refine j_icmp_ge C dX2_init_68 (tgt := 84) (by decide) (fun cq => absurd cq (by decide)) (fun _ => ?_)
  refine j_aload_n C dX2_init_71 1 rfl ?_
  refine j_get C dX2_init_72 inX2 rfl 0 rfl 2 (by decide) w_122 rfl rfl ?_
  refine j_iload_n C dX2_init_75 0 rfl ?_
  refine j_iconst C dX2_init_76 (v := (-1)) (by decide) ?_
  refine j_iast C dX2_init_77 3 rfl (jin_vp (i := 1) (n := 8) (by decide)) ?_
  show K 8 230 [(a, .inr (2, [.ref q1, .ref q2, .ref q3, .ref q4, .ref q5, .ref q6, .ref q7, .int 0, .int 0, .int 0])), (q1, .inl (G 0, 24, .inl (fun _ => 0))), (q2, .inl (G 0, 8, .inl (fun _ => 0))), (q3, .inl (G 0, 8, .inl (upd (upd (fun _ => 0) 0 (-1)) 1 (-1)))), (q4, .inl (G 2, 8, .inl (fun _ => 0))), (q5, .inl (G 0, 24, .inl (fun _ => 0))), (q6, .inl (G 0, 120, .inl (fun _ => 0))), (q7, .inr (6, [.int 0, .int 0, .int 0, .int 0, .int 0, .int 0, .int 0, .ref q9])), (q9, .inl (G 0, 30, .inl (fun _ => 0)))] 78 [(1, .int 1), (0, .ref a)] []
  refine j_iinc C dX2_init_78 0 rfl (v := 2) (by decide) (by decide) rfl ?_
  refine j_goto C dX2_init_81 (tgt := 65) (by decide) ?_
  refine j_iload_n C dX2_init_65 0 rfl ?_
  refine j_bipush C dX2_init_66 (v := 8) (by decide) ?_
  refine j_icmp_ge C dX2_init_68 (tgt := 84) (by decide) (fun cq => absurd cq (by decide)) (fun _ => ?_)
  refine j_aload_n C dX2_init_71 1 rfl ?_
  refine j_get C dX2_init_72 inX2 rfl 0 rfl 2 (by decide) w_122 rfl rfl ?_
  refine j_iload_n C dX2_init_75 0 rfl ?_
  refine j_iconst C dX2_init_76 (v := (-1)) (by decide) ?_
  refine j_iast C dX2_init_77 3 rfl (jin_vp (i := 2) (n := 8) (by decide)) ?_
  show K 8 230 [(a, .inr (2, [.ref q1, .ref q2, .ref q3, .ref q4, .ref q5, .ref q6, .ref q7, .int 0, .int 0, .int 0])), (q1, .inl (G 0, 24, .inl (fun _ => 0))), (q2, .inl (G 0, 8, .inl (fun _ => 0))), (q3, .inl (G 0, 8, .inl (upd (upd (upd (fun _ => 0) 0 (-1)) 1 (-1)) 2 (-1)))), (q4, .inl (G 2, 8, .inl (fun _ => 0))), (q5, .inl (G 0, 24, .inl (fun _ => 0))), (q6, .inl (G 0, 120, .inl (fun _ => 0))), (q7, .inr (6, [.int 0, .int 0, .int 0, .int 0, .int 0, .int 0, .int 0, .ref q9])), (q9, .inl (G 0, 30, .inl (fun _ => 0)))] 78 [(1, .int 2), (0, .ref a)] []
  refine j_iinc C dX2_init_78 0 rfl (v := 3) (by decide) (by decide) rfl ?_
  refine j_goto C dX2_init_81 (tgt := 65) (by decide) ?_
  refine j_iload_n C dX2_init_65 0 rfl ?_
  refine j_bipush C dX2_init_66 (v := 8) (by decide) ?_
  refine j_icmp_ge C dX2_init_68 (tgt := 84) (by decide) (fun cq => absurd cq (by decide)) (fun _ => ?_)
  refine j_aload_n C dX2_init_71 1 rfl ?_
  refine j_get C dX2_init_72 inX2 rfl 0 rfl 2 (by decide) w_122 rfl rfl ?_
  refine j_iload_n C dX2_init_75 0 rfl ?_
  refine j_iconst C dX2_init_76 (v := (-1)) (by decide) ?_
  refine j_iast C dX2_init_77 3 rfl (jin_vp (i := 3) (n := 8) (by decide)) ?_
  show K 8 230 [(a, .inr (2, [.ref q1, .ref q2, .ref q3, .ref q4, .ref q5, .ref q6, .ref q7, .int 0, .int 0, .int 0])), (q1, .inl (G 0, 24, .inl (fun _ => 0))), (q2, .inl (G 0, 8, .inl (fun _ => 0))), (q3, .inl (G 0, 8, .inl (upd (upd (upd (upd (fun _ => 0) 0 (-1)) 1 (-1)) 2 (-1)) 3 (-1)))), (q4, .inl (G 2, 8, .inl (fun _ => 0))), (q5, .inl (G 0, 24, .inl (fun _ => 0))), (q6, .inl (G 0, 120, .inl (fun _ => 0))), (q7, .inr (6, [.int 0, .int 0, .int 0, .int 0, .int 0, .int 0, .int 0, .ref q9])), (q9, .inl (G 0, 30, .inl (fun _ => 0)))] 78 [(1, .int 3), (0, .ref a)] []
  refine j_iinc C dX2_init_78 0 rfl (v := 4) (by decide) (by decide) rfl ?_
  refine j_goto C dX2_init_81 (tgt := 65) (by decide) ?_
  refine j_iload_n C dX2_init_65 0 rfl ?_
  refine j_bipush C dX2_init_66 (v := 8) (by decide) ?_
  refine j_icmp_ge C dX2_init_68 (tgt := 84) (by decide) (fun cq => absurd cq (by decide)) (fun _ => ?_)
  refine j_aload_n C dX2_init_71 1 rfl ?_
  refine j_get C dX2_init_72 inX2 rfl 0 rfl 2 (by decide) w_122 rfl rfl ?_
  refine j_iload_n C dX2_init_75 0 rfl ?_
  refine j_iconst C dX2_init_76 (v := (-1)) (by decide) ?_
  refine j_iast C dX2_init_77 3 rfl (jin_vp (i := 4) (n := 8) (by decide)) ?_
  show K 8 230 [(a, .inr (2, [.ref q1, .ref q2, .ref q3, .ref q4, .ref q5, .ref q6, .ref q7, .int 0, .int 0, .int 0])), (q1, .inl (G 0, 24, .inl (fun _ => 0))), (q2, .inl (G 0, 8, .inl (fun _ => 0))), (q3, .inl (G 0, 8, .inl (upd (upd (upd (upd (upd (fun _ => 0) 0 (-1)) 1 (-1)) 2 (-1)) 3 (-1)) 4 (-1)))), (q4, .inl (G 2, 8, .inl (fun _ => 0))), (q5, .inl (G 0, 24, .inl (fun _ => 0))), (q6, .inl (G 0, 120, .inl (fun _ => 0))), (q7, .inr (6, [.int 0, .int 0, .int 0, .int 0, .int 0, .int 0, .int 0, .ref q9])), (q9, .inl (G 0, 30, .inl (fun _ => 0)))] 78 [(1, .int 4), (0, .ref a)] []
  refine j_iinc C dX2_init_78 0 rfl (v := 5) (by decide) (by decide) rfl ?_
  refine j_goto C dX2_init_81 (tgt := 65) (by decide) ?_
  refine j_iload_n C dX2_init_65 0 rfl ?_
  refine j_bipush C dX2_init_66 (v := 8) (by decide) ?_
  refine j_icmp_ge C dX2_init_68 (tgt := 84) (by decide) (fun cq => absurd cq (by decide)) (fun _ => ?_)
  refine j_aload_n C dX2_init_71 1 rfl ?_
  refine j_get C dX2_init_72 inX2 rfl 0 rfl 2 (by decide) w_122 rfl rfl ?_
  refine j_iload_n C dX2_init_75 0 rfl ?_
  refine j_iconst C dX2_init_76 (v := (-1)) (by decide) ?_
  refine j_iast C dX2_init_77 3 rfl (jin_vp (i := 5) (n := 8) (by decide)) ?_
  show K 8 230 [(a, .inr (2, [.ref q1, .ref q2, .ref q3, .ref q4, .ref q5, .ref q6, .ref q7, .int 0, .int 0, .int 0])), (q1, .inl (G 0, 24, .inl (fun _ => 0))), (q2, .inl (G 0, 8, .inl (fun _ => 0))), (q3, .inl (G 0, 8, .inl (upd (upd (upd (upd (upd (upd (fun _ => 0) 0 (-1)) 1 (-1)) 2 (-1)) 3 (-1)) 4 (-1)) 5 (-1)))), (q4, .inl (G 2, 8, .inl (fun _ => 0))), (q5, .inl (G 0, 24, .inl (fun _ => 0))), (q6, .inl (G 0, 120, .inl (fun _ => 0))), (q7, .inr (6, [.int 0, .int 0, .int 0, .int 0, .int 0, .int 0, .int 0, .ref q9])), (q9, .inl (G 0, 30, .inl (fun _ => 0)))] 78 [(1, .int 5), (0, .ref a)] []
  refine j_iinc C dX2_init_78 0 rfl (v := 6) (by decide) (by decide) rfl ?_
  refine j_goto C dX2_init_81 (tgt := 65) (by decide) ?_
  refine j_iload_n C dX2_init_65 0 rfl ?_
  refine j_bipush C dX2_init_66 (v := 8) (by decide) ?_
  refine j_icmp_ge C dX2_init_68 (tgt := 84) (by decide) (fun cq => absurd cq (by decide)) (fun _ => ?_)
  refine j_aload_n C dX2_init_71 1 rfl ?_
  refine j_get C dX2_init_72 inX2 rfl 0 rfl 2 (by decide) w_122 rfl rfl ?_
  refine j_iload_n C dX2_init_75 0 rfl ?_
  refine j_iconst C dX2_init_76 (v := (-1)) (by decide) ?_
  refine j_iast C dX2_init_77 3 rfl (jin_vp (i := 6) (n := 8) (by decide)) ?_
  show K 8 230 [(a, .inr (2, [.ref q1, .ref q2, .ref q3, .ref q4, .ref q5, .ref q6, .ref q7, .int 0, .int 0, .int 0])), (q1, .inl (G 0, 24, .inl (fun _ => 0))), (q2, .inl (G 0, 8, .inl (fun _ => 0))), (q3, .inl (G 0, 8, .inl (upd (upd (upd (upd (upd (upd (upd (fun _ => 0) 0 (-1)) 1 (-1)) 2 (-1)) 3 (-1)) 4 (-1)) 5 (-1)) 6 (-1)))), (q4, .inl (G 2, 8, .inl (fun _ => 0))), (q5, .inl (G 0, 24, .inl (fun _ => 0))), (q6, .inl (G 0, 120, .inl (fun _ => 0))), (q7, .inr (6, [.int 0, .int 0, .int 0, .int 0, .int 0, .int 0, .int 0, .ref q9])), (q9, .inl (G 0, 30, .inl (fun _ => 0)))] 78 [(1, .int 6), (0, .ref a)] []
  refine j_iinc C dX2_init_78 0 rfl (v := 7) (by decide) (by decide) rfl ?_
  refine j_goto C dX2_init_81 (tgt := 65) (by decide) ?_
  refine j_iload_n C dX2_init_65 0 rfl ?_
  refine j_bipush C dX2_init_66 (v := 8) (by decide) ?_
  refine j_icmp_ge C dX2_init_68 (tgt := 84) (by decide) (fun cq => absurd cq (by decide)) (fun _ => ?_)
  refine j_aload_n C dX2_init_71 1 rfl ?_
  refine j_get C dX2_init_72 inX2 rfl 0 rfl 2 (by decide) w_122 rfl rfl ?_
  refine j_iload_n C dX2_init_75 0 rfl ?_
  refine j_iconst C dX2_init_76 (v := (-1)) (by decide) ?_
  refine j_iast C dX2_init_77 3 rfl (jin_vp (i := 7) (n := 8) (by decide)) ?_
  show K 8 230 [(a, .inr (2, [.ref q1, .ref q2, .ref q3, .ref q4, .ref q5, .ref q6, .ref q7, .int 0, .int 0, .int 0])), (q1, .inl (G 0, 24, .inl (fun _ => 0))), (q2, .inl (G 0, 8, .inl (fun _ => 0))), (q3, .inl (G 0, 8, .inl (upd (upd (upd (upd (upd (upd (upd (upd (fun _ => 0) 0 (-1)) 1 (-1)) 2 (-1)) 3 (-1)) 4 (-1)) 5 (-1)) 6 (-1)) 7 (-1)))), (q4, .inl (G 2, 8, .inl (fun _ => 0))), (q5, .inl (G 0, 24, .inl (fun _ => 0))), (q6, .inl (G 0, 120, .inl (fun _ => 0))), (q7, .inr (6, [.int 0, .int 0, .int 0, .int 0, .int 0, .int 0, .int 0, .ref q9])), (q9, .inl (G 0, 30, .inl (fun _ => 0)))] 78 [(1, .int 7), (0, .ref a)] []
  refine j_iinc C dX2_init_78 0 rfl (v := 8) (by decide) (by decide) rfl ?_
  refine j_goto C dX2_init_81 (tgt := 65) (by decide) ?_
  refine j_iload_n C dX2_init_65 0 rfl ?_
  refine j_bipush C dX2_init_66 (v := 8) (by decide) ?_
  refine j_icmp_ge C dX2_init_68 (tgt := 84) (by decide) (fun _ => ?_) (fun cq => absurd (by decide) cq)
  exact j_vret C dX2_init_84 rfl (Nat.le_of_ble_eq_true rfl) (Nat.le_of_ble_eq_true rfl) ⟨rfl, q1, q2, q3, q4, q5, q6, q7, q9, rfl⟩
theorem dX4_init_0 : decode cX4_init 0 = .ok (.aload_n 0, 1) := by decide +kernel
theorem dX4_init_1 : decode cX4_init 1 = .ok (.invokespecial 3, 3) := by decide +kernel
theorem dX4_init_4 : decode cX4_init 4 = .ok (.aload_n 0, 1) := by decide +kernel
theorem dX4_init_5 : decode cX4_init 5 = .ok (.sipush 300, 3) := by decide +kernel
theorem dX4_init_8 : decode cX4_init 8 = .ok (.newarray .byte, 2) := by decide +kernel
theorem dX4_init_10 : decode cX4_init 10 = .ok (.putfield 9, 3) := by decide +kernel
theorem dX4_init_13 : decode cX4_init 13 = .ok (.return_, 1) := by decide +kernel
def rm_X4_init : Room := { frames := 1, cells := 1, slots := 300, locals := 26 }
set_option maxHeartbeats 4000000 in
set_option maxRecDepth 100000 in
theorem ct_X4_init {l : Launch} {D : va_G} {G : Nat → ClassId} {KV : jV} {a : Nat} : jM l D G KV yX4_init cX4_init 1 none rm_X4_init [.ref a] [(a, .inr (4, [.null, .int 0, .int 0, .int 0, .int 0, .int 0]))] 1 300 (fun v u => v = none ∧ ∃ q1 : Nat, u = [(a, .inr (4, [.ref q1, .int 0, .int 0, .int 0, .int 0, .int 0])), (q1, .inl (G 3, 300, .inl (fun _ => 0)))]) := by
  refine jM.of (by decide) (Nat.le_of_ble_eq_true rfl) ?_
  intro K C
  refine j_aload_n C dX4_init_0 0 rfl ?_
  refine j_objInit C dX4_init_1 w_170 w_24 w_25 (Nat.le_of_ble_eq_true rfl) (Nat.le_of_ble_eq_true rfl) ?_
  refine j_aload_n C dX4_init_4 0 rfl ?_
  refine j_sipush C dX4_init_5 (v := 300) (by decide) ?_
  refine j_newa C (t := 3) (ty := .byte) dX4_init_8 rfl rfl (fun _ _ h => h) w_194 (a0 := (300, .inl (fun _ => 0))) (N' := 300) (fun _ => rfl) (by decide) rfl (Nat.le_of_ble_eq_true rfl) (Nat.le_of_ble_eq_true rfl) (Nat.le_of_ble_eq_true rfl) (fun q1 => ?_)
  show K 1 300 [(a, .inr (4, [.null, .int 0, .int 0, .int 0, .int 0, .int 0])), (q1, .inl (G 3, 300, .inl (fun _ => 0)))] 10 [(0, .ref a)] [.ref q1, .ref a]
  refine j_putF C dX4_init_10 inX4 tyX4 tyX4_ok nmX4 rfl 0 rfl 0 (by decide) w_171 rfl rfl rfl rfl rfl rfl (Nat.le_of_ble_eq_true rfl) ?_
  show K 1 300 [(a, .inr (4, [.ref q1, .int 0, .int 0, .int 0, .int 0, .int 0])), (q1, .inl (G 3, 300, .inl (fun _ => 0)))] 13 [(0, .ref a)] []
  exact j_vret C dX4_init_13 rfl (Nat.le_of_ble_eq_true rfl) (Nat.le_of_ble_eq_true rfl) ⟨rfl, q1, rfl⟩
theorem dX3_init_0 : decode cX3_init 0 = .ok (.aload_n 0, 1) := by decide +kernel
theorem dX3_init_1 : decode cX3_init 1 = .ok (.invokespecial 3, 3) := by decide +kernel
theorem dX3_init_4 : decode cX3_init 4 = .ok (.aload_n 0, 1) := by decide +kernel
theorem dX3_init_5 : decode cX3_init 5 = .ok (.bipush 8, 2) := by decide +kernel
theorem dX3_init_7 : decode cX3_init 7 = .ok (.newarray .int, 2) := by decide +kernel
theorem dX3_init_9 : decode cX3_init 9 = .ok (.putfield 9, 3) := by decide +kernel
theorem dX3_init_12 : decode cX3_init 12 = .ok (.aload_n 0, 1) := by decide +kernel
theorem dX3_init_13 : decode cX3_init 13 = .ok (.bipush 64, 2) := by decide +kernel
theorem dX3_init_15 : decode cX3_init 15 = .ok (.newarray .int, 2) := by decide +kernel
theorem dX3_init_17 : decode cX3_init 17 = .ok (.putfield 15, 3) := by decide +kernel
theorem dX3_init_20 : decode cX3_init 20 = .ok (.aload_n 0, 1) := by decide +kernel
theorem dX3_init_21 : decode cX3_init 21 = .ok (.iload_n 1, 1) := by decide +kernel
theorem dX3_init_22 : decode cX3_init 22 = .ok (.putfield 18, 3) := by decide +kernel
theorem dX3_init_25 : decode cX3_init 25 = .ok (.aload_n 0, 1) := by decide +kernel
theorem dX3_init_26 : decode cX3_init 26 = .ok (.aload_n 2, 1) := by decide +kernel
theorem dX3_init_27 : decode cX3_init 27 = .ok (.putfield 22, 3) := by decide +kernel
theorem dX3_init_30 : decode cX3_init 30 = .ok (.aload_n 0, 1) := by decide +kernel
theorem dX3_init_31 : decode cX3_init 31 = .ok (.aload_n 3, 1) := by decide +kernel
theorem dX3_init_32 : decode cX3_init 32 = .ok (.putfield 26, 3) := by decide +kernel
theorem dX3_init_35 : decode cX3_init 35 = .ok (.aload_n 0, 1) := by decide +kernel
theorem dX3_init_36 : decode cX3_init 36 = .ok (.iconst 4, 1) := by decide +kernel
theorem dX3_init_37 : decode cX3_init 37 = .ok (.iload_n 1, 1) := by decide +kernel
theorem dX3_init_38 : decode cX3_init 38 = .ok (.imul, 1) := by decide +kernel
theorem dX3_init_39 : decode cX3_init 39 = .ok (.bipush 10, 2) := by decide +kernel
theorem dX3_init_41 : decode cX3_init 41 = .ok (.imul, 1) := by decide +kernel
theorem dX3_init_42 : decode cX3_init 42 = .ok (.bipush 24, 2) := by decide +kernel
theorem dX3_init_44 : decode cX3_init 44 = .ok (.imul, 1) := by decide +kernel
theorem dX3_init_45 : decode cX3_init 45 = .ok (.newarray .long, 2) := by decide +kernel
theorem dX3_init_47 : decode cX3_init 47 = .ok (.putfield 30, 3) := by decide +kernel
theorem dX3_init_50 : decode cX3_init 50 = .ok (.return_, 1) := by decide +kernel
def rm_X3_init : Room := { frames := 1, cells := 3, slots := 7752, locals := 26 }
set_option maxHeartbeats 4000000 in
set_option maxRecDepth 100000 in
theorem ct_X3_init {l : Launch} {D : va_G} {G : Nat → ClassId} {KV : jV} {a : Nat} {ro : Nat} {tx : Nat} (nd : Nat) (hnd : nd ≤ 8) : jM l D G KV yX3_init cX3_init 4 none rm_X3_init [.ref a, .int (Int32.ofNat nd), .ref ro, .ref tx] [(a, .inr (3, [.int 0, .null, .null, .null, .null, .null, .int 0]))] 3 7752 (fun v u => v = none ∧ ∃ q1 q2 q3 : Nat, u = [(a, .inr (3, [.int (Int32.ofNat nd), .ref ro, .ref tx, .ref q1, .ref q2, .ref q3, .int 0])), (q1, .inl (G 0, 8, .inl (fun _ => 0))), (q2, .inl (G 0, 64, .inl (fun _ => 0))), (q3, .inl (G 1, (960 * nd), .inr (.inl (fun _ => 0))))]) := by
  refine jM.of (by decide) (Nat.le_of_ble_eq_true rfl) ?_
  intro K C
  refine j_aload_n C dX3_init_0 0 rfl ?_
  refine j_objInit C dX3_init_1 w_200 w_24 w_25 (Nat.le_of_ble_eq_true rfl) (Nat.le_of_ble_eq_true rfl) ?_
  refine j_aload_n C dX3_init_4 0 rfl ?_
  refine j_bipush C dX3_init_5 (v := 8) (by decide) ?_
  refine j_newa C (t := 0) (ty := .int) dX3_init_7 rfl rfl (fun _ _ h => h) w_70 (a0 := (8, .inl (fun _ => 0))) (N' := 8) (fun _ => rfl) (by decide) rfl (Nat.le_of_ble_eq_true rfl) (Nat.le_of_ble_eq_true rfl) (Nat.le_of_ble_eq_true rfl) (fun q1 => ?_)
  show K 1 8 [(a, .inr (3, [.int 0, .null, .null, .null, .null, .null, .int 0])), (q1, .inl (G 0, 8, .inl (fun _ => 0)))] 9 [(0, .ref a), (1, .int (Int32.ofNat nd)), (2, .ref ro), (3, .ref tx)] [.ref q1, .ref a]
  refine j_putF C dX3_init_9 inX3 tyX3 tyX3_ok nmX3 rfl 0 rfl 3 (by decide) w_204 rfl rfl rfl rfl rfl rfl (Nat.le_of_ble_eq_true rfl) ?_
  show K 1 8 [(a, .inr (3, [.int 0, .null, .null, .ref q1, .null, .null, .int 0])), (q1, .inl (G 0, 8, .inl (fun _ => 0)))] 12 [(0, .ref a), (1, .int (Int32.ofNat nd)), (2, .ref ro), (3, .ref tx)] []
  refine j_aload_n C dX3_init_12 0 rfl ?_
  refine j_bipush C dX3_init_13 (v := 64) (by decide) ?_
  refine j_newa C (t := 0) (ty := .int) dX3_init_15 rfl rfl (fun _ _ h => h) w_70 (a0 := (64, .inl (fun _ => 0))) (N' := 64) (fun _ => rfl) (by decide) rfl (Nat.le_of_ble_eq_true rfl) (Nat.le_of_ble_eq_true rfl) (Nat.le_of_ble_eq_true rfl) (fun q2 => ?_)
  show K 2 72 [(a, .inr (3, [.int 0, .null, .null, .ref q1, .null, .null, .int 0])), (q1, .inl (G 0, 8, .inl (fun _ => 0))), (q2, .inl (G 0, 64, .inl (fun _ => 0)))] 17 [(0, .ref a), (1, .int (Int32.ofNat nd)), (2, .ref ro), (3, .ref tx)] [.ref q2, .ref a]
  refine j_putF C dX3_init_17 inX3 tyX3 tyX3_ok nmX3 rfl 0 rfl 4 (by decide) w_205 rfl rfl rfl rfl rfl rfl (Nat.le_of_ble_eq_true rfl) ?_
  show K 2 72 [(a, .inr (3, [.int 0, .null, .null, .ref q1, .ref q2, .null, .int 0])), (q1, .inl (G 0, 8, .inl (fun _ => 0))), (q2, .inl (G 0, 64, .inl (fun _ => 0)))] 20 [(0, .ref a), (1, .int (Int32.ofNat nd)), (2, .ref ro), (3, .ref tx)] []
  refine j_aload_n C dX3_init_20 0 rfl ?_
  refine j_iload_n C dX3_init_21 1 rfl ?_
  refine j_putF C dX3_init_22 inX3 tyX3 tyX3_ok nmX3 rfl 0 rfl 0 (by decide) w_201 rfl rfl rfl rfl rfl rfl (Nat.le_of_ble_eq_true rfl) ?_
  show K 2 72 [(a, .inr (3, [.int (Int32.ofNat nd), .null, .null, .ref q1, .ref q2, .null, .int 0])), (q1, .inl (G 0, 8, .inl (fun _ => 0))), (q2, .inl (G 0, 64, .inl (fun _ => 0)))] 25 [(0, .ref a), (1, .int (Int32.ofNat nd)), (2, .ref ro), (3, .ref tx)] []
  refine j_aload_n C dX3_init_25 0 rfl ?_
  refine j_aload_n C dX3_init_26 2 rfl ?_
  refine j_putF C dX3_init_27 inX3 tyX3 tyX3_ok nmX3 rfl 0 rfl 1 (by decide) w_202 rfl rfl rfl rfl rfl rfl (Nat.le_of_ble_eq_true rfl) ?_
  show K 2 72 [(a, .inr (3, [.int (Int32.ofNat nd), .ref ro, .null, .ref q1, .ref q2, .null, .int 0])), (q1, .inl (G 0, 8, .inl (fun _ => 0))), (q2, .inl (G 0, 64, .inl (fun _ => 0)))] 30 [(0, .ref a), (1, .int (Int32.ofNat nd)), (2, .ref ro), (3, .ref tx)] []
  refine j_aload_n C dX3_init_30 0 rfl ?_
  refine j_aload_n C dX3_init_31 3 rfl ?_
  refine j_putF C dX3_init_32 inX3 tyX3 tyX3_ok nmX3 rfl 0 rfl 2 (by decide) w_203 rfl rfl rfl rfl rfl rfl (Nat.le_of_ble_eq_true rfl) ?_
  show K 2 72 [(a, .inr (3, [.int (Int32.ofNat nd), .ref ro, .ref tx, .ref q1, .ref q2, .null, .int 0])), (q1, .inl (G 0, 8, .inl (fun _ => 0))), (q2, .inl (G 0, 64, .inl (fun _ => 0)))] 35 [(0, .ref a), (1, .int (Int32.ofNat nd)), (2, .ref ro), (3, .ref tx)] []
  refine j_aload_n C dX3_init_35 0 rfl ?_
  refine j_iconst C dX3_init_36 (v := 4) (by decide) ?_
  refine j_iload_n C dX3_init_37 1 rfl ?_
  refine j_imul C dX3_init_38 ?_
  refine j_bipush C dX3_init_39 (v := 10) (by decide) ?_
  refine j_imul C dX3_init_41 ?_
  refine j_bipush C dX3_init_42 (v := 24) (by decide) ?_
  refine j_imul C dX3_init_44 ?_
  refine j_newa C (t := 1) (ty := .long) dX3_init_45 rfl rfl (fun _ _ h => h) w_223 (a0 := ((960 * nd), .inr (.inl (fun _ => 0)))) (N' := (960 * nd)) (fun _ => rfl) (jlz1 hnd) (jlz2 hnd) (by show 960 * nd * 8 ≤ 536870912; omega) (Nat.le_of_ble_eq_true rfl) (by show _ ≤ (rm_X3_init).slots; simp only [rm_X3_init]; omega) (fun q3 => ?_)
  show K 3 (72 + 960 * nd) [(a, .inr (3, [.int (Int32.ofNat nd), .ref ro, .ref tx, .ref q1, .ref q2, .null, .int 0])), (q1, .inl (G 0, 8, .inl (fun _ => 0))), (q2, .inl (G 0, 64, .inl (fun _ => 0))), (q3, .inl (G 1, (960 * nd), .inr (.inl (fun _ => 0))))] 47 [(0, .ref a), (1, .int (Int32.ofNat nd)), (2, .ref ro), (3, .ref tx)] [.ref q3, .ref a]
  refine j_putF C dX3_init_47 inX3 tyX3 tyX3_ok nmX3 rfl 0 rfl 5 (by decide) w_206 rfl rfl rfl rfl rfl rfl (Nat.le_of_ble_eq_true rfl) ?_
  show K 3 (72 + 960 * nd) [(a, .inr (3, [.int (Int32.ofNat nd), .ref ro, .ref tx, .ref q1, .ref q2, .ref q3, .int 0])), (q1, .inl (G 0, 8, .inl (fun _ => 0))), (q2, .inl (G 0, 64, .inl (fun _ => 0))), (q3, .inl (G 1, (960 * nd), .inr (.inl (fun _ => 0))))] 50 [(0, .ref a), (1, .int (Int32.ofNat nd)), (2, .ref ro), (3, .ref tx)] []
  exact j_vret C dX3_init_50 rfl (Nat.le_of_ble_eq_true rfl) (by omega) ⟨rfl, q1, q2, q3, rfl⟩
theorem dX7_init_0 : decode cX7_init 0 = .ok (.aload_n 0, 1) := by decide +kernel
theorem dX7_init_1 : decode cX7_init 1 = .ok (.invokespecial 3, 3) := by decide +kernel
theorem dX7_init_4 : decode cX7_init 4 = .ok (.aload_n 0, 1) := by decide +kernel
theorem dX7_init_5 : decode cX7_init 5 = .ok (.bipush 48, 2) := by decide +kernel
theorem dX7_init_7 : decode cX7_init 7 = .ok (.newarray .int, 2) := by decide +kernel
theorem dX7_init_9 : decode cX7_init 9 = .ok (.putfield 9, 3) := by decide +kernel
theorem dX7_init_12 : decode cX7_init 12 = .ok (.aload_n 0, 1) := by decide +kernel
theorem dX7_init_13 : decode cX7_init 13 = .ok (.bipush 8, 2) := by decide +kernel
theorem dX7_init_15 : decode cX7_init 15 = .ok (.newarray .int, 2) := by decide +kernel
theorem dX7_init_17 : decode cX7_init 17 = .ok (.putfield 15, 3) := by decide +kernel
theorem dX7_init_20 : decode cX7_init 20 = .ok (.aload_n 0, 1) := by decide +kernel
theorem dX7_init_21 : decode cX7_init 21 = .ok (.sipush 180, 3) := by decide +kernel
theorem dX7_init_24 : decode cX7_init 24 = .ok (.newarray .int, 2) := by decide +kernel
theorem dX7_init_26 : decode cX7_init 26 = .ok (.putfield 18, 3) := by decide +kernel
theorem dX7_init_29 : decode cX7_init 29 = .ok (.aload_n 0, 1) := by decide +kernel
theorem dX7_init_30 : decode cX7_init 30 = .ok (.sipush 384, 3) := by decide +kernel
theorem dX7_init_33 : decode cX7_init 33 = .ok (.newarray .int, 2) := by decide +kernel
theorem dX7_init_35 : decode cX7_init 35 = .ok (.putfield 21, 3) := by decide +kernel
theorem dX7_init_38 : decode cX7_init 38 = .ok (.aload_n 0, 1) := by decide +kernel
theorem dX7_init_39 : decode cX7_init 39 = .ok (.bipush 8, 2) := by decide +kernel
theorem dX7_init_41 : decode cX7_init 41 = .ok (.newarray .int, 2) := by decide +kernel
theorem dX7_init_43 : decode cX7_init 43 = .ok (.putfield 24, 3) := by decide +kernel
theorem dX7_init_46 : decode cX7_init 46 = .ok (.aload_n 0, 1) := by decide +kernel
theorem dX7_init_47 : decode cX7_init 47 = .ok (.bipush 8, 2) := by decide +kernel
theorem dX7_init_49 : decode cX7_init 49 = .ok (.newarray .int, 2) := by decide +kernel
theorem dX7_init_51 : decode cX7_init 51 = .ok (.putfield 27, 3) := by decide +kernel
theorem dX7_init_54 : decode cX7_init 54 = .ok (.aload_n 0, 1) := by decide +kernel
theorem dX7_init_55 : decode cX7_init 55 = .ok (.iload_n 1, 1) := by decide +kernel
theorem dX7_init_56 : decode cX7_init 56 = .ok (.putfield 30, 3) := by decide +kernel
theorem dX7_init_59 : decode cX7_init 59 = .ok (.aload_n 0, 1) := by decide +kernel
theorem dX7_init_60 : decode cX7_init 60 = .ok (.aload_n 2, 1) := by decide +kernel
theorem dX7_init_61 : decode cX7_init 61 = .ok (.putfield 34, 3) := by decide +kernel
theorem dX7_init_64 : decode cX7_init 64 = .ok (.aload_n 0, 1) := by decide +kernel
theorem dX7_init_65 : decode cX7_init 65 = .ok (.aload_n 3, 1) := by decide +kernel
theorem dX7_init_66 : decode cX7_init 66 = .ok (.putfield 38, 3) := by decide +kernel
theorem dX7_init_69 : decode cX7_init 69 = .ok (.return_, 1) := by decide +kernel
def rm_X7_init : Room := { frames := 1, cells := 6, slots := 636, locals := 26 }
set_option maxHeartbeats 4000000 in
set_option maxRecDepth 100000 in
theorem ct_X7_init {l : Launch} {D : va_G} {G : Nat → ClassId} {KV : jV} {a : Nat} {ro : Nat} {ru : Nat} (nd : Nat) (hnd : nd ≤ 8) : jM l D G KV yX7_init cX7_init 4 none rm_X7_init [.ref a, .int (Int32.ofNat nd), .ref ro, .ref ru] [(a, .inr (7, [.int 0, .int 0, .null, .null, .int 0, .null, .null, .null, .null, .null, .null, .int 0]))] 6 636 (fun v u => v = none ∧ ∃ q1 q2 q3 q4 q5 q6 : Nat, u = [(a, .inr (7, [.int 0, .int 0, .ref q1, .ref q2, .int (Int32.ofNat nd), .ref ro, .ref ru, .ref q3, .ref q4, .ref q5, .ref q6, .int 0])), (q1, .inl (G 0, 48, .inl (fun _ => 0))), (q2, .inl (G 0, 8, .inl (fun _ => 0))), (q3, .inl (G 0, 180, .inl (fun _ => 0))), (q4, .inl (G 0, 384, .inl (fun _ => 0))), (q5, .inl (G 0, 8, .inl (fun _ => 0))), (q6, .inl (G 0, 8, .inl (fun _ => 0)))]) := by
  refine jM.of (by decide) (Nat.le_of_ble_eq_true rfl) ?_
  intro K C
  refine j_aload_n C dX7_init_0 0 rfl ?_
  refine j_objInit C dX7_init_1 w_229 w_24 w_25 (Nat.le_of_ble_eq_true rfl) (Nat.le_of_ble_eq_true rfl) ?_
  refine j_aload_n C dX7_init_4 0 rfl ?_
  refine j_bipush C dX7_init_5 (v := 48) (by decide) ?_
  refine j_newa C (t := 0) (ty := .int) dX7_init_7 rfl rfl (fun _ _ h => h) w_70 (a0 := (48, .inl (fun _ => 0))) (N' := 48) (fun _ => rfl) (by decide) rfl (Nat.le_of_ble_eq_true rfl) (Nat.le_of_ble_eq_true rfl) (Nat.le_of_ble_eq_true rfl) (fun q1 => ?_)
  show K 1 48 [(a, .inr (7, [.int 0, .int 0, .null, .null, .int 0, .null, .null, .null, .null, .null, .null, .int 0])), (q1, .inl (G 0, 48, .inl (fun _ => 0)))] 9 [(0, .ref a), (1, .int (Int32.ofNat nd)), (2, .ref ro), (3, .ref ru)] [.ref q1, .ref a]
  refine j_putF C dX7_init_9 inX7 tyX7 tyX7_ok nmX7 rfl 0 rfl 2 (by decide) w_234 rfl rfl rfl rfl rfl rfl (Nat.le_of_ble_eq_true rfl) ?_
  show K 1 48 [(a, .inr (7, [.int 0, .int 0, .ref q1, .null, .int 0, .null, .null, .null, .null, .null, .null, .int 0])), (q1, .inl (G 0, 48, .inl (fun _ => 0)))] 12 [(0, .ref a), (1, .int (Int32.ofNat nd)), (2, .ref ro), (3, .ref ru)] []
  refine j_aload_n C dX7_init_12 0 rfl ?_
  refine j_bipush C dX7_init_13 (v := 8) (by decide) ?_
  refine j_newa C (t := 0) (ty := .int) dX7_init_15 rfl rfl (fun _ _ h => h) w_70 (a0 := (8, .inl (fun _ => 0))) (N' := 8) (fun _ => rfl) (by decide) rfl (Nat.le_of_ble_eq_true rfl) (Nat.le_of_ble_eq_true rfl) (Nat.le_of_ble_eq_true rfl) (fun q2 => ?_)
  show K 2 56 [(a, .inr (7, [.int 0, .int 0, .ref q1, .null, .int 0, .null, .null, .null, .null, .null, .null, .int 0])), (q1, .inl (G 0, 48, .inl (fun _ => 0))), (q2, .inl (G 0, 8, .inl (fun _ => 0)))] 17 [(0, .ref a), (1, .int (Int32.ofNat nd)), (2, .ref ro), (3, .ref ru)] [.ref q2, .ref a]
  refine j_putF C dX7_init_17 inX7 tyX7 tyX7_ok nmX7 rfl 0 rfl 3 (by decide) w_236 rfl rfl rfl rfl rfl rfl (Nat.le_of_ble_eq_true rfl) ?_
  show K 2 56 [(a, .inr (7, [.int 0, .int 0, .ref q1, .ref q2, .int 0, .null, .null, .null, .null, .null, .null, .int 0])), (q1, .inl (G 0, 48, .inl (fun _ => 0))), (q2, .inl (G 0, 8, .inl (fun _ => 0)))] 20 [(0, .ref a), (1, .int (Int32.ofNat nd)), (2, .ref ro), (3, .ref ru)] []
  refine j_aload_n C dX7_init_20 0 rfl ?_
  refine j_sipush C dX7_init_21 (v := 180) (by decide) ?_
  refine j_newa C (t := 0) (ty := .int) dX7_init_24 rfl rfl (fun _ _ h => h) w_70 (a0 := (180, .inl (fun _ => 0))) (N' := 180) (fun _ => rfl) (by decide) rfl (Nat.le_of_ble_eq_true rfl) (Nat.le_of_ble_eq_true rfl) (Nat.le_of_ble_eq_true rfl) (fun q3 => ?_)
  show K 3 236 [(a, .inr (7, [.int 0, .int 0, .ref q1, .ref q2, .int 0, .null, .null, .null, .null, .null, .null, .int 0])), (q1, .inl (G 0, 48, .inl (fun _ => 0))), (q2, .inl (G 0, 8, .inl (fun _ => 0))), (q3, .inl (G 0, 180, .inl (fun _ => 0)))] 26 [(0, .ref a), (1, .int (Int32.ofNat nd)), (2, .ref ro), (3, .ref ru)] [.ref q3, .ref a]
  refine j_putF C dX7_init_26 inX7 tyX7 tyX7_ok nmX7 rfl 0 rfl 7 (by decide) w_241 rfl rfl rfl rfl rfl rfl (Nat.le_of_ble_eq_true rfl) ?_
  show K 3 236 [(a, .inr (7, [.int 0, .int 0, .ref q1, .ref q2, .int 0, .null, .null, .ref q3, .null, .null, .null, .int 0])), (q1, .inl (G 0, 48, .inl (fun _ => 0))), (q2, .inl (G 0, 8, .inl (fun _ => 0))), (q3, .inl (G 0, 180, .inl (fun _ => 0)))] 29 [(0, .ref a), (1, .int (Int32.ofNat nd)), (2, .ref ro), (3, .ref ru)] []
  refine j_aload_n C dX7_init_29 0 rfl ?_
  refine j_sipush C dX7_init_30 (v := 384) (by decide) ?_
  refine j_newa C (t := 0) (ty := .int) dX7_init_33 rfl rfl (fun _ _ h => h) w_70 (a0 := (384, .inl (fun _ => 0))) (N' := 384) (fun _ => rfl) (by decide) rfl (Nat.le_of_ble_eq_true rfl) (Nat.le_of_ble_eq_true rfl) (Nat.le_of_ble_eq_true rfl) (fun q4 => ?_)
  show K 4 620 [(a, .inr (7, [.int 0, .int 0, .ref q1, .ref q2, .int 0, .null, .null, .ref q3, .null, .null, .null, .int 0])), (q1, .inl (G 0, 48, .inl (fun _ => 0))), (q2, .inl (G 0, 8, .inl (fun _ => 0))), (q3, .inl (G 0, 180, .inl (fun _ => 0))), (q4, .inl (G 0, 384, .inl (fun _ => 0)))] 35 [(0, .ref a), (1, .int (Int32.ofNat nd)), (2, .ref ro), (3, .ref ru)] [.ref q4, .ref a]
  refine j_putF C dX7_init_35 inX7 tyX7 tyX7_ok nmX7 rfl 0 rfl 8 (by decide) w_242 rfl rfl rfl rfl rfl rfl (Nat.le_of_ble_eq_true rfl) ?_
  show K 4 620 [(a, .inr (7, [.int 0, .int 0, .ref q1, .ref q2, .int 0, .null, .null, .ref q3, .ref q4, .null, .null, .int 0])), (q1, .inl (G 0, 48, .inl (fun _ => 0))), (q2, .inl (G 0, 8, .inl (fun _ => 0))), (q3, .inl (G 0, 180, .inl (fun _ => 0))), (q4, .inl (G 0, 384, .inl (fun _ => 0)))] 38 [(0, .ref a), (1, .int (Int32.ofNat nd)), (2, .ref ro), (3, .ref ru)] []
  refine j_aload_n C dX7_init_38 0 rfl ?_
  refine j_bipush C dX7_init_39 (v := 8) (by decide) ?_
  refine j_newa C (t := 0) (ty := .int) dX7_init_41 rfl rfl (fun _ _ h => h) w_70 (a0 := (8, .inl (fun _ => 0))) (N' := 8) (fun _ => rfl) (by decide) rfl (Nat.le_of_ble_eq_true rfl) (Nat.le_of_ble_eq_true rfl) (Nat.le_of_ble_eq_true rfl) (fun q5 => ?_)
  show K 5 628 [(a, .inr (7, [.int 0, .int 0, .ref q1, .ref q2, .int 0, .null, .null, .ref q3, .ref q4, .null, .null, .int 0])), (q1, .inl (G 0, 48, .inl (fun _ => 0))), (q2, .inl (G 0, 8, .inl (fun _ => 0))), (q3, .inl (G 0, 180, .inl (fun _ => 0))), (q4, .inl (G 0, 384, .inl (fun _ => 0))), (q5, .inl (G 0, 8, .inl (fun _ => 0)))] 43 [(0, .ref a), (1, .int (Int32.ofNat nd)), (2, .ref ro), (3, .ref ru)] [.ref q5, .ref a]
  refine j_putF C dX7_init_43 inX7 tyX7 tyX7_ok nmX7 rfl 0 rfl 9 (by decide) w_243 rfl rfl rfl rfl rfl rfl (Nat.le_of_ble_eq_true rfl) ?_
  show K 5 628 [(a, .inr (7, [.int 0, .int 0, .ref q1, .ref q2, .int 0, .null, .null, .ref q3, .ref q4, .ref q5, .null, .int 0])), (q1, .inl (G 0, 48, .inl (fun _ => 0))), (q2, .inl (G 0, 8, .inl (fun _ => 0))), (q3, .inl (G 0, 180, .inl (fun _ => 0))), (q4, .inl (G 0, 384, .inl (fun _ => 0))), (q5, .inl (G 0, 8, .inl (fun _ => 0)))] 46 [(0, .ref a), (1, .int (Int32.ofNat nd)), (2, .ref ro), (3, .ref ru)] []
  refine j_aload_n C dX7_init_46 0 rfl ?_
  refine j_bipush C dX7_init_47 (v := 8) (by decide) ?_
  refine j_newa C (t := 0) (ty := .int) dX7_init_49 rfl rfl (fun _ _ h => h) w_70 (a0 := (8, .inl (fun _ => 0))) (N' := 8) (fun _ => rfl) (by decide) rfl (Nat.le_of_ble_eq_true rfl) (Nat.le_of_ble_eq_true rfl) (Nat.le_of_ble_eq_true rfl) (fun q6 => ?_)
  show K 6 636 [(a, .inr (7, [.int 0, .int 0, .ref q1, .ref q2, .int 0, .null, .null, .ref q3, .ref q4, .ref q5, .null, .int 0])), (q1, .inl (G 0, 48, .inl (fun _ => 0))), (q2, .inl (G 0, 8, .inl (fun _ => 0))), (q3, .inl (G 0, 180, .inl (fun _ => 0))), (q4, .inl (G 0, 384, .inl (fun _ => 0))), (q5, .inl (G 0, 8, .inl (fun _ => 0))), (q6, .inl (G 0, 8, .inl (fun _ => 0)))] 51 [(0, .ref a), (1, .int (Int32.ofNat nd)), (2, .ref ro), (3, .ref ru)] [.ref q6, .ref a]
  refine j_putF C dX7_init_51 inX7 tyX7 tyX7_ok nmX7 rfl 0 rfl 10 (by decide) w_244 rfl rfl rfl rfl rfl rfl (Nat.le_of_ble_eq_true rfl) ?_
  show K 6 636 [(a, .inr (7, [.int 0, .int 0, .ref q1, .ref q2, .int 0, .null, .null, .ref q3, .ref q4, .ref q5, .ref q6, .int 0])), (q1, .inl (G 0, 48, .inl (fun _ => 0))), (q2, .inl (G 0, 8, .inl (fun _ => 0))), (q3, .inl (G 0, 180, .inl (fun _ => 0))), (q4, .inl (G 0, 384, .inl (fun _ => 0))), (q5, .inl (G 0, 8, .inl (fun _ => 0))), (q6, .inl (G 0, 8, .inl (fun _ => 0)))] 54 [(0, .ref a), (1, .int (Int32.ofNat nd)), (2, .ref ro), (3, .ref ru)] []
  refine j_aload_n C dX7_init_54 0 rfl ?_
  refine j_iload_n C dX7_init_55 1 rfl ?_
  refine j_putF C dX7_init_56 inX7 tyX7 tyX7_ok nmX7 rfl 0 rfl 4 (by decide) w_238 rfl rfl rfl rfl rfl rfl (Nat.le_of_ble_eq_true rfl) ?_
  show K 6 636 [(a, .inr (7, [.int 0, .int 0, .ref q1, .ref q2, .int (Int32.ofNat nd), .null, .null, .ref q3, .ref q4, .ref q5, .ref q6, .int 0])), (q1, .inl (G 0, 48, .inl (fun _ => 0))), (q2, .inl (G 0, 8, .inl (fun _ => 0))), (q3, .inl (G 0, 180, .inl (fun _ => 0))), (q4, .inl (G 0, 384, .inl (fun _ => 0))), (q5, .inl (G 0, 8, .inl (fun _ => 0))), (q6, .inl (G 0, 8, .inl (fun _ => 0)))] 59 [(0, .ref a), (1, .int (Int32.ofNat nd)), (2, .ref ro), (3, .ref ru)] []
  refine j_aload_n C dX7_init_59 0 rfl ?_
  refine j_aload_n C dX7_init_60 2 rfl ?_
  refine j_putF C dX7_init_61 inX7 tyX7 tyX7_ok nmX7 rfl 0 rfl 5 (by decide) w_239 rfl rfl rfl rfl rfl rfl (Nat.le_of_ble_eq_true rfl) ?_
  show K 6 636 [(a, .inr (7, [.int 0, .int 0, .ref q1, .ref q2, .int (Int32.ofNat nd), .ref ro, .null, .ref q3, .ref q4, .ref q5, .ref q6, .int 0])), (q1, .inl (G 0, 48, .inl (fun _ => 0))), (q2, .inl (G 0, 8, .inl (fun _ => 0))), (q3, .inl (G 0, 180, .inl (fun _ => 0))), (q4, .inl (G 0, 384, .inl (fun _ => 0))), (q5, .inl (G 0, 8, .inl (fun _ => 0))), (q6, .inl (G 0, 8, .inl (fun _ => 0)))] 64 [(0, .ref a), (1, .int (Int32.ofNat nd)), (2, .ref ro), (3, .ref ru)] []
  refine j_aload_n C dX7_init_64 0 rfl ?_
  refine j_aload_n C dX7_init_65 3 rfl ?_
  refine j_putF C dX7_init_66 inX7 tyX7 tyX7_ok nmX7 rfl 0 rfl 6 (by decide) w_240 rfl rfl rfl rfl rfl rfl (Nat.le_of_ble_eq_true rfl) ?_
  show K 6 636 [(a, .inr (7, [.int 0, .int 0, .ref q1, .ref q2, .int (Int32.ofNat nd), .ref ro, .ref ru, .ref q3, .ref q4, .ref q5, .ref q6, .int 0])), (q1, .inl (G 0, 48, .inl (fun _ => 0))), (q2, .inl (G 0, 8, .inl (fun _ => 0))), (q3, .inl (G 0, 180, .inl (fun _ => 0))), (q4, .inl (G 0, 384, .inl (fun _ => 0))), (q5, .inl (G 0, 8, .inl (fun _ => 0))), (q6, .inl (G 0, 8, .inl (fun _ => 0)))] 69 [(0, .ref a), (1, .int (Int32.ofNat nd)), (2, .ref ro), (3, .ref ru)] []
  exact j_vret C dX7_init_69 rfl (Nat.le_of_ble_eq_true rfl) (Nat.le_of_ble_eq_true rfl) ⟨rfl, q1, q2, q3, q4, q5, q6, rfl⟩
theorem dX1_init_0 : decode cX1_init 0 = .ok (.aload_n 0, 1) := by decide +kernel
theorem dX1_init_1 : decode cX1_init 1 = .ok (.invokespecial 3, 3) := by decide +kernel
theorem dX1_init_4 : decode cX1_init 4 = .ok (.aload_n 0, 1) := by decide +kernel
theorem dX1_init_5 : decode cX1_init 5 = .ok (.iconst (-1), 1) := by decide +kernel
theorem dX1_init_6 : decode cX1_init 6 = .ok (.putfield 9, 3) := by decide +kernel
theorem dX1_init_9 : decode cX1_init 9 = .ok (.aload_n 0, 1) := by decide +kernel
theorem dX1_init_10 : decode cX1_init 10 = .ok (.iconst (-1), 1) := by decide +kernel
theorem dX1_init_11 : decode cX1_init 11 = .ok (.putfield 15, 3) := by decide +kernel
theorem dX1_init_14 : decode cX1_init 14 = .ok (.aload_n 0, 1) := by decide +kernel
theorem dX1_init_15 : decode cX1_init 15 = .ok (.bipush 64, 2) := by decide +kernel
theorem dX1_init_17 : decode cX1_init 17 = .ok (.newarray .int, 2) := by decide +kernel
theorem dX1_init_19 : decode cX1_init 19 = .ok (.putfield 18, 3) := by decide +kernel
theorem dX1_init_22 : decode cX1_init 22 = .ok (.aload_n 0, 1) := by decide +kernel
theorem dX1_init_23 : decode cX1_init 23 = .ok (.aload_n 1, 1) := by decide +kernel
theorem dX1_init_24 : decode cX1_init 24 = .ok (.putfield 22, 3) := by decide +kernel
theorem dX1_init_27 : decode cX1_init 27 = .ok (.aload_n 0, 1) := by decide +kernel
theorem dX1_init_28 : decode cX1_init 28 = .ok (.aload_n 2, 1) := by decide +kernel
theorem dX1_init_29 : decode cX1_init 29 = .ok (.putfield 26, 3) := by decide +kernel
theorem dX1_init_32 : decode cX1_init 32 = .ok (.return_, 1) := by decide +kernel
def rm_X1_init : Room := { frames := 1, cells := 1, slots := 64, locals := 26 }
set_option maxHeartbeats 4000000 in
set_option maxRecDepth 100000 in
theorem ct_X1_init {l : Launch} {D : va_G} {G : Nat → ClassId} {KV : jV} {a : Nat} {ta : Nat} {tx : Nat} : jM l D G KV yX1_init cX1_init 3 none rm_X1_init [.ref a, .ref ta, .ref tx] [(a, .inr (1, [.int 0, .int 0, .null, .null, .null, .int 0, .int 0, .int 0, .int 0, .int 0]))] 1 64 (fun v u => v = none ∧ ∃ q1 : Nat, u = [(a, .inr (1, [.int (-1), .int (-1), .ref ta, .ref q1, .ref tx, .int 0, .int 0, .int 0, .int 0, .int 0])), (q1, .inl (G 0, 64, .inl (fun _ => 0)))]) := by
  refine jM.of (by decide) (Nat.le_of_ble_eq_true rfl) ?_
  intro K C
  refine j_aload_n C dX1_init_0 0 rfl ?_
  refine j_objInit C dX1_init_1 w_276 w_24 w_25 (Nat.le_of_ble_eq_true rfl) (Nat.le_of_ble_eq_true rfl) ?_
  refine j_aload_n C dX1_init_4 0 rfl ?_
  refine j_iconst C dX1_init_5 (v := (-1)) (by decide) ?_
  refine j_put C dX1_init_6 inX1 tyX1 tyX1_ok nmX1 rfl 0 rfl 0 (by decide) w_277 rfl rfl rfl rfl (Nat.le_of_ble_eq_true rfl) ?_
  show K 0 0 [(a, .inr (1, [.int (-1), .int 0, .null, .null, .null, .int 0, .int 0, .int 0, .int 0, .int 0]))] 9 [(0, .ref a), (1, .ref ta), (2, .ref tx)] []
  refine j_aload_n C dX1_init_9 0 rfl ?_
  refine j_iconst C dX1_init_10 (v := (-1)) (by decide) ?_
  refine j_put C dX1_init_11 inX1 tyX1 tyX1_ok nmX1 rfl 0 rfl 1 (by decide) w_279 rfl rfl rfl rfl (Nat.le_of_ble_eq_true rfl) ?_
  show K 0 0 [(a, .inr (1, [.int (-1), .int (-1), .null, .null, .null, .int 0, .int 0, .int 0, .int 0, .int 0]))] 14 [(0, .ref a), (1, .ref ta), (2, .ref tx)] []
  refine j_aload_n C dX1_init_14 0 rfl ?_
  refine j_bipush C dX1_init_15 (v := 64) (by decide) ?_
  refine j_newa C (t := 0) (ty := .int) dX1_init_17 rfl rfl (fun _ _ h => h) w_70 (a0 := (64, .inl (fun _ => 0))) (N' := 64) (fun _ => rfl) (by decide) rfl (Nat.le_of_ble_eq_true rfl) (Nat.le_of_ble_eq_true rfl) (Nat.le_of_ble_eq_true rfl) (fun q1 => ?_)
  show K 1 64 [(a, .inr (1, [.int (-1), .int (-1), .null, .null, .null, .int 0, .int 0, .int 0, .int 0, .int 0])), (q1, .inl (G 0, 64, .inl (fun _ => 0)))] 19 [(0, .ref a), (1, .ref ta), (2, .ref tx)] [.ref q1, .ref a]
  refine j_putF C dX1_init_19 inX1 tyX1 tyX1_ok nmX1 rfl 0 rfl 3 (by decide) w_282 rfl rfl rfl rfl rfl rfl (Nat.le_of_ble_eq_true rfl) ?_
  show K 1 64 [(a, .inr (1, [.int (-1), .int (-1), .null, .ref q1, .null, .int 0, .int 0, .int 0, .int 0, .int 0])), (q1, .inl (G 0, 64, .inl (fun _ => 0)))] 22 [(0, .ref a), (1, .ref ta), (2, .ref tx)] []
  refine j_aload_n C dX1_init_22 0 rfl ?_
  refine j_aload_n C dX1_init_23 1 rfl ?_
  refine j_putF C dX1_init_24 inX1 tyX1 tyX1_ok nmX1 rfl 0 rfl 2 (by decide) w_281 rfl rfl rfl rfl rfl rfl (Nat.le_of_ble_eq_true rfl) ?_
  show K 1 64 [(a, .inr (1, [.int (-1), .int (-1), .ref ta, .ref q1, .null, .int 0, .int 0, .int 0, .int 0, .int 0])), (q1, .inl (G 0, 64, .inl (fun _ => 0)))] 27 [(0, .ref a), (1, .ref ta), (2, .ref tx)] []
  refine j_aload_n C dX1_init_27 0 rfl ?_
  refine j_aload_n C dX1_init_28 2 rfl ?_
  refine j_put C dX1_init_29 inX1 tyX1 tyX1_ok nmX1 rfl 0 rfl 4 (by decide) w_283 rfl rfl rfl rfl (Nat.le_of_ble_eq_true rfl) ?_
  show K 1 64 [(a, .inr (1, [.int (-1), .int (-1), .ref ta, .ref q1, .ref tx, .int 0, .int 0, .int 0, .int 0, .int 0])), (q1, .inl (G 0, 64, .inl (fun _ => 0)))] 32 [(0, .ref a), (1, .ref ta), (2, .ref tx)] []
  exact j_vret C dX1_init_32 rfl (Nat.le_of_ble_eq_true rfl) (Nat.le_of_ble_eq_true rfl) ⟨rfl, q1, rfl⟩
theorem dX0_init_0 : decode cX0_init 0 = .ok (.aload_n 0, 1) := by decide +kernel
theorem dX0_init_1 : decode cX0_init 1 = .ok (.invokespecial 3, 3) := by decide +kernel
theorem dX0_init_4 : decode cX0_init 4 = .ok (.aload_n 0, 1) := by decide +kernel
theorem dX0_init_5 : decode cX0_init 5 = .ok (.bipush 8, 2) := by decide +kernel
theorem dX0_init_7 : decode cX0_init 7 = .ok (.newarray .int, 2) := by decide +kernel
theorem dX0_init_9 : decode cX0_init 9 = .ok (.putfield 9, 3) := by decide +kernel
theorem dX0_init_12 : decode cX0_init 12 = .ok (.aload_n 0, 1) := by decide +kernel
theorem dX0_init_13 : decode cX0_init 13 = .ok (.bipush 21, 2) := by decide +kernel
theorem dX0_init_15 : decode cX0_init 15 = .ok (.newarray .int, 2) := by decide +kernel
theorem dX0_init_17 : decode cX0_init 17 = .ok (.putfield 15, 3) := by decide +kernel
theorem dX0_init_20 : decode cX0_init 20 = .ok (.aload_n 0, 1) := by decide +kernel
theorem dX0_init_21 : decode cX0_init 21 = .ok (.iload_n 1, 1) := by decide +kernel
theorem dX0_init_22 : decode cX0_init 22 = .ok (.putfield 18, 3) := by decide +kernel
theorem dX0_init_25 : decode cX0_init 25 = .ok (.aload_n 0, 1) := by decide +kernel
theorem dX0_init_26 : decode cX0_init 26 = .ok (.aload_n 2, 1) := by decide +kernel
theorem dX0_init_27 : decode cX0_init 27 = .ok (.putfield 22, 3) := by decide +kernel
theorem dX0_init_30 : decode cX0_init 30 = .ok (.aload_n 0, 1) := by decide +kernel
theorem dX0_init_31 : decode cX0_init 31 = .ok (.aload_n 3, 1) := by decide +kernel
theorem dX0_init_32 : decode cX0_init 32 = .ok (.putfield 26, 3) := by decide +kernel
theorem dX0_init_35 : decode cX0_init 35 = .ok (.aload_n 0, 1) := by decide +kernel
theorem dX0_init_36 : decode cX0_init 36 = .ok (.aload 4, 2) := by decide +kernel
theorem dX0_init_38 : decode cX0_init 38 = .ok (.putfield 30, 3) := by decide +kernel
theorem dX0_init_41 : decode cX0_init 41 = .ok (.return_, 1) := by decide +kernel
def rm_X0_init : Room := { frames := 1, cells := 2, slots := 29, locals := 26 }
set_option maxHeartbeats 4000000 in
set_option maxRecDepth 100000 in
theorem ct_X0_init {l : Launch} {D : va_G} {G : Nat → ClassId} {KV : jV} {a : Nat} {ro : Nat} {ru : Nat} {wy : Nat} (nd : Nat) (hnd : nd ≤ 8) : jM l D G KV yX0_init cX0_init 5 none rm_X0_init [.ref a, .int (Int32.ofNat nd), .ref ro, .ref ru, .ref wy] [(a, .inr (0, [.null, .int 0, .null, .null, .null, .null, .int 0, .int 0]))] 2 29 (fun v u => v = none ∧ ∃ q1 q2 : Nat, u = [(a, .inr (0, [.ref q1, .int (Int32.ofNat nd), .ref ro, .ref ru, .ref wy, .ref q2, .int 0, .int 0])), (q1, .inl (G 0, 8, .inl (fun _ => 0))), (q2, .inl (G 0, 21, .inl (fun _ => 0)))]) := by
  refine jM.of (by decide) (Nat.le_of_ble_eq_true rfl) ?_
  intro K C
  refine j_aload_n C dX0_init_0 0 rfl ?_
  refine j_objInit C dX0_init_1 w_315 w_24 w_25 (Nat.le_of_ble_eq_true rfl) (Nat.le_of_ble_eq_true rfl) ?_
  refine j_aload_n C dX0_init_4 0 rfl ?_
  refine j_bipush C dX0_init_5 (v := 8) (by decide) ?_
  refine j_newa C (t := 0) (ty := .int) dX0_init_7 rfl rfl (fun _ _ h => h) w_70 (a0 := (8, .inl (fun _ => 0))) (N' := 8) (fun _ => rfl) (by decide) rfl (Nat.le_of_ble_eq_true rfl) (Nat.le_of_ble_eq_true rfl) (Nat.le_of_ble_eq_true rfl) (fun q1 => ?_)
  show K 1 8 [(a, .inr (0, [.null, .int 0, .null, .null, .null, .null, .int 0, .int 0])), (q1, .inl (G 0, 8, .inl (fun _ => 0)))] 9 [(0, .ref a), (1, .int (Int32.ofNat nd)), (2, .ref ro), (3, .ref ru), (4, .ref wy)] [.ref q1, .ref a]
  refine j_putF C dX0_init_9 inX0 tyX0 tyX0_ok nmX0 rfl 0 rfl 0 (by decide) w_316 rfl rfl rfl rfl rfl rfl (Nat.le_of_ble_eq_true rfl) ?_
  show K 1 8 [(a, .inr (0, [.ref q1, .int 0, .null, .null, .null, .null, .int 0, .int 0])), (q1, .inl (G 0, 8, .inl (fun _ => 0)))] 12 [(0, .ref a), (1, .int (Int32.ofNat nd)), (2, .ref ro), (3, .ref ru), (4, .ref wy)] []
  refine j_aload_n C dX0_init_12 0 rfl ?_
  refine j_bipush C dX0_init_13 (v := 21) (by decide) ?_
  refine j_newa C (t := 0) (ty := .int) dX0_init_15 rfl rfl (fun _ _ h => h) w_70 (a0 := (21, .inl (fun _ => 0))) (N' := 21) (fun _ => rfl) (by decide) rfl (Nat.le_of_ble_eq_true rfl) (Nat.le_of_ble_eq_true rfl) (Nat.le_of_ble_eq_true rfl) (fun q2 => ?_)
  show K 2 29 [(a, .inr (0, [.ref q1, .int 0, .null, .null, .null, .null, .int 0, .int 0])), (q1, .inl (G 0, 8, .inl (fun _ => 0))), (q2, .inl (G 0, 21, .inl (fun _ => 0)))] 17 [(0, .ref a), (1, .int (Int32.ofNat nd)), (2, .ref ro), (3, .ref ru), (4, .ref wy)] [.ref q2, .ref a]
  refine j_putF C dX0_init_17 inX0 tyX0 tyX0_ok nmX0 rfl 0 rfl 5 (by decide) w_322 rfl rfl rfl rfl rfl rfl (Nat.le_of_ble_eq_true rfl) ?_
  show K 2 29 [(a, .inr (0, [.ref q1, .int 0, .null, .null, .null, .ref q2, .int 0, .int 0])), (q1, .inl (G 0, 8, .inl (fun _ => 0))), (q2, .inl (G 0, 21, .inl (fun _ => 0)))] 20 [(0, .ref a), (1, .int (Int32.ofNat nd)), (2, .ref ro), (3, .ref ru), (4, .ref wy)] []
  refine j_aload_n C dX0_init_20 0 rfl ?_
  refine j_iload_n C dX0_init_21 1 rfl ?_
  refine j_putF C dX0_init_22 inX0 tyX0 tyX0_ok nmX0 rfl 0 rfl 1 (by decide) w_318 rfl rfl rfl rfl rfl rfl (Nat.le_of_ble_eq_true rfl) ?_
  show K 2 29 [(a, .inr (0, [.ref q1, .int (Int32.ofNat nd), .null, .null, .null, .ref q2, .int 0, .int 0])), (q1, .inl (G 0, 8, .inl (fun _ => 0))), (q2, .inl (G 0, 21, .inl (fun _ => 0)))] 25 [(0, .ref a), (1, .int (Int32.ofNat nd)), (2, .ref ro), (3, .ref ru), (4, .ref wy)] []
  refine j_aload_n C dX0_init_25 0 rfl ?_
  refine j_aload_n C dX0_init_26 2 rfl ?_
  refine j_putF C dX0_init_27 inX0 tyX0 tyX0_ok nmX0 rfl 0 rfl 2 (by decide) w_319 rfl rfl rfl rfl rfl rfl (Nat.le_of_ble_eq_true rfl) ?_
  show K 2 29 [(a, .inr (0, [.ref q1, .int (Int32.ofNat nd), .ref ro, .null, .null, .ref q2, .int 0, .int 0])), (q1, .inl (G 0, 8, .inl (fun _ => 0))), (q2, .inl (G 0, 21, .inl (fun _ => 0)))] 30 [(0, .ref a), (1, .int (Int32.ofNat nd)), (2, .ref ro), (3, .ref ru), (4, .ref wy)] []
  refine j_aload_n C dX0_init_30 0 rfl ?_
  refine j_aload_n C dX0_init_31 3 rfl ?_
  refine j_putF C dX0_init_32 inX0 tyX0 tyX0_ok nmX0 rfl 0 rfl 3 (by decide) w_320 rfl rfl rfl rfl rfl rfl (Nat.le_of_ble_eq_true rfl) ?_
  show K 2 29 [(a, .inr (0, [.ref q1, .int (Int32.ofNat nd), .ref ro, .ref ru, .null, .ref q2, .int 0, .int 0])), (q1, .inl (G 0, 8, .inl (fun _ => 0))), (q2, .inl (G 0, 21, .inl (fun _ => 0)))] 35 [(0, .ref a), (1, .int (Int32.ofNat nd)), (2, .ref ro), (3, .ref ru), (4, .ref wy)] []
  refine j_aload_n C dX0_init_35 0 rfl ?_
  refine j_aload C dX0_init_36 4 rfl ?_
  refine j_putF C dX0_init_38 inX0 tyX0 tyX0_ok nmX0 rfl 0 rfl 4 (by decide) w_321 rfl rfl rfl rfl rfl rfl (Nat.le_of_ble_eq_true rfl) ?_
  show K 2 29 [(a, .inr (0, [.ref q1, .int (Int32.ofNat nd), .ref ro, .ref ru, .ref wy, .ref q2, .int 0, .int 0])), (q1, .inl (G 0, 8, .inl (fun _ => 0))), (q2, .inl (G 0, 21, .inl (fun _ => 0)))] 41 [(0, .ref a), (1, .int (Int32.ofNat nd)), (2, .ref ro), (3, .ref ru), (4, .ref wy)] []
  exact j_vret C dX0_init_41 rfl (Nat.le_of_ble_eq_true rfl) (Nat.le_of_ble_eq_true rfl) ⟨rfl, q1, q2, rfl⟩
