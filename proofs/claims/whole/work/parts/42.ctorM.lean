theorem dX9_init_0 : decode cX9_init 0 = .ok (.aload_n 0, 1) := by decide +kernel
theorem dX9_init_1 : decode cX9_init 1 = .ok (.invokespecial 1, 3) := by decide +kernel
theorem dX9_init_4 : decode cX9_init 4 = .ok (.aload_n 0, 1) := by decide +kernel
theorem dX9_init_5 : decode cX9_init 5 = .ok (.sipush 324, 3) := by decide +kernel
theorem dX9_init_8 : decode cX9_init 8 = .ok (.newarray .int, 2) := by decide +kernel
theorem dX9_init_10 : decode cX9_init 10 = .ok (.putfield 7, 3) := by decide +kernel
theorem dX9_init_13 : decode cX9_init 13 = .ok (.aload_n 0, 1) := by decide +kernel
theorem dX9_init_14 : decode cX9_init 14 = .ok (.sipush 324, 3) := by decide +kernel
theorem dX9_init_17 : decode cX9_init 17 = .ok (.newarray .int, 2) := by decide +kernel
theorem dX9_init_19 : decode cX9_init 19 = .ok (.putfield 13, 3) := by decide +kernel
theorem dX9_init_22 : decode cX9_init 22 = .ok (.aload_n 0, 1) := by decide +kernel
theorem dX9_init_23 : decode cX9_init 23 = .ok (.sipush 2720, 3) := by decide +kernel
theorem dX9_init_26 : decode cX9_init 26 = .ok (.newarray .int, 2) := by decide +kernel
theorem dX9_init_28 : decode cX9_init 28 = .ok (.putfield 16, 3) := by decide +kernel
theorem dX9_init_31 : decode cX9_init 31 = .ok (.aload_n 0, 1) := by decide +kernel
theorem dX9_init_32 : decode cX9_init 32 = .ok (.sipush 300, 3) := by decide +kernel
theorem dX9_init_35 : decode cX9_init 35 = .ok (.newarray .int, 2) := by decide +kernel
theorem dX9_init_37 : decode cX9_init 37 = .ok (.putfield 19, 3) := by decide +kernel
theorem dX9_init_40 : decode cX9_init 40 = .ok (.aload_n 0, 1) := by decide +kernel
theorem dX9_init_41 : decode cX9_init 41 = .ok (.iconst (-1), 1) := by decide +kernel
theorem dX9_init_42 : decode cX9_init 42 = .ok (.putfield 22, 3) := by decide +kernel
theorem dX9_init_45 : decode cX9_init 45 = .ok (.aload_n 0, 1) := by decide +kernel
theorem dX9_init_46 : decode cX9_init 46 = .ok (.iconst (-1), 1) := by decide +kernel
theorem dX9_init_47 : decode cX9_init 47 = .ok (.putfield 26, 3) := by decide +kernel
theorem dX9_init_50 : decode cX9_init 50 = .ok (.aload_n 0, 1) := by decide +kernel
theorem dX9_init_51 : decode cX9_init 51 = .ok (.sipush 160, 3) := by decide +kernel
theorem dX9_init_54 : decode cX9_init 54 = .ok (.newarray .int, 2) := by decide +kernel
theorem dX9_init_56 : decode cX9_init 56 = .ok (.putfield 29, 3) := by decide +kernel
theorem dX9_init_59 : decode cX9_init 59 = .ok (.aload_n 0, 1) := by decide +kernel
theorem dX9_init_60 : decode cX9_init 60 = .ok (.bipush 8, 2) := by decide +kernel
theorem dX9_init_62 : decode cX9_init 62 = .ok (.newarray .int, 2) := by decide +kernel
theorem dX9_init_64 : decode cX9_init 64 = .ok (.putfield 32, 3) := by decide +kernel
theorem dX9_init_67 : decode cX9_init 67 = .ok (.aload_n 0, 1) := by decide +kernel
theorem dX9_init_68 : decode cX9_init 68 = .ok (.sipush 330, 3) := by decide +kernel
theorem dX9_init_71 : decode cX9_init 71 = .ok (.newarray .long, 2) := by decide +kernel
theorem dX9_init_73 : decode cX9_init 73 = .ok (.putfield 35, 3) := by decide +kernel
theorem dX9_init_76 : decode cX9_init 76 = .ok (.aload_n 0, 1) := by decide +kernel
theorem dX9_init_77 : decode cX9_init 77 = .ok (.sipush 330, 3) := by decide +kernel
theorem dX9_init_80 : decode cX9_init 80 = .ok (.newarray .boolean, 2) := by decide +kernel
theorem dX9_init_82 : decode cX9_init 82 = .ok (.putfield 39, 3) := by decide +kernel
theorem dX9_init_85 : decode cX9_init 85 = .ok (.aload_n 0, 1) := by decide +kernel
theorem dX9_init_86 : decode cX9_init 86 = .ok (.bipush 28, 2) := by decide +kernel
theorem dX9_init_88 : decode cX9_init 88 = .ok (.newarray .int, 2) := by decide +kernel
theorem dX9_init_90 : decode cX9_init 90 = .ok (.putfield 43, 3) := by decide +kernel
theorem dX9_init_93 : decode cX9_init 93 = .ok (.aload_n 0, 1) := by decide +kernel
theorem dX9_init_94 : decode cX9_init 94 = .ok (.bipush 8, 2) := by decide +kernel
theorem dX9_init_96 : decode cX9_init 96 = .ok (.newarray .int, 2) := by decide +kernel
theorem dX9_init_98 : decode cX9_init 98 = .ok (.putfield 46, 3) := by decide +kernel
theorem dX9_init_101 : decode cX9_init 101 = .ok (.aload_n 0, 1) := by decide +kernel
theorem dX9_init_102 : decode cX9_init 102 = .ok (.ldc 49, 2) := by decide +kernel
theorem dX9_init_104 : decode cX9_init 104 = .ok (.newarray .int, 2) := by decide +kernel
theorem dX9_init_106 : decode cX9_init 106 = .ok (.putfield 50, 3) := by decide +kernel
theorem dX9_init_109 : decode cX9_init 109 = .ok (.aload_n 0, 1) := by decide +kernel
theorem dX9_init_110 : decode cX9_init 110 = .ok (.sipush 4410, 3) := by decide +kernel
theorem dX9_init_113 : decode cX9_init 113 = .ok (.newarray .int, 2) := by decide +kernel
theorem dX9_init_115 : decode cX9_init 115 = .ok (.putfield 53, 3) := by decide +kernel
theorem dX9_init_118 : decode cX9_init 118 = .ok (.aload_n 0, 1) := by decide +kernel
theorem dX9_init_119 : decode cX9_init 119 = .ok (.bipush 48, 2) := by decide +kernel
theorem dX9_init_121 : decode cX9_init 121 = .ok (.newarray .int, 2) := by decide +kernel
theorem dX9_init_123 : decode cX9_init 123 = .ok (.putfield 56, 3) := by decide +kernel
theorem dX9_init_126 : decode cX9_init 126 = .ok (.aload_n 0, 1) := by decide +kernel
theorem dX9_init_127 : decode cX9_init 127 = .ok (.bipush 48, 2) := by decide +kernel
theorem dX9_init_129 : decode cX9_init 129 = .ok (.newarray .int, 2) := by decide +kernel
theorem dX9_init_131 : decode cX9_init 131 = .ok (.putfield 59, 3) := by decide +kernel
theorem dX9_init_134 : decode cX9_init 134 = .ok (.aload_n 0, 1) := by decide +kernel
theorem dX9_init_135 : decode cX9_init 135 = .ok (.iload_n 1, 1) := by decide +kernel
theorem dX9_init_136 : decode cX9_init 136 = .ok (.iconst 1, 1) := by decide +kernel
theorem dX9_init_137 : decode cX9_init 137 = .ok (.if_icmp .ge 7, 3) := by decide +kernel
theorem dX9_init_140 : decode cX9_init 140 = .ok (.iconst 1, 1) := by decide +kernel
theorem dX9_init_141 : decode cX9_init 141 = .ok (.goto 15, 3) := by decide +kernel
theorem dX9_init_144 : decode cX9_init 144 = .ok (.iload_n 1, 1) := by decide +kernel
theorem dX9_init_145 : decode cX9_init 145 = .ok (.bipush 8, 2) := by decide +kernel
theorem dX9_init_147 : decode cX9_init 147 = .ok (.if_icmp .le 8, 3) := by decide +kernel
theorem dX9_init_150 : decode cX9_init 150 = .ok (.bipush 8, 2) := by decide +kernel
theorem dX9_init_152 : decode cX9_init 152 = .ok (.goto 4, 3) := by decide +kernel
theorem dX9_init_155 : decode cX9_init 155 = .ok (.iload_n 1, 1) := by decide +kernel
theorem dX9_init_156 : decode cX9_init 156 = .ok (.putfield 62, 3) := by decide +kernel
theorem dX9_init_159 : decode cX9_init 159 = .ok (.iconst 0, 1) := by decide +kernel
theorem dX9_init_160 : decode cX9_init 160 = .ok (.istore_n 2, 1) := by decide +kernel
theorem dX9_init_161 : decode cX9_init 161 = .ok (.iload_n 2, 1) := by decide +kernel
theorem dX9_init_162 : decode cX9_init 162 = .ok (.bipush 8, 2) := by decide +kernel
theorem dX9_init_164 : decode cX9_init 164 = .ok (.if_icmp .ge 29, 3) := by decide +kernel
theorem dX9_init_167 : decode cX9_init 167 = .ok (.aload_n 0, 1) := by decide +kernel
theorem dX9_init_168 : decode cX9_init 168 = .ok (.getfield 7, 3) := by decide +kernel
theorem dX9_init_171 : decode cX9_init 171 = .ok (.bipush 20, 2) := by decide +kernel
theorem dX9_init_173 : decode cX9_init 173 = .ok (.iload_n 2, 1) := by decide +kernel
theorem dX9_init_174 : decode cX9_init 174 = .ok (.iadd, 1) := by decide +kernel
theorem dX9_init_175 : decode cX9_init 175 = .ok (.iconst 1, 1) := by decide +kernel
theorem dX9_init_176 : decode cX9_init 176 = .ok (.iastore, 1) := by decide +kernel
theorem dX9_init_177 : decode cX9_init 177 = .ok (.aload_n 0, 1) := by decide +kernel
theorem dX9_init_178 : decode cX9_init 178 = .ok (.getfield 7, 3) := by decide +kernel
theorem dX9_init_181 : decode cX9_init 181 = .ok (.bipush 28, 2) := by decide +kernel
theorem dX9_init_183 : decode cX9_init 183 = .ok (.iload_n 2, 1) := by decide +kernel
theorem dX9_init_184 : decode cX9_init 184 = .ok (.iadd, 1) := by decide +kernel
theorem dX9_init_185 : decode cX9_init 185 = .ok (.iconst (-1), 1) := by decide +kernel
theorem dX9_init_186 : decode cX9_init 186 = .ok (.iastore, 1) := by decide +kernel
theorem dX9_init_187 : decode cX9_init 187 = .ok (.iinc 2 1, 3) := by decide +kernel
theorem dX9_init_190 : decode cX9_init 190 = .ok (.goto (-29), 3) := by decide +kernel
theorem dX9_init_193 : decode cX9_init 193 = .ok (.aload_n 0, 1) := by decide +kernel
theorem dX9_init_194 : decode cX9_init 194 = .ok (.getfield 7, 3) := by decide +kernel
theorem dX9_init_197 : decode cX9_init 197 = .ok (.aload_n 0, 1) := by decide +kernel
theorem dX9_init_198 : decode cX9_init 198 = .ok (.getfield 13, 3) := by decide +kernel
theorem dX9_init_201 : decode cX9_init 201 = .ok (.invokestatic 65, 3) := by decide +kernel
theorem dX9_init_204 : decode cX9_init 204 = .ok (.return_, 1) := by decide +kernel
def rm_X9_init : Room := { frames := 2, cells := 14, slots := 385358, locals := 60 }
set_option maxHeartbeats 8000000 in
set_option maxRecDepth 100000 in
theorem ct_X9_init {l : Launch} {D : va_G} {G : Nat → ClassId} {KV : jV} {a : Nat} (n : Nat) (v1 : Int32) {p : jS} (h : F_X9_copy_1_2 n (sM0 (jnd v1)) = some p) : jM l D G KV yX9_init cX9_init 3 none rm_X9_init [.ref a, .int v1] [(a, .inr (9, [.null, .null, .int 0, .null, .null, .int 0, .int 0, .int 0, .int 0, .int 0, .int 0, .int 0, .long 0, .int 0, .int 0, .int 0, .int 0, .null, .int 0, .int 0, .int 0, .int 0, .null, .null, .null, .null, .null, .null, .null, .null, .null, .int 0]))] 14 385358 (fun v u => v = none ∧ ∃ ad : Nat → Nat, ad 0 = a ∧ u = jw 15 (cellM G) ad p) := by
  refine jM.of (by decide) (Nat.le_of_ble_eq_true rfl) ?_
  intro K C
  refine j_aload_n C dX9_init_0 0 rfl ?_
  refine j_objInit C dX9_init_1 w_918 w_24 w_25 (Nat.le_of_ble_eq_true rfl) (Nat.le_of_ble_eq_true rfl) ?_
  refine j_aload_n C dX9_init_4 0 rfl ?_
  refine j_sipush C dX9_init_5 (v := 324) (by decide) ?_
  refine j_newa C (t := 0) (ty := .int) dX9_init_8 rfl rfl (fun _ _ h => h) w_70 (a0 := (324, .inl (fun _ => 0))) (N' := 324) (fun _ => rfl) (by decide) rfl (Nat.le_of_ble_eq_true rfl) (Nat.le_of_ble_eq_true rfl) (Nat.le_of_ble_eq_true rfl) (fun q1 => ?_)
  show K 1 324 [(a, .inr (9, [.null, .null, .int 0, .null, .null, .int 0, .int 0, .int 0, .int 0, .int 0, .int 0, .int 0, .long 0, .int 0, .int 0, .int 0, .int 0, .null, .int 0, .int 0, .int 0, .int 0, .null, .null, .null, .null, .null, .null, .null, .null, .null, .int 0])), (q1, .inl (G 0, 324, .inl (fun _ => 0)))] 10 [(0, .ref a), (1, .int v1)] [.ref q1, .ref a]
  refine j_putF C dX9_init_10 inX9 tyX9 tyX9_ok nmX9 rfl 0 rfl 0 (by decide) w_923 rfl rfl rfl rfl rfl rfl (Nat.le_of_ble_eq_true rfl) ?_
  show K 1 324 [(a, .inr (9, [.ref q1, .null, .int 0, .null, .null, .int 0, .int 0, .int 0, .int 0, .int 0, .int 0, .int 0, .long 0, .int 0, .int 0, .int 0, .int 0, .null, .int 0, .int 0, .int 0, .int 0, .null, .null, .null, .null, .null, .null, .null, .null, .null, .int 0])), (q1, .inl (G 0, 324, .inl (fun _ => 0)))] 13 [(0, .ref a), (1, .int v1)] []
  refine j_aload_n C dX9_init_13 0 rfl ?_
  refine j_sipush C dX9_init_14 (v := 324) (by decide) ?_
  refine j_newa C (t := 0) (ty := .int) dX9_init_17 rfl rfl (fun _ _ h => h) w_70 (a0 := (324, .inl (fun _ => 0))) (N' := 324) (fun _ => rfl) (by decide) rfl (Nat.le_of_ble_eq_true rfl) (Nat.le_of_ble_eq_true rfl) (Nat.le_of_ble_eq_true rfl) (fun q2 => ?_)
  show K 2 648 [(a, .inr (9, [.ref q1, .null, .int 0, .null, .null, .int 0, .int 0, .int 0, .int 0, .int 0, .int 0, .int 0, .long 0, .int 0, .int 0, .int 0, .int 0, .null, .int 0, .int 0, .int 0, .int 0, .null, .null, .null, .null, .null, .null, .null, .null, .null, .int 0])), (q1, .inl (G 0, 324, .inl (fun _ => 0))), (q2, .inl (G 0, 324, .inl (fun _ => 0)))] 19 [(0, .ref a), (1, .int v1)] [.ref q2, .ref a]
  refine j_putF C dX9_init_19 inX9 tyX9 tyX9_ok nmX9 rfl 0 rfl 1 (by decide) w_924 rfl rfl rfl rfl rfl rfl (Nat.le_of_ble_eq_true rfl) ?_
  show K 2 648 [(a, .inr (9, [.ref q1, .ref q2, .int 0, .null, .null, .int 0, .int 0, .int 0, .int 0, .int 0, .int 0, .int 0, .long 0, .int 0, .int 0, .int 0, .int 0, .null, .int 0, .int 0, .int 0, .int 0, .null, .null, .null, .null, .null, .null, .null, .null, .null, .int 0])), (q1, .inl (G 0, 324, .inl (fun _ => 0))), (q2, .inl (G 0, 324, .inl (fun _ => 0)))] 22 [(0, .ref a), (1, .int v1)] []
  refine j_aload_n C dX9_init_22 0 rfl ?_
  refine j_sipush C dX9_init_23 (v := 2720) (by decide) ?_
  refine j_newa C (t := 0) (ty := .int) dX9_init_26 rfl rfl (fun _ _ h => h) w_70 (a0 := (2720, .inl (fun _ => 0))) (N' := 2720) (fun _ => rfl) (by decide) rfl (Nat.le_of_ble_eq_true rfl) (Nat.le_of_ble_eq_true rfl) (Nat.le_of_ble_eq_true rfl) (fun q3 => ?_)
  show K 3 3368 [(a, .inr (9, [.ref q1, .ref q2, .int 0, .null, .null, .int 0, .int 0, .int 0, .int 0, .int 0, .int 0, .int 0, .long 0, .int 0, .int 0, .int 0, .int 0, .null, .int 0, .int 0, .int 0, .int 0, .null, .null, .null, .null, .null, .null, .null, .null, .null, .int 0])), (q1, .inl (G 0, 324, .inl (fun _ => 0))), (q2, .inl (G 0, 324, .inl (fun _ => 0))), (q3, .inl (G 0, 2720, .inl (fun _ => 0)))] 28 [(0, .ref a), (1, .int v1)] [.ref q3, .ref a]
  refine j_putF C dX9_init_28 inX9 tyX9 tyX9_ok nmX9 rfl 0 rfl 3 (by decide) w_926 rfl rfl rfl rfl rfl rfl (Nat.le_of_ble_eq_true rfl) ?_
  show K 3 3368 [(a, .inr (9, [.ref q1, .ref q2, .int 0, .ref q3, .null, .int 0, .int 0, .int 0, .int 0, .int 0, .int 0, .int 0, .long 0, .int 0, .int 0, .int 0, .int 0, .null, .int 0, .int 0, .int 0, .int 0, .null, .null, .null, .null, .null, .null, .null, .null, .null, .int 0])), (q1, .inl (G 0, 324, .inl (fun _ => 0))), (q2, .inl (G 0, 324, .inl (fun _ => 0))), (q3, .inl (G 0, 2720, .inl (fun _ => 0)))] 31 [(0, .ref a), (1, .int v1)] []
  refine j_aload_n C dX9_init_31 0 rfl ?_
  refine j_sipush C dX9_init_32 (v := 300) (by decide) ?_
  refine j_newa C (t := 0) (ty := .int) dX9_init_35 rfl rfl (fun _ _ h => h) w_70 (a0 := (300, .inl (fun _ => 0))) (N' := 300) (fun _ => rfl) (by decide) rfl (Nat.le_of_ble_eq_true rfl) (Nat.le_of_ble_eq_true rfl) (Nat.le_of_ble_eq_true rfl) (fun q4 => ?_)
  show K 4 3668 [(a, .inr (9, [.ref q1, .ref q2, .int 0, .ref q3, .null, .int 0, .int 0, .int 0, .int 0, .int 0, .int 0, .int 0, .long 0, .int 0, .int 0, .int 0, .int 0, .null, .int 0, .int 0, .int 0, .int 0, .null, .null, .null, .null, .null, .null, .null, .null, .null, .int 0])), (q1, .inl (G 0, 324, .inl (fun _ => 0))), (q2, .inl (G 0, 324, .inl (fun _ => 0))), (q3, .inl (G 0, 2720, .inl (fun _ => 0))), (q4, .inl (G 0, 300, .inl (fun _ => 0)))] 37 [(0, .ref a), (1, .int v1)] [.ref q4, .ref a]
  refine j_putF C dX9_init_37 inX9 tyX9 tyX9_ok nmX9 rfl 0 rfl 4 (by decide) w_927 rfl rfl rfl rfl rfl rfl (Nat.le_of_ble_eq_true rfl) ?_
  show K 4 3668 [(a, .inr (9, [.ref q1, .ref q2, .int 0, .ref q3, .ref q4, .int 0, .int 0, .int 0, .int 0, .int 0, .int 0, .int 0, .long 0, .int 0, .int 0, .int 0, .int 0, .null, .int 0, .int 0, .int 0, .int 0, .null, .null, .null, .null, .null, .null, .null, .null, .null, .int 0])), (q1, .inl (G 0, 324, .inl (fun _ => 0))), (q2, .inl (G 0, 324, .inl (fun _ => 0))), (q3, .inl (G 0, 2720, .inl (fun _ => 0))), (q4, .inl (G 0, 300, .inl (fun _ => 0)))] 40 [(0, .ref a), (1, .int v1)] []
  refine j_aload_n C dX9_init_40 0 rfl ?_
  refine j_iconst C dX9_init_41 (v := (-1)) (by decide) ?_
  refine j_put C dX9_init_42 inX9 tyX9 tyX9_ok nmX9 rfl 0 rfl 6 (by decide) w_929 rfl rfl rfl rfl (Nat.le_of_ble_eq_true rfl) ?_
  show K 4 3668 [(a, .inr (9, [.ref q1, .ref q2, .int 0, .ref q3, .ref q4, .int 0, .int (-1), .int 0, .int 0, .int 0, .int 0, .int 0, .long 0, .int 0, .int 0, .int 0, .int 0, .null, .int 0, .int 0, .int 0, .int 0, .null, .null, .null, .null, .null, .null, .null, .null, .null, .int 0])), (q1, .inl (G 0, 324, .inl (fun _ => 0))), (q2, .inl (G 0, 324, .inl (fun _ => 0))), (q3, .inl (G 0, 2720, .inl (fun _ => 0))), (q4, .inl (G 0, 300, .inl (fun _ => 0)))] 45 [(0, .ref a), (1, .int v1)] []
  refine j_aload_n C dX9_init_45 0 rfl ?_
  refine j_iconst C dX9_init_46 (v := (-1)) (by decide) ?_
  refine j_put C dX9_init_47 inX9 tyX9 tyX9_ok nmX9 rfl 0 rfl 7 (by decide) w_930 rfl rfl rfl rfl (Nat.le_of_ble_eq_true rfl) ?_
  show K 4 3668 [(a, .inr (9, [.ref q1, .ref q2, .int 0, .ref q3, .ref q4, .int 0, .int (-1), .int (-1), .int 0, .int 0, .int 0, .int 0, .long 0, .int 0, .int 0, .int 0, .int 0, .null, .int 0, .int 0, .int 0, .int 0, .null, .null, .null, .null, .null, .null, .null, .null, .null, .int 0])), (q1, .inl (G 0, 324, .inl (fun _ => 0))), (q2, .inl (G 0, 324, .inl (fun _ => 0))), (q3, .inl (G 0, 2720, .inl (fun _ => 0))), (q4, .inl (G 0, 300, .inl (fun _ => 0)))] 50 [(0, .ref a), (1, .int v1)] []
  refine j_aload_n C dX9_init_50 0 rfl ?_
  refine j_sipush C dX9_init_51 (v := 160) (by decide) ?_
  refine j_newa C (t := 0) (ty := .int) dX9_init_54 rfl rfl (fun _ _ h => h) w_70 (a0 := (160, .inl (fun _ => 0))) (N' := 160) (fun _ => rfl) (by decide) rfl (Nat.le_of_ble_eq_true rfl) (Nat.le_of_ble_eq_true rfl) (Nat.le_of_ble_eq_true rfl) (fun q5 => ?_)
  show K 5 3828 [(a, .inr (9, [.ref q1, .ref q2, .int 0, .ref q3, .ref q4, .int 0, .int (-1), .int (-1), .int 0, .int 0, .int 0, .int 0, .long 0, .int 0, .int 0, .int 0, .int 0, .null, .int 0, .int 0, .int 0, .int 0, .null, .null, .null, .null, .null, .null, .null, .null, .null, .int 0])), (q1, .inl (G 0, 324, .inl (fun _ => 0))), (q2, .inl (G 0, 324, .inl (fun _ => 0))), (q3, .inl (G 0, 2720, .inl (fun _ => 0))), (q4, .inl (G 0, 300, .inl (fun _ => 0))), (q5, .inl (G 0, 160, .inl (fun _ => 0)))] 56 [(0, .ref a), (1, .int v1)] [.ref q5, .ref a]
  refine j_putF C dX9_init_56 inX9 tyX9 tyX9_ok nmX9 rfl 0 rfl 17 (by decide) w_938 rfl rfl rfl rfl rfl rfl (Nat.le_of_ble_eq_true rfl) ?_
  show K 5 3828 [(a, .inr (9, [.ref q1, .ref q2, .int 0, .ref q3, .ref q4, .int 0, .int (-1), .int (-1), .int 0, .int 0, .int 0, .int 0, .long 0, .int 0, .int 0, .int 0, .int 0, .ref q5, .int 0, .int 0, .int 0, .int 0, .null, .null, .null, .null, .null, .null, .null, .null, .null, .int 0])), (q1, .inl (G 0, 324, .inl (fun _ => 0))), (q2, .inl (G 0, 324, .inl (fun _ => 0))), (q3, .inl (G 0, 2720, .inl (fun _ => 0))), (q4, .inl (G 0, 300, .inl (fun _ => 0))), (q5, .inl (G 0, 160, .inl (fun _ => 0)))] 59 [(0, .ref a), (1, .int v1)] []
  refine j_aload_n C dX9_init_59 0 rfl ?_
  refine j_bipush C dX9_init_60 (v := 8) (by decide) ?_
  refine j_newa C (t := 0) (ty := .int) dX9_init_62 rfl rfl (fun _ _ h => h) w_70 (a0 := (8, .inl (fun _ => 0))) (N' := 8) (fun _ => rfl) (by decide) rfl (Nat.le_of_ble_eq_true rfl) (Nat.le_of_ble_eq_true rfl) (Nat.le_of_ble_eq_true rfl) (fun q6 => ?_)
  show K 6 3836 [(a, .inr (9, [.ref q1, .ref q2, .int 0, .ref q3, .ref q4, .int 0, .int (-1), .int (-1), .int 0, .int 0, .int 0, .int 0, .long 0, .int 0, .int 0, .int 0, .int 0, .ref q5, .int 0, .int 0, .int 0, .int 0, .null, .null, .null, .null, .null, .null, .null, .null, .null, .int 0])), (q1, .inl (G 0, 324, .inl (fun _ => 0))), (q2, .inl (G 0, 324, .inl (fun _ => 0))), (q3, .inl (G 0, 2720, .inl (fun _ => 0))), (q4, .inl (G 0, 300, .inl (fun _ => 0))), (q5, .inl (G 0, 160, .inl (fun _ => 0))), (q6, .inl (G 0, 8, .inl (fun _ => 0)))] 64 [(0, .ref a), (1, .int v1)] [.ref q6, .ref a]
  refine j_putF C dX9_init_64 inX9 tyX9 tyX9_ok nmX9 rfl 0 rfl 22 (by decide) w_943 rfl rfl rfl rfl rfl rfl (Nat.le_of_ble_eq_true rfl) ?_
  show K 6 3836 [(a, .inr (9, [.ref q1, .ref q2, .int 0, .ref q3, .ref q4, .int 0, .int (-1), .int (-1), .int 0, .int 0, .int 0, .int 0, .long 0, .int 0, .int 0, .int 0, .int 0, .ref q5, .int 0, .int 0, .int 0, .int 0, .ref q6, .null, .null, .null, .null, .null, .null, .null, .null, .int 0])), (q1, .inl (G 0, 324, .inl (fun _ => 0))), (q2, .inl (G 0, 324, .inl (fun _ => 0))), (q3, .inl (G 0, 2720, .inl (fun _ => 0))), (q4, .inl (G 0, 300, .inl (fun _ => 0))), (q5, .inl (G 0, 160, .inl (fun _ => 0))), (q6, .inl (G 0, 8, .inl (fun _ => 0)))] 67 [(0, .ref a), (1, .int v1)] []
  refine j_aload_n C dX9_init_67 0 rfl ?_
  refine j_sipush C dX9_init_68 (v := 330) (by decide) ?_
  refine j_newa C (t := 1) (ty := .long) dX9_init_71 rfl rfl (fun _ _ h => h) w_223 (a0 := (330, .inr (.inl (fun _ => 0)))) (N' := 330) (fun _ => rfl) (by decide) rfl (Nat.le_of_ble_eq_true rfl) (Nat.le_of_ble_eq_true rfl) (Nat.le_of_ble_eq_true rfl) (fun q7 => ?_)
  show K 7 4166 [(a, .inr (9, [.ref q1, .ref q2, .int 0, .ref q3, .ref q4, .int 0, .int (-1), .int (-1), .int 0, .int 0, .int 0, .int 0, .long 0, .int 0, .int 0, .int 0, .int 0, .ref q5, .int 0, .int 0, .int 0, .int 0, .ref q6, .null, .null, .null, .null, .null, .null, .null, .null, .int 0])), (q1, .inl (G 0, 324, .inl (fun _ => 0))), (q2, .inl (G 0, 324, .inl (fun _ => 0))), (q3, .inl (G 0, 2720, .inl (fun _ => 0))), (q4, .inl (G 0, 300, .inl (fun _ => 0))), (q5, .inl (G 0, 160, .inl (fun _ => 0))), (q6, .inl (G 0, 8, .inl (fun _ => 0))), (q7, .inl (G 1, 330, .inr (.inl (fun _ => 0))))] 73 [(0, .ref a), (1, .int v1)] [.ref q7, .ref a]
  refine j_putF C dX9_init_73 inX9 tyX9 tyX9_ok nmX9 rfl 0 rfl 23 (by decide) w_944 rfl rfl rfl rfl rfl rfl (Nat.le_of_ble_eq_true rfl) ?_
  show K 7 4166 [(a, .inr (9, [.ref q1, .ref q2, .int 0, .ref q3, .ref q4, .int 0, .int (-1), .int (-1), .int 0, .int 0, .int 0, .int 0, .long 0, .int 0, .int 0, .int 0, .int 0, .ref q5, .int 0, .int 0, .int 0, .int 0, .ref q6, .ref q7, .null, .null, .null, .null, .null, .null, .null, .int 0])), (q1, .inl (G 0, 324, .inl (fun _ => 0))), (q2, .inl (G 0, 324, .inl (fun _ => 0))), (q3, .inl (G 0, 2720, .inl (fun _ => 0))), (q4, .inl (G 0, 300, .inl (fun _ => 0))), (q5, .inl (G 0, 160, .inl (fun _ => 0))), (q6, .inl (G 0, 8, .inl (fun _ => 0))), (q7, .inl (G 1, 330, .inr (.inl (fun _ => 0))))] 76 [(0, .ref a), (1, .int v1)] []
  refine j_aload_n C dX9_init_76 0 rfl ?_
  refine j_sipush C dX9_init_77 (v := 330) (by decide) ?_
  refine j_newa C (t := 2) (ty := .boolean) dX9_init_80 rfl rfl (fun _ _ h => h) w_115 (a0 := (330, .inl (fun _ => 0))) (N' := 330) (fun _ => rfl) (by decide) rfl (Nat.le_of_ble_eq_true rfl) (Nat.le_of_ble_eq_true rfl) (Nat.le_of_ble_eq_true rfl) (fun q8 => ?_)
  show K 8 4496 [(a, .inr (9, [.ref q1, .ref q2, .int 0, .ref q3, .ref q4, .int 0, .int (-1), .int (-1), .int 0, .int 0, .int 0, .int 0, .long 0, .int 0, .int 0, .int 0, .int 0, .ref q5, .int 0, .int 0, .int 0, .int 0, .ref q6, .ref q7, .null, .null, .null, .null, .null, .null, .null, .int 0])), (q1, .inl (G 0, 324, .inl (fun _ => 0))), (q2, .inl (G 0, 324, .inl (fun _ => 0))), (q3, .inl (G 0, 2720, .inl (fun _ => 0))), (q4, .inl (G 0, 300, .inl (fun _ => 0))), (q5, .inl (G 0, 160, .inl (fun _ => 0))), (q6, .inl (G 0, 8, .inl (fun _ => 0))), (q7, .inl (G 1, 330, .inr (.inl (fun _ => 0)))), (q8, .inl (G 2, 330, .inl (fun _ => 0)))] 82 [(0, .ref a), (1, .int v1)] [.ref q8, .ref a]
  refine j_putF C dX9_init_82 inX9 tyX9 tyX9_ok nmX9 rfl 0 rfl 24 (by decide) w_945 rfl rfl rfl rfl rfl rfl (Nat.le_of_ble_eq_true rfl) ?_
  show K 8 4496 [(a, .inr (9, [.ref q1, .ref q2, .int 0, .ref q3, .ref q4, .int 0, .int (-1), .int (-1), .int 0, .int 0, .int 0, .int 0, .long 0, .int 0, .int 0, .int 0, .int 0, .ref q5, .int 0, .int 0, .int 0, .int 0, .ref q6, .ref q7, .ref q8, .null, .null, .null, .null, .null, .null, .int 0])), (q1, .inl (G 0, 324, .inl (fun _ => 0))), (q2, .inl (G 0, 324, .inl (fun _ => 0))), (q3, .inl (G 0, 2720, .inl (fun _ => 0))), (q4, .inl (G 0, 300, .inl (fun _ => 0))), (q5, .inl (G 0, 160, .inl (fun _ => 0))), (q6, .inl (G 0, 8, .inl (fun _ => 0))), (q7, .inl (G 1, 330, .inr (.inl (fun _ => 0)))), (q8, .inl (G 2, 330, .inl (fun _ => 0)))] 85 [(0, .ref a), (1, .int v1)] []
  refine j_aload_n C dX9_init_85 0 rfl ?_
  refine j_bipush C dX9_init_86 (v := 28) (by decide) ?_
  refine j_newa C (t := 0) (ty := .int) dX9_init_88 rfl rfl (fun _ _ h => h) w_70 (a0 := (28, .inl (fun _ => 0))) (N' := 28) (fun _ => rfl) (by decide) rfl (Nat.le_of_ble_eq_true rfl) (Nat.le_of_ble_eq_true rfl) (Nat.le_of_ble_eq_true rfl) (fun q9 => ?_)
  show K 9 4524 [(a, .inr (9, [.ref q1, .ref q2, .int 0, .ref q3, .ref q4, .int 0, .int (-1), .int (-1), .int 0, .int 0, .int 0, .int 0, .long 0, .int 0, .int 0, .int 0, .int 0, .ref q5, .int 0, .int 0, .int 0, .int 0, .ref q6, .ref q7, .ref q8, .null, .null, .null, .null, .null, .null, .int 0])), (q1, .inl (G 0, 324, .inl (fun _ => 0))), (q2, .inl (G 0, 324, .inl (fun _ => 0))), (q3, .inl (G 0, 2720, .inl (fun _ => 0))), (q4, .inl (G 0, 300, .inl (fun _ => 0))), (q5, .inl (G 0, 160, .inl (fun _ => 0))), (q6, .inl (G 0, 8, .inl (fun _ => 0))), (q7, .inl (G 1, 330, .inr (.inl (fun _ => 0)))), (q8, .inl (G 2, 330, .inl (fun _ => 0))), (q9, .inl (G 0, 28, .inl (fun _ => 0)))] 90 [(0, .ref a), (1, .int v1)] [.ref q9, .ref a]
  refine j_putF C dX9_init_90 inX9 tyX9 tyX9_ok nmX9 rfl 0 rfl 25 (by decide) w_946 rfl rfl rfl rfl rfl rfl (Nat.le_of_ble_eq_true rfl) ?_
  show K 9 4524 [(a, .inr (9, [.ref q1, .ref q2, .int 0, .ref q3, .ref q4, .int 0, .int (-1), .int (-1), .int 0, .int 0, .int 0, .int 0, .long 0, .int 0, .int 0, .int 0, .int 0, .ref q5, .int 0, .int 0, .int 0, .int 0, .ref q6, .ref q7, .ref q8, .ref q9, .null, .null, .null, .null, .null, .int 0])), (q1, .inl (G 0, 324, .inl (fun _ => 0))), (q2, .inl (G 0, 324, .inl (fun _ => 0))), (q3, .inl (G 0, 2720, .inl (fun _ => 0))), (q4, .inl (G 0, 300, .inl (fun _ => 0))), (q5, .inl (G 0, 160, .inl (fun _ => 0))), (q6, .inl (G 0, 8, .inl (fun _ => 0))), (q7, .inl (G 1, 330, .inr (.inl (fun _ => 0)))), (q8, .inl (G 2, 330, .inl (fun _ => 0))), (q9, .inl (G 0, 28, .inl (fun _ => 0)))] 93 [(0, .ref a), (1, .int v1)] []
  refine j_aload_n C dX9_init_93 0 rfl ?_
  refine j_bipush C dX9_init_94 (v := 8) (by decide) ?_
  refine j_newa C (t := 0) (ty := .int) dX9_init_96 rfl rfl (fun _ _ h => h) w_70 (a0 := (8, .inl (fun _ => 0))) (N' := 8) (fun _ => rfl) (by decide) rfl (Nat.le_of_ble_eq_true rfl) (Nat.le_of_ble_eq_true rfl) (Nat.le_of_ble_eq_true rfl) (fun q10 => ?_)
  show K 10 4532 [(a, .inr (9, [.ref q1, .ref q2, .int 0, .ref q3, .ref q4, .int 0, .int (-1), .int (-1), .int 0, .int 0, .int 0, .int 0, .long 0, .int 0, .int 0, .int 0, .int 0, .ref q5, .int 0, .int 0, .int 0, .int 0, .ref q6, .ref q7, .ref q8, .ref q9, .null, .null, .null, .null, .null, .int 0])), (q1, .inl (G 0, 324, .inl (fun _ => 0))), (q2, .inl (G 0, 324, .inl (fun _ => 0))), (q3, .inl (G 0, 2720, .inl (fun _ => 0))), (q4, .inl (G 0, 300, .inl (fun _ => 0))), (q5, .inl (G 0, 160, .inl (fun _ => 0))), (q6, .inl (G 0, 8, .inl (fun _ => 0))), (q7, .inl (G 1, 330, .inr (.inl (fun _ => 0)))), (q8, .inl (G 2, 330, .inl (fun _ => 0))), (q9, .inl (G 0, 28, .inl (fun _ => 0))), (q10, .inl (G 0, 8, .inl (fun _ => 0)))] 98 [(0, .ref a), (1, .int v1)] [.ref q10, .ref a]
  refine j_putF C dX9_init_98 inX9 tyX9 tyX9_ok nmX9 rfl 0 rfl 26 (by decide) w_947 rfl rfl rfl rfl rfl rfl (Nat.le_of_ble_eq_true rfl) ?_
  show K 10 4532 [(a, .inr (9, [.ref q1, .ref q2, .int 0, .ref q3, .ref q4, .int 0, .int (-1), .int (-1), .int 0, .int 0, .int 0, .int 0, .long 0, .int 0, .int 0, .int 0, .int 0, .ref q5, .int 0, .int 0, .int 0, .int 0, .ref q6, .ref q7, .ref q8, .ref q9, .ref q10, .null, .null, .null, .null, .int 0])), (q1, .inl (G 0, 324, .inl (fun _ => 0))), (q2, .inl (G 0, 324, .inl (fun _ => 0))), (q3, .inl (G 0, 2720, .inl (fun _ => 0))), (q4, .inl (G 0, 300, .inl (fun _ => 0))), (q5, .inl (G 0, 160, .inl (fun _ => 0))), (q6, .inl (G 0, 8, .inl (fun _ => 0))), (q7, .inl (G 1, 330, .inr (.inl (fun _ => 0)))), (q8, .inl (G 2, 330, .inl (fun _ => 0))), (q9, .inl (G 0, 28, .inl (fun _ => 0))), (q10, .inl (G 0, 8, .inl (fun _ => 0)))] 101 [(0, .ref a), (1, .int v1)] []
  refine j_aload_n C dX9_init_101 0 rfl ?_
  refine j_ldc C dX9_init_102 (v := 376320) w_919 ?_
  refine j_newa C (t := 0) (ty := .int) dX9_init_104 rfl rfl (fun _ _ h => h) w_70 (a0 := (376320, .inl (fun _ => 0))) (N' := 376320) (fun _ => rfl) (by decide) (by decide) (Nat.le_of_ble_eq_true rfl) (Nat.le_of_ble_eq_true rfl) (Nat.le_of_ble_eq_true rfl) (fun q11 => ?_)
  show K 11 380852 [(a, .inr (9, [.ref q1, .ref q2, .int 0, .ref q3, .ref q4, .int 0, .int (-1), .int (-1), .int 0, .int 0, .int 0, .int 0, .long 0, .int 0, .int 0, .int 0, .int 0, .ref q5, .int 0, .int 0, .int 0, .int 0, .ref q6, .ref q7, .ref q8, .ref q9, .ref q10, .null, .null, .null, .null, .int 0])), (q1, .inl (G 0, 324, .inl (fun _ => 0))), (q2, .inl (G 0, 324, .inl (fun _ => 0))), (q3, .inl (G 0, 2720, .inl (fun _ => 0))), (q4, .inl (G 0, 300, .inl (fun _ => 0))), (q5, .inl (G 0, 160, .inl (fun _ => 0))), (q6, .inl (G 0, 8, .inl (fun _ => 0))), (q7, .inl (G 1, 330, .inr (.inl (fun _ => 0)))), (q8, .inl (G 2, 330, .inl (fun _ => 0))), (q9, .inl (G 0, 28, .inl (fun _ => 0))), (q10, .inl (G 0, 8, .inl (fun _ => 0))), (q11, .inl (G 0, 376320, .inl (fun _ => 0)))] 106 [(0, .ref a), (1, .int v1)] [.ref q11, .ref a]
  refine j_putF C dX9_init_106 inX9 tyX9 tyX9_ok nmX9 rfl 0 rfl 27 (by decide) w_948 rfl rfl rfl rfl rfl rfl (Nat.le_of_ble_eq_true rfl) ?_
  show K 11 380852 [(a, .inr (9, [.ref q1, .ref q2, .int 0, .ref q3, .ref q4, .int 0, .int (-1), .int (-1), .int 0, .int 0, .int 0, .int 0, .long 0, .int 0, .int 0, .int 0, .int 0, .ref q5, .int 0, .int 0, .int 0, .int 0, .ref q6, .ref q7, .ref q8, .ref q9, .ref q10, .ref q11, .null, .null, .null, .int 0])), (q1, .inl (G 0, 324, .inl (fun _ => 0))), (q2, .inl (G 0, 324, .inl (fun _ => 0))), (q3, .inl (G 0, 2720, .inl (fun _ => 0))), (q4, .inl (G 0, 300, .inl (fun _ => 0))), (q5, .inl (G 0, 160, .inl (fun _ => 0))), (q6, .inl (G 0, 8, .inl (fun _ => 0))), (q7, .inl (G 1, 330, .inr (.inl (fun _ => 0)))), (q8, .inl (G 2, 330, .inl (fun _ => 0))), (q9, .inl (G 0, 28, .inl (fun _ => 0))), (q10, .inl (G 0, 8, .inl (fun _ => 0))), (q11, .inl (G 0, 376320, .inl (fun _ => 0)))] 109 [(0, .ref a), (1, .int v1)] []
  refine j_aload_n C dX9_init_109 0 rfl ?_
  refine j_sipush C dX9_init_110 (v := 4410) (by decide) ?_
  refine j_newa C (t := 0) (ty := .int) dX9_init_113 rfl rfl (fun _ _ h => h) w_70 (a0 := (4410, .inl (fun _ => 0))) (N' := 4410) (fun _ => rfl) (by decide) rfl (Nat.le_of_ble_eq_true rfl) (Nat.le_of_ble_eq_true rfl) (Nat.le_of_ble_eq_true rfl) (fun q12 => ?_)
  show K 12 385262 [(a, .inr (9, [.ref q1, .ref q2, .int 0, .ref q3, .ref q4, .int 0, .int (-1), .int (-1), .int 0, .int 0, .int 0, .int 0, .long 0, .int 0, .int 0, .int 0, .int 0, .ref q5, .int 0, .int 0, .int 0, .int 0, .ref q6, .ref q7, .ref q8, .ref q9, .ref q10, .ref q11, .null, .null, .null, .int 0])), (q1, .inl (G 0, 324, .inl (fun _ => 0))), (q2, .inl (G 0, 324, .inl (fun _ => 0))), (q3, .inl (G 0, 2720, .inl (fun _ => 0))), (q4, .inl (G 0, 300, .inl (fun _ => 0))), (q5, .inl (G 0, 160, .inl (fun _ => 0))), (q6, .inl (G 0, 8, .inl (fun _ => 0))), (q7, .inl (G 1, 330, .inr (.inl (fun _ => 0)))), (q8, .inl (G 2, 330, .inl (fun _ => 0))), (q9, .inl (G 0, 28, .inl (fun _ => 0))), (q10, .inl (G 0, 8, .inl (fun _ => 0))), (q11, .inl (G 0, 376320, .inl (fun _ => 0))), (q12, .inl (G 0, 4410, .inl (fun _ => 0)))] 115 [(0, .ref a), (1, .int v1)] [.ref q12, .ref a]
  refine j_putF C dX9_init_115 inX9 tyX9 tyX9_ok nmX9 rfl 0 rfl 28 (by decide) w_949 rfl rfl rfl rfl rfl rfl (Nat.le_of_ble_eq_true rfl) ?_
  show K 12 385262 [(a, .inr (9, [.ref q1, .ref q2, .int 0, .ref q3, .ref q4, .int 0, .int (-1), .int (-1), .int 0, .int 0, .int 0, .int 0, .long 0, .int 0, .int 0, .int 0, .int 0, .ref q5, .int 0, .int 0, .int 0, .int 0, .ref q6, .ref q7, .ref q8, .ref q9, .ref q10, .ref q11, .ref q12, .null, .null, .int 0])), (q1, .inl (G 0, 324, .inl (fun _ => 0))), (q2, .inl (G 0, 324, .inl (fun _ => 0))), (q3, .inl (G 0, 2720, .inl (fun _ => 0))), (q4, .inl (G 0, 300, .inl (fun _ => 0))), (q5, .inl (G 0, 160, .inl (fun _ => 0))), (q6, .inl (G 0, 8, .inl (fun _ => 0))), (q7, .inl (G 1, 330, .inr (.inl (fun _ => 0)))), (q8, .inl (G 2, 330, .inl (fun _ => 0))), (q9, .inl (G 0, 28, .inl (fun _ => 0))), (q10, .inl (G 0, 8, .inl (fun _ => 0))), (q11, .inl (G 0, 376320, .inl (fun _ => 0))), (q12, .inl (G 0, 4410, .inl (fun _ => 0)))] 118 [(0, .ref a), (1, .int v1)] []
  refine j_aload_n C dX9_init_118 0 rfl ?_
  refine j_bipush C dX9_init_119 (v := 48) (by decide) ?_
  refine j_newa C (t := 0) (ty := .int) dX9_init_121 rfl rfl (fun _ _ h => h) w_70 (a0 := (48, .inl (fun _ => 0))) (N' := 48) (fun _ => rfl) (by decide) rfl (Nat.le_of_ble_eq_true rfl) (Nat.le_of_ble_eq_true rfl) (Nat.le_of_ble_eq_true rfl) (fun q13 => ?_)
  show K 13 385310 [(a, .inr (9, [.ref q1, .ref q2, .int 0, .ref q3, .ref q4, .int 0, .int (-1), .int (-1), .int 0, .int 0, .int 0, .int 0, .long 0, .int 0, .int 0, .int 0, .int 0, .ref q5, .int 0, .int 0, .int 0, .int 0, .ref q6, .ref q7, .ref q8, .ref q9, .ref q10, .ref q11, .ref q12, .null, .null, .int 0])), (q1, .inl (G 0, 324, .inl (fun _ => 0))), (q2, .inl (G 0, 324, .inl (fun _ => 0))), (q3, .inl (G 0, 2720, .inl (fun _ => 0))), (q4, .inl (G 0, 300, .inl (fun _ => 0))), (q5, .inl (G 0, 160, .inl (fun _ => 0))), (q6, .inl (G 0, 8, .inl (fun _ => 0))), (q7, .inl (G 1, 330, .inr (.inl (fun _ => 0)))), (q8, .inl (G 2, 330, .inl (fun _ => 0))), (q9, .inl (G 0, 28, .inl (fun _ => 0))), (q10, .inl (G 0, 8, .inl (fun _ => 0))), (q11, .inl (G 0, 376320, .inl (fun _ => 0))), (q12, .inl (G 0, 4410, .inl (fun _ => 0))), (q13, .inl (G 0, 48, .inl (fun _ => 0)))] 123 [(0, .ref a), (1, .int v1)] [.ref q13, .ref a]
  refine j_putF C dX9_init_123 inX9 tyX9 tyX9_ok nmX9 rfl 0 rfl 29 (by decide) w_950 rfl rfl rfl rfl rfl rfl (Nat.le_of_ble_eq_true rfl) ?_
  show K 13 385310 [(a, .inr (9, [.ref q1, .ref q2, .int 0, .ref q3, .ref q4, .int 0, .int (-1), .int (-1), .int 0, .int 0, .int 0, .int 0, .long 0, .int 0, .int 0, .int 0, .int 0, .ref q5, .int 0, .int 0, .int 0, .int 0, .ref q6, .ref q7, .ref q8, .ref q9, .ref q10, .ref q11, .ref q12, .ref q13, .null, .int 0])), (q1, .inl (G 0, 324, .inl (fun _ => 0))), (q2, .inl (G 0, 324, .inl (fun _ => 0))), (q3, .inl (G 0, 2720, .inl (fun _ => 0))), (q4, .inl (G 0, 300, .inl (fun _ => 0))), (q5, .inl (G 0, 160, .inl (fun _ => 0))), (q6, .inl (G 0, 8, .inl (fun _ => 0))), (q7, .inl (G 1, 330, .inr (.inl (fun _ => 0)))), (q8, .inl (G 2, 330, .inl (fun _ => 0))), (q9, .inl (G 0, 28, .inl (fun _ => 0))), (q10, .inl (G 0, 8, .inl (fun _ => 0))), (q11, .inl (G 0, 376320, .inl (fun _ => 0))), (q12, .inl (G 0, 4410, .inl (fun _ => 0))), (q13, .inl (G 0, 48, .inl (fun _ => 0)))] 126 [(0, .ref a), (1, .int v1)] []
  refine j_aload_n C dX9_init_126 0 rfl ?_
  refine j_bipush C dX9_init_127 (v := 48) (by decide) ?_
  refine j_newa C (t := 0) (ty := .int) dX9_init_129 rfl rfl (fun _ _ h => h) w_70 (a0 := (48, .inl (fun _ => 0))) (N' := 48) (fun _ => rfl) (by decide) rfl (Nat.le_of_ble_eq_true rfl) (Nat.le_of_ble_eq_true rfl) (Nat.le_of_ble_eq_true rfl) (fun q14 => ?_)
  show K 14 385358 [(a, .inr (9, [.ref q1, .ref q2, .int 0, .ref q3, .ref q4, .int 0, .int (-1), .int (-1), .int 0, .int 0, .int 0, .int 0, .long 0, .int 0, .int 0, .int 0, .int 0, .ref q5, .int 0, .int 0, .int 0, .int 0, .ref q6, .ref q7, .ref q8, .ref q9, .ref q10, .ref q11, .ref q12, .ref q13, .null, .int 0])), (q1, .inl (G 0, 324, .inl (fun _ => 0))), (q2, .inl (G 0, 324, .inl (fun _ => 0))), (q3, .inl (G 0, 2720, .inl (fun _ => 0))), (q4, .inl (G 0, 300, .inl (fun _ => 0))), (q5, .inl (G 0, 160, .inl (fun _ => 0))), (q6, .inl (G 0, 8, .inl (fun _ => 0))), (q7, .inl (G 1, 330, .inr (.inl (fun _ => 0)))), (q8, .inl (G 2, 330, .inl (fun _ => 0))), (q9, .inl (G 0, 28, .inl (fun _ => 0))), (q10, .inl (G 0, 8, .inl (fun _ => 0))), (q11, .inl (G 0, 376320, .inl (fun _ => 0))), (q12, .inl (G 0, 4410, .inl (fun _ => 0))), (q13, .inl (G 0, 48, .inl (fun _ => 0))), (q14, .inl (G 0, 48, .inl (fun _ => 0)))] 131 [(0, .ref a), (1, .int v1)] [.ref q14, .ref a]
  refine j_putF C dX9_init_131 inX9 tyX9 tyX9_ok nmX9 rfl 0 rfl 30 (by decide) w_951 rfl rfl rfl rfl rfl rfl (Nat.le_of_ble_eq_true rfl) ?_
  show K 14 385358 [(a, .inr (9, [.ref q1, .ref q2, .int 0, .ref q3, .ref q4, .int 0, .int (-1), .int (-1), .int 0, .int 0, .int 0, .int 0, .long 0, .int 0, .int 0, .int 0, .int 0, .ref q5, .int 0, .int 0, .int 0, .int 0, .ref q6, .ref q7, .ref q8, .ref q9, .ref q10, .ref q11, .ref q12, .ref q13, .ref q14, .int 0])), (q1, .inl (G 0, 324, .inl (fun _ => 0))), (q2, .inl (G 0, 324, .inl (fun _ => 0))), (q3, .inl (G 0, 2720, .inl (fun _ => 0))), (q4, .inl (G 0, 300, .inl (fun _ => 0))), (q5, .inl (G 0, 160, .inl (fun _ => 0))), (q6, .inl (G 0, 8, .inl (fun _ => 0))), (q7, .inl (G 1, 330, .inr (.inl (fun _ => 0)))), (q8, .inl (G 2, 330, .inl (fun _ => 0))), (q9, .inl (G 0, 28, .inl (fun _ => 0))), (q10, .inl (G 0, 8, .inl (fun _ => 0))), (q11, .inl (G 0, 376320, .inl (fun _ => 0))), (q12, .inl (G 0, 4410, .inl (fun _ => 0))), (q13, .inl (G 0, 48, .inl (fun _ => 0))), (q14, .inl (G 0, 48, .inl (fun _ => 0)))] 134 [(0, .ref a), (1, .int v1)] []
  refine j_aload_n C dX9_init_134 0 rfl ?_
  refine j_iload_n C dX9_init_135 1 rfl ?_
  refine j_iconst C dX9_init_136 (v := 1) (by decide) ?_
  suffices hs : K 14 385358 [(a, .inr (9, [.ref q1, .ref q2, .int 0, .ref q3, .ref q4, .int 0, .int (-1), .int (-1), .int 0, .int 0, .int 0, .int 0, .long 0, .int 0, .int 0, .int 0, .int 0, .ref q5, .int 0, .int 0, .int 0, .int 0, .ref q6, .ref q7, .ref q8, .ref q9, .ref q10, .ref q11, .ref q12, .ref q13, .ref q14, .int 0])), (q1, .inl (G 0, 324, .inl (fun _ => 0))), (q2, .inl (G 0, 324, .inl (fun _ => 0))), (q3, .inl (G 0, 2720, .inl (fun _ => 0))), (q4, .inl (G 0, 300, .inl (fun _ => 0))), (q5, .inl (G 0, 160, .inl (fun _ => 0))), (q6, .inl (G 0, 8, .inl (fun _ => 0))), (q7, .inl (G 1, 330, .inr (.inl (fun _ => 0)))), (q8, .inl (G 2, 330, .inl (fun _ => 0))), (q9, .inl (G 0, 28, .inl (fun _ => 0))), (q10, .inl (G 0, 8, .inl (fun _ => 0))), (q11, .inl (G 0, 376320, .inl (fun _ => 0))), (q12, .inl (G 0, 4410, .inl (fun _ => 0))), (q13, .inl (G 0, 48, .inl (fun _ => 0))), (q14, .inl (G 0, 48, .inl (fun _ => 0)))] 156 [(0, .ref a)] [.int (Int32.ofNat (jnd v1)), .ref a] by
    refine j_icmp_ge C dX9_init_137 (tgt := 144) (by decide) (fun cq => ?_) (fun cq => ?_)
    · refine j_iload_n C dX9_init_144 1 rfl ?_
      refine j_bipush C dX9_init_145 (v := 8) (by decide) ?_
      refine j_icmp_le C dX9_init_147 (tgt := 155) (by decide) (fun cq2 => ?_) (fun cq2 => ?_)
      · refine j_iload_n C dX9_init_155 1 rfl ?_
        refine j_loc C [0] rfl ?_
        rw [show (Value.int v1) = .int (Int32.ofNat (jnd v1)) from congrArg Value.int (jnd_mid cq cq2)]; exact hs
      · refine j_bipush C dX9_init_150 (v := 8) (by decide) ?_
        refine j_goto C dX9_init_152 (tgt := 156) (by decide) ?_
        refine j_loc C [0] rfl ?_
        rw [show (Value.int 8) = .int (Int32.ofNat (jnd v1)) from congrArg Value.int (jnd_hi cq2)]; exact hs
    · refine j_iconst C dX9_init_140 (v := 1) (by decide) ?_
      refine j_goto C dX9_init_141 (tgt := 156) (by decide) ?_
      refine j_loc C [0] rfl ?_
      rw [show (Value.int 1) = .int (Int32.ofNat (jnd v1)) from congrArg Value.int (jnd_lo cq)]; exact hs
  refine j_putF C dX9_init_156 inX9 tyX9 tyX9_ok nmX9 rfl 0 rfl 2 (by decide) w_925 rfl rfl rfl rfl rfl rfl (Nat.le_of_ble_eq_true rfl) ?_
  show K 14 385358 [(a, .inr (9, [.ref q1, .ref q2, .int (Int32.ofNat (jnd v1)), .ref q3, .ref q4, .int 0, .int (-1), .int (-1), .int 0, .int 0, .int 0, .int 0, .long 0, .int 0, .int 0, .int 0, .int 0, .ref q5, .int 0, .int 0, .int 0, .int 0, .ref q6, .ref q7, .ref q8, .ref q9, .ref q10, .ref q11, .ref q12, .ref q13, .ref q14, .int 0])), (q1, .inl (G 0, 324, .inl (fun _ => 0))), (q2, .inl (G 0, 324, .inl (fun _ => 0))), (q3, .inl (G 0, 2720, .inl (fun _ => 0))), (q4, .inl (G 0, 300, .inl (fun _ => 0))), (q5, .inl (G 0, 160, .inl (fun _ => 0))), (q6, .inl (G 0, 8, .inl (fun _ => 0))), (q7, .inl (G 1, 330, .inr (.inl (fun _ => 0)))), (q8, .inl (G 2, 330, .inl (fun _ => 0))), (q9, .inl (G 0, 28, .inl (fun _ => 0))), (q10, .inl (G 0, 8, .inl (fun _ => 0))), (q11, .inl (G 0, 376320, .inl (fun _ => 0))), (q12, .inl (G 0, 4410, .inl (fun _ => 0))), (q13, .inl (G 0, 48, .inl (fun _ => 0))), (q14, .inl (G 0, 48, .inl (fun _ => 0)))] 159 [(0, .ref a)] []
  refine j_iconst C dX9_init_159 (v := 0) (by decide) ?_
  refine j_istore_n C dX9_init_160 (by decide) rfl ?_
  refine j_iload_n C dX9_init_161 0 rfl ?_
  refine j_bipush C dX9_init_162 (v := 8) (by decide) ?_
  refine j_icmp_ge C dX9_init_164 (tgt := 193) (by decide) (fun cq => absurd cq (by decide)) (fun _ => ?_)
  refine j_aload_n C dX9_init_167 1 rfl ?_
  refine j_get C dX9_init_168 inX9 rfl 0 rfl 0 (by decide) w_923 rfl rfl ?_
  refine j_bipush C dX9_init_171 (v := 20) (by decide) ?_
  refine j_iload_n C dX9_init_173 0 rfl ?_
  refine j_iadd C dX9_init_174 ?_
  rw [show ((20 : Int32) + 0) = 20 from by decide]
  refine j_iconst C dX9_init_175 (v := 1) (by decide) ?_
  refine j_iast C dX9_init_176 1 rfl (jin_vp (i := 20) (n := 324) (by decide)) ?_
  show K 14 385358 [(a, .inr (9, [.ref q1, .ref q2, .int (Int32.ofNat (jnd v1)), .ref q3, .ref q4, .int 0, .int (-1), .int (-1), .int 0, .int 0, .int 0, .int 0, .long 0, .int 0, .int 0, .int 0, .int 0, .ref q5, .int 0, .int 0, .int 0, .int 0, .ref q6, .ref q7, .ref q8, .ref q9, .ref q10, .ref q11, .ref q12, .ref q13, .ref q14, .int 0])), (q1, .inl (G 0, 324, .inl (upd (fun _ => 0) 20 1))), (q2, .inl (G 0, 324, .inl (fun _ => 0))), (q3, .inl (G 0, 2720, .inl (fun _ => 0))), (q4, .inl (G 0, 300, .inl (fun _ => 0))), (q5, .inl (G 0, 160, .inl (fun _ => 0))), (q6, .inl (G 0, 8, .inl (fun _ => 0))), (q7, .inl (G 1, 330, .inr (.inl (fun _ => 0)))), (q8, .inl (G 2, 330, .inl (fun _ => 0))), (q9, .inl (G 0, 28, .inl (fun _ => 0))), (q10, .inl (G 0, 8, .inl (fun _ => 0))), (q11, .inl (G 0, 376320, .inl (fun _ => 0))), (q12, .inl (G 0, 4410, .inl (fun _ => 0))), (q13, .inl (G 0, 48, .inl (fun _ => 0))), (q14, .inl (G 0, 48, .inl (fun _ => 0)))] 177 [(2, .int 0), (0, .ref a)] []
  refine j_aload_n C dX9_init_177 1 rfl ?_
  refine j_get C dX9_init_178 inX9 rfl 0 rfl 0 (by decide) w_923 rfl rfl ?_
  refine j_bipush C dX9_init_181 (v := 28) (by decide) ?_
  refine j_iload_n C dX9_init_183 0 rfl ?_
  refine j_iadd C dX9_init_184 ?_
  rw [show ((28 : Int32) + 0) = 28 from by decide]
  refine j_iconst C dX9_init_185 (v := (-1)) (by decide) ?_
  refine j_iast C dX9_init_186 1 rfl (jin_vp (i := 28) (n := 324) (by decide)) ?_
  show K 14 385358 [(a, .inr (9, [.ref q1, .ref q2, .int (Int32.ofNat (jnd v1)), .ref q3, .ref q4, .int 0, .int (-1), .int (-1), .int 0, .int 0, .int 0, .int 0, .long 0, .int 0, .int 0, .int 0, .int 0, .ref q5, .int 0, .int 0, .int 0, .int 0, .ref q6, .ref q7, .ref q8, .ref q9, .ref q10, .ref q11, .ref q12, .ref q13, .ref q14, .int 0])), (q1, .inl (G 0, 324, .inl (upd (upd (fun _ => 0) 20 1) 28 (-1)))), (q2, .inl (G 0, 324, .inl (fun _ => 0))), (q3, .inl (G 0, 2720, .inl (fun _ => 0))), (q4, .inl (G 0, 300, .inl (fun _ => 0))), (q5, .inl (G 0, 160, .inl (fun _ => 0))), (q6, .inl (G 0, 8, .inl (fun _ => 0))), (q7, .inl (G 1, 330, .inr (.inl (fun _ => 0)))), (q8, .inl (G 2, 330, .inl (fun _ => 0))), (q9, .inl (G 0, 28, .inl (fun _ => 0))), (q10, .inl (G 0, 8, .inl (fun _ => 0))), (q11, .inl (G 0, 376320, .inl (fun _ => 0))), (q12, .inl (G 0, 4410, .inl (fun _ => 0))), (q13, .inl (G 0, 48, .inl (fun _ => 0))), (q14, .inl (G 0, 48, .inl (fun _ => 0)))] 187 [(2, .int 0), (0, .ref a)] []
  refine j_iinc C dX9_init_187 0 rfl (v := 1) (by decide) (by decide) rfl ?_
  refine j_goto C dX9_init_190 (tgt := 161) (by decide) ?_
  refine j_iload_n C dX9_init_161 0 rfl ?_
  refine j_bipush C dX9_init_162 (v := 8) (by decide) ?_
  refine j_icmp_ge C dX9_init_164 (tgt := 193) (by decide) (fun cq => absurd cq (by decide)) (fun _ => ?_)
  refine j_aload_n C dX9_init_167 1 rfl ?_
  refine j_get C dX9_init_168 inX9 rfl 0 rfl 0 (by decide) w_923 rfl rfl ?_
  refine j_bipush C dX9_init_171 (v := 20) (by decide) ?_
  refine j_iload_n C dX9_init_173 0 rfl ?_
  refine j_iadd C dX9_init_174 ?_
  rw [show ((20 : Int32) + 1) = 21 from by decide]
  refine j_iconst C dX9_init_175 (v := 1) (by decide) ?_
  refine j_iast C dX9_init_176 1 rfl (jin_vp (i := 21) (n := 324) (by decide)) ?_
  show K 14 385358 [(a, .inr (9, [.ref q1, .ref q2, .int (Int32.ofNat (jnd v1)), .ref q3, .ref q4, .int 0, .int (-1), .int (-1), .int 0, .int 0, .int 0, .int 0, .long 0, .int 0, .int 0, .int 0, .int 0, .ref q5, .int 0, .int 0, .int 0, .int 0, .ref q6, .ref q7, .ref q8, .ref q9, .ref q10, .ref q11, .ref q12, .ref q13, .ref q14, .int 0])), (q1, .inl (G 0, 324, .inl (upd (upd (upd (fun _ => 0) 20 1) 28 (-1)) 21 1))), (q2, .inl (G 0, 324, .inl (fun _ => 0))), (q3, .inl (G 0, 2720, .inl (fun _ => 0))), (q4, .inl (G 0, 300, .inl (fun _ => 0))), (q5, .inl (G 0, 160, .inl (fun _ => 0))), (q6, .inl (G 0, 8, .inl (fun _ => 0))), (q7, .inl (G 1, 330, .inr (.inl (fun _ => 0)))), (q8, .inl (G 2, 330, .inl (fun _ => 0))), (q9, .inl (G 0, 28, .inl (fun _ => 0))), (q10, .inl (G 0, 8, .inl (fun _ => 0))), (q11, .inl (G 0, 376320, .inl (fun _ => 0))), (q12, .inl (G 0, 4410, .inl (fun _ => 0))), (q13, .inl (G 0, 48, .inl (fun _ => 0))), (q14, .inl (G 0, 48, .inl (fun _ => 0)))] 177 [(2, .int 1), (0, .ref a)] []
  refine j_aload_n C dX9_init_177 1 rfl ?_
  refine j_get C dX9_init_178 inX9 rfl 0 rfl 0 (by decide) w_923 rfl rfl ?_
  refine j_bipush C dX9_init_181 (v := 28) (by decide) ?_
  refine j_iload_n C dX9_init_183 0 rfl ?_
  refine j_iadd C dX9_init_184 ?_
  rw [show ((28 : Int32) + 1) = 29 from by decide]
  refine j_iconst C dX9_init_185 (v := (-1)) (by decide) ?_
  refine j_iast C dX9_init_186 1 rfl (jin_vp (i := 29) (n := 324) (by decide)) ?_
  show K 14 385358 [(a, .inr (9, [.ref q1, .ref q2, .int (Int32.ofNat (jnd v1)), .ref q3, .ref q4, .int 0, .int (-1), .int (-1), .int 0, .int 0, .int 0, .int 0, .long 0, .int 0, .int 0, .int 0, .int 0, .ref q5, .int 0, .int 0, .int 0, .int 0, .ref q6, .ref q7, .ref q8, .ref q9, .ref q10, .ref q11, .ref q12, .ref q13, .ref q14, .int 0])), (q1, .inl (G 0, 324, .inl (upd (upd (upd (upd (fun _ => 0) 20 1) 28 (-1)) 21 1) 29 (-1)))), (q2, .inl (G 0, 324, .inl (fun _ => 0))), (q3, .inl (G 0, 2720, .inl (fun _ => 0))), (q4, .inl (G 0, 300, .inl (fun _ => 0))), (q5, .inl (G 0, 160, .inl (fun _ => 0))), (q6, .inl (G 0, 8, .inl (fun _ => 0))), (q7, .inl (G 1, 330, .inr (.inl (fun _ => 0)))), (q8, .inl (G 2, 330, .inl (fun _ => 0))), (q9, .inl (G 0, 28, .inl (fun _ => 0))), (q10, .inl (G 0, 8, .inl (fun _ => 0))), (q11, .inl (G 0, 376320, .inl (fun _ => 0))), (q12, .inl (G 0, 4410, .inl (fun _ => 0))), (q13, .inl (G 0, 48, .inl (fun _ => 0))), (q14, .inl (G 0, 48, .inl (fun _ => 0)))] 187 [(2, .int 1), (0, .ref a)] []
  refine j_iinc C dX9_init_187 0 rfl (v := 2) (by decide) (by decide) rfl ?_
  refine j_goto C dX9_init_190 (tgt := 161) (by decide) ?_
  refine j_iload_n C dX9_init_161 0 rfl ?_
  refine j_bipush C dX9_init_162 (v := 8) (by decide) ?_
  refine j_icmp_ge C dX9_init_164 (tgt := 193) (by decide) (fun cq => absurd cq (by decide)) (fun _ => ?_)
  refine j_aload_n C dX9_init_167 1 rfl ?_
  refine j_get C dX9_init_168 inX9 rfl 0 rfl 0 (by decide) w_923 rfl rfl ?_
  refine j_bipush C dX9_init_171 (v := 20) (by decide) ?_
  refine j_iload_n C dX9_init_173 0 rfl ?_
  refine j_iadd C dX9_init_174 ?_
  rw [show ((20 : Int32) + 2) = 22 from by decide]
  refine j_iconst C dX9_init_175 (v := 1) (by decide) ?_
  refine j_iast C dX9_init_176 1 rfl (jin_vp (i := 22) (n := 324) (by decide)) ?_
  show K 14 385358 [(a, .inr (9, [.ref q1, .ref q2, .int (Int32.ofNat (jnd v1)), .ref q3, .ref q4, .int 0, .int (-1), .int (-1), .int 0, .int 0, .int 0, .int 0, .long 0, .int 0, .int 0, .int 0, .int 0, .ref q5, .int 0, .int 0, .int 0, .int 0, .ref q6, .ref q7, .ref q8, .ref q9, .ref q10, .ref q11, .ref q12, .ref q13, .ref q14, .int 0])), (q1, .inl (G 0, 324, .inl (upd (upd (upd (upd (upd (fun _ => 0) 20 1) 28 (-1)) 21 1) 29 (-1)) 22 1))), (q2, .inl (G 0, 324, .inl (fun _ => 0))), (q3, .inl (G 0, 2720, .inl (fun _ => 0))), (q4, .inl (G 0, 300, .inl (fun _ => 0))), (q5, .inl (G 0, 160, .inl (fun _ => 0))), (q6, .inl (G 0, 8, .inl (fun _ => 0))), (q7, .inl (G 1, 330, .inr (.inl (fun _ => 0)))), (q8, .inl (G 2, 330, .inl (fun _ => 0))), (q9, .inl (G 0, 28, .inl (fun _ => 0))), (q10, .inl (G 0, 8, .inl (fun _ => 0))), (q11, .inl (G 0, 376320, .inl (fun _ => 0))), (q12, .inl (G 0, 4410, .inl (fun _ => 0))), (q13, .inl (G 0, 48, .inl (fun _ => 0))), (q14, .inl (G 0, 48, .inl (fun _ => 0)))] 177 [(2, .int 2), (0, .ref a)] []
  refine j_aload_n C dX9_init_177 1 rfl ?_
  refine j_get C dX9_init_178 inX9 rfl 0 rfl 0 (by decide) w_923 rfl rfl ?_
  refine j_bipush C dX9_init_181 (v := 28) (by decide) ?_
  refine j_iload_n C dX9_init_183 0 rfl ?_
  refine j_iadd C dX9_init_184 ?_
  rw [show ((28 : Int32) + 2) = 30 from by decide]
  refine j_iconst C dX9_init_185 (v := (-1)) (by decide) ?_
  refine j_iast C dX9_init_186 1 rfl (jin_vp (i := 30) (n := 324) (by decide)) ?_
  show K 14 385358 [(a, .inr (9, [.ref q1, .ref q2, .int (Int32.ofNat (jnd v1)), .ref q3, .ref q4, .int 0, .int (-1), .int (-1), .int 0, .int 0, .int 0, .int 0, .long 0, .int 0, .int 0, .int 0, .int 0, .ref q5, .int 0, .int 0, .int 0, .int 0, .ref q6, .ref q7, .ref q8, .ref q9, .ref q10, .ref q11, .ref q12, .ref q13, .ref q14, .int 0])), (q1, .inl (G 0, 324, .inl (upd (upd (upd (upd (upd (upd (fun _ => 0) 20 1) 28 (-1)) 21 1) 29 (-1)) 22 1) 30 (-1)))), (q2, .inl (G 0, 324, .inl (fun _ => 0))), (q3, .inl (G 0, 2720, .inl (fun _ => 0))), (q4, .inl (G 0, 300, .inl (fun _ => 0))), (q5, .inl (G 0, 160, .inl (fun _ => 0))), (q6, .inl (G 0, 8, .inl (fun _ => 0))), (q7, .inl (G 1, 330, .inr (.inl (fun _ => 0)))), (q8, .inl (G 2, 330, .inl (fun _ => 0))), (q9, .inl (G 0, 28, .inl (fun _ => 0))), (q10, .inl (G 0, 8, .inl (fun _ => 0))), (q11, .inl (G 0, 376320, .inl (fun _ => 0))), (q12, .inl (G 0, 4410, .inl (fun _ => 0))), (q13, .inl (G 0, 48, .inl (fun _ => 0))), (q14, .inl (G 0, 48, .inl (fun _ => 0)))] 187 [(2, .int 2), (0, .ref a)] []
  refine j_iinc C dX9_init_187 0 rfl (v := 3) (by decide) (by decide) rfl ?_
  refine j_goto C dX9_init_190 (tgt := 161) (by decide) ?_
  refine j_iload_n C dX9_init_161 0 rfl ?_
  refine j_bipush C dX9_init_162 (v := 8) (by decide) ?_
  refine j_icmp_ge C dX9_init_164 (tgt := 193) (by decide) (fun cq => absurd cq (by decide)) (fun _ => ?_)
  refine j_aload_n C dX9_init_167 1 rfl ?_
  refine j_get C dX9_init_168 inX9 rfl 0 rfl 0 (by decide) w_923 rfl rfl ?_
  refine j_bipush C dX9_init_171 (v := 20) (by decide) ?_
  refine j_iload_n C dX9_init_173 0 rfl ?_
  refine j_iadd C dX9_init_174 ?_
  rw [show ((20 : Int32) + 3) = 23 from by decide]
  refine j_iconst C dX9_init_175 (v := 1) (by decide) ?_
  refine j_iast C dX9_init_176 1 rfl (jin_vp (i := 23) (n := 324) (by decide)) ?_
  show K 14 385358 [(a, .inr (9, [.ref q1, .ref q2, .int (Int32.ofNat (jnd v1)), .ref q3, .ref q4, .int 0, .int (-1), .int (-1), .int 0, .int 0, .int 0, .int 0, .long 0, .int 0, .int 0, .int 0, .int 0, .ref q5, .int 0, .int 0, .int 0, .int 0, .ref q6, .ref q7, .ref q8, .ref q9, .ref q10, .ref q11, .ref q12, .ref q13, .ref q14, .int 0])), (q1, .inl (G 0, 324, .inl (upd (upd (upd (upd (upd (upd (upd (fun _ => 0) 20 1) 28 (-1)) 21 1) 29 (-1)) 22 1) 30 (-1)) 23 1))), (q2, .inl (G 0, 324, .inl (fun _ => 0))), (q3, .inl (G 0, 2720, .inl (fun _ => 0))), (q4, .inl (G 0, 300, .inl (fun _ => 0))), (q5, .inl (G 0, 160, .inl (fun _ => 0))), (q6, .inl (G 0, 8, .inl (fun _ => 0))), (q7, .inl (G 1, 330, .inr (.inl (fun _ => 0)))), (q8, .inl (G 2, 330, .inl (fun _ => 0))), (q9, .inl (G 0, 28, .inl (fun _ => 0))), (q10, .inl (G 0, 8, .inl (fun _ => 0))), (q11, .inl (G 0, 376320, .inl (fun _ => 0))), (q12, .inl (G 0, 4410, .inl (fun _ => 0))), (q13, .inl (G 0, 48, .inl (fun _ => 0))), (q14, .inl (G 0, 48, .inl (fun _ => 0)))] 177 [(2, .int 3), (0, .ref a)] []
  refine j_aload_n C dX9_init_177 1 rfl ?_
  refine j_get C dX9_init_178 inX9 rfl 0 rfl 0 (by decide) w_923 rfl rfl ?_
  refine j_bipush C dX9_init_181 (v := 28) (by decide) ?_
  refine j_iload_n C dX9_init_183 0 rfl ?_
  refine j_iadd C dX9_init_184 ?_
  rw [show ((28 : Int32) + 3) = 31 from by decide]
  refine j_iconst C dX9_init_185 (v := (-1)) (by decide) ?_
  refine j_iast C dX9_init_186 1 rfl (jin_vp (i := 31) (n := 324) (by decide)) ?_
  show K 14 385358 [(a, .inr (9, [.ref q1, .ref q2, .int (Int32.ofNat (jnd v1)), .ref q3, .ref q4, .int 0, .int (-1), .int (-1), .int 0, .int 0, .int 0, .int 0, .long 0, .int 0, .int 0, .int 0, .int 0, .ref q5, .int 0, .int 0, .int 0, .int 0, .ref q6, .ref q7, .ref q8, .ref q9, .ref q10, .ref q11, .ref q12, .ref q13, .ref q14, .int 0])), (q1, .inl (G 0, 324, .inl (upd (upd (upd (upd (upd (upd (upd (upd (fun _ => 0) 20 1) 28 (-1)) 21 1) 29 (-1)) 22 1) 30 (-1)) 23 1) 31 (-1)))), (q2, .inl (G 0, 324, .inl (fun _ => 0))), (q3, .inl (G 0, 2720, .inl (fun _ => 0))), (q4, .inl (G 0, 300, .inl (fun _ => 0))), (q5, .inl (G 0, 160, .inl (fun _ => 0))), (q6, .inl (G 0, 8, .inl (fun _ => 0))), (q7, .inl (G 1, 330, .inr (.inl (fun _ => 0)))), (q8, .inl (G 2, 330, .inl (fun _ => 0))), (q9, .inl (G 0, 28, .inl (fun _ => 0))), (q10, .inl (G 0, 8, .inl (fun _ => 0))), (q11, .inl (G 0, 376320, .inl (fun _ => 0))), (q12, .inl (G 0, 4410, .inl (fun _ => 0))), (q13, .inl (G 0, 48, .inl (fun _ => 0))), (q14, .inl (G 0, 48, .inl (fun _ => 0)))] 187 [(2, .int 3), (0, .ref a)] []
  refine j_iinc C dX9_init_187 0 rfl (v := 4) (by decide) (by decide) rfl ?_
  refine j_goto C dX9_init_190 (tgt := 161) (by decide) ?_
  refine j_iload_n C dX9_init_161 0 rfl ?_
  refine j_bipush C dX9_init_162 (v := 8) (by decide) ?_
  refine j_icmp_ge C dX9_init_164 (tgt := 193) (by decide) (fun cq => absurd cq (by decide)) (fun _ => ?_)
  refine j_aload_n C dX9_init_167 1 rfl ?_
  refine j_get C dX9_init_168 inX9 rfl 0 rfl 0 (by decide) w_923 rfl rfl ?_
  refine j_bipush C dX9_init_171 (v := 20) (by decide) ?_
  refine j_iload_n C dX9_init_173 0 rfl ?_
  refine j_iadd C dX9_init_174 ?_
  rw [show ((20 : Int32) + 4) = 24 from by decide]
  refine j_iconst C dX9_init_175 (v := 1) (by decide) ?_
  refine j_iast C dX9_init_176 1 rfl (jin_vp (i := 24) (n := 324) (by decide)) ?_
  show K 14 385358 [(a, .inr (9, [.ref q1, .ref q2, .int (Int32.ofNat (jnd v1)), .ref q3, .ref q4, .int 0, .int (-1), .int (-1), .int 0, .int 0, .int 0, .int 0, .long 0, .int 0, .int 0, .int 0, .int 0, .ref q5, .int 0, .int 0, .int 0, .int 0, .ref q6, .ref q7, .ref q8, .ref q9, .ref q10, .ref q11, .ref q12, .ref q13, .ref q14, .int 0])), (q1, .inl (G 0, 324, .inl (upd (upd (upd (upd (upd (upd (upd (upd (upd (fun _ => 0) 20 1) 28 (-1)) 21 1) 29 (-1)) 22 1) 30 (-1)) 23 1) 31 (-1)) 24 1))), (q2, .inl (G 0, 324, .inl (fun _ => 0))), (q3, .inl (G 0, 2720, .inl (fun _ => 0))), (q4, .inl (G 0, 300, .inl (fun _ => 0))), (q5, .inl (G 0, 160, .inl (fun _ => 0))), (q6, .inl (G 0, 8, .inl (fun _ => 0))), (q7, .inl (G 1, 330, .inr (.inl (fun _ => 0)))), (q8, .inl (G 2, 330, .inl (fun _ => 0))), (q9, .inl (G 0, 28, .inl (fun _ => 0))), (q10, .inl (G 0, 8, .inl (fun _ => 0))), (q11, .inl (G 0, 376320, .inl (fun _ => 0))), (q12, .inl (G 0, 4410, .inl (fun _ => 0))), (q13, .inl (G 0, 48, .inl (fun _ => 0))), (q14, .inl (G 0, 48, .inl (fun _ => 0)))] 177 [(2, .int 4), (0, .ref a)] []
  refine j_aload_n C dX9_init_177 1 rfl ?_
  refine j_get C dX9_init_178 inX9 rfl 0 rfl 0 (by decide) w_923 rfl rfl ?_
  refine j_bipush C dX9_init_181 (v := 28) (by decide) ?_
  refine j_iload_n C dX9_init_183 0 rfl ?_
  refine j_iadd C dX9_init_184 ?_
  rw [show ((28 : Int32) + 4) = 32 from by decide]
  refine j_iconst C dX9_init_185 (v := (-1)) (by decide) ?_
  refine j_iast C dX9_init_186 1 rfl (jin_vp (i := 32) (n := 324) (by decide)) ?_
  show K 14 385358 [(a, .inr (9, [.ref q1, .ref q2, .int (Int32.ofNat (jnd v1)), .ref q3, .ref q4, .int 0, .int (-1), .int (-1), .int 0, .int 0, .int 0, .int 0, .long 0, .int 0, .int 0, .int 0, .int 0, .ref q5, .int 0, .int 0, .int 0, .int 0, .ref q6, .ref q7, .ref q8, .ref q9, .ref q10, .ref q11, .ref q12, .ref q13, .ref q14, .int 0])), (q1, .inl (G 0, 324, .inl (upd (upd (upd (upd (upd (upd (upd (upd (upd (upd (fun _ => 0) 20 1) 28 (-1)) 21 1) 29 (-1)) 22 1) 30 (-1)) 23 1) 31 (-1)) 24 1) 32 (-1)))), (q2, .inl (G 0, 324, .inl (fun _ => 0))), (q3, .inl (G 0, 2720, .inl (fun _ => 0))), (q4, .inl (G 0, 300, .inl (fun _ => 0))), (q5, .inl (G 0, 160, .inl (fun _ => 0))), (q6, .inl (G 0, 8, .inl (fun _ => 0))), (q7, .inl (G 1, 330, .inr (.inl (fun _ => 0)))), (q8, .inl (G 2, 330, .inl (fun _ => 0))), (q9, .inl (G 0, 28, .inl (fun _ => 0))), (q10, .inl (G 0, 8, .inl (fun _ => 0))), (q11, .inl (G 0, 376320, .inl (fun _ => 0))), (q12, .inl (G 0, 4410, .inl (fun _ => 0))), (q13, .inl (G 0, 48, .inl (fun _ => 0))), (q14, .inl (G 0, 48, .inl (fun _ => 0)))] 187 [(2, .int 4), (0, .ref a)] []
  refine j_iinc C dX9_init_187 0 rfl (v := 5) (by decide) (by decide) rfl ?_
  refine j_goto C dX9_init_190 (tgt := 161) (by decide) ?_
  refine j_iload_n C dX9_init_161 0 rfl ?_
  refine j_bipush C dX9_init_162 (v := 8) (by decide) ?_
  refine j_icmp_ge C dX9_init_164 (tgt := 193) (by decide) (fun cq => absurd cq (by decide)) (fun _ => ?_)
  refine j_aload_n C dX9_init_167 1 rfl ?_
  refine j_get C dX9_init_168 inX9 rfl 0 rfl 0 (by decide) w_923 rfl rfl ?_
  refine j_bipush C dX9_init_171 (v := 20) (by decide) ?_
  refine j_iload_n C dX9_init_173 0 rfl ?_
  refine j_iadd C dX9_init_174 ?_
  rw [show ((20 : Int32) + 5) = 25 from by decide]
  refine j_iconst C dX9_init_175 (v := 1) (by decide) ?_
  refine j_iast C dX9_init_176 1 rfl (jin_vp (i := 25) (n := 324) (by decide)) ?_
  show K 14 385358 [(a, .inr (9, [.ref q1, .ref q2, .int (Int32.ofNat (jnd v1)), .ref q3, .ref q4, .int 0, .int (-1), .int (-1), .int 0, .int 0, .int 0, .int 0, .long 0, .int 0, .int 0, .int 0, .int 0, .ref q5, .int 0, .int 0, .int 0, .int 0, .ref q6, .ref q7, .ref q8, .ref q9, .ref q10, .ref q11, .ref q12, .ref q13, .ref q14, .int 0])), (q1, .inl (G 0, 324, .inl (upd (upd (upd (upd (upd (upd (upd (upd (upd (upd (upd (fun _ => 0) 20 1) 28 (-1)) 21 1) 29 (-1)) 22 1) 30 (-1)) 23 1) 31 (-1)) 24 1) 32 (-1)) 25 1))), (q2, .inl (G 0, 324, .inl (fun _ => 0))), (q3, .inl (G 0, 2720, .inl (fun _ => 0))), (q4, .inl (G 0, 300, .inl (fun _ => 0))), (q5, .inl (G 0, 160, .inl (fun _ => 0))), (q6, .inl (G 0, 8, .inl (fun _ => 0))), (q7, .inl (G 1, 330, .inr (.inl (fun _ => 0)))), (q8, .inl (G 2, 330, .inl (fun _ => 0))), (q9, .inl (G 0, 28, .inl (fun _ => 0))), (q10, .inl (G 0, 8, .inl (fun _ => 0))), (q11, .inl (G 0, 376320, .inl (fun _ => 0))), (q12, .inl (G 0, 4410, .inl (fun _ => 0))), (q13, .inl (G 0, 48, .inl (fun _ => 0))), (q14, .inl (G 0, 48, .inl (fun _ => 0)))] 177 [(2, .int 5), (0, .ref a)] []
  refine j_aload_n C dX9_init_177 1 rfl ?_
  refine j_get C dX9_init_178 inX9 rfl 0 rfl 0 (by decide) w_923 rfl rfl ?_
  refine j_bipush C dX9_init_181 (v := 28) (by decide) ?_
  refine j_iload_n C dX9_init_183 0 rfl ?_
  refine j_iadd C dX9_init_184 ?_
  rw [show ((28 : Int32) + 5) = 33 from by decide]
  refine j_iconst C dX9_init_185 (v := (-1)) (by decide) ?_
  refine j_iast C dX9_init_186 1 rfl (jin_vp (i := 33) (n := 324) (by decide)) ?_
  show K 14 385358 [(a, .inr (9, [.ref q1, .ref q2, .int (Int32.ofNat (jnd v1)), .ref q3, .ref q4, .int 0, .int (-1), .int (-1), .int 0, .int 0, .int 0, .int 0, .long 0, .int 0, .int 0, .int 0, .int 0, .ref q5, .int 0, .int 0, .int 0, .int 0, .ref q6, .ref q7, .ref q8, .ref q9, .ref q10, .ref q11, .ref q12, .ref q13, .ref q14, .int 0])), (q1, .inl (G 0, 324, .inl (upd (upd (upd (upd (upd (upd (upd (upd (upd (upd (upd (upd (fun _ => 0) 20 1) 28 (-1)) 21 1) 29 (-1)) 22 1) 30 (-1)) 23 1) 31 (-1)) 24 1) 32 (-1)) 25 1) 33 (-1)))), (q2, .inl (G 0, 324, .inl (fun _ => 0))), (q3, .inl (G 0, 2720, .inl (fun _ => 0))), (q4, .inl (G 0, 300, .inl (fun _ => 0))), (q5, .inl (G 0, 160, .inl (fun _ => 0))), (q6, .inl (G 0, 8, .inl (fun _ => 0))), (q7, .inl (G 1, 330, .inr (.inl (fun _ => 0)))), (q8, .inl (G 2, 330, .inl (fun _ => 0))), (q9, .inl (G 0, 28, .inl (fun _ => 0))), (q10, .inl (G 0, 8, .inl (fun _ => 0))), (q11, .inl (G 0, 376320, .inl (fun _ => 0))), (q12, .inl (G 0, 4410, .inl (fun _ => 0))), (q13, .inl (G 0, 48, .inl (fun _ => 0))), (q14, .inl (G 0, 48, .inl (fun _ => 0)))] 187 [(2, .int 5), (0, .ref a)] []
  refine j_iinc C dX9_init_187 0 rfl (v := 6) (by decide) (by decide) rfl ?_
  refine j_goto C dX9_init_190 (tgt := 161) (by decide) ?_
  refine j_iload_n C dX9_init_161 0 rfl ?_
  refine j_bipush C dX9_init_162 (v := 8) (by decide) ?_
  refine j_icmp_ge C dX9_init_164 (tgt := 193) (by decide) (fun cq => absurd cq (by decide)) (fun _ => ?_)
  refine j_aload_n C dX9_init_167 1 rfl ?_
  refine j_get C dX9_init_168 inX9 rfl 0 rfl 0 (by decide) w_923 rfl rfl ?_
  refine j_bipush C dX9_init_171 (v := 20) (by decide) ?_
  refine j_iload_n C dX9_init_173 0 rfl ?_
  refine j_iadd C dX9_init_174 ?_
  rw [show ((20 : Int32) + 6) = 26 from by decide]
  refine j_iconst C dX9_init_175 (v := 1) (by decide) ?_
  refine j_iast C dX9_init_176 1 rfl (jin_vp (i := 26) (n := 324) (by decide)) ?_
  show K 14 385358 [(a, .inr (9, [.ref q1, .ref q2, .int (Int32.ofNat (jnd v1)), .ref q3, .ref q4, .int 0, .int (-1), .int (-1), .int 0, .int 0, .int 0, .int 0, .long 0, .int 0, .int 0, .int 0, .int 0, .ref q5, .int 0, .int 0, .int 0, .int 0, .ref q6, .ref q7, .ref q8, .ref q9, .ref q10, .ref q11, .ref q12, .ref q13, .ref q14, .int 0])), (q1, .inl (G 0, 324, .inl (upd (upd (upd (upd (upd (upd (upd (upd (upd (upd (upd (upd (upd (fun _ => 0) 20 1) 28 (-1)) 21 1) 29 (-1)) 22 1) 30 (-1)) 23 1) 31 (-1)) 24 1) 32 (-1)) 25 1) 33 (-1)) 26 1))), (q2, .inl (G 0, 324, .inl (fun _ => 0))), (q3, .inl (G 0, 2720, .inl (fun _ => 0))), (q4, .inl (G 0, 300, .inl (fun _ => 0))), (q5, .inl (G 0, 160, .inl (fun _ => 0))), (q6, .inl (G 0, 8, .inl (fun _ => 0))), (q7, .inl (G 1, 330, .inr (.inl (fun _ => 0)))), (q8, .inl (G 2, 330, .inl (fun _ => 0))), (q9, .inl (G 0, 28, .inl (fun _ => 0))), (q10, .inl (G 0, 8, .inl (fun _ => 0))), (q11, .inl (G 0, 376320, .inl (fun _ => 0))), (q12, .inl (G 0, 4410, .inl (fun _ => 0))), (q13, .inl (G 0, 48, .inl (fun _ => 0))), (q14, .inl (G 0, 48, .inl (fun _ => 0)))] 177 [(2, .int 6), (0, .ref a)] []
  refine j_aload_n C dX9_init_177 1 rfl ?_
  refine j_get C dX9_init_178 inX9 rfl 0 rfl 0 (by decide) w_923 rfl rfl ?_
  refine j_bipush C dX9_init_181 (v := 28) (by decide) ?_
  refine j_iload_n C dX9_init_183 0 rfl ?_
  refine j_iadd C dX9_init_184 ?_
  rw [show ((28 : Int32) + 6) = 34 from by decide]
  refine j_iconst C dX9_init_185 (v := (-1)) (by decide) ?_
  refine j_iast C dX9_init_186 1 rfl (jin_vp (i := 34) (n := 324) (by decide)) ?_
  show K 14 385358 [(a, .inr (9, [.ref q1, .ref q2, .int (Int32.ofNat (jnd v1)), .ref q3, .ref q4, .int 0, .int (-1), .int (-1), .int 0, .int 0, .int 0, .int 0, .long 0, .int 0, .int 0, .int 0, .int 0, .ref q5, .int 0, .int 0, .int 0, .int 0, .ref q6, .ref q7, .ref q8, .ref q9, .ref q10, .ref q11, .ref q12, .ref q13, .ref q14, .int 0])), (q1, .inl (G 0, 324, .inl (upd (upd (upd (upd (upd (upd (upd (upd (upd (upd (upd (upd (upd (upd (fun _ => 0) 20 1) 28 (-1)) 21 1) 29 (-1)) 22 1) 30 (-1)) 23 1) 31 (-1)) 24 1) 32 (-1)) 25 1) 33 (-1)) 26 1) 34 (-1)))), (q2, .inl (G 0, 324, .inl (fun _ => 0))), (q3, .inl (G 0, 2720, .inl (fun _ => 0))), (q4, .inl (G 0, 300, .inl (fun _ => 0))), (q5, .inl (G 0, 160, .inl (fun _ => 0))), (q6, .inl (G 0, 8, .inl (fun _ => 0))), (q7, .inl (G 1, 330, .inr (.inl (fun _ => 0)))), (q8, .inl (G 2, 330, .inl (fun _ => 0))), (q9, .inl (G 0, 28, .inl (fun _ => 0))), (q10, .inl (G 0, 8, .inl (fun _ => 0))), (q11, .inl (G 0, 376320, .inl (fun _ => 0))), (q12, .inl (G 0, 4410, .inl (fun _ => 0))), (q13, .inl (G 0, 48, .inl (fun _ => 0))), (q14, .inl (G 0, 48, .inl (fun _ => 0)))] 187 [(2, .int 6), (0, .ref a)] []
  refine j_iinc C dX9_init_187 0 rfl (v := 7) (by decide) (by decide) rfl ?_
  refine j_goto C dX9_init_190 (tgt := 161) (by decide) ?_
  refine j_iload_n C dX9_init_161 0 rfl ?_
  refine j_bipush C dX9_init_162 (v := 8) (by decide) ?_
  refine j_icmp_ge C dX9_init_164 (tgt := 193) (by decide) (fun cq => absurd cq (by decide)) (fun _ => ?_)
  refine j_aload_n C dX9_init_167 1 rfl ?_
  refine j_get C dX9_init_168 inX9 rfl 0 rfl 0 (by decide) w_923 rfl rfl ?_
  refine j_bipush C dX9_init_171 (v := 20) (by decide) ?_
  refine j_iload_n C dX9_init_173 0 rfl ?_
  refine j_iadd C dX9_init_174 ?_
  rw [show ((20 : Int32) + 7) = 27 from by decide]
  refine j_iconst C dX9_init_175 (v := 1) (by decide) ?_
  refine j_iast C dX9_init_176 1 rfl (jin_vp (i := 27) (n := 324) (by decide)) ?_
  show K 14 385358 [(a, .inr (9, [.ref q1, .ref q2, .int (Int32.ofNat (jnd v1)), .ref q3, .ref q4, .int 0, .int (-1), .int (-1), .int 0, .int 0, .int 0, .int 0, .long 0, .int 0, .int 0, .int 0, .int 0, .ref q5, .int 0, .int 0, .int 0, .int 0, .ref q6, .ref q7, .ref q8, .ref q9, .ref q10, .ref q11, .ref q12, .ref q13, .ref q14, .int 0])), (q1, .inl (G 0, 324, .inl (upd (upd (upd (upd (upd (upd (upd (upd (upd (upd (upd (upd (upd (upd (upd (fun _ => 0) 20 1) 28 (-1)) 21 1) 29 (-1)) 22 1) 30 (-1)) 23 1) 31 (-1)) 24 1) 32 (-1)) 25 1) 33 (-1)) 26 1) 34 (-1)) 27 1))), (q2, .inl (G 0, 324, .inl (fun _ => 0))), (q3, .inl (G 0, 2720, .inl (fun _ => 0))), (q4, .inl (G 0, 300, .inl (fun _ => 0))), (q5, .inl (G 0, 160, .inl (fun _ => 0))), (q6, .inl (G 0, 8, .inl (fun _ => 0))), (q7, .inl (G 1, 330, .inr (.inl (fun _ => 0)))), (q8, .inl (G 2, 330, .inl (fun _ => 0))), (q9, .inl (G 0, 28, .inl (fun _ => 0))), (q10, .inl (G 0, 8, .inl (fun _ => 0))), (q11, .inl (G 0, 376320, .inl (fun _ => 0))), (q12, .inl (G 0, 4410, .inl (fun _ => 0))), (q13, .inl (G 0, 48, .inl (fun _ => 0))), (q14, .inl (G 0, 48, .inl (fun _ => 0)))] 177 [(2, .int 7), (0, .ref a)] []
  refine j_aload_n C dX9_init_177 1 rfl ?_
  refine j_get C dX9_init_178 inX9 rfl 0 rfl 0 (by decide) w_923 rfl rfl ?_
  refine j_bipush C dX9_init_181 (v := 28) (by decide) ?_
  refine j_iload_n C dX9_init_183 0 rfl ?_
  refine j_iadd C dX9_init_184 ?_
  rw [show ((28 : Int32) + 7) = 35 from by decide]
  refine j_iconst C dX9_init_185 (v := (-1)) (by decide) ?_
  refine j_iast C dX9_init_186 1 rfl (jin_vp (i := 35) (n := 324) (by decide)) ?_
  show K 14 385358 [(a, .inr (9, [.ref q1, .ref q2, .int (Int32.ofNat (jnd v1)), .ref q3, .ref q4, .int 0, .int (-1), .int (-1), .int 0, .int 0, .int 0, .int 0, .long 0, .int 0, .int 0, .int 0, .int 0, .ref q5, .int 0, .int 0, .int 0, .int 0, .ref q6, .ref q7, .ref q8, .ref q9, .ref q10, .ref q11, .ref q12, .ref q13, .ref q14, .int 0])), (q1, .inl (G 0, 324, .inl (upd (upd (upd (upd (upd (upd (upd (upd (upd (upd (upd (upd (upd (upd (upd (upd (fun _ => 0) 20 1) 28 (-1)) 21 1) 29 (-1)) 22 1) 30 (-1)) 23 1) 31 (-1)) 24 1) 32 (-1)) 25 1) 33 (-1)) 26 1) 34 (-1)) 27 1) 35 (-1)))), (q2, .inl (G 0, 324, .inl (fun _ => 0))), (q3, .inl (G 0, 2720, .inl (fun _ => 0))), (q4, .inl (G 0, 300, .inl (fun _ => 0))), (q5, .inl (G 0, 160, .inl (fun _ => 0))), (q6, .inl (G 0, 8, .inl (fun _ => 0))), (q7, .inl (G 1, 330, .inr (.inl (fun _ => 0)))), (q8, .inl (G 2, 330, .inl (fun _ => 0))), (q9, .inl (G 0, 28, .inl (fun _ => 0))), (q10, .inl (G 0, 8, .inl (fun _ => 0))), (q11, .inl (G 0, 376320, .inl (fun _ => 0))), (q12, .inl (G 0, 4410, .inl (fun _ => 0))), (q13, .inl (G 0, 48, .inl (fun _ => 0))), (q14, .inl (G 0, 48, .inl (fun _ => 0)))] 187 [(2, .int 7), (0, .ref a)] []
  refine j_iinc C dX9_init_187 0 rfl (v := 8) (by decide) (by decide) rfl ?_
  refine j_goto C dX9_init_190 (tgt := 161) (by decide) ?_
  refine j_iload_n C dX9_init_161 0 rfl ?_
  refine j_bipush C dX9_init_162 (v := 8) (by decide) ?_
  refine j_icmp_ge C dX9_init_164 (tgt := 193) (by decide) (fun _ => ?_) (fun cq => absurd (by decide) cq)
  refine j_aload_n C dX9_init_193 1 rfl ?_
  refine j_get C dX9_init_194 inX9 rfl 0 rfl 0 (by decide) w_923 rfl rfl ?_
  refine j_aload_n C dX9_init_197 1 rfl ?_
  refine j_get C dX9_init_198 inX9 rfl 0 rfl 1 (by decide) w_924 rfl rfl ?_
  obtain ⟨ad, had⟩ : ∃ f : Nat → Nat, f = (fun k => [a, q1, q2, q3, q4, q5, q6, q7, q8, q9, q10, q11, q12, q13, q14].getD k 0) := ⟨_, rfl⟩
  have ew : ([(a, .inr (9, [.ref q1, .ref q2, .int (Int32.ofNat (jnd v1)), .ref q3, .ref q4, .int 0, .int (-1), .int (-1), .int 0, .int 0, .int 0, .int 0, .long 0, .int 0, .int 0, .int 0, .int 0, .ref q5, .int 0, .int 0, .int 0, .int 0, .ref q6, .ref q7, .ref q8, .ref q9, .ref q10, .ref q11, .ref q12, .ref q13, .ref q14, .int 0])), (q1, .inl (G 0, 324, .inl (upd (upd (upd (upd (upd (upd (upd (upd (upd (upd (upd (upd (upd (upd (upd (upd (fun _ => 0) 20 1) 28 (-1)) 21 1) 29 (-1)) 22 1) 30 (-1)) 23 1) 31 (-1)) 24 1) 32 (-1)) 25 1) 33 (-1)) 26 1) 34 (-1)) 27 1) 35 (-1)))), (q2, .inl (G 0, 324, .inl (fun _ => 0))), (q3, .inl (G 0, 2720, .inl (fun _ => 0))), (q4, .inl (G 0, 300, .inl (fun _ => 0))), (q5, .inl (G 0, 160, .inl (fun _ => 0))), (q6, .inl (G 0, 8, .inl (fun _ => 0))), (q7, .inl (G 1, 330, .inr (.inl (fun _ => 0)))), (q8, .inl (G 2, 330, .inl (fun _ => 0))), (q9, .inl (G 0, 28, .inl (fun _ => 0))), (q10, .inl (G 0, 8, .inl (fun _ => 0))), (q11, .inl (G 0, 376320, .inl (fun _ => 0))), (q12, .inl (G 0, 4410, .inl (fun _ => 0))), (q13, .inl (G 0, 48, .inl (fun _ => 0))), (q14, .inl (G 0, 48, .inl (fun _ => 0)))] : va_W) = jw 15 (cellM G) ad (sM0 (jnd v1)) := by
    subst had
    rfl
  have e0 : a = ad 0 := by subst had; rfl
  have e1 : q1 = ad 1 := by subst had; rfl
  have e2 : q2 = ad 2 := by subst had; rfl
  show K 14 385358 [(a, .inr (9, [.ref q1, .ref q2, .int (Int32.ofNat (jnd v1)), .ref q3, .ref q4, .int 0, .int (-1), .int (-1), .int 0, .int 0, .int 0, .int 0, .long 0, .int 0, .int 0, .int 0, .int 0, .ref q5, .int 0, .int 0, .int 0, .int 0, .ref q6, .ref q7, .ref q8, .ref q9, .ref q10, .ref q11, .ref q12, .ref q13, .ref q14, .int 0])), (q1, .inl (G 0, 324, .inl (upd (upd (upd (upd (upd (upd (upd (upd (upd (upd (upd (upd (upd (upd (upd (upd (fun _ => 0) 20 1) 28 (-1)) 21 1) 29 (-1)) 22 1) 30 (-1)) 23 1) 31 (-1)) 24 1) 32 (-1)) 25 1) 33 (-1)) 26 1) 34 (-1)) 27 1) 35 (-1)))), (q2, .inl (G 0, 324, .inl (fun _ => 0))), (q3, .inl (G 0, 2720, .inl (fun _ => 0))), (q4, .inl (G 0, 300, .inl (fun _ => 0))), (q5, .inl (G 0, 160, .inl (fun _ => 0))), (q6, .inl (G 0, 8, .inl (fun _ => 0))), (q7, .inl (G 1, 330, .inr (.inl (fun _ => 0)))), (q8, .inl (G 2, 330, .inl (fun _ => 0))), (q9, .inl (G 0, 28, .inl (fun _ => 0))), (q10, .inl (G 0, 8, .inl (fun _ => 0))), (q11, .inl (G 0, 376320, .inl (fun _ => 0))), (q12, .inl (G 0, 4410, .inl (fun _ => 0))), (q13, .inl (G 0, 48, .inl (fun _ => 0))), (q14, .inl (G 0, 48, .inl (fun _ => 0)))] 201 [(2, .int 8), (0, .ref a)] [.ref q2, .ref q1]
  rw [ew, e1, e2]
  refine j_cS0 C dX9_init_201 (m_X9_copy_1_2 n (sM0 (jnd v1)) h) kc_X9_copy w_920 w_921 w_11 jy_X9_copy ⟨⟨Nat.le_of_ble_eq_true rfl, Nat.le_of_ble_eq_true rfl⟩, ⟨rfl, rfl⟩, ⟨Nat.le_of_ble_eq_true rfl, Nat.le_of_ble_eq_true rfl⟩⟩ (Nat.le_of_ble_eq_true rfl) rfl (fun _ _ h => h) ?_
  exact j_vret C dX9_init_204 rfl (Nat.le_of_ble_eq_true rfl) (Nat.le_of_ble_eq_true rfl) ⟨rfl, ad, e0.symm, rfl⟩
