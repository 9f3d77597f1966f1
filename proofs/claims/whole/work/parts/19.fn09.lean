theorem dX2_addGuest_0 : decode cX2_addGuest 0 = .ok (.aload_n 0, 1) := by decide +kernel
theorem dX2_addGuest_1 : decode cX2_addGuest 1 = .ok (.getfield 38, 3) := by decide +kernel
theorem dX2_addGuest_4 : decode cX2_addGuest 4 = .ok (.iconst 0, 1) := by decide +kernel
theorem dX2_addGuest_5 : decode cX2_addGuest 5 = .ok (.iconst 5, 1) := by decide +kernel
theorem dX2_addGuest_6 : decode cX2_addGuest 6 = .ok (.invokestatic 42, 3) := by decide +kernel
theorem dX2_addGuest_9 : decode cX2_addGuest 9 = .ok (.ifCond .ne 4, 3) := by decide +kernel
theorem dX2_addGuest_12 : decode cX2_addGuest 12 = .ok (.return_, 1) := by decide +kernel
theorem dX2_addGuest_13 : decode cX2_addGuest 13 = .ok (.aload_n 0, 1) := by decide +kernel
theorem dX2_addGuest_14 : decode cX2_addGuest 14 = .ok (.getfield 38, 3) := by decide +kernel
theorem dX2_addGuest_17 : decode cX2_addGuest 17 = .ok (.iconst 4, 1) := by decide +kernel
theorem dX2_addGuest_18 : decode cX2_addGuest 18 = .ok (.imul, 1) := by decide +kernel
theorem dX2_addGuest_19 : decode cX2_addGuest 19 = .ok (.istore 5, 2) := by decide +kernel
theorem dX2_addGuest_21 : decode cX2_addGuest 21 = .ok (.aload_n 0, 1) := by decide +kernel
theorem dX2_addGuest_22 : decode cX2_addGuest 22 = .ok (.getfield 25, 3) := by decide +kernel
theorem dX2_addGuest_25 : decode cX2_addGuest 25 = .ok (.iload 5, 2) := by decide +kernel
theorem dX2_addGuest_27 : decode cX2_addGuest 27 = .ok (.iload_n 1, 1) := by decide +kernel
theorem dX2_addGuest_28 : decode cX2_addGuest 28 = .ok (.iastore, 1) := by decide +kernel
theorem dX2_addGuest_29 : decode cX2_addGuest 29 = .ok (.aload_n 0, 1) := by decide +kernel
theorem dX2_addGuest_30 : decode cX2_addGuest 30 = .ok (.getfield 25, 3) := by decide +kernel
theorem dX2_addGuest_33 : decode cX2_addGuest 33 = .ok (.iload 5, 2) := by decide +kernel
theorem dX2_addGuest_35 : decode cX2_addGuest 35 = .ok (.iconst 1, 1) := by decide +kernel
theorem dX2_addGuest_36 : decode cX2_addGuest 36 = .ok (.iadd, 1) := by decide +kernel
theorem dX2_addGuest_37 : decode cX2_addGuest 37 = .ok (.iload_n 2, 1) := by decide +kernel
theorem dX2_addGuest_38 : decode cX2_addGuest 38 = .ok (.iastore, 1) := by decide +kernel
theorem dX2_addGuest_39 : decode cX2_addGuest 39 = .ok (.aload_n 0, 1) := by decide +kernel
theorem dX2_addGuest_40 : decode cX2_addGuest 40 = .ok (.getfield 25, 3) := by decide +kernel
theorem dX2_addGuest_43 : decode cX2_addGuest 43 = .ok (.iload 5, 2) := by decide +kernel
theorem dX2_addGuest_45 : decode cX2_addGuest 45 = .ok (.iconst 2, 1) := by decide +kernel
theorem dX2_addGuest_46 : decode cX2_addGuest 46 = .ok (.iadd, 1) := by decide +kernel
theorem dX2_addGuest_47 : decode cX2_addGuest 47 = .ok (.iload_n 3, 1) := by decide +kernel
theorem dX2_addGuest_48 : decode cX2_addGuest 48 = .ok (.iastore, 1) := by decide +kernel
theorem dX2_addGuest_49 : decode cX2_addGuest 49 = .ok (.aload_n 0, 1) := by decide +kernel
theorem dX2_addGuest_50 : decode cX2_addGuest 50 = .ok (.getfield 25, 3) := by decide +kernel
theorem dX2_addGuest_53 : decode cX2_addGuest 53 = .ok (.iload 5, 2) := by decide +kernel
theorem dX2_addGuest_55 : decode cX2_addGuest 55 = .ok (.iconst 3, 1) := by decide +kernel
theorem dX2_addGuest_56 : decode cX2_addGuest 56 = .ok (.iadd, 1) := by decide +kernel
theorem dX2_addGuest_57 : decode cX2_addGuest 57 = .ok (.iload 4, 2) := by decide +kernel
theorem dX2_addGuest_59 : decode cX2_addGuest 59 = .ok (.iastore, 1) := by decide +kernel
theorem dX2_addGuest_60 : decode cX2_addGuest 60 = .ok (.aload_n 0, 1) := by decide +kernel
theorem dX2_addGuest_61 : decode cX2_addGuest 61 = .ok (.dup, 1) := by decide +kernel
theorem dX2_addGuest_62 : decode cX2_addGuest 62 = .ok (.getfield 38, 3) := by decide +kernel
theorem dX2_addGuest_65 : decode cX2_addGuest 65 = .ok (.iconst 1, 1) := by decide +kernel
theorem dX2_addGuest_66 : decode cX2_addGuest 66 = .ok (.iadd, 1) := by decide +kernel
theorem dX2_addGuest_67 : decode cX2_addGuest 67 = .ok (.putfield 38, 3) := by decide +kernel
theorem dX2_addGuest_70 : decode cX2_addGuest 70 = .ok (.return_, 1) := by decide +kernel
theorem dX8_guest_0 : decode cX8_guest 0 = .ok (.aload_n 0, 1) := by decide +kernel
theorem dX8_guest_1 : decode cX8_guest 1 = .ok (.iload_n 1, 1) := by decide +kernel
theorem dX8_guest_2 : decode cX8_guest 2 = .ok (.iload_n 2, 1) := by decide +kernel
theorem dX8_guest_3 : decode cX8_guest 3 = .ok (.iload_n 3, 1) := by decide +kernel
theorem dX8_guest_4 : decode cX8_guest 4 = .ok (.iload 4, 2) := by decide +kernel
theorem dX8_guest_6 : decode cX8_guest 6 = .ok (.invokevirtual 141, 3) := by decide +kernel
theorem dX8_guest_9 : decode cX8_guest 9 = .ok (.ifCond .eq 15, 3) := by decide +kernel
theorem dX8_guest_12 : decode cX8_guest 12 = .ok (.aload_n 0, 1) := by decide +kernel
theorem dX8_guest_13 : decode cX8_guest 13 = .ok (.getfield 41, 3) := by decide +kernel
theorem dX8_guest_16 : decode cX8_guest 16 = .ok (.getfield 227, 3) := by decide +kernel
theorem dX8_guest_19 : decode cX8_guest 19 = .ok (.bipush 6, 2) := by decide +kernel
theorem dX8_guest_21 : decode cX8_guest 21 = .ok (.if_icmp .lt 5, 3) := by decide +kernel
theorem dX8_guest_24 : decode cX8_guest 24 = .ok (.iconst (-1), 1) := by decide +kernel
theorem dX8_guest_25 : decode cX8_guest 25 = .ok (.ireturn, 1) := by decide +kernel
theorem dX8_guest_26 : decode cX8_guest 26 = .ok (.aload_n 0, 1) := by decide +kernel
theorem dX8_guest_27 : decode cX8_guest 27 = .ok (.getfield 41, 3) := by decide +kernel
theorem dX8_guest_30 : decode cX8_guest 30 = .ok (.iload_n 1, 1) := by decide +kernel
theorem dX8_guest_31 : decode cX8_guest 31 = .ok (.iload_n 2, 1) := by decide +kernel
theorem dX8_guest_32 : decode cX8_guest 32 = .ok (.iload_n 3, 1) := by decide +kernel
theorem dX8_guest_33 : decode cX8_guest 33 = .ok (.iload 4, 2) := by decide +kernel
theorem dX8_guest_35 : decode cX8_guest 35 = .ok (.invokevirtual 230, 3) := by decide +kernel
theorem dX8_guest_38 : decode cX8_guest 38 = .ok (.aload_n 0, 1) := by decide +kernel
theorem dX8_guest_39 : decode cX8_guest 39 = .ok (.getfield 78, 3) := by decide +kernel
theorem dX8_guest_42 : decode cX8_guest 42 = .ok (.invokevirtual 107, 3) := by decide +kernel
theorem dX8_guest_45 : decode cX8_guest 45 = .ok (.aload_n 0, 1) := by decide +kernel
theorem dX8_guest_46 : decode cX8_guest 46 = .ok (.getfield 41, 3) := by decide +kernel
theorem dX8_guest_49 : decode cX8_guest 49 = .ok (.getfield 227, 3) := by decide +kernel
theorem dX8_guest_52 : decode cX8_guest 52 = .ok (.ireturn, 1) := by decide +kernel
theorem dX8_clear_0 : decode cX8_clear 0 = .ok (.aload_n 0, 1) := by decide +kernel
theorem dX8_clear_1 : decode cX8_clear 1 = .ok (.getfield 41, 3) := by decide +kernel
theorem dX8_clear_4 : decode cX8_clear 4 = .ok (.getfield 227, 3) := by decide +kernel
theorem dX8_clear_7 : decode cX8_clear 7 = .ok (.istore_n 1, 1) := by decide +kernel
theorem dX8_clear_8 : decode cX8_clear 8 = .ok (.aload_n 0, 1) := by decide +kernel
theorem dX8_clear_9 : decode cX8_clear 9 = .ok (.getfield 41, 3) := by decide +kernel
theorem dX8_clear_12 : decode cX8_clear 12 = .ok (.iconst 0, 1) := by decide +kernel
theorem dX8_clear_13 : decode cX8_clear 13 = .ok (.putfield 227, 3) := by decide +kernel
theorem dX8_clear_16 : decode cX8_clear 16 = .ok (.aload_n 0, 1) := by decide +kernel
theorem dX8_clear_17 : decode cX8_clear 17 = .ok (.getfield 78, 3) := by decide +kernel
theorem dX8_clear_20 : decode cX8_clear 20 = .ok (.invokevirtual 107, 3) := by decide +kernel
theorem dX8_clear_23 : decode cX8_clear 23 = .ok (.iload_n 1, 1) := by decide +kernel
theorem dX8_clear_24 : decode cX8_clear 24 = .ok (.ireturn, 1) := by decide +kernel
theorem dX0_startTrial_0 : decode cX0_startTrial 0 = .ok (.aload_n 0, 1) := by decide +kernel
theorem dX0_startTrial_1 : decode cX0_startTrial 1 = .ok (.iconst 0, 1) := by decide +kernel
theorem dX0_startTrial_2 : decode cX0_startTrial 2 = .ok (.putfield 34, 3) := by decide +kernel
theorem dX0_startTrial_5 : decode cX0_startTrial 5 = .ok (.aload_n 0, 1) := by decide +kernel
theorem dX0_startTrial_6 : decode cX0_startTrial 6 = .ok (.getfield 22, 3) := by decide +kernel
theorem dX0_startTrial_9 : decode cX0_startTrial 9 = .ok (.getfield 60, 3) := by decide +kernel
theorem dX0_startTrial_12 : decode cX0_startTrial 12 = .ok (.iconst 0, 1) := by decide +kernel
theorem dX0_startTrial_13 : decode cX0_startTrial 13 = .ok (.aload_n 0, 1) := by decide +kernel
theorem dX0_startTrial_14 : decode cX0_startTrial 14 = .ok (.getfield 9, 3) := by decide +kernel
theorem dX0_startTrial_17 : decode cX0_startTrial 17 = .ok (.iconst 0, 1) := by decide +kernel
theorem dX0_startTrial_18 : decode cX0_startTrial 18 = .ok (.bipush 8, 2) := by decide +kernel
theorem dX0_startTrial_20 : decode cX0_startTrial 20 = .ok (.invokestatic 65, 3) := by decide +kernel
theorem dX0_startTrial_23 : decode cX0_startTrial 23 = .ok (.iconst 0, 1) := by decide +kernel
theorem dX0_startTrial_24 : decode cX0_startTrial 24 = .ok (.istore_n 2, 1) := by decide +kernel
theorem dX0_startTrial_25 : decode cX0_startTrial 25 = .ok (.iload_n 2, 1) := by decide +kernel
theorem dX0_startTrial_26 : decode cX0_startTrial 26 = .ok (.aload_n 0, 1) := by decide +kernel
theorem dX0_startTrial_27 : decode cX0_startTrial 27 = .ok (.getfield 22, 3) := by decide +kernel
theorem dX0_startTrial_30 : decode cX0_startTrial 30 = .ok (.getfield 71, 3) := by decide +kernel
theorem dX0_startTrial_33 : decode cX0_startTrial 33 = .ok (.if_icmp .ge 132, 3) := by decide +kernel
theorem dX0_startTrial_36 : decode cX0_startTrial 36 = .ok (.iload_n 2, 1) := by decide +kernel
theorem dX0_startTrial_37 : decode cX0_startTrial 37 = .ok (.bipush 6, 2) := by decide +kernel
theorem dX0_startTrial_39 : decode cX0_startTrial 39 = .ok (.if_icmp .ge 126, 3) := by decide +kernel
theorem dX0_startTrial_42 : decode cX0_startTrial 42 = .ok (.iconst 0, 1) := by decide +kernel
theorem dX0_startTrial_43 : decode cX0_startTrial 43 = .ok (.istore_n 3, 1) := by decide +kernel
theorem dX0_startTrial_44 : decode cX0_startTrial 44 = .ok (.iload_n 3, 1) := by decide +kernel
theorem dX0_startTrial_45 : decode cX0_startTrial 45 = .ok (.aload_n 0, 1) := by decide +kernel
theorem dX0_startTrial_46 : decode cX0_startTrial 46 = .ok (.getfield 18, 3) := by decide +kernel
theorem dX0_startTrial_49 : decode cX0_startTrial 49 = .ok (.if_icmp .ge 110, 3) := by decide +kernel
theorem dX0_startTrial_52 : decode cX0_startTrial 52 = .ok (.aload_n 0, 1) := by decide +kernel
theorem dX0_startTrial_53 : decode cX0_startTrial 53 = .ok (.getfield 22, 3) := by decide +kernel
theorem dX0_startTrial_56 : decode cX0_startTrial 56 = .ok (.getfield 74, 3) := by decide +kernel
theorem dX0_startTrial_59 : decode cX0_startTrial 59 = .ok (.iload_n 3, 1) := by decide +kernel
theorem dX0_startTrial_60 : decode cX0_startTrial 60 = .ok (.baload, 1) := by decide +kernel
theorem dX0_startTrial_61 : decode cX0_startTrial 61 = .ok (.ifCond .ne 27, 3) := by decide +kernel
theorem dX0_startTrial_64 : decode cX0_startTrial 64 = .ok (.aload_n 0, 1) := by decide +kernel
theorem dX0_startTrial_65 : decode cX0_startTrial 65 = .ok (.getfield 22, 3) := by decide +kernel
theorem dX0_startTrial_68 : decode cX0_startTrial 68 = .ok (.getfield 78, 3) := by decide +kernel
theorem dX0_startTrial_71 : decode cX0_startTrial 71 = .ok (.iload_n 2, 1) := by decide +kernel
theorem dX0_startTrial_72 : decode cX0_startTrial 72 = .ok (.iconst 4, 1) := by decide +kernel
theorem dX0_startTrial_73 : decode cX0_startTrial 73 = .ok (.imul, 1) := by decide +kernel
theorem dX0_startTrial_74 : decode cX0_startTrial 74 = .ok (.iconst 1, 1) := by decide +kernel
theorem dX0_startTrial_75 : decode cX0_startTrial 75 = .ok (.iadd, 1) := by decide +kernel
theorem dX0_startTrial_76 : decode cX0_startTrial 76 = .ok (.iaload, 1) := by decide +kernel
theorem dX0_startTrial_77 : decode cX0_startTrial 77 = .ok (.iload_n 3, 1) := by decide +kernel
theorem dX0_startTrial_78 : decode cX0_startTrial 78 = .ok (.invokestatic 81, 3) := by decide +kernel
theorem dX0_startTrial_81 : decode cX0_startTrial 81 = .ok (.ifCond .ne 7, 3) := by decide +kernel
theorem dX0_startTrial_84 : decode cX0_startTrial 84 = .ok (.iconst 1, 1) := by decide +kernel
theorem dX0_startTrial_85 : decode cX0_startTrial 85 = .ok (.goto 4, 3) := by decide +kernel
theorem dX0_startTrial_88 : decode cX0_startTrial 88 = .ok (.iconst 0, 1) := by decide +kernel
theorem dX0_startTrial_89 : decode cX0_startTrial 89 = .ok (.istore 4, 2) := by decide +kernel
theorem dX0_startTrial_91 : decode cX0_startTrial 91 = .ok (.iconst 0, 1) := by decide +kernel
theorem dX0_startTrial_92 : decode cX0_startTrial 92 = .ok (.istore 5, 2) := by decide +kernel
theorem dX0_startTrial_94 : decode cX0_startTrial 94 = .ok (.iload 5, 2) := by decide +kernel
theorem dX0_startTrial_96 : decode cX0_startTrial 96 = .ok (.aload_n 0, 1) := by decide +kernel
theorem dX0_startTrial_97 : decode cX0_startTrial 97 = .ok (.getfield 22, 3) := by decide +kernel
theorem dX0_startTrial_100 : decode cX0_startTrial 100 = .ok (.getfield 85, 3) := by decide +kernel
theorem dX0_startTrial_103 : decode cX0_startTrial 103 = .ok (.if_icmp .ge 50, 3) := by decide +kernel
theorem dX0_startTrial_106 : decode cX0_startTrial 106 = .ok (.iload 4, 2) := by decide +kernel
theorem dX0_startTrial_108 : decode cX0_startTrial 108 = .ok (.ifCond .eq 39, 3) := by decide +kernel
theorem dX0_startTrial_111 : decode cX0_startTrial 111 = .ok (.iload_n 1, 1) := by decide +kernel
theorem dX0_startTrial_112 : decode cX0_startTrial 112 = .ok (.ifCond .ne 14, 3) := by decide +kernel
theorem dX0_startTrial_115 : decode cX0_startTrial 115 = .ok (.iload 5, 2) := by decide +kernel
theorem dX0_startTrial_117 : decode cX0_startTrial 117 = .ok (.aload_n 0, 1) := by decide +kernel
theorem dX0_startTrial_118 : decode cX0_startTrial 118 = .ok (.getfield 9, 3) := by decide +kernel
theorem dX0_startTrial_121 : decode cX0_startTrial 121 = .ok (.iload_n 3, 1) := by decide +kernel
theorem dX0_startTrial_122 : decode cX0_startTrial 122 = .ok (.iaload, 1) := by decide +kernel
theorem dX0_startTrial_123 : decode cX0_startTrial 123 = .ok (.if_icmp .ne 24, 3) := by decide +kernel
theorem dX0_startTrial_126 : decode cX0_startTrial 126 = .ok (.aload_n 0, 1) := by decide +kernel
theorem dX0_startTrial_127 : decode cX0_startTrial 127 = .ok (.getfield 26, 3) := by decide +kernel
theorem dX0_startTrial_130 : decode cX0_startTrial 130 = .ok (.iload 5, 2) := by decide +kernel
theorem dX0_startTrial_132 : decode cX0_startTrial 132 = .ok (.iload_n 3, 1) := by decide +kernel
theorem dX0_startTrial_133 : decode cX0_startTrial 133 = .ok (.aload_n 0, 1) := by decide +kernel
theorem dX0_startTrial_134 : decode cX0_startTrial 134 = .ok (.getfield 22, 3) := by decide +kernel
theorem dX0_startTrial_137 : decode cX0_startTrial 137 = .ok (.getfield 78, 3) := by decide +kernel
theorem dX0_startTrial_140 : decode cX0_startTrial 140 = .ok (.iload_n 2, 1) := by decide +kernel
theorem dX0_startTrial_141 : decode cX0_startTrial 141 = .ok (.iconst 4, 1) := by decide +kernel
theorem dX0_startTrial_142 : decode cX0_startTrial 142 = .ok (.imul, 1) := by decide +kernel
theorem dX0_startTrial_143 : decode cX0_startTrial 143 = .ok (.iaload, 1) := by decide +kernel
theorem dX0_startTrial_144 : decode cX0_startTrial 144 = .ok (.invokevirtual 88, 3) := by decide +kernel
theorem dX0_startTrial_147 : decode cX0_startTrial 147 = .ok (.iinc 5 1, 3) := by decide +kernel
theorem dX0_startTrial_150 : decode cX0_startTrial 150 = .ok (.goto (-56), 3) := by decide +kernel
theorem dX0_startTrial_153 : decode cX0_startTrial 153 = .ok (.iinc 3 1, 3) := by decide +kernel
theorem dX0_startTrial_156 : decode cX0_startTrial 156 = .ok (.goto (-112), 3) := by decide +kernel
theorem dX0_startTrial_159 : decode cX0_startTrial 159 = .ok (.iinc 2 1, 3) := by decide +kernel
theorem dX0_startTrial_162 : decode cX0_startTrial 162 = .ok (.goto (-137), 3) := by decide +kernel
theorem dX0_startTrial_165 : decode cX0_startTrial 165 = .ok (.return_, 1) := by decide +kernel
-- X2_addGuest_18
def F_X2_addGuest_18 (v1 : Int32) (v2 : Int32) (v3 : Int32) (v4 : Int32) (s : jS) : Option jS :=
  (if (F_X8_within (s.1 18 8) 0 5) = true then (if jin ((s.1 18 8) * 4) 24 = true then (if jin (((s.1 18 8) * 4) + 1) 24 = true then (if jin (((s.1 18 8) * 4) + 2) 24 = true then (if jin (((s.1 18 8) * 4) + 3) 24 = true then some (upI (upI (upI (upI (upI s 23 (Int32.toNatClampNeg ((s.1 18 8) * 4)) v1) 23 (Int32.toNatClampNeg (((s.1 18 8) * 4) + 1)) v2) 23 (Int32.toNatClampNeg (((s.1 18 8) * 4) + 2)) v3) 23 (Int32.toNatClampNeg (((s.1 18 8) * 4) + 3)) v4) 18 8 (((upI (upI (upI (upI s 23 (Int32.toNatClampNeg ((s.1 18 8) * 4)) v1) 23 (Int32.toNatClampNeg (((s.1 18 8) * 4) + 1)) v2) 23 (Int32.toNatClampNeg (((s.1 18 8) * 4) + 2)) v3) 23 (Int32.toNatClampNeg (((s.1 18 8) * 4) + 3)) v4).1 18 8) + 1)) else none) else none) else none) else none) else some s)
def rm_X2_addGuest_18 : Room := { frames := 1, cells := 0, slots := 0, locals := 22 }
set_option maxHeartbeats 4000000 in
set_option maxRecDepth 100000 in
theorem m_X2_addGuest_18 {l : Launch} {D : va_G} {G : Nat → ClassId} {KV : (Nat → Nat) × (Nat → Nat)} {ad : Nat → Nat} {nd : Nat} (v1 : Int32) (v2 : Int32) (v3 : Int32) (v4 : Int32) (s : jS) {p : jS} (h : F_X2_addGuest_18 v1 v2 v3 v4 s = some p) : jM l D G KV yX2_addGuest cX2_addGuest 6 none rm_X2_addGuest_18 [.ref (ad 18), .int v1, .int v2, .int v3, .int v4] (jw 54 (cellC G nd) ad s) 0 0 (fun v u => v = none ∧ u = jw 54 (cellC G nd) ad p) := by
  refine jM.of (by decide) (Nat.le_of_ble_eq_true rfl) ?_
  intro K C
  unfold F_X2_addGuest_18 at h
  show K 0 0 (jw 54 (cellC G nd) ad s) 0 [(0, .ref (ad 18)), (1, .int v1), (2, .int v2), (3, .int v3), (4, .int v4)] []
  refine j_aload_n C dX2_addGuest_0 0 rfl ?_
  refine j_getW C dX2_addGuest_1 inX2 rfl (by decide) rfl 8 (by decide) w_139 rfl rfl ?_
  refine j_iconst C dX2_addGuest_4 (v := 0) (by decide) ?_
  refine j_iconst C dX2_addGuest_5 (v := 5) (by decide) ?_
  refine j_cSN1 C (host := "RoadOfDoors") dX2_addGuest_6 (m_X8_within (s.1 18 8) 0 5 rfl) kc_X8_within (by decide +kernel) w_378 w_1 jy_X8_within ⟨⟨Nat.le_of_ble_eq_true rfl, Nat.le_of_ble_eq_true rfl⟩, ⟨rfl, rfl⟩, ⟨Nat.zero_le _, Nat.zero_le _⟩⟩ (Nat.le_of_ble_eq_true rfl) rfl (fun _ _ h => h) ?_
  refine j_if_ne C dX2_addGuest_9 (tgt := 13) (by decide) (fun cq => ?_) (fun cq => ?_)
  · have h := jite_t h (jb_t cq)
    refine j_aload_n C dX2_addGuest_13 0 rfl ?_
    refine j_getW C dX2_addGuest_14 inX2 rfl (by decide) rfl 8 (by decide) w_139 rfl rfl ?_
    refine j_iconst C dX2_addGuest_17 (v := 4) (by decide) ?_
    refine j_imul C dX2_addGuest_18 ?_
    refine j_istore C dX2_addGuest_19 (by decide) rfl ?_
    refine j_aload_n C dX2_addGuest_21 1 rfl ?_
    refine j_getW C dX2_addGuest_22 inX2 rfl (by decide) rfl 4 (by decide) w_129 rfl rfl ?_
    refine j_iload C dX2_addGuest_25 0 rfl ?_
    refine j_iload_n C dX2_addGuest_27 2 rfl ?_
    obtain ⟨c28_1, h⟩ := jchk h
    refine j_iastW C dX2_addGuest_28 (by decide) (fun _ => rfl) (jin_vp c28_1) ?_
    refine j_aload_n C dX2_addGuest_29 1 rfl ?_
    refine j_getW C dX2_addGuest_30 inX2 rfl (by decide) rfl 4 (by decide) w_129 rfl rfl ?_
    refine j_iload C dX2_addGuest_33 0 rfl ?_
    refine j_iconst C dX2_addGuest_35 (v := 1) (by decide) ?_
    refine j_iadd C dX2_addGuest_36 ?_
    refine j_iload_n C dX2_addGuest_37 3 rfl ?_
    obtain ⟨c38_2, h⟩ := jchk h
    refine j_iastW C dX2_addGuest_38 (by decide) (fun _ => rfl) (jin_vp c38_2) ?_
    refine j_aload_n C dX2_addGuest_39 1 rfl ?_
    refine j_getW C dX2_addGuest_40 inX2 rfl (by decide) rfl 4 (by decide) w_129 rfl rfl ?_
    refine j_iload C dX2_addGuest_43 0 rfl ?_
    refine j_iconst C dX2_addGuest_45 (v := 2) (by decide) ?_
    refine j_iadd C dX2_addGuest_46 ?_
    refine j_iload_n C dX2_addGuest_47 4 rfl ?_
    obtain ⟨c48_3, h⟩ := jchk h
    refine j_iastW C dX2_addGuest_48 (by decide) (fun _ => rfl) (jin_vp c48_3) ?_
    refine j_aload_n C dX2_addGuest_49 1 rfl ?_
    refine j_getW C dX2_addGuest_50 inX2 rfl (by decide) rfl 4 (by decide) w_129 rfl rfl ?_
    refine j_iload C dX2_addGuest_53 0 rfl ?_
    refine j_iconst C dX2_addGuest_55 (v := 3) (by decide) ?_
    refine j_iadd C dX2_addGuest_56 ?_
    refine j_iload C dX2_addGuest_57 5 rfl ?_
    obtain ⟨c59_4, h⟩ := jchk h
    refine j_iastW C dX2_addGuest_59 (by decide) (fun _ => rfl) (jin_vp c59_4) ?_
    refine j_aload_n C dX2_addGuest_60 1 rfl ?_
    refine j_dup C dX2_addGuest_61 rfl ?_
    refine j_getW C dX2_addGuest_62 inX2 rfl (by decide) rfl 8 (by decide) w_139 rfl rfl ?_
    refine j_iconst C dX2_addGuest_65 (v := 1) (by decide) ?_
    refine j_iadd C dX2_addGuest_66 ?_
    refine j_putI C dX2_addGuest_67 inX2 tyX2 tyX2_ok nmX2 rfl (by decide) 8 rfl rfl (by decide) w_139 rfl rfl rfl rfl (Nat.le_of_ble_eq_true rfl) ?_
    exact j_vret C dX2_addGuest_70 rfl (Nat.zero_le _) (Nat.zero_le _) (jretWV h)
  · have h := jite_f h (jb_f cq)
    exact j_vret C dX2_addGuest_12 rfl (Nat.zero_le _) (Nat.zero_le _) (jretWV h)
-- X8_guest
def F_X8_guest (v1 : Int32) (v2 : Int32) (v3 : Int32) (v4 : Int32) (s : jS) : Option (Int32 × jS) :=
  (if (F_X8_isTraveller v1 v2 v3 v4 s) = true then (if (s.1 18 8) < 6 then ((F_X2_addGuest_18 v1 v2 v3 v4 s).bind fun p35 => ((F_X0_forget p35).bind fun p42 => some ((p42.1 18 8), p42))) else some ((-1), s)) else some ((-1), s))
def rm_X8_guest : Room := { frames := 3, cells := 0, slots := 0, locals := 66 }
set_option maxHeartbeats 4000000 in
set_option maxRecDepth 100000 in
theorem m_X8_guest {l : Launch} {D : va_G} {G : Nat → ClassId} {KV : (Nat → Nat) × (Nat → Nat)} {ad : Nat → Nat} {nd : Nat} (v1 : Int32) (v2 : Int32) (v3 : Int32) (v4 : Int32) (s : jS) {p : Int32 × jS} (h : F_X8_guest v1 v2 v3 v4 s = some p) : jM l D G KV yX8_guest cX8_guest 5 (some .int) rm_X8_guest [.ref (ad 0), .int v1, .int v2, .int v3, .int v4] (jw 54 (cellC G nd) ad s) 0 0 (fun v u => v = some (.int p.1) ∧ u = jw 54 (cellC G nd) ad p.2) := by
  refine jM.of (by decide) (Nat.le_of_ble_eq_true rfl) ?_
  intro K C
  unfold F_X8_guest at h
  show K 0 0 (jw 54 (cellC G nd) ad s) 0 [(0, .ref (ad 0)), (1, .int v1), (2, .int v2), (3, .int v3), (4, .int v4)] []
  refine j_aload_n C dX8_guest_0 0 rfl ?_
  refine j_iload_n C dX8_guest_1 1 rfl ?_
  refine j_iload_n C dX8_guest_2 2 rfl ?_
  refine j_iload_n C dX8_guest_3 3 rfl ?_
  refine j_iload C dX8_guest_4 4 rfl ?_
  refine j_cV1 C dX8_guest_6 (m_X8_isTraveller v1 v2 v3 v4 s rfl) kc_X8_isTraveller w_673 w_675 wp_26 w_1 jy_X8_isTraveller ⟨⟨Nat.le_of_ble_eq_true rfl, Nat.le_of_ble_eq_true rfl⟩, ⟨rfl, rfl⟩, ⟨Nat.zero_le _, Nat.zero_le _⟩⟩ (Nat.le_of_ble_eq_true rfl) (by decide) rfl (r := (RX8, TX8, 9)) rfl rfl rfl (fun _ _ h => h) ?_
  refine j_if_eq C dX8_guest_9 (tgt := 24) (by decide) (fun cq => ?_) (fun cq => ?_)
  · have h := jite_f h (jb_f cq)
    refine j_iconst C dX8_guest_24 (v := (-1)) (by decide) ?_
    exact j_iret C dX8_guest_25 rfl rfl (Nat.zero_le _) (Nat.zero_le _) (jretWI h)
  · have h := jite_t h (jb_t cq)
    refine j_aload_n C dX8_guest_12 0 rfl ?_
    refine j_getW C dX8_guest_13 inX8 rfl (by decide) rfl 1 (by decide) w_343 rfl rfl ?_
    refine j_getW C dX8_guest_16 inX2 rfl (by decide) rfl 8 (by decide) w_141 rfl rfl ?_
    refine j_bipush C dX8_guest_19 (v := 6) (by decide) ?_
    refine j_icmp_lt C dX8_guest_21 (tgt := 26) (by decide) (fun cq => ?_) (fun cq => ?_)
    · have h := jite_t h cq
      refine j_aload_n C dX8_guest_26 0 rfl ?_
      refine j_getW C dX8_guest_27 inX8 rfl (by decide) rfl 1 (by decide) w_343 rfl rfl ?_
      refine j_iload_n C dX8_guest_30 1 rfl ?_
      refine j_iload_n C dX8_guest_31 2 rfl ?_
      refine j_iload_n C dX8_guest_32 3 rfl ?_
      refine j_iload C dX8_guest_33 4 rfl ?_
      obtain ⟨p35, he35, h⟩ := jbind h
      refine j_cV0 C dX8_guest_35 (m_X2_addGuest_18 v1 v2 v3 v4 s he35) kc_X2_addGuest w_815 w_816 w_817 w_4 jy_X2_addGuest ⟨⟨Nat.le_of_ble_eq_true rfl, Nat.le_of_ble_eq_true rfl⟩, ⟨rfl, rfl⟩, ⟨Nat.zero_le _, Nat.zero_le _⟩⟩ (Nat.le_of_ble_eq_true rfl) (by decide) rfl (r := (RX2, TX2, 10)) rfl rfl rfl (fun _ _ h => h) ?_
      refine j_aload_n C dX8_guest_38 0 rfl ?_
      refine j_getW C dX8_guest_39 inX8 rfl (by decide) rfl 8 (by decide) w_350 rfl rfl ?_
      obtain ⟨p42, he42, h⟩ := jbind h
      refine j_cV0 C dX8_guest_42 (m_X0_forget p35 he42) kc_X0_forget w_388 w_389 w_390 w_10 jy_X0_forget ⟨⟨Nat.le_of_ble_eq_true rfl, Nat.le_of_ble_eq_true rfl⟩, ⟨rfl, rfl⟩, ⟨Nat.zero_le _, Nat.zero_le _⟩⟩ (Nat.le_of_ble_eq_true rfl) (by decide) rfl (r := (RX0, TX0, 8)) rfl rfl rfl (fun _ _ h => h) ?_
      refine j_aload_n C dX8_guest_45 0 rfl ?_
      refine j_getW C dX8_guest_46 inX8 rfl (by decide) rfl 1 (by decide) w_343 rfl rfl ?_
      refine j_getW C dX8_guest_49 inX2 rfl (by decide) rfl 8 (by decide) w_141 rfl rfl ?_
      exact j_iret C dX8_guest_52 rfl rfl (Nat.zero_le _) (Nat.zero_le _) (jretWI h)
    · have h := jite_f h cq
      refine j_iconst C dX8_guest_24 (v := (-1)) (by decide) ?_
      exact j_iret C dX8_guest_25 rfl rfl (Nat.zero_le _) (Nat.zero_le _) (jretWI h)
-- X8_clear
def F_X8_clear (s : jS) : Option (Int32 × jS) :=
  ((F_X0_forget (upI s 18 8 0)).bind fun p20 => some ((s.1 18 8), p20))
def rm_X8_clear : Room := { frames := 1, cells := 0, slots := 0, locals := 20 }
set_option maxHeartbeats 4000000 in
set_option maxRecDepth 100000 in
theorem m_X8_clear {l : Launch} {D : va_G} {G : Nat → ClassId} {KV : (Nat → Nat) × (Nat → Nat)} {ad : Nat → Nat} {nd : Nat} (s : jS) {p : Int32 × jS} (h : F_X8_clear s = some p) : jM l D G KV yX8_clear cX8_clear 2 (some .int) rm_X8_clear [.ref (ad 0)] (jw 54 (cellC G nd) ad s) 0 0 (fun v u => v = some (.int p.1) ∧ u = jw 54 (cellC G nd) ad p.2) := by
  refine jM.of (by decide) (Nat.le_of_ble_eq_true rfl) ?_
  intro K C
  unfold F_X8_clear at h
  show K 0 0 (jw 54 (cellC G nd) ad s) 0 [(0, .ref (ad 0))] []
  refine j_aload_n C dX8_clear_0 0 rfl ?_
  refine j_getW C dX8_clear_1 inX8 rfl (by decide) rfl 1 (by decide) w_343 rfl rfl ?_
  refine j_getW C dX8_clear_4 inX2 rfl (by decide) rfl 8 (by decide) w_141 rfl rfl ?_
  refine j_istore_n C dX8_clear_7 (by decide) rfl ?_
  refine j_aload_n C dX8_clear_8 1 rfl ?_
  refine j_getW C dX8_clear_9 inX8 rfl (by decide) rfl 1 (by decide) w_343 rfl rfl ?_
  refine j_iconst C dX8_clear_12 (v := 0) (by decide) ?_
  refine j_putI C dX8_clear_13 inX2 tyX2 tyX2_ok nmX2 rfl (by decide) 8 rfl rfl (by decide) w_141 rfl rfl rfl rfl (Nat.le_of_ble_eq_true rfl) ?_
  refine j_aload_n C dX8_clear_16 1 rfl ?_
  refine j_getW C dX8_clear_17 inX8 rfl (by decide) rfl 8 (by decide) w_350 rfl rfl ?_
  obtain ⟨p20, he20, h⟩ := jbind h
  refine j_cV0 C dX8_clear_20 (m_X0_forget (upI s 18 8 0) he20) kc_X0_forget w_388 w_389 w_390 w_10 jy_X0_forget ⟨⟨Nat.le_of_ble_eq_true rfl, Nat.le_of_ble_eq_true rfl⟩, ⟨rfl, rfl⟩, ⟨Nat.zero_le _, Nat.zero_le _⟩⟩ (Nat.le_of_ble_eq_true rfl) (by decide) rfl (r := (RX0, TX0, 8)) rfl rfl rfl (fun _ _ h => h) ?_
  refine j_iload_n C dX8_clear_23 0 rfl ?_
  exact j_iret C dX8_clear_24 rfl rfl (Nat.zero_le _) (Nat.zero_le _) (jretWI h)
-- X0_startTrial
def J_X0_startTrial_126 (nd : Nat) (n : Nat) (v1 : Bool) (v2 : Int32) (v3 : Int32) (v4 : Bool) (v5 : Int32) (s : jS) : Option ((Int32 × jS) ⊕ (Int32 × jS)) :=
  (if jin (v2 * 4) 24 = true then ((F_X3_learn nd n v5 v3 (s.1 23 (Int32.toNatClampNeg (v2 * 4))) s).bind fun p144 => some (.inl ((v5 + 1), p144))) else none)
def B_X0_startTrial_94 (nd : Nat) (n : Nat) (v1 : Bool) (v2 : Int32) (v3 : Int32) (v4 : Bool) (q : Int32 × jS) : Option ((Int32 × jS) ⊕ (Int32 × jS)) :=
  (if (q.2.1 18 7) ≤ q.1 then some (.inr (q.1, q.2)) else (if v4 = true then (if v1 = true then J_X0_startTrial_126 nd n v1 v2 v3 v4 q.1 q.2 else (if jin v3 8 = true then (if q.1 = (q.2.1 52 (Int32.toNatClampNeg v3)) then J_X0_startTrial_126 nd n v1 v2 v3 v4 q.1 q.2 else some (.inl ((q.1 + 1), q.2))) else none)) else some (.inl ((q.1 + 1), q.2))))
def B_X0_startTrial_44 (nd : Nat) (n : Nat) (v1 : Bool) (v2 : Int32) (q : Int32 × jS) : Option ((Int32 × jS) ⊕ (Int32 × jS)) :=
  (if (q.2.1 51 1) ≤ q.1 then some (.inr (q.1, q.2)) else (if jin q.1 8 = true then (if (jz (q.2.1 22 (Int32.toNatClampNeg q.1))) = true then ((lp (B_X0_startTrial_94 nd n v1 v2 q.1 false) n (0, q.2)).bind fun e94 => some (.inl ((q.1 + 1), e94.2))) else (if jin ((v2 * 4) + 1) 24 = true then (if (F_X8_hasKey (q.2.1 23 (Int32.toNatClampNeg ((v2 * 4) + 1))) q.1) = true then ((lp (B_X0_startTrial_94 nd n v1 v2 q.1 false) n (0, q.2)).bind fun e94 => some (.inl ((q.1 + 1), e94.2))) else ((lp (B_X0_startTrial_94 nd n v1 v2 q.1 true) n (0, q.2)).bind fun e94 => some (.inl ((q.1 + 1), e94.2)))) else none)) else none))
def B_X0_startTrial_25 (nd : Nat) (n : Nat) (v1 : Bool) (q : Int32 × jS) : Option ((Int32 × jS) ⊕ (Int32 × jS)) :=
  (if (q.2.1 18 8) ≤ q.1 then some (.inr (q.1, q.2)) else (if 6 ≤ q.1 then some (.inr (q.1, q.2)) else ((lp (B_X0_startTrial_44 nd n v1 q.1) n (0, q.2)).bind fun e44 => some (.inl ((q.1 + 1), e44.2)))))
def F_X0_startTrial (nd : Nat) (n : Nat) (v1 : Bool) (s : jS) : Option jS :=
  ((lp (B_X0_startTrial_25 nd n v1) n (0, (upR (upI s 51 7 (jb false)) 52 (va_cpy ((upI s 51 7 (jb false)).1 21) ((upI s 51 7 (jb false)).1 52) (Int32.toNatClampNeg 0) (Int32.toNatClampNeg 0) (Int32.toNatClampNeg 8))))).bind fun e25 => some e25.2)
def rm_X0_startTrial : Room := { frames := 4, cells := 0, slots := 0, locals := 106 }
set_option maxHeartbeats 4000000 in
set_option maxRecDepth 100000 in
theorem m_X0_startTrial {l : Launch} {D : va_G} {G : Nat → ClassId} {KV : (Nat → Nat) × (Nat → Nat)} {ad : Nat → Nat} (nd : Nat) (n : Nat) (v1 : Bool) (s : jS) {p : jS} (h : F_X0_startTrial nd n v1 s = some p) : jM l D G KV yX0_startTrial cX0_startTrial 6 none rm_X0_startTrial [.ref (ad 51), .int (jb v1)] (jw 54 (cellC G nd) ad s) 0 0 (fun v u => v = none ∧ u = jw 54 (cellC G nd) ad p) := by
  refine jM.of (by decide) (Nat.le_of_ble_eq_true rfl) ?_
  intro K C
  unfold F_X0_startTrial at h
  have jn126_94 : ∀ (v1 : Bool) (v2 : Int32) (v3 : Int32) (v4 : Bool) (v5 : Int32) (s : jS) (o : (Int32 × jS) ⊕ (Int32 × jS)), J_X0_startTrial_126 nd n v1 v2 v3 v4 v5 s = some o → (∀ q, o = .inl q → K 0 0 (jw 54 (cellC G nd) ad q.2) 94 [(0, .ref (ad 51)), (1, .int (jb v1)), (2, .int v2), (3, .int v3), (4, .int (jb v4)), (5, .int q.1)] []) → (∀ e, o = .inr e → K 0 0 (jw 54 (cellC G nd) ad e.2) 153 [(0, .ref (ad 51)), (1, .int (jb v1)), (2, .int v2), (3, .int v3)] []) → K 0 0 (jw 54 (cellC G nd) ad s) 126 [(0, .ref (ad 51)), (1, .int (jb v1)), (2, .int v2), (3, .int v3), (4, .int (jb v4)), (5, .int v5)] [] := by
    intro v1 v2 v3 v4 v5 s o hb hin hout
    unfold J_X0_startTrial_126 at hb
    refine j_aload_n C dX0_startTrial_126 0 rfl ?_
    refine j_getW C dX0_startTrial_127 inX0 rfl (by decide) rfl 3 (by decide) w_320 rfl rfl ?_
    refine j_iload C dX0_startTrial_130 5 rfl ?_
    refine j_iload_n C dX0_startTrial_132 3 rfl ?_
    refine j_aload_n C dX0_startTrial_133 0 rfl ?_
    refine j_getW C dX0_startTrial_134 inX0 rfl (by decide) rfl 2 (by decide) w_319 rfl rfl ?_
    refine j_getW C dX0_startTrial_137 inX2 rfl (by decide) rfl 4 (by decide) w_130 rfl rfl ?_
    refine j_iload_n C dX0_startTrial_140 2 rfl ?_
    refine j_iconst C dX0_startTrial_141 (v := 4) (by decide) ?_
    refine j_imul C dX0_startTrial_142 ?_
    obtain ⟨c143_2, hb⟩ := jchk hb
    refine j_ialdW C dX0_startTrial_143 (by decide) rfl (jin_vp c143_2) ?_
    obtain ⟨p144, he144, hb⟩ := jbind hb
    refine j_cV0 C dX0_startTrial_144 (m_X3_learn nd n v5 v3 (s.1 23 (Int32.toNatClampNeg (v2 * 4))) s he144) kc_X3_learn w_838 w_750 w_751 w_7 jy_X3_learn ⟨⟨Nat.le_of_ble_eq_true rfl, Nat.le_of_ble_eq_true rfl⟩, ⟨rfl, rfl⟩, ⟨Nat.zero_le _, Nat.zero_le _⟩⟩ (Nat.le_of_ble_eq_true rfl) (by decide) rfl (r := (RX3, TX3, 7)) rfl rfl rfl (fun _ _ h => h) ?_
    refine j_iinc C dX0_startTrial_147 5 rfl (v := (v5 + 1)) rfl (by decide) rfl ?_
    refine j_goto C dX0_startTrial_150 (tgt := 94) (by decide) ?_
    refine j_loc C [1, 2, 3, 4, 5, 0] rfl ?_
    have hx := hin _ (jinl hb)
    exact hx
  have lo94 : ∀ (v1 : Bool) (v2 : Int32) (v3 : Int32) (v4 : Bool) (s : jS) (k : Nat) (q : Int32 × jS) (e : Int32 × jS), lp (B_X0_startTrial_94 nd n v1 v2 v3 v4) k q = some e → K 0 0 (jw 54 (cellC G nd) ad e.2) 153 [(0, .ref (ad 51)), (1, .int (jb v1)), (2, .int v2), (3, .int v3)] [] → K 0 0 (jw 54 (cellC G nd) ad q.2) 94 [(0, .ref (ad 51)), (1, .int (jb v1)), (2, .int v2), (3, .int v3), (4, .int (jb v4)), (5, .int q.1)] [] := by
    intro v1 v2 v3 v4 s k q e he hE
    refine jlp (KH := fun q => K 0 0 (jw 54 (cellC G nd) ad q.2) 94 [(0, .ref (ad 51)), (1, .int (jb v1)), (2, .int v2), (3, .int v3), (4, .int (jb v4)), (5, .int q.1)] []) (KE := fun e => K 0 0 (jw 54 (cellC G nd) ad e.2) 153 [(0, .ref (ad 51)), (1, .int (jb v1)), (2, .int v2), (3, .int v3)] []) ?_ k q e he hE
    intro q o hb hin hout
    unfold B_X0_startTrial_94 at hb
    show K 0 0 (jw 54 (cellC G nd) ad q.2) 94 [(0, .ref (ad 51)), (1, .int (jb v1)), (2, .int v2), (3, .int v3), (4, .int (jb v4)), (5, .int q.1)] []
    refine j_iload C dX0_startTrial_94 5 rfl ?_
    refine j_aload_n C dX0_startTrial_96 0 rfl ?_
    refine j_getW C dX0_startTrial_97 inX0 rfl (by decide) rfl 2 (by decide) w_319 rfl rfl ?_
    refine j_getW C dX0_startTrial_100 inX2 rfl (by decide) rfl 7 (by decide) w_137 rfl rfl ?_
    refine j_icmp_ge C dX0_startTrial_103 (tgt := 153) (by decide) (fun cq => ?_) (fun cq => ?_)
    · have hb := jite_t hb cq
      refine j_loc C [0, 1, 2, 3] rfl ?_
      have hx := hout _ (jinr hb)
      exact hx
    · have hb := jite_f hb cq
      refine j_iload C dX0_startTrial_106 4 rfl ?_
      refine j_if_eq C dX0_startTrial_108 (tgt := 147) (by decide) (fun cq => ?_) (fun cq => ?_)
      · have hb := jite_f hb (jb_f cq)
        refine j_iinc C dX0_startTrial_147 5 rfl (v := (q.1 + 1)) rfl (by decide) rfl ?_
        refine j_goto C dX0_startTrial_150 (tgt := 94) (by decide) ?_
        refine j_loc C [1, 2, 3, 4, 5, 0] rfl ?_
        have hx := hin _ (jinl hb)
        exact hx
      · have hb := jite_t hb (jb_t cq)
        refine j_iload_n C dX0_startTrial_111 1 rfl ?_
        refine j_if_ne C dX0_startTrial_112 (tgt := 126) (by decide) (fun cq => ?_) (fun cq => ?_)
        · have hb := jite_t hb (jb_t cq)
          refine j_loc C [0, 1, 2, 3, 4, 5] rfl ?_
          exact jn126_94 v1 v2 v3 v4 q.1 q.2   _ hb hin hout
        · have hb := jite_f hb (jb_f cq)
          refine j_iload C dX0_startTrial_115 5 rfl ?_
          refine j_aload_n C dX0_startTrial_117 0 rfl ?_
          refine j_getW C dX0_startTrial_118 inX0 rfl (by decide) rfl 0 (by decide) w_316 rfl rfl ?_
          refine j_iload_n C dX0_startTrial_121 3 rfl ?_
          obtain ⟨c122_3, hb⟩ := jchk hb
          refine j_ialdW C dX0_startTrial_122 (by decide) rfl (jin_vp c122_3) ?_
          refine j_icmp_ne C dX0_startTrial_123 (tgt := 147) (by decide) (fun cq => ?_) (fun cq => ?_)
          · have hb := jite_f hb cq
            refine j_iinc C dX0_startTrial_147 5 rfl (v := (q.1 + 1)) rfl (by decide) rfl ?_
            refine j_goto C dX0_startTrial_150 (tgt := 94) (by decide) ?_
            refine j_loc C [1, 2, 3, 4, 5, 0] rfl ?_
            have hx := hin _ (jinl hb)
            exact hx
          · have hb := jite_t hb cq
            refine j_loc C [0, 1, 2, 3, 4, 5] rfl ?_
            exact jn126_94 v1 v2 v3 v4 q.1 q.2   _ hb hin hout
  have lo44 : ∀ (v1 : Bool) (v2 : Int32) (s : jS) (k : Nat) (q : Int32 × jS) (e : Int32 × jS), lp (B_X0_startTrial_44 nd n v1 v2) k q = some e → K 0 0 (jw 54 (cellC G nd) ad e.2) 159 [(0, .ref (ad 51)), (1, .int (jb v1)), (2, .int v2)] [] → K 0 0 (jw 54 (cellC G nd) ad q.2) 44 [(0, .ref (ad 51)), (1, .int (jb v1)), (2, .int v2), (3, .int q.1)] [] := by
    intro v1 v2 s k q e he hE
    refine jlp (KH := fun q => K 0 0 (jw 54 (cellC G nd) ad q.2) 44 [(0, .ref (ad 51)), (1, .int (jb v1)), (2, .int v2), (3, .int q.1)] []) (KE := fun e => K 0 0 (jw 54 (cellC G nd) ad e.2) 159 [(0, .ref (ad 51)), (1, .int (jb v1)), (2, .int v2)] []) ?_ k q e he hE
    intro q o hb hin hout
    unfold B_X0_startTrial_44 at hb
    show K 0 0 (jw 54 (cellC G nd) ad q.2) 44 [(0, .ref (ad 51)), (1, .int (jb v1)), (2, .int v2), (3, .int q.1)] []
    refine j_iload_n C dX0_startTrial_44 3 rfl ?_
    refine j_aload_n C dX0_startTrial_45 0 rfl ?_
    refine j_getW C dX0_startTrial_46 inX0 rfl (by decide) rfl 1 (by decide) w_318 rfl rfl ?_
    refine j_icmp_ge C dX0_startTrial_49 (tgt := 159) (by decide) (fun cq => ?_) (fun cq => ?_)
    · have hb := jite_t hb cq
      refine j_loc C [0, 1, 2] rfl ?_
      have hx := hout _ (jinr hb)
      exact hx
    · have hb := jite_f hb cq
      refine j_aload_n C dX0_startTrial_52 0 rfl ?_
      refine j_getW C dX0_startTrial_53 inX0 rfl (by decide) rfl 2 (by decide) w_319 rfl rfl ?_
      refine j_getW C dX0_startTrial_56 inX2 rfl (by decide) rfl 3 (by decide) w_128 rfl rfl ?_
      refine j_iload_n C dX0_startTrial_59 3 rfl ?_
      obtain ⟨c60_1, hb⟩ := jchk hb
      refine j_zaldW C dX0_startTrial_60 (by decide) rfl (jin_vp c60_1) ?_
      refine j_if_ne C dX0_startTrial_61 (tgt := 88) (by decide) (fun cq => ?_) (fun cq => ?_)
      · have hb := jite_t hb (jb_t cq)
        refine j_iconst C dX0_startTrial_88 (v := 0) (by decide) ?_
        refine j_istore C dX0_startTrial_89 (by decide) rfl ?_
        refine j_iconst C dX0_startTrial_91 (v := 0) (by decide) ?_
        refine j_istore C dX0_startTrial_92 (by decide) rfl ?_
        refine j_loc C [2, 3, 4, 5, 1, 0] rfl ?_
        obtain ⟨e94, he94, hb⟩ := jbind hb
        refine lo94 v1 v2 q.1 false q.2  n (0, q.2) e94 he94 ?_
        refine j_iinc C dX0_startTrial_153 3 rfl (v := (q.1 + 1)) rfl (by decide) rfl ?_
        refine j_goto C dX0_startTrial_156 (tgt := 44) (by decide) ?_
        refine j_loc C [1, 2, 3, 0] rfl ?_
        have hx := hin _ (jinl hb)
        exact hx
      · have hb := jite_f hb (jb_f cq)
        refine j_aload_n C dX0_startTrial_64 0 rfl ?_
        refine j_getW C dX0_startTrial_65 inX0 rfl (by decide) rfl 2 (by decide) w_319 rfl rfl ?_
        refine j_getW C dX0_startTrial_68 inX2 rfl (by decide) rfl 4 (by decide) w_130 rfl rfl ?_
        refine j_iload_n C dX0_startTrial_71 2 rfl ?_
        refine j_iconst C dX0_startTrial_72 (v := 4) (by decide) ?_
        refine j_imul C dX0_startTrial_73 ?_
        refine j_iconst C dX0_startTrial_74 (v := 1) (by decide) ?_
        refine j_iadd C dX0_startTrial_75 ?_
        obtain ⟨c76_4, hb⟩ := jchk hb
        refine j_ialdW C dX0_startTrial_76 (by decide) rfl (jin_vp c76_4) ?_
        refine j_iload_n C dX0_startTrial_77 3 rfl ?_
        refine j_cSN1 C (host := "RoadOfDoors") dX0_startTrial_78 (m_X8_hasKey (q.2.1 23 (Int32.toNatClampNeg ((v2 * 4) + 1))) q.1 rfl) kc_X8_hasKey (by decide +kernel) w_694 w_1 jy_X8_hasKey ⟨⟨Nat.le_of_ble_eq_true rfl, Nat.le_of_ble_eq_true rfl⟩, ⟨rfl, rfl⟩, ⟨Nat.zero_le _, Nat.zero_le _⟩⟩ (Nat.le_of_ble_eq_true rfl) rfl (fun _ _ h => h) ?_
        refine j_if_ne C dX0_startTrial_81 (tgt := 88) (by decide) (fun cq => ?_) (fun cq => ?_)
        · have hb := jite_t hb (jb_t cq)
          refine j_iconst C dX0_startTrial_88 (v := 0) (by decide) ?_
          refine j_istore C dX0_startTrial_89 (by decide) rfl ?_
          refine j_iconst C dX0_startTrial_91 (v := 0) (by decide) ?_
          refine j_istore C dX0_startTrial_92 (by decide) rfl ?_
          refine j_loc C [2, 3, 4, 5, 1, 0] rfl ?_
          obtain ⟨e94, he94, hb⟩ := jbind hb
          refine lo94 v1 v2 q.1 false q.2  n (0, q.2) e94 he94 ?_
          refine j_iinc C dX0_startTrial_153 3 rfl (v := (q.1 + 1)) rfl (by decide) rfl ?_
          refine j_goto C dX0_startTrial_156 (tgt := 44) (by decide) ?_
          refine j_loc C [1, 2, 3, 0] rfl ?_
          have hx := hin _ (jinl hb)
          exact hx
        · have hb := jite_f hb (jb_f cq)
          refine j_iconst C dX0_startTrial_84 (v := 1) (by decide) ?_
          refine j_goto C dX0_startTrial_85 (tgt := 89) (by decide) ?_
          refine j_istore C dX0_startTrial_89 (by decide) rfl ?_
          refine j_iconst C dX0_startTrial_91 (v := 0) (by decide) ?_
          refine j_istore C dX0_startTrial_92 (by decide) rfl ?_
          refine j_loc C [2, 3, 4, 5, 1, 0] rfl ?_
          obtain ⟨e94, he94, hb⟩ := jbind hb
          refine lo94 v1 v2 q.1 true q.2  n (0, q.2) e94 he94 ?_
          refine j_iinc C dX0_startTrial_153 3 rfl (v := (q.1 + 1)) rfl (by decide) rfl ?_
          refine j_goto C dX0_startTrial_156 (tgt := 44) (by decide) ?_
          refine j_loc C [1, 2, 3, 0] rfl ?_
          have hx := hin _ (jinl hb)
          exact hx
  have lo25 : ∀ (v1 : Bool) (s : jS) (k : Nat) (q : Int32 × jS) (e : Int32 × jS), lp (B_X0_startTrial_25 nd n v1) k q = some e → K 0 0 (jw 54 (cellC G nd) ad e.2) 165 [] [] → K 0 0 (jw 54 (cellC G nd) ad q.2) 25 [(0, .ref (ad 51)), (1, .int (jb v1)), (2, .int q.1)] [] := by
    intro v1 s k q e he hE
    refine jlp (KH := fun q => K 0 0 (jw 54 (cellC G nd) ad q.2) 25 [(0, .ref (ad 51)), (1, .int (jb v1)), (2, .int q.1)] []) (KE := fun e => K 0 0 (jw 54 (cellC G nd) ad e.2) 165 [] []) ?_ k q e he hE
    intro q o hb hin hout
    unfold B_X0_startTrial_25 at hb
    show K 0 0 (jw 54 (cellC G nd) ad q.2) 25 [(0, .ref (ad 51)), (1, .int (jb v1)), (2, .int q.1)] []
    refine j_iload_n C dX0_startTrial_25 2 rfl ?_
    refine j_aload_n C dX0_startTrial_26 0 rfl ?_
    refine j_getW C dX0_startTrial_27 inX0 rfl (by decide) rfl 2 (by decide) w_319 rfl rfl ?_
    refine j_getW C dX0_startTrial_30 inX2 rfl (by decide) rfl 8 (by decide) w_140 rfl rfl ?_
    refine j_icmp_ge C dX0_startTrial_33 (tgt := 165) (by decide) (fun cq => ?_) (fun cq => ?_)
    · have hb := jite_t hb cq
      refine j_loc C [] rfl ?_
      have hx := hout _ (jinr hb)
      exact hx
    · have hb := jite_f hb cq
      refine j_iload_n C dX0_startTrial_36 2 rfl ?_
      refine j_bipush C dX0_startTrial_37 (v := 6) (by decide) ?_
      refine j_icmp_ge C dX0_startTrial_39 (tgt := 165) (by decide) (fun cq => ?_) (fun cq => ?_)
      · have hb := jite_t hb cq
        refine j_loc C [] rfl ?_
        have hx := hout _ (jinr hb)
        exact hx
      · have hb := jite_f hb cq
        refine j_iconst C dX0_startTrial_42 (v := 0) (by decide) ?_
        refine j_istore_n C dX0_startTrial_43 (by decide) rfl ?_
        refine j_loc C [1, 2, 3, 0] rfl ?_
        obtain ⟨e44, he44, hb⟩ := jbind hb
        refine lo44 v1 q.1 q.2  n (0, q.2) e44 he44 ?_
        refine j_iinc C dX0_startTrial_159 2 rfl (v := (q.1 + 1)) rfl (by decide) rfl ?_
        refine j_goto C dX0_startTrial_162 (tgt := 25) (by decide) ?_
        refine j_loc C [1, 2, 0] rfl ?_
        have hx := hin _ (jinl hb)
        exact hx
  show K 0 0 (jw 54 (cellC G nd) ad s) 0 [(0, .ref (ad 51)), (1, .int (jb v1))] []
  refine j_aload_n C dX0_startTrial_0 0 rfl ?_
  refine j_iconst C dX0_startTrial_1 (v := 0) (by decide) ?_
  refine j_putI C dX0_startTrial_2 inX0 tyX0 tyX0_ok nmX0 rfl (by decide) 7 (x := jb false) rfl rfl (by decide) w_324 rfl rfl (jb_nar false) (jb_fit false) (Nat.le_of_ble_eq_true rfl) ?_
  refine j_aload_n C dX0_startTrial_5 0 rfl ?_
  refine j_getW C dX0_startTrial_6 inX0 rfl (by decide) rfl 2 (by decide) w_319 rfl rfl ?_
  refine j_getW C dX0_startTrial_9 inX2 rfl (by decide) rfl 2 (by decide) w_123 rfl rfl ?_
  refine j_iconst C dX0_startTrial_12 (v := 0) (by decide) ?_
  refine j_aload_n C dX0_startTrial_13 0 rfl ?_
  refine j_getW C dX0_startTrial_14 inX0 rfl (by decide) rfl 0 (by decide) w_316 rfl rfl ?_
  refine j_iconst C dX0_startTrial_17 (v := 0) (by decide) ?_
  refine j_bipush C dX0_startTrial_18 (v := 8) (by decide) ?_
  refine j_copyI C dX0_startTrial_20 w_836 w_702 w_701 w_16 (by decide) (by decide) (fun _ => rfl) (fun _ => rfl) (by decide) (by decide) (by decide) (by decide) (by decide) (Nat.le_of_ble_eq_true rfl) (Nat.le_of_ble_eq_true rfl) ?_
  refine j_iconst C dX0_startTrial_23 (v := 0) (by decide) ?_
  refine j_istore_n C dX0_startTrial_24 (by decide) rfl ?_
  refine j_loc C [1, 2, 0] rfl ?_
  obtain ⟨e25, he25, h⟩ := jbind h
  refine lo25 v1 (upR (upI s 51 7 (jb false)) 52 (va_cpy ((upI s 51 7 (jb false)).1 21) ((upI s 51 7 (jb false)).1 52) (Int32.toNatClampNeg 0) (Int32.toNatClampNeg 0) (Int32.toNatClampNeg 8)))  n (0, (upR (upI s 51 7 (jb false)) 52 (va_cpy ((upI s 51 7 (jb false)).1 21) ((upI s 51 7 (jb false)).1 52) (Int32.toNatClampNeg 0) (Int32.toNatClampNeg 0) (Int32.toNatClampNeg 8)))) e25 he25 ?_
  exact j_vret C dX0_startTrial_165 rfl (Nat.zero_le _) (Nat.zero_le _) (jretWV h)
-- X7_canPass_52
def J_X7_canPass_52_98 (n : Nat) (v2 : Int32) (v3 : Int32) (v4 : Int32) (v5 : Bool) (k1 : Int32) (k2 : Int32) (s : jS) : Option ((Int32 × jS) ⊕ ((Int32 × jS) ⊕ ((Bool × jS)))) :=
  (if jin k1 8 = true then (if v5 = true then (if jin v4 8 = true then some (.inl ((v4 + 1), (upI (upI s 38 (Int32.toNatClampNeg k1) k2) 39 (Int32.toNatClampNeg v4) 0))) else none) else (if jin v4 8 = true then ((F_X3_looksAtWaited ((upI s 38 (Int32.toNatClampNeg k1) k2).1 52 (Int32.toNatClampNeg v4)) (upI s 38 (Int32.toNatClampNeg k1) k2)).bind fun p118 => (if p118 = true then some (.inl ((v4 + 1), (upI (upI s 38 (Int32.toNatClampNeg k1) k2) 39 (Int32.toNatClampNeg v4) 9))) else some (.inl ((v4 + 1), (upI (upI s 38 (Int32.toNatClampNeg k1) k2) 39 (Int32.toNatClampNeg v4) 0))))) else none)) else none)
def J_X7_canPass_52_69 (n : Nat) (v2 : Int32) (v3 : Int32) (v4 : Int32) (v5 : Bool) (s : jS) : Option ((Int32 × jS) ⊕ ((Int32 × jS) ⊕ ((Bool × jS)))) :=
  (if v5 = true then J_X7_canPass_52_98 n v2 v3 v4 v5 v4 (-1) s else (if jin v4 8 = true then ((F_X3_placeOf (s.1 52 (Int32.toNatClampNeg v4)) v4 v2 s).bind fun p95 => J_X7_canPass_52_98 n v2 v3 v4 v5 v4 p95 s) else none))
def J_X7_canPass_52_46 (n : Nat) (v2 : Int32) (v3 : Int32) (v4 : Int32) (k0 : Bool) (s : jS) : Option ((Int32 × jS) ⊕ ((Int32 × jS) ⊕ ((Bool × jS)))) :=
  (if k0 = true then J_X7_canPass_52_69 n v2 v3 v4 k0 s else (if jin v4 8 = true then ((F_X3_isOpening (s.1 52 (Int32.toNatClampNeg v4)) s).bind fun p61 => (if p61 = true then J_X7_canPass_52_69 n v2 v3 v4 k0 s else some (.inr (.inr (false, s))))) else none))
def J_X7_canPass_52_41 (n : Nat) (v2 : Int32) (v3 : Int32) (v4 : Int32) (s : jS) : Option ((Int32 × jS) ⊕ ((Int32 × jS) ⊕ ((Bool × jS)))) :=
  J_X7_canPass_52_46 n v2 v3 v4 true s
def B_X7_canPass_52_3 (n : Nat) (v2 : Int32) (v3 : Int32) (q : Int32 × jS) : Option ((Int32 × jS) ⊕ ((Int32 × jS) ⊕ ((Bool × jS)))) :=
  (if (q.2.1 33 4) ≤ q.1 then some (.inr (.inl (q.1, q.2))) else (if 8 ≤ q.1 then some (.inr (.inl (q.1, q.2))) else (if jin q.1 8 = true then (if (jz (q.2.1 22 (Int32.toNatClampNeg q.1))) = true then J_X7_canPass_52_41 n v2 v3 q.1 q.2 else (if (F_X8_hasKey v3 q.1) = true then J_X7_canPass_52_41 n v2 v3 q.1 q.2 else J_X7_canPass_52_46 n v2 v3 q.1 false q.2)) else none)))
def F_X7_canPass_52 (n : Nat) (v2 : Int32) (v3 : Int32) (s : jS) : Option (Bool × jS) :=
  ((lp (B_X7_canPass_52_3 n v2 v3) n (0, s)).bind fun e => Sum.elim (fun e3 => some (true, e3.2)) (fun r3 => some r3) e)
def rm_X7_canPass_52 : Room := { frames := 1, cells := 0, slots := 0, locals := 26 }
set_option maxHeartbeats 4000000 in
set_option maxRecDepth 100000 in
theorem m_X7_canPass_52 {l : Launch} {D : va_G} {G : Nat → ClassId} {KV : (Nat → Nat) × (Nat → Nat)} {ad : Nat → Nat} {nd : Nat} (n : Nat) (v2 : Int32) (v3 : Int32) (s : jS) {p : Bool × jS} (h : F_X7_canPass_52 n v2 v3 s = some p) : jM l D G KV yX7_canPass cX7_canPass 6 (some .boolean) rm_X7_canPass_52 [.ref (ad 33), .ref (ad 52), .int v2, .int v3] (jw 54 (cellC G nd) ad s) 0 0 (fun v u => v = some (.int (jb p.1)) ∧ u = jw 54 (cellC G nd) ad p.2) := by
  refine jM.of (by decide) (Nat.le_of_ble_eq_true rfl) ?_
  intro K C
  unfold F_X7_canPass_52 at h
  have jn98_3 : ∀ (v2 : Int32) (v3 : Int32) (v4 : Int32) (v5 : Bool) (k1 : Int32) (k2 : Int32) (s : jS) (o : (Int32 × jS) ⊕ ((Int32 × jS) ⊕ ((Bool × jS)))), J_X7_canPass_52_98 n v2 v3 v4 v5 k1 k2 s = some o → (∀ q, o = .inl q → K 0 0 (jw 54 (cellC G nd) ad q.2) 3 [(0, .ref (ad 33)), (1, .ref (ad 52)), (2, .int v2), (3, .int v3), (4, .int q.1)] []) → (∀ e, o = .inr e → Sum.elim (fun e => K 0 0 (jw 54 (cellC G nd) ad e.2) 137 [] []) (fun r => some r = some p) e) → K 0 0 (jw 54 (cellC G nd) ad s) 98 [(0, .ref (ad 33)), (1, .ref (ad 52)), (2, .int v2), (3, .int v3), (4, .int v4), (5, .int (jb v5))] [.int k2, .int k1, .ref (ad 38)] := by
    intro v2 v3 v4 v5 k1 k2 s o hb hin hout
    unfold J_X7_canPass_52_98 at hb
    obtain ⟨c98_3, hb⟩ := jchk hb
    refine j_iastW C dX7_canPass_98 (by decide) (fun _ => rfl) (jin_vp c98_3) ?_
    refine j_aload_n C dX7_canPass_99 0 rfl ?_
    refine j_getW C dX7_canPass_100 inX7 rfl (by decide) rfl 10 (by decide) w_244 rfl rfl ?_
    refine j_iload C dX7_canPass_103 4 rfl ?_
    refine j_iload C dX7_canPass_105 5 rfl ?_
    refine j_if_ne C dX7_canPass_107 (tgt := 129) (by decide) (fun cq => ?_) (fun cq => ?_)
    · have hb := jite_t hb (jb_t cq)
      refine j_iconst C dX7_canPass_129 (v := 0) (by decide) ?_
      obtain ⟨c130_4, hb⟩ := jchk hb
      refine j_iastW C dX7_canPass_130 (by decide) (fun _ => rfl) (jin_vp c130_4) ?_
      refine j_iinc C dX7_canPass_131 4 rfl (v := (v4 + 1)) rfl (by decide) rfl ?_
      refine j_goto C dX7_canPass_134 (tgt := 3) (by decide) ?_
      refine j_loc C [1, 2, 3, 4, 0] rfl ?_
      have hx := hin _ (jinl hb)
      exact hx
    · have hb := jite_f hb (jb_f cq)
      refine j_aload_n C dX7_canPass_110 0 rfl ?_
      refine j_getW C dX7_canPass_111 inX7 rfl (by decide) rfl 6 (by decide) w_240 rfl rfl ?_
      refine j_aload_n C dX7_canPass_114 1 rfl ?_
      refine j_iload C dX7_canPass_115 4 rfl ?_
      obtain ⟨c117_5, hb⟩ := jchk hb
      refine j_ialdW C dX7_canPass_117 (by decide) rfl (jin_vp c117_5) ?_
      obtain ⟨p118, he118, hb⟩ := jbind hb
      refine j_cV1 C dX7_canPass_118 (m_X3_looksAtWaited ((upI s 38 (Int32.toNatClampNeg k1) k2).1 52 (Int32.toNatClampNeg v4)) (upI s 38 (Int32.toNatClampNeg k1) k2) he118) kc_X3_looksAtWaited w_779 w_780 w_781 w_7 jy_X3_looksAtWaited ⟨⟨Nat.le_of_ble_eq_true rfl, Nat.le_of_ble_eq_true rfl⟩, ⟨rfl, rfl⟩, ⟨Nat.zero_le _, Nat.zero_le _⟩⟩ (Nat.le_of_ble_eq_true rfl) (by decide) rfl (r := (RX3, TX3, 7)) rfl rfl rfl (fun _ _ h => h) ?_
      refine j_if_eq C dX7_canPass_121 (tgt := 129) (by decide) (fun cq => ?_) (fun cq => ?_)
      · have hb := jite_f hb (jb_f cq)
        refine j_iconst C dX7_canPass_129 (v := 0) (by decide) ?_
        refine j_iastW C dX7_canPass_130 (by decide) (fun _ => rfl) (jin_vp c117_5) ?_
        refine j_iinc C dX7_canPass_131 4 rfl (v := (v4 + 1)) rfl (by decide) rfl ?_
        refine j_goto C dX7_canPass_134 (tgt := 3) (by decide) ?_
        refine j_loc C [1, 2, 3, 4, 0] rfl ?_
        have hx := hin _ (jinl hb)
        exact hx
      · have hb := jite_t hb (jb_t cq)
        refine j_bipush C dX7_canPass_124 (v := 9) (by decide) ?_
        refine j_goto C dX7_canPass_126 (tgt := 130) (by decide) ?_
        refine j_iastW C dX7_canPass_130 (by decide) (fun _ => rfl) (jin_vp c117_5) ?_
        refine j_iinc C dX7_canPass_131 4 rfl (v := (v4 + 1)) rfl (by decide) rfl ?_
        refine j_goto C dX7_canPass_134 (tgt := 3) (by decide) ?_
        refine j_loc C [1, 2, 3, 4, 0] rfl ?_
        have hx := hin _ (jinl hb)
        exact hx
  have jn69_3 : ∀ (v2 : Int32) (v3 : Int32) (v4 : Int32) (v5 : Bool) (s : jS) (o : (Int32 × jS) ⊕ ((Int32 × jS) ⊕ ((Bool × jS)))), J_X7_canPass_52_69 n v2 v3 v4 v5 s = some o → (∀ q, o = .inl q → K 0 0 (jw 54 (cellC G nd) ad q.2) 3 [(0, .ref (ad 33)), (1, .ref (ad 52)), (2, .int v2), (3, .int v3), (4, .int q.1)] []) → (∀ e, o = .inr e → Sum.elim (fun e => K 0 0 (jw 54 (cellC G nd) ad e.2) 137 [] []) (fun r => some r = some p) e) → K 0 0 (jw 54 (cellC G nd) ad s) 69 [(0, .ref (ad 33)), (1, .ref (ad 52)), (2, .int v2), (3, .int v3), (4, .int v4), (5, .int (jb v5))] [] := by
    intro v2 v3 v4 v5 s o hb hin hout
    unfold J_X7_canPass_52_69 at hb
    refine j_aload_n C dX7_canPass_69 0 rfl ?_
    refine j_getW C dX7_canPass_70 inX7 rfl (by decide) rfl 9 (by decide) w_243 rfl rfl ?_
    refine j_iload C dX7_canPass_73 4 rfl ?_
    refine j_iload C dX7_canPass_75 5 rfl ?_
    refine j_if_eq C dX7_canPass_77 (tgt := 84) (by decide) (fun cq => ?_) (fun cq => ?_)
    · have hb := jite_f hb (jb_f cq)
      refine j_aload_n C dX7_canPass_84 0 rfl ?_
      refine j_getW C dX7_canPass_85 inX7 rfl (by decide) rfl 6 (by decide) w_240 rfl rfl ?_
      refine j_aload_n C dX7_canPass_88 1 rfl ?_
      refine j_iload C dX7_canPass_89 4 rfl ?_
      obtain ⟨c91_2, hb⟩ := jchk hb
      refine j_ialdW C dX7_canPass_91 (by decide) rfl (jin_vp c91_2) ?_
      refine j_iload C dX7_canPass_92 4 rfl ?_
      refine j_iload_n C dX7_canPass_94 2 rfl ?_
      obtain ⟨p95, he95, hb⟩ := jbind hb
      refine j_cV1 C dX7_canPass_95 (m_X3_placeOf (s.1 52 (Int32.toNatClampNeg v4)) v4 v2 s he95) kc_X3_placeOf w_778 w_757 w_758 w_7 jy_X3_placeOf ⟨⟨Nat.le_of_ble_eq_true rfl, Nat.le_of_ble_eq_true rfl⟩, ⟨rfl, rfl⟩, ⟨Nat.zero_le _, Nat.zero_le _⟩⟩ (Nat.le_of_ble_eq_true rfl) (by decide) rfl (r := (RX3, TX3, 7)) rfl rfl rfl (fun _ _ h => h) ?_
      refine j_loc C [0, 1, 2, 3, 4, 5] rfl ?_
      exact jn98_3 v2 v3 v4 v5 v4 p95 s   _ hb hin hout
    · have hb := jite_t hb (jb_t cq)
      refine j_iconst C dX7_canPass_80 (v := (-1)) (by decide) ?_
      refine j_goto C dX7_canPass_81 (tgt := 98) (by decide) ?_
      refine j_loc C [0, 1, 2, 3, 4, 5] rfl ?_
      exact jn98_3 v2 v3 v4 v5 v4 (-1) s   _ hb hin hout
  have jn46_3 : ∀ (v2 : Int32) (v3 : Int32) (v4 : Int32) (k0 : Bool) (s : jS) (o : (Int32 × jS) ⊕ ((Int32 × jS) ⊕ ((Bool × jS)))), J_X7_canPass_52_46 n v2 v3 v4 k0 s = some o → (∀ q, o = .inl q → K 0 0 (jw 54 (cellC G nd) ad q.2) 3 [(0, .ref (ad 33)), (1, .ref (ad 52)), (2, .int v2), (3, .int v3), (4, .int q.1)] []) → (∀ e, o = .inr e → Sum.elim (fun e => K 0 0 (jw 54 (cellC G nd) ad e.2) 137 [] []) (fun r => some r = some p) e) → K 0 0 (jw 54 (cellC G nd) ad s) 46 [(0, .ref (ad 33)), (1, .ref (ad 52)), (2, .int v2), (3, .int v3), (4, .int v4)] [.int (jb k0)] := by
    intro v2 v3 v4 k0 s o hb hin hout
    unfold J_X7_canPass_52_46 at hb
    refine j_istore C dX7_canPass_46 (by decide) rfl ?_
    refine j_iload C dX7_canPass_48 0 rfl ?_
    refine j_if_ne C dX7_canPass_50 (tgt := 69) (by decide) (fun cq => ?_) (fun cq => ?_)
    · have hb := jite_t hb (jb_t cq)
      refine j_loc C [1, 2, 3, 4, 5, 0] rfl ?_
      exact jn69_3 v2 v3 v4 k0 s   _ hb hin hout
    · have hb := jite_f hb (jb_f cq)
      refine j_aload_n C dX7_canPass_53 1 rfl ?_
      refine j_getW C dX7_canPass_54 inX7 rfl (by decide) rfl 6 (by decide) w_240 rfl rfl ?_
      refine j_aload_n C dX7_canPass_57 2 rfl ?_
      refine j_iload C dX7_canPass_58 5 rfl ?_
      obtain ⟨c60_6, hb⟩ := jchk hb
      refine j_ialdW C dX7_canPass_60 (by decide) rfl (jin_vp c60_6) ?_
      obtain ⟨p61, he61, hb⟩ := jbind hb
      refine j_cV1 C dX7_canPass_61 (m_X3_isOpening (s.1 52 (Int32.toNatClampNeg v4)) s he61) kc_X3_isOpening w_777 w_651 w_652 w_7 jy_X3_isOpening ⟨⟨Nat.le_of_ble_eq_true rfl, Nat.le_of_ble_eq_true rfl⟩, ⟨rfl, rfl⟩, ⟨Nat.zero_le _, Nat.zero_le _⟩⟩ (Nat.le_of_ble_eq_true rfl) (by decide) rfl (r := (RX3, TX3, 7)) rfl rfl rfl (fun _ _ h => h) ?_
      refine j_if_ne C dX7_canPass_64 (tgt := 69) (by decide) (fun cq => ?_) (fun cq => ?_)
      · have hb := jite_t hb (jb_t cq)
        refine j_loc C [1, 2, 3, 4, 5, 0] rfl ?_
        exact jn69_3 v2 v3 v4 k0 s   _ hb hin hout
      · have hb := jite_f hb (jb_f cq)
        refine j_iconst C dX7_canPass_67 (v := 0) (by decide) ?_
        exact j_iret C dX7_canPass_68 rfl (jb_nar false) (Nat.zero_le _) (Nat.zero_le _) (jretWB (jretL hb hout))
  have jn41_3 : ∀ (v2 : Int32) (v3 : Int32) (v4 : Int32) (s : jS) (o : (Int32 × jS) ⊕ ((Int32 × jS) ⊕ ((Bool × jS)))), J_X7_canPass_52_41 n v2 v3 v4 s = some o → (∀ q, o = .inl q → K 0 0 (jw 54 (cellC G nd) ad q.2) 3 [(0, .ref (ad 33)), (1, .ref (ad 52)), (2, .int v2), (3, .int v3), (4, .int q.1)] []) → (∀ e, o = .inr e → Sum.elim (fun e => K 0 0 (jw 54 (cellC G nd) ad e.2) 137 [] []) (fun r => some r = some p) e) → K 0 0 (jw 54 (cellC G nd) ad s) 41 [(0, .ref (ad 33)), (1, .ref (ad 52)), (2, .int v2), (3, .int v3), (4, .int v4)] [] := by
    intro v2 v3 v4 s o hb hin hout
    unfold J_X7_canPass_52_41 at hb
    refine j_iconst C dX7_canPass_41 (v := 1) (by decide) ?_
    refine j_goto C dX7_canPass_42 (tgt := 46) (by decide) ?_
    refine j_loc C [0, 1, 2, 3, 4] rfl ?_
    exact jn46_3 v2 v3 v4 true s   _ hb hin hout
  have lo3 : ∀ (v2 : Int32) (v3 : Int32) (s : jS) (k : Nat) (q : Int32 × jS) (e : (Int32 × jS) ⊕ ((Bool × jS))), lp (B_X7_canPass_52_3 n v2 v3) k q = some e → Sum.elim (fun e => K 0 0 (jw 54 (cellC G nd) ad e.2) 137 [] []) (fun r => some r = some p) e → K 0 0 (jw 54 (cellC G nd) ad q.2) 3 [(0, .ref (ad 33)), (1, .ref (ad 52)), (2, .int v2), (3, .int v3), (4, .int q.1)] [] := by
    intro v2 v3 s k q e he hE
    refine jlp (KH := fun q => K 0 0 (jw 54 (cellC G nd) ad q.2) 3 [(0, .ref (ad 33)), (1, .ref (ad 52)), (2, .int v2), (3, .int v3), (4, .int q.1)] []) (KE := fun e => Sum.elim (fun e => K 0 0 (jw 54 (cellC G nd) ad e.2) 137 [] []) (fun r => some r = some p) e) ?_ k q e he hE
    intro q o hb hin hout
    unfold B_X7_canPass_52_3 at hb
    show K 0 0 (jw 54 (cellC G nd) ad q.2) 3 [(0, .ref (ad 33)), (1, .ref (ad 52)), (2, .int v2), (3, .int v3), (4, .int q.1)] []
    refine j_iload C dX7_canPass_3 4 rfl ?_
    refine j_aload_n C dX7_canPass_5 0 rfl ?_
    refine j_getW C dX7_canPass_6 inX7 rfl (by decide) rfl 4 (by decide) w_238 rfl rfl ?_
    refine j_icmp_ge C dX7_canPass_9 (tgt := 137) (by decide) (fun cq => ?_) (fun cq => ?_)
    · have hb := jite_t hb cq
      refine j_loc C [] rfl ?_
      have hx := hout _ (jinr hb)
      exact hx
    · have hb := jite_f hb cq
      refine j_iload C dX7_canPass_12 4 rfl ?_
      refine j_aload_n C dX7_canPass_14 1 rfl ?_
      refine j_alenW C dX7_canPass_15 (by decide) rfl (by decide) (v := 8) rfl ?_
      refine j_icmp_ge C dX7_canPass_16 (tgt := 137) (by decide) (fun cq => ?_) (fun cq => ?_)
      · have hb := jite_t hb cq
        refine j_loc C [] rfl ?_
        have hx := hout _ (jinr hb)
        exact hx
      · have hb := jite_f hb cq
        refine j_aload_n C dX7_canPass_19 0 rfl ?_
        refine j_getW C dX7_canPass_20 inX7 rfl (by decide) rfl 5 (by decide) w_239 rfl rfl ?_
        refine j_getW C dX7_canPass_23 inX2 rfl (by decide) rfl 3 (by decide) w_126 rfl rfl ?_
        refine j_iload C dX7_canPass_26 4 rfl ?_
        obtain ⟨c28_1, hb⟩ := jchk hb
        refine j_zaldW C dX7_canPass_28 (by decide) rfl (jin_vp c28_1) ?_
        refine j_if_ne C dX7_canPass_29 (tgt := 41) (by decide) (fun cq => ?_) (fun cq => ?_)
        · have hb := jite_t hb (jb_t cq)
          refine j_loc C [0, 1, 2, 3, 4] rfl ?_
          exact jn41_3 v2 v3 q.1 q.2   _ hb hin hout
        · have hb := jite_f hb (jb_f cq)
          refine j_iload_n C dX7_canPass_32 3 rfl ?_
          refine j_iload C dX7_canPass_33 4 rfl ?_
          refine j_cSN1 C (host := "RoadOfDoors") dX7_canPass_35 (m_X8_hasKey v3 q.1 rfl) kc_X8_hasKey (by decide +kernel) w_694 w_1 jy_X8_hasKey ⟨⟨Nat.le_of_ble_eq_true rfl, Nat.le_of_ble_eq_true rfl⟩, ⟨rfl, rfl⟩, ⟨Nat.zero_le _, Nat.zero_le _⟩⟩ (Nat.le_of_ble_eq_true rfl) rfl (fun _ _ h => h) ?_
          refine j_if_eq C dX7_canPass_38 (tgt := 45) (by decide) (fun cq => ?_) (fun cq => ?_)
          · have hb := jite_f hb (jb_f cq)
            refine j_iconst C dX7_canPass_45 (v := 0) (by decide) ?_
            refine j_loc C [0, 1, 2, 3, 4] rfl ?_
            exact jn46_3 v2 v3 q.1 false q.2   _ hb hin hout
          · have hb := jite_t hb (jb_t cq)
            refine j_loc C [0, 1, 2, 3, 4] rfl ?_
            exact jn41_3 v2 v3 q.1 q.2   _ hb hin hout
  show K 0 0 (jw 54 (cellC G nd) ad s) 0 [(0, .ref (ad 33)), (1, .ref (ad 52)), (2, .int v2), (3, .int v3)] []
  refine j_iconst C dX7_canPass_0 (v := 0) (by decide) ?_
  refine j_istore C dX7_canPass_1 (by decide) rfl ?_
  refine j_loc C [1, 2, 3, 4, 0] rfl ?_
  obtain ⟨e3, he3, h⟩ := jbind h
  refine lo3 v2 v3 s  n (0, s) e3 he3 ?_
  rcases e3 with e3 | r3
  · show K _ _ _ _ _ _
    refine j_iconst C dX7_canPass_137 (v := 1) (by decide) ?_
    exact j_iret C dX7_canPass_138 rfl (jb_nar true) (Nat.zero_le _) (Nat.zero_le _) (jretWB h)
  · exact h
-- X7_findCheapest_52
def J_X7_findCheapest_52_48 (nd : Nat) (n : Nat) (v7 : Int32) (k0 : Bool) (s : jS) : Option (Bool × jS) :=
  (if k0 = true then ((F_X7_walk nd n v7 s).bind fun p58 => some (k0, p58)) else some (k0, s))
def J_X7_findCheapest_52_47 (nd : Nat) (n : Nat) (v7 : Int32) (s : jS) : Option (Bool × jS) :=
  J_X7_findCheapest_52_48 nd n v7 false s
def F_X7_findCheapest_52 (nd : Nat) (n : Nat) (v2 : Int32) (v3 : Int32) (v4 : Int32) (v5 : Int32) (v6 : Int32) (s : jS) : Option (Bool × jS) :=
  ((F_X7_canPass_52 n v2 v3 s).bind fun p4 => (if p4.1 = true then ((F_X7_cheapest nd n v5 (upI p4.2 33 11 v4)).bind fun p21 => (if 1048576 ≤ p21.1 then J_X7_findCheapest_52_47 nd n p21.1 p21.2 else (if v6 < (p21.1 >>> (6 &&& 31)) then J_X7_findCheapest_52_47 nd n p21.1 p21.2 else J_X7_findCheapest_52_48 nd n p21.1 true p21.2))) else some (false, p4.2)))
def rm_X7_findCheapest_52 : Room := { frames := 3, cells := 0, slots := 0, locals := 70 }
set_option maxHeartbeats 4000000 in
set_option maxRecDepth 100000 in
theorem m_X7_findCheapest_52 {l : Launch} {D : va_G} {G : Nat → ClassId} {KV : (Nat → Nat) × (Nat → Nat)} {ad : Nat → Nat} (nd : Nat) (n : Nat) (v2 : Int32) (v3 : Int32) (v4 : Int32) (v5 : Int32) (v6 : Int32) (s : jS) {p : Bool × jS} (h : F_X7_findCheapest_52 nd n v2 v3 v4 v5 v6 s = some p) : jM l D G KV yX7_findCheapest cX7_findCheapest 9 (some .boolean) rm_X7_findCheapest_52 [.ref (ad 33), .ref (ad 52), .int v2, .int v3, .int v4, .int v5, .int v6] (jw 54 (cellC G nd) ad s) 0 0 (fun v u => v = some (.int (jb p.1)) ∧ u = jw 54 (cellC G nd) ad p.2) := by
  refine jM.of (by decide) (Nat.le_of_ble_eq_true rfl) ?_
  intro K C
  unfold F_X7_findCheapest_52 at h
  have jn48 : ∀ (v7 : Int32) (k0 : Bool) (s : jS) (_ : J_X7_findCheapest_52_48 nd n v7 k0 s = some p), K 0 0 (jw 54 (cellC G nd) ad s) 48 [(0, .ref (ad 33)), (7, .int v7)] [.int (jb k0)] := by
    intro v7 k0 s h
    unfold J_X7_findCheapest_52_48 at h
    refine j_istore C dX7_findCheapest_48 (by decide) rfl ?_
    refine j_iload C dX7_findCheapest_50 0 rfl ?_
    refine j_if_eq C dX7_findCheapest_52 (tgt := 61) (by decide) (fun cq => ?_) (fun cq => ?_)
    · have h := jite_f h (jb_f cq)
      refine j_iload C dX7_findCheapest_61 0 rfl ?_
      exact j_iret C dX7_findCheapest_63 rfl (jb_nar k0) (Nat.zero_le _) (Nat.zero_le _) (jretWB h)
    · have h := jite_t h (jb_t cq)
      refine j_aload_n C dX7_findCheapest_55 1 rfl ?_
      refine j_iload C dX7_findCheapest_56 2 rfl ?_
      obtain ⟨p58, he58, h⟩ := jbind h
      refine j_cV0 C dX7_findCheapest_58 (m_X7_walk nd n v7 s he58) kc_X7_walk w_803 w_805 wp_36 w_8 jy_X7_walk ⟨⟨Nat.le_of_ble_eq_true rfl, Nat.le_of_ble_eq_true rfl⟩, ⟨rfl, rfl⟩, ⟨Nat.zero_le _, Nat.zero_le _⟩⟩ (Nat.le_of_ble_eq_true rfl) (by decide) rfl (r := (RX7, TX7, 12)) rfl rfl rfl (fun _ _ h => h) ?_
      refine j_iload C dX7_findCheapest_61 0 rfl ?_
      exact j_iret C dX7_findCheapest_63 rfl (jb_nar k0) (Nat.zero_le _) (Nat.zero_le _) (jretWB h)
  have jn47 : ∀ (v7 : Int32) (s : jS) (_ : J_X7_findCheapest_52_47 nd n v7 s = some p), K 0 0 (jw 54 (cellC G nd) ad s) 47 [(0, .ref (ad 33)), (7, .int v7)] [] := by
    intro v7 s h
    unfold J_X7_findCheapest_52_47 at h
    refine j_iconst C dX7_findCheapest_47 (v := 0) (by decide) ?_
    refine j_loc C [0, 1] rfl ?_
    exact jn48 v7 false s  h
  show K 0 0 (jw 54 (cellC G nd) ad s) 0 [(0, .ref (ad 33)), (1, .ref (ad 52)), (2, .int v2), (3, .int v3), (4, .int v4), (5, .int v5), (6, .int v6)] []
  refine j_aload_n C dX7_findCheapest_0 0 rfl ?_
  refine j_aload_n C dX7_findCheapest_1 1 rfl ?_
  refine j_iload_n C dX7_findCheapest_2 2 rfl ?_
  refine j_iload_n C dX7_findCheapest_3 3 rfl ?_
  obtain ⟨p4, he4, h⟩ := jbind h
  refine j_cV1 C dX7_findCheapest_4 (m_X7_canPass_52 n v2 v3 s he4) kc_X7_canPass w_772 w_774 wp_33 w_8 jy_X7_canPass ⟨⟨Nat.le_of_ble_eq_true rfl, Nat.le_of_ble_eq_true rfl⟩, ⟨rfl, rfl⟩, ⟨Nat.zero_le _, Nat.zero_le _⟩⟩ (Nat.le_of_ble_eq_true rfl) (by decide) rfl (r := (RX7, TX7, 12)) rfl rfl rfl (fun _ _ h => h) ?_
  refine j_if_ne C dX7_findCheapest_7 (tgt := 12) (by decide) (fun cq => ?_) (fun cq => ?_)
  · have h := jite_t h (jb_t cq)
    refine j_aload_n C dX7_findCheapest_12 0 rfl ?_
    refine j_iload C dX7_findCheapest_13 4 rfl ?_
    refine j_putI C dX7_findCheapest_15 inX7 tyX7 tyX7_ok nmX7 rfl (by decide) 11 rfl rfl (by decide) w_245 rfl rfl rfl rfl (Nat.le_of_ble_eq_true rfl) ?_
    refine j_aload_n C dX7_findCheapest_18 0 rfl ?_
    refine j_iload C dX7_findCheapest_19 5 rfl ?_
    obtain ⟨p21, he21, h⟩ := jbind h
    refine j_cV1 C dX7_findCheapest_21 (m_X7_cheapest nd n v5 (upI p4.2 33 11 v4) he21) kc_X7_cheapest w_783 w_785 wp_34 w_8 jy_X7_cheapest ⟨⟨Nat.le_of_ble_eq_true rfl, Nat.le_of_ble_eq_true rfl⟩, ⟨rfl, rfl⟩, ⟨Nat.zero_le _, Nat.zero_le _⟩⟩ (Nat.le_of_ble_eq_true rfl) (by decide) rfl (r := (RX7, TX7, 12)) rfl rfl rfl (fun _ _ h => h) ?_
    refine j_istore C dX7_findCheapest_24 (by decide) rfl ?_
    refine j_iload C dX7_findCheapest_26 0 rfl ?_
    refine j_ldc C dX7_findCheapest_28 (v := 1048576) w_787 ?_
    refine j_icmp_ge C dX7_findCheapest_30 (tgt := 47) (by decide) (fun cq => ?_) (fun cq => ?_)
    · have h := jite_t h cq
      refine j_loc C [1, 0] rfl ?_
      exact jn47 p21.1 p21.2  h
    · have h := jite_f h cq
      refine j_iload C dX7_findCheapest_33 0 rfl ?_
      refine j_bipush C dX7_findCheapest_35 (v := 6) (by decide) ?_
      refine j_ishr C dX7_findCheapest_37 ?_
      refine j_iload C dX7_findCheapest_38 7 rfl ?_
      refine j_icmp_gt C dX7_findCheapest_40 (tgt := 47) (by decide) (fun cq => ?_) (fun cq => ?_)
      · have h := jite_t h cq
        refine j_loc C [1, 0] rfl ?_
        exact jn47 p21.1 p21.2  h
      · have h := jite_f h cq
        refine j_iconst C dX7_findCheapest_43 (v := 1) (by decide) ?_
        refine j_goto C dX7_findCheapest_44 (tgt := 48) (by decide) ?_
        refine j_loc C [1, 0] rfl ?_
        exact jn48 p21.1 true p21.2  h
  · have h := jite_f h (jb_f cq)
    refine j_iconst C dX7_findCheapest_10 (v := 0) (by decide) ?_
    exact j_iret C dX7_findCheapest_11 rfl (jb_nar false) (Nat.zero_le _) (Nat.zero_le _) (jretWB h)
