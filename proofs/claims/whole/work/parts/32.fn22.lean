theorem dX9_about_0 : decode cX9_about 0 = .ok (.iload_n 1, 1) := by decide +kernel
theorem dX9_about_1 : decode cX9_about 1 = .ok (.bipush 10, 2) := by decide +kernel
theorem dX9_about_3 : decode cX9_about 3 = .ok (.bipush 9, 2) := by decide +kernel
theorem dX9_about_5 : decode cX9_about 5 = .ok (.aload_n 0, 1) := by decide +kernel
theorem dX9_about_6 : decode cX9_about 6 = .ok (.getfield 62, 3) := by decide +kernel
theorem dX9_about_9 : decode cX9_about 9 = .ok (.iadd, 1) := by decide +kernel
theorem dX9_about_10 : decode cX9_about 10 = .ok (.invokestatic 69, 3) := by decide +kernel
theorem dX9_about_13 : decode cX9_about 13 = .ok (.ifCond .eq 16, 3) := by decide +kernel
theorem dX9_about_16 : decode cX9_about 16 = .ok (.aload_n 0, 1) := by decide +kernel
theorem dX9_about_17 : decode cX9_about 17 = .ok (.getfield 7, 3) := by decide +kernel
theorem dX9_about_20 : decode cX9_about 20 = .ok (.bipush 28, 2) := by decide +kernel
theorem dX9_about_22 : decode cX9_about 22 = .ok (.iload_n 1, 1) := by decide +kernel
theorem dX9_about_23 : decode cX9_about 23 = .ok (.iadd, 1) := by decide +kernel
theorem dX9_about_24 : decode cX9_about 24 = .ok (.bipush 10, 2) := by decide +kernel
theorem dX9_about_26 : decode cX9_about 26 = .ok (.isub, 1) := by decide +kernel
theorem dX9_about_27 : decode cX9_about 27 = .ok (.iaload, 1) := by decide +kernel
theorem dX9_about_28 : decode cX9_about 28 = .ok (.ireturn, 1) := by decide +kernel
theorem dX9_about_29 : decode cX9_about 29 = .ok (.iload_n 1, 1) := by decide +kernel
theorem dX9_about_30 : decode cX9_about 30 = .ok (.bipush 20, 2) := by decide +kernel
theorem dX9_about_32 : decode cX9_about 32 = .ok (.bipush 19, 2) := by decide +kernel
theorem dX9_about_34 : decode cX9_about 34 = .ok (.aload_n 0, 1) := by decide +kernel
theorem dX9_about_35 : decode cX9_about 35 = .ok (.getfield 62, 3) := by decide +kernel
theorem dX9_about_38 : decode cX9_about 38 = .ok (.iadd, 1) := by decide +kernel
theorem dX9_about_39 : decode cX9_about 39 = .ok (.invokestatic 69, 3) := by decide +kernel
theorem dX9_about_42 : decode cX9_about 42 = .ok (.ifCond .eq 38, 3) := by decide +kernel
theorem dX9_about_45 : decode cX9_about 45 = .ok (.aload_n 0, 1) := by decide +kernel
theorem dX9_about_46 : decode cX9_about 46 = .ok (.getfield 7, 3) := by decide +kernel
theorem dX9_about_49 : decode cX9_about 49 = .ok (.bipush 12, 2) := by decide +kernel
theorem dX9_about_51 : decode cX9_about 51 = .ok (.iload_n 1, 1) := by decide +kernel
theorem dX9_about_52 : decode cX9_about 52 = .ok (.iadd, 1) := by decide +kernel
theorem dX9_about_53 : decode cX9_about 53 = .ok (.bipush 20, 2) := by decide +kernel
theorem dX9_about_55 : decode cX9_about 55 = .ok (.isub, 1) := by decide +kernel
theorem dX9_about_56 : decode cX9_about 56 = .ok (.iaload, 1) := by decide +kernel
theorem dX9_about_57 : decode cX9_about 57 = .ok (.aload_n 0, 1) := by decide +kernel
theorem dX9_about_58 : decode cX9_about 58 = .ok (.getfield 7, 3) := by decide +kernel
theorem dX9_about_61 : decode cX9_about 61 = .ok (.bipush 20, 2) := by decide +kernel
theorem dX9_about_63 : decode cX9_about 63 = .ok (.iload_n 1, 1) := by decide +kernel
theorem dX9_about_64 : decode cX9_about 64 = .ok (.iadd, 1) := by decide +kernel
theorem dX9_about_65 : decode cX9_about 65 = .ok (.bipush 20, 2) := by decide +kernel
theorem dX9_about_67 : decode cX9_about 67 = .ok (.isub, 1) := by decide +kernel
theorem dX9_about_68 : decode cX9_about 68 = .ok (.iaload, 1) := by decide +kernel
theorem dX9_about_69 : decode cX9_about 69 = .ok (.ifCond .ne 8, 3) := by decide +kernel
theorem dX9_about_72 : decode cX9_about 72 = .ok (.bipush 10, 2) := by decide +kernel
theorem dX9_about_74 : decode cX9_about 74 = .ok (.goto 4, 3) := by decide +kernel
theorem dX9_about_77 : decode cX9_about 77 = .ok (.iconst 0, 1) := by decide +kernel
theorem dX9_about_78 : decode cX9_about 78 = .ok (.iadd, 1) := by decide +kernel
theorem dX9_about_79 : decode cX9_about 79 = .ok (.ireturn, 1) := by decide +kernel
theorem dX9_about_80 : decode cX9_about 80 = .ok (.iload_n 1, 1) := by decide +kernel
theorem dX9_about_81 : decode cX9_about 81 = .ok (.bipush 30, 2) := by decide +kernel
theorem dX9_about_83 : decode cX9_about 83 = .ok (.bipush 53, 2) := by decide +kernel
theorem dX9_about_85 : decode cX9_about 85 = .ok (.invokestatic 69, 3) := by decide +kernel
theorem dX9_about_88 : decode cX9_about 88 = .ok (.ifCond .eq 16, 3) := by decide +kernel
theorem dX9_about_91 : decode cX9_about 91 = .ok (.aload_n 0, 1) := by decide +kernel
theorem dX9_about_92 : decode cX9_about 92 = .ok (.getfield 7, 3) := by decide +kernel
theorem dX9_about_95 : decode cX9_about 95 = .ok (.bipush 36, 2) := by decide +kernel
theorem dX9_about_97 : decode cX9_about 97 = .ok (.iload_n 1, 1) := by decide +kernel
theorem dX9_about_98 : decode cX9_about 98 = .ok (.iadd, 1) := by decide +kernel
theorem dX9_about_99 : decode cX9_about 99 = .ok (.bipush 30, 2) := by decide +kernel
theorem dX9_about_101 : decode cX9_about 101 = .ok (.isub, 1) := by decide +kernel
theorem dX9_about_102 : decode cX9_about 102 = .ok (.iaload, 1) := by decide +kernel
theorem dX9_about_103 : decode cX9_about 103 = .ok (.ireturn, 1) := by decide +kernel
theorem dX9_about_104 : decode cX9_about 104 = .ok (.iload_n 1, 1) := by decide +kernel
theorem dX9_about_105 : decode cX9_about 105 = .ok (.ifCond .ne 10, 3) := by decide +kernel
theorem dX9_about_108 : decode cX9_about 108 = .ok (.aload_n 0, 1) := by decide +kernel
theorem dX9_about_109 : decode cX9_about 109 = .ok (.getfield 62, 3) := by decide +kernel
theorem dX9_about_112 : decode cX9_about 112 = .ok (.goto 37, 3) := by decide +kernel
theorem dX9_about_115 : decode cX9_about 115 = .ok (.iload_n 1, 1) := by decide +kernel
theorem dX9_about_116 : decode cX9_about 116 = .ok (.iconst 1, 1) := by decide +kernel
theorem dX9_about_117 : decode cX9_about 117 = .ok (.iconst 4, 1) := by decide +kernel
theorem dX9_about_118 : decode cX9_about 118 = .ok (.invokestatic 69, 3) := by decide +kernel
theorem dX9_about_121 : decode cX9_about 121 = .ok (.ifCond .eq 14, 3) := by decide +kernel
theorem dX9_about_124 : decode cX9_about 124 = .ok (.aload_n 0, 1) := by decide +kernel
theorem dX9_about_125 : decode cX9_about 125 = .ok (.getfield 7, 3) := by decide +kernel
theorem dX9_about_128 : decode cX9_about 128 = .ok (.iload_n 1, 1) := by decide +kernel
theorem dX9_about_129 : decode cX9_about 129 = .ok (.iconst 1, 1) := by decide +kernel
theorem dX9_about_130 : decode cX9_about 130 = .ok (.isub, 1) := by decide +kernel
theorem dX9_about_131 : decode cX9_about 131 = .ok (.iaload, 1) := by decide +kernel
theorem dX9_about_132 : decode cX9_about 132 = .ok (.goto 17, 3) := by decide +kernel
theorem dX9_about_135 : decode cX9_about 135 = .ok (.iload_n 1, 1) := by decide +kernel
theorem dX9_about_136 : decode cX9_about 136 = .ok (.iconst 5, 1) := by decide +kernel
theorem dX9_about_137 : decode cX9_about 137 = .ok (.if_icmp .ne 10, 3) := by decide +kernel
theorem dX9_about_140 : decode cX9_about 140 = .ok (.aload_n 0, 1) := by decide +kernel
theorem dX9_about_141 : decode cX9_about 141 = .ok (.getfield 80, 3) := by decide +kernel
theorem dX9_about_144 : decode cX9_about 144 = .ok (.goto 5, 3) := by decide +kernel
theorem dX9_about_147 : decode cX9_about 147 = .ok (.bipush (-2), 2) := by decide +kernel
theorem dX9_about_149 : decode cX9_about 149 = .ok (.ireturn, 1) := by decide +kernel
-- X9_about
def F_X9_about (v1 : Int32) (s : jS) : Option Int32 :=
  (if (F_X9_isIn v1 10 (9 + (s.1 0 2))) = true then (if jin ((28 + v1) - 10) 324 = true then some (s.1 1 (Int32.toNatClampNeg ((28 + v1) - 10))) else none) else (if (F_X9_isIn v1 20 (19 + (s.1 0 2))) = true then (if jin ((12 + v1) - 20) 324 = true then (if jin ((20 + v1) - 20) 324 = true then (if (s.1 1 (Int32.toNatClampNeg ((20 + v1) - 20))) = 0 then some ((s.1 1 (Int32.toNatClampNeg ((12 + v1) - 20))) + 10) else some ((s.1 1 (Int32.toNatClampNeg ((12 + v1) - 20))) + 0)) else none) else none) else (if (F_X9_isIn v1 30 53) = true then (if jin ((36 + v1) - 30) 324 = true then some (s.1 1 (Int32.toNatClampNeg ((36 + v1) - 30))) else none) else (if v1 = 0 then some (s.1 0 2) else (if (F_X9_isIn v1 1 4) = true then (if jin (v1 - 1) 324 = true then some (s.1 1 (Int32.toNatClampNeg (v1 - 1))) else none) else (if v1 = 5 then some (s.1 0 5) else some (-2)))))))
def rm_X9_about : Room := { frames := 1, cells := 0, slots := 0, locals := 22 }
set_option maxHeartbeats 4000000 in
set_option maxRecDepth 100000 in
theorem m_X9_about {l : Launch} {D : va_G} {G : Nat → ClassId} {KV : jV} {ad : Nat → Nat} (v1 : Int32) (s : jS) {p : Int32} (h : F_X9_about v1 s = some p) : jM l D G KV yX9_about cX9_about 2 (some .int) rm_X9_about [.ref (ad 0), .int v1] (jw 15 (cellM G) ad s) 0 0 (fun v u => v = some (.int p) ∧ u = jw 15 (cellM G) ad s) := by
  refine jM.of (by decide) (Nat.le_of_ble_eq_true rfl) ?_
  intro K C
  unfold F_X9_about at h
  show K 0 0 (jw 15 (cellM G) ad s) 0 [(0, .ref (ad 0)), (1, .int v1)] []
  refine j_iload_n C dX9_about_0 1 rfl ?_
  refine j_bipush C dX9_about_1 (v := 10) (by decide) ?_
  refine j_bipush C dX9_about_3 (v := 9) (by decide) ?_
  refine j_aload_n C dX9_about_5 0 rfl ?_
  refine j_getW C dX9_about_6 inX9 rfl (by decide) rfl 2 (by decide) w_925 rfl rfl ?_
  refine j_iadd C dX9_about_9 ?_
  refine j_cS1 C dX9_about_10 (m_X9_isIn v1 10 (9 + (s.1 0 2)) rfl) kc_X9_isIn w_1025 w_1026 w_11 jy_X9_isIn ⟨⟨Nat.le_of_ble_eq_true rfl, Nat.le_of_ble_eq_true rfl⟩, ⟨rfl, rfl⟩, ⟨Nat.zero_le _, Nat.zero_le _⟩⟩ (Nat.le_of_ble_eq_true rfl) rfl (fun _ _ h => h) ?_
  refine j_if_eq C dX9_about_13 (tgt := 29) (by decide) (fun cq => ?_) (fun cq => ?_)
  · have h := jite_f h (jb_f cq)
    refine j_iload_n C dX9_about_29 1 rfl ?_
    refine j_bipush C dX9_about_30 (v := 20) (by decide) ?_
    refine j_bipush C dX9_about_32 (v := 19) (by decide) ?_
    refine j_aload_n C dX9_about_34 0 rfl ?_
    refine j_getW C dX9_about_35 inX9 rfl (by decide) rfl 2 (by decide) w_925 rfl rfl ?_
    refine j_iadd C dX9_about_38 ?_
    refine j_cS1 C dX9_about_39 (m_X9_isIn v1 20 (19 + (s.1 0 2)) rfl) kc_X9_isIn w_1025 w_1026 w_11 jy_X9_isIn ⟨⟨Nat.le_of_ble_eq_true rfl, Nat.le_of_ble_eq_true rfl⟩, ⟨rfl, rfl⟩, ⟨Nat.zero_le _, Nat.zero_le _⟩⟩ (Nat.le_of_ble_eq_true rfl) rfl (fun _ _ h => h) ?_
    refine j_if_eq C dX9_about_42 (tgt := 80) (by decide) (fun cq => ?_) (fun cq => ?_)
    · have h := jite_f h (jb_f cq)
      refine j_iload_n C dX9_about_80 1 rfl ?_
      refine j_bipush C dX9_about_81 (v := 30) (by decide) ?_
      refine j_bipush C dX9_about_83 (v := 53) (by decide) ?_
      refine j_cS1 C dX9_about_85 (m_X9_isIn v1 30 53 rfl) kc_X9_isIn w_1025 w_1026 w_11 jy_X9_isIn ⟨⟨Nat.le_of_ble_eq_true rfl, Nat.le_of_ble_eq_true rfl⟩, ⟨rfl, rfl⟩, ⟨Nat.zero_le _, Nat.zero_le _⟩⟩ (Nat.le_of_ble_eq_true rfl) rfl (fun _ _ h => h) ?_
      refine j_if_eq C dX9_about_88 (tgt := 104) (by decide) (fun cq => ?_) (fun cq => ?_)
      · have h := jite_f h (jb_f cq)
        refine j_iload_n C dX9_about_104 1 rfl ?_
        refine j_if_ne C dX9_about_105 (tgt := 115) (by decide) (fun cq => ?_) (fun cq => ?_)
        · have h := jite_f h cq
          refine j_iload_n C dX9_about_115 1 rfl ?_
          refine j_iconst C dX9_about_116 (v := 1) (by decide) ?_
          refine j_iconst C dX9_about_117 (v := 4) (by decide) ?_
          refine j_cS1 C dX9_about_118 (m_X9_isIn v1 1 4 rfl) kc_X9_isIn w_1025 w_1026 w_11 jy_X9_isIn ⟨⟨Nat.le_of_ble_eq_true rfl, Nat.le_of_ble_eq_true rfl⟩, ⟨rfl, rfl⟩, ⟨Nat.zero_le _, Nat.zero_le _⟩⟩ (Nat.le_of_ble_eq_true rfl) rfl (fun _ _ h => h) ?_
          refine j_if_eq C dX9_about_121 (tgt := 135) (by decide) (fun cq => ?_) (fun cq => ?_)
          · have h := jite_f h (jb_f cq)
            refine j_iload_n C dX9_about_135 1 rfl ?_
            refine j_iconst C dX9_about_136 (v := 5) (by decide) ?_
            refine j_icmp_ne C dX9_about_137 (tgt := 147) (by decide) (fun cq => ?_) (fun cq => ?_)
            · have h := jite_f h cq
              refine j_bipush C dX9_about_147 (v := (-2)) (by decide) ?_
              exact j_iret C dX9_about_149 rfl rfl (Nat.zero_le _) (Nat.zero_le _) (jretPI h)
            · have h := jite_t h cq
              refine j_aload_n C dX9_about_140 0 rfl ?_
              refine j_getW C dX9_about_141 inX9 rfl (by decide) rfl 5 (by decide) w_928 rfl rfl ?_
              refine j_goto C dX9_about_144 (tgt := 149) (by decide) ?_
              exact j_iret C dX9_about_149 rfl rfl (Nat.zero_le _) (Nat.zero_le _) (jretPI h)
          · have h := jite_t h (jb_t cq)
            refine j_aload_n C dX9_about_124 0 rfl ?_
            refine j_getW C dX9_about_125 inX9 rfl (by decide) rfl 0 (by decide) w_923 rfl rfl ?_
            refine j_iload_n C dX9_about_128 1 rfl ?_
            refine j_iconst C dX9_about_129 (v := 1) (by decide) ?_
            refine j_isub C dX9_about_130 ?_
            obtain ⟨c131_1, h⟩ := jchk h
            refine j_ialdW C dX9_about_131 (by decide) rfl (jin_vp c131_1) ?_
            refine j_goto C dX9_about_132 (tgt := 149) (by decide) ?_
            exact j_iret C dX9_about_149 rfl rfl (Nat.zero_le _) (Nat.zero_le _) (jretPI h)
        · have h := jite_t h cq
          refine j_aload_n C dX9_about_108 0 rfl ?_
          refine j_getW C dX9_about_109 inX9 rfl (by decide) rfl 2 (by decide) w_925 rfl rfl ?_
          refine j_goto C dX9_about_112 (tgt := 149) (by decide) ?_
          exact j_iret C dX9_about_149 rfl rfl (Nat.zero_le _) (Nat.zero_le _) (jretPI h)
      · have h := jite_t h (jb_t cq)
        refine j_aload_n C dX9_about_91 0 rfl ?_
        refine j_getW C dX9_about_92 inX9 rfl (by decide) rfl 0 (by decide) w_923 rfl rfl ?_
        refine j_bipush C dX9_about_95 (v := 36) (by decide) ?_
        refine j_iload_n C dX9_about_97 1 rfl ?_
        refine j_iadd C dX9_about_98 ?_
        refine j_bipush C dX9_about_99 (v := 30) (by decide) ?_
        refine j_isub C dX9_about_101 ?_
        obtain ⟨c102_2, h⟩ := jchk h
        refine j_ialdW C dX9_about_102 (by decide) rfl (jin_vp c102_2) ?_
        exact j_iret C dX9_about_103 rfl rfl (Nat.zero_le _) (Nat.zero_le _) (jretPI h)
    · have h := jite_t h (jb_t cq)
      refine j_aload_n C dX9_about_45 0 rfl ?_
      refine j_getW C dX9_about_46 inX9 rfl (by decide) rfl 0 (by decide) w_923 rfl rfl ?_
      refine j_bipush C dX9_about_49 (v := 12) (by decide) ?_
      refine j_iload_n C dX9_about_51 1 rfl ?_
      refine j_iadd C dX9_about_52 ?_
      refine j_bipush C dX9_about_53 (v := 20) (by decide) ?_
      refine j_isub C dX9_about_55 ?_
      obtain ⟨c56_3, h⟩ := jchk h
      refine j_ialdW C dX9_about_56 (by decide) rfl (jin_vp c56_3) ?_
      refine j_aload_n C dX9_about_57 0 rfl ?_
      refine j_getW C dX9_about_58 inX9 rfl (by decide) rfl 0 (by decide) w_923 rfl rfl ?_
      refine j_bipush C dX9_about_61 (v := 20) (by decide) ?_
      refine j_iload_n C dX9_about_63 1 rfl ?_
      refine j_iadd C dX9_about_64 ?_
      refine j_bipush C dX9_about_65 (v := 20) (by decide) ?_
      refine j_isub C dX9_about_67 ?_
      obtain ⟨c68_4, h⟩ := jchk h
      refine j_ialdW C dX9_about_68 (by decide) rfl (jin_vp c68_4) ?_
      refine j_if_ne C dX9_about_69 (tgt := 77) (by decide) (fun cq => ?_) (fun cq => ?_)
      · have h := jite_f h cq
        refine j_iconst C dX9_about_77 (v := 0) (by decide) ?_
        refine j_iadd C dX9_about_78 ?_
        exact j_iret C dX9_about_79 rfl rfl (Nat.zero_le _) (Nat.zero_le _) (jretPI h)
      · have h := jite_t h cq
        refine j_bipush C dX9_about_72 (v := 10) (by decide) ?_
        refine j_goto C dX9_about_74 (tgt := 78) (by decide) ?_
        refine j_iadd C dX9_about_78 ?_
        exact j_iret C dX9_about_79 rfl rfl (Nat.zero_le _) (Nat.zero_le _) (jretPI h)
  · have h := jite_t h (jb_t cq)
    refine j_aload_n C dX9_about_16 0 rfl ?_
    refine j_getW C dX9_about_17 inX9 rfl (by decide) rfl 0 (by decide) w_923 rfl rfl ?_
    refine j_bipush C dX9_about_20 (v := 28) (by decide) ?_
    refine j_iload_n C dX9_about_22 1 rfl ?_
    refine j_iadd C dX9_about_23 ?_
    refine j_bipush C dX9_about_24 (v := 10) (by decide) ?_
    refine j_isub C dX9_about_26 ?_
    obtain ⟨c27_5, h⟩ := jchk h
    refine j_ialdW C dX9_about_27 (by decide) rfl (jin_vp c27_5) ?_
    exact j_iret C dX9_about_28 rfl rfl (Nat.zero_le _) (Nat.zero_le _) (jretPI h)
