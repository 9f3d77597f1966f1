theorem dX8_image_0 : decode cX8_image 0 = .ok (.aload_n 0, 1) := by decide +kernel
theorem dX8_image_1 : decode cX8_image 1 = .ok (.getfield 45, 3) := by decide +kernel
theorem dX8_image_4 : decode cX8_image 4 = .ok (.aload_n 0, 1) := by decide +kernel
theorem dX8_image_5 : decode cX8_image 5 = .ok (.getfield 41, 3) := by decide +kernel
theorem dX8_image_8 : decode cX8_image 8 = .ok (.invokevirtual 256, 3) := by decide +kernel
theorem dX8_image_11 : decode cX8_image 11 = .ok (.aload_n 0, 1) := by decide +kernel
theorem dX8_image_12 : decode cX8_image 12 = .ok (.getfield 41, 3) := by decide +kernel
theorem dX8_image_15 : decode cX8_image 15 = .ok (.getfield 145, 3) := by decide +kernel
theorem dX8_image_18 : decode cX8_image 18 = .ok (.getfield 190, 3) := by decide +kernel
theorem dX8_image_21 : decode cX8_image 21 = .ok (.ireturn, 1) := by decide +kernel
-- X8_image
def F_X8_image (s : jS) : Option (Int32 × jS) :=
  ((F_X2_becomes_40_18 s).bind fun p8 => some ((p8.1 25 5), p8))
def rm_X8_image : Room := { frames := 3, cells := 0, slots := 0, locals := 68 }
set_option maxHeartbeats 4000000 in
set_option maxRecDepth 100000 in
theorem m_X8_image {l : Launch} {D : va_G} {G : Nat → ClassId} {KV : (Nat → Nat) × (Nat → Nat)} {ad : Nat → Nat} {nd : Nat} (s : jS) {p : Int32 × jS} (h : F_X8_image s = some p) : jM l D G KV yX8_image cX8_image 1 (some .int) rm_X8_image [.ref (ad 0)] (jw 54 (cellC G nd) ad s) 0 0 (fun v u => v = some (.int p.1) ∧ u = jw 54 (cellC G nd) ad p.2) := by
  refine jM.of (by decide) (Nat.le_of_ble_eq_true rfl) ?_
  intro K C
  unfold F_X8_image at h
  show K 0 0 (jw 54 (cellC G nd) ad s) 0 [(0, .ref (ad 0))] []
  refine j_aload_n C dX8_image_0 0 rfl ?_
  refine j_getW C dX8_image_1 inX8 rfl (by decide) rfl 2 (by decide) w_344 rfl rfl ?_
  refine j_aload_n C dX8_image_4 0 rfl ?_
  refine j_getW C dX8_image_5 inX8 rfl (by decide) rfl 1 (by decide) w_343 rfl rfl ?_
  obtain ⟨p8, he8, h⟩ := jbind h
  refine j_cV0 C dX8_image_8 (m_X2_becomes_40_18 s he8) kc_X2_becomes w_889 w_890 w_891 w_4 jy_X2_becomes ⟨⟨Nat.le_of_ble_eq_true rfl, Nat.le_of_ble_eq_true rfl⟩, ⟨rfl, rfl⟩, ⟨Nat.zero_le _, Nat.zero_le _⟩⟩ (Nat.le_of_ble_eq_true rfl) (by decide) rfl (r := (RX2, TX2, 10)) rfl rfl rfl (fun _ _ h => h) ?_
  refine j_aload_n C dX8_image_11 0 rfl ?_
  refine j_getW C dX8_image_12 inX8 rfl (by decide) rfl 1 (by decide) w_343 rfl rfl ?_
  refine j_getW C dX8_image_15 inX2 rfl (by decide) rfl 6 (by decide) w_134 rfl rfl ?_
  refine j_getW C dX8_image_18 inX6 rfl (by decide) rfl 5 (by decide) w_94 rfl rfl ?_
  exact j_iret C dX8_image_21 rfl rfl (Nat.zero_le _) (Nat.zero_le _) (jretWI h)
-- X6_becomes_25_47
def F_X6_becomes_25_47 (s : jS) : Option jS :=
  some (upR (upI (upI (upI (upI (upI (upI (upI s 25 0 (s.1 47 0)) 25 1 ((upI s 25 0 (s.1 47 0)).1 47 1)) 25 2 ((upI (upI s 25 0 (s.1 47 0)) 25 1 ((upI s 25 0 (s.1 47 0)).1 47 1)).1 47 2)) 25 3 ((upI (upI (upI s 25 0 (s.1 47 0)) 25 1 ((upI s 25 0 (s.1 47 0)).1 47 1)) 25 2 ((upI (upI s 25 0 (s.1 47 0)) 25 1 ((upI s 25 0 (s.1 47 0)).1 47 1)).1 47 2)).1 47 3)) 25 4 ((upI (upI (upI (upI s 25 0 (s.1 47 0)) 25 1 ((upI s 25 0 (s.1 47 0)).1 47 1)) 25 2 ((upI (upI s 25 0 (s.1 47 0)) 25 1 ((upI s 25 0 (s.1 47 0)).1 47 1)).1 47 2)) 25 3 ((upI (upI (upI s 25 0 (s.1 47 0)) 25 1 ((upI s 25 0 (s.1 47 0)).1 47 1)) 25 2 ((upI (upI s 25 0 (s.1 47 0)) 25 1 ((upI s 25 0 (s.1 47 0)).1 47 1)).1 47 2)).1 47 3)).1 47 4)) 25 5 ((upI (upI (upI (upI (upI s 25 0 (s.1 47 0)) 25 1 ((upI s 25 0 (s.1 47 0)).1 47 1)) 25 2 ((upI (upI s 25 0 (s.1 47 0)) 25 1 ((upI s 25 0 (s.1 47 0)).1 47 1)).1 47 2)) 25 3 ((upI (upI (upI s 25 0 (s.1 47 0)) 25 1 ((upI s 25 0 (s.1 47 0)).1 47 1)) 25 2 ((upI (upI s 25 0 (s.1 47 0)) 25 1 ((upI s 25 0 (s.1 47 0)).1 47 1)).1 47 2)).1 47 3)) 25 4 ((upI (upI (upI (upI s 25 0 (s.1 47 0)) 25 1 ((upI s 25 0 (s.1 47 0)).1 47 1)) 25 2 ((upI (upI s 25 0 (s.1 47 0)) 25 1 ((upI s 25 0 (s.1 47 0)).1 47 1)).1 47 2)) 25 3 ((upI (upI (upI s 25 0 (s.1 47 0)) 25 1 ((upI s 25 0 (s.1 47 0)).1 47 1)) 25 2 ((upI (upI s 25 0 (s.1 47 0)) 25 1 ((upI s 25 0 (s.1 47 0)).1 47 1)).1 47 2)).1 47 3)).1 47 4)).1 47 5)) 25 6 ((upI (upI (upI (upI (upI (upI s 25 0 (s.1 47 0)) 25 1 ((upI s 25 0 (s.1 47 0)).1 47 1)) 25 2 ((upI (upI s 25 0 (s.1 47 0)) 25 1 ((upI s 25 0 (s.1 47 0)).1 47 1)).1 47 2)) 25 3 ((upI (upI (upI s 25 0 (s.1 47 0)) 25 1 ((upI s 25 0 (s.1 47 0)).1 47 1)) 25 2 ((upI (upI s 25 0 (s.1 47 0)) 25 1 ((upI s 25 0 (s.1 47 0)).1 47 1)).1 47 2)).1 47 3)) 25 4 ((upI (upI (upI (upI s 25 0 (s.1 47 0)) 25 1 ((upI s 25 0 (s.1 47 0)).1 47 1)) 25 2 ((upI (upI s 25 0 (s.1 47 0)) 25 1 ((upI s 25 0 (s.1 47 0)).1 47 1)).1 47 2)) 25 3 ((upI (upI (upI s 25 0 (s.1 47 0)) 25 1 ((upI s 25 0 (s.1 47 0)).1 47 1)) 25 2 ((upI (upI s 25 0 (s.1 47 0)) 25 1 ((upI s 25 0 (s.1 47 0)).1 47 1)).1 47 2)).1 47 3)).1 47 4)) 25 5 ((upI (upI (upI (upI (upI s 25 0 (s.1 47 0)) 25 1 ((upI s 25 0 (s.1 47 0)).1 47 1)) 25 2 ((upI (upI s 25 0 (s.1 47 0)) 25 1 ((upI s 25 0 (s.1 47 0)).1 47 1)).1 47 2)) 25 3 ((upI (upI (upI s 25 0 (s.1 47 0)) 25 1 ((upI s 25 0 (s.1 47 0)).1 47 1)) 25 2 ((upI (upI s 25 0 (s.1 47 0)) 25 1 ((upI s 25 0 (s.1 47 0)).1 47 1)).1 47 2)).1 47 3)) 25 4 ((upI (upI (upI (upI s 25 0 (s.1 47 0)) 25 1 ((upI s 25 0 (s.1 47 0)).1 47 1)) 25 2 ((upI (upI s 25 0 (s.1 47 0)) 25 1 ((upI s 25 0 (s.1 47 0)).1 47 1)).1 47 2)) 25 3 ((upI (upI (upI s 25 0 (s.1 47 0)) 25 1 ((upI s 25 0 (s.1 47 0)).1 47 1)) 25 2 ((upI (upI s 25 0 (s.1 47 0)) 25 1 ((upI s 25 0 (s.1 47 0)).1 47 1)).1 47 2)).1 47 3)).1 47 4)).1 47 5)).1 47 6)) 26 (va_cpy ((upI (upI (upI (upI (upI (upI (upI s 25 0 (s.1 47 0)) 25 1 ((upI s 25 0 (s.1 47 0)).1 47 1)) 25 2 ((upI (upI s 25 0 (s.1 47 0)) 25 1 ((upI s 25 0 (s.1 47 0)).1 47 1)).1 47 2)) 25 3 ((upI (upI (upI s 25 0 (s.1 47 0)) 25 1 ((upI s 25 0 (s.1 47 0)).1 47 1)) 25 2 ((upI (upI s 25 0 (s.1 47 0)) 25 1 ((upI s 25 0 (s.1 47 0)).1 47 1)).1 47 2)).1 47 3)) 25 4 ((upI (upI (upI (upI s 25 0 (s.1 47 0)) 25 1 ((upI s 25 0 (s.1 47 0)).1 47 1)) 25 2 ((upI (upI s 25 0 (s.1 47 0)) 25 1 ((upI s 25 0 (s.1 47 0)).1 47 1)).1 47 2)) 25 3 ((upI (upI (upI s 25 0 (s.1 47 0)) 25 1 ((upI s 25 0 (s.1 47 0)).1 47 1)) 25 2 ((upI (upI s 25 0 (s.1 47 0)) 25 1 ((upI s 25 0 (s.1 47 0)).1 47 1)).1 47 2)).1 47 3)).1 47 4)) 25 5 ((upI (upI (upI (upI (upI s 25 0 (s.1 47 0)) 25 1 ((upI s 25 0 (s.1 47 0)).1 47 1)) 25 2 ((upI (upI s 25 0 (s.1 47 0)) 25 1 ((upI s 25 0 (s.1 47 0)).1 47 1)).1 47 2)) 25 3 ((upI (upI (upI s 25 0 (s.1 47 0)) 25 1 ((upI s 25 0 (s.1 47 0)).1 47 1)) 25 2 ((upI (upI s 25 0 (s.1 47 0)) 25 1 ((upI s 25 0 (s.1 47 0)).1 47 1)).1 47 2)).1 47 3)) 25 4 ((upI (upI (upI (upI s 25 0 (s.1 47 0)) 25 1 ((upI s 25 0 (s.1 47 0)).1 47 1)) 25 2 ((upI (upI s 25 0 (s.1 47 0)) 25 1 ((upI s 25 0 (s.1 47 0)).1 47 1)).1 47 2)) 25 3 ((upI (upI (upI s 25 0 (s.1 47 0)) 25 1 ((upI s 25 0 (s.1 47 0)).1 47 1)) 25 2 ((upI (upI s 25 0 (s.1 47 0)) 25 1 ((upI s 25 0 (s.1 47 0)).1 47 1)).1 47 2)).1 47 3)).1 47 4)).1 47 5)) 25 6 ((upI (upI (upI (upI (upI (upI s 25 0 (s.1 47 0)) 25 1 ((upI s 25 0 (s.1 47 0)).1 47 1)) 25 2 ((upI (upI s 25 0 (s.1 47 0)) 25 1 ((upI s 25 0 (s.1 47 0)).1 47 1)).1 47 2)) 25 3 ((upI (upI (upI s 25 0 (s.1 47 0)) 25 1 ((upI s 25 0 (s.1 47 0)).1 47 1)) 25 2 ((upI (upI s 25 0 (s.1 47 0)) 25 1 ((upI s 25 0 (s.1 47 0)).1 47 1)).1 47 2)).1 47 3)) 25 4 ((upI (upI (upI (upI s 25 0 (s.1 47 0)) 25 1 ((upI s 25 0 (s.1 47 0)).1 47 1)) 25 2 ((upI (upI s 25 0 (s.1 47 0)) 25 1 ((upI s 25 0 (s.1 47 0)).1 47 1)).1 47 2)) 25 3 ((upI (upI (upI s 25 0 (s.1 47 0)) 25 1 ((upI s 25 0 (s.1 47 0)).1 47 1)) 25 2 ((upI (upI s 25 0 (s.1 47 0)) 25 1 ((upI s 25 0 (s.1 47 0)).1 47 1)).1 47 2)).1 47 3)).1 47 4)) 25 5 ((upI (upI (upI (upI (upI s 25 0 (s.1 47 0)) 25 1 ((upI s 25 0 (s.1 47 0)).1 47 1)) 25 2 ((upI (upI s 25 0 (s.1 47 0)) 25 1 ((upI s 25 0 (s.1 47 0)).1 47 1)).1 47 2)) 25 3 ((upI (upI (upI s 25 0 (s.1 47 0)) 25 1 ((upI s 25 0 (s.1 47 0)).1 47 1)) 25 2 ((upI (upI s 25 0 (s.1 47 0)) 25 1 ((upI s 25 0 (s.1 47 0)).1 47 1)).1 47 2)).1 47 3)) 25 4 ((upI (upI (upI (upI s 25 0 (s.1 47 0)) 25 1 ((upI s 25 0 (s.1 47 0)).1 47 1)) 25 2 ((upI (upI s 25 0 (s.1 47 0)) 25 1 ((upI s 25 0 (s.1 47 0)).1 47 1)).1 47 2)) 25 3 ((upI (upI (upI s 25 0 (s.1 47 0)) 25 1 ((upI s 25 0 (s.1 47 0)).1 47 1)) 25 2 ((upI (upI s 25 0 (s.1 47 0)) 25 1 ((upI s 25 0 (s.1 47 0)).1 47 1)).1 47 2)).1 47 3)).1 47 4)).1 47 5)).1 47 6)).1 48) ((upI (upI (upI (upI (upI (upI (upI s 25 0 (s.1 47 0)) 25 1 ((upI s 25 0 (s.1 47 0)).1 47 1)) 25 2 ((upI (upI s 25 0 (s.1 47 0)) 25 1 ((upI s 25 0 (s.1 47 0)).1 47 1)).1 47 2)) 25 3 ((upI (upI (upI s 25 0 (s.1 47 0)) 25 1 ((upI s 25 0 (s.1 47 0)).1 47 1)) 25 2 ((upI (upI s 25 0 (s.1 47 0)) 25 1 ((upI s 25 0 (s.1 47 0)).1 47 1)).1 47 2)).1 47 3)) 25 4 ((upI (upI (upI (upI s 25 0 (s.1 47 0)) 25 1 ((upI s 25 0 (s.1 47 0)).1 47 1)) 25 2 ((upI (upI s 25 0 (s.1 47 0)) 25 1 ((upI s 25 0 (s.1 47 0)).1 47 1)).1 47 2)) 25 3 ((upI (upI (upI s 25 0 (s.1 47 0)) 25 1 ((upI s 25 0 (s.1 47 0)).1 47 1)) 25 2 ((upI (upI s 25 0 (s.1 47 0)) 25 1 ((upI s 25 0 (s.1 47 0)).1 47 1)).1 47 2)).1 47 3)).1 47 4)) 25 5 ((upI (upI (upI (upI (upI s 25 0 (s.1 47 0)) 25 1 ((upI s 25 0 (s.1 47 0)).1 47 1)) 25 2 ((upI (upI s 25 0 (s.1 47 0)) 25 1 ((upI s 25 0 (s.1 47 0)).1 47 1)).1 47 2)) 25 3 ((upI (upI (upI s 25 0 (s.1 47 0)) 25 1 ((upI s 25 0 (s.1 47 0)).1 47 1)) 25 2 ((upI (upI s 25 0 (s.1 47 0)) 25 1 ((upI s 25 0 (s.1 47 0)).1 47 1)).1 47 2)).1 47 3)) 25 4 ((upI (upI (upI (upI s 25 0 (s.1 47 0)) 25 1 ((upI s 25 0 (s.1 47 0)).1 47 1)) 25 2 ((upI (upI s 25 0 (s.1 47 0)) 25 1 ((upI s 25 0 (s.1 47 0)).1 47 1)).1 47 2)) 25 3 ((upI (upI (upI s 25 0 (s.1 47 0)) 25 1 ((upI s 25 0 (s.1 47 0)).1 47 1)) 25 2 ((upI (upI s 25 0 (s.1 47 0)) 25 1 ((upI s 25 0 (s.1 47 0)).1 47 1)).1 47 2)).1 47 3)).1 47 4)).1 47 5)) 25 6 ((upI (upI (upI (upI (upI (upI s 25 0 (s.1 47 0)) 25 1 ((upI s 25 0 (s.1 47 0)).1 47 1)) 25 2 ((upI (upI s 25 0 (s.1 47 0)) 25 1 ((upI s 25 0 (s.1 47 0)).1 47 1)).1 47 2)) 25 3 ((upI (upI (upI s 25 0 (s.1 47 0)) 25 1 ((upI s 25 0 (s.1 47 0)).1 47 1)) 25 2 ((upI (upI s 25 0 (s.1 47 0)) 25 1 ((upI s 25 0 (s.1 47 0)).1 47 1)).1 47 2)).1 47 3)) 25 4 ((upI (upI (upI (upI s 25 0 (s.1 47 0)) 25 1 ((upI s 25 0 (s.1 47 0)).1 47 1)) 25 2 ((upI (upI s 25 0 (s.1 47 0)) 25 1 ((upI s 25 0 (s.1 47 0)).1 47 1)).1 47 2)) 25 3 ((upI (upI (upI s 25 0 (s.1 47 0)) 25 1 ((upI s 25 0 (s.1 47 0)).1 47 1)) 25 2 ((upI (upI s 25 0 (s.1 47 0)) 25 1 ((upI s 25 0 (s.1 47 0)).1 47 1)).1 47 2)).1 47 3)).1 47 4)) 25 5 ((upI (upI (upI (upI (upI s 25 0 (s.1 47 0)) 25 1 ((upI s 25 0 (s.1 47 0)).1 47 1)) 25 2 ((upI (upI s 25 0 (s.1 47 0)) 25 1 ((upI s 25 0 (s.1 47 0)).1 47 1)).1 47 2)) 25 3 ((upI (upI (upI s 25 0 (s.1 47 0)) 25 1 ((upI s 25 0 (s.1 47 0)).1 47 1)) 25 2 ((upI (upI s 25 0 (s.1 47 0)) 25 1 ((upI s 25 0 (s.1 47 0)).1 47 1)).1 47 2)).1 47 3)) 25 4 ((upI (upI (upI (upI s 25 0 (s.1 47 0)) 25 1 ((upI s 25 0 (s.1 47 0)).1 47 1)) 25 2 ((upI (upI s 25 0 (s.1 47 0)) 25 1 ((upI s 25 0 (s.1 47 0)).1 47 1)).1 47 2)) 25 3 ((upI (upI (upI s 25 0 (s.1 47 0)) 25 1 ((upI s 25 0 (s.1 47 0)).1 47 1)) 25 2 ((upI (upI s 25 0 (s.1 47 0)) 25 1 ((upI s 25 0 (s.1 47 0)).1 47 1)).1 47 2)).1 47 3)).1 47 4)).1 47 5)).1 47 6)).1 26) (Int32.toNatClampNeg 0) (Int32.toNatClampNeg 0) (Int32.toNatClampNeg 30)))
def rm_X6_becomes_25_47 : Room := { frames := 1, cells := 0, slots := 0, locals := 26 }
set_option maxHeartbeats 4000000 in
set_option maxRecDepth 100000 in
theorem m_X6_becomes_25_47 {l : Launch} {D : va_G} {G : Nat → ClassId} {KV : (Nat → Nat) × (Nat → Nat)} {ad : Nat → Nat} {nd : Nat} (s : jS) {p : jS} (h : F_X6_becomes_25_47 s = some p) : jM l D G KV yX6_becomes cX6_becomes 2 none rm_X6_becomes_25_47 [.ref (ad 25), .ref (ad 47)] (jw 54 (cellC G nd) ad s) 0 0 (fun v u => v = none ∧ u = jw 54 (cellC G nd) ad p) := by
  refine jM.of (by decide) (Nat.le_of_ble_eq_true rfl) ?_
  intro K C
  unfold F_X6_becomes_25_47 at h
  show K 0 0 (jw 54 (cellC G nd) ad s) 0 [(0, .ref (ad 25)), (1, .ref (ad 47))] []
  refine j_aload_n C dX6_becomes_0 0 rfl ?_
  refine j_aload_n C dX6_becomes_1 1 rfl ?_
  refine j_getW C dX6_becomes_2 inX6 rfl (by decide) rfl 0 (by decide) w_83 rfl rfl ?_
  refine j_putI C dX6_becomes_5 inX6 tyX6 tyX6_ok nmX6 rfl (by decide) 0 rfl rfl (by decide) w_83 rfl rfl rfl rfl (Nat.le_of_ble_eq_true rfl) ?_
  refine j_aload_n C dX6_becomes_8 0 rfl ?_
  refine j_aload_n C dX6_becomes_9 1 rfl ?_
  refine j_getW C dX6_becomes_10 inX6 rfl (by decide) rfl 1 (by decide) w_85 rfl rfl ?_
  refine j_putI C dX6_becomes_13 inX6 tyX6 tyX6_ok nmX6 rfl (by decide) 1 rfl rfl (by decide) w_85 rfl rfl rfl rfl (Nat.le_of_ble_eq_true rfl) ?_
  refine j_aload_n C dX6_becomes_16 0 rfl ?_
  refine j_aload_n C dX6_becomes_17 1 rfl ?_
  refine j_getW C dX6_becomes_18 inX6 rfl (by decide) rfl 2 (by decide) w_87 rfl rfl ?_
  refine j_putI C dX6_becomes_21 inX6 tyX6 tyX6_ok nmX6 rfl (by decide) 2 rfl rfl (by decide) w_87 rfl rfl rfl rfl (Nat.le_of_ble_eq_true rfl) ?_
  refine j_aload_n C dX6_becomes_24 0 rfl ?_
  refine j_aload_n C dX6_becomes_25 1 rfl ?_
  refine j_getW C dX6_becomes_26 inX6 rfl (by decide) rfl 3 (by decide) w_89 rfl rfl ?_
  refine j_putI C dX6_becomes_29 inX6 tyX6 tyX6_ok nmX6 rfl (by decide) 3 rfl rfl (by decide) w_89 rfl rfl rfl rfl (Nat.le_of_ble_eq_true rfl) ?_
  refine j_aload_n C dX6_becomes_32 0 rfl ?_
  refine j_aload_n C dX6_becomes_33 1 rfl ?_
  refine j_getW C dX6_becomes_34 inX6 rfl (by decide) rfl 4 (by decide) w_91 rfl rfl ?_
  refine j_putI C dX6_becomes_37 inX6 tyX6 tyX6_ok nmX6 rfl (by decide) 4 rfl rfl (by decide) w_91 rfl rfl rfl rfl (Nat.le_of_ble_eq_true rfl) ?_
  refine j_aload_n C dX6_becomes_40 0 rfl ?_
  refine j_aload_n C dX6_becomes_41 1 rfl ?_
  refine j_getW C dX6_becomes_42 inX6 rfl (by decide) rfl 5 (by decide) w_93 rfl rfl ?_
  refine j_putI C dX6_becomes_45 inX6 tyX6 tyX6_ok nmX6 rfl (by decide) 5 rfl rfl (by decide) w_93 rfl rfl rfl rfl (Nat.le_of_ble_eq_true rfl) ?_
  refine j_aload_n C dX6_becomes_48 0 rfl ?_
  refine j_aload_n C dX6_becomes_49 1 rfl ?_
  refine j_getW C dX6_becomes_50 inX6 rfl (by decide) rfl 6 (by decide) w_95 rfl rfl ?_
  refine j_putI C dX6_becomes_53 inX6 tyX6 tyX6_ok nmX6 rfl (by decide) 6 rfl rfl (by decide) w_95 rfl rfl rfl rfl (Nat.le_of_ble_eq_true rfl) ?_
  refine j_aload_n C dX6_becomes_56 1 rfl ?_
  refine j_getW C dX6_becomes_57 inX6 rfl (by decide) rfl 7 (by decide) w_97 rfl rfl ?_
  refine j_iconst C dX6_becomes_60 (v := 0) (by decide) ?_
  refine j_aload_n C dX6_becomes_61 0 rfl ?_
  refine j_getW C dX6_becomes_62 inX6 rfl (by decide) rfl 7 (by decide) w_97 rfl rfl ?_
  refine j_iconst C dX6_becomes_65 (v := 0) (by decide) ?_
  refine j_bipush C dX6_becomes_66 (v := 30) (by decide) ?_
  refine j_copyI C dX6_becomes_68 w_700 w_702 w_701 w_16 (by decide) (by decide) (fun _ => rfl) (fun _ => rfl) (by decide) (by decide) (by decide) (by decide) (by decide) (Nat.le_of_ble_eq_true rfl) (Nat.le_of_ble_eq_true rfl) ?_
  exact j_vret C dX6_becomes_71 rfl (Nat.zero_le _) (Nat.zero_le _) (jretWV h)
