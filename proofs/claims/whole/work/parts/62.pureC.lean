/-! one word of a rule: the class's numbers and the reference's -/
theorem i64_eq {x y : Int64} : x = y ↔ x.toInt = y.toInt := Int64.toInt_inj.symm
theorem cmp_le0 {x y : Int64} : lg_cmp x y ≤ 0 ↔ x.toInt ≤ y.toInt := by
  unfold lg_cmp
  have h1 : x > y ↔ y.toInt < x.toInt := Int64.lt_iff_toInt_lt
  by_cases h : x > y
  · rw [if_pos h]; have := h1.mp h
    constructor
    · intro z; exact absurd z (by decide)
    · intro z; omega
  · rw [if_neg h]
    have h2 : ¬ y.toInt < x.toInt := fun z => h (h1.mpr z)
    by_cases e : x = y
    · rw [if_pos e]; constructor
      · intro _; omega
      · intro _; decide
    · rw [if_neg e]; constructor
      · intro _; omega
      · intro _; decide
theorem cmp_ge0 {x y : Int64} : 0 ≤ lg_cmp x y ↔ y.toInt ≤ x.toInt := by
  unfold lg_cmp
  have h1 : x > y ↔ y.toInt < x.toInt := Int64.lt_iff_toInt_lt
  by_cases h : x > y
  · rw [if_pos h]; have := h1.mp h
    constructor
    · intro z; omega
    · intro z; decide
  · rw [if_neg h]
    have h2 : ¬ y.toInt < x.toInt := fun z => h (h1.mpr z)
    by_cases e : x = y
    · rw [if_pos e, e]; constructor
      · intro _; omega
      · intro _; decide
    · rw [if_neg e]; constructor
      · intro z; exact absurd z (by decide)
      · intro z; rw [i64_eq] at e; omega
theorem cmp_eq0 {x y : Int64} : lg_cmp x y = 0 ↔ x.toInt = y.toInt := by
  unfold lg_cmp
  have h1 : x > y ↔ y.toInt < x.toInt := Int64.lt_iff_toInt_lt
  by_cases h : x > y
  · rw [if_pos h]; have := h1.mp h
    constructor
    · intro z; exact absurd z (by decide)
    · intro z; omega
  · rw [if_neg h]
    by_cases e : x = y
    · rw [if_pos e, e]; exact ⟨fun _ => rfl, fun _ => rfl⟩
    · rw [if_neg e]; constructor
      · intro z; exact absurd z (by decide)
      · intro z; exact absurd (i64_eq.mpr z) e
theorem cmp_gt0 {x y : Int64} : 0 < lg_cmp x y ↔ y.toInt < x.toInt := by
  have h := cmp_le0 (x := x) (y := y)
  rw [i32_le] at h
  rw [i32_lt]
  have l0 : (0 : Int32).toInt = 0 := rfl
  omega
theorem cmp_lt0 {x y : Int64} : lg_cmp x y < 0 ↔ x.toInt < y.toInt := by
  have h := cmp_ge0 (x := x) (y := y)
  rw [i32_le] at h
  rw [i32_lt]
  have l0 : (0 : Int32).toInt = 0 := rfl
  omega
def valOK (x : Int32) : Prop := -1000000 ≤ x.toInt ∧ x.toInt ≤ 1000000
theorem clip_eq (v : Int64) : ∃ r, J_X3_joined_178 v = some r ∧ valOK r ∧ r.toInt64 = F_X9_clip v := by
  unfold J_X3_joined_178 F_X9_clip
  have la : (1000000 : Int64).toInt = 1000000 := rfl
  have lb : (-1000000 : Int64).toInt = -1000000 := rfl
  by_cases h1 : lg_cmp v 1000000 ≤ 0
  · rw [if_pos h1, if_pos h1]
    have h1' := cmp_le0.mp h1
    by_cases h2 : 0 ≤ lg_cmp v (-1000000)
    · rw [if_pos h2, if_pos h2]
      have h2' := cmp_ge0.mp h2
      have e : v.toInt32.toInt = v.toInt := by rw [Int64.toInt_toInt32]; exact Int.bmod_eq_of_le (by omega) (by omega)
      exact ⟨_, rfl, ⟨by omega, by omega⟩, i64_eq.mpr (by rw [Int32.toInt_toInt64, e])⟩
    · rw [if_neg h2, if_neg h2]
      exact ⟨_, rfl, ⟨by decide, by decide⟩, by decide⟩
  · rw [if_neg h1, if_neg h1]
    exact ⟨_, rfl, ⟨by decide, by decide⟩, by decide⟩
theorem i64_div {x y : Int32} (hx : valOK x) (hy : ¬ y = 0) : (x / y).toInt64 = x.toInt64 / y.toInt64 := by
  have hb : (x.toInt.tdiv y.toInt).natAbs ≤ x.toInt.natAbs := Int.natAbs_tdiv_le_natAbs _ _
  obtain ⟨h1, h2⟩ := hx
  apply i64_eq.mpr
  rw [Int32.toInt_toInt64, Int32.toInt_div, Int64.toInt_div, Int32.toInt_toInt64, Int32.toInt_toInt64, Int.bmod_eq_of_le (by omega) (by omega), Int.bmod_eq_of_le (by omega) (by omega)]
/-- + - * / -/
theorem two_eq {x y : Int32} (hx : valOK x) (hy : valOK y) {o : Nat} (ho : 3 ≤ o) (ho2 : o ≤ 6) : ∃ r, F_X3_joined (Int32.ofNat (17 + o)) x y = some r ∧ valOK r ∧ F_X9_two (Int32.ofNat o) x.toInt64 y.toInt64 = some r.toInt64 := by
  have : o = 3 ∨ o = 4 ∨ o = 5 ∨ o = 6 := by omega
  rcases this with rfl | rfl | rfl | rfl
  · obtain ⟨r, h1, h2, h3⟩ := clip_eq (x.toInt64 + y.toInt64)
    exact ⟨r, h1, h2, by rw [h3]; rfl⟩
  · obtain ⟨r, h1, h2, h3⟩ := clip_eq (x.toInt64 - y.toInt64)
    exact ⟨r, h1, h2, by rw [h3]; rfl⟩
  · obtain ⟨r, h1, h2, h3⟩ := clip_eq (x.toInt64 * y.toInt64)
    exact ⟨r, h1, h2, by rw [h3]; rfl⟩
  · show ∃ r, J_X3_joined_165 x y = some r ∧ valOK r ∧ (if (lg_cmp y.toInt64 0) = 0 then some 0 else (if ¬ y.toInt64 = 0 then some (F_X9_clip (x.toInt64 / y.toInt64)) else none)) = some r.toInt64
    unfold J_X3_joined_165
    by_cases h : y = 0
    · subst h
      exact ⟨0, rfl, ⟨by decide, by decide⟩, rfl⟩
    · have h2 : ¬ y.toInt64.toInt = (0 : Int64).toInt := by
        rw [Int32.toInt_toInt64]
        exact fun z => h (i32_eq.mpr z)
      have h3 : ¬ y.toInt64 = 0 := fun z => h2 (i64_eq.mp z)
      rw [if_neg h, if_pos h, if_neg (fun z => h2 (cmp_eq0.mp z)), if_pos h3, ← i64_div hx h]
      obtain ⟨r, h1, h2, h3⟩ := clip_eq (x / y).toInt64
      exact ⟨r, h1, h2, by rw [h3]⟩
/-- < <= > >= = # -/
theorem ask_eq {x y : Int32} {o : Nat} (ho : 10 ≤ o) (ho2 : o ≤ 15) : F_X3_joined (Int32.ofNat (o + 4)) x y = some (jb (F_X9_isAsked (Int32.ofNat o) x.toInt64 y.toInt64)) := by
  have ex : x.toInt64.toInt = x.toInt := Int32.toInt_toInt64 x
  have ey : y.toInt64.toInt = y.toInt := Int32.toInt_toInt64 y
  have : o = 10 ∨ o = 11 ∨ o = 12 ∨ o = 13 ∨ o = 14 ∨ o = 15 := by omega
  rcases this with rfl | rfl | rfl | rfl | rfl | rfl
  · show (if y ≤ x then some (0 : Int32) else some 1) = some (jb (if 0 ≤ (lg_cmp x.toInt64 y.toInt64) then false else true))
    by_cases h : y ≤ x
    · rw [if_pos h, if_pos (cmp_ge0.mpr (by have := i32_le.mp h; omega))]; rfl
    · rw [if_neg h, if_neg (fun z => h (i32_le.mpr (by have := cmp_ge0.mp z; omega)))]; rfl
  · show (if y < x then some (0 : Int32) else some 1) = some (jb (if 0 < (lg_cmp x.toInt64 y.toInt64) then false else true))
    by_cases h : y < x
    · rw [if_pos h, if_pos (cmp_gt0.mpr (by have := i32_lt.mp h; omega))]; rfl
    · rw [if_neg h, if_neg (fun z => h (i32_lt.mpr (by have := cmp_gt0.mp z; omega)))]; rfl
  · show (if x ≤ y then some (0 : Int32) else some 1) = some (jb (if (lg_cmp x.toInt64 y.toInt64) ≤ 0 then false else true))
    by_cases h : x ≤ y
    · rw [if_pos h, if_pos (cmp_le0.mpr (by have := i32_le.mp h; omega))]; rfl
    · rw [if_neg h, if_neg (fun z => h (i32_le.mpr (by have := cmp_le0.mp z; omega)))]; rfl
  · show (if x < y then some (0 : Int32) else some 1) = some (jb (if (lg_cmp x.toInt64 y.toInt64) < 0 then false else true))
    by_cases h : x < y
    · rw [if_pos h, if_pos (cmp_lt0.mpr (by have := i32_lt.mp h; omega))]; rfl
    · rw [if_neg h, if_neg (fun z => h (i32_lt.mpr (by have := cmp_lt0.mp z; omega)))]; rfl
  · show (if x = y then some (1 : Int32) else some 0) = some (jb (if (lg_cmp x.toInt64 y.toInt64) = 0 then true else false))
    by_cases h : x = y
    · rw [if_pos h, if_pos (cmp_eq0.mpr (by have := i32_eq.mp h; omega))]; rfl
    · rw [if_neg h, if_neg (fun z => h (i32_eq.mpr (by have := cmp_eq0.mp z; omega)))]; rfl
  · show (if x = y then some (0 : Int32) else some 1) = some (jb (if (lg_cmp x.toInt64 y.toInt64) = 0 then false else true))
    by_cases h : x = y
    · rw [if_pos h, if_pos (cmp_eq0.mpr (by have := i32_eq.mp h; omega))]; rfl
    · rw [if_neg h, if_neg (fun z => h (i32_eq.mpr (by have := cmp_eq0.mp z; omega)))]; rfl
theorem neg_eq {x : Int32} (hx : valOK x) : valOK (-x) ∧ (-x).toInt64 = -x.toInt64 := by
  obtain ⟨h1, h2⟩ := hx
  have e : (-x).toInt = -x.toInt := by rw [Int32.toInt_neg]; exact Int.bmod_eq_of_le (by omega) (by omega)
  refine ⟨⟨by omega, by omega⟩, i64_eq.mpr ?_⟩
  rw [Int32.toInt_toInt64, e, Int64.toInt_neg, Int32.toInt_toInt64]
  exact (Int.bmod_eq_of_le (by omega) (by omega)).symm
/-! a rule's code on the class's pile and on the reference's two -/
def opStep (w o v : Int32) (a b a' b' : Nat) : Prop :=
  (o = 0 ∧ w = v ∧ 0 ≤ v.toInt ∧ v.toInt ≤ 9999 ∧ a' = a + 1 ∧ b' = b ∧ a + b < 64) ∨
  (o = 1 ∧ w = 10000 + v ∧ 0 ≤ v.toInt ∧ v.toInt < 8 ∧ a' = a + 1 ∧ b' = b ∧ a + b < 64) ∨
  (o = 2 ∧ w = -24 ∧ 1 ≤ a ∧ a' = a ∧ b' = b) ∨
  (∃ k : Nat, 3 ≤ k ∧ k ≤ 6 ∧ o = Int32.ofNat k ∧ w = -Int32.ofNat (17 + k) ∧ 2 ≤ a ∧ a' + 1 = a ∧ b' = b) ∨
  (∃ k : Nat, 10 ≤ k ∧ k ≤ 15 ∧ o = Int32.ofNat k ∧ w = -Int32.ofNat (k + 4) ∧ a = 2 ∧ a' = 0 ∧ b' = b + 1) ∨
  (o = 20 ∧ w = -13 ∧ a = 0 ∧ 1 ≤ b ∧ a' = 0 ∧ b' = b) ∨
  (o = 21 ∧ w = -12 ∧ a = 0 ∧ 2 ≤ b ∧ a' = 0 ∧ b' + 1 = b) ∨
  (o = 22 ∧ w = -11 ∧ a = 0 ∧ 2 ≤ b ∧ a' = 0 ∧ b' + 1 = b)
def stk (st z8 : Nat → Int32) (z7 : Nat → Int64) (a b : Nat) : Prop :=
  (∀ i : Nat, i < b → st i = jb (jz (z8 i))) ∧ ∀ j : Nat, j < a → valOK (st (b + j)) ∧ z7 j = (st (b + j)).toInt64
section
variable {n t : Nat} {h i : Int32} {s : jS}
theorem cls_num {W : Int32} (c1 : ¬ s.1 (2 + 4 * t) 3 ≤ i) (c2 : ¬ 300 ≤ i) (c3 : jin i 300 = true) (hW : s.1 (2 + 4 * t + 1) (Int32.toNatClampNeg i) = W) (w0 : 0 ≤ W.toInt) (w1 : W.toInt ≤ 9999) (hh : ¬ 64 ≤ h) (hj : jin h 64 = true) : B_X3_holds_T_4 n t (h, i, s) = some (.inl (h + 1, i + 1, upI s 31 (Int32.toNatClampNeg h) W)) := by
  have l0 : (0 : Int32).toInt = 0 := rfl
  have l1 : (10000 : Int32).toInt = 10000 := rfl
  unfold B_X3_holds_T_4
  dsimp only
  rw [if_neg c1, if_neg c2, if_pos c3, hW, if_neg (fun z => by have := i32_lt.mp z; omega), if_neg hh, if_pos (i32_lt.mpr (by rw [i32_sub (by omega) (by omega)]; omega)), if_pos hj]
  rfl
theorem cls_name {W v : Int32} (c1 : ¬ s.1 (2 + 4 * t) 3 ≤ i) (c2 : ¬ 300 ≤ i) (c3 : jin i 300 = true) (hW : s.1 (2 + 4 * t + 1) (Int32.toNatClampNeg i) = W) (hv : W = 10000 + v) (w0 : 0 ≤ v.toInt) (w1 : v.toInt < 8) (hh : ¬ 64 ≤ h) (hj : jin h 64 = true) : B_X3_holds_T_4 n t (h, i, s) = some (.inl (h + 1, i + 1, upI s 31 (Int32.toNatClampNeg h) (s.1 30 (Int32.toNatClampNeg v)))) := by
  have l0 : (0 : Int32).toInt = 0 := rfl
  have l8 : (8 : Int32).toInt = 8 := rfl
  have l1 : (10000 : Int32).toInt = 10000 := rfl
  have e1 : W.toInt = 10000 + v.toInt := by rw [hv, i32_add (by omega) (by omega)]; omega
  have e2 : W - 10000 = v := i32_eq.mpr (by rw [i32_sub (by omega) (by omega)]; omega)
  unfold B_X3_holds_T_4
  dsimp only
  rw [if_neg c1, if_neg c2, if_pos c3, hW, if_neg (fun z => by have := i32_lt.mp z; omega), if_neg hh, e2, if_neg (fun z => by have := i32_lt.mp z; omega), if_neg (fun z => by have := i32_le.mp z; omega), if_pos (jin_of w0 (by omega)), if_pos hj]
  rfl
theorem cls_not {W : Int32} (c1 : ¬ s.1 (2 + 4 * t) 3 ≤ i) (c2 : ¬ 300 ≤ i) (c3 : jin i 300 = true) (hW : s.1 (2 + 4 * t + 1) (Int32.toNatClampNeg i) = W) (hv : W = -13) (hh : ¬ h ≤ 0) (hj : jin (h - 1) 64 = true) : B_X3_holds_T_4 n t (h, i, s) = some (.inl (h, i + 1, upI s 31 (Int32.toNatClampNeg (h - 1)) (1 - s.1 31 (Int32.toNatClampNeg (h - 1))))) := by
  unfold B_X3_holds_T_4
  dsimp only
  rw [if_neg c1, if_neg c2, if_pos c3, hW, hv, if_pos (by decide), if_neg hh, if_pos rfl, if_pos hj]
  rfl
theorem cls_neg {W : Int32} (c1 : ¬ s.1 (2 + 4 * t) 3 ≤ i) (c2 : ¬ 300 ≤ i) (c3 : jin i 300 = true) (hW : s.1 (2 + 4 * t + 1) (Int32.toNatClampNeg i) = W) (hv : W = -24) (hh : ¬ h ≤ 0) (hj : jin (h - 1) 64 = true) : B_X3_holds_T_4 n t (h, i, s) = some (.inl (h, i + 1, upI s 31 (Int32.toNatClampNeg (h - 1)) (-(s.1 31 (Int32.toNatClampNeg (h - 1)))))) := by
  unfold B_X3_holds_T_4 J_X3_holds_T_114
  dsimp only
  rw [if_neg c1, if_neg c2, if_pos c3, hW, hv, if_pos (by decide), if_neg hh, if_neg (by decide), if_neg hh, if_pos rfl, if_pos hj]
  rfl
theorem cls_two {W r : Int32} {k : Nat} (c1 : ¬ s.1 (2 + 4 * t) 3 ≤ i) (c2 : ¬ 300 ≤ i) (c3 : jin i 300 = true) (hW : s.1 (2 + 4 * t + 1) (Int32.toNatClampNeg i) = W) (hv : W = -Int32.ofNat k) (hk : k = 11 ∨ k = 12 ∨ (14 ≤ k ∧ k ≤ 23)) (hh : ¬ h ≤ 1) (hj : jin (h + (-1) - 1) 64 = true) (hj2 : jin (h + (-1)) 64 = true) (hr : F_X3_joined (Int32.ofNat k) (s.1 31 (Int32.toNatClampNeg (h + (-1) - 1))) (s.1 31 (Int32.toNatClampNeg (h + (-1)))) = some r) : B_X3_holds_T_4 n t (h, i, s) = some (.inl (h + (-1), i + 1, upI s 31 (Int32.toNatClampNeg (h + (-1) - 1)) r)) := by
  have hh0 : ¬ h ≤ 0 := fun z => hh (by rw [i32_le] at z ⊢; have l0 : (0 : Int32).toInt = 0 := rfl; have l1 : (1 : Int32).toInt = 1 := rfl; omega)
  have n1 : -Int32.ofNat k < 0 := by
    have : k = 11 ∨ k = 12 ∨ k = 14 ∨ k = 15 ∨ k = 16 ∨ k = 17 ∨ k = 18 ∨ k = 19 ∨ k = 20 ∨ k = 21 ∨ k = 22 ∨ k = 23 := by omega
    rcases this with rfl | rfl | rfl | rfl | rfl | rfl | rfl | rfl | rfl | rfl | rfl | rfl <;> decide
  have n2 : ¬ -Int32.ofNat k = -13 := by
    have : k = 11 ∨ k = 12 ∨ k = 14 ∨ k = 15 ∨ k = 16 ∨ k = 17 ∨ k = 18 ∨ k = 19 ∨ k = 20 ∨ k = 21 ∨ k = 22 ∨ k = 23 := by omega
    rcases this with rfl | rfl | rfl | rfl | rfl | rfl | rfl | rfl | rfl | rfl | rfl | rfl <;> decide
  have n3 : ¬ -Int32.ofNat k = -24 := by
    have : k = 11 ∨ k = 12 ∨ k = 14 ∨ k = 15 ∨ k = 16 ∨ k = 17 ∨ k = 18 ∨ k = 19 ∨ k = 20 ∨ k = 21 ∨ k = 22 ∨ k = 23 := by omega
    rcases this with rfl | rfl | rfl | rfl | rfl | rfl | rfl | rfl | rfl | rfl | rfl | rfl <;> decide
  have n4 : - -Int32.ofNat k = Int32.ofNat k := Int32.neg_neg
  unfold B_X3_holds_T_4 J_X3_holds_T_114 J_X3_holds_T_145
  dsimp only
  rw [if_neg c1, if_neg c2, if_pos c3, hW, hv, if_pos n1, if_neg hh0, if_neg n2, if_neg hh0, if_neg n3, if_neg hh, if_pos hj, if_pos hj2, n4, hr]
  rfl
end
section
variable {n : Nat} {v3 v4 a b i e o v : Int32} {u : jS}
/-- what the reference's round asks before it looks at the word -/
def refAt (v3 v4 i o v : Int32) (u : jS) : Prop := jin (v3 + 2) 2720 = true ∧ ¬ u.1 3 (Int32.toNatClampNeg (v3 + 2)) ≤ i ∧ jin (v4 + (2 * i)) 2720 = true ∧ jin ((v4 + (2 * i)) + 1) 2720 = true ∧ u.1 3 (Int32.toNatClampNeg (v4 + (2 * i))) = o ∧ u.1 3 (Int32.toNatClampNeg ((v4 + (2 * i)) + 1)) = v
theorem ref_num (h : refAt v3 v4 i 0 v u) (hj : jin a 330 = true) : B_X9_work_38 n v3 v4 (a, b, i, u) = some (.inl (a + 1, b, i + 1, upL u 7 (Int32.toNatClampNeg a) (Int32.toInt64 v))) := by
  obtain ⟨h1, h2, h3, h4, h5, h6⟩ := h
  unfold B_X9_work_38
  dsimp only
  rw [if_pos h1, if_neg h2, if_pos h3, if_pos h4, h5, if_neg (by decide), if_pos rfl, if_pos hj, h6]
  rfl
theorem ref_name (h : refAt v3 v4 i 1 v u) (hv : jin v 8 = true) (hj : jin a 330 = true) : B_X9_work_38 n v3 v4 (a, b, i, u) = some (.inl (a + 1, b, i + 1, upL u 7 (Int32.toNatClampNeg a) (Int32.toInt64 (u.1 6 (Int32.toNatClampNeg v))))) := by
  obtain ⟨h1, h2, h3, h4, h5, h6⟩ := h
  unfold B_X9_work_38
  dsimp only
  rw [if_pos h1, if_neg h2, if_pos h3, if_pos h4, h5, if_neg (by decide), if_neg (by decide), h6, if_pos hv, if_pos hj]
  rfl
theorem ref_neg (h : refAt v3 v4 i 2 v u) (hj : jin (a - 1) 330 = true) : B_X9_work_38 n v3 v4 (a, b, i, u) = some (.inl (a, b, i + 1, upL u 7 (Int32.toNatClampNeg (a - 1)) (-(u.2 7 (Int32.toNatClampNeg (a - 1)))))) := by
  obtain ⟨h1, h2, h3, h4, h5, h6⟩ := h
  unfold B_X9_work_38
  dsimp only
  rw [if_pos h1, if_neg h2, if_pos h3, if_pos h4, h5, if_pos (by decide), if_pos rfl, if_pos hj]
  rfl
theorem ref_two {k : Nat} {r : Int64} (h : refAt v3 v4 i (Int32.ofNat k) v u) (k3 : 3 ≤ k) (k6 : k ≤ 6) (hj : jin (a + (-1) - 1) 330 = true) (hj2 : jin (a + (-1)) 330 = true) (hr : F_X9_two (Int32.ofNat k) (u.2 7 (Int32.toNatClampNeg (a + (-1) - 1))) (u.2 7 (Int32.toNatClampNeg (a + (-1)))) = some r) : B_X9_work_38 n v3 v4 (a, b, i, u) = some (.inl (a + (-1), b, i + 1, upL u 7 (Int32.toNatClampNeg (a + (-1) - 1)) r)) := by
  obtain ⟨h1, h2, h3, h4, h5, h6⟩ := h
  have n1 : 1 < Int32.ofNat k ∧ ¬ Int32.ofNat k = 2 ∧ ¬ 10 ≤ Int32.ofNat k := by
    have : k = 3 ∨ k = 4 ∨ k = 5 ∨ k = 6 := by omega
    rcases this with rfl | rfl | rfl | rfl <;> decide
  unfold B_X9_work_38
  dsimp only
  rw [if_pos h1, if_neg h2, if_pos h3, if_pos h4, h5, if_pos n1.1, if_neg n1.2.1, if_neg n1.2.2, if_pos hj, if_pos hj2, hr]
  rfl
theorem ref_ask {k : Nat} (h : refAt v3 v4 i (Int32.ofNat k) v u) (k3 : 10 ≤ k) (k6 : k ≤ 15) (hj : jin (a + (-2)) 330 = true) (hj2 : jin (a + (-2) + 1) 330 = true) (hb : jin b 330 = true) : B_X9_work_38 n v3 v4 (a, b, i, u) = some (.inl (a + (-2), b + 1, i + 1, upI u 8 (Int32.toNatClampNeg b) (jb (F_X9_isAsked (Int32.ofNat k) (u.2 7 (Int32.toNatClampNeg (a + (-2)))) (u.2 7 (Int32.toNatClampNeg (a + (-2) + 1))))))) := by
  obtain ⟨h1, h2, h3, h4, h5, h6⟩ := h
  have n1 : 1 < Int32.ofNat k ∧ ¬ Int32.ofNat k = 2 ∧ 10 ≤ Int32.ofNat k ∧ ¬ 20 ≤ Int32.ofNat k := by
    have : k = 10 ∨ k = 11 ∨ k = 12 ∨ k = 13 ∨ k = 14 ∨ k = 15 := by omega
    rcases this with rfl | rfl | rfl | rfl | rfl | rfl <;> decide
  unfold B_X9_work_38
  dsimp only
  rw [if_pos h1, if_neg h2, if_pos h3, if_pos h4, h5, if_pos n1.1, if_neg n1.2.1, if_pos n1.2.2.1, if_neg n1.2.2.2, if_pos hj, if_pos hj2, if_pos hb]
  rfl
theorem ref_not (h : refAt v3 v4 i 20 v u) (hj : jin (b - 1) 330 = true) : B_X9_work_38 n v3 v4 (a, b, i, u) = some (.inl (a, b, i + 1, upI u 8 (Int32.toNatClampNeg (b - 1)) (jb (!jz (u.1 8 (Int32.toNatClampNeg (b - 1))))))) := by
  obtain ⟨h1, h2, h3, h4, h5, h6⟩ := h
  unfold B_X9_work_38
  dsimp only
  rw [if_pos h1, if_neg h2, if_pos h3, if_pos h4, h5, if_pos (by decide), if_neg (by decide), if_pos (by decide), if_pos (by decide), if_pos rfl, if_pos hj]
  cases jz (u.1 8 (Int32.toNatClampNeg (b - 1))) <;> rfl
theorem ref_and (h : refAt v3 v4 i 21 v u) (hj : jin (b + (-1) - 1) 330 = true) (hj2 : jin (b + (-1)) 330 = true) : B_X9_work_38 n v3 v4 (a, b, i, u) = some (.inl (a, b + (-1), i + 1, upI u 8 (Int32.toNatClampNeg (b + (-1) - 1)) (jb (jz (u.1 8 (Int32.toNatClampNeg (b + (-1) - 1))) && jz (u.1 8 (Int32.toNatClampNeg (b + (-1)))))))) := by
  obtain ⟨h1, h2, h3, h4, h5, h6⟩ := h
  unfold B_X9_work_38
  dsimp only
  rw [if_pos h1, if_neg h2, if_pos h3, if_pos h4, h5, if_pos (by decide), if_neg (by decide), if_pos (by decide), if_pos (by decide), if_neg (by decide), if_pos rfl, if_pos hj, if_pos hj2]
  cases jz (u.1 8 (Int32.toNatClampNeg (b + (-1) - 1))) <;> cases jz (u.1 8 (Int32.toNatClampNeg (b + (-1)))) <;> rfl
theorem ref_or (h : refAt v3 v4 i 22 v u) (hj : jin (b + (-1) - 1) 330 = true) (hj2 : jin (b + (-1)) 330 = true) : B_X9_work_38 n v3 v4 (a, b, i, u) = some (.inl (a, b + (-1), i + 1, upI u 8 (Int32.toNatClampNeg (b + (-1) - 1)) (jb (jz (u.1 8 (Int32.toNatClampNeg (b + (-1) - 1))) || jz (u.1 8 (Int32.toNatClampNeg (b + (-1)))))))) := by
  obtain ⟨h1, h2, h3, h4, h5, h6⟩ := h
  unfold B_X9_work_38
  dsimp only
  rw [if_pos h1, if_neg h2, if_pos h3, if_pos h4, h5, if_pos (by decide), if_neg (by decide), if_pos (by decide), if_pos (by decide), if_neg (by decide), if_neg (by decide), if_pos hj, if_pos hj2]
  cases jz (u.1 8 (Int32.toNatClampNeg (b + (-1) - 1))) <;> cases jz (u.1 8 (Int32.toNatClampNeg (b + (-1)))) <;> rfl
end
/-! a rule's code run on both sides -/
theorem vupd_eq {f : Nat → Int64} {k j : Nat} {x : Int64} (h : j = k) : vp_updL f k x j = x := by
  show (if j = k then x else f j) = x
  rw [if_pos h]
theorem vupd_ne {f : Nat → Int64} {k j : Nat} {x : Int64} (h : ¬ j = k) : vp_updL f k x j = f j := by
  show (if j = k then x else f j) = f j
  rw [if_neg h]
theorem stk_val {st z8 : Nat → Int32} {z7 : Nat → Int64} {a a' b j : Nat} {x : Int32} (h : stk st z8 z7 a b) (hx : valOK x) (ha : ∀ i : Nat, i < a' → i = j ∨ i < a) : stk (upd st (b + j) x) z8 (vp_updL z7 j x.toInt64) a' b := by
  refine ⟨fun i hi => ?_, fun i hi => ?_⟩
  · rw [upd_ne (by omega)]
    exact h.1 i hi
  · by_cases e : i = j
    · subst e
      rw [upd_eq rfl, vupd_eq rfl]
      exact ⟨hx, rfl⟩
    · rw [upd_ne (by omega), vupd_ne e]
      rcases ha i hi with q | q
      · exact absurd q e
      · exact h.2 i q
theorem stk_tru {st z8 : Nat → Int32} {z7 : Nat → Int64} {a b b' j : Nat} {q : Bool} (h : stk st z8 z7 a b) (hb : ∀ i : Nat, i < b' → i = j ∨ i < b) : stk (upd st j (jb q)) (upd z8 j (jb q)) z7 0 b' := by
  refine ⟨fun i hi => ?_, fun i hi => absurd hi (by omega)⟩
  by_cases e : i = j
  · rw [upd_eq e, upd_eq e, jz_jb]
  · rw [upd_ne e, upd_ne e]
    rcases hb i hi with z | z
    · exact absurd z e
    · exact h.1 i z
/-- one and two below, as terms (never shown to omega) -/
def dec1R (x : Int32) (z n : Nat) : Prop := (x - 1).toNatClampNeg = z - 1 ∧ jin (x - 1) n = true
theorem dec1 {x : Int32} {z n : Nat} (hx : x.toInt = z) (h1 : 1 ≤ z) (h2 : z ≤ n) (h3 : z ≤ 1000) : dec1R x z n := by
  have l1 : (1 : Int32).toInt = 1 := rfl
  have e1 : (x - 1).toInt = x.toInt - 1 := i32_sub (by omega) (by omega)
  unfold dec1R
  generalize x - 1 = y at e1
  exact ⟨by rw [i32_nat]; omega, jin_of (by omega) (by omega)⟩
def dec2R (x : Int32) (z n : Nat) : Prop := (x + -1).toInt = z - 1 ∧ (x + -1).toNatClampNeg = z - 1 ∧ (x + -1 - 1).toNatClampNeg = z - 2 ∧ jin (x + -1) n = true ∧ jin (x + -1 - 1) n = true
theorem dec2 {x : Int32} {z n : Nat} (hx : x.toInt = z) (h1 : 2 ≤ z) (h2 : z ≤ n) (h3 : z ≤ 1000) : dec2R x z n := by
  have l1 : (1 : Int32).toInt = 1 := rfl
  have m1 : (-1 : Int32).toInt = -1 := rfl
  have e1 : (x + -1).toInt = x.toInt - 1 := by rw [i32_add (by omega) (by omega)]; omega
  unfold dec2R
  generalize x + -1 = y at e1
  have e2 : (y - 1).toInt = y.toInt - 1 := i32_sub (by omega) (by omega)
  generalize y - 1 = w at e2
  exact ⟨by omega, by rw [i32_nat]; omega, by rw [i32_nat]; omega, jin_of (by omega) (by omega), jin_of (by omega) (by omega)⟩
def decAR (x : Int32) (n : Nat) : Prop := (x + -2).toInt = 0 ∧ (x + -2).toNatClampNeg = 0 ∧ (x + -2 + 1).toNatClampNeg = 1 ∧ jin (x + -2) n = true ∧ jin (x + -2 + 1) n = true
theorem decA {x : Int32} {n : Nat} (hx : x.toInt = 2) (h2 : 2 ≤ n) : decAR x n := by
  have l1 : (1 : Int32).toInt = 1 := rfl
  have m1 : (-2 : Int32).toInt = -2 := rfl
  have e1 : (x + -2).toInt = x.toInt - 2 := by rw [i32_add (by omega) (by omega)]; omega
  unfold decAR
  generalize x + -2 = y at e1
  have e2 : (y + 1).toInt = y.toInt + 1 := i32_add (by omega) (by omega)
  generalize y + 1 = w at e2
  exact ⟨by omega, by rw [i32_nat]; omega, by rw [i32_nat]; omega, jin_of (by omega) (by omega), jin_of (by omega) (by omega)⟩
def incR (x : Int32) (z n : Nat) : Prop := (x + 1).toInt = z + 1 ∧ x.toNatClampNeg = z ∧ jin x n = true
theorem inc {x : Int32} {z n : Nat} (hx : x.toInt = z) (h2 : z < n) (h3 : n ≤ 1000) : incR x z n := by
  have l1 : (1 : Int32).toInt = 1 := rfl
  have e1 : (x + 1).toInt = x.toInt + 1 := i32_add (by omega) (by omega)
  unfold incR
  generalize x + 1 = y at e1
  exact ⟨by omega, by rw [i32_nat]; omega, jin_of (by omega) (by omega)⟩
theorem run_step {n t N : Nat} {c m s u : jS} {v3 v4 h i a b : Int32} {da db da' db' : Nat} (ht : t < 4) (hN : N ≤ 300)
    (hx : (c.1 (2 + 4 * t) 3).toInt = N) (h4 : v4.toInt = 680 * t + 75) (h3 : jin (v3 + 2) 2720 = true) (h3v : m.1 3 (v3 + 2).toNatClampNeg = c.1 (2 + 4 * t) 3)
    (hnm : ∀ j : Nat, j < 8 → c.1 30 j = m.1 6 j ∧ valOK (c.1 30 j))
    (i0 : 0 ≤ i.toInt) (i1 : i.toInt < N) (hst : opStep (c.1 (2 + 4 * t + 1) i.toInt.toNat) (m.1 3 (680 * t + 75 + 2 * i.toInt.toNat)) (m.1 3 (680 * t + 75 + 2 * i.toInt.toNat + 1)) da db da' db') (hd : da + db ≤ 64)
    (hs : onlyRow 31 c s) (hu : ∀ k : Nat, ¬ k = 8 → u.1 k = m.1 k) (hu2 : ∀ k : Nat, ¬ k = 7 → u.2 k = m.2 k)
    (ha : a.toInt = da) (hb : b.toInt = db) (hh : h.toInt = db + da) (hk : stk (s.1 31) (u.1 8) (u.2 7) da db) :
    ∃ h' a' b' s' u', B_X3_holds_T_4 n t (h, i, s) = some (.inl (h', i + 1, s')) ∧ B_X9_work_38 n v3 v4 (a, b, i, u) = some (.inl (a', b', i + 1, u')) ∧ onlyRow 31 c s' ∧ (∀ k : Nat, ¬ k = 8 → u'.1 k = m.1 k) ∧ (∀ k : Nat, ¬ k = 7 → u'.2 k = m.2 k) ∧ a'.toInt = da' ∧ b'.toInt = db' ∧ h'.toInt = db' + da' ∧ stk (s'.1 31) (u'.1 8) (u'.2 7) da' db' := by
  have l0 : (0 : Int32).toInt = 0 := rfl
  have l1 : (1 : Int32).toInt = 1 := rfl
  have l2 : (2 : Int32).toInt = 2 := rfl
  have m1 : (-1 : Int32).toInt = -1 := rfl
  have m2 : (-2 : Int32).toInt = -2 := rfl
  have l64 : (64 : Int32).toInt = 64 := rfl
  have l300 : (300 : Int32).toInt = 300 := rfl
  have c1 : ¬ s.1 (2 + 4 * t) 3 ≤ i := fun z => by rw [hs.1 _ (by omega)] at z; have := i32_le.mp z; omega
  have c2 : ¬ 300 ≤ i := fun z => by have := i32_le.mp z; omega
  have c3 : jin i 300 = true := jin_of i0 (by omega)
  have hW : s.1 (2 + 4 * t + 1) (Int32.toNatClampNeg i) = c.1 (2 + 4 * t + 1) i.toInt.toNat := by rw [hs.1 _ (by omega)]; rfl
  have e2 : (2 * i).toInt = 2 * i.toInt := i32_mulL rfl (by omega) (by omega)
  have e3 : (v4 + 2 * i).toInt = 680 * t + 75 + 2 * i.toInt := by rw [i32_add (by omega) (by omega)]; omega
  have e4 : (v4 + 2 * i + 1).toInt = 680 * t + 75 + 2 * i.toInt + 1 := by rw [i32_add (by omega) (by omega)]; omega
  have hat : refAt v3 v4 i (m.1 3 (680 * t + 75 + 2 * i.toInt.toNat)) (m.1 3 (680 * t + 75 + 2 * i.toInt.toNat + 1)) u := by
    refine ⟨h3, ?_, jin_of (by omega) (by omega), jin_of (by omega) (by omega), ?_, ?_⟩
    · rw [hu 3 (by decide), h3v]
      exact fun z => by have := i32_le.mp z; omega
    · rw [hu 3 (by decide), i32_nat]
      exact congrArg (m.1 3) (by omega)
    · rw [hu 3 (by decide), i32_nat]
      exact congrArg (m.1 3) (by omega)
  generalize c.1 (2 + 4 * t + 1) i.toInt.toNat = W at hW hst
  generalize m.1 3 (680 * t + 75 + 2 * i.toInt.toNat) = O at hat hst
  generalize m.1 3 (680 * t + 75 + 2 * i.toInt.toNat + 1) = V at hat hst
  have hs31 : ∀ (j : Nat) (x : Int32), onlyRow 31 c (upI s 31 j x) := fun j x => onlyRow_upI hs j x
  have hu7 : ∀ (j : Nat) (x : Int64), (∀ k : Nat, ¬ k = 8 → (upL u 7 j x).1 k = m.1 k) ∧ ∀ k : Nat, ¬ k = 7 → (upL u 7 j x).2 k = m.2 k := fun j x => ⟨hu, fun k hk => by rw [upL_2, if_neg hk]; exact hu2 k hk⟩
  have hu8 : ∀ (j : Nat) (x : Int32), (∀ k : Nat, ¬ k = 8 → (upI u 8 j x).1 k = m.1 k) ∧ ∀ k : Nat, ¬ k = 7 → (upI u 8 j x).2 k = m.2 k := fun j x => ⟨fun k hk => by rw [row_ne hk]; exact hu k hk, hu2⟩
  have hnz : 1 ≤ db + da → ¬ h ≤ 0 := fun g z => by have := i32_le.mp z; omega
  have hn1 : 2 ≤ db + da → ¬ h ≤ 1 := fun g z => by have := i32_le.mp z; omega
  have h64 : db + da < 64 → ¬ 64 ≤ h := fun g z => by have := i32_le.mp z; omega
  clear e2 e3 e4
  rcases hst with ⟨rfl, hw, v0, v1, qa, qb, hlt⟩ | ⟨rfl, hw, v0, v1, qa, qb, hlt⟩ | ⟨rfl, hw, g1, qa, qb⟩ | ⟨k, k1, k2, rfl, hw, g1, g2, qb⟩ | ⟨k, k1, k2, rfl, hw, ga, qa, qb⟩ | ⟨rfl, hw, ga, g1, qa, qb⟩ | ⟨rfl, hw, ga, g1, qa, g2⟩ | ⟨rfl, hw, ga, g1, qa, g2⟩
  · subst hw qa; obtain rfl := qb.symm
    have Rp := inc (n := 330) ha (by omega) (by omega)
    have Rr := inc (n := 64) (z := db + da) (x := h) (by omega) (by omega) (by omega)
    refine ⟨h + 1, a + 1, b, _, _, cls_num c1 c2 c3 hW v0 v1 (h64 (by omega)) Rr.2.2, ref_num hat Rp.2.2, hs31 _ _, (hu7 _ _).1, (hu7 _ _).2, Rp.1.trans (by omega), hb, Rr.1.trans (by omega), ?_⟩
    rw [Rp.2.1, Rr.2.1]
    exact stk_val hk ⟨by omega, by omega⟩ (fun i hi => by omega)
  · subst qa; obtain rfl := qb.symm
    have Rp := inc (n := 330) ha (by omega) (by omega)
    have Rr := inc (n := 64) (z := db + da) (x := h) (by omega) (by omega) (by omega)
    have hv := hnm V.toNatClampNeg (by rw [i32_nat]; omega)
    refine ⟨h + 1, a + 1, b, _, _, cls_name c1 c2 c3 hW hw v0 v1 (h64 (by omega)) Rr.2.2, ref_name hat (jin_of v0 (by omega)) Rp.2.2, hs31 _ _, (hu7 _ _).1, (hu7 _ _).2, Rp.1.trans (by omega), hb, Rr.1.trans (by omega), ?_⟩
    rw [Rp.2.1, Rr.2.1, hs.1 30 (by decide), hu 6 (by decide), ← hv.1]
    exact stk_val hk hv.2 (fun i hi => by omega)
  · have Rp := dec1 (n := 330) ha (by omega) (by omega) (by omega)
    have Rr := dec1 (n := 64) (z := db + da) (x := h) (by omega) (by omega) (by omega) (by omega)
    refine ⟨h, a, b, _, _, cls_neg c1 c2 c3 hW hw (hnz (by omega)) Rr.2, ref_neg hat Rp.2, hs31 _ _, (hu7 _ _).1, (hu7 _ _).2, ha.trans (by omega), hb.trans (by omega), hh.trans (by omega), ?_⟩
    have hz := hk.2 (da - 1) (by omega)
    have hq := neg_eq hz.1
    rw [Rp.1, Rr.1, show db + da - 1 = db + (da - 1) from by omega, hz.2, ← hq.2, qb]
    exact stk_val hk hq.1 (fun i hi => by omega)
  · have Rp := dec2 (n := 330) ha (by omega) (by omega) (by omega)
    have Rr := dec2 (n := 64) (z := db + da) (x := h) (by omega) (by omega) (by omega) (by omega)
    have hz := hk.2 (da - 1) (by omega)
    have hy := hk.2 (da - 2) (by omega)
    have w1 : db + da - 1 = db + (da - 1) := by omega
    have w2 : db + da - 2 = db + (da - 2) := by omega
    obtain ⟨r, f1, f2, f3⟩ := two_eq hy.1 hz.1 k1 k2
    refine ⟨h + -1, a + -1, b, _, _, cls_two (r := r) c1 c2 c3 hW hw (by omega) (hn1 (by omega)) Rr.2.2.2.2 Rr.2.2.2.1 (by rw [Rr.2.1, Rr.2.2.1, w1, w2]; exact f1), ref_two (r := r.toInt64) hat k1 k2 Rp.2.2.2.2 Rp.2.2.2.1 (by rw [Rp.2.1, Rp.2.2.1, hz.2, hy.2]; exact f3), hs31 _ _, (hu7 _ _).1, (hu7 _ _).2, Rp.1.trans (by omega), hb.trans (by omega), Rr.1.trans (by omega), ?_⟩
    rw [Rr.2.2.1, Rp.2.2.1, w2, qb]
    exact stk_val hk f2 (fun i hi => by omega)
  · have Rp := decA (n := 330) (x := a) (by omega) (by omega)
    have Rr := dec2 (n := 64) (z := db + da) (x := h) (by omega) (by omega) (by omega) (by omega)
    have Rb := inc (n := 330) hb (by omega) (by omega)
    have hz := hk.2 1 (by omega)
    have hy := hk.2 0 (by omega)
    have w1 : db + da - 1 = db + 1 := by omega
    have w2 : db + da - 2 = db + 0 := by omega
    have f1 := ask_eq (x := s.1 31 (db + 0)) (y := s.1 31 (db + 1)) k1 k2
    refine ⟨h + -1, a + -2, b + 1, _, _, cls_two (k := k + 4) c1 c2 c3 hW hw (by omega) (hn1 (by omega)) Rr.2.2.2.2 Rr.2.2.2.1 (by rw [Rr.2.1, Rr.2.2.1, w1, w2]; exact f1), ref_ask hat k1 k2 Rp.2.2.2.1 Rp.2.2.2.2 Rb.2.2, hs31 _ _, (hu8 _ _).1, (hu8 _ _).2, Rp.1.trans (by omega), Rb.1.trans (by omega), Rr.1.trans (by omega), ?_⟩
    rw [Rp.2.1, Rp.2.2.1, Rr.2.2.1, w2, Rb.2.1, hz.2, hy.2, qa, qb]
    exact stk_tru hk (fun i hi => by omega)
  · have Rp := dec1 (n := 330) hb (by omega) (by omega) (by omega)
    have Rr := dec1 (n := 64) (z := db + da) (x := h) (by omega) (by omega) (by omega) (by omega)
    refine ⟨h, a, b, _, _, cls_not c1 c2 c3 hW hw (hnz (by omega)) Rr.2, ref_not hat Rp.2, hs31 _ _, (hu8 _ _).1, (hu8 _ _).2, ha.trans (by omega), hb.trans (by omega), hh.trans (by omega), ?_⟩
    have w1 : db + da - 1 = db - 1 := by omega
    have hz := hk.1 (db - 1) (by omega)
    have hq : ∀ q : Bool, 1 - jb q = jb (!q) := fun q => by cases q <;> decide
    rw [Rp.1, Rr.1, w1, hz, hq, qa, qb]
    exact stk_tru hk (fun i hi => by omega)
  · have Rp := dec2 (n := 330) hb (by omega) (by omega) (by omega)
    have Rr := dec2 (n := 64) (z := db + da) (x := h) (by omega) (by omega) (by omega) (by omega)
    have w1 : db + da - 1 = db - 1 := by omega
    have w2 : db + da - 2 = db - 2 := by omega
    have hz := hk.1 (db - 1) (by omega)
    have hy := hk.1 (db - 2) (by omega)
    refine ⟨h + -1, a, b + -1, _, _, cls_two (k := 12) (r := jb (jz (u.1 8 (db - 2)) && jz (u.1 8 (db - 1)))) c1 c2 c3 hW hw (by omega) (hn1 (by omega)) Rr.2.2.2.2 Rr.2.2.2.1 (by rw [Rr.2.1, Rr.2.2.1, w1, w2, hz, hy, ← jb_and]; rfl), ref_and hat Rp.2.2.2.2 Rp.2.2.2.1, hs31 _ _, (hu8 _ _).1, (hu8 _ _).2, ha.trans (by omega), Rp.1.trans (by omega), Rr.1.trans (by omega), ?_⟩
    rw [Rp.2.1, Rp.2.2.1, Rr.2.2.1, w2, qa]
    exact stk_tru hk (fun i hi => by omega)
  · have Rp := dec2 (n := 330) hb (by omega) (by omega) (by omega)
    have Rr := dec2 (n := 64) (z := db + da) (x := h) (by omega) (by omega) (by omega) (by omega)
    have w1 : db + da - 1 = db - 1 := by omega
    have w2 : db + da - 2 = db - 2 := by omega
    have hz := hk.1 (db - 1) (by omega)
    have hy := hk.1 (db - 2) (by omega)
    refine ⟨h + -1, a, b + -1, _, _, cls_two (k := 11) (r := jb (jz (u.1 8 (db - 2)) || jz (u.1 8 (db - 1)))) c1 c2 c3 hW hw (by omega) (hn1 (by omega)) Rr.2.2.2.2 Rr.2.2.2.1 (by rw [Rr.2.1, Rr.2.2.1, w1, w2, hz, hy, ← jb_or]; rfl), ref_or hat Rp.2.2.2.2 Rp.2.2.2.1, hs31 _ _, (hu8 _ _).1, (hu8 _ _).2, ha.trans (by omega), Rp.1.trans (by omega), Rr.1.trans (by omega), ?_⟩
    rw [Rp.2.1, Rp.2.2.1, Rr.2.2.1, w2, qa]
    exact stk_tru hk (fun i hi => by omega)
/-! a rule's code, whole -/
/-- well-formed code: the heights of numbers and truths before each word -/
def isCode (w z3 : Nat → Int32) (base N : Nat) : Prop := ∃ D : Nat → Nat × Nat, D 0 = (0, 0) ∧ D N = (0, 1) ∧ ∀ i : Nat, i < N → (D i).1 + (D i).2 ≤ 64 ∧ opStep (w i) (z3 (base + 2 * i)) (z3 (base + 2 * i + 1)) (D i).1 (D i).2 (D (i + 1)).1 (D (i + 1)).2
theorem run_rel {n t N : Nat} {c m : jS} {v3 v4 : Int32} (hn : 400000 ≤ n) (ht : t < 4) (hN : N ≤ 300)
    (hx : (c.1 (2 + 4 * t) 3).toInt = N) (h4 : v4.toInt = 680 * t + 75) (h3 : jin (v3 + 2) 2720 = true) (h3v : m.1 3 (v3 + 2).toNatClampNeg = c.1 (2 + 4 * t) 3)
    (hnm : ∀ j : Nat, j < 8 → c.1 30 j = m.1 6 j ∧ valOK (c.1 30 j)) (hcode : isCode (c.1 (2 + 4 * t + 1)) (m.1 3) (680 * t + 75) N) :
    ∃ e f, lp (B_X3_holds_T_4 n t) n (0, 0, c) = some e ∧ lp (B_X9_work_38 n v3 v4) n (0, 0, 0, m) = some f ∧ e.1.toInt = 1 ∧ e.2.2.1 31 0 = jb (jz (f.2.2.2.1 8 0)) ∧ onlyRow 31 c e.2.2 ∧ (∀ k : Nat, ¬ k = 8 → f.2.2.2.1 k = m.1 k) ∧ ∀ k : Nat, ¬ k = 7 → f.2.2.2.2 k = m.2 k := by
  obtain ⟨D, d0, dN, hD⟩ := hcode
  have l0 : (0 : Int32).toInt = 0 := rfl
  have l1 : (1 : Int32).toInt = 1 := rfl
  obtain ⟨e, f, he, hf, hq⟩ := lp_rule2 (body := B_X3_holds_T_4 n t) (body' := B_X9_work_38 n v3 v4)
    (I := fun x y k => x.2.1 = y.2.2.1 ∧ 0 ≤ x.2.1.toInt ∧ x.2.1.toInt ≤ N ∧ k = N - x.2.1.toInt.toNat ∧ onlyRow 31 c x.2.2 ∧ (∀ k : Nat, ¬ k = 8 → y.2.2.2.1 k = m.1 k) ∧ (∀ k : Nat, ¬ k = 7 → y.2.2.2.2 k = m.2 k) ∧ y.1.toInt = (D x.2.1.toInt.toNat).1 ∧ y.2.1.toInt = (D x.2.1.toInt.toNat).2 ∧ x.1.toInt = (D x.2.1.toInt.toNat).2 + (D x.2.1.toInt.toNat).1 ∧ stk (x.2.2.1 31) (y.2.2.2.1 8) (y.2.2.2.2 7) (D x.2.1.toInt.toNat).1 (D x.2.1.toInt.toNat).2)
    (Q := fun e f => e.1.toInt = 1 ∧ e.2.2.1 31 0 = jb (jz (f.2.2.2.1 8 0)) ∧ onlyRow 31 c e.2.2 ∧ (∀ k : Nat, ¬ k = 8 → f.2.2.2.1 k = m.1 k) ∧ ∀ k : Nat, ¬ k = 7 → f.2.2.2.2 k = m.2 k) (by
    rintro ⟨h, i, s⟩ ⟨a, b, i', u⟩ k ⟨g1, g2, g3, g4, g5, g6, g7, g8, g9, g10, g11⟩
    simp only at g1 g2 g3 g4 g5 g6 g7 g8 g9 g10 g11
    subst g1
    by_cases hc : s.1 (2 + 4 * t) 3 ≤ i
    · left
      have hc' := i32_le.mp hc
      rw [g5.1 _ (by omega), hx] at hc'
      have hi : i.toInt.toNat = N := by omega
      rw [hi, dN] at g8 g9 g10 g11
      refine ⟨(h, i, s), (a, b, i, u), ?_, ?_, ?_, ?_, g5, g6, g7⟩
      · unfold B_X3_holds_T_4
        dsimp only
        rw [if_pos hc]
      · unfold B_X9_work_38
        dsimp only
        rw [if_pos h3, if_pos (by rw [g6 3 (by decide), h3v, ← g5.1 _ (by omega)]; exact hc)]
      · show h.toInt = 1
        omega
      · exact g11.1 0 (by decide)
    · right
      have hc' : ¬ (s.1 (2 + 4 * t) 3).toInt ≤ i.toInt := fun z => hc (i32_le.mpr z)
      rw [g5.1 _ (by omega), hx] at hc'
      obtain ⟨q1, q2⟩ := hD i.toInt.toNat (by omega)
      obtain ⟨h', a', b', s', u', k1, k2, k3, k4, k5, k6, k7, k8, k9⟩ := run_step (n := n) ht hN hx h4 h3 h3v hnm g2 (by omega) q2 q1 g5 g6 g7 g8 g9 g10 g11
      have ei : (i + 1).toInt = i.toInt + 1 := i32_add (by omega) (by omega)
      have ei2 : (i + 1).toInt.toNat = i.toInt.toNat + 1 := by omega
      refine ⟨(h', i + 1, s'), (a', b', i + 1, u'), N - (i.toInt.toNat + 1), by omega, k1, k2, ?_⟩
      dsimp only
      rw [ei2]
      exact ⟨rfl, by omega, by omega, rfl, k3, k4, k5, k6, k7, k8, k9⟩) N n (0, 0, c) (0, 0, 0, m) (by omega) (by
    have z : (0 : Int32).toInt.toNat = 0 := rfl
    dsimp only
    rw [z, d0]
    exact ⟨rfl, by decide, by rw [l0]; omega, by omega, onlyRow_rfl, fun _ _ => rfl, fun _ _ => rfl, rfl, rfl, rfl, fun i hi => absurd hi (by omega), fun i hi => absurd hi (by omega)⟩)
  exact ⟨e, f, he, hf, hq⟩
/-- a text of the class (object, words, knocks, amounts) and the reference's text t -/
def jText (x w kn am z3 : Nat → Int32) (t : Nat) : Prop :=
  (x 4 = z3 (680 * t) ∧ 0 ≤ (x 4).toInt ∧ (x 4).toInt ≤ 24) ∧
  (∃ ko : Nat, (ko : Int) ≤ (x 4).toInt ∧ (∀ k : Nat, k < ko → ¬ z3 (680 * t + 1 + 3 * k) = 0) ∧ ((ko : Int) < (x 4).toInt → z3 (680 * t + 1 + 3 * ko) = 0 ∧ z3 (680 * t + 2 + 3 * ko) = 0 ∧ z3 (680 * t + 3 + 3 * ko) = x 3) ∧ (jz (x 6) = true ↔ (ko : Int) < (x 4).toInt)) ∧
  (∀ k : Nat, (k : Int) < (x 4).toInt → (kn k = -1 ∧ z3 (680 * t + 1 + 3 * k) = 0) ∨ (kn k = 0 ∧ z3 (680 * t + 1 + 3 * k) = 2 ∧ am k = z3 (680 * t + 2 + 3 * k) ∧ 0 ≤ (am k).toInt ∧ (am k).toInt ≤ 24) ∨ (1 ≤ (kn k).toInt ∧ (kn k).toInt ≤ 7 ∧ z3 (680 * t + 1 + 3 * k) = 1 ∧ z3 (680 * t + 2 + 3 * k) = kn k ∧ z3 (680 * t + 3 + 3 * k) = am k ∧ 0 ≤ (am k).toInt ∧ (am k).toInt ≤ 5)) ∧
  (jz (x 6) = true → ∃ N : Nat, N ≤ 300 ∧ (x 3).toInt = N ∧ isCode w z3 (680 * t + 75) N ∧ ∀ j : Nat, j < 8 → ((((x 5) >>> (Int32.ofNat j &&& 31)) &&& (1 : Int32)) = 1 ↔ ∃ i : Nat, i < N ∧ w i = 10000 + Int32.ofNat j))
/-! a rule asked on both sides -/
def clR (v1 e : Int32) (t k : Nat) : Prop := (680 * v1).toInt = ((680 * t : Nat) : Int) ∧ (680 * v1 + 75).toInt = 680 * t + 75 ∧ (((680 * v1) + 1) + (3 * e)).toInt = ((680 * t + 1 + 3 * k : Nat) : Int) ∧ ((((680 * v1) + 1) + (3 * e)) + 1).toInt = ((680 * t + 2 + 3 * k : Nat) : Int) ∧ ((((680 * v1) + 1) + (3 * e)) + 2).toInt = ((680 * t + 3 + 3 * k : Nat) : Int)
theorem clR_of {v1 e : Int32} {t k : Nat} (h1 : v1.toInt = t) (ht : t < 4) (h2 : e.toInt = k) (hk : k ≤ 24) : clR v1 e t k := by
  have l1 : (1 : Int32).toInt = 1 := rfl
  have l2 : (2 : Int32).toInt = 2 := rfl
  have l75 : (75 : Int32).toInt = 75 := rfl
  have a1 : (680 * v1).toInt = 680 * v1.toInt := i32_mulL rfl (by omega) (by omega)
  have a2 : (3 * e).toInt = 3 * e.toInt := i32_mulL rfl (by omega) (by omega)
  unfold clR
  generalize 680 * v1 = B at a1
  generalize 3 * e = F at a2
  have a3 : (B + 75).toInt = B.toInt + 75 := i32_add (by omega) (by omega)
  have a4 : (B + 1).toInt = B.toInt + 1 := i32_add (by omega) (by omega)
  generalize B + 75 = B2 at a3
  generalize B + 1 = B1 at a4
  have a5 : (B1 + F).toInt = B1.toInt + F.toInt := i32_add (by omega) (by omega)
  generalize B1 + F = G at a5
  have a6 : (G + 1).toInt = G.toInt + 1 := i32_add (by omega) (by omega)
  have a7 : (G + 2).toInt = G.toInt + 2 := i32_add (by omega) (by omega)
  generalize G + 1 = G1 at a6
  generalize G + 2 = G2 at a7
  exact ⟨by omega, by omega, by omega, by omega, by omega⟩
theorem jin_val {x : Int32} {z n : Nat} (h : x.toInt = z) (hz : z < n) : jin x n = true := jin_of (by omega) (by omega)
theorem nat_val {x : Int32} {z : Nat} (h : x.toInt = z) : x.toNatClampNeg = z := by rw [i32_nat]; omega
def scrC (c c' : jS) : Prop := (∀ k : Nat, ¬ k = 30 → ¬ k = 31 → c'.1 k = c.1 k) ∧ c'.2 = c.2
def scrM (m m' : jS) : Prop := (∀ k : Nat, ¬ k = 6 → ¬ k = 8 → m'.1 k = m.1 k) ∧ ∀ k : Nat, ¬ k = 7 → m'.2 k = m.2 k
theorem find_rel {n t ko : Nat} {m : jS} {v1 v2 v3 v4 v5 v6 v7 : Int32} (hn : 400000 ≤ n) (h1 : v1.toInt = t) (ht : t < 4) (hk : (ko : Int) ≤ (m.1 3 (680 * t)).toInt) (h24 : (m.1 3 (680 * t)).toInt ≤ 24) (hno : ∀ k : Nat, k < ko → ¬ m.1 3 (680 * t + 1 + 3 * k) = 0) (hyes : (ko : Int) < (m.1 3 (680 * t)).toInt → m.1 3 (680 * t + 1 + 3 * ko) = 0) :
    ∃ e, lp (B_X9_isOpen_9 n v1 v2 v3 v4 v5 v6 v7 m) n 0 = some e ∧ e.toInt = ko := by
  have l0 : (0 : Int32).toInt = 0 := rfl
  have l1 : (1 : Int32).toInt = 1 := rfl
  refine lp_rule (body := B_X9_isOpen_9 n v1 v2 v3 v4 v5 v6 v7 m) (I := fun q k => 0 ≤ q.toInt ∧ q.toInt ≤ ko ∧ k = ko - q.toInt.toNat) (Q := fun e => e.toInt = ko) ?_ ko n 0 (by omega) ⟨by decide, by rw [l0]; omega, by rw [l0]; simp⟩
  rintro q k ⟨g1, g2, g3⟩
  have R := clR_of (e := q) (k := q.toInt.toNat) h1 ht (by omega) (by omega)
  have hb : m.1 3 (Int32.toNatClampNeg (680 * v1)) = m.1 3 (680 * t) := congrArg (m.1 3) (nat_val R.1)
  have hs : m.1 3 (Int32.toNatClampNeg (((680 * v1) + 1) + (3 * q))) = m.1 3 (680 * t + 1 + 3 * q.toInt.toNat) := congrArg (m.1 3) (nat_val R.2.2.1)
  have hb' : B_X9_isOpen_9 n v1 v2 v3 v4 v5 v6 v7 m q = (if m.1 3 (680 * t) ≤ q then some (.inr q) else (if m.1 3 (680 * t + 1 + 3 * q.toInt.toNat) = 0 then some (.inr q) else some (.inl (q + 1)))) := by
    unfold B_X9_isOpen_9
    rw [if_pos (jin_val R.1 (by omega)), hb]
    by_cases hc : m.1 3 (680 * t) ≤ q
    · rw [if_pos hc, if_pos hc]
    · rw [if_neg hc, if_neg hc, if_pos (jin_val R.2.2.1 (by omega)), hs]
  clear R
  by_cases hc : m.1 3 (680 * t) ≤ q
  · left
    have hc' := i32_le.mp hc
    exact ⟨q, by rw [hb', if_pos hc], by omega⟩
  · have hc' : ¬ (m.1 3 (680 * t)).toInt ≤ q.toInt := fun z => hc (i32_le.mpr z)
    by_cases h0 : m.1 3 (680 * t + 1 + 3 * q.toInt.toNat) = 0
    · left
      refine ⟨q, by rw [hb', if_neg hc, if_pos h0], ?_⟩
      by_cases hlt : q.toInt.toNat < ko
      · exact absurd h0 (hno _ hlt)
      · omega
    · right
      have hlt : q.toInt.toNat < ko := by
        by_cases e : q.toInt.toNat = ko
        · rw [e] at h0
          exact absurd (hyes (by omega)) h0
        · omega
      have ei : (q + 1).toInt = q.toInt + 1 := i32_add (by omega) (by omega)
      exact ⟨q + 1, ko - (q.toInt.toNat + 1), by omega, by rw [hb', if_neg hc, if_neg h0], by omega, by omega, by omega⟩
def faceC (c : jS) (v2 v3 v4 v5 v6 v7 : Int32) : jS := upI (upI (upI (upI (upI (upI (upI (upI c 30 0 v2) 30 1 v3) 30 2 (c.1 19 (Int32.toNatClampNeg v3))) 30 3 (c.1 20 (Int32.toNatClampNeg v2))) 30 7 v7) 30 6 v6) 30 5 v4) 30 4 v5
def faceM (m : jS) (v2 v3 v4 v5 v6 v7 : Int32) : jS := upI (upI (upI (upI (upI (upI (upI (upI m 6 0 v2) 6 1 v3) 6 2 (m.1 1 (Int32.toNatClampNeg (36 + v3)))) 6 3 (m.1 1 (Int32.toNatClampNeg (12 + v2)))) 6 4 v5) 6 5 v4) 6 6 v6) 6 7 v7
theorem opensBy_rel {n : Nat} {c m : jS} {told v1 v2 v3 v4 v5 v6 v7 : Int32} (hn : 400000 ≤ n) (htx : rTexts jText told c.1 (m.1 3)) (htold : c.1 18 7 = told) (h4 : told.toInt ≤ 4) (hrain : rRain (c.1 19) (m.1 1)) (hmood : rMood (c.1 20) (m.1 1))
    (g1 : -1 ≤ v1.toInt) (g1' : v1.toInt < told.toInt) (g2 : 0 ≤ v2.toInt) (g2' : v2.toInt < 8) (g3 : 0 ≤ v3.toInt) (g3' : v3.toInt < 24) (g4 : valOK v4) (g5 : valOK v5) (g6 : valOK v6) (g7 : valOK v7) :
    ∃ r c' m', F_X3_opensBy n v1 v2 v3 v4 v5 v6 v7 c = some (r, c') ∧ F_X9_isOpen n v1 v2 v3 v4 v5 v6 v7 m = some (r, m') ∧ scrC c c' ∧ scrM m m' := by
  have l0 : (0 : Int32).toInt = 0 := rfl
  have l4 : (4 : Int32).toInt = 4 := rfl
  have l8 : (8 : Int32).toInt = 8 := rfl
  have l24 : (24 : Int32).toInt = 24 := rfl
  have l36 : (36 : Int32).toInt = 36 := rfl
  have l12 : (12 : Int32).toInt = 12 := rfl
  by_cases hneg : v1 < 0
  · have hneg' := i32_lt.mp hneg
    refine ⟨false, c, m, ?_, ?_, ⟨fun _ _ _ => rfl, rfl⟩, fun _ _ _ => rfl, fun _ _ => rfl⟩
    · unfold F_X3_opensBy F_X3_isOpening
      rw [if_pos hneg]
      rfl
    · unfold F_X9_isOpen
      rw [if_neg (fun z => by have := i32_le.mp z; omega)]
  · have hneg' : ¬ v1.toInt < 0 := fun z => hneg (i32_lt.mpr z)
    obtain ⟨t, ht⟩ : ∃ t : Nat, v1.toInt = t := ⟨v1.toInt.toNat, by omega⟩
    have ht4 : t < 4 := by omega
    have hvt : v1.toNatClampNeg = t := nat_val ht
    have hj4 : jin v1 4 = true := jin_val ht (by omega)
    obtain ⟨⟨t1, t2, t3⟩, ⟨ko, o1, o2, o3, o4⟩, _, t5⟩ := htx t (by omega)
    rw [t1] at o1 o3 o4 t3
    obtain ⟨e, he, hek⟩ := find_rel (n := n) (m := m) (v2 := v2) (v3 := v3) (v4 := v4) (v5 := v5) (v6 := v6) (v7 := v7) hn ht ht4 o1 t3 o2 (fun z => (o3 z).1)
    have hko : ko ≤ 24 := by omega
    have R := clR_of (e := e) (k := ko) ht ht4 hek hko
    have hb : m.1 3 (Int32.toNatClampNeg (680 * v1)) = m.1 3 (680 * t) := congrArg (m.1 3) (nat_val R.1)
    have hop : F_X3_isOpening v1 c = some (jz (c.1 (2 + 4 * t) 6)) := by
      unfold F_X3_isOpening
      rw [if_neg hneg, if_neg (fun z => by have := i32_le.mp z; omega), if_neg (fun z => by rw [htold] at z; have := i32_le.mp z; omega), if_pos hj4, hvt]
      cases jz (c.1 (2 + 4 * t) 6) <;> rfl
    have hread : F_X9_isOpen n v1 v2 v3 v4 v5 v6 v7 m = (if e = m.1 3 (680 * t) then some (false, m) else ((F_X9_work n v1 e (faceM m v2 v3 v4 v5 v6 v7)).bind fun p149 => some ((jz (p149.1 8 (Int32.toNatClampNeg 0))), p149))) := by
      have i1 : jin (36 + v3) 324 = true := by
        have e1 : (36 + v3).toInt = 36 + v3.toInt := i32_add (by omega) (by omega)
        exact jin_of (by omega) (by omega)
      have i2 : jin (12 + v2) 324 = true := by
        have e1 : (12 + v2).toInt = 12 + v2.toInt := i32_add (by omega) (by omega)
        exact jin_of (by omega) (by omega)
      unfold F_X9_isOpen
      rw [if_pos (i32_le.mpr (by omega)), he, Option.bind_some, if_pos (jin_val R.1 (by omega)), hb]
      by_cases hq : e = m.1 3 (680 * t)
      · rw [if_pos hq, if_pos hq]
      · rw [if_neg hq, if_neg hq, jl_1, jl_1, if_pos i1, jl_1, if_pos i2]
        rfl
    by_cases hjz : jz (c.1 (2 + 4 * t) 6) = true
    · have hlt := o4.mp hjz
      obtain ⟨z1, z2, z3⟩ := o3 hlt
      obtain ⟨N, N1, N2, N3, _⟩ := t5 hjz
      have hne : ¬ e = m.1 3 (680 * t) := fun z => by rw [z] at hek; omega
      have hcl : F_X3_opensBy n v1 v2 v3 v4 v5 v6 v7 c = ((F_X3_holds_T n t (faceC c v2 v3 v4 v5 v6 v7)).bind fun p50 => some (p50.1, p50.2)) := by
        unfold F_X3_opensBy F_X3_face J_X3_face_42
        rw [hop, Option.bind_some, if_pos hjz, jl_1, jl_1, if_neg (fun z => by have := i32_lt.mp z; omega), if_neg (fun z => by have := i32_le.mp z; omega), if_pos (jin_of (by omega) (by omega)), if_pos (by decide), jl_1, if_neg (fun z => by have := i32_lt.mp z; omega), if_neg (fun z => by have := i32_le.mp z; omega), if_pos (jin_of (by omega) (by omega))]
        simp only [jl_1, Option.bind_some]
        rw [if_pos hj4, hvt]
        rfl
      have hnm : ∀ j : Nat, j < 8 → (faceC c v2 v3 v4 v5 v6 v7).1 30 j = (faceM m v2 v3 v4 v5 v6 v7).1 6 j ∧ valOK ((faceC c v2 v3 v4 v5 v6 v7).1 30 j) := by
        have r1 := hrain v3.toNatClampNeg (by rw [i32_nat]; omega)
        have r2 := hmood v2.toNatClampNeg (by rw [i32_nat]; omega)
        have i1 : (36 + v3).toNatClampNeg = 36 + v3.toNatClampNeg := nat_add (by omega) (by omega) (by omega)
        have i2 : (12 + v2).toNatClampNeg = 12 + v2.toNatClampNeg := nat_add (by omega) (by omega) (by omega)
        intro j hj
        have : j = 0 ∨ j = 1 ∨ j = 2 ∨ j = 3 ∨ j = 4 ∨ j = 5 ∨ j = 6 ∨ j = 7 := by omega
        rcases this with rfl | rfl | rfl | rfl | rfl | rfl | rfl | rfl
        · exact ⟨rfl, by show valOK v2; exact ⟨by omega, by omega⟩⟩
        · exact ⟨rfl, by show valOK v3; exact ⟨by omega, by omega⟩⟩
        · show c.1 19 v3.toNatClampNeg = m.1 1 (36 + v3).toNatClampNeg ∧ valOK (c.1 19 v3.toNatClampNeg)
          rw [i1]
          exact ⟨r1.1, by omega, by omega⟩
        · show c.1 20 v2.toNatClampNeg = m.1 1 (12 + v2).toNatClampNeg ∧ valOK (c.1 20 v2.toNatClampNeg)
          rw [i2]
          exact ⟨r2.1, by omega, by omega⟩
        · exact ⟨rfl, g5⟩
        · exact ⟨rfl, g4⟩
        · exact ⟨rfl, g6⟩
        · exact ⟨rfl, g7⟩
      have fc : ∀ k : Nat, ¬ k = 30 → (faceC c v2 v3 v4 v5 v6 v7).1 k = c.1 k := by
        intro k hk
        unfold faceC
        rw [row_ne hk, row_ne hk, row_ne hk, row_ne hk, row_ne hk, row_ne hk, row_ne hk, row_ne hk]
      have fm : ∀ k : Nat, ¬ k = 6 → (faceM m v2 v3 v4 v5 v6 v7).1 k = m.1 k := by
        intro k hk
        unfold faceM
        rw [row_ne hk, row_ne hk, row_ne hk, row_ne hk, row_ne hk, row_ne hk, row_ne hk, row_ne hk]
      have fc2 : (faceC c v2 v3 v4 v5 v6 v7).2 = c.2 := rfl
      have fm2 : (faceM m v2 v3 v4 v5 v6 v7).2 = m.2 := rfl
      generalize faceC c v2 v3 v4 v5 v6 v7 = cF at hcl hnm fc fc2
      generalize faceM m v2 v3 v4 v5 v6 v7 = mF at hread hnm fm fm2
      have hi3 : ((((680 * v1) + 1) + (3 * e)) + 2).toNatClampNeg = 680 * t + 3 + 3 * ko := nat_val R.2.2.2.2
      have hi2 : ((((680 * v1) + 1) + (3 * e)) + 1).toNatClampNeg = 680 * t + 2 + 3 * ko := nat_val R.2.2.2.1
      obtain ⟨f, g, hf, hg, q1, q2, q3, q4, q5⟩ := run_rel (c := cF) (m := mF) (v3 := ((680 * v1) + 1) + (3 * e)) (v4 := 680 * v1 + 75) hn ht4 N1 (by rw [fc _ (by omega)]; exact N2) R.2.1 (jin_val R.2.2.2.2 (by omega)) (by rw [fm 3 (by decide), fc _ (by omega), hi3]; exact z3) hnm (by rw [fc _ (by omega), fm 3 (by decide)]; exact N3)
      refine ⟨jz (g.2.2.2.1 8 0), f.2.2, g.2.2.2, ?_, ?_, ⟨?_, ?_⟩, ?_, ?_⟩
      · rw [hcl]
        unfold F_X3_holds_T
        rw [hf, Option.bind_some, if_neg (fun z => by have := i32_le.mp z; omega), show f.2.2.1 31 (Int32.toNatClampNeg 0) = jb (jz (g.2.2.2.1 8 0)) from q2]
        cases jz (g.2.2.2.1 8 0) <;> rfl
      · rw [hread, if_neg hne]
        unfold F_X9_work
        rw [if_pos (jin_val R.2.2.2.1 (by omega)), hi2, fm 3 (by decide), z2, hg]
        rfl
      · intro k k1 k2
        rw [q3.1 k k2, fc k k1]
      · rw [q3.2, fc2]
      · intro k k1 k2
        rw [q4 k k2, fm k k1]
      · intro k k1
        rw [q5 k k1, fm2]
    · have hge : ¬ (ko : Int) < (m.1 3 (680 * t)).toInt := fun z => hjz (o4.mpr z)
      have heq : e = m.1 3 (680 * t) := i32_eq.mpr (by omega)
      refine ⟨false, c, m, ?_, ?_, ⟨fun _ _ _ => rfl, rfl⟩, fun _ _ _ => rfl, fun _ _ => rfl⟩
      · unfold F_X3_opensBy
        rw [hop, Option.bind_some, if_neg hjz]
      · rw [hread, if_pos heq]
