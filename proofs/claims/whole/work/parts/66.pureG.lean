/-! the tape read on both sides: bytes -/
theorem byte_rel {c m : jS} (ht : rTape (c.1 27) (c.1 28) (m.1 0) (m.1 4)) {q : Int32} (h0 : 0 ≤ q.toInt) : ∃ b : Int32, F_X4_byteAt q c = some b ∧ F_X9_byteAt q m = some b ∧ (q.toInt < (c.1 27 1).toInt → b = m.1 4 q.toInt.toNat ∧ 0 ≤ b.toInt ∧ b.toInt ≤ 255) ∧ ((c.1 27 1).toInt ≤ q.toInt → b = -1) := by
  obtain ⟨t1, ⟨t2, t3⟩, t4⟩ := ht
  have l0 : (0 : Int32).toInt = 0 := rfl
  have l300 : (300 : Int32).toInt = 300 := rfl
  unfold F_X4_byteAt F_X9_byteAt
  rw [← t1, if_neg (fun z => by have := i32_lt.mp z; omega)]
  by_cases hc : c.1 27 1 ≤ q
  · have hc' := i32_le.mp hc
    rw [if_pos hc, if_pos hc]
    exact ⟨-1, rfl, rfl, fun z => by omega, fun _ => rfl⟩
  · have hc' : ¬ (c.1 27 1).toInt ≤ q.toInt := fun z => hc (i32_le.mpr z)
    have hj : jin q 300 = true := jin_of h0 (by omega)
    have hb := t4 q.toNatClampNeg (by rw [i32_nat]; omega)
    rw [if_neg hc, if_neg hc, if_neg (fun z => by have := i32_le.mp z; omega), if_pos hj, if_pos hj, hb]
    refine ⟨_, rfl, rfl, fun _ => ⟨rfl, ?_⟩, fun z => absurd z hc'⟩
    rw [← hb]
    generalize c.1 28 q.toNatClampNeg = x
    have key : (x &&& 255).toInt = ((x.toBitVec.toNat % 256 : Nat) : Int) := by
      have e1 : (x &&& 255).toBitVec.toNat = x.toBitVec.toNat % 256 := by
        rw [Int32.toBitVec_and, BitVec.toNat_and]
        exact Nat.and_two_pow_sub_one_eq_mod x.toBitVec.toNat 8
      show (x &&& 255).toBitVec.toInt = _
      rw [BitVec.toInt_eq_toNat_of_lt (by rw [e1]; omega), e1]
    rw [key]
    omega
/-- only slot 8 (where the reader stands) of the reference's object moves -/
def onlyAt (m m' : jS) : Prop := (∀ k : Nat, ¬ k = 0 → m'.1 k = m.1 k) ∧ (∀ j : Nat, ¬ j = 8 → m'.1 0 j = m.1 0 j) ∧ m'.2 = m.2
theorem onlyAt_rfl {m : jS} : onlyAt m m := ⟨fun _ _ => rfl, fun _ _ => rfl, rfl⟩
theorem onlyAt_up {m m' : jS} (h : onlyAt m m') (x : Int32) : onlyAt m (upI m' 0 8 x) := by
  refine ⟨fun k hk => ?_, fun j hj => ?_, h.2.2⟩
  · rw [upI_1, if_neg hk]; exact h.1 k hk
  · show upd (m'.1 0) 8 x j = _
    rw [upd_ne hj]; exact h.2.1 j hj
theorem tape_at {c m m' : jS} (ht : rTape (c.1 27) (c.1 28) (m.1 0) (m.1 4)) (h : onlyAt m m') : rTape (c.1 27) (c.1 28) (m'.1 0) (m'.1 4) := by
  obtain ⟨t1, t2, t3⟩ := ht
  refine ⟨t1.trans (h.2.1 5 (by decide)).symm, t2, ?_⟩
  rw [h.1 4 (by decide)]
  exact t3
/-- blanks passed over -/
theorem blank_rel {n : Nat} (hn : 400000 ≤ n) {c m : jS} (ht : rTape (c.1 27) (c.1 28) (m.1 0) (m.1 4)) {p : Int32} (hp : m.1 0 8 = p) (h0 : 0 ≤ p.toInt) (h1 : p.toInt ≤ (c.1 27 1).toInt) :
    ∃ e m', lp (B_X4_nextToken_5 n c) n p = some e ∧ lp (B_X9_nextToken_0 n) n m = some m' ∧ m'.1 0 8 = e ∧ onlyAt m m' ∧ p.toInt ≤ e.toInt ∧ e.toInt ≤ (c.1 27 1).toInt := by
  have hb := ht.2.1
  have l1 : (1 : Int32).toInt = 1 := rfl
  obtain ⟨e, f, he, hf, hq⟩ := lp_rule2 (body := B_X4_nextToken_5 n c) (body' := B_X9_nextToken_0 n)
    (I := fun q y k => y.1 0 8 = q ∧ onlyAt m y ∧ p.toInt ≤ q.toInt ∧ q.toInt ≤ (c.1 27 1).toInt ∧ k = (c.1 27 1).toInt.toNat - q.toInt.toNat)
    (Q := fun e f => f.1 0 8 = e ∧ onlyAt m f ∧ p.toInt ≤ e.toInt ∧ e.toInt ≤ (c.1 27 1).toInt) (by
    rintro q y k ⟨g1, g2, g3, g4, g5⟩
    obtain ⟨b, b1, b2, b3, b4⟩ := byte_rel (tape_at ht g2) (q := q) (by omega)
    have href : B_X9_nextToken_0 n y = (if b = 32 then some (.inl (upI y 0 8 (q + 1))) else (if b = 10 then some (.inl (upI y 0 8 (q + 1))) else some (.inr y))) := by
      unfold B_X9_nextToken_0
      rw [g1, b2, Option.bind_some, Option.bind_some, jl_1]
    by_cases hc : c.1 27 1 ≤ q
    · left
      have hc' := i32_le.mp hc
      have hbm := b4 hc'
      refine ⟨q, y, ?_, ?_, g1, g2, g3, g4⟩
      · unfold B_X4_nextToken_5
        rw [if_pos hc]
      · rw [href, hbm, if_neg (by decide), if_neg (by decide)]
    · have hc' : ¬ (c.1 27 1).toInt ≤ q.toInt := fun z => hc (i32_le.mpr z)
      have hcls : B_X4_nextToken_5 n c q = (if (F_X4_isBlank b) = true then some (.inl (q + 1)) else some (.inr q)) := by
        unfold B_X4_nextToken_5
        rw [if_neg hc, b1, Option.bind_some]
      have hq1 : (q + 1).toInt = q.toInt + 1 := i32_add (by omega) (by omega)
      obtain ⟨q1, hq⟩ : ∃ q1, q + 1 = q1 := ⟨_, rfl⟩
      rw [hq] at href hcls hq1
      by_cases hbl : b = 32 ∨ b = 10
      · right
        have hbt : F_X4_isBlank b = true := by
          rcases hbl with rfl | rfl <;> rfl
        refine ⟨q1, upI y 0 8 q1, (c.1 27 1).toInt.toNat - q1.toInt.toNat, by omega, by rw [hcls, if_pos hbt], ?_, rfl, onlyAt_up g2 q1, by omega, by omega, rfl⟩
        rcases hbl with rfl | rfl
        · rw [href, if_pos rfl]
        · rw [href, if_neg (by decide), if_pos rfl]
      · left
        have n1 : ¬ b = 32 := fun z => hbl (Or.inl z)
        have n2 : ¬ b = 10 := fun z => hbl (Or.inr z)
        have hbf : ¬ F_X4_isBlank b = true := by
          unfold F_X4_isBlank
          rw [if_neg n1, if_neg n2]
          decide
        exact ⟨q, y, by rw [hcls, if_neg hbf], by rw [href, if_neg n1, if_neg n2], g1, g2, g3, g4⟩) ((c.1 27 1).toInt.toNat - p.toInt.toNat) n p m (by omega) ⟨hp, onlyAt_rfl, Int.le_refl _, h1, rfl⟩
  exact ⟨e, f, he, hf, hq⟩
/-- only slots 8 and 11 (place, number) of the reference's object move -/
def onlyNum (m m' : jS) : Prop := (∀ k : Nat, ¬ k = 0 → m'.1 k = m.1 k) ∧ (∀ j : Nat, ¬ j = 8 → ¬ j = 11 → m'.1 0 j = m.1 0 j) ∧ m'.2 = m.2
theorem onlyNum_rfl {m : jS} : onlyNum m m := ⟨fun _ _ => rfl, fun _ _ _ => rfl, rfl⟩
theorem onlyNum_8 {m m' : jS} (h : onlyNum m m') (x : Int32) : onlyNum m (upI m' 0 8 x) := by
  refine ⟨fun k hk => ?_, fun j hj hj2 => ?_, h.2.2⟩
  · rw [upI_1, if_neg hk]; exact h.1 k hk
  · show upd (m'.1 0) 8 x j = _
    rw [upd_ne hj]; exact h.2.1 j hj hj2
theorem onlyNum_11 {m m' : jS} (h : onlyNum m m') (x : Int32) : onlyNum m (upI m' 0 11 x) := by
  refine ⟨fun k hk => ?_, fun j hj hj2 => ?_, h.2.2⟩
  · rw [upI_1, if_neg hk]; exact h.1 k hk
  · show upd (m'.1 0) 11 x j = _
    rw [upd_ne hj2]; exact h.2.1 j hj hj2
theorem tape_num {c m m' : jS} (ht : rTape (c.1 27) (c.1 28) (m.1 0) (m.1 4)) (h : onlyNum m m') : rTape (c.1 27) (c.1 28) (m'.1 0) (m'.1 4) := by
  obtain ⟨t1, t2, t3⟩ := ht
  refine ⟨t1.trans (h.2.1 5 (by decide) (by decide)).symm, t2, ?_⟩
  rw [h.1 4 (by decide)]
  exact t3
/-- a number read: the class keeps at most 10000, the reference somewhat more -/
def sameNum (x y : Int32) : Prop := 0 ≤ y.toInt ∧ y.toInt ≤ 1000000 ∧ ((y.toInt < 10000 ∧ x = y) ∨ (10000 ≤ y.toInt ∧ x = 10000))
theorem digits_rel {n : Nat} (hn : 400000 ≤ n) {c m : jS} (ht : rTape (c.1 27) (c.1 28) (m.1 0) (m.1 4)) {p : Int32} (hp : m.1 0 8 = p) (hz : m.1 0 11 = 0) (h0 : 0 ≤ p.toInt) (h1 : p.toInt ≤ (c.1 27 1).toInt) :
    ∃ e m', lp (B_X4_readNumber_7 n c) n (p, 0) = some e ∧ lp (B_X9_nextToken_85 n) n m = some m' ∧ m'.1 0 8 = e.1 ∧ sameNum e.2 (m'.1 0 11) ∧ onlyNum m m' ∧ p.toInt ≤ e.1.toInt ∧ e.1.toInt ≤ (c.1 27 1).toInt := by
  have hb := ht.2.1
  have l1 : (1 : Int32).toInt = 1 := rfl
  have l48 : (48 : Int32).toInt = 48 := rfl
  have lk : (10000 : Int32).toInt = 10000 := rfl
  have lm : (100000 : Int32).toInt = 100000 := rfl
  obtain ⟨e, f, he, hf, hq⟩ := lp_rule2 (body := B_X4_readNumber_7 n c) (body' := B_X9_nextToken_85 n)
    (I := fun q y k => y.1 0 8 = q.1 ∧ sameNum q.2 (y.1 0 11) ∧ onlyNum m y ∧ p.toInt ≤ q.1.toInt ∧ q.1.toInt ≤ (c.1 27 1).toInt ∧ k = (c.1 27 1).toInt.toNat - q.1.toInt.toNat)
    (Q := fun e f => f.1 0 8 = e.1 ∧ sameNum e.2 (f.1 0 11) ∧ onlyNum m f ∧ p.toInt ≤ e.1.toInt ∧ e.1.toInt ≤ (c.1 27 1).toInt) (by
    rintro ⟨q, x⟩ y k ⟨g1, gs, g2, g3, g4, g5⟩
    simp only at g1 gs g3 g4 g5
    obtain ⟨b, b1, b2, b3, b4⟩ := byte_rel (tape_num ht g2) (q := q) (by omega)
    by_cases hd : F_X8_within b 48 57 = true
    · have hd' : 48 ≤ b.toInt ∧ b.toInt ≤ 57 := win_iff.mp hd
      have hc : ¬ c.1 27 1 ≤ q := fun z => by
        have hbm := b4 (i32_le.mp z)
        rw [hbm] at hd'
        exact absurd hd'.1 (by decide)
      have hc' : ¬ (c.1 27 1).toInt ≤ q.toInt := fun z => hc (i32_le.mpr z)
      have hq1 : (q + 1).toInt = q.toInt + 1 := i32_add (by omega) (by omega)
      obtain ⟨q1, hq⟩ : ∃ q1, q + 1 = q1 := ⟨_, rfl⟩
      rw [hq] at hq1
      obtain ⟨y0, hy0⟩ : ∃ y0, y.1 0 11 = y0 := ⟨_, rfl⟩
      rw [hy0] at gs
      obtain ⟨s1, s2, s3⟩ := gs
      have hx : 0 ≤ x.toInt ∧ x.toInt ≤ 10000 ∧ ((y0.toInt < 10000 ∧ x.toInt = y0.toInt) ∨ (10000 ≤ y0.toInt ∧ x.toInt = 10000)) := by
        rcases s3 with ⟨a, rfl⟩ | ⟨a, rfl⟩
        · exact ⟨s1, by omega, Or.inl ⟨a, rfl⟩⟩
        · exact ⟨by decide, by decide, Or.inr ⟨a, rfl⟩⟩
      have e1 : (x * 10).toInt = x.toInt * 10 := i32_mulR rfl (by omega) (by omega)
      have e2 : (x * 10 + b).toInt = x.toInt * 10 + b.toInt := by rw [i32_add (by omega) (by omega), e1]
      have e3 : (x * 10 + b - 48).toInt = x.toInt * 10 + b.toInt - 48 := by rw [i32_sub (by omega) (by omega), e2, l48]
      clear e1 e2
      obtain ⟨w, hw⟩ : ∃ w, x * 10 + b - 48 = w := ⟨_, rfl⟩
      rw [hw] at e3
      obtain ⟨x1, hx1⟩ : ∃ x1, (if w < 10000 then w else 10000) = x1 := ⟨_, rfl⟩
      have hcls : B_X4_readNumber_7 n c (q, x) = some (.inl (q1, x1)) := by
        unfold B_X4_readNumber_7
        dsimp only
        rw [if_neg hc, b1, Option.bind_some, if_pos (show F_X4_isDigit b = true from hd), Option.bind_some, hq, hw, hx1]
      have hx1' : x1.toInt = if w.toInt < 10000 then w.toInt else 10000 := by
        rw [← hx1]
        by_cases z : w < 10000
        · rw [if_pos z, if_pos (by have := i32_lt.mp z; omega)]
        · rw [if_neg z, if_neg (fun u => z (i32_lt.mpr (by omega)))]
          rfl
      right
      by_cases h5 : 100000 ≤ y0
      · have h5' := i32_le.mp h5
        refine ⟨(q1, x1), upI y 0 8 q1, (c.1 27 1).toInt.toNat - q1.toInt.toNat, by omega, hcls, ?_, rfl, ?_, onlyNum_8 g2 q1, by show p.toInt ≤ q1.toInt; omega, by show q1.toInt ≤ _; omega, rfl⟩
        · unfold B_X9_nextToken_85
          rw [g1, b2, Option.bind_some, if_pos (show F_X9_isDigit b = true from hd), hy0, if_pos h5, hq, jl_1]
        · show sameNum x1 (y.1 0 11)
          rw [hy0]
          refine ⟨s1, s2, Or.inr ⟨by omega, i32_eq.mpr ?_⟩⟩
          rw [hx1', if_neg (by omega)]
          rfl
      · have h5' : ¬ (100000 : Int32).toInt ≤ y0.toInt := fun z => h5 (i32_le.mpr z)
        have f1 : (10 * y0).toInt = 10 * y0.toInt := i32_mulL rfl (by omega) (by omega)
        have f2 : (10 * y0 + b).toInt = 10 * y0.toInt + b.toInt := by rw [i32_add (by omega) (by omega), f1]
        have f3 : (10 * y0 + b - 48).toInt = 10 * y0.toInt + b.toInt - 48 := by rw [i32_sub (by omega) (by omega), f2, l48]
        clear f1 f2
        obtain ⟨v, hv⟩ : ∃ v, 10 * y0 + b - 48 = v := ⟨_, rfl⟩
        rw [hv] at f3
        refine ⟨(q1, x1), upI (upI y 0 11 v) 0 8 q1, (c.1 27 1).toInt.toNat - q1.toInt.toNat, by omega, hcls, ?_, rfl, ?_, onlyNum_8 (onlyNum_11 g2 v) q1, by show p.toInt ≤ q1.toInt; omega, by show q1.toInt ≤ _; omega, rfl⟩
        · unfold B_X9_nextToken_85
          rw [g1, b2, Option.bind_some, if_pos (show F_X9_isDigit b = true from hd), hy0, if_neg h5, Option.bind_some, hv, jl_1, jl_1, show (upI y 0 11 v).1 0 8 = q from g1, hq]
        · show sameNum x1 v
          refine ⟨by omega, by omega, ?_⟩
          by_cases z : v.toInt < 10000
          · left
            refine ⟨z, i32_eq.mpr ?_⟩
            rw [hx1', if_pos (by omega)]
            omega
          · right
            refine ⟨by omega, i32_eq.mpr ?_⟩
            rw [hx1', if_neg (by omega)]
            rfl
    · left
      refine ⟨(q, x), y, ?_, ?_, g1, gs, g2, g3, g4⟩
      · unfold B_X4_readNumber_7
        dsimp only
        by_cases hc : c.1 27 1 ≤ q
        · rw [if_pos hc]
        · rw [if_neg hc, b1, Option.bind_some, if_neg (show ¬ F_X4_isDigit b = true from hd)]
      · unfold B_X9_nextToken_85
        rw [g1, b2, Option.bind_some, if_neg (show ¬ F_X9_isDigit b = true from hd)]) ((c.1 27 1).toInt.toNat - p.toInt.toNat) n (p, 0) m (by omega) ⟨hp, by rw [hz]; exact ⟨by decide, by decide, Or.inl ⟨by decide, rfl⟩⟩, onlyNum_rfl, Int.le_refl _, h1, rfl⟩
  exact ⟨e, f, he, hf, hq⟩
