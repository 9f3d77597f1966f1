/-! the next token, both sides -/
def refSign (n : Nat) (p52 : Int32) (s252_4 : jS) : Option jS := (if p52 = 60 then J_X9_nextToken_321 n p52 s252_4 else (if p52 = 62 then J_X9_nextToken_321 n p52 s252_4 else (if p52 = 61 then J_X9_nextToken_321 n p52 s252_4 else (if p52 = 35 then J_X9_nextToken_321 n p52 s252_4 else (if p52 = 43 then J_X9_nextToken_321 n p52 s252_4 else (if p52 = 45 then J_X9_nextToken_321 n p52 s252_4 else (if p52 = 42 then J_X9_nextToken_321 n p52 s252_4 else (if p52 = 47 then J_X9_nextToken_321 n p52 s252_4 else (if p52 = 40 then J_X9_nextToken_321 n p52 s252_4 else (if p52 = 41 then J_X9_nextToken_321 n p52 s252_4 else (if p52 = 59 then J_X9_nextToken_321 n p52 s252_4 else J_X9_nextToken_326 n p52 false s252_4)))))))))))
def clsSign (n : Nat) (b : Int32) (s : jS) : Option jS := (F_X4_byteAt (s.1 27 5) s).bind fun p105 => (if p105 = 61 then J_X4_nextToken_118 n b true s else J_X4_nextToken_118 n b false s)
theorem refSign_one {n : Nat} {b : Int32} {s : jS} (h : b ∈ ([61, 35, 43, 45, 42, 47, 40, 41, 59] : List Int32)) : refSign n b s = some (upI s 0 10 b) := by
  have key : ∀ k : Int32, (¬ b = 60) → (¬ b = 62) → J_X9_nextToken_337 n b k s = some (upI s 0 10 k) := fun k h1 h2 => by
    unfold J_X9_nextToken_337
    rw [jl_1, if_neg h1, if_neg h2]
  simp only [List.mem_cons, List.not_mem_nil, or_false] at h
  rcases h with rfl | rfl | rfl | rfl | rfl | rfl | rfl | rfl | rfl <;> exact key _ (by decide) (by decide)
theorem refSign_other {n : Nat} {b : Int32} {s : jS} (h : ¬ b ∈ ([60, 62, 61, 35, 43, 45, 42, 47, 40, 41, 59] : List Int32)) : refSign n b s = some (upI s 0 10 3) := by
  simp only [List.mem_cons, List.not_mem_nil, or_false, not_or] at h
  obtain ⟨h1, h2, h3, h4, h5, h6, h7, h8, h9, ha, hb⟩ := h
  unfold refSign
  rw [if_neg h1, if_neg h2, if_neg h3, if_neg h4, if_neg h5, if_neg h6, if_neg h7, if_neg h8, if_neg h9, if_neg ha, if_neg hb]
  unfold J_X9_nextToken_326
  rw [if_neg (show ¬ false = true from fun z => by cases z)]
  unfold J_X9_nextToken_337
  rw [jl_1, if_neg h1, if_neg h2]
theorem refSign_two {n : Nat} {b b2 : Int32} {s : jS} (h : b = 60 ∨ b = 62) (h2 : F_X9_byteAt (s.1 0 8) (upI s 0 10 b) = some b2) : refSign n b s = some (if b2 = 61 then upI (upI (upI s 0 10 b) 0 8 (s.1 0 8 + 1)) 0 10 (if b = 60 then 4 else 5) else upI s 0 10 b) := by
  have e8 : (upI s 0 10 b).1 0 8 = s.1 0 8 := rfl
  have key : J_X9_nextToken_352 n b (upI s 0 10 b) = some (if b2 = 61 then upI (upI (upI s 0 10 b) 0 8 (s.1 0 8 + 1)) 0 10 (if b = 60 then 4 else 5) else upI s 0 10 b) := by
    unfold J_X9_nextToken_352
    rw [e8, h2, Option.bind_some]
    by_cases h6 : b2 = 61
    · rw [if_pos h6, if_pos h6, jl_1]
      by_cases h0 : b = 60
      · rw [if_pos h0, if_pos h0, jl_1]
      · rw [if_neg h0, if_neg h0, jl_1]
    · rw [if_neg h6, if_neg h6]
  rcases h with rfl | rfl
  · exact key
  · exact key
theorem sign_other {b : Int32} {q : Bool} (h : ¬ b ∈ ([60, 62, 61, 35, 43, 45, 42, 47, 40, 41, 59] : List Int32)) : F_X4_signAt b q = 0 := by
  simp only [List.mem_cons, List.not_mem_nil, or_false, not_or] at h
  obtain ⟨h1, h2, h3, h4, h5, h6, h7, h8, h9, ha, hb⟩ := h
  unfold F_X4_signAt
  rw [if_neg h4, if_neg h9, if_neg ha, if_neg h7, if_neg h5, if_neg h6, if_neg h8, if_neg hb, if_neg h1, if_neg h3, if_neg h2]
  simp only [ite_self]
theorem clsSign_is {n : Nat} {b b2 : Int32} {s : jS} (h2 : F_X4_byteAt (s.1 27 5) s = some b2) : clsSign n b s = some (upI (upI s 27 2 (F_X4_signAt b (decide (b2 = 61)))) 27 5 (s.1 27 5 + (if F_X4_isTwoSigned (F_X4_signAt b (decide (b2 = 61))) = true then 1 else 0))) := by
  have key : ∀ q : Bool, J_X4_nextToken_118 n b q s = some (upI (upI s 27 2 (F_X4_signAt b q)) 27 5 (s.1 27 5 + (if F_X4_isTwoSigned (F_X4_signAt b q) = true then 1 else 0))) := fun q => by
    unfold J_X4_nextToken_118
    rw [jl_1]
    rw [show (upI s 27 2 (F_X4_signAt b q)).1 27 2 = F_X4_signAt b q from rfl, show (upI s 27 2 (F_X4_signAt b q)).1 27 5 = s.1 27 5 from rfl]
    by_cases h : F_X4_isTwoSigned (F_X4_signAt b q) = true
    · rw [if_pos h, if_pos h, jl_1]
    · rw [if_neg h, if_neg h, jl_1]
  unfold clsSign
  rw [h2, Option.bind_some]
  by_cases h : b2 = 61
  · rw [if_pos h, key, decide_eq_true h]
  · rw [if_neg h, key, decide_eq_false h]
theorem add0 (x : Int32) : x + 0 = x := Int32.add_zero x
theorem sign_rel {n : Nat} {c m : jS} (ht : rTape (c.1 27) (c.1 28) (m.1 0) (m.1 4)) {b p q : Int32} (hc4 : c.1 27 4 = p) (hc5 : c.1 27 5 = q) (hm9 : m.1 0 9 = p) (hm8 : m.1 0 8 = q) (q0 : 0 ≤ q.toInt) (q1 : q.toInt ≤ (c.1 27 1).toInt) :
    ∃ c' m', clsSign n b c = some c' ∧ refSign n b m = some m' ∧ frC c c' ∧ frM m m' ∧ c'.1 27 4 = p ∧ m'.1 0 9 = p ∧ c'.1 27 5 = m'.1 0 8 ∧ q.toInt ≤ (c'.1 27 5).toInt ∧ (c'.1 27 5).toInt ≤ (c.1 27 1).toInt ∧ tokW (c'.1 27 2) (c'.1 27 3) (m'.1 0 10) (m'.2 0 12) ∧ ¬ c'.1 27 2 = 2 := by
  obtain ⟨b2, b21, b22, b23, b24⟩ := byte_rel ht (q := q) q0
  have hlen := ht.2.1
  have l1 : (1 : Int32).toInt = 1 := rfl
  have hcl := clsSign_is (n := n) (b := b) (s := c) (b2 := b2) (by rw [hc5]; exact b21)
  have hf1 : ∀ x y : Int32, frC c (upI (upI c 27 2 x) 27 5 y) := fun x y => frC_up (frC_up frC_rfl (by decide) x) (by decide) y
  by_cases h2 : b = 60 ∨ b = 62
  · have hre := refSign_two (n := n) (b := b) (s := m) (b2 := b2) h2 (by
      rw [hm8]
      show F_X9_byteAt q m = some b2
      exact b22)
    by_cases h6 : b2 = 61
    · have hq1 : (q + 1).toInt = q.toInt + 1 := i32_add (by omega) (by omega)
      have hql : q.toInt < (c.1 27 1).toInt := by
        by_cases z : q.toInt < (c.1 27 1).toInt
        · exact z
        · exact absurd (h6.symm.trans (b24 (by omega))) (by decide)
      rw [decide_eq_true h6] at hcl
      rw [if_pos h6] at hre
      have e2 : F_X4_isTwoSigned (F_X4_signAt b true) = true := by rcases h2 with rfl | rfl <;> decide
      rw [if_pos e2] at hcl
      refine ⟨_, _, hcl, hre, hf1 _ _, frM_up (frM_up (frM_up frM_rfl (by decide) _) (by decide) _) (by decide) _, hc4, hm9, ?_, ?_, ?_, ?_, ?_⟩
      · show c.1 27 5 + 1 = m.1 0 8 + 1
        rw [hc5, hm8]
      · show q.toInt ≤ (c.1 27 5 + 1).toInt
        rw [hc5, hq1]; omega
      · show (c.1 27 5 + 1).toInt ≤ _
        rw [hc5, hq1]; omega
      · show tokW (F_X4_signAt b true) (c.1 27 3) (if b = 60 then 4 else 5) (m.2 0 12)
        rcases h2 with rfl | rfl
        · exact tokW_no (by decide) (by decide) (by unfold tokW; decide +kernel)
        · exact tokW_no (by decide) (by decide) (by unfold tokW; decide +kernel)
      · show ¬ F_X4_signAt b true = 2
        rcases h2 with rfl | rfl <;> decide
    · rw [decide_eq_false h6] at hcl
      rw [if_neg h6] at hre
      have e2 : ¬ F_X4_isTwoSigned (F_X4_signAt b false) = true := by rcases h2 with rfl | rfl <;> decide
      rw [if_neg e2, add0] at hcl
      refine ⟨_, _, hcl, hre, hf1 _ _, frM_up frM_rfl (by decide) _, hc4, hm9, ?_, ?_, ?_, ?_, ?_⟩
      · show c.1 27 5 = m.1 0 8
        rw [hc5, hm8]
      · show q.toInt ≤ (c.1 27 5).toInt
        rw [hc5]; omega
      · show (c.1 27 5).toInt ≤ _
        rw [hc5]; omega
      · show tokW (F_X4_signAt b false) (c.1 27 3) b (m.2 0 12)
        rcases h2 with rfl | rfl
        · exact tokW_no (by decide) (by decide) (by unfold tokW; decide +kernel)
        · exact tokW_no (by decide) (by decide) (by unfold tokW; decide +kernel)
      · show ¬ F_X4_signAt b false = 2
        rcases h2 with rfl | rfl <;> decide
  · have key : ∀ ms : Int32, refSign n b m = some (upI m 0 10 ms) → ¬ F_X4_isTwoSigned (F_X4_signAt b (decide (b2 = 61))) = true → ¬ ms = 2 → ¬ F_X4_signAt b (decide (b2 = 61)) = 3 → tokW (F_X4_signAt b (decide (b2 = 61))) 0 ms 0 → ¬ F_X4_signAt b (decide (b2 = 61)) = 2 → ∃ c' m', clsSign n b c = some c' ∧ refSign n b m = some m' ∧ frC c c' ∧ frM m m' ∧ c'.1 27 4 = p ∧ m'.1 0 9 = p ∧ c'.1 27 5 = m'.1 0 8 ∧ q.toInt ≤ (c'.1 27 5).toInt ∧ (c'.1 27 5).toInt ≤ (c.1 27 1).toInt ∧ tokW (c'.1 27 2) (c'.1 27 3) (m'.1 0 10) (m'.2 0 12) ∧ ¬ c'.1 27 2 = 2 := by
      intro ms hre e2 m2 s3 tw s2
      rw [if_neg e2, add0] at hcl
      refine ⟨_, _, hcl, hre, hf1 _ _, frM_up frM_rfl (by decide) _, hc4, hm9, ?_, ?_, ?_, ?_, s2⟩
      · show c.1 27 5 = m.1 0 8
        rw [hc5, hm8]
      · show q.toInt ≤ (c.1 27 5).toInt
        rw [hc5]; omega
      · show (c.1 27 5).toInt ≤ _
        rw [hc5]; omega
      · exact tokW_no m2 s3 tw
    by_cases h1 : b ∈ ([61, 35, 43, 45, 42, 47, 40, 41, 59] : List Int32)
    · have hre := refSign_one (n := n) (s := m) h1
      have all : ∀ b ∈ ([61, 35, 43, 45, 42, 47, 40, 41, 59] : List Int32), ∀ q : Bool, (¬ F_X4_isTwoSigned (F_X4_signAt b q) = true) ∧ (¬ b = 2) ∧ (¬ F_X4_signAt b q = 3) ∧ tokW (F_X4_signAt b q) 0 b 0 ∧ ¬ F_X4_signAt b q = 2 := by unfold tokW; decide +kernel
      obtain ⟨u1, u2, u3, u4, u5⟩ := all b h1 (decide (b2 = 61))
      exact key b hre u1 u2 u3 u4 u5
    · have hn : ¬ b ∈ ([60, 62, 61, 35, 43, 45, 42, 47, 40, 41, 59] : List Int32) := by
        intro z
        rcases List.mem_cons.mp z with z | z
        · exact h2 (Or.inl z)
        · rcases List.mem_cons.mp z with z | z
          · exact h2 (Or.inr z)
          · exact h1 z
      have hre := refSign_other (n := n) (s := m) hn
      refine key 3 hre ?_ (by decide) ?_ ?_ ?_
      · rw [sign_other hn]; decide
      · rw [sign_other hn]; decide
      · rw [sign_other hn]; unfold tokW; decide +kernel
      · rw [sign_other hn]; decide
theorem nextToken_rel {n : Nat} (hn : 400000 ≤ n) {c m : jS} (ht : rTape (c.1 27) (c.1 28) (m.1 0) (m.1 4)) (hp : c.1 27 5 = m.1 0 8) (h0 : 0 ≤ (c.1 27 5).toInt) (h1 : (c.1 27 5).toInt ≤ (c.1 27 1).toInt) :
    ∃ c' m', F_X4_nextToken n c = some c' ∧ F_X9_nextToken n m = some m' ∧ frC c c' ∧ frM m m' ∧ tokA c' m' ∧ (c.1 27 5).toInt ≤ (c'.1 27 4).toInt := by
  have hlen := ht.2.1
  have l1 : (1 : Int32).toInt = 1 := rfl
  have l0 : (0 : Int32).toInt = 0 := rfl
  obtain ⟨e, m1, a1, a2, a3, a4, a5, a6⟩ := blank_rel hn ht hp.symm h0 h1
  -- the places
  obtain ⟨q, hq⟩ : ∃ q, (if ((e + 1) : Int32) < (c.1 27 1) then (e + 1) else (c.1 27 1)) = q := ⟨_, rfl⟩
  have he1 : (e + 1).toInt = e.toInt + 1 := i32_add (by omega) (by omega)
  have hqv : q.toInt = if e.toInt + 1 < (c.1 27 1).toInt then e.toInt + 1 else (c.1 27 1).toInt := by
    rw [← hq]
    by_cases z : (e + 1 : Int32) < c.1 27 1
    · have := i32_lt.mp z
      rw [if_pos z, if_pos (by omega), he1]
    · have : ¬ (e + 1 : Int32).toInt < (c.1 27 1).toInt := fun y => z (i32_lt.mpr y)
      rw [if_neg z, if_neg (by omega)]
  have f1 : frC c (upI (upI c 27 4 e) 27 5 q) := frC_up (frC_up frC_rfl (by decide) _) (by decide) _
  have g1 : frM m (upI m1 0 9 e) := frM_up (frM_at frM_rfl a4) (by decide) _
  obtain ⟨C, hC⟩ : ∃ C, upI (upI c 27 4 e) 27 5 q = C := ⟨_, rfl⟩
  obtain ⟨M, hM⟩ : ∃ M, upI m1 0 9 e = M := ⟨_, rfl⟩
  rw [hC] at f1
  rw [hM] at g1
  have C4 : C.1 27 4 = e := by rw [← hC]; rfl
  have C5 : C.1 27 5 = q := by rw [← hC]; rfl
  have C1 : C.1 27 1 = c.1 27 1 := f1.2.1
  have M8 : M.1 0 8 = e := by rw [← hM]; exact a3
  have M9 : M.1 0 9 = e := by rw [← hM]; rfl
  have tT : rTape (C.1 27) (C.1 28) (M.1 0) (M.1 4) := tape_fr ht f1 g1
  obtain ⟨b, b1, b2, b3, b4⟩ := byte_rel tT (q := e) (by omega)
  rw [C1] at b3 b4
  have hcls : F_X4_nextToken n c = (if 0 ≤ b then (if (F_X4_isLetter b) = true then ((F_X4_readWord n C).bind fun p78 => some p78) else (if (F_X4_isDigit b) = true then ((F_X4_readNumber n C).bind fun p92 => some p92) else clsSign n b C)) else some (upI C 27 2 1)) := by
    unfold F_X4_nextToken
    rw [a1, Option.bind_some, jl_1, show (upI c 27 4 e).1 27 1 = c.1 27 1 from rfl, hq, jl_1, hC, C4, b1, Option.bind_some, jl_1]
    rfl
  have href : F_X9_nextToken n m = (if 0 ≤ b then (if (F_X9_isDigit b) = true then ((lp (B_X9_nextToken_85 n) n (upI (upI M 0 10 1) 0 11 0)).bind fun e85 => some e85) else (if (F_X9_isLetter b) = true then ((lp (B_X9_nextToken_161 n) n (upL (upI M 0 10 2) 0 12 0)).bind fun e161 => (if ((e161.1 0 8) - (e161.1 0 9)) ≤ 7 then some e161 else (jl (upL e161 0 12 0) fun s239_14 => some s239_14))) else refSign n b (upI M 0 8 (M.1 0 8 + 1)))) else some (upI M 0 10 0)) := by
    unfold F_X9_nextToken
    rw [a2, Option.bind_some, a3, jl_1, hM, M8, b2, Option.bind_some]
    rfl
  by_cases hb : 0 ≤ b
  · have hb' := i32_le.mp hb
    have hel : e.toInt < (c.1 27 1).toInt := by
      by_cases z : e.toInt < (c.1 27 1).toInt
      · exact z
      · rw [b4 (by omega)] at hb'
        exact absurd hb' (by decide)
    have hqe : q.toInt = e.toInt + 1 := by
      rw [hqv]
      split <;> omega
    have hqq : e + 1 = q := i32_eq.mpr (by rw [he1, hqe])
    rw [if_pos hb] at hcls href
    by_cases hl : F_X4_isLetter b = true
    · have hnd : ¬ F_X9_isDigit b = true := by
        intro z
        obtain ⟨z1, z2⟩ := win_iff.mp z
        have k1 : (48 : Int32).toInt = 48 := rfl
        have k2 : (57 : Int32).toInt = 57 := rfl
        unfold F_X4_isLetter at hl
        by_cases y : F_X8_within b 97 122 = true
        · have := (win_iff.mp y).1
          have k3 : (97 : Int32).toInt = 97 := rfl
          omega
        · rw [if_neg y] at hl
          by_cases x : F_X8_within b 65 90 = true
          · have := (win_iff.mp x).1
            have k3 : (65 : Int32).toInt = 65 := rfl
            omega
          · rw [if_neg x] at hl
            cases hl
      rw [if_pos hl] at hcls
      rw [if_neg hnd, if_pos (show F_X9_isLetter b = true from hl)] at href
      -- the letters
      have g2 : frM m (upL (upI M 0 10 2) 0 12 0) := frM_L (frM_up g1 (by decide) _) _
      obtain ⟨M2, hM2⟩ : ∃ M2, upL (upI M 0 10 2) 0 12 0 = M2 := ⟨_, rfl⟩
      rw [hM2] at g2 href
      have tT2 : rTape (C.1 27) (C.1 28) (M2.1 0) (M2.1 4) := tape_fr ht f1 g2
      obtain ⟨w, m3, w1, w2, w3, w4, w5, w6, w7⟩ := letters_rel hn tT2 (p := e) (by rw [← hM2]; exact M8) (by rw [← hM2]; exact M9) (by rw [← hM2]; rfl) (by omega) (by rw [C1]; omega)
      have hall := letters_all hn tT2 (p := e) (by omega) (by rw [C1]; omega) w1
      have hwe : e.toInt < w.toInt := by
        by_cases z : e.toInt < w.toInt
        · exact z
        · exfalso
          have hw0 : w = e := i32_eq.mpr (by omega)
          -- the first byte is a letter: the loop goes on
          obtain ⟨n', rfl⟩ : ∃ n', n = n' + 1 := ⟨n - 1, by omega⟩
          have hbd : B_X4_readWord_5 (n' + 1) C e = some (.inl (e + 1)) := by
            unfold B_X4_readWord_5
            rw [if_neg (fun z => by have := i32_le.mp z; rw [C1] at this; omega), b1, Option.bind_some, if_pos hl]
          change (B_X4_readWord_5 (n' + 1) C e).bind _ = _ at w1
          rw [hbd, Option.bind_some] at w1
          change lp (B_X4_readWord_5 (n' + 1) C) n' (e + 1) = some w at w1
          rw [hqq] at w1
          obtain ⟨w', w1', w2'⟩ := lp_rule (body := B_X4_readWord_5 (n' + 1) C) (I := fun x k => q.toInt ≤ x.toInt ∧ x.toInt ≤ (c.1 27 1).toInt ∧ k = (c.1 27 1).toInt.toNat - x.toInt.toNat) (Q := fun x => q.toInt ≤ x.toInt) (by
            rintro x k ⟨y1, y2, y3⟩
            by_cases hz : C.1 27 1 ≤ x
            · exact Or.inl ⟨x, by unfold B_X4_readWord_5; rw [if_pos hz], y1⟩
            · obtain ⟨bb, bb1, _, _, _⟩ := byte_rel tT (q := x) (by omega)
              have hz' : ¬ (C.1 27 1).toInt ≤ x.toInt := fun z => hz (i32_le.mpr z)
              rw [C1] at hz'
              have hx1 : (x + 1).toInt = x.toInt + 1 := i32_add (by rw [l1]; omega) (by rw [l1]; omega)
              by_cases hll : F_X4_isLetter bb = true
              · exact Or.inr ⟨x + 1, (c.1 27 1).toInt.toNat - (x + 1).toInt.toNat, by omega, by unfold B_X4_readWord_5; rw [if_neg hz, bb1, Option.bind_some, if_pos hll], by omega, by omega, rfl⟩
              · exact Or.inl ⟨x, by unfold B_X4_readWord_5; rw [if_neg hz, bb1, Option.bind_some, if_neg hll], y1⟩) ((c.1 27 1).toInt.toNat - q.toInt.toNat) n' q (by omega) ⟨Int.le_refl _, by omega, rfl⟩
          rw [w1] at w1'
          cases w1'
          omega
      have g3 : frM m m3 := frM_word g2 w5
      -- the digest
      have h9 : m3.1 0 9 = e := by rw [w5.2.1 9 (by decide), ← hM2]; exact M9
      rw [C1] at w7
      have hwe' : (w - e).toInt = w.toInt - e.toInt := i32_sub (by omega) (by omega)
      have l7 : (7 : Int32).toInt = 7 := rfl
      obtain ⟨d, hd⟩ : ∃ d, kdig (M2.1 4) e.toInt.toNat (w.toInt.toNat - e.toInt.toNat) = d := ⟨_, rfl⟩
      obtain ⟨m4, r1, r2, r3, r4, r5, r6⟩ : ∃ m4, F_X9_nextToken n m = some m4 ∧ frM m m4 ∧ m4.1 0 8 = w ∧ m4.1 0 9 = e ∧ m4.1 0 10 = 2 ∧ m4.2 0 12 = d := by
        rw [w2, Option.bind_some, w3, h9] at href
        have h10 : m3.1 0 10 = 2 := by rw [w5.2.1 10 (by decide), ← hM2]; rfl
        by_cases h7 : w - e ≤ 7
        · have h7' := i32_le.mp h7
          rw [if_pos h7] at href
          refine ⟨m3, href, g3, w3, h9, h10, ?_⟩
          rw [w4, ← hd, kdig, if_pos (by omega), Nat.min_eq_right (by omega)]
        · have h7' : ¬ (w - e).toInt ≤ (7 : Int32).toInt := fun z => h7 (i32_le.mpr z)
          rw [if_neg h7, jl_1] at href
          refine ⟨_, href, frM_L g3 _, w3, h9, h10, ?_⟩
          rw [← hd, kdig, if_neg (by omega)]
          rfl
      -- the class's word
      obtain ⟨C2, hC2⟩ : ∃ C2, upI C 27 5 w = C2 := ⟨_, rfl⟩
      have f2 : frC c C2 := by rw [← hC2]; exact frC_up f1 (by decide) _
      have tT3 : rTape (C2.1 27) (C2.1 28) (M2.1 0) (M2.1 4) := tape_fr ht f2 g2
      have hsp : ∀ i : Nat, i < 15 → F_X4_spells n i C2 = some (decide (d = jdig i)) := fun i hi => by
        have := spells_is hn hi tT3 (p := e) (e := w) (by rw [← hC2]; exact C4) (by rw [← hC2]; rfl) (by omega) (by omega) (by rw [f2.2.1]; omega) hall
        rw [hd] at this
        exact this
      have hnm : F_X4_nameSpelt n C2 = some (nameN d) := nameSpelt_is hsp
      have hwd : F_X4_wordSpelt n (upI C2 27 3 (nameN d)) = some (wordN d) := wordSpelt_is (fun i hi => (hsp i hi))
      have hrw : F_X4_readWord n C = some (upI (upI C2 27 3 (nameN d)) 27 2 (if nameN d = -1 then wordN d else 3)) := by
        unfold F_X4_readWord
        rw [C4, w1, Option.bind_some, jl_1, hC2, hnm, Option.bind_some, jl_1, show (upI C2 27 3 (nameN d)).1 27 3 = nameN d from rfl]
        by_cases hz : nameN d = -1
        · rw [if_pos hz, if_pos hz, hwd, Option.bind_some, jl_1]
        · rw [if_neg hz, if_neg hz, jl_1]
      rw [hrw] at hcls
      refine ⟨_, m4, hcls, r1, frC_up (frC_up f2 (by decide) _) (by decide) _, r2, ⟨⟨?_, ?_, ?_, ?_, ?_, ?_⟩, ?_, ?_⟩, ?_⟩
      · show C2.1 27 4 = m4.1 0 9
        rw [← hC2, r4]; exact C4
      · show C2.1 27 5 = m4.1 0 8
        rw [← hC2, r3]; rfl
      · show 0 ≤ (C2.1 27 4).toInt
        rw [← hC2, show (upI C 27 5 w).1 27 4 = e from C4]; omega
      · show (C2.1 27 4).toInt ≤ (C2.1 27 5).toInt
        rw [← hC2, show (upI C 27 5 w).1 27 4 = e from C4, show (upI C 27 5 w).1 27 5 = w from rfl]; omega
      · show (C2.1 27 5).toInt ≤ (C2.1 27 1).toInt
        rw [← hC2, show (upI C 27 5 w).1 27 5 = w from rfl, show (upI C 27 5 w).1 27 1 = C.1 27 1 from rfl, C1]; omega
      · intro _
        show (C2.1 27 4).toInt < (C2.1 27 5).toInt
        rw [← hC2, show (upI C 27 5 w).1 27 4 = e from C4, show (upI C 27 5 w).1 27 5 = w from rfl]; omega
      · rw [r5, r6]
        exact tokW_spelt d
      · intro z
        exfalso
        change (if nameN d = -1 then wordN d else 3) = 2 at z
        have := (tokW_spelt d).2.1.mp z
        exact absurd this (by decide)
      · show _ ≤ (C2.1 27 4).toInt
        rw [← hC2, show (upI C 27 5 w).1 27 4 = e from C4]; omega
    · rw [if_neg hl] at hcls
      by_cases hd : F_X4_isDigit b = true
      · rw [if_pos hd] at hcls
        rw [if_pos (show F_X9_isDigit b = true from hd)] at href
        have g2 : frM m (upI (upI M 0 10 1) 0 11 0) := frM_up (frM_up g1 (by decide) _) (by decide) _
        obtain ⟨M2, hM2⟩ : ∃ M2, upI (upI M 0 10 1) 0 11 0 = M2 := ⟨_, rfl⟩
        rw [hM2] at g2 href
        have tT2 : rTape (C.1 27) (C.1 28) (M2.1 0) (M2.1 4) := tape_fr ht f1 g2
        obtain ⟨w, m3, w1, w2, w3, w4, w5, w6, w7⟩ := digits_rel hn tT2 (p := e) (by rw [← hM2]; exact M8) (by rw [← hM2]; rfl) (by omega) (by rw [C1]; omega)
        have g3 : frM m m3 := frM_num g2 w5
        have hwe : e.toInt < w.1.toInt := by
          by_cases z : e.toInt < w.1.toInt
          · exact z
          · exfalso
            obtain ⟨n', rfl⟩ : ∃ n', n = n' + 1 := ⟨n - 1, by omega⟩
            obtain ⟨y, hy⟩ : ∃ y, B_X4_readNumber_7 (n' + 1) C (e, 0) = some (.inl (q, y)) := by
              unfold B_X4_readNumber_7
              dsimp only
              rw [if_neg (fun z => by have := i32_le.mp z; rw [C1] at this; omega), b1, Option.bind_some, if_pos hd, Option.bind_some, hqq]
              exact ⟨_, rfl⟩
            change (B_X4_readNumber_7 (n' + 1) C (e, 0)).bind _ = _ at w1
            rw [hy, Option.bind_some] at w1
            change lp (B_X4_readNumber_7 (n' + 1) C) n' (q, y) = some w at w1
            obtain ⟨w', w1', w2'⟩ := lp_rule (body := B_X4_readNumber_7 (n' + 1) C) (I := fun x k => q.toInt ≤ x.1.toInt ∧ x.1.toInt ≤ (c.1 27 1).toInt ∧ k = (c.1 27 1).toInt.toNat - x.1.toInt.toNat) (Q := fun x => q.toInt ≤ x.1.toInt) (by
              rintro x k ⟨y1, y2, y3⟩
              by_cases hz : C.1 27 1 ≤ x.1
              · exact Or.inl ⟨x, by unfold B_X4_readNumber_7; rw [if_pos hz], y1⟩
              · obtain ⟨bb, bb1, _, _, _⟩ := byte_rel tT (q := x.1) (by omega)
                have hz' : ¬ (C.1 27 1).toInt ≤ x.1.toInt := fun z => hz (i32_le.mpr z)
                rw [C1] at hz'
                have hx1 : (x.1 + 1).toInt = x.1.toInt + 1 := i32_add (by omega) (by omega)
                by_cases hll : F_X4_isDigit bb = true
                · exact Or.inr ⟨(x.1 + 1, _), (c.1 27 1).toInt.toNat - (x.1 + 1).toInt.toNat, by omega, by unfold B_X4_readNumber_7; rw [if_neg hz, bb1, Option.bind_some, if_pos hll, Option.bind_some], by dsimp only; omega, by dsimp only; omega, rfl⟩
                · exact Or.inl ⟨x, by unfold B_X4_readNumber_7; rw [if_neg hz, bb1, Option.bind_some, if_neg hll], y1⟩) ((c.1 27 1).toInt.toNat - q.toInt.toNat) n' (q, y) (by omega) ⟨Int.le_refl _, by dsimp only; omega, rfl⟩
            rw [w1] at w1'
            cases w1'
            omega
        rw [w2, Option.bind_some] at href
        rw [C1] at w7
        have hrn : F_X4_readNumber n C = some (upI (upI (upI C 27 5 w.1) 27 3 w.2) 27 2 2) := by
          unfold F_X4_readNumber
          rw [C4, w1, Option.bind_some, jl_1, jl_1, jl_1]
        rw [hrn] at hcls
        have h9 : m3.1 0 9 = e := by rw [w5.2.1 9 (by decide) (by decide), ← hM2]; exact M9
        have h10 : m3.1 0 10 = 1 := by rw [w5.2.1 10 (by decide) (by decide), ← hM2]; rfl
        refine ⟨_, m3, hcls, href, frC_up (frC_up (frC_up f1 (by decide) _) (by decide) _) (by decide) _, g3, ⟨⟨?_, ?_, ?_, ?_, ?_, ?_⟩, ?_, ?_⟩, ?_⟩
        · show C.1 27 4 = _
          rw [C4, h9]
        · exact w3.symm
        · show 0 ≤ (C.1 27 4).toInt
          rw [C4]; omega
        · show (C.1 27 4).toInt ≤ w.1.toInt
          rw [C4]; omega
        · show w.1.toInt ≤ (C.1 27 1).toInt
          rw [C1]; omega
        · intro _
          show (C.1 27 4).toInt < w.1.toInt
          rw [C4]; omega
        · show tokW 2 w.2 (m3.1 0 10) (m3.2 0 12)
          rw [h10]
          exact tokW_no (by decide) (by decide) (by unfold tokW; decide +kernel)
        · intro _
          exact w4
        · show _ ≤ (C.1 27 4).toInt
          rw [C4]; omega
      · rw [if_neg hd] at hcls
        rw [if_neg (show ¬ F_X9_isDigit b = true from hd), if_neg (show ¬ F_X9_isLetter b = true from hl), M8, hqq] at href
        have g2 : frM m (upI M 0 8 q) := frM_up g1 (by decide) _
        have tT2 : rTape (C.1 27) (C.1 28) ((upI M 0 8 q).1 0) ((upI M 0 8 q).1 4) := tape_fr ht f1 g2
        obtain ⟨c', m', s1, s2, s3, s4, s5, s6, s7, s8, s9, s10, s11⟩ := sign_rel (n := n) tT2 (b := b) (p := e) (q := q) C4 C5 M9 rfl (by omega) (by rw [C1]; omega)
        rw [s1] at hcls
        rw [s2] at href
        rw [C1] at s9
        refine ⟨c', m', hcls, href, ⟨fun k hk => (s3.1 k hk).trans (f1.1 k hk), s3.2.1.trans f1.2.1, s3.2.2.trans f1.2.2⟩, ⟨fun k hk => (s4.1 k hk).trans (g2.1 k hk), fun j y1 y2 y3 y4 => (s4.2.1 j y1 y2 y3 y4).trans (g2.2.1 j y1 y2 y3 y4), fun k hk => (s4.2.2.1 k hk).trans (g2.2.2.1 k hk), fun j hj => (s4.2.2.2 j hj).trans (g2.2.2.2 j hj)⟩, ⟨⟨by rw [s5, s6], s7, by rw [s5]; omega, by rw [s5]; omega, by rw [s3.2.1, C1]; exact s9, fun _ => by rw [s5]; omega⟩, s10, fun z => absurd z s11⟩, by rw [s5]; omega⟩
  · rw [if_neg hb] at hcls href
    have hb' : ¬ (0 : Int32).toInt ≤ b.toInt := fun z => hb (i32_le.mpr z)
    have hel : e.toInt = (c.1 27 1).toInt := by
      by_cases z : e.toInt < (c.1 27 1).toInt
      · have := (b3 z).2.1
        omega
      · omega
    have hqe : q = e := i32_eq.mpr (by rw [hqv, if_neg (by omega), hel])
    refine ⟨_, _, hcls, href, frC_up f1 (by decide) _, frM_up g1 (by decide) _, ⟨⟨?_, ?_, ?_, ?_, ?_, ?_⟩, ?_, ?_⟩, ?_⟩
    · show C.1 27 4 = M.1 0 9
      rw [C4, M9]
    · show C.1 27 5 = M.1 0 8
      rw [C5, M8, hqe]
    · show 0 ≤ (C.1 27 4).toInt
      rw [C4]; omega
    · show (C.1 27 4).toInt ≤ (C.1 27 5).toInt
      rw [C4, C5, hqe]; omega
    · show (C.1 27 5).toInt ≤ (C.1 27 1).toInt
      rw [C5, C1, hqe]; omega
    · intro z
      exact absurd rfl z
    · show tokW 1 (C.1 27 3) 0 (M.2 0 12)
      exact tokW_no (by decide) (by decide) (by unfold tokW; decide +kernel)
    · intro z
      exact absurd (show (1 : Int32) = 2 from z) (by decide)
    · show _ ≤ (C.1 27 4).toInt
      rw [C4]; omega
