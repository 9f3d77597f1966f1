/-- the reference's digest of the first k letters from p on -/
def dg (z4 : Nat → Int32) (p : Nat) : Nat → Int64
  | 0 => 0
  | k + 1 => ((dg z4 p k) <<< ((8 : Int32).toInt64 &&& 63)) ||| Int32.toInt64 (z4 (p + k))
/-- only the place and the digest move -/
def onlyWord (m m' : jS) : Prop := (∀ k : Nat, ¬ k = 0 → m'.1 k = m.1 k) ∧ (∀ j : Nat, ¬ j = 8 → m'.1 0 j = m.1 0 j) ∧ (∀ k : Nat, ¬ k = 0 → m'.2 k = m.2 k) ∧ ∀ j : Nat, ¬ j = 12 → m'.2 0 j = m.2 0 j
theorem onlyWord_rfl {m : jS} : onlyWord m m := ⟨fun _ _ => rfl, fun _ _ => rfl, fun _ _ => rfl, fun _ _ => rfl⟩
theorem onlyWord_8 {m m' : jS} (h : onlyWord m m') (x : Int32) : onlyWord m (upI m' 0 8 x) := by
  refine ⟨fun k hk => ?_, fun j hj => ?_, h.2.2.1, h.2.2.2⟩
  · rw [upI_1, if_neg hk]; exact h.1 k hk
  · show upd (m'.1 0) 8 x j = _
    rw [upd_ne hj]; exact h.2.1 j hj
theorem onlyWord_12 {m m' : jS} (h : onlyWord m m') (x : Int64) : onlyWord m (upL m' 0 12 x) := by
  refine ⟨h.1, h.2.1, fun k hk => ?_, fun j hj => ?_⟩
  · rw [upL_2, if_neg hk]; exact h.2.2.1 k hk
  · show vp_updL (m'.2 0) 12 x j = _
    rw [vupd_ne hj]; exact h.2.2.2 j hj
theorem tape_word {c m m' : jS} (ht : rTape (c.1 27) (c.1 28) (m.1 0) (m.1 4)) (h : onlyWord m m') : rTape (c.1 27) (c.1 28) (m'.1 0) (m'.1 4) := by
  obtain ⟨t1, t2, t3⟩ := ht
  refine ⟨t1.trans (h.2.1 5 (by decide)).symm, t2, ?_⟩
  rw [h.1 4 (by decide)]
  exact t3
theorem letters_rel {n : Nat} (hn : 400000 ≤ n) {c m : jS} (ht : rTape (c.1 27) (c.1 28) (m.1 0) (m.1 4)) {p : Int32} (hp : m.1 0 8 = p) (hs : m.1 0 9 = p) (hz : m.2 0 12 = 0) (h0 : 0 ≤ p.toInt) (h1 : p.toInt ≤ (c.1 27 1).toInt) :
    ∃ e m', lp (B_X4_readWord_5 n c) n p = some e ∧ lp (B_X9_nextToken_161 n) n m = some m' ∧ m'.1 0 8 = e ∧ m'.2 0 12 = dg (m.1 4) p.toInt.toNat (min 7 (e.toInt.toNat - p.toInt.toNat)) ∧ onlyWord m m' ∧ p.toInt ≤ e.toInt ∧ e.toInt ≤ (c.1 27 1).toInt := by
  have hb := ht.2.1
  have l1 : (1 : Int32).toInt = 1 := rfl
  have l7 : (7 : Int32).toInt = 7 := rfl
  obtain ⟨e, f, he, hf, hq⟩ := lp_rule2 (body := B_X4_readWord_5 n c) (body' := B_X9_nextToken_161 n)
    (I := fun q y k => y.1 0 8 = q ∧ y.2 0 12 = dg (m.1 4) p.toInt.toNat (min 7 (q.toInt.toNat - p.toInt.toNat)) ∧ onlyWord m y ∧ p.toInt ≤ q.toInt ∧ q.toInt ≤ (c.1 27 1).toInt ∧ k = (c.1 27 1).toInt.toNat - q.toInt.toNat)
    (Q := fun e f => f.1 0 8 = e ∧ f.2 0 12 = dg (m.1 4) p.toInt.toNat (min 7 (e.toInt.toNat - p.toInt.toNat)) ∧ onlyWord m f ∧ p.toInt ≤ e.toInt ∧ e.toInt ≤ (c.1 27 1).toInt) (by
    rintro q y k ⟨g1, gd, g2, g3, g4, g5⟩
    obtain ⟨b, b1, b2, b3, b4⟩ := byte_rel (tape_word ht g2) (q := q) (by omega)
    have hst : y.1 0 9 = p := (g2.2.1 9 (by decide)).trans hs
    by_cases hl : F_X4_isLetter b = true
    · have hc : ¬ c.1 27 1 ≤ q := fun z => by
        have hbm := b4 (i32_le.mp z)
        rw [hbm] at hl
        exact absurd hl (by decide)
      have hc' : ¬ (c.1 27 1).toInt ≤ q.toInt := fun z => hc (i32_le.mpr z)
      have hbz : b = m.1 4 q.toInt.toNat := by rw [(b3 (by omega)).1, g2.1 4 (by decide)]
      have hq1 : (q + 1).toInt = q.toInt + 1 := i32_add (by omega) (by omega)
      obtain ⟨q1, hq⟩ : ∃ q1, q + 1 = q1 := ⟨_, rfl⟩
      rw [hq] at hq1
      have hqp : (q - p).toInt = q.toInt - p.toInt := i32_sub (by omega) (by omega)
      obtain ⟨w, hw⟩ : ∃ w, q - p = w := ⟨_, rfl⟩
      rw [hw] at hqp
      have hcls : B_X4_readWord_5 n c q = some (.inl q1) := by
        unfold B_X4_readWord_5
        rw [if_neg hc, b1, Option.bind_some, if_pos hl, hq]
      right
      by_cases h7 : 7 ≤ w
      · have h7' := i32_le.mp h7
        refine ⟨q1, upI y 0 8 q1, (c.1 27 1).toInt.toNat - q1.toInt.toNat, by omega, hcls, ?_, rfl, ?_, onlyWord_8 g2 q1, by omega, by omega, rfl⟩
        · unfold B_X9_nextToken_161
          rw [g1, b2, Option.bind_some, if_pos (show F_X9_isLetter b = true from hl), hst, hw, if_pos h7, hq, jl_1]
        · show y.2 0 12 = _
          rw [gd, show min 7 (q1.toInt.toNat - p.toInt.toNat) = min 7 (q.toInt.toNat - p.toInt.toNat) from by omega]
      · have h7' : ¬ (7 : Int32).toInt ≤ w.toInt := fun z => h7 (i32_le.mpr z)
        refine ⟨q1, upI (upL y 0 12 (((y.2 0 12) <<< ((8 : Int32).toInt64 &&& 63)) ||| (Int32.toInt64 b))) 0 8 q1, (c.1 27 1).toInt.toNat - q1.toInt.toNat, by omega, hcls, ?_, rfl, ?_, onlyWord_8 (onlyWord_12 g2 _) q1, by omega, by omega, rfl⟩
        · unfold B_X9_nextToken_161
          rw [g1, b2, Option.bind_some, if_pos (show F_X9_isLetter b = true from hl), hst, hw, if_neg h7, Option.bind_some, jl_1, jl_1, upL_1, g1, hq]
        · show ((y.2 0 12) <<< ((8 : Int32).toInt64 &&& 63)) ||| (Int32.toInt64 b) = _
          rw [show min 7 (q1.toInt.toNat - p.toInt.toNat) = (q.toInt.toNat - p.toInt.toNat) + 1 from by omega, gd, show min 7 (q.toInt.toNat - p.toInt.toNat) = q.toInt.toNat - p.toInt.toNat from by omega, hbz]
          show _ = ((dg (m.1 4) p.toInt.toNat (q.toInt.toNat - p.toInt.toNat)) <<< ((8 : Int32).toInt64 &&& 63)) ||| Int32.toInt64 (m.1 4 (p.toInt.toNat + (q.toInt.toNat - p.toInt.toNat)))
          rw [show p.toInt.toNat + (q.toInt.toNat - p.toInt.toNat) = q.toInt.toNat from by omega]
    · left
      refine ⟨q, y, ?_, ?_, g1, gd, g2, g3, g4⟩
      · unfold B_X4_readWord_5
        by_cases hc : c.1 27 1 ≤ q
        · rw [if_pos hc]
        · rw [if_neg hc, b1, Option.bind_some, if_neg hl]
      · unfold B_X9_nextToken_161
        rw [g1, b2, Option.bind_some, if_neg (show ¬ F_X9_isLetter b = true from hl)]) ((c.1 27 1).toInt.toNat - p.toInt.toNat) n p m (by omega) ⟨hp, by rw [hz, Nat.sub_self]; rfl, onlyWord_rfl, Int.le_refl _, h1, rfl⟩
  exact ⟨e, f, he, hf, hq⟩
