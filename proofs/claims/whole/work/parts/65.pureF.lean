/-! a rule does not see the names that it does not look at -/
def same2 (st st2 : Nat → Int32) (k : Nat) : Prop := ∀ i : Nat, i < k → st2 i = st i
theorem same2_upd {st st2 : Nat → Int32} {k k' j : Nat} {x : Int32} (h : same2 st st2 k) (hk : ∀ i : Nat, i < k' → i = j ∨ i < k) : same2 (upd st j x) (upd st2 j x) k' := by
  intro i hi
  by_cases e : i = j
  · rw [upd_eq e, upd_eq e]
  · rw [upd_ne e, upd_ne e]
    rcases hk i hi with q | q
    · exact absurd q e
    · exact h i q
theorem same_step {n t N : Nat} {c c2 s s2 : jS} {h i O V : Int32} {da db da' db' : Nat} (hN : N ≤ 300)
    (hx : (c.1 (2 + 4 * t) 3).toInt = N) (hx2 : ∀ j : Nat, c2.1 (2 + 4 * t) j = c.1 (2 + 4 * t) j) (hw2 : ∀ j : Nat, c2.1 (2 + 4 * t + 1) j = c.1 (2 + 4 * t + 1) j) (htN : t < 4)
    (hnm : ∀ j : Nat, j < 8 → (∃ i : Nat, i < N ∧ c.1 (2 + 4 * t + 1) i = 10000 + Int32.ofNat j) → c2.1 30 j = c.1 30 j)
    (i0 : 0 ≤ i.toInt) (i1 : i.toInt < N) (hst : opStep (c.1 (2 + 4 * t + 1) i.toInt.toNat) O V da db da' db') (hd : da + db ≤ 64)
    (hs : onlyRow 31 c s) (hs2 : onlyRow 31 c2 s2) (hh : h.toInt = db + da) (hk : same2 (s.1 31) (s2.1 31) (db + da)) :
    ∃ h' s' s2', B_X3_holds_T_4 n t (h, i, s) = some (.inl (h', i + 1, s')) ∧ B_X3_holds_T_4 n t (h, i, s2) = some (.inl (h', i + 1, s2')) ∧ onlyRow 31 c s' ∧ onlyRow 31 c2 s2' ∧ h'.toInt = db' + da' ∧ same2 (s'.1 31) (s2'.1 31) (db' + da') := by
  have l300 : (300 : Int32).toInt = 300 := rfl
  have l64 : (64 : Int32).toInt = 64 := rfl
  have l0 : (0 : Int32).toInt = 0 := rfl
  have l1 : (1 : Int32).toInt = 1 := rfl
  have c1 : ¬ s.1 (2 + 4 * t) 3 ≤ i := fun z => by rw [hs.1 _ (by omega)] at z; have := i32_le.mp z; omega
  have c1' : ¬ s2.1 (2 + 4 * t) 3 ≤ i := fun z => by rw [hs2.1 _ (by omega), hx2] at z; have := i32_le.mp z; omega
  have c2' : ¬ 300 ≤ i := fun z => by have := i32_le.mp z; omega
  have c3 : jin i 300 = true := jin_of i0 (by omega)
  have hW : s.1 (2 + 4 * t + 1) (Int32.toNatClampNeg i) = c.1 (2 + 4 * t + 1) i.toInt.toNat := by rw [hs.1 _ (by omega)]; rfl
  have hW2 : s2.1 (2 + 4 * t + 1) (Int32.toNatClampNeg i) = c.1 (2 + 4 * t + 1) i.toInt.toNat := by rw [hs2.1 _ (by omega), hw2]; rfl
  have hnm' : ∀ j : Nat, j < 8 → c.1 (2 + 4 * t + 1) i.toInt.toNat = 10000 + Int32.ofNat j → c2.1 30 j = c.1 30 j := fun j hj e => hnm j hj ⟨_, by omega, e⟩
  generalize c.1 (2 + 4 * t + 1) i.toInt.toNat = W at hW hW2 hst hnm'
  have hs31 : ∀ (j : Nat) (x : Int32), onlyRow 31 c (upI s 31 j x) := fun j x => onlyRow_upI hs j x
  have hs31' : ∀ (j : Nat) (x : Int32), onlyRow 31 c2 (upI s2 31 j x) := fun j x => onlyRow_upI hs2 j x
  have hnz : 1 ≤ db + da → ¬ h ≤ 0 := fun g z => by have := i32_le.mp z; omega
  have hn1 : 2 ≤ db + da → ¬ h ≤ 1 := fun g z => by have := i32_le.mp z; omega
  have h64 : db + da < 64 → ¬ 64 ≤ h := fun g z => by have := i32_le.mp z; omega
  have two : ∀ k : Nat, (k = 11 ∨ k = 12 ∨ (14 ≤ k ∧ k ≤ 23)) → W = -Int32.ofNat k → 2 ≤ db + da → db' + da' + 1 = db + da → (∃ r, F_X3_joined (Int32.ofNat k) (s.1 31 (db + da - 2)) (s.1 31 (db + da - 1)) = some r) → ∃ h' s' s2', B_X3_holds_T_4 n t (h, i, s) = some (.inl (h', i + 1, s')) ∧ B_X3_holds_T_4 n t (h, i, s2) = some (.inl (h', i + 1, s2')) ∧ onlyRow 31 c s' ∧ onlyRow 31 c2 s2' ∧ h'.toInt = db' + da' ∧ same2 (s'.1 31) (s2'.1 31) (db' + da') := by
    rintro k hk1 hw g2 g3 ⟨r, hr⟩
    have Rr := dec2 (n := 64) (z := db + da) (x := h) (by omega) (by omega) (by omega) (by omega)
    refine ⟨h + -1, _, _, cls_two (r := r) c1 c2' c3 hW hw hk1 (hn1 g2) Rr.2.2.2.2 Rr.2.2.2.1 (by rw [Rr.2.1, Rr.2.2.1]; exact hr), cls_two (r := r) c1' c2' c3 hW2 hw hk1 (hn1 g2) Rr.2.2.2.2 Rr.2.2.2.1 (by rw [Rr.2.1, Rr.2.2.1, hk _ (by omega), hk _ (by omega)]; exact hr), hs31 _ _, hs31' _ _, Rr.1.trans (by omega), ?_⟩
    rw [Rr.2.2.1]
    exact same2_upd hk (fun i hi => by omega)
  have tot : ∀ (k : Nat) (x y : Int32), (k = 11 ∨ k = 12 ∨ (14 ≤ k ∧ k ≤ 23)) → ∃ r, F_X3_joined (Int32.ofNat k) x y = some r := by
    intro k x y hk
    have cl : ∀ v : Int64, ∃ r, J_X3_joined_178 v = some r := fun v => (clip_eq v).imp fun r hr => hr.1
    have as : ∀ o : Nat, 10 ≤ o → o ≤ 15 → ∃ r, F_X3_joined (Int32.ofNat (o + 4)) x y = some r := fun o a b => ⟨_, ask_eq a b⟩
    have : k = 11 ∨ k = 12 ∨ (14 ≤ k ∧ k ≤ 19) ∨ k = 20 ∨ k = 21 ∨ k = 22 ∨ k = 23 := by omega
    rcases this with rfl | rfl | hk2 | rfl | rfl | rfl | rfl
    · exact ⟨_, rfl⟩
    · exact ⟨_, rfl⟩
    · have := as (k - 4) (by omega) (by omega)
      rw [show k - 4 + 4 = k from by omega] at this
      exact this
    · exact cl _
    · exact cl _
    · exact cl _
    · show ∃ r, J_X3_joined_165 x y = some r
      unfold J_X3_joined_165
      by_cases z : y = 0
      · rw [if_pos z]; exact cl _
      · rw [if_neg z, if_pos z]; exact cl _
  rcases hst with ⟨_, hw, v0, v1, qa, qb, hlt⟩ | ⟨_, hw, v0, v1, qa, qb, hlt⟩ | ⟨_, hw, g1, qa, qb⟩ | ⟨k, k1, k2, _, hw, g1, g2, qb⟩ | ⟨k, k1, k2, _, hw, ga, qa, qb⟩ | ⟨_, hw, ga, g1, qa, qb⟩ | ⟨_, hw, ga, g1, qa, g2⟩ | ⟨_, hw, ga, g1, qa, g2⟩
  · rw [← hw] at v0 v1
    have Rr := inc (n := 64) (z := db + da) (x := h) (by omega) (by omega) (by omega)
    refine ⟨h + 1, _, _, cls_num c1 c2' c3 hW v0 v1 (h64 (by omega)) Rr.2.2, cls_num c1' c2' c3 hW2 v0 v1 (h64 (by omega)) Rr.2.2, hs31 _ _, hs31' _ _, Rr.1.trans (by omega), ?_⟩
    rw [Rr.2.1]
    exact same2_upd hk (fun i hi => by omega)
  · have Rr := inc (n := 64) (z := db + da) (x := h) (by omega) (by omega) (by omega)
    refine ⟨h + 1, _, _, cls_name c1 c2' c3 hW hw v0 v1 (h64 (by omega)) Rr.2.2, cls_name c1' c2' c3 hW2 hw v0 v1 (h64 (by omega)) Rr.2.2, hs31 _ _, hs31' _ _, Rr.1.trans (by omega), ?_⟩
    have hv := hnm' V.toNatClampNeg (by rw [i32_nat]; omega) (by rw [hw]; exact congrArg (fun z => 10000 + z) (i32_of v0))
    rw [Rr.2.1, hs.1 30 (by decide), hs2.1 30 (by decide), hv]
    exact same2_upd hk (fun i hi => by omega)
  · have Rr := dec1 (n := 64) (z := db + da) (x := h) (by omega) (by omega) (by omega) (by omega)
    refine ⟨h, _, _, cls_neg c1 c2' c3 hW hw (hnz (by omega)) Rr.2, cls_neg c1' c2' c3 hW2 hw (hnz (by omega)) Rr.2, hs31 _ _, hs31' _ _, hh.trans (by omega), ?_⟩
    rw [Rr.1, hk _ (by omega)]
    exact same2_upd hk (fun i hi => by omega)
  · exact two (17 + k) (by omega) hw (by omega) (by omega) (tot _ _ _ (by omega))
  · exact two (k + 4) (by omega) hw (by omega) (by omega) (tot _ _ _ (by omega))
  · have Rr := dec1 (n := 64) (z := db + da) (x := h) (by omega) (by omega) (by omega) (by omega)
    refine ⟨h, _, _, cls_not c1 c2' c3 hW hw (hnz (by omega)) Rr.2, cls_not c1' c2' c3 hW2 hw (hnz (by omega)) Rr.2, hs31 _ _, hs31' _ _, hh.trans (by omega), ?_⟩
    rw [Rr.1, hk _ (by omega)]
    exact same2_upd hk (fun i hi => by omega)
  · exact two 12 (by omega) hw (by omega) (by omega) (tot _ _ _ (by omega))
  · exact two 11 (by omega) hw (by omega) (by omega) (tot _ _ _ (by omega))
theorem same_run {n t N : Nat} {c c2 : jS} {z3 : Nat → Int32} {base : Nat} (hn : 400000 ≤ n) (hN : N ≤ 300)
    (hx : (c.1 (2 + 4 * t) 3).toInt = N) (hx2 : ∀ j : Nat, c2.1 (2 + 4 * t) j = c.1 (2 + 4 * t) j) (hw2 : ∀ j : Nat, c2.1 (2 + 4 * t + 1) j = c.1 (2 + 4 * t + 1) j) (htN : t < 4)
    (hnm : ∀ j : Nat, j < 8 → (∃ i : Nat, i < N ∧ c.1 (2 + 4 * t + 1) i = 10000 + Int32.ofNat j) → c2.1 30 j = c.1 30 j) (hcode : isCode (c.1 (2 + 4 * t + 1)) z3 base N) :
    ∃ r c' c2', F_X3_holds_T n t c = some (r, c') ∧ F_X3_holds_T n t c2 = some (r, c2') ∧ onlyRow 31 c c' ∧ onlyRow 31 c2 c2' := by
  obtain ⟨D, d0, dN, hD⟩ := hcode
  have l0 : (0 : Int32).toInt = 0 := rfl
  have l1 : (1 : Int32).toInt = 1 := rfl
  obtain ⟨e, f, he, hf, q1, q2, q3, q4, q5⟩ := lp_rule2 (body := B_X3_holds_T_4 n t) (body' := B_X3_holds_T_4 n t)
    (I := fun x y k => x.1 = y.1 ∧ x.2.1 = y.2.1 ∧ 0 ≤ x.2.1.toInt ∧ x.2.1.toInt ≤ N ∧ k = N - x.2.1.toInt.toNat ∧ onlyRow 31 c x.2.2 ∧ onlyRow 31 c2 y.2.2 ∧ x.1.toInt = (D x.2.1.toInt.toNat).2 + (D x.2.1.toInt.toNat).1 ∧ same2 (x.2.2.1 31) (y.2.2.1 31) ((D x.2.1.toInt.toNat).2 + (D x.2.1.toInt.toNat).1))
    (Q := fun e f => e.1 = f.1 ∧ e.1.toInt = 1 ∧ onlyRow 31 c e.2.2 ∧ onlyRow 31 c2 f.2.2 ∧ f.2.2.1 31 0 = e.2.2.1 31 0) (by
    rintro ⟨h, i, s⟩ ⟨h', i', s2⟩ k ⟨g0, g1, g2, g3, g4, g5, g6, g7, g8⟩
    simp only at g0 g1 g2 g3 g4 g5 g6 g7 g8
    subst g0
    subst g1
    by_cases hc : s.1 (2 + 4 * t) 3 ≤ i
    · left
      have hc' := i32_le.mp hc
      rw [g5.1 _ (by omega), hx] at hc'
      have hi : i.toInt.toNat = N := by omega
      rw [hi, dN] at g7 g8
      refine ⟨(h, i, s), (h, i, s2), ?_, ?_, rfl, ?_, g5, g6, g8 0 (by decide)⟩
      · unfold B_X3_holds_T_4
        dsimp only
        rw [if_pos hc]
      · unfold B_X3_holds_T_4
        dsimp only
        rw [if_pos (by rw [g6.1 _ (by omega), hx2, ← g5.1 _ (by omega)]; exact hc)]
      · show h.toInt = 1
        omega
    · right
      have hc' : ¬ (s.1 (2 + 4 * t) 3).toInt ≤ i.toInt := fun z => hc (i32_le.mpr z)
      rw [g5.1 _ (by omega), hx] at hc'
      obtain ⟨q1, q2⟩ := hD i.toInt.toNat (by omega)
      obtain ⟨h', s', s2', k1, k2, k3, k4, k5, k6⟩ := same_step (n := n) hN hx hx2 hw2 htN hnm g2 (by omega) q2 q1 g5 g6 g7 g8
      have ei : (i + 1).toInt = i.toInt + 1 := i32_add (by omega) (by omega)
      have ei2 : (i + 1).toInt.toNat = i.toInt.toNat + 1 := by omega
      refine ⟨(h', i + 1, s'), (h', i + 1, s2'), N - (i.toInt.toNat + 1), by omega, k1, k2, ?_⟩
      dsimp only
      rw [ei2]
      exact ⟨rfl, rfl, by omega, by omega, rfl, k3, k4, k5, k6⟩) N n (0, 0, c) (0, 0, c2) (by omega) (by
    have z : (0 : Int32).toInt.toNat = 0 := rfl
    dsimp only
    rw [z, d0]
    exact ⟨rfl, rfl, by decide, by rw [l0]; omega, by omega, onlyRow_rfl, onlyRow_rfl, rfl, fun i hi => absurd hi (by omega)⟩)
  have h1 : ¬ e.1 ≤ 0 := fun z => by have := i32_le.mp z; omega
  refine ⟨decide (e.2.2.1 31 0 = 1), e.2.2, f.2.2, ?_, ?_, q3, q4⟩
  · unfold F_X3_holds_T
    rw [he, Option.bind_some, if_neg h1]
    by_cases z : e.2.2.1 31 (Int32.toNatClampNeg 0) = 1
    · rw [if_pos z, decide_eq_true (show e.2.2.1 31 0 = 1 from z)]
    · rw [if_neg z, decide_eq_false (show ¬ e.2.2.1 31 0 = 1 from z)]
  · unfold F_X3_holds_T
    rw [hf, Option.bind_some, ← q1, if_neg h1, show f.2.2.1 31 (Int32.toNatClampNeg 0) = e.2.2.1 31 0 from q5]
    by_cases z : e.2.2.1 31 0 = 1
    · rw [if_pos z, decide_eq_true z]
    · rw [if_neg z, decide_eq_false z]
