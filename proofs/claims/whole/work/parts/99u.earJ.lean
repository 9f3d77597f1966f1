/-! the reference's rounds -/
section
variable {n : Nat} {V : oV} {told : Int32} {nd : Nat} {a z3 gu : Nat → Int32} {cnt : Nat}
theorem innerM (hn : 400000 ≤ n) (hnd : nd ≤ 8) {ρ : Nat → Int32} {m : jS} (hm : gsR n V told nd a z3 gu cnt ρ m) (h0 : (a 0) = told) (ht0 : 0 ≤ told.toInt) {v1 v2 : Int32} :
    ∃ e, lp (B_X9_rounds_33 n v1 v2) n (false, 0, m) = some e ∧ e.1 = (rdI (eE V a gu nd cnt) told.toInt.toNat ρ nd).2 ∧ wkM m e.2.2 ∧ gsR n V told nd a z3 gu cnt (rdI (eE V a gu nd cnt) told.toInt.toNat ρ nd).1 e.2.2 := by
  have l0 : (0 : Int32).toInt = 0 := rfl
  have l1 : (1 : Int32).toInt = 1 := rfl
  have h4 := hm.2.2.2.2.2.2.2.2.2.1
  have hndI : (Int32.ofNat nd).toInt = nd := ofNat_int (by omega)
  obtain ⟨tn, htn⟩ : ∃ tn : Nat, told.toInt = tn := ⟨told.toInt.toNat, by omega⟩
  have htn2 : told.toInt.toNat = tn := by omega
  have hrr : inR told ρ := fun d hd => (hm.2.2.2.2.2.2.2.2.1 d hd).2
  rw [htn2]
  obtain ⟨e, he, q1, q2, q3⟩ := lp_rule (body := B_X9_rounds_33 n v1 v2)
    (I := fun q k => ∃ j : Nat, k = nd - j ∧ j ≤ nd ∧ q.2.1 = Int32.ofNat j ∧ q.1 = (rdI (eE V a gu nd cnt) tn ρ j).2 ∧ wkM m q.2.2 ∧ gsR n V told nd a z3 gu cnt (rdI (eE V a gu nd cnt) tn ρ j).1 q.2.2)
    (Q := fun e => e.1 = (rdI (eE V a gu nd cnt) tn ρ nd).2 ∧ wkM m e.2.2 ∧ gsR n V told nd a z3 gu cnt (rdI (eE V a gu nd cnt) tn ρ nd).1 e.2.2) (by
    rintro ⟨ch, jI, s1⟩ k ⟨j, g0, g1, g2, g3, g4, g5⟩
    simp only at g2 g3 g4 g5
    subst g2
    have hjI : (Int32.ofNat j).toInt = j := ofNat_int (by omega)
    have f02 : s1.1 0 2 = Int32.ofNat nd := g5.2.2.2.1
    by_cases hj : j = nd
    · left
      subst hj
      refine ⟨(ch, Int32.ofNat j, s1), ?_, g3, g4, g5⟩
      unfold B_X9_rounds_33
      dsimp only
      rw [f02, if_pos (i32_le.mpr (Int.le_refl _))]
    · right
      have hlt : j < nd := by omega
      have hnl : ¬ (Int32.ofNat nd) ≤ Int32.ofNat j := fun z => by have := i32_le.mp z; omega
      have jj : jin (Int32.ofNat j) 8 = true := jin_val hjI (by omega)
      have nj : (Int32.ofNat j).toNatClampNeg = j := nat_val hjI
      have hnext : Int32.ofNat j + 1 = Int32.ofNat (j + 1) := i32_eq.mpr (by rw [i32_add (by omega) (by omega), ofNat_int (by omega), ofNat_int (by omega)]; omega)
      obtain ⟨s2, w1, w2, w3⟩ := bestM_is hn hnd g5 h0 ht0 hjI hlt
      rw [htn2] at w1
      have f10 : s2.1 10 j = (rdI (eE V a gu nd cnt) tn ρ j).1 j := (w3.2.2.2.2.2.2.2.2.1 j (by omega)).1
      have hrj := rd_rng (E := eE V a gu nd cnt) htn (by omega) hrr j (by omega)
      have hb := best_rng (E := eE V a gu nd cnt) (v := j) (by omega) hrj htn (by omega)
      have hg := gs_set w3 (v := j) (r := bestF (eE V a gu nd cnt) tn (rdI (eE V a gu nd cnt) tn ρ j).1 j) hb.1 hb.2
      have hrd : rdI (eE V a gu nd cnt) tn ρ (j + 1) = (upd (rdI (eE V a gu nd cnt) tn ρ j).1 j (bestF (eE V a gu nd cnt) tn (rdI (eE V a gu nd cnt) tn ρ j).1 j), (rdI (eE V a gu nd cnt) tn ρ j).2 || decide (¬ bestF (eE V a gu nd cnt) tn (rdI (eE V a gu nd cnt) tn ρ j).1 j = (rdI (eE V a gu nd cnt) tn ρ j).1 j)) := rfl
      obtain ⟨b, hbe⟩ : ∃ b, bestF (eE V a gu nd cnt) tn (rdI (eE V a gu nd cnt) tn ρ j).1 j = b := ⟨_, rfl⟩
      rw [hbe] at w1 hg hrd
      have h66 : J_X9_rounds_66 n v1 v2 (Int32.ofNat j) b s2 = some (.inl (true, Int32.ofNat (j + 1), upI s2 10 j b)) := by
        unfold J_X9_rounds_66
        rw [if_pos jj, jl_1, nj, hnext]
      have hM : B_X9_rounds_33 n v1 v2 (ch, Int32.ofNat j, s1) = some (.inl ((ch || decide (¬ b = (rdI (eE V a gu nd cnt) tn ρ j).1 j)), Int32.ofNat (j + 1), upI s2 10 j b)) := by
        unfold B_X9_rounds_33
        dsimp only
        rw [f02, if_neg hnl, w1, Option.bind_some, h66]
        cases ch with
        | true => rw [if_pos rfl]; rfl
        | false =>
          rw [if_neg (fun z => by cases z), if_pos jj, nj, f10]
          by_cases z : b = (rdI (eE V a gu nd cnt) tn ρ j).1 j
          · rw [if_pos z, jl_1, hnext, decide_eq_false (fun y => y z)]
            rfl
          · rw [if_neg z, decide_eq_true z]
            rfl
      refine ⟨_, nd - (j + 1), by omega, hM, j + 1, rfl, by omega, rfl, ?_, wkM_tr g4 (wkM_tr w2 (wkM_10 _ _)), ?_⟩
      · show (ch || decide (¬ b = (rdI (eE V a gu nd cnt) tn ρ j).1 j)) = (rdI (eE V a gu nd cnt) tn ρ (j + 1)).2
        rw [hrd, g3]
      · show gsR n V told nd a z3 gu cnt (rdI (eE V a gu nd cnt) tn ρ (j + 1)).1 (upI s2 10 j b)
        rw [hrd]
        exact hg) nd n (false, 0, m) (by omega) ⟨0, rfl, by omega, rfl, rfl, wkM_rfl, hm⟩
  exact ⟨e, he, q1, q2, q3⟩
theorem roundsM_is (hn : 400000 ≤ n) (hnd : nd ≤ 8) {ρ : Nat → Int32} {m : jS} (hm : gsR n V told nd a z3 gu cnt ρ m) (h0 : (a 0) = told) (ht0 : 0 ≤ told.toInt) {v1 : Int32} :
    ∃ e s, lp (B_X9_rounds_22 n v1) n (0, m) = some e ∧ wkM m s ∧
      ((∃ i : Nat, i ≤ 20 ∧ stbF (eE V a gu nd cnt) told.toInt.toNat nd ρ i ∧ (∀ j : Nat, j < i → ¬ stbF (eE V a gu nd cnt) told.toInt.toNat nd ρ j) ∧ e = .inl (Int32.ofNat i, s) ∧ ∀ d : Nat, d < 8 → s.1 10 d = seqF (eE V a gu nd cnt) told.toInt.toNat nd ρ i d) ∨ ((∀ i : Nat, i ≤ 20 → ¬ stbF (eE V a gu nd cnt) told.toInt.toNat nd ρ i) ∧ e = .inr (-2, s))) := by
  have l20 : (20 : Int32).toInt = 20 := rfl
  have l1 : (1 : Int32).toInt = 1 := rfl
  obtain ⟨e, he, s, q1, q2⟩ := lp_rule (body := B_X9_rounds_22 n v1)
    (I := fun q k => ∃ i : Nat, k = 21 - i ∧ i ≤ 21 ∧ q.1 = Int32.ofNat i ∧ (∀ j : Nat, j < i → ¬ stbF (eE V a gu nd cnt) told.toInt.toNat nd ρ j) ∧ wkM m q.2 ∧ gsR n V told nd a z3 gu cnt (seqF (eE V a gu nd cnt) told.toInt.toNat nd ρ i) q.2)
    (Q := fun e => ∃ s, wkM m s ∧ ((∃ i : Nat, i ≤ 20 ∧ stbF (eE V a gu nd cnt) told.toInt.toNat nd ρ i ∧ (∀ j : Nat, j < i → ¬ stbF (eE V a gu nd cnt) told.toInt.toNat nd ρ j) ∧ e = .inl (Int32.ofNat i, s) ∧ ∀ d : Nat, d < 8 → s.1 10 d = seqF (eE V a gu nd cnt) told.toInt.toNat nd ρ i d) ∨ ((∀ i : Nat, i ≤ 20 → ¬ stbF (eE V a gu nd cnt) told.toInt.toNat nd ρ i) ∧ e = .inr (-2, s)))) (by
    rintro ⟨iI, s1⟩ k ⟨i, g0, g1, g2, g3, g4, g5⟩
    simp only at g2 g4 g5
    subst g2
    have hiI : (Int32.ofNat i).toInt = i := ofNat_int (by omega)
    by_cases c1 : (20 : Int32) < Int32.ofNat i
    · left
      have c1' := i32_lt.mp c1
      refine ⟨.inr (-2, s1), ?_, s1, g4, Or.inr ⟨fun j hj => g3 j (by omega), rfl⟩⟩
      unfold B_X9_rounds_22
      dsimp only
      rw [if_pos c1]
    · have c1' : ¬ (20 : Int32).toInt < (Int32.ofNat i).toInt := fun z => c1 (i32_lt.mpr z)
      have hnext : Int32.ofNat i + 1 = Int32.ofNat (i + 1) := i32_eq.mpr (by rw [i32_add (by omega) (by omega), ofNat_int (by omega), ofNat_int (by omega)]; omega)
      obtain ⟨e, w1, w2, w3, w4⟩ := innerM hn hnd g5 h0 ht0 (v1 := v1) (v2 := Int32.ofNat i)
      have hB : B_X9_rounds_22 n v1 (Int32.ofNat i, s1) = (if e.1 = true then some (.inl (Int32.ofNat (i + 1), e.2.2)) else some (.inr (.inl (Int32.ofNat i, e.2.2)))) := by
        unfold B_X9_rounds_22
        dsimp only
        rw [if_neg c1, w1, Option.bind_some, hnext]
      by_cases z : e.1 = true
      · right
        refine ⟨(Int32.ofNat (i + 1), e.2.2), 21 - (i + 1), by omega, by rw [hB, if_pos z], i + 1, rfl, by omega, rfl, fun j hj => ?_, wkM_tr g4 w3, w4⟩
        by_cases y : j = i
        · subst y
          unfold stbF
          rw [← w2, z]
          exact fun q => by cases q
        · exact g3 j (by omega)
      · left
        have hst : stbF (eE V a gu nd cnt) told.toInt.toNat nd ρ i := by
          unfold stbF
          rw [← w2]
          cases q : e.1 with
          | false => rfl
          | true => exact absurd q z
        rw [rd_same nd hst] at w4
        exact ⟨.inl (Int32.ofNat i, e.2.2), by rw [hB, if_neg z], e.2.2, wkM_tr g4 w3, Or.inl ⟨i, by omega, hst, g3, rfl, fun d hd => (w4.2.2.2.2.2.2.2.2.1 d hd).1⟩⟩) 21 n (0, m) (by omega) ⟨0, rfl, by omega, rfl, fun j hj => absurd hj (Nat.not_lt_zero j), wkM_rfl, hm⟩
  exact ⟨e, s, he, q1, q2⟩
end
