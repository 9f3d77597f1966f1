/-! cheapest and soonest of the reference -/
section
variable {n : Nat} {V : oV} {told : Int32} {nd : Nat} {a z3 : Nat → Int32} {v l H : Nat} {ky : Int32} {ρ : Nat → Int32} {lo hi : Nat}
/-- there is a way that the purse bears -/
def aff (L : Nat → Nat → Nat → Nat → Nat) (nd : Nat) (ex : Bool) (N P : Nat) : Prop := vX L nd ex N 0 0 0 < 1000000 ∧ vX L nd ex N 0 0 0 / 100 ≤ P
/-- the way that the reference tells -/
def toldM (L : Nat → Nat → Nat → Nat → Nat) (nd : Nat) (ex : Bool) (N : Nat) (m : jS) : Prop := (m.1 0 31).toInt = ((vX L nd ex N 0 0 0 % 100 : Nat) : Int) ∧ ∀ i : Nat, i < vX L nd ex N 0 0 0 % 100 → (m.1 13 i).toInt = (actX L nd ex N i : Nat) ∧ (m.1 14 i).toInt = ((posX L nd ex N i).1 : Nat)
theorem cheapestM_is (hn : 400000 ≤ n) {m : jS} (hG : goerR n V told nd a z3 v l H ky ρ lo hi m) {v1 v2 : Int32} {N P : Nat} (e1 : v1.toInt = v) (e2 : v2.toInt = N) (hnd : nd ≤ 8) (hN : N ≤ 48) (hP : (m.1 9 (4 * v + 3)).toInt = P) :
    ∃ x m', F_X9_cheapest n v1 v2 m = some (x, m') ∧ oM m m' ∧ goerR n V told nd a z3 v l H ky ρ lo hi m' ∧
      ((aff (sL V (freeB a ky) ρ l H) nd false N P ∧ x.toInt = (vX (sL V (freeB a ky) ρ l H) nd false N 0 0 0 : Nat) ∧ toldM (sL V (freeB a ky) ρ l H) nd false N m') ∨ (¬ aff (sL V (freeB a ky) ρ l H) nd false N P ∧ x = 1000000)) := by
  obtain ⟨x, m1, a1, a2, a3, a4, a5⟩ := reckon_is hn hG (ex := false) e1 e2 hnd hN
  have lM : (1000000 : Int32).toInt = 1000000 := rfl
  have hM := vX_M (L := sL V (freeB a ky) ρ l H) (D := nd) false N 0 0 0
  obtain ⟨x3, x3e, x3j, x3n⟩ := v4_i32 e1 (by have := hG.2.2.2.2.1; omega) 3 3 rfl (by omega)
  have m19 : m1.1 9 = m.1 9 := a4.1 9 (by decide) (by decide) (by decide) (by decide)
  by_cases hx : x = 1000000
  · refine ⟨1000000, m1, ?_, oM_t a4, a5, Or.inr ⟨fun z => ?_, rfl⟩⟩
    · unfold F_X9_cheapest
      rw [a1, Option.bind_some, if_pos hx]
    · have := z.1
      rw [hx, lM] at a2
      omega
  · have hlt : vX (sL V (freeB a ky) ρ l H) nd false N 0 0 0 < 1000000 := by
      by_cases z : vX (sL V (freeB a ky) ρ l H) nd false N 0 0 0 < 1000000
      · exact z
      · exact absurd (i32_eq.mpr (by omega)) hx
    have hdiv : (x / 100).toInt = ((vX (sL V (freeB a ky) ρ l H) nd false N 0 0 0 / 100 : Nat) : Int) := by rw [i32_div (n := 100) rfl (by omega) (by omega), a2]; omega
    by_cases hp : x / 100 ≤ m.1 9 (4 * v + 3)
    · have hp' := i32_le.mp hp
      obtain ⟨m', b1, b2, b3, b4, b5⟩ := follow_is hn a5 (ex := false) e1 hnd hN a3 hlt
      refine ⟨x, m', ?_, oM_tr (oM_t a4) b4, b5, Or.inl ⟨⟨hlt, by omega⟩, a2, b2, b3⟩⟩
      unfold F_X9_cheapest
      rw [a1, Option.bind_some, if_neg hx, x3e, if_pos x3j, x3n, m19, if_pos hp, b1, Option.bind_some]
    · have hp' : ¬ (x / 100).toInt ≤ (m.1 9 (4 * v + 3)).toInt := fun z => hp (i32_le.mpr z)
      refine ⟨1000000, m1, ?_, oM_t a4, a5, Or.inr ⟨fun z => ?_, rfl⟩⟩
      · unfold F_X9_cheapest
        rw [a1, Option.bind_some, if_neg hx, x3e, if_pos x3j, x3n, m19, if_neg hp]
      · have := z.2
        omega
theorem soonestM_is (hn : 400000 ≤ n) {m : jS} (hG : goerR n V told nd a z3 v l H ky ρ lo hi m) {v1 v2 : Int32} {N P : Nat} (e1 : v1.toInt = v) (e2 : v2.toInt = N) (hnd : nd ≤ 8) (hN : N ≤ 48) (hP : (m.1 9 (4 * v + 3)).toInt = P) :
    ∃ x m', F_X9_soonestOf n v1 v2 m = some (x, m') ∧ oM m m' ∧ goerR n V told nd a z3 v l H ky ρ lo hi m' ∧
      ((∃ M : Nat, 1 ≤ M ∧ M ≤ N ∧ aff (sL V (freeB a ky) ρ l H) nd true M P ∧ (∀ M' : Nat, 1 ≤ M' → M' < M → ¬ aff (sL V (freeB a ky) ρ l H) nd true M' P) ∧ x.toInt = (vX (sL V (freeB a ky) ρ l H) nd true M 0 0 0 : Nat) ∧ toldM (sL V (freeB a ky) ρ l H) nd true M m') ∨ ((∀ M' : Nat, 1 ≤ M' → M' ≤ N → ¬ aff (sL V (freeB a ky) ρ l H) nd true M' P) ∧ x = 1000000)) := by
  have lM : (1000000 : Int32).toInt = 1000000 := rfl
  have l1 : (1 : Int32).toInt = 1 := rfl
  obtain ⟨x3, x3e, x3j, x3n⟩ := v4_i32 e1 (by have := hG.2.2.2.2.1; omega) 3 3 rfl (by omega)
  obtain ⟨e, he, hq⟩ := lp_rule (body := B_X9_soonestOf_2 n v1 v2)
    (I := fun q j => ∃ M : Nat, 1 ≤ M ∧ M ≤ N + 1 ∧ j = N + 1 - M ∧ q.1.toInt = M ∧ (∀ M' : Nat, 1 ≤ M' → M' < M → ¬ aff (sL V (freeB a ky) ρ l H) nd true M' P) ∧ oM m q.2 ∧ goerR n V told nd a z3 v l H ky ρ lo hi q.2)
    (Q := fun e => (∃ x y, e = .inr (x, y) ∧ oM m y ∧ goerR n V told nd a z3 v l H ky ρ lo hi y ∧ ∃ M : Nat, 1 ≤ M ∧ M ≤ N ∧ aff (sL V (freeB a ky) ρ l H) nd true M P ∧ (∀ M' : Nat, 1 ≤ M' → M' < M → ¬ aff (sL V (freeB a ky) ρ l H) nd true M' P) ∧ x.toInt = (vX (sL V (freeB a ky) ρ l H) nd true M 0 0 0 : Nat) ∧ toldM (sL V (freeB a ky) ρ l H) nd true M y) ∨ (∃ x y, e = .inl (x, y) ∧ oM m y ∧ goerR n V told nd a z3 v l H ky ρ lo hi y ∧ ∀ M' : Nat, 1 ≤ M' → M' ≤ N → ¬ aff (sL V (freeB a ky) ρ l H) nd true M' P)) (by
    rintro ⟨mm, s⟩ j ⟨M, g1, g2, g3, g4, g5, g6, g7⟩
    simp only at g4 g6 g7
    by_cases hend : v2 < mm
    · left
      have hend' := i32_lt.mp hend
      exact ⟨.inl (mm, s), by unfold B_X9_soonestOf_2; dsimp only; rw [if_pos hend], Or.inr ⟨mm, s, rfl, g6, g7, fun M' c1 c2 => g5 M' c1 (by omega)⟩⟩
    · have hend' : ¬ v2.toInt < mm.toInt := fun z => hend (i32_lt.mpr z)
      have hm1 : (mm + 1).toInt = ((M + 1 : Nat) : Int) := by rw [i32_add (by omega) (by omega)]; omega
      obtain ⟨x, m1, a1, a2, a3, a4, a5⟩ := reckon_is hn g7 (ex := true) e1 g4 hnd (by omega)
      have hM := vX_M (L := sL V (freeB a ky) ρ l H) (D := nd) true M 0 0 0
      have m19 : m1.1 9 = m.1 9 := by rw [a4.1 9 (by decide) (by decide) (by decide) (by decide), g6.1 9 (by decide) (by decide) (by decide) (by decide) (by decide) (by decide) (by decide)]
      have go : ¬ aff (sL V (freeB a ky) ρ l H) nd true M P → B_X9_soonestOf_2 n v1 v2 (mm, s) = some (.inl (mm + 1, m1)) → (∃ v' k', k' < j ∧ B_X9_soonestOf_2 n v1 v2 (mm, s) = some (.inl v') ∧ ∃ M : Nat, 1 ≤ M ∧ M ≤ N + 1 ∧ k' = N + 1 - M ∧ v'.1.toInt = M ∧ (∀ M' : Nat, 1 ≤ M' → M' < M → ¬ aff (sL V (freeB a ky) ρ l H) nd true M' P) ∧ oM m v'.2 ∧ goerR n V told nd a z3 v l H ky ρ lo hi v'.2) := by
        intro hno hb
        refine ⟨(mm + 1, m1), N + 1 - (M + 1), by omega, hb, M + 1, by omega, by omega, rfl, hm1, fun M' c1 c2 => ?_, oM_tr g6 (oM_t a4), a5⟩
        by_cases z : M' = M
        · rw [z]; exact hno
        · exact g5 M' c1 (by omega)
      by_cases hx : x = 1000000
      · right
        refine go (fun z => ?_) ?_
        · have := z.1
          rw [hx, lM] at a2
          omega
        · unfold B_X9_soonestOf_2
          dsimp only
          rw [if_neg hend, a1, Option.bind_some, if_pos hx]
      · have hlt : vX (sL V (freeB a ky) ρ l H) nd true M 0 0 0 < 1000000 := by
          by_cases z : vX (sL V (freeB a ky) ρ l H) nd true M 0 0 0 < 1000000
          · exact z
          · exact absurd (i32_eq.mpr (by omega)) hx
        have hdiv : (x / 100).toInt = ((vX (sL V (freeB a ky) ρ l H) nd true M 0 0 0 / 100 : Nat) : Int) := by rw [i32_div (n := 100) rfl (by omega) (by omega), a2]; omega
        by_cases hp : x / 100 ≤ m.1 9 (4 * v + 3)
        · left
          have hp' := i32_le.mp hp
          obtain ⟨m', b1, b2, b3, b4, b5⟩ := follow_is hn a5 (ex := true) e1 hnd (by omega) a3 hlt
          refine ⟨.inr (x, m'), ?_, Or.inl ⟨x, m', rfl, oM_tr g6 (oM_tr (oM_t a4) b4), b5, M, g1, by omega, ⟨hlt, by omega⟩, g5, a2, b2, b3⟩⟩
          unfold B_X9_soonestOf_2
          dsimp only
          rw [if_neg hend, a1, Option.bind_some, if_neg hx, x3e, if_pos x3j, x3n, m19, if_pos hp, b1, Option.bind_some]
        · right
          have hp' : ¬ (x / 100).toInt ≤ (m.1 9 (4 * v + 3)).toInt := fun z => hp (i32_le.mpr z)
          refine go (fun z => ?_) ?_
          · have := z.2
            omega
          · unfold B_X9_soonestOf_2
            dsimp only
            rw [if_neg hend, a1, Option.bind_some, if_neg hx, x3e, if_pos x3j, x3n, m19, if_neg hp]) N n (1, m) (by omega) ⟨1, Nat.le_refl _, by omega, by omega, rfl, fun M' c1 c2 => by omega, oM_rfl, hG⟩
  have hso : F_X9_soonestOf n v1 v2 m = Sum.elim (fun e2 => some (1000000, e2.2)) (fun r2 => some r2) e := by
    unfold F_X9_soonestOf
    rw [he, Option.bind_some]
  rcases hq with ⟨x, y, rfl, b1, b2, M, b3⟩ | ⟨x, y, rfl, b1, b2, b3⟩
  · exact ⟨x, y, hso, b1, b2, Or.inl ⟨M, b3⟩⟩
  · exact ⟨1000000, y, hso, b1, b2, Or.inr ⟨b3, rfl⟩⟩
end
