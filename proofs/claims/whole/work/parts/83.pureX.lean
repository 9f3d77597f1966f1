/-! clauses: what is kept of them -/
def clausesR (x kn am z3 : Nat → Int32) (t : Nat) : Prop :=
  (x 4 = z3 (680 * t) ∧ 0 ≤ (x 4).toInt ∧ (x 4).toInt ≤ 24) ∧
  (∃ ko : Nat, (ko : Int) ≤ (x 4).toInt ∧ (∀ k : Nat, k < ko → ¬ z3 (680 * t + 1 + 3 * k) = 0) ∧ ((ko : Int) < (x 4).toInt → z3 (680 * t + 1 + 3 * ko) = 0 ∧ z3 (680 * t + 2 + 3 * ko) = 0 ∧ z3 (680 * t + 3 + 3 * ko) = x 3) ∧ (jz (x 6) = true ↔ (ko : Int) < (x 4).toInt)) ∧
  (∀ k : Nat, (k : Int) < (x 4).toInt → (kn k = -1 ∧ z3 (680 * t + 1 + 3 * k) = 0) ∨ (kn k = 0 ∧ z3 (680 * t + 1 + 3 * k) = 2 ∧ am k = z3 (680 * t + 2 + 3 * k) ∧ 0 ≤ (am k).toInt ∧ (am k).toInt ≤ 24) ∨ (1 ≤ (kn k).toInt ∧ (kn k).toInt ≤ 7 ∧ z3 (680 * t + 1 + 3 * k) = 1 ∧ z3 (680 * t + 2 + 3 * k) = kn k ∧ z3 (680 * t + 3 + 3 * k) = am k ∧ 0 ≤ (am k).toInt ∧ (am k).toInt ≤ 5))
theorem clauses_open {x kn am z3 x' kn' am' z3' : Nat → Int32} {t cc : Nat} (h : clausesR x kn am z3 t) (hno : ¬ jz (x 6) = true) (hcc : (x 4).toInt = cc) (h24 : cc < 24) (h4 : x' 4 = z3' (680 * t)) (h4v : (x' 4).toInt = (cc : Int) + 1) (h6 : jz (x' 6) = true)
    (hk : ∀ k : Nat, k < cc → kn' k = kn k ∧ am' k = am k ∧ z3' (680 * t + 1 + 3 * k) = z3 (680 * t + 1 + 3 * k) ∧ z3' (680 * t + 2 + 3 * k) = z3 (680 * t + 2 + 3 * k) ∧ z3' (680 * t + 3 + 3 * k) = z3 (680 * t + 3 + 3 * k))
    (hkn : kn' cc = -1) (hz1 : z3' (680 * t + 1 + 3 * cc) = 0) (hz2 : z3' (680 * t + 2 + 3 * cc) = 0) (hz3 : z3' (680 * t + 3 + 3 * cc) = x' 3) : clausesR x' kn' am' z3' t := by
  obtain ⟨⟨a1, a2, a3⟩, ⟨ko, b1, b2, b3, b4⟩, d⟩ := h
  have hko : ko = cc := by
    have : ¬ (ko : Int) < (x 4).toInt := fun z => hno (b4.mpr z)
    omega
  subst hko
  refine ⟨⟨h4, by omega, by omega⟩, ⟨ko, by omega, fun k hk' => ?_, fun _ => ⟨hz1, hz2, hz3⟩, fun _ => by omega, fun _ => h6⟩, fun k hk' => ?_⟩
  · rw [(hk k hk').2.2.1]; exact b2 k hk'
  · by_cases e : k = ko
    · subst e; exact Or.inl ⟨hkn, hz1⟩
    · have hlt : k < ko := by omega
      obtain ⟨q1, q2, q3, q4, q5⟩ := hk k hlt
      rw [q1, q2, q3, q4, q5]
      exact d k (by omega)
theorem clauses_more {x kn am z3 x' kn' am' z3' : Nat → Int32} {t cc : Nat} (h : clausesR x kn am z3 t) (hcc : (x 4).toInt = cc) (h24 : cc < 24) (h4 : x' 4 = z3' (680 * t)) (h4v : (x' 4).toInt = (cc : Int) + 1) (h6 : x' 6 = x 6) (h3 : x' 3 = x 3)
    (hk : ∀ k : Nat, k < cc → kn' k = kn k ∧ am' k = am k ∧ z3' (680 * t + 1 + 3 * k) = z3 (680 * t + 1 + 3 * k) ∧ z3' (680 * t + 2 + 3 * k) = z3 (680 * t + 2 + 3 * k) ∧ z3' (680 * t + 3 + 3 * k) = z3 (680 * t + 3 + 3 * k))
    (hnew : (kn' cc = 0 ∧ z3' (680 * t + 1 + 3 * cc) = 2 ∧ am' cc = z3' (680 * t + 2 + 3 * cc) ∧ 0 ≤ (am' cc).toInt ∧ (am' cc).toInt ≤ 24) ∨ (1 ≤ (kn' cc).toInt ∧ (kn' cc).toInt ≤ 7 ∧ z3' (680 * t + 1 + 3 * cc) = 1 ∧ z3' (680 * t + 2 + 3 * cc) = kn' cc ∧ z3' (680 * t + 3 + 3 * cc) = am' cc ∧ 0 ≤ (am' cc).toInt ∧ (am' cc).toInt ≤ 5)) : clausesR x' kn' am' z3' t := by
  obtain ⟨⟨a1, a2, a3⟩, ⟨ko, b1, b2, b3, b4⟩, d⟩ := h
  have hz0 : ¬ z3' (680 * t + 1 + 3 * cc) = 0 := by
    rcases hnew with ⟨_, z, _⟩ | ⟨_, _, z, _⟩ <;> (rw [z]; decide)
  refine ⟨⟨h4, by omega, by omega⟩, ?_, fun k hk' => ?_⟩
  · by_cases hop : (ko : Int) < (x 4).toInt
    · obtain ⟨q1, q2, q3, q4, q5⟩ := hk ko (by omega)
      refine ⟨ko, by omega, fun k hk' => ?_, fun _ => ?_, ?_⟩
      · rw [(hk k (by omega)).2.2.1]; exact b2 k hk'
      · rw [q3, q4, q5, h3]; exact b3 hop
      · rw [h6, b4]
        exact ⟨fun _ => by omega, fun _ => hop⟩
    · have hko : ko = cc := by omega
      subst hko
      refine ⟨ko + 1, by omega, fun k hk' => ?_, fun z => by omega, ?_⟩
      · by_cases e : k = ko
        · rw [e]; exact hz0
        · rw [(hk k (by omega)).2.2.1]; exact b2 k (by omega)
      · rw [h6, b4]
        exact ⟨fun z => absurd z hop, fun z => by omega⟩
  · by_cases e : k = cc
    · subst e; exact Or.inr hnew
    · obtain ⟨q1, q2, q3, q4, q5⟩ := hk k (by omega)
      rw [q1, q2, q3, q4, q5]
      exact d k (by omega)
theorem addClause_c {t cc : Nat} (ht : t < 4) {c : jS} (h : (c.1 (2 + 4 * t) 4).toInt = cc) (h24 : cc < 24) (v : Int32) : ∃ x1, F_X5_addClause t v c = some (upI (upI (upI c (2 + 4 * t + 2) cc v) (2 + 4 * t + 3) cc 0) (2 + 4 * t) 4 x1) ∧ x1 = c.1 (2 + 4 * t) 4 + 1 ∧ x1.toInt = (cc : Int) + 1 := by
  have l1 : (1 : Int32).toInt = 1 := rfl
  have l0 : (0 : Int32).toInt = 0 := rfl
  have l24 : (24 : Int32).toInt = 24 := rfl
  obtain ⟨x, hx⟩ : ∃ x, c.1 (2 + 4 * t) 4 = x := ⟨_, rfl⟩
  rw [hx] at h ⊢
  have hx1 : (x + 1).toInt = x.toInt + 1 := i32_add (by omega) (by omega)
  obtain ⟨x1, hq⟩ : ∃ x1, x + 1 = x1 := ⟨_, rfl⟩
  rw [hq] at hx1
  refine ⟨x1, ?_, hq.symm, by omega⟩
  unfold F_X5_addClause
  rw [hx, if_neg (fun z => by have := i32_lt.mp z; omega), if_neg (fun z => by have := i32_le.mp z; omega), if_pos (jin_val h h24), jl_1, nat_val h, show (upI c (2 + 4 * t + 2) cc v).1 (2 + 4 * t) 4 = x from by rw [upI_1, if_neg (by omega)]; exact hx, if_pos (jin_val h h24), jl_1, nat_val h, show (upI (upI c (2 + 4 * t + 2) cc v) (2 + 4 * t + 3) cc 0).1 (2 + 4 * t) 4 = x from by rw [upI_1, if_neg (by omega), upI_1, if_neg (by omega)]; exact hx, hq, jl_1]
/-- between two clauses of text t, the token read -/
def textR (t : Nat) (Wf : List (Int32 × Int32 × Int32)) (c m : jS) : Prop :=
  (c.1 49 4 = Int32.ofNat t ∧ c.1 49 5 = 0 ∧ c.1 49 0 = 0) ∧ rTape (c.1 27) (c.1 28) (m.1 0) (m.1 4) ∧ tokA c m ∧
  clausesR (c.1 (2 + 4 * t)) (c.1 (2 + 4 * t + 2)) (c.1 (2 + 4 * t + 3)) (m.1 3) t ∧ (jz (c.1 (2 + 4 * t) 6) = true ↔ jz (m.1 0 21) = true) ∧
  ((c.1 (2 + 4 * t) 3).toInt = Wf.length ∧ rowL (c.1 (2 + 4 * t + 1)) (w1 Wf) ∧ (m.1 0 15).toInt = Wf.length ∧ rowM (m.1 3) (680 * t + 75) (w2 Wf) ∧ nmB (c.1 (2 + 4 * t) 5) Wf ∧ Wf.length ≤ 300 ∧ (jz (c.1 (2 + 4 * t) 6) = true → codeL Wf 0 1) ∧ (¬ jz (c.1 (2 + 4 * t) 6) = true → Wf = [])) ∧
  (m.1 0 19).toInt = 0 ∧ (m.1 0 13).toInt = (680 * t : Nat)
theorem J24_is {n : Nat} {v1 : Int32} {s : jS} (hj : jin (s.1 0 13) 2720 = true) : J_X9_clause_24 n v1 s = (if (s.1 3 (Int32.toNatClampNeg (s.1 0 13))) = 24 then some (5, s) else J_X9_clause_59 n v1 (s.1 3 (Int32.toNatClampNeg (s.1 0 13))) (jz (s.1 0 21) || decide (v1 = 0)) s) := by
  unfold J_X9_clause_24
  rw [if_pos hj]
  by_cases h24 : (s.1 3 (Int32.toNatClampNeg (s.1 0 13))) = 24
  · rw [if_pos h24, if_pos h24]
  · rw [if_neg h24, if_neg h24]
    cases hz : jz (s.1 0 21) with
    | true =>
      rw [if_pos rfl]
      rfl
    | false =>
      rw [if_neg (fun z => by cases z)]
      by_cases h0 : v1 = 0
      · rw [if_pos h0, decide_eq_true h0]
        rfl
      · rw [if_neg h0, decide_eq_false h0]
        rfl
theorem take_0 {n : Nat} {v : Int32} {c : jS} (h : c.1 49 5 = 0) : F_X1_take n v c = F_X1_takeClause v c := by
  unfold F_X1_take
  rw [h, if_pos rfl, bind_id]
/-- the class behind a full list of clauses, or a second opens -/
theorem takeClause_no {t : Nat} (ht : t < 4) {v : Int32} {c : jS} (h4 : c.1 49 4 = Int32.ofNat t) (h24 : (c.1 (2 + 4 * t) 4).toInt = 24) (hv : v = 4 ∨ v = 5 ∨ v = 7) (ho : v = 4 → ¬ jz (c.1 (2 + 4 * t) 6) = true) : F_X1_takeClause v c = some (upI (upI c 49 0 5) 49 1 (c.1 27 4)) := by
  obtain ⟨tt1, tt2⟩ := textNo ht h4
  have l24 : (24 : Int32).toInt = 24 := rfl
  have h47 : J_X1_takeClause_47 v c = some (upI (upI c 49 0 5) 49 1 (c.1 27 4)) := by
    unfold J_X1_takeClause_47
    rw [if_pos tt1, tt2, if_neg (fun z => by have := i32_lt.mp z; omega), refuse_is, Option.bind_some]
  have h24' : J_X1_takeClause_24 v c = some (upI (upI c 49 0 5) 49 1 (c.1 27 4)) := by
    unfold J_X1_takeClause_24
    by_cases k : v = 4
    · rw [if_pos k, if_pos tt1, tt2, if_neg (ho k), h47]
    · rw [if_neg k, h47]
  unfold F_X1_takeClause
  rcases hv with rfl | rfl | rfl
  · rw [if_pos rfl, h24']
  · rw [if_neg (by decide), if_pos rfl, h24']
  · rw [if_neg (by decide), if_neg (by decide), if_pos rfl, h24']
theorem takeClause_opened {t : Nat} (ht : t < 4) {c : jS} (h4 : c.1 49 4 = Int32.ofNat t) (ho : jz (c.1 (2 + 4 * t) 6) = true) : F_X1_takeClause 4 c = some (upI (upI c 49 0 4) 49 1 (c.1 27 4)) := by
  obtain ⟨tt1, tt2⟩ := textNo ht h4
  unfold F_X1_takeClause
  rw [if_pos rfl]
  unfold J_X1_takeClause_24
  rw [if_pos rfl, if_pos tt1, tt2, if_pos ho, refuse_is, Option.bind_some]
theorem takeClause_yes {t cc : Nat} (ht : t < 4) {v : Int32} {c : jS} (h4 : c.1 49 4 = Int32.ofNat t) (hcc : (c.1 (2 + 4 * t) 4).toInt = cc) (h24 : cc < 24) (hv : v = 5 ∨ v = 7) : ∃ x1, F_X1_takeClause v c = some (upI (upI (upI (upI c (2 + 4 * t + 2) cc 0) (2 + 4 * t + 3) cc 0) (2 + 4 * t) 4 x1) 49 5 (if v = 5 then 1 else 4)) ∧ x1 = c.1 (2 + 4 * t) 4 + 1 ∧ x1.toInt = (cc : Int) + 1 := by
  obtain ⟨tt1, tt2⟩ := textNo ht h4
  have l24 : (24 : Int32).toInt = 24 := rfl
  obtain ⟨x1, a1, a2, a3⟩ := addClause_c ht hcc h24 0
  refine ⟨x1, ?_, a2, a3⟩
  have h47 : J_X1_takeClause_47 v c = some (upI (upI (upI (upI c (2 + 4 * t + 2) cc 0) (2 + 4 * t + 3) cc 0) (2 + 4 * t) 4 x1) 49 5 (if v = 5 then 1 else 4)) := by
    unfold J_X1_takeClause_47
    rw [if_pos tt1, tt2, if_pos (i32_lt.mpr (by omega)), if_neg (by rcases hv with rfl | rfl <;> decide), a1, Option.bind_some]
    rcases hv with rfl | rfl
    · rw [if_pos rfl, if_pos rfl, jl_1]
    · rw [if_neg (by decide), if_neg (by decide), jl_1]
  have h24' : J_X1_takeClause_24 v c = J_X1_takeClause_47 v c := by
    unfold J_X1_takeClause_24
    rw [if_neg (by rcases hv with rfl | rfl <;> decide)]
  unfold F_X1_takeClause
  rcases hv with rfl | rfl
  · rw [if_neg (by decide), if_pos rfl, h24', h47]
  · rw [if_neg (by decide), if_neg (by decide), if_pos rfl, h24', h47]
theorem takeClause_open {t cc : Nat} (ht : t < 4) {c : jS} (h4 : c.1 49 4 = Int32.ofNat t) (hcc : (c.1 (2 + 4 * t) 4).toInt = cc) (h24 : cc < 24) (ho : ¬ jz (c.1 (2 + 4 * t) 6) = true) : ∃ x1, F_X1_takeClause 4 c = some (upI (upI (upI (upI (upI (upI (upI (upI (upI c (2 + 4 * t + 2) cc (-1)) (2 + 4 * t + 3) cc 0) (2 + 4 * t) 4 x1) (2 + 4 * t) 6 (jb true)) 49 6 0) 49 7 0) 49 8 0) 49 9 (jb false)) 49 5 6) ∧ x1 = c.1 (2 + 4 * t) 4 + 1 ∧ x1.toInt = (cc : Int) + 1 := by
  obtain ⟨tt1, tt2⟩ := textNo ht h4
  have l24 : (24 : Int32).toInt = 24 := rfl
  obtain ⟨x1, a1, a2, a3⟩ := addClause_c ht hcc h24 (-1)
  refine ⟨x1, ?_, a2, a3⟩
  have h49 : (upI (upI (upI c (2 + 4 * t + 2) cc (-1)) (2 + 4 * t + 3) cc 0) (2 + 4 * t) 4 x1).1 49 4 = c.1 49 4 := by rw [upI_1, if_neg (by omega), upI_1, if_neg (by omega), upI_1, if_neg (by omega)]
  unfold F_X1_takeClause
  rw [if_pos rfl]
  unfold J_X1_takeClause_24
  rw [if_pos rfl, if_pos tt1, tt2, if_neg ho]
  unfold J_X1_takeClause_47
  rw [if_pos tt1, tt2, if_pos (i32_lt.mpr (by omega)), if_pos rfl, a1, Option.bind_some, h49, if_pos tt1, tt2, jl_1, jl_1, jl_1, jl_1, jl_1, jl_1]
