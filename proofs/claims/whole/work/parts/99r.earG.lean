/-! the best rule, rounds of changes -/
def eFn : Type := (Nat → Int32) → Nat → Nat
def trR (i : Nat) : Int32 := Int32.ofNat i - 1
theorem trR_i {i : Nat} (h : i ≤ 8) : (trR i).toInt = (i : Int) - 1 := by
  have l1 : (1 : Int32).toInt = 1 := rfl
  have hi : (Int32.ofNat i).toInt = i := ofNat_int (by omega)
  unfold trR
  rw [i32_sub (by omega) (by omega), hi, l1]
theorem trR_0 : trR 0 = -1 := by decide
theorem trR_next {i : Nat} (h : i ≤ 7) : trR i + 1 = trR (i + 1) := by
  have l1 : (1 : Int32).toInt = 1 := rfl
  have h1 := trR_i (i := i) (by omega)
  exact i32_eq.mpr (by rw [i32_add (by omega) (by omega), h1, trR_i (by omega), l1]; omega)
def bstI (E : eFn) (ρ : Nat → Int32) (v : Nat) : Nat → Int32 × Nat
  | 0 => (ρ v, E ρ v)
  | i + 1 => if (bstI E ρ v i).2 < E (upd ρ v (trR i)) v then (trR i, E (upd ρ v (trR i)) v) else bstI E ρ v i
def bestF (E : eFn) (tn : Nat) (ρ : Nat → Int32) (v : Nat) : Int32 := (bstI E ρ v (tn + 1)).1
def rdI (E : eFn) (tn : Nat) (ρ : Nat → Int32) : Nat → (Nat → Int32) × Bool
  | 0 => (ρ, false)
  | j + 1 => (upd (rdI E tn ρ j).1 j (bestF E tn (rdI E tn ρ j).1 j), (rdI E tn ρ j).2 || decide (¬ bestF E tn (rdI E tn ρ j).1 j = (rdI E tn ρ j).1 j))
def seqF (E : eFn) (tn nd : Nat) (ρ : Nat → Int32) : Nat → Nat → Int32
  | 0 => ρ
  | i + 1 => (rdI E tn (seqF E tn nd ρ i) nd).1
def stbF (E : eFn) (tn nd : Nat) (ρ : Nat → Int32) (i : Nat) : Prop := (rdI E tn (seqF E tn nd ρ i) nd).2 = false
/-- what the rounds lead to -/
def setOK (E : eFn) (tn nd : Nat) (ρ : Nat → Int32) (x : Int32) (y : Nat → Int32) : Prop := (∃ i : Nat, i ≤ 20 ∧ stbF E tn nd ρ i ∧ (∀ j : Nat, j < i → ¬ stbF E tn nd ρ j) ∧ x.toInt = i ∧ ∀ d : Nat, d < nd → y d = seqF E tn nd ρ i d) ∨ ((∀ i : Nat, i ≤ 20 → ¬ stbF E tn nd ρ i) ∧ x = -2)
theorem upd_same {ρ : Nat → Int32} {v : Nat} {x : Int32} (h : x = ρ v) : upd ρ v x = ρ := by
  funext j
  by_cases z : j = v
  · rw [upd_eq z, h, z]
  · rw [upd_ne z]
theorem upd_back {ρ : Nat → Int32} {v : Nat} {x y : Int32} (h : y = ρ v) : upd (upd ρ v x) v y = ρ := by
  funext j
  by_cases z : j = v
  · rw [upd_eq z, h, z]
  · rw [upd_ne z, upd_ne z]
theorem upd_two {ρ : Nat → Int32} {v : Nat} {x y : Int32} : upd (upd ρ v x) v y = upd ρ v y := by
  funext j
  by_cases z : j = v
  · rw [upd_eq z, upd_eq z]
  · rw [upd_ne z, upd_ne z, upd_ne z]
section
variable {E : eFn} {tn nd : Nat} {ρ : Nat → Int32} {told : Int32}
theorem inR_upd {v : Nat} {x : Int32} (h : inR told ρ) (h1 : -1 ≤ x.toInt) (h2 : x.toInt < told.toInt) : inR told (upd ρ v x) := by
  intro d hd
  by_cases z : d = v
  · rw [upd_eq z]; exact ⟨h1, h2⟩
  · rw [upd_ne z]; exact h d hd
theorem bst_rng {v : Nat} (hv : v < 8) (h : inR told ρ) (ht : told.toInt = tn) (h4 : tn ≤ 4) : ∀ i : Nat, i ≤ tn + 1 → -1 ≤ ((bstI E ρ v i).1).toInt ∧ ((bstI E ρ v i).1).toInt < told.toInt := by
  intro i
  induction i with
  | zero => intro _; exact h v hv
  | succ i ih =>
    intro hi
    show -1 ≤ (if (bstI E ρ v i).2 < E (upd ρ v (trR i)) v then (trR i, E (upd ρ v (trR i)) v) else bstI E ρ v i).1.toInt ∧ (if (bstI E ρ v i).2 < E (upd ρ v (trR i)) v then (trR i, E (upd ρ v (trR i)) v) else bstI E ρ v i).1.toInt < told.toInt
    by_cases z : (bstI E ρ v i).2 < E (upd ρ v (trR i)) v
    · rw [if_pos z]
      have := trR_i (i := i) (by omega)
      show -1 ≤ (trR i).toInt ∧ (trR i).toInt < told.toInt
      omega
    · rw [if_neg z]
      exact ih (by omega)
theorem bst_ge {v : Nat} : ∀ i : Nat, E ρ v ≤ (bstI E ρ v i).2 := by
  intro i
  induction i with
  | zero => exact Nat.le_refl _
  | succ i ih =>
    show E ρ v ≤ (if (bstI E ρ v i).2 < E (upd ρ v (trR i)) v then (trR i, E (upd ρ v (trR i)) v) else bstI E ρ v i).2
    by_cases z : (bstI E ρ v i).2 < E (upd ρ v (trR i)) v
    · rw [if_pos z]
      exact Nat.le_trans ih (Nat.le_of_lt z)
    · rw [if_neg z]
      exact ih
theorem best_rng {v : Nat} (hv : v < 8) (h : inR told ρ) (ht : told.toInt = tn) (h4 : tn ≤ 4) : -1 ≤ (bestF E tn ρ v).toInt ∧ (bestF E tn ρ v).toInt < told.toInt := bst_rng hv h ht h4 _ (Nat.le_refl _)
theorem rd_rng (ht : told.toInt = tn) (h4 : tn ≤ 4) (h : inR told ρ) : ∀ j : Nat, j ≤ 8 → inR told (rdI E tn ρ j).1 := by
  intro j
  induction j with
  | zero => intro _; exact h
  | succ j ih =>
    intro hj
    have h1 := ih (by omega)
    have h2 := best_rng (E := E) (v := j) (by omega) h1 ht h4
    exact inR_upd h1 h2.1 h2.2
theorem rd_out : ∀ j d : Nat, j ≤ d → (rdI E tn ρ j).1 d = ρ d := by
  intro j
  induction j with
  | zero => intro d _; rfl
  | succ j ih =>
    intro d hd
    show upd (rdI E tn ρ j).1 j (bestF E tn (rdI E tn ρ j).1 j) d = ρ d
    rw [upd_ne (by omega)]
    exact ih d (by omega)
theorem rd_same : ∀ j : Nat, (rdI E tn ρ j).2 = false → (rdI E tn ρ j).1 = ρ := by
  intro j
  induction j with
  | zero => intro _; rfl
  | succ j ih =>
    intro h
    change ((rdI E tn ρ j).2 || decide (¬ bestF E tn (rdI E tn ρ j).1 j = (rdI E tn ρ j).1 j)) = false at h
    rw [Bool.or_eq_false_iff, decide_eq_false_iff_not, Classical.not_not] at h
    show upd (rdI E tn ρ j).1 j (bestF E tn (rdI E tn ρ j).1 j) = ρ
    rw [upd_same h.2]
    exact ih h.1
theorem seq_rng (ht : told.toInt = tn) (h4 : tn ≤ 4) (hnd : nd ≤ 8) (h : inR told ρ) : ∀ i : Nat, inR told (seqF E tn nd ρ i) := by
  intro i
  induction i with
  | zero => exact h
  | succ i ih => exact rd_rng ht h4 ih nd hnd
theorem seq_out : ∀ i d : Nat, nd ≤ d → seqF E tn nd ρ i d = ρ d := by
  intro i
  induction i with
  | zero => intro d _; rfl
  | succ i ih =>
    intro d hd
    show (rdI E tn (seqF E tn nd ρ i) nd).1 d = ρ d
    rw [rd_out nd d hd, ih d hd]
/-- rules that come again come again for ever -/
theorem seq_cycle {j r : Nat} (hjr : j < r) (he : seqF E tn nd ρ j = seqF E tn nd ρ r) (hn : ∀ i : Nat, i < r → ¬ stbF E tn nd ρ i) : ∀ i : Nat, ¬ stbF E tn nd ρ i := by
  have hsh : ∀ t : Nat, seqF E tn nd ρ (j + t) = seqF E tn nd ρ (r + t) := by
    intro t
    induction t with
    | zero => exact he
    | succ t ih =>
      show (rdI E tn (seqF E tn nd ρ (j + t)) nd).1 = (rdI E tn (seqF E tn nd ρ (r + t)) nd).1
      rw [ih]
  intro i
  induction i using Nat.strongRecOn with
  | ind i ih =>
    by_cases z : i < r
    · exact hn i z
    · have h1 := ih (j + (i - r)) (by omega)
      have h2 := hsh (i - r)
      rw [show r + (i - r) = i from by omega] at h2
      unfold stbF at h1 ⊢
      rw [← h2]
      exact h1
end
section
variable {E E' : eFn} {tn nd : Nat} {told : Int32}
theorem bst_cg {ρ : Nat → Int32} {v : Nat} (ht : told.toInt = tn) (h4 : tn ≤ 4) (h : inR told ρ) (hE : ∀ ρ : Nat → Int32, inR told ρ → E ρ v = E' ρ v) : ∀ i : Nat, i ≤ tn + 1 → bstI E ρ v i = bstI E' ρ v i := by
  intro i
  induction i with
  | zero =>
    intro _
    show (ρ v, E ρ v) = (ρ v, E' ρ v)
    rw [hE ρ h]
  | succ i ih =>
    intro hi
    have ht' := trR_i (i := i) (by omega)
    show (if (bstI E ρ v i).2 < E (upd ρ v (trR i)) v then (trR i, E (upd ρ v (trR i)) v) else bstI E ρ v i) = (if (bstI E' ρ v i).2 < E' (upd ρ v (trR i)) v then (trR i, E' (upd ρ v (trR i)) v) else bstI E' ρ v i)
    rw [ih (by omega), hE _ (inR_upd h (by omega) (by omega))]
theorem rd_cg {ρ : Nat → Int32} (ht : told.toInt = tn) (h4 : tn ≤ 4) (hnd : nd ≤ 8) (h : inR told ρ) (hE : ∀ (ρ : Nat → Int32) (v : Nat), v < nd → inR told ρ → E ρ v = E' ρ v) : ∀ j : Nat, j ≤ nd → rdI E tn ρ j = rdI E' tn ρ j := by
  intro j
  induction j with
  | zero => intro _; rfl
  | succ j ih =>
    intro hj
    have e := ih (by omega)
    have hr := rd_rng (E := E) ht h4 h j (by omega)
    have hb : bestF E tn (rdI E tn ρ j).1 j = bestF E' tn (rdI E tn ρ j).1 j := by
      unfold bestF
      rw [bst_cg ht h4 hr (fun ρ' h' => hE ρ' j (by omega) h') _ (Nat.le_refl _)]
    show (upd (rdI E tn ρ j).1 j (bestF E tn (rdI E tn ρ j).1 j), (rdI E tn ρ j).2 || decide (¬ bestF E tn (rdI E tn ρ j).1 j = (rdI E tn ρ j).1 j)) = (upd (rdI E' tn ρ j).1 j (bestF E' tn (rdI E' tn ρ j).1 j), (rdI E' tn ρ j).2 || decide (¬ bestF E' tn (rdI E' tn ρ j).1 j = (rdI E' tn ρ j).1 j))
    rw [hb, e]
theorem seq_cg {ρ : Nat → Int32} (ht : told.toInt = tn) (h4 : tn ≤ 4) (hnd : nd ≤ 8) (h : inR told ρ) (hE : ∀ (ρ : Nat → Int32) (v : Nat), v < nd → inR told ρ → E ρ v = E' ρ v) : ∀ i : Nat, seqF E tn nd ρ i = seqF E' tn nd ρ i := by
  intro i
  induction i with
  | zero => rfl
  | succ i ih =>
    show (rdI E tn (seqF E tn nd ρ i) nd).1 = (rdI E' tn (seqF E' tn nd ρ i) nd).1
    rw [rd_cg ht h4 hnd (seq_rng ht h4 hnd h i) hE nd (Nat.le_refl _), ih]
theorem set_cg {ρ : Nat → Int32} {x : Int32} {y : Nat → Int32} (ht : told.toInt = tn) (h4 : tn ≤ 4) (hnd : nd ≤ 8) (h : inR told ρ) (hE : ∀ (ρ : Nat → Int32) (v : Nat), v < nd → inR told ρ → E ρ v = E' ρ v) (hs : setOK E tn nd ρ x y) : setOK E' tn nd ρ x y := by
  have hst : ∀ i : Nat, stbF E tn nd ρ i ↔ stbF E' tn nd ρ i := by
    intro i
    unfold stbF
    rw [rd_cg ht h4 hnd (seq_rng ht h4 hnd h i) hE nd (Nat.le_refl _), seq_cg ht h4 hnd h hE i]
  rcases hs with ⟨i, a1, a2, a3, a4, a5⟩ | ⟨a1, a2⟩
  · exact Or.inl ⟨i, a1, (hst i).mp a2, fun j hj z => a3 j hj ((hst j).mpr z), a4, fun d hd => by rw [← seq_cg ht h4 hnd h hE i]; exact a5 d hd⟩
  · exact Or.inr ⟨fun i hi z => a1 i hi ((hst i).mpr z), a2⟩
end
