/-! the class's rounds -/
def numF (ρ : Nat → Int32) : Nat → Nat
  | 0 => 0
  | j + 1 => numF ρ j * 5 + ((ρ j).toInt + 1).toNat
theorem num_lt {ρ : Nat → Int32} {told : Int32} (h : inR told ρ) (h4 : told.toInt ≤ 4) : ∀ j : Nat, j ≤ 8 → numF ρ j < 5 ^ j := by
  intro j
  induction j with
  | zero => intro _; exact Nat.one_pos
  | succ j ih =>
    intro hj
    have h1 := ih (by omega)
    have h2 := h j (by omega)
    show numF ρ j * 5 + ((ρ j).toInt + 1).toNat < 5 ^ j * 5
    omega
theorem num_inj {ρ ρ' : Nat → Int32} {told : Int32} (h : inR told ρ) (h' : inR told ρ') (h4 : told.toInt ≤ 4) : ∀ j : Nat, j ≤ 8 → numF ρ j = numF ρ' j → ∀ d : Nat, d < j → ρ d = ρ' d := by
  intro j
  induction j with
  | zero => intro _ _ d hd; exact absurd hd (Nat.not_lt_zero d)
  | succ j ih =>
    intro hj he d hd
    have h2 := h j (by omega)
    have h3 := h' j (by omega)
    change numF ρ j * 5 + ((ρ j).toInt + 1).toNat = numF ρ' j * 5 + ((ρ' j).toInt + 1).toNat at he
    by_cases z : d = j
    · subst z
      exact i32_eq.mpr (by omega)
    · exact ih (by omega) (by omega) d (by omega)
theorem trialNumber_is {n : Nat} (hn : 400000 ≤ n) {s : jS} {nd : Nat} {ρ : Nat → Int32} {told : Int32} (hnd : nd ≤ 8) (h51 : s.1 51 1 = Int32.ofNat nd) (hρ : ∀ d : Nat, d < 8 → s.1 52 d = ρ d) (h : inR told ρ) (h4 : told.toInt ≤ 4) : ∃ x, F_X0_trialNumber n s = some x ∧ x.toInt = (numF ρ nd : Nat) := by
  have l1 : (1 : Int32).toInt = 1 := rfl
  have l0 : (0 : Int32).toInt = 0 := rfl
  have hndI : (Int32.ofNat nd).toInt = nd := ofNat_int (by omega)
  obtain ⟨e, he, q1⟩ := lp_rule (body := B_X0_trialNumber_4 n s)
    (I := fun q k => ∃ j : Nat, k = nd - j ∧ j ≤ nd ∧ q.2 = Int32.ofNat j ∧ q.1.toInt = (numF ρ j : Nat))
    (Q := fun e => e.1.toInt = (numF ρ nd : Nat)) (by
    rintro ⟨x, jI⟩ k ⟨j, g0, g1, g2, g3⟩
    simp only at g2 g3
    subst g2
    have hjI : (Int32.ofNat j).toInt = j := ofNat_int (by omega)
    by_cases hj : j = nd
    · left
      subst hj
      refine ⟨(x, Int32.ofNat j), ?_, g3⟩
      unfold B_X0_trialNumber_4
      dsimp only
      rw [h51, if_pos (i32_le.mpr (Int.le_refl _))]
    · right
      have hlt : j < nd := by omega
      have hnl : ¬ (Int32.ofNat nd) ≤ Int32.ofNat j := fun z => by have := i32_le.mp z; omega
      have hnext : Int32.ofNat j + 1 = Int32.ofNat (j + 1) := i32_eq.mpr (by rw [i32_add (by omega) (by omega), ofNat_int (by omega), ofNat_int (by omega)]; omega)
      have hb := num_lt h h4 j (by omega)
      have h5 : 5 ^ j ≤ 5 ^ 8 := Nat.pow_le_pow_right (by decide) (by omega)
      have h58 : 5 ^ 8 = 390625 := by decide
      have hr := h j (by omega)
      have m5 : (x * 5).toInt = x.toInt * 5 := i32_mulR rfl (by omega) (by omega)
      obtain ⟨y, hy⟩ : ∃ y, x * 5 = y := ⟨_, rfl⟩
      rw [hy] at m5
      have m6 : (y + ρ j).toInt = y.toInt + (ρ j).toInt := i32_add (by omega) (by omega)
      obtain ⟨w, hw⟩ : ∃ w, y + ρ j = w := ⟨_, rfl⟩
      rw [hw] at m6
      have m7 : (w + 1).toInt = w.toInt + 1 := by rw [i32_add (by omega) (by omega), l1]
      refine ⟨(w + 1, Int32.ofNat (j + 1)), nd - (j + 1), by omega, ?_, j + 1, rfl, by omega, rfl, ?_⟩
      · unfold B_X0_trialNumber_4
        dsimp only
        rw [h51, if_neg hnl, if_pos (jin_val hjI (by omega)), nat_val hjI, hρ j (by omega), hy, hw, hnext]
      · show (w + 1).toInt = ((numF ρ j * 5 + ((ρ j).toInt + 1).toNat : Nat) : Int)
        rw [m7, m6, m5, g3]
        omega) nd n (0, 0) (by omega) ⟨0, rfl, by omega, rfl, l0⟩
  exact ⟨e.1, by unfold F_X0_trialNumber; rw [he, Option.bind_some], q1⟩
theorem isPast_is {n : Nat} (hn : 400000 ≤ n) {s : jS} {r : Nat} {v1 : Int32} (e1 : v1.toInt = r) (hr : r ≤ 20) : ∃ b, F_X0_isPast n v1 s = some b ∧ ((b = true ∧ ∃ j : Nat, j < r ∧ s.1 53 j = s.1 53 r) ∨ (b = false ∧ ∀ j : Nat, j < r → ¬ s.1 53 j = s.1 53 r)) := by
  have l1 : (1 : Int32).toInt = 1 := rfl
  obtain ⟨e, he, q1⟩ := lp_rule (body := B_X0_isPast_2 n v1 s)
    (I := fun q k => ∃ j : Nat, k = r - j ∧ j ≤ r ∧ q = Int32.ofNat j ∧ ∀ i : Nat, i < j → ¬ s.1 53 i = s.1 53 r)
    (Q := fun e => (e = .inr true ∧ ∃ j : Nat, j < r ∧ s.1 53 j = s.1 53 r) ∨ ∃ q, e = .inl q ∧ ∀ j : Nat, j < r → ¬ s.1 53 j = s.1 53 r) (by
    rintro jI k ⟨j, g0, g1, g2, g3⟩
    subst g2
    have hjI : (Int32.ofNat j).toInt = j := ofNat_int (by omega)
    by_cases c1 : v1 ≤ Int32.ofNat j
    · left
      have c1' := i32_le.mp c1
      exact ⟨.inl (Int32.ofNat j), by unfold B_X0_isPast_2; rw [if_pos c1], Or.inr ⟨_, rfl, fun i hi => g3 i (by omega)⟩⟩
    · have c1' : ¬ v1.toInt ≤ (Int32.ofNat j).toInt := fun z => c1 (i32_le.mpr z)
      have hnext : Int32.ofNat j + 1 = Int32.ofNat (j + 1) := i32_eq.mpr (by rw [i32_add (by omega) (by omega), ofNat_int (by omega), ofNat_int (by omega)]; omega)
      by_cases z : s.1 53 j = s.1 53 r
      · left
        refine ⟨.inr true, ?_, Or.inl ⟨rfl, j, by omega, z⟩⟩
        unfold B_X0_isPast_2
        rw [if_neg c1, if_pos (jin_val hjI (by omega)), if_pos (jin_val e1 (by omega)), nat_val hjI, nat_val e1, if_pos z]
      · right
        refine ⟨Int32.ofNat (j + 1), r - (j + 1), by omega, ?_, j + 1, rfl, by omega, rfl, fun i hi => ?_⟩
        · unfold B_X0_isPast_2
          rw [if_neg c1, if_pos (jin_val hjI (by omega)), if_pos (jin_val e1 (by omega)), nat_val hjI, nat_val e1, if_neg z, hnext]
        · by_cases y : i = j
          · rw [y]; exact z
          · exact g3 i (by omega)) r n 0 (by omega) ⟨0, rfl, Nat.zero_le _, rfl, fun i hi => absurd hi (Nat.not_lt_zero i)⟩
  rcases q1 with ⟨h1, h2⟩ | ⟨q, h1, h2⟩
  · exact ⟨true, by unfold F_X0_isPast; rw [he, Option.bind_some, h1]; rfl, Or.inl ⟨rfl, h2⟩⟩
  · exact ⟨false, by unfold F_X0_isPast; rw [he, Option.bind_some, h1]; rfl, Or.inr ⟨rfl, h2⟩⟩
/-- but for the rounds' own rows all stands -/
def rkM (s s' : jS) : Prop := (∀ k : Nat, k < 33 ∨ 39 < k → ¬ k = 51 → ¬ k = 52 → ¬ k = 53 → s'.1 k = s.1 k) ∧ (∀ j : Nat, ¬ j = 6 → s'.1 51 j = s.1 51 j) ∧ (∀ j : Nat, 1 < j → ¬ j = 11 → s'.1 33 j = s.1 33 j) ∧ s'.2 = s.2
theorem rkM_rfl {s : jS} : rkM s s := ⟨fun _ _ _ _ _ => rfl, fun _ _ => rfl, fun _ _ _ => rfl, rfl⟩
theorem rkM_tr {a b c : jS} (h1 : rkM a b) (h2 : rkM b c) : rkM a c := ⟨fun k a1 a2 a3 a4 => (h2.1 k a1 a2 a3 a4).trans (h1.1 k a1 a2 a3 a4), fun j a1 => (h2.2.1 j a1).trans (h1.2.1 j a1), fun j a1 a2 => (h2.2.2.1 j a1 a2).trans (h1.2.2.1 j a1 a2), h2.2.2.2.trans h1.2.2.2⟩
theorem rkM_b {s s' : jS} (h : bkM s s') : rkM s s' := ⟨fun k a1 _ a3 _ => h.1 k a1 a3, fun j _ => by rw [h.1 51 (by decide) (by decide)], h.2.1, h.2.2⟩
theorem rkM_51 (s : jS) (x : Int32) : rkM s (upI s 51 6 x) := ⟨fun k _ h51 _ _ => by rw [upI_1, if_neg h51], fun j hj => by rw [upI_1, if_pos rfl, upd_ne hj], fun j _ _ => by rw [upI_1, if_neg (by decide)], rfl⟩
theorem rkM_53 (s : jS) (j : Nat) (x : Int32) : rkM s (upI s 53 j x) := ⟨fun k _ _ _ h53 => by rw [upI_1, if_neg h53], fun j _ => by rw [upI_1, if_neg (by decide)], fun j _ _ => by rw [upI_1, if_neg (by decide)], rfl⟩
theorem wkC_r {s s' : jS} (h : rkM s s') : wkC s s' := ⟨fun k hk => h.1 k (by omega) (by omega) (by omega) (by omega), by rw [h.1 29 (by decide) (by decide) (by decide) (by decide)], h.2.2.1 4 (by decide) (by decide), h.2.1 1 (by decide)⟩
section
variable {nd n : Nat} {EO : jEO} {c m : jS}
theorem ts_r {W : Nat → Nat → Prop} (hI : Inv nd jText (LOw nd n) EO c m) {s s' : jS} (h : tsC n nd c m W s) (hb : rkM s s') : tsC n nd c m W s' := ts_w hI h (wkC_r hb) (hb.1 29 (by decide) (by decide) (by decide) (by decide)) hb.2.2.2
/-- one round of the class -/
theorem innerC (hn : 400000 ≤ n) (hI : Inv nd jText (LOw nd n) EO c m) {W : Nat → Nat → Prop} (hW : ∀ d r : Nat, W d r) {ρ : Nat → Int32} {s : jS} (h : tsC n nd c m W s) (hρ : ∀ d : Nat, d < 8 → s.1 52 d = ρ d) (hr : inR (c.1 18 7) ρ) {v2 : Int32} :
    ∃ e, lp (B_X0_roundsChanged_59 nd n v2) n (false, 0, s) = some e ∧ e.1 = (rdI (eE (opV n (c.1 19) (c.1 20) (m.1 3)) (m.1 1) (c.1 23) nd (c.1 18 8).toInt.toNat) (c.1 18 7).toInt.toNat ρ nd).2 ∧ bkM s e.2.2 ∧ ∀ d : Nat, d < 8 → e.2.2.1 52 d = (rdI (eE (opV n (c.1 19) (c.1 20) (m.1 3)) (m.1 1) (c.1 23) nd (c.1 18 8).toInt.toNat) (c.1 18 7).toInt.toNat ρ nd).1 d := by
  have l0 : (0 : Int32).toInt = 0 := rfl
  have l1 : (1 : Int32).toInt = 1 := rfl
  obtain ⟨hnd1, hnd⟩ := I_nd hI
  have h4 := (I_asks hI).2.1
  have ht0 := (I_told hI).2.1
  have hndI : (Int32.ofNat nd).toInt = nd := ofNat_int (by omega)
  obtain ⟨tn, htn⟩ : ∃ tn : Nat, (c.1 18 7).toInt = tn := ⟨(c.1 18 7).toInt.toNat, by omega⟩
  have htn2 : (c.1 18 7).toInt.toNat = tn := by omega
  have h51 : c.1 51 1 = Int32.ofNat nd := hI.1.1.2.2.2.2.1
  have hbest : ∀ {ρ : Nat → Int32} {s1 : jS}, bkM s s1 → (∀ d : Nat, d < 8 → s1.1 52 d = ρ d) → inR (c.1 18 7) ρ → ∀ {j : Nat}, j < nd → ∃ s', F_X0_bestRule nd n (Int32.ofNat j) s1 = some (bestF (eE (opV n (c.1 19) (c.1 20) (m.1 3)) (m.1 1) (c.1 23) nd (c.1 18 8).toInt.toNat) (c.1 18 7).toInt.toNat ρ j, s') ∧ bkM s1 s' ∧ ∀ d : Nat, d < 8 → s'.1 52 d = ρ d := by
    intro ρ s1 hb h52 hr1 j hj
    exact bestC_is hn hI hW (ts_b hI h hb) h52 hr1 (ofNat_int (by omega)) hj
  obtain ⟨E, hE⟩ : ∃ E, eE (opV n (c.1 19) (c.1 20) (m.1 3)) (m.1 1) (c.1 23) nd (c.1 18 8).toInt.toNat = E := ⟨_, rfl⟩
  rw [hE, htn2] at hbest ⊢
  obtain ⟨e, he, q1, q2, q3⟩ := lp_rule (body := B_X0_roundsChanged_59 nd n v2)
    (I := fun q k => ∃ j : Nat, k = nd - j ∧ j ≤ nd ∧ q.2.1 = Int32.ofNat j ∧ q.1 = (rdI E tn ρ j).2 ∧ bkM s q.2.2 ∧ ∀ d : Nat, d < 8 → q.2.2.1 52 d = (rdI E tn ρ j).1 d)
    (Q := fun e => e.1 = (rdI E tn ρ nd).2 ∧ bkM s e.2.2 ∧ ∀ d : Nat, d < 8 → e.2.2.1 52 d = (rdI E tn ρ nd).1 d) (by
    rintro ⟨ch, jI, s1⟩ k ⟨j, g0, g1, g2, g3, g4, g5⟩
    simp only at g2 g3 g4 g5
    subst g2
    have hjI : (Int32.ofNat j).toInt = j := ofNat_int (by omega)
    have f51 : s1.1 51 1 = Int32.ofNat nd := by rw [(ts_b hI h g4).1.2.2.2]; exact h51
    by_cases hj : j = nd
    · left
      subst hj
      refine ⟨(ch, Int32.ofNat j, s1), ?_, g3, g4, g5⟩
      unfold B_X0_roundsChanged_59
      dsimp only
      rw [f51, if_pos (i32_le.mpr (Int.le_refl _))]
    · right
      have hlt : j < nd := by omega
      have hnl : ¬ (Int32.ofNat nd) ≤ Int32.ofNat j := fun z => by have := i32_le.mp z; omega
      have jj : jin (Int32.ofNat j) 8 = true := jin_val hjI (by omega)
      have nj : (Int32.ofNat j).toNatClampNeg = j := nat_val hjI
      have hnext : Int32.ofNat j + 1 = Int32.ofNat (j + 1) := i32_eq.mpr (by rw [i32_add (by omega) (by omega), ofNat_int (by omega), ofNat_int (by omega)]; omega)
      have hrj := rd_rng (E := E) htn (by omega) hr j (by omega)
      obtain ⟨s2, r1, r2, r3⟩ := hbest g4 g5 hrj hlt
      have hrd : rdI E tn ρ (j + 1) = (upd (rdI E tn ρ j).1 j (bestF E tn (rdI E tn ρ j).1 j), (rdI E tn ρ j).2 || decide (¬ bestF E tn (rdI E tn ρ j).1 j = (rdI E tn ρ j).1 j)) := rfl
      obtain ⟨b, hbe⟩ : ∃ b, bestF E tn (rdI E tn ρ j).1 j = b := ⟨_, rfl⟩
      rw [hbe] at r1 hrd
      have h91 : ∀ k0 k1 : Bool, J_X0_roundsChanged_91 nd n v2 (Int32.ofNat j) b k0 k1 s2 = some (.inl ((k0 || k1), Int32.ofNat (j + 1), upI s2 52 j b)) := by
        intro k0 k1
        unfold J_X0_roundsChanged_91
        rw [if_pos jj, jl_1, nj, hnext]
      have hC : B_X0_roundsChanged_59 nd n v2 (ch, Int32.ofNat j, s1) = some (.inl ((ch || decide (¬ b = (rdI E tn ρ j).1 j)), Int32.ofNat (j + 1), upI s2 52 j b)) := by
        unfold B_X0_roundsChanged_59
        dsimp only
        rw [f51, if_neg hnl, r1, Option.bind_some, if_pos jj, nj, r3 j (by omega)]
        by_cases z : b = (rdI E tn ρ j).1 j
        · rw [if_pos z, h91, decide_eq_false (fun y => y z)]
        · rw [if_neg z, h91, decide_eq_true z]
      refine ⟨_, nd - (j + 1), by omega, hC, j + 1, rfl, by omega, rfl, ?_, bkM_tr g4 (bkM_tr r2 (bkM_52 _ _ _)), fun d hd => ?_⟩
      · show (ch || decide (¬ b = (rdI E tn ρ j).1 j)) = (rdI E tn ρ (j + 1)).2
        rw [hrd, g3]
      · show (upI s2 52 j b).1 52 d = (rdI E tn ρ (j + 1)).1 d
        rw [hrd, upI_1, if_pos rfl]
        show upd (s2.1 52) j b d = upd (rdI E tn ρ j).1 j b d
        by_cases z : d = j
        · rw [upd_eq z, upd_eq z]
        · rw [upd_ne z, upd_ne z]
          exact r3 d hd) nd n (false, 0, s) (by omega) ⟨0, rfl, by omega, rfl, rfl, bkM_rfl, hρ⟩
  exact ⟨e, he, q1, q2, q3⟩
end
