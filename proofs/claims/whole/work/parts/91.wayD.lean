/-! the reference's table, whole -/
def tM (m m' : jS) : Prop := (∀ k : Nat, ¬ k = 6 → ¬ k = 8 → ¬ k = 11 → ¬ k = 12 → m'.1 k = m.1 k) ∧ ∀ k : Nat, ¬ k = 7 → m'.2 k = m.2 k
theorem tM_rfl {m : jS} : tM m m := ⟨fun _ _ _ _ _ => rfl, fun _ _ => rfl⟩
theorem tM_tr {a b c : jS} (h1 : tM a b) (h2 : tM b c) : tM a c := ⟨fun k a1 a2 a3 a4 => (h2.1 k a1 a2 a3 a4).trans (h1.1 k a1 a2 a3 a4), fun k a1 => (h2.2 k a1).trans (h1.2 k a1)⟩
theorem tM_g {m m' : jS} (h : gM m m') : tM m m' := ⟨fun k a1 a2 a3 _ => h.1 k a1 a2 a3, h.2⟩
theorem tM_12 {m m' : jS} (h : tM m m') (j : Nat) (x : Int32) : tM m (upI m' 12 j x) := ⟨fun k a1 a2 a3 a4 => by rw [upI_1, if_neg a4]; exact h.1 k a1 a2 a3 a4, h.2⟩
theorem lfI_inj {h d w h' d' w' : Nat} (hd : d ≤ 8) (hw : w < 10) (hd' : d' ≤ 8) (hw' : w' < 10) (e : lfI h d w = lfI h' d' w') : h = h' ∧ d = d' ∧ w = w' := by
  unfold lfI at e
  omega
section
variable {n : Nat} {V : oV} {told : Int32} {nd : Nat} {a z3 : Nat → Int32} {v l H : Nat} {ky : Int32} {ρ : Nat → Int32} {lo hi : Nat}
def cellOK (L : Nat → Nat → Nat → Nat → Nat) (nd : Nat) (ex : Bool) (N : Nat) (m : jS) (h d w : Nat) : Prop := (m.1 12 (lfI h d w)).toInt = (vX L nd ex (N - h) h d w : Nat)
/-- the cells that are filled: all of later hours, of this hour those ahead -/
def filled (L : Nat → Nat → Nat → Nat → Nat) (nd : Nat) (ex : Bool) (N : Nat) (m : jS) (h d w : Nat) : Prop := ∀ h' d' w' : Nat, h' ≤ N → d' ≤ nd → w' < 10 → (h < h' ∨ (h' = h ∧ (d' < d ∨ (d' = d ∧ w' < w)))) → cellOK L nd ex N m h' d' w'
theorem filled_g {L : Nat → Nat → Nat → Nat → Nat} {ex : Bool} {N : Nat} {m m' : jS} {h d w : Nat} (hf : filled L nd ex N m h d w) (e : m'.1 12 = m.1 12) : filled L nd ex N m' h d w := by
  intro h' d' w' c1 c2 c3 c4
  unfold cellOK
  rw [e]
  exact hf h' d' w' c1 c2 c3 c4
theorem goerR_12 {m : jS} (h : goerR n V told nd a z3 v l H ky ρ lo hi m) (j : Nat) (x : Int32) : goerR n V told nd a z3 v l H ky ρ lo hi (upI m 12 j x) := goerR_s h (fun k hk => by rw [upI_1, if_neg (by omega)]) (cOK_s h.2.2.2.2.2.2.2.2.2.2 (by rw [upI_1, if_neg (by decide)]) (by rw [upI_1, if_neg (by decide)]))
/-- one cell -/
theorem cell_is (hn : 400000 ≤ n) {m : jS} (hG : goerR n V told nd a z3 v l H ky ρ lo hi m) {v1 v2 v4 v5 v6 : Int32} {ex : Bool} {N h d w : Nat} (e1 : v1.toInt = v) (e2 : v2.toInt = N) (e4 : v4.toInt = h) (e5 : v5.toInt = d) (e6 : v6.toInt = w) (hnd : nd ≤ 8) (hN : N ≤ 48) (hh : h ≤ N) (hd : d ≤ nd) (hw : w < 10)
    (hf : filled (sL V (freeB a ky) ρ l H) nd ex N m h d w) {x0 : Int32} (hx0 : x0 = if d = nd then (if h = N then 0 else if ex = true then 1000000 else 0) else 1000000) :
    ∃ e, lp (B_X9_reckon_61 n v1 v2 ex v4 v5 v6) n (x0, 0, m) = some e ∧ e.1.toInt = (vX (sL V (freeB a ky) ρ l H) nd ex (N - h) h d w : Nat) ∧ gM m e.2.2 ∧ goerR n V told nd a z3 v l H ky ρ lo hi e.2.2 := by
  have l0 : (0 : Int32).toInt = 0 := rfl
  have l1 : (1 : Int32).toInt = 1 := rfl
  have l8 : (8 : Int32).toInt = 8 := rfl
  have hndI : (Int32.ofNat nd).toInt = nd := ofNat_int (by omega)
  obtain ⟨n', rfl⟩ : ∃ n', n = n' + 1 := ⟨n - 1, by omega⟩
  have h02 : m.1 0 2 = Int32.ofNat nd := hG.2.2.2.1
  by_cases hdn : d = nd
  · refine ⟨(x0, 0, m), ?_, ?_, gM_rfl, hG⟩
    · show (B_X9_reckon_61 (n' + 1) v1 v2 ex v4 v5 v6 (x0, 0, m)).bind _ = _
      have : B_X9_reckon_61 (n' + 1) v1 v2 ex v4 v5 v6 (x0, 0, m) = some (.inr (x0, 0, m)) := by
        unfold B_X9_reckon_61
        dsimp only
        rw [if_neg (by decide)]
        by_cases z : v2 ≤ v4
        · rw [if_pos z]
        · rw [if_neg z, h02, if_pos (i32_le.mpr (by omega))]
      rw [this]
      rfl
    · show x0.toInt = _
      rw [hx0, if_pos hdn]
      by_cases hhN : h = N
      · rw [if_pos hhN, show N - h = 0 from by omega]
        show (0 : Int32).toInt = ((if d = nd then 0 else 1000000 : Nat) : Int)
        rw [if_pos hdn]
        rfl
      · rw [if_neg hhN]
        obtain ⟨r, hr⟩ : ∃ r, N - h = r + 1 := ⟨N - h - 1, by omega⟩
        rw [hr]
        show _ = ((if d = nd then (if ex = true then 1000000 else 0) else minTo _ 8 : Nat) : Int)
        rw [if_pos hdn]
        cases ex <;> rfl
  · rw [if_neg hdn] at hx0
    by_cases hhN : h = N
    · refine ⟨(x0, 0, m), ?_, ?_, gM_rfl, hG⟩
      · show (B_X9_reckon_61 (n' + 1) v1 v2 ex v4 v5 v6 (x0, 0, m)).bind _ = _
        have : B_X9_reckon_61 (n' + 1) v1 v2 ex v4 v5 v6 (x0, 0, m) = some (.inr (x0, 0, m)) := by
          unfold B_X9_reckon_61
          dsimp only
          rw [if_neg (by decide), if_pos (i32_le.mpr (by omega))]
        rw [this]
        rfl
      · show x0.toInt = _
        rw [hx0, show N - h = 0 from by omega]
        show _ = ((if d = nd then 0 else 1000000 : Nat) : Int)
        rw [if_neg hdn]
        rfl
    · obtain ⟨r, hr⟩ : ∃ r, N - h = r + 1 := ⟨N - h - 1, by omega⟩
      rw [hr, vX_s hdn]
      have hT : tabR nd m (h + 1) (vX (sL V (freeB a ky) ρ l H) nd ex r (h + 1)) := by
        intro d' w' c1 c2
        have := hf (h + 1) d' w' (by omega) c1 c2 (Or.inl (by omega))
        unfold cellOK at this
        rw [show N - (h + 1) = r from by omega] at this
        exact ⟨this, vX_M _ _ _ _ _⟩
      obtain ⟨e, he, q1, q2, q3⟩ := lp_rule (body := B_X9_reckon_61 (n' + 1) v1 v2 ex v4 v5 v6)
        (I := fun q j => ∃ k : Nat, k ≤ 8 ∧ j = 8 - k ∧ q.2.1.toInt = k ∧ q.1.toInt = (minTo (optX (sL V (freeB a ky) ρ l H) (vX (sL V (freeB a ky) ρ l H) nd ex r (h + 1)) h d w) k : Nat) ∧ gM m q.2.2 ∧ goerR (n' + 1) V told nd a z3 v l H ky ρ lo hi q.2.2)
        (Q := fun e => e.1.toInt = (minTo (optX (sL V (freeB a ky) ρ l H) (vX (sL V (freeB a ky) ρ l H) nd ex r (h + 1)) h d w) 8 : Nat) ∧ gM m e.2.2 ∧ goerR (n' + 1) V told nd a z3 v l H ky ρ lo hi e.2.2) (by
        rintro ⟨x, kk, s⟩ j ⟨k, g1, g2, g3, g4, g5, g6⟩
        simp only at g3 g4 g5 g6
        by_cases h8 : 8 ≤ kk
        · left
          have h8' := i32_le.mp h8
          have hk8 : k = 8 := by omega
          subst hk8
          exact ⟨(x, kk, s), by unfold B_X9_reckon_61; dsimp only; rw [if_pos h8], g4, g5, g6⟩
        · right
          have h8' : ¬ (8 : Int32).toInt ≤ kk.toInt := fun z => h8 (i32_le.mpr z)
          have s02 : s.1 0 2 = Int32.ofNat nd := g6.2.2.2.1
          obtain ⟨y, s', a1, a2, a3, a4⟩ := by_is hn g6 (v1 := v1) (v2 := v4) (v3 := v5) (v4 := v6) (v5 := kk) e1 e4 e5 e6 g3 hnd (by omega) (by omega) hw (by omega) (fun d' w' c1 c2 => by
            rw [g5.1 12 (by decide) (by decide) (by decide)]; exact hT d' w' c1 c2)
          have hk1 : (kk + 1).toInt = ((k + 1 : Nat) : Int) := by rw [i32_add (by omega) (by omega)]; omega
          have hb : B_X9_reckon_61 (n' + 1) v1 v2 ex v4 v5 v6 (x, kk, s) = some (.inl (if x ≤ y then x else y, kk + 1, s')) := by
            unfold B_X9_reckon_61
            dsimp only
            rw [if_neg h8, if_neg (fun z => by have := i32_le.mp z; omega), s02, if_neg (fun z => by have := i32_le.mp z; omega), a1, Option.bind_some]
            by_cases z : x ≤ y
            · rw [if_pos z, if_pos z]
            · rw [if_neg z, if_neg z]
          refine ⟨_, 8 - (k + 1), by omega, hb, k + 1, by omega, rfl, hk1, ?_, gM_tr g5 a3, a4⟩
          show (if x ≤ y then x else y).toInt = ((if minTo _ k ≤ optX _ _ h d w k then minTo _ k else optX _ _ h d w k : Nat) : Int)
          by_cases z : x ≤ y
          · have := i32_le.mp z
            rw [if_pos z, if_pos (by omega), g4]
          · have : ¬ x.toInt ≤ y.toInt := fun q => z (i32_le.mpr q)
            rw [if_neg z, if_neg (by omega), a2]) 8 (n' + 1) (x0, 0, m) (by omega) ⟨0, by decide, rfl, rfl, by show x0.toInt = _; rw [hx0]; rfl, gM_rfl, hG⟩
      exact ⟨e, he, q1, q2, q3⟩
theorem filled_up {L : Nat → Nat → Nat → Nat → Nat} {ex : Bool} {N : Nat} {m : jS} {h d w : Nat} {x : Int32} (hnd : nd ≤ 8) (hd : d ≤ nd) (hw : w < 10) (hf : filled L nd ex N m h d w) (hx : x.toInt = (vX L nd ex (N - h) h d w : Nat)) : filled L nd ex N (upI m 12 (lfI h d w) x) h d (w + 1) := by
  intro h' d' w' c1 c2 c3 c4
  unfold cellOK
  rw [upI_1, if_pos rfl]
  by_cases e : lfI h' d' w' = lfI h d w
  · obtain ⟨rfl, rfl, rfl⟩ := lfI_inj (by omega) c3 (by omega) hw e
    rw [upd_eq rfl]
    exact hx
  · rw [upd_ne e]
    refine hf h' d' w' c1 c2 c3 ?_
    have : ¬ (h' = h ∧ d' = d ∧ w' = w) := fun z => e (by rw [z.1, z.2.1, z.2.2])
    omega
/-- the cells of one door at an hour -/
theorem reckon23_is (hn : 400000 ≤ n) {m : jS} (hG : goerR n V told nd a z3 v l H ky ρ lo hi m) {v1 v2 v4 v5 : Int32} {ex : Bool} {N h d : Nat} (e1 : v1.toInt = v) (e2 : v2.toInt = N) (e4 : v4.toInt = h) (e5 : v5.toInt = d) (hnd : nd ≤ 8) (hN : N ≤ 48) (hh : h ≤ N) (hd : d ≤ nd)
    (hf : filled (sL V (freeB a ky) ρ l H) nd ex N m h d 0) :
    ∃ e, lp (B_X9_reckon_23 n v1 v2 ex v4 v5) n (0, m) = some e ∧ filled (sL V (freeB a ky) ρ l H) nd ex N e.2 h d 10 ∧ tM m e.2 ∧ goerR n V told nd a z3 v l H ky ρ lo hi e.2 := by
  have l10 : (10 : Int32).toInt = 10 := rfl
  have l1 : (1 : Int32).toInt = 1 := rfl
  have hndI : (Int32.ofNat nd).toInt = nd := ofNat_int (by omega)
  obtain ⟨e, he, q1, q2, q3⟩ := lp_rule (body := B_X9_reckon_23 n v1 v2 ex v4 v5)
    (I := fun q j => ∃ w : Nat, w ≤ 10 ∧ j = 10 - w ∧ q.1.toInt = w ∧ filled (sL V (freeB a ky) ρ l H) nd ex N q.2 h d w ∧ tM m q.2 ∧ goerR n V told nd a z3 v l H ky ρ lo hi q.2)
    (Q := fun e => filled (sL V (freeB a ky) ρ l H) nd ex N e.2 h d 10 ∧ tM m e.2 ∧ goerR n V told nd a z3 v l H ky ρ lo hi e.2) (by
    rintro ⟨ww, s⟩ j ⟨w, g1, g2, g3, g4, g5, g6⟩
    simp only at g3 g4 g5 g6
    by_cases h10 : 10 ≤ ww
    · left
      have h10' := i32_le.mp h10
      have hw : w = 10 := by omega
      subst hw
      exact ⟨(ww, s), by unfold B_X9_reckon_23; dsimp only; rw [if_pos h10], g4, g5, g6⟩
    · right
      have h10' : ¬ (10 : Int32).toInt ≤ ww.toInt := fun z => h10 (i32_le.mpr z)
      have s02 : s.1 0 2 = Int32.ofNat nd := g6.2.2.2.1
      obtain ⟨x0, hx0⟩ : ∃ x0 : Int32, x0 = if d = nd then (if h = N then 0 else if ex = true then 1000000 else 0) else 1000000 := ⟨_, rfl⟩
      obtain ⟨e, a1, a2, a3, a4⟩ := cell_is hn g6 (v1 := v1) (v2 := v2) (v4 := v4) (v5 := v5) (v6 := ww) (ex := ex) e1 e2 e4 e5 g3 hnd hN hh hd (by omega) g4 hx0
      obtain ⟨t1, t2⟩ := left_i32 (x := v4) (y := v5) (z := ww) e4 e5 g3 (by omega) (by omega) (by omega)
      have hb : B_X9_reckon_23 n v1 v2 ex v4 v5 (ww, s) = some (.inl (ww + 1, upI e.2.2 12 (lfI h d w) e.1)) := by
        have fin : ∀ y : Int32, y = x0 → ((lp (B_X9_reckon_61 n v1 v2 ex v4 v5 ww) n (y, 0, s)).bind fun e61 => (if jin (F_X9_leftAt v4 v5 ww) 4410 = true then (jl (upI e61.2.2 12 (Int32.toNatClampNeg (F_X9_leftAt v4 v5 ww)) e61.1) fun s130_4 => some (.inl ((ww + 1), s130_4))) else none)) = (some (.inl (ww + 1, upI e.2.2 12 (lfI h d w) e.1)) : Option ((Int32 × jS) ⊕ (Int32 × jS))) := fun y hy => by
          rw [hy, a1, Option.bind_some, if_pos (jin_val t1 t2), jl_1, nat_val t1]
        unfold B_X9_reckon_23
        dsimp only
        rw [if_neg h10, s02]
        by_cases z1 : d = nd
        · rw [if_pos (i32_eq.mpr (by omega))]
          rw [if_pos z1] at hx0
          by_cases z2 : h = N
          · rw [if_pos (i32_eq.mpr (by omega))]
            rw [if_pos z2] at hx0
            exact fin 0 hx0.symm
          · rw [if_neg (fun z => z2 (by have := i32_eq.mp z; omega))]
            rw [if_neg z2] at hx0
            by_cases z3 : ex = true
            · rw [if_pos z3]
              rw [if_pos z3] at hx0
              exact fin _ hx0.symm
            · rw [if_neg z3]
              rw [if_neg z3] at hx0
              exact fin _ hx0.symm
        · rw [if_neg (fun z => z1 (by have := i32_eq.mp z; omega))]
          rw [if_neg z1] at hx0
          exact fin _ hx0.symm
      have hw1 : (ww + 1).toInt = ((w + 1 : Nat) : Int) := by rw [i32_add (by omega) (by omega)]; omega
      exact ⟨_, 10 - (w + 1), by omega, hb, w + 1, by omega, rfl, hw1, filled_up hnd hd (by omega) (filled_g g4 (a3.1 12 (by decide) (by decide) (by decide))) a2, tM_12 (tM_tr g5 (tM_g a3)) _ _, goerR_12 a4 _ _⟩) 10 n (0, m) (by omega) ⟨0, by decide, rfl, rfl, hf, tM_rfl, hG⟩
  exact ⟨e, he, q1, q2, q3⟩
/-- the doors of one hour -/
theorem reckon11_is (hn : 400000 ≤ n) {m : jS} (hG : goerR n V told nd a z3 v l H ky ρ lo hi m) {v1 v2 v4 : Int32} {ex : Bool} {N h : Nat} (e1 : v1.toInt = v) (e2 : v2.toInt = N) (e4 : v4.toInt = h) (hnd : nd ≤ 8) (hN : N ≤ 48) (hh : h ≤ N)
    (hf : filled (sL V (freeB a ky) ρ l H) nd ex N m h 0 0) :
    ∃ e, lp (B_X9_reckon_11 n v1 v2 ex v4) n (0, m) = some e ∧ filled (sL V (freeB a ky) ρ l H) nd ex N e.2 h (nd + 1) 0 ∧ tM m e.2 ∧ goerR n V told nd a z3 v l H ky ρ lo hi e.2 := by
  have l1 : (1 : Int32).toInt = 1 := rfl
  have hndI : (Int32.ofNat nd).toInt = nd := ofNat_int (by omega)
  obtain ⟨e, he, q1, q2, q3⟩ := lp_rule (body := B_X9_reckon_11 n v1 v2 ex v4)
    (I := fun q j => ∃ d : Nat, d ≤ nd + 1 ∧ j = nd + 1 - d ∧ q.1.toInt = d ∧ filled (sL V (freeB a ky) ρ l H) nd ex N q.2 h d 0 ∧ tM m q.2 ∧ goerR n V told nd a z3 v l H ky ρ lo hi q.2)
    (Q := fun e => filled (sL V (freeB a ky) ρ l H) nd ex N e.2 h (nd + 1) 0 ∧ tM m e.2 ∧ goerR n V told nd a z3 v l H ky ρ lo hi e.2) (by
    rintro ⟨dd, s⟩ j ⟨d, g1, g2, g3, g4, g5, g6⟩
    simp only at g3 g4 g5 g6
    have s02 : s.1 0 2 = Int32.ofNat nd := g6.2.2.2.1
    by_cases h10 : Int32.ofNat nd < dd
    · left
      have h10' := i32_lt.mp h10
      have hw : d = nd + 1 := by omega
      subst hw
      exact ⟨(dd, s), by unfold B_X9_reckon_11; dsimp only; rw [s02, if_pos h10], g4, g5, g6⟩
    · right
      have h10' : ¬ (Int32.ofNat nd).toInt < dd.toInt := fun z => h10 (i32_lt.mpr z)
      obtain ⟨e, a1, a2, a3, a4⟩ := reckon23_is hn g6 (v1 := v1) (v2 := v2) (v4 := v4) (v5 := dd) (ex := ex) e1 e2 e4 g3 hnd hN hh (by omega) g4
      have hw1 : (dd + 1).toInt = ((d + 1 : Nat) : Int) := by rw [i32_add (by omega) (by omega)]; omega
      refine ⟨(dd + 1, e.2), nd + 1 - (d + 1), by omega, by unfold B_X9_reckon_11; dsimp only; rw [s02, if_neg h10, a1, Option.bind_some], d + 1, by omega, rfl, hw1, ?_, tM_tr g5 a3, a4⟩
      intro h' d' w' c1 c2 c3 c4
      exact a2 h' d' w' c1 c2 c3 (by omega)) (nd + 1) n (0, m) (by omega) ⟨0, by omega, rfl, rfl, hf, tM_rfl, hG⟩
  exact ⟨e, he, q1, q2, q3⟩
theorem reckon_is (hn : 400000 ≤ n) {m : jS} (hG : goerR n V told nd a z3 v l H ky ρ lo hi m) {v1 v2 : Int32} {ex : Bool} {N : Nat} (e1 : v1.toInt = v) (e2 : v2.toInt = N) (hnd : nd ≤ 8) (hN : N ≤ 48) :
    ∃ x m', F_X9_reckon n v1 v2 ex m = some (x, m') ∧ x.toInt = (vX (sL V (freeB a ky) ρ l H) nd ex N 0 0 0 : Nat) ∧ (∀ h d w : Nat, h ≤ N → d ≤ nd → w < 10 → cellOK (sL V (freeB a ky) ρ l H) nd ex N m' h d w) ∧ tM m m' ∧ goerR n V told nd a z3 v l H ky ρ lo hi m' := by
  have lm : (-1 : Int32).toInt = -1 := rfl
  have l0 : (0 : Int32).toInt = 0 := rfl
  have lM : (1000000 : Int32).toInt = 1000000 := rfl
  obtain ⟨e, he, q1, q2, q3⟩ := lp_rule (body := B_X9_reckon_3 n v1 v2 ex)
    (I := fun q j => j ≤ N + 1 ∧ q.1.toInt = (j : Int) - 1 ∧ (∀ h d w : Nat, j ≤ h → h ≤ N → d ≤ nd → w < 10 → cellOK (sL V (freeB a ky) ρ l H) nd ex N q.2 h d w) ∧ tM m q.2 ∧ goerR n V told nd a z3 v l H ky ρ lo hi q.2)
    (Q := fun e => (∀ h d w : Nat, h ≤ N → d ≤ nd → w < 10 → cellOK (sL V (freeB a ky) ρ l H) nd ex N e.2 h d w) ∧ tM m e.2 ∧ goerR n V told nd a z3 v l H ky ρ lo hi e.2) (by
    rintro ⟨hq, s⟩ j ⟨g1, g2, g3, g4, g5⟩
    simp only at g2 g3 g4 g5
    by_cases h0 : hq < 0
    · left
      have h0' := i32_lt.mp h0
      exact ⟨(hq, s), by unfold B_X9_reckon_3; dsimp only; rw [if_pos h0], fun h d w c1 c2 c3 => g3 h d w (by omega) c1 c2 c3, g4, g5⟩
    · right
      have h0' : ¬ hq.toInt < (0 : Int32).toInt := fun z => h0 (i32_lt.mpr z)
      obtain ⟨h, rfl⟩ : ∃ h, j = h + 1 := ⟨j - 1, by omega⟩
      obtain ⟨e, a1, a2, a3, a4⟩ := reckon11_is hn g5 (v1 := v1) (v2 := v2) (v4 := hq) (ex := ex) (N := N) (h := h) e1 e2 (by omega) hnd hN (by omega) (fun h' d' w' c1 c2 c3 c4 => g3 h' d' w' (by omega) c1 c2 c3)
      obtain ⟨y, hy⟩ : ∃ y, hq + (-1) = y := ⟨_, rfl⟩
      have hw1 : y.toInt = (h : Int) - 1 := by rw [← hy, i32_add (by omega) (by omega)]; omega
      exact ⟨(y, e.2), h, Nat.lt_succ_self h, by unfold B_X9_reckon_3; dsimp only; rw [if_neg h0, a1, Option.bind_some, hy], Nat.le_trans (Nat.le_succ h) g1, hw1, fun h' d' w' c0 c1 c2 c3 => a2 h' d' w' c1 c2 c3 (by omega), tM_tr g4 a3, a4⟩) (N + 1) n (v2, m) (by omega) ⟨Nat.le_refl _, by show v2.toInt = _; omega, fun h d w c0 c1 => by omega, tM_rfl, hG⟩
  have hc := q1 0 0 0 (by omega) (by omega) (by omega)
  unfold cellOK at hc
  rw [show lfI 0 0 0 = 0 from rfl, Nat.sub_zero] at hc
  have hM := vX_M (L := sL V (freeB a ky) ρ l H) (D := nd) ex N 0 0 0
  have hre : F_X9_reckon n v1 v2 ex m = (if (e.2.1 12 0) < 1000000 then some ((e.2.1 12 0), e.2) else some (1000000, e.2)) := by
    unfold F_X9_reckon
    rw [he, Option.bind_some]
    rfl
  by_cases z : (e.2.1 12 0) < 1000000
  · exact ⟨_, e.2, by rw [hre, if_pos z], hc, q1, q2, q3⟩
  · have : ¬ (e.2.1 12 0).toInt < (1000000 : Int32).toInt := fun y => z (i32_lt.mpr y)
    exact ⟨_, e.2, by rw [hre, if_neg z], by omega, q1, q2, q3⟩
end
