section
variable {nd n : Nat} {EO : jEO} {c m : jS}
theorem free_is (hI : Inv nd jText (LOw nd n) EO c m) (ky : Int32) {d : Nat} (hd : d < nd) : freeB (m.1 1) ky d = true ↔ (jz (c.1 22 d) = true ∨ F_X8_hasKey ky (Int32.ofNat d) = true) := by
  have h8 := (I_nd hI).2
  have hh := hI.1.2.1.2.2.2.2.1 d (by omega)
  unfold freeB hasN
  rw [Bool.or_eq_true, decide_eq_true_eq, hh, hasKey_eq]
theorem rule_is (hI : Inv nd jText (LOw nd n) EO c m) {d : Nat} (hd : d < 8) : c.1 21 d = m.1 1 (28 + d) ∧ -1 ≤ (c.1 21 d).toInt ∧ (c.1 21 d).toInt < (c.1 18 7).toInt := hI.1.2.1.2.2.2.1 d hd
/-- the rules of the doors learnt for a way -/
theorem wayLearn (hn : 400000 ≤ n) (hI : Inv nd jText (LOw nd n) EO c m) {v1 v2 v3 v4 v5 v7 : Int32} {v6 : Bool} {l : Nat} (e1 : v1.toInt = l) (hl : l ≤ 9) :
    ∃ e, lp (B_X8_way_29 nd n v1 v2 v3 v4 v5 v6 v7) n (0, c) = some e ∧ lnM c e.2 ∧ (jz (e.2.1 29 6) = true ∨ tabOK (opV n (c.1 19) (c.1 20) (m.1 3)) e.2 (e.2.2 32) nd (c.1 18 7)) ∧ ∀ d : Nat, d < nd → freeB (m.1 1) v2 d = false → ¬ jz (e.2.1 29 6) = true ∧ ∀ t : Nat, (c.1 21 d).toInt = t → jz (c.1 (2 + 4 * t) 6) = true → ¬ e.2.2 32 (plI nd (c.1 (2 + 4 * t) 5) t d l) = 0 := by
  have l0 : (0 : Int32).toInt = 0 := rfl
  have l1 : (1 : Int32).toInt = 1 := rfl
  obtain ⟨hnd1, hnd⟩ := I_nd hI
  have ha := I_asks hI
  have h29 : c.1 29 0 = Int32.ofNat nd := hI.1.1.2.2.1
  obtain ⟨e, he, q1, q2, q3⟩ := lp_rule (body := B_X8_way_29 nd n v1 v2 v3 v4 v5 v6 v7)
    (I := fun q k => ∃ j : Nat, k = nd - j ∧ j ≤ nd ∧ q.1 = Int32.ofNat j ∧ lnM c q.2 ∧ (jz (q.2.1 29 6) = true ∨ tabOK (opV n (c.1 19) (c.1 20) (m.1 3)) q.2 (q.2.2 32) nd (c.1 18 7)) ∧ ∀ d : Nat, d < j → freeB (m.1 1) v2 d = false → ¬ jz (q.2.1 29 6) = true ∧ ∀ t : Nat, (c.1 21 d).toInt = t → jz (c.1 (2 + 4 * t) 6) = true → ¬ q.2.2 32 (plI nd (c.1 (2 + 4 * t) 5) t d l) = 0)
    (Q := fun e => lnM c e.2 ∧ (jz (e.2.1 29 6) = true ∨ tabOK (opV n (c.1 19) (c.1 20) (m.1 3)) e.2 (e.2.2 32) nd (c.1 18 7)) ∧ ∀ d : Nat, d < nd → freeB (m.1 1) v2 d = false → ¬ jz (e.2.1 29 6) = true ∧ ∀ t : Nat, (c.1 21 d).toInt = t → jz (c.1 (2 + 4 * t) 6) = true → ¬ e.2.2 32 (plI nd (c.1 (2 + 4 * t) 5) t d l) = 0) (by
    rintro ⟨jI, s⟩ k ⟨j, g0, g1, g2, g3, g4, g5⟩
    simp only at g2 g3 g4 g5
    subst g2
    have hjI : (Int32.ofNat j).toInt = j := ofNat_int (by omega)
    have s0 : s.1 0 0 = c.1 0 0 := by rw [g3.1 0 (by decide) (by decide) (by decide)]
    have hndI := I_ndI hI
    by_cases c1 : (s.1 0 0) ≤ Int32.ofNat j
    · left
      have c1' := i32_le.mp c1
      rw [s0] at c1'
      have : j = nd := by omega
      subst this
      exact ⟨(Int32.ofNat j, s), by unfold B_X8_way_29; dsimp only; rw [if_pos c1], g3, g4, g5⟩
    · right
      have c1' : ¬ (s.1 0 0).toInt ≤ (Int32.ofNat j).toInt := fun z => c1 (i32_le.mpr z)
      rw [s0] at c1'
      have hj : j < nd := by omega
      have jj : jin (Int32.ofNat j) 8 = true := jin_val hjI (by omega)
      have nj : (Int32.ofNat j).toNatClampNeg = j := nat_val hjI
      have hnext : Int32.ofNat j + 1 = Int32.ofNat (j + 1) := i32_eq.mpr (by rw [i32_add (by omega) (by omega), ofNat_int (by omega), ofNat_int (by omega)]; omega)
      have s22 : s.1 22 = c.1 22 := g3.1 22 (by decide) (by decide) (by decide)
      have s21 : s.1 21 = c.1 21 := g3.1 21 (by decide) (by decide) (by decide)
      have s18 : s.1 18 = c.1 18 := g3.1 18 (by decide) (by decide) (by decide)
      have s19 : s.1 19 = c.1 19 := g3.1 19 (by decide) (by decide) (by decide)
      have s20 : s.1 20 = c.1 20 := g3.1 20 (by decide) (by decide) (by decide)
      have hf := free_is hI v2 hj
      by_cases hfj : freeB (m.1 1) v2 j = true
      · refine ⟨(Int32.ofNat (j + 1), s), nd - (j + 1), by omega, ?_, j + 1, rfl, by omega, rfl, g3, g4, fun d hd hfd => ?_⟩
        · unfold B_X8_way_29
          dsimp only
          rw [if_neg c1, if_pos jj, nj, s22]
          rcases hf.mp hfj with q | q
          · rw [if_pos q, hnext]
          · by_cases z : jz (c.1 22 j) = true
            · rw [if_pos z, hnext]
            · rw [if_neg z, if_pos q, hnext]
        · by_cases z : d = j
          · rw [z, hfj] at hfd
            cases hfd
          · exact g5 d (by omega) hfd
      · have hnf : ¬ jz (c.1 22 j) = true ∧ ¬ F_X8_hasKey v2 (Int32.ofNat j) = true := ⟨fun z => hfj (hf.mpr (Or.inl z)), fun z => hfj (hf.mpr (Or.inr z))⟩
        have ha1 := asksR_l ha g3
        have hr := (rule_is hI (d := j) (by omega)).2
        have sT : ∀ t : Nat, t < 4 → s.1 (2 + 4 * t) = c.1 (2 + 4 * t) := fun t ht => g3.1 _ (by omega) (by omega) (by omega)
        have h4 := ha.2.1
        obtain ⟨s', r1, r2, r3, r4, r5, r6⟩ := learn_is hn ha1 (v1 := c.1 21 j) (v2 := Int32.ofNat j) (v3 := v1) hnd (by rw [g3.2.1 0 (by decide)]; exact h29) hj hl (by rw [s18]; exact hr) hjI e1 (by rw [s18, s19, s20]; exact g4)
        rw [s18, s19, s20] at r4
        refine ⟨(Int32.ofNat (j + 1), s'), nd - (j + 1), by omega, ?_, j + 1, rfl, by omega, rfl, lnM_tr g3 r2, Or.inr r4, fun d hd hfd => ⟨r3, fun t ht hz => ?_⟩⟩
        · unfold B_X8_way_29
          dsimp only
          rw [if_neg c1, if_pos jj, nj, s22, if_neg hnf.1, if_neg hnf.2, s21, r1, Option.bind_some, hnext]
        · have ht4 : t < 4 := by
            have := (rule_is hI (d := d) (by omega)).2
            omega
          by_cases z : d = j
          · subst z
            have := r6 t ht
            rw [sT t ht4] at this
            exact this hz
          · have := g5 d (by omega) hfd
            exact r5 this.1 _ (this.2 t ht hz)) nd n (0, c) (by omega) ⟨0, rfl, by omega, rfl, lnM_rfl, I_tab hI, fun d hd => absurd hd (Nat.not_lt_zero d)⟩
  exact ⟨e, he, q1, q2, q3⟩
/-- the class's way -/
theorem way_cls (hn : 400000 ≤ n) (hI : Inv nd jText (LOw nd n) EO c m) {v1 v2 v3 v4 v5 v7 : Int32} {v6 : Bool} {l H N P : Nat} (ht : F_X8_isTraveller v1 v2 v3 v5 c = true) (hw : F_X8_within v4 1 48 = true) (e1 : v1.toInt = l) (hl : l ≤ 9) (e3 : v3.toInt = H) (hH : H < 24) (e4 : v4.toInt = N) (hN1 : 1 ≤ N) (hN : N ≤ 48) (e5 : v5.toInt = P) (hP : P ≤ 99) :
    ∃ b c', F_X8_way nd n v1 v2 v3 v4 v5 v6 v7 c = J_X8_way_136 nd n v7 b c' ∧ wkC c c' ∧ c'.1 51 = c.1 51 ∧ c'.1 52 = c.1 52 ∧ rLeasts (LOw nd n) (c'.1 29) (c'.2 32) (c.1 19) (c.1 20) (m.1 3) (c.1 18 7) ∧
      ((b = true ∧ ∃ M : Nat, 1 ≤ M ∧ M ≤ N ∧ aff (sL (opV n (c.1 19) (c.1 20) (m.1 3)) (freeB (m.1 1) v2) (c.1 21) l H) nd false M P ∧ toldC (sL (opV n (c.1 19) (c.1 20) (m.1 3)) (freeB (m.1 1) v2) (c.1 21) l H) nd M c' ∧ (v6 = true → ∀ r : Nat, r < M → ¬ aff (sL (opV n (c.1 19) (c.1 20) (m.1 3)) (freeB (m.1 1) v2) (c.1 21) l H) nd false r P) ∧ (v6 = false → M = N)) ∨ (b = false ∧ ¬ aff (sL (opV n (c.1 19) (c.1 20) (m.1 3)) (freeB (m.1 1) v2) (c.1 21) l H) nd false N P)) := by
  obtain ⟨hnd1, hnd⟩ := I_nd hI
  have ha := I_asks hI
  obtain ⟨e, he, q1, q2, q3⟩ := wayLearn hn hI (v1 := v1) (v2 := v2) (v3 := v3) (v4 := v4) (v5 := v5) (v6 := v6) (v7 := v7) e1 hl
  have ha1 := asksR_l ha q1
  have s18 : e.2.1 18 = c.1 18 := q1.1 18 (by decide) (by decide) (by decide)
  have s19 : e.2.1 19 = c.1 19 := q1.1 19 (by decide) (by decide) (by decide)
  have s20 : e.2.1 20 = c.1 20 := q1.1 20 (by decide) (by decide) (by decide)
  have s21 : e.2.1 21 = c.1 21 := q1.1 21 (by decide) (by decide) (by decide)
  have s22 : e.2.1 22 = c.1 22 := q1.1 22 (by decide) (by decide) (by decide)
  have hrdy : rdy n e.2 m nd l (freeB (m.1 1) v2) (c.1 21) 21 := by
    refine ⟨ha1, ⟨hnd1, hnd⟩, by rw [q1.2.1 0 (by decide)]; exact hI.1.1.2.2.1, by rw [q1.1 33 (by decide) (by decide) (by decide)]; exact hI.1.1.2.2.2.1, hl, fun d hd => by rw [s21], fun d hd => by rw [s18]; exact (rule_is hI (d := d) (by omega)).2, fun d hd hfd _ => ?_, fun d hd hfd t ht hz => ?_⟩
    · rw [s18, s19, s20]
      exact q2.resolve_left (q3 d hd hfd).1
    · have ht4 : t < 4 := by
        have := (rule_is hI (d := d) (by omega)).2
        have := ha.2.1
        omega
      rw [q1.1 _ (by omega) (by omega) (by omega)] at hz ⊢
      exact (q3 d hd hfd).2 t ht hz
  have hf : ∀ d : Nat, d < nd → (freeB (m.1 1) v2 d = true ↔ (jz (e.2.1 22 d) = true ∨ F_X8_hasKey v2 (Int32.ofNat d) = true)) := fun d hd => by rw [s22]; exact free_is hI v2 hd
  have hkeep : ∀ s' : jS, wyM e.2 s' → wkC c s' ∧ s'.1 51 = c.1 51 ∧ s'.1 52 = c.1 52 ∧ rLeasts (LOw nd n) (s'.1 29) (s'.2 32) (c.1 19) (c.1 20) (m.1 3) (c.1 18 7) := by
    intro s' hs'
    have hwk := wkC_tr (wkC_l q1) (wkC_w hs')
    refine ⟨hwk, by rw [hs'.1 51 (by decide), q1.1 51 (by decide) (by decide) (by decide)], by rw [hs'.1 52 (by decide), q1.1 52 (by decide) (by decide) (by decide)], L_keep hI hwk ?_⟩
    rw [hs'.1 29 (by decide), hs'.2.2]
    rcases q2 with q | q
    · exact Or.inl q
    · exact Or.inr (tab_s q ha.2.1 (fun r hr => hs'.1 _ (by omega)))
  cases v6 with
  | true =>
    obtain ⟨b, s', r1, r2, r3⟩ := findSoonest_is hn hrdy (v2 := v1) (v3 := v2) (v4 := v3) (v5 := v4) (v6 := v5) e1 e3 hH e4 hN1 hN e5 hP hf
    rw [s19, s20] at r3
    obtain ⟨k1, k2, k3, k4⟩ := hkeep s' r2
    refine ⟨b, s', ?_, k1, k2, k3, k4, ?_⟩
    · unfold F_X8_way
      rw [if_pos ht, if_pos hw, he, Option.bind_some, if_pos rfl, r1, Option.bind_some]
    · rcases r3 with ⟨hb, M, a1, a2, a3, a4, a5⟩ | z
      · exact Or.inl ⟨hb, M, a1, a2, a3, a5, fun _ => a4, fun z => (by cases z)⟩
      · exact Or.inr z
  | false =>
    obtain ⟨b, s', r1, r2, r3⟩ := findCheapest21_is hn hrdy (v2 := v1) (v3 := v2) (v4 := v3) (v5 := v4) (v6 := v5) e1 e3 hH e4 hN1 hN e5 hP hf
    rw [s19, s20] at r3
    obtain ⟨k1, k2, k3, k4⟩ := hkeep s' r2
    refine ⟨b, s', ?_, k1, k2, k3, k4, ?_⟩
    · unfold F_X8_way
      rw [if_pos ht, if_pos hw, he, Option.bind_some, if_neg (fun z => by cases z), r1, Option.bind_some]
    · rcases r3 with ⟨hb, a3, a4, a5⟩ | z
      · exact Or.inl ⟨hb, N, hN1, Nat.le_refl _, a3, a5, fun z => (by cases z), fun _ => rfl⟩
      · exact Or.inr z
end
