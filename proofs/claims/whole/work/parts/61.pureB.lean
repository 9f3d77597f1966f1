/-! the traveller: steps kept, hours, undo, later -/
section
variable {nd : Nat} {TX : jTX} {LO : jLO} {EO : jEO} {c m c' m' : jS}
theorem Inv_walk (hI : Inv nd TX LO EO c m) (hc : ∀ k : Nat, ¬ k = 25 → ¬ k = 26 → c'.1 k = c.1 k) (hc2 : c'.2 = c.2) (hm : onlyRow 1 m m')
    (s0 : sam (m.1 1) (m'.1 1) 0 1) (s1 : sam (m.1 1) (m'.1 1) 2 5) (s2 : sam (m.1 1) (m'.1 1) 11 204)
    (ht : rTrav nd (c'.1 25) (m'.1 1)) (hs : rSteps nd (c'.1 25 6) (c'.1 26) (m'.1 1)) : Inv nd TX LO EO c' m' := by
  obtain ⟨⟨hC, ⟨u1, u2, u3, u4, u5, u6, u7, u8, u9⟩, hS, hT, hTape, hF, hTX⟩, hL, hE⟩ := hI
  obtain ⟨ho, ho2⟩ := hm
  have sb : ∀ lo hi : Nat, (11 ≤ lo ∧ hi ≤ 204) ∨ (2 ≤ lo ∧ hi ≤ 5) → sam (m.1 1) (m'.1 1) lo hi := by
    intro lo hi q j j1 j2
    rcases q with q | q
    · exact s2 j (by omega) (by omega)
    · exact s1 j (by omega) (by omega)
  unfold Inv rel
  rw [ho 0 (by decide), ho 2 (by decide), ho 3 (by decide), ho 4 (by decide), hc2, hc 0 (by decide) (by decide), hc 29 (by decide) (by decide), hc 33 (by decide) (by decide), hc 51 (by decide) (by decide), hc 18 (by decide) (by decide), hc 19 (by decide) (by decide), hc 20 (by decide) (by decide), hc 21 (by decide) (by decide), hc 22 (by decide) (by decide), hc 23 (by decide) (by decide), hc 24 (by decide) (by decide), hc 40 (by decide) (by decide), hc 41 (by decide) (by decide), hc 42 (by decide) (by decide), hc 43 (by decide) (by decide), hc 44 (by decide) (by decide), hc 45 (by decide) (by decide), hc 46 (by decide) (by decide), hc 47 (by decide) (by decide), hc 48 (by decide) (by decide), hc 27 (by decide) (by decide), hc 28 (by decide) (by decide), hc 49 (by decide) (by decide), hc 52 (by decide) (by decide)]
  refine ⟨⟨hC, ⟨rTold_s u1 sam_rfl s0, rRain_s u2 sam_rfl (sb _ _ (by omega)), rMood_s u3 sam_rfl (sb _ _ (by omega)), rRule_s u4 rfl sam_rfl (sb _ _ (by omega)), rHinge_s u5 sam_rfl (sb _ _ (by omega)), rGuests_s u6 rfl sam_rfl (sb _ _ (by omega)) (sb _ _ (by omega)), rSeen_s u7 rfl sam_rfl (sb _ _ (by omega)) (sb _ _ (by omega)), ht, hs⟩, hS, hT, hTape, hF, ?_⟩, hL, hE⟩
  exact rTexts_s hTX (Int.le_refl _) u1.2.2 (fun k k1 k2 => hc k (by omega) (by omega)) rfl
theorem I_trav (hI : Inv nd TX LO EO c m) : rTrav nd (c.1 25) (m.1 1) := hI.1.2.1.2.2.2.2.2.2.2.1
theorem I_steps (hI : Inv nd TX LO EO c m) : rSteps nd (c.1 25 6) (c.1 26) (m.1 1) := hI.1.2.1.2.2.2.2.2.2.2.2
/-- room for one more step: the class drops the oldest -/
def roomC (c : jS) : jS := upI (upR c 26 (va_cpy (c.1 26) (c.1 26) 1 0 29)) 25 6 29
theorem shiftM {n : Nat} (hn : 400000 ≤ n) (s : jS) : ∃ e : Int32 × jS, lp (B_X9_keepStep_13 n) n (0, s) = some e ∧ onlyRow 1 s e.2 ∧ sam (s.1 1) (e.2.1 1) 0 204 ∧ ∀ j : Nat, j < 116 → e.2.1 1 (204 + j) = s.1 1 (204 + j + 4) := by
  have l1 : (1 : Int32).toInt = 1 := rfl
  have l2 : (116 : Int32).toInt = 116 := rfl
  have l3 : (204 : Int32).toInt = 204 := rfl
  have l4 : (4 : Int32).toInt = 4 := rfl
  refine lp_rule (body := B_X9_keepStep_13 n) (I := fun q k => 0 ≤ q.1.toInt ∧ q.1.toInt ≤ 116 ∧ k = 116 - q.1.toInt.toNat ∧ onlyRow 1 s q.2 ∧ sam (s.1 1) (q.2.1 1) 0 204 ∧ sam (s.1 1) (q.2.1 1) (204 + q.1.toInt.toNat) 324 ∧ ∀ j : Nat, j < q.1.toInt.toNat → q.2.1 1 (204 + j) = s.1 1 (204 + j + 4)) ?_ 116 n (0, s) (by omega) ⟨by show (0 : Int) ≤ (0 : Int32).toInt; decide, by show (0 : Int32).toInt ≤ 116; decide, by show 116 = 116 - (0 : Int32).toInt.toNat; decide, onlyRow_rfl, sam_rfl, sam_rfl, fun j j2 => absurd j2 (by simp)⟩
  rintro ⟨q, t⟩ k ⟨h1, h2, h3, h4, h5, h6, h7⟩
  simp only at h1 h2 h3 h4 h5 h6 h7
  by_cases hc : 116 ≤ q
  · left
    have := i32_le.mp hc
    refine ⟨(q, t), by unfold B_X9_keepStep_13; rw [if_pos hc], h4, h5, ?_⟩
    have e : q.toInt.toNat = 116 := by omega
    rw [e] at h7
    exact h7
  · right
    have hc' : q.toInt < 116 := by rw [i32_le] at hc; omega
    have e1 : (q + 1).toInt = q.toInt + 1 := i32_add (by omega) (by omega)
    have e2 : (204 + q).toInt = 204 + q.toInt := i32_add (by omega) (by omega)
    have e3 : (204 + q + 4).toInt = 204 + q.toInt + 4 := by rw [i32_add (by omega) (by omega)]; omega
    have g1 : (204 + q).toNatClampNeg = 204 + q.toInt.toNat := by rw [i32_nat]; omega
    have g2 : (204 + q + 4).toNatClampNeg = 204 + q.toInt.toNat + 4 := by rw [i32_nat]; omega
    refine ⟨(q + 1, upI t 1 (204 + q).toNatClampNeg (t.1 1 (204 + q + 4).toNatClampNeg)), 116 - (q.toInt.toNat + 1), by omega, ?_, by show 0 ≤ (q + 1).toInt; omega, by show (q + 1).toInt ≤ 116; omega, by show _ = 116 - (q + 1).toInt.toNat; omega, onlyRow_upI h4 _ _, ?_, ?_, ?_⟩
    · unfold B_X9_keepStep_13
      dsimp only
      rw [if_neg hc, if_pos (jin_of (by omega) (by omega)), if_pos (jin_of (by omega) (by omega))]
      rfl
    · refine sam_tr h5 ?_
      rw [g1]
      exact sam_upd (by omega)
    · rw [g1]
      intro j j1 j2
      simp only at j1
      show upd (t.1 1) _ _ j = _
      rw [upd_ne (by omega)]
      exact h6 j (by omega) (by omega)
    · rw [g1, g2]
      intro j j2
      simp only at j2
      show upd (t.1 1) _ _ _ = _
      by_cases e : j = q.toInt.toNat
      · rw [upd_eq (by omega), e]
        exact h6 _ (by omega) (by omega)
      · rw [upd_ne (by omega)]
        exact h7 j (by omega)
/-- the reference writes the step down -/
theorem noteM {n : Nat} (hn : 400000 ≤ n) (s : jS) (h0 : 0 ≤ (s.1 1 1).toInt) (h29 : (s.1 1 1).toInt ≤ 29) : ∃ e : Int32 × jS, lp (B_X9_keepStep_59 n) n (0, s) = some e ∧ onlyRow 1 s e.2 ∧ (∀ j : Nat, (j < 204 + 4 * (s.1 1 1).toInt.toNat ∨ 204 + 4 * (s.1 1 1).toInt.toNat + 4 ≤ j) → e.2.1 1 j = s.1 1 j) ∧ ∀ i : Nat, i < 4 → e.2.1 1 (204 + 4 * (s.1 1 1).toInt.toNat + i) = s.1 1 (5 + i) := by
  have l1 : (1 : Int32).toInt = 1 := rfl
  have l2 : (4 : Int32).toInt = 4 := rfl
  have l3 : (204 : Int32).toInt = 204 := rfl
  have l5 : (5 : Int32).toInt = 5 := rfl
  generalize hk : (s.1 1 1).toInt.toNat = t0
  have a1 : (4 * s.1 1 1).toInt = 4 * (s.1 1 1).toInt := i32_mulL (n := 4) rfl (by omega) (by omega)
  have a2 : (204 + 4 * s.1 1 1).toInt = 204 + 4 * (s.1 1 1).toInt := by rw [i32_add (by omega) (by omega)]; omega
  refine lp_rule (body := B_X9_keepStep_59 n) (I := fun q k => 0 ≤ q.1.toInt ∧ q.1.toInt ≤ 4 ∧ k = 4 - q.1.toInt.toNat ∧ onlyRow 1 s q.2 ∧ (∀ j : Nat, (j < 204 + 4 * t0 ∨ 204 + 4 * t0 + 4 ≤ j) → q.2.1 1 j = s.1 1 j) ∧ ∀ i : Nat, i < q.1.toInt.toNat → q.2.1 1 (204 + 4 * t0 + i) = s.1 1 (5 + i)) ?_ 4 n (0, s) (by omega) ⟨by show (0 : Int) ≤ (0 : Int32).toInt; decide, by show (0 : Int32).toInt ≤ 4; decide, by show 4 = 4 - (0 : Int32).toInt.toNat; decide, onlyRow_rfl, fun _ _ => rfl, fun j j2 => absurd j2 (by simp)⟩
  rintro ⟨q, t⟩ k ⟨h1, h2, h3, h4, h5, h6⟩
  simp only at h1 h2 h3 h4 h5 h6
  by_cases hc : 4 ≤ q
  · left
    have := i32_le.mp hc
    refine ⟨(q, t), by unfold B_X9_keepStep_59; rw [if_pos hc], h4, h5, ?_⟩
    have e : q.toInt.toNat = 4 := by omega
    rw [e] at h6
    exact h6
  · right
    have hc' : q.toInt < 4 := by rw [i32_le] at hc; omega
    have e1 : (q + 1).toInt = q.toInt + 1 := i32_add (by omega) (by omega)
    have e2 : (5 + q).toInt = 5 + q.toInt := i32_add (by omega) (by omega)
    have ht1 : t.1 1 (Int32.toNatClampNeg 1) = s.1 1 1 := h5 1 (by omega)
    have e3 : (204 + 4 * s.1 1 1 + q).toInt = 204 + 4 * (s.1 1 1).toInt + q.toInt := by rw [i32_add (by omega) (by omega)]; omega
    have g1 : (204 + 4 * s.1 1 1 + q).toNatClampNeg = 204 + 4 * t0 + q.toInt.toNat := by rw [i32_nat]; omega
    have g2 : (5 + q).toNatClampNeg = 5 + q.toInt.toNat := by rw [i32_nat]; omega
    refine ⟨(q + 1, upI t 1 (204 + 4 * s.1 1 1 + q).toNatClampNeg (t.1 1 (5 + q).toNatClampNeg)), 4 - (q.toInt.toNat + 1), by omega, ?_, by show 0 ≤ (q + 1).toInt; omega, by show (q + 1).toInt ≤ 4; omega, by show _ = 4 - (q + 1).toInt.toNat; omega, onlyRow_upI h4 _ _, ?_, ?_⟩
    · unfold B_X9_keepStep_59
      dsimp only
      rw [ht1, if_neg hc, if_pos (jin_of (by omega) (by omega)), if_pos (jin_of (by omega) (by omega))]
      rfl
    · rw [g1]
      intro j j1
      show upd (t.1 1) _ _ j = _
      rw [upd_ne (by omega)]
      exact h5 j j1
    · rw [g1, g2]
      intro i j2
      simp only at j2
      show upd (t.1 1) _ _ _ = _
      by_cases e : i = q.toInt.toNat
      · rw [upd_eq (by omega), e]
        exact h5 _ (by omega)
      · rw [upd_ne (by omega)]
        exact h6 i (by omega)
end
/-! a step kept -/
def keptC (c c1 : jS) : Prop := (∀ k : Nat, ¬ k = 25 → ¬ k = 26 → c1.1 k = c.1 k) ∧ c1.2 = c.2 ∧ sam (c.1 25) (c1.1 25) 0 6
def keptM (m m1 : jS) : Prop := onlyRow 1 m m1 ∧ sam (m.1 1) (m1.1 1) 0 1 ∧ sam (m.1 1) (m1.1 1) 2 204
theorem sam_sub {a b : Nat → Int32} {lo hi l h : Nat} (s : sam a b lo hi) (h1 : lo ≤ l) (h2 : h ≤ hi) : sam a b l h := fun j j1 j2 => s j (by omega) (by omega)
theorem keptC_tr {a b c : jS} (h : keptC a b) (g : keptC b c) : keptC a c := ⟨fun k k1 k2 => (g.1 k k1 k2).trans (h.1 k k1 k2), g.2.1.trans h.2.1, sam_tr h.2.2 g.2.2⟩
theorem onlyRow_tr {r : Nat} {a b c : jS} (h : onlyRow r a b) (g : onlyRow r b c) : onlyRow r a c := ⟨fun k k1 => (g.1 k k1).trans (h.1 k k1), g.2.trans h.2⟩
theorem keptM_tr {a b c : jS} (h : keptM a b) (g : keptM b c) : keptM a c := ⟨onlyRow_tr h.1 g.1, sam_tr h.2.1 g.2.1, sam_tr h.2.2 g.2.2⟩
theorem rTrav_mk {nd : Nat} {tv tv' a b : Nat → Int32} (h : rTrav nd tv a) (h1 : sam tv tv' 0 6) (h2 : sam a b 5 11) (h3 : tv' 6 = b 1) (h4 : 0 ≤ (tv' 6).toInt ∧ (tv' 6).toInt ≤ 30) : rTrav nd tv' b := by
  obtain ⟨⟨q0, q1, q2, q3, q4, q5, q6⟩, r1, r2, r3, r4⟩ := h
  refine ⟨⟨?_, ?_, ?_, ?_, ?_, ?_, h3⟩, ?_, ?_, ?_, h4⟩
  · rw [h1 0 (by omega) (by omega), h2 9 (by omega) (by omega)]; exact q0
  · rw [h1 1 (by omega) (by omega), h2 10 (by omega) (by omega)]; exact q1
  · rw [h1 2 (by omega) (by omega), h2 8 (by omega) (by omega)]; exact q2
  · rw [h1 3 (by omega) (by omega), h2 6 (by omega) (by omega)]; exact q3
  · rw [h1 4 (by omega) (by omega), h2 7 (by omega) (by omega)]; exact q4
  · rw [h1 5 (by omega) (by omega), h2 5 (by omega) (by omega)]; exact q5
  · rw [h1 0 (by omega) (by omega)]; exact r1
  · rw [h1 1 (by omega) (by omega)]; exact r2
  · rw [h1 2 (by omega) (by omega), h1 3 (by omega) (by omega), h1 4 (by omega) (by omega), h1 5 (by omega) (by omega)]; exact r3
section
variable {nd : Nat} {TX : jTX} {LO : jLO} {EO : jEO} {c m : jS}
def stepC (c : jS) : Int32 := (((((c.1 25 5) * 24) + (c.1 25 3)) * 10) + (c.1 25 4)) * 100 + (c.1 25 2)
theorem stepC_int {d h w p : Int32} (hn : 1 ≤ nd ∧ nd ≤ 8) (hp : isPlace nd d h w p) : (((((d * 24) + h) * 10) + w) * 100 + p).toInt = (((d.toInt * 24 + h.toInt) * 10 + w.toInt) * 100 + p.toInt) := by
  obtain ⟨⟨d1, d2⟩, ⟨h1, h2⟩, ⟨w1, w2⟩, p1, p2⟩ := hp
  have e1 : (d * 24).toInt = d.toInt * 24 := i32_mulR rfl (by omega) (by omega)
  have e2 : (d * 24 + h).toInt = d.toInt * 24 + h.toInt := by rw [i32_add (by omega) (by omega), e1]
  have e3 : ((d * 24 + h) * 10).toInt = (d.toInt * 24 + h.toInt) * 10 := by rw [i32_mulR (n := 10) rfl (by omega) (by omega), e2]
  have e4 : ((d * 24 + h) * 10 + w).toInt = (d.toInt * 24 + h.toInt) * 10 + w.toInt := by rw [i32_add (by omega) (by omega), e3]
  have e5 : (((d * 24 + h) * 10 + w) * 100).toInt = ((d.toInt * 24 + h.toInt) * 10 + w.toInt) * 100 := by rw [i32_mulR (n := 100) rfl (by omega) (by omega), e4]
  rw [i32_add (by omega) (by omega), e5]
theorem note_rel {n : Nat} (hn : 400000 ≤ n) (hI : Inv nd TX LO EO c m) (ht : (c.1 25 6).toInt ≤ 29) : ∃ c1 e, J_X6_keepsStep_25_30 c = some c1 ∧ lp (B_X9_keepStep_59 n) n (0, m) = some e ∧ Inv nd TX LO EO c1 (upI e.2 1 (Int32.toNatClampNeg 1) ((e.2.1 1 (Int32.toNatClampNeg 1)) + 1)) ∧ keptC c c1 ∧ keptM m (upI e.2 1 (Int32.toNatClampNeg 1) ((e.2.1 1 (Int32.toNatClampNeg 1)) + 1)) := by
  have hn8 := I_nd hI
  have hr := I_trav hI
  have hs := I_steps hI
  obtain ⟨⟨q0, q1, q2, q3, q4, q5, q6⟩, r1, r2, r3, r4⟩ := hr
  have l1 : (1 : Int32).toInt = 1 := rfl
  have hn' : (1 : Int32).toNatClampNeg = 1 := rfl
  obtain ⟨e, he, ho, hsame, hwr⟩ := noteM hn m (by rw [← q6]; exact r4.1) (by rw [← q6]; exact ht)
  rw [hn']
  generalize hk : (m.1 1 1).toInt.toNat = t at hsame hwr
  have hkt : (c.1 25 6).toNatClampNeg = t := by rw [i32_nat, q6]; exact hk
  have ht29 : t ≤ 29 := by rw [i32_nat] at hkt; omega
  have hcnt : (c.1 25 6 + 1).toInt = (c.1 25 6).toInt + 1 := i32_add (by omega) (by omega)
  have he1 : e.2.1 1 1 = c.1 25 6 := by rw [hsame 1 (by omega), q6]
  refine ⟨upI (upI c 26 (c.1 25 6).toNatClampNeg (stepC c)) 25 6 (c.1 25 6 + 1), e, ?_, he, ?_, ?_, ?_⟩
  · unfold J_X6_keepsStep_25_30
    rw [if_pos (jin_of r4.1 (by omega))]
    rfl
  · rw [he1, hkt]
    have hsame' : ∀ j : Nat, ¬ j = 1 → (j < 204 + 4 * t ∨ 204 + 4 * t + 4 ≤ j) → upd (e.2.1 1) 1 (c.1 25 6 + 1) j = m.1 1 j := fun j k1 k2 => by rw [upd_ne k1]; exact hsame j k2
    refine Inv_walk hI ?_ rfl (onlyRow_upI ho _ _) ?_ ?_ ?_ ?_ ?_
    · intro k k1 k2
      rw [row_ne k1, row_ne k2]
    · intro j j1 j2
      exact hsame' j (by omega) (by omega)
    · intro j j1 j2
      exact hsame' j (by omega) (by omega)
    · intro j j1 j2
      exact hsame' j (by omega) (by omega)
    · show rTrav nd (upd (c.1 25) 6 (c.1 25 6 + 1)) (upd (e.2.1 1) 1 (c.1 25 6 + 1))
      exact rTrav_mk (I_trav hI) (sam_upd (by omega)) (fun j j1 j2 => hsame' j (by omega) (by omega)) (by rw [upd_eq rfl, upd_eq rfl]) (by rw [upd_eq rfl]; omega)
    · show rSteps nd (c.1 25 6 + 1) (upd (c.1 26) t (stepC c)) (upd (e.2.1 1) 1 (c.1 25 6 + 1))
      intro k hk2
      by_cases hkt2 : k = t
      · subst hkt2
        have w0 : e.2.1 1 (204 + 4 * k) = m.1 1 5 := hwr 0 (by decide)
        have w1 : e.2.1 1 (205 + 4 * k) = m.1 1 6 := by rw [show 205 + 4 * k = 204 + 4 * k + 1 from by omega]; exact hwr 1 (by decide)
        have w2 : e.2.1 1 (206 + 4 * k) = m.1 1 7 := by rw [show 206 + 4 * k = 204 + 4 * k + 2 from by omega]; exact hwr 2 (by decide)
        have w3 : e.2.1 1 (207 + 4 * k) = m.1 1 8 := by rw [show 207 + 4 * k = 204 + 4 * k + 3 from by omega]; exact hwr 3 (by decide)
        rw [upd_eq rfl, upd_ne (by omega), upd_ne (by omega), upd_ne (by omega), upd_ne (by omega), w0, w1, w2, w3]
        show isPlace nd (m.1 1 5) (m.1 1 6) (m.1 1 7) (m.1 1 8) ∧ _ = (((m.1 1 5).toInt * 24 + (m.1 1 6).toInt) * 10 + (m.1 1 7).toInt) * 100 + (m.1 1 8).toInt
        rw [← q2, ← q3, ← q4, ← q5]
        exact ⟨r3, stepC_int hn8 r3⟩
      · have hklt : k < t := by rw [i32_nat] at hkt; omega
        rw [upd_ne hkt2, hsame' _ (by omega) (by omega), hsame' _ (by omega) (by omega), hsame' _ (by omega) (by omega), hsame' _ (by omega) (by omega)]
        exact hs k (by rw [i32_nat] at hkt; omega)
  · refine ⟨fun k k1 k2 => by rw [row_ne k1, row_ne k2], rfl, ?_⟩
    exact sam_upd (a := c.1 25) (by omega)
  · refine ⟨onlyRow_upI ho _ _, ?_, ?_⟩
    · intro j j1 j2
      show upd (e.2.1 1) 1 _ j = _
      rw [upd_ne (by omega)]
      exact hsame j (by omega)
    · intro j j1 j2
      show upd (e.2.1 1) 1 _ j = _
      rw [upd_ne (by omega)]
      exact hsame j (by omega)
theorem keepStep_rel {n : Nat} (hn : 400000 ≤ n) (hI : Inv nd TX LO EO c m) : ∃ c1 m1, F_X6_keepsStep_25 c = some c1 ∧ F_X9_keepStep n m = some m1 ∧ Inv nd TX LO EO c1 m1 ∧ keptC c c1 ∧ keptM m m1 := by
  have hr := I_trav hI
  have hs := I_steps hI
  obtain ⟨⟨q0, q1, q2, q3, q4, q5, q6⟩, r1, r2, r3, r4⟩ := hr
  have l30 : (30 : Int32).toInt = 30 := rfl
  have l29 : (29 : Int32).toInt = 29 := rfl
  by_cases h : c.1 25 6 < 30
  · have h' := i32_lt.mp h
    obtain ⟨c1, e, k1, k2, k3, k4, k5⟩ := note_rel hn hI (by omega)
    refine ⟨c1, _, ?_, ?_, k3, k4, k5⟩
    · unfold F_X6_keepsStep_25
      rw [if_pos h, k1]
    · unfold F_X9_keepStep
      rw [if_neg (show ¬ m.1 1 (Int32.toNatClampNeg 1) = 30 from fun z => by rw [show m.1 1 1 = 30 from z] at q6; rw [q6] at h'; omega), k2]
      rfl
  · have h' : c.1 25 6 = 30 := i32_eq.mpr (by rw [i32_lt] at h; omega)
    obtain ⟨e, he, ho, hsame, hsh⟩ := shiftM hn m
    have e1 : e.2.1 1 1 = 30 := by rw [hsame 1 (by decide) (by decide), ← q6]; exact h'
    have hI2 : Inv nd TX LO EO (roomC c) (upI e.2 1 1 29) := by
      have hss : ∀ j : Nat, ¬ j = 1 → j < 204 → upd (e.2.1 1) 1 29 j = m.1 1 j := fun j k1 k2 => by rw [upd_ne k1]; exact hsame j (by omega) k2
      refine Inv_walk hI ?_ rfl (onlyRow_upI ho _ _) ?_ ?_ ?_ ?_ ?_
      · intro k k1 k2
        unfold roomC
        rw [row_ne k1, rowR_ne k2]
      · intro j j1 j2
        exact hss j (by omega) (by omega)
      · intro j j1 j2
        exact hss j (by omega) (by omega)
      · intro j j1 j2
        exact hss j (by omega) (by omega)
      · show rTrav nd (upd (c.1 25) 6 29) (upd (e.2.1 1) 1 29)
        exact rTrav_mk (I_trav hI) (sam_upd (by omega)) (fun j j1 j2 => hss j (by omega) (by omega)) (by rw [upd_eq rfl, upd_eq rfl]) (by rw [upd_eq rfl]; exact ⟨by decide, by decide⟩)
      · show rSteps nd 29 (va_cpy (c.1 26) (c.1 26) 1 0 29) (upd (e.2.1 1) 1 29)
        intro k hk
        have hk' : k < 29 := by omega
        have z := hs (k + 1) (by rw [h']; omega)
        have y : va_cpy (c.1 26) (c.1 26) 1 0 29 k = c.1 26 (k + 1) := by
          show (if 0 ≤ k ∧ k < 0 + 29 then c.1 26 (1 + (k - 0)) else _) = _
          rw [if_pos (by omega)]
          exact congrArg (c.1 26) (by omega)
        have x : ∀ i : Nat, i < 4 → upd (e.2.1 1) 1 29 (204 + i + 4 * k) = m.1 1 (204 + i + 4 * (k + 1)) := by
          intro i hi
          rw [upd_ne (by omega)]
          have w := hsh (i + 4 * k) (by omega)
          rw [show 204 + i + 4 * k = 204 + (i + 4 * k) from by omega, w]
          exact congrArg (m.1 1) (by omega)
        rw [y, show upd (e.2.1 1) 1 29 (204 + 4 * k) = _ from x 0 (by decide), show upd (e.2.1 1) 1 29 (205 + 4 * k) = _ from x 1 (by decide), show upd (e.2.1 1) 1 29 (206 + 4 * k) = _ from x 2 (by decide), show upd (e.2.1 1) 1 29 (207 + 4 * k) = _ from x 3 (by decide)]
        exact z
    obtain ⟨c1, e2, k1, k2, k3, k4, k5⟩ := note_rel hn hI2 (by show (29 : Int32).toInt ≤ 29; decide)
    refine ⟨c1, _, ?_, ?_, k3, keptC_tr (b := roomC c) ⟨?_, rfl, ?_⟩ k4, keptM_tr (b := upI e.2 1 1 29) ⟨onlyRow_upI ho _ _, ?_, ?_⟩ k5⟩
    · unfold F_X6_keepsStep_25
      rw [if_neg h]
      exact k1
    · unfold F_X9_keepStep
      rw [if_pos (show m.1 1 (Int32.toNatClampNeg 1) = 30 from q6.symm.trans h'), he]
      show (jl (upI e.2 1 (Int32.toNatClampNeg 1) ((e.2.1 1 1) - 1)) fun s56_8 => ((lp (B_X9_keepStep_59 n) n (0, s56_8)).bind fun e59 => (jl (upI e59.2 1 (Int32.toNatClampNeg 1) ((e59.2.1 1 (Int32.toNatClampNeg 1)) + 1)) fun s106_9 => some s106_9))) = _
      rw [e1, jl_1]
      show ((lp (B_X9_keepStep_59 n) n (0, upI e.2 1 1 29)).bind fun e59 => (jl (upI e59.2 1 (Int32.toNatClampNeg 1) ((e59.2.1 1 (Int32.toNatClampNeg 1)) + 1)) fun s106_9 => some s106_9)) = _
      rw [k2]
      rfl
    · intro k j1 j2
      unfold roomC
      rw [row_ne j1, rowR_ne j2]
    · exact sam_upd (a := c.1 25) (by omega)
    · intro j j1 j2
      show upd (e.2.1 1) 1 29 j = _
      rw [upd_ne (by omega)]
      exact hsame j (by omega) (by omega)
    · intro j j1 j2
      show upd (e.2.1 1) 1 29 j = _
      rw [upd_ne (by omega)]
      exact hsame j (by omega) (by omega)
end
/-! hours: later, undo -/
theorem i32_of {x : Int32} (h : 0 ≤ x.toInt) : x = Int32.ofNat x.toInt.toNat := by
  have := i32_rng x
  exact i32_eq.mpr (by rw [ofNat_int (by omega)]; omega)
theorem hour_next {h : Int32} (h1 : 0 ≤ h.toInt) (h2 : h.toInt ≤ 23) : 0 ≤ ((h + 1) - (h + 1) / 24 * 24).toInt ∧ ((h + 1) - (h + 1) / 24 * 24).toInt ≤ 23 := by
  have key : ∀ k : Fin 24, 0 ≤ ((Int32.ofNat k.val + 1) - (Int32.ofNat k.val + 1) / 24 * 24).toInt ∧ ((Int32.ofNat k.val + 1) - (Int32.ofNat k.val + 1) / 24 * 24).toInt ≤ 23 := by decide +kernel
  have e := i32_of h1
  have k := key ⟨h.toInt.toNat, by omega⟩
  simp only at k
  rw [← e] at k
  exact k
section
variable {nd : Nat} {TX : jTX} {LO : jLO} {EO : jEO} {c m : jS}
def hourI (h : Int32) : Int32 := (h + 1) - (h + 1) / 24 * 24
def waitI (w : Int32) : Int32 := if w + 1 < 9 then w + 1 else 9
theorem hour_stay (hI : Inv nd TX LO EO c m) : ∃ m1, F_X9_hourBy false m = some m1 ∧ Inv nd TX LO EO (upI (upI c 25 3 (hourI (c.1 25 3))) 25 4 (waitI (c.1 25 4))) m1 := by
  have hr := I_trav hI
  have hs := I_steps hI
  have hrr := hr
  obtain ⟨⟨q0, q1, q2, q3, q4, q5, q6⟩, r1, r2, ⟨r3, r4, r5, r6⟩, r7⟩ := hr
  have l9 : (9 : Int32).toInt = 9 := rfl
  have l1 : (1 : Int32).toInt = 1 := rfl
  have hh := hour_next r4.1 r4.2
  have ew : (c.1 25 4 + 1).toInt = (c.1 25 4).toInt + 1 := i32_add (by omega) (by omega)
  have hm1 : F_X9_hourBy false m = some (upI (upI m 1 6 (hourI (c.1 25 3))) 1 7 (waitI (c.1 25 4))) ∨ (F_X9_hourBy false m = some (upI m 1 6 (hourI (c.1 25 3))) ∧ waitI (c.1 25 4) = c.1 25 4) := by
    unfold F_X9_hourBy
    rw [jl_1, if_neg (by decide)]
    have e7 : (upI m 1 (Int32.toNatClampNeg 6) (((m.1 1 (Int32.toNatClampNeg 6)) + 1) - ((m.1 1 (Int32.toNatClampNeg 6)) + 1) / 24 * 24)).1 1 (Int32.toNatClampNeg 7) = c.1 25 4 := q4.symm
    have e6 : m.1 1 (Int32.toNatClampNeg 6) = c.1 25 3 := q3.symm
    rw [e7, e6]
    by_cases h : (9 : Int32) ≤ c.1 25 4
    · right
      rw [if_pos h]
      refine ⟨rfl, ?_⟩
      have h' := i32_le.mp h
      have e : c.1 25 4 = 9 := i32_eq.mpr (by omega)
      rw [e]
      decide
    · left
      rw [if_neg h]
      have h' : ¬ (9 : Int32).toInt ≤ (c.1 25 4).toInt := fun z => h (i32_le.mpr z)
      have e : waitI (c.1 25 4) = c.1 25 4 + 1 := by
        unfold waitI
        by_cases g : c.1 25 4 + 1 < 9
        · rw [if_pos g]
        · rw [if_neg g]
          rw [i32_lt] at g
          exact (i32_eq.mpr (by omega)).symm
      rw [e]
      rfl
  have hw : 0 ≤ (waitI (c.1 25 4)).toInt ∧ (waitI (c.1 25 4)).toInt ≤ 9 := by
    unfold waitI
    by_cases g : c.1 25 4 + 1 < 9
    · rw [if_pos g]
      rw [i32_lt] at g
      omega
    · rw [if_neg g]
      exact ⟨by decide, by decide⟩
  have fin : ∀ m1 : jS, onlyRow 1 m m1 → (∀ j : Nat, ¬ j = 6 → ¬ j = 7 → m1.1 1 j = m.1 1 j) → m1.1 1 6 = hourI (c.1 25 3) → m1.1 1 7 = waitI (c.1 25 4) → Inv nd TX LO EO (upI (upI c 25 3 (hourI (c.1 25 3))) 25 4 (waitI (c.1 25 4))) m1 := by
    intro m1 ho hj h6 h7
    refine Inv_walk hI ?_ rfl ho (fun j j1 j2 => hj j (by omega) (by omega)) (fun j j1 j2 => hj j (by omega) (by omega)) (fun j j1 j2 => hj j (by omega) (by omega)) ?_ ?_
    · intro k k1 k2
      rw [row_ne k1, row_ne k1]
    · show rTrav nd (upd (upd (c.1 25) 3 (hourI (c.1 25 3))) 4 (waitI (c.1 25 4))) (m1.1 1)
      refine ⟨⟨q0.trans (hj 9 (by decide) (by decide)).symm, q1.trans (hj 10 (by decide) (by decide)).symm, q2.trans (hj 8 (by decide) (by decide)).symm, h6.symm, h7.symm, q5.trans (hj 5 (by decide) (by decide)).symm, q6.trans (hj 1 (by decide) (by decide)).symm⟩, r1, r2, ⟨r3, hh, hw, r6⟩, r7⟩
    · show rSteps nd (c.1 25 6) (c.1 26) (m1.1 1)
      exact rSteps_s hs rfl r7.2 sam_rfl (fun j j1 j2 => hj j (by omega) (by omega))
  rcases hm1 with h | ⟨h, e⟩
  · refine ⟨_, h, fin _ (onlyRow_upI (onlyRow_upI onlyRow_rfl _ _) _ _) ?_ rfl rfl⟩
    intro j j6 j7
    show upd (upd (m.1 1) 6 _) 7 _ j = _
    rw [upd_ne j7, upd_ne j6]
  · refine ⟨_, h, fin _ (onlyRow_upI onlyRow_rfl _ _) ?_ rfl (by rw [e]; exact q4.symm)⟩
    intro j j6 j7
    show upd (m.1 1) 6 _ j = _
    rw [upd_ne j6]
theorem waited_rel {n : Nat} (hn : 400000 ≤ n) (hI : Inv nd TX LO EO c m) {v1 : Int32} (h0 : 0 ≤ v1.toInt) (h24 : v1.toInt ≤ 24) : ∃ c1 e, F_X8_waited n v1 c = some c1 ∧ lp (B_X9_later_27 n v1) n (0, m) = some e ∧ Inv nd TX LO EO c1 e.2 ∧ c1.1 18 = c.1 18 := by
  have l1 : (1 : Int32).toInt = 1 := rfl
  obtain ⟨e, f, he, hf, hi⟩ := lp_rule2 (body := B_X8_waited_2 n v1) (body' := B_X9_later_27 n v1) (I := fun v w k => v.1 = w.1 ∧ 0 ≤ v.1.toInt ∧ v.1.toInt ≤ v1.toInt ∧ k = v1.toInt.toNat - v.1.toInt.toNat ∧ Inv nd TX LO EO v.2 w.2 ∧ v.2.1 18 = c.1 18) (Q := fun e f => Inv nd TX LO EO e.2 f.2 ∧ e.2.1 18 = c.1 18) (by
    rintro ⟨q, cc⟩ ⟨q', m⟩ k ⟨h1, h2, h3, h4, h5, h6⟩
    simp only at h1 h2 h3 h4 h5 h6
    subst h1
    by_cases hc : v1 ≤ q
    · left
      refine ⟨(q, cc), (q, m), ?_, ?_, h5, h6⟩
      · unfold B_X8_waited_2
        rw [if_pos hc]
      · unfold B_X9_later_27
        rw [if_pos hc]
    · right
      have hc' : ¬ v1.toInt ≤ q.toInt := fun z => hc (i32_le.mpr z)
      obtain ⟨c1, m1, k1, k2, k3, k4, k5⟩ := keepStep_rel hn h5
      obtain ⟨m2, k6, k7⟩ := hour_stay k3
      have e1 : (q + 1).toInt = q.toInt + 1 := i32_add (by omega) (by omega)
      refine ⟨(q + 1, upI (upI c1 25 3 (hourI (c1.1 25 3))) 25 4 (waitI (c1.1 25 4))), (q + 1, m2), v1.toInt.toNat - (q.toInt.toNat + 1), by omega, ?_, ?_, rfl, by show 0 ≤ (q + 1).toInt; omega, by show (q + 1).toInt ≤ v1.toInt; omega, by show _ = v1.toInt.toNat - (q + 1).toInt.toNat; omega, k7, (k4.1 18 (by decide) (by decide)).trans h6⟩
      · unfold B_X8_waited_2
        dsimp only
        rw [if_neg hc, k1]
        rfl
      · unfold B_X9_later_27
        dsimp only
        rw [if_neg hc, k2]
        show ((F_X9_hourBy false m1).bind fun p38 => some (Sum.inl (q + 1, p38))) = _
        rw [k6]
        rfl) v1.toInt.toNat n (0, c) (0, m) (by omega) ⟨rfl, by show (0 : Int) ≤ (0 : Int32).toInt; decide, by show (0 : Int32).toInt ≤ v1.toInt; exact h0, by show v1.toInt.toNat = v1.toInt.toNat - (0 : Int32).toInt.toNat; simp, hI, rfl⟩
  refine ⟨e.2, f, ?_, hf, hi⟩
  unfold F_X8_waited
  rw [he]
  rfl
theorem at_end (hI : Inv nd TX LO EO c m) : F_X8_isDoor (c.1 25 5) c = true ↔ ¬ m.1 1 (Int32.toNatClampNeg 5) = m.1 0 2 := by
  obtain ⟨⟨q0, q1, q2, q3, q4, q5, q6⟩, r1, r2, ⟨r3, r4, r5, r6⟩, r7⟩ := I_trav hI
  rw [show m.1 1 (Int32.toNatClampNeg 5) = c.1 25 5 from q5.symm, i32_eq, I_ndJ hI]
  constructor
  · intro h
    have := I_doorI hI h
    omega
  · intro h
    exact I_doorN hI r3.1 (by omega)
end
theorem later_ok {nd n : Nat} {TX : jTX} {LO : jLO} {EO : jEO} (hn : 400000 ≤ n) : ok_later nd n (Inv nd TX LO EO) := by
  intro v1 c m hI
  have ha := at_end hI
  by_cases h1 : F_X8_isDoor (c.1 25 5) c = true
  · have h1' := ha.mp h1
    by_cases h2 : F_X8_within v1 0 24 = true
    · have a2 : 0 ≤ v1.toInt ∧ v1.toInt ≤ 24 := win_iff.mp h2
      obtain ⟨c1, e, k1, k2, k3, _⟩ := waited_rel hn hI a2.1 a2.2
      refine ⟨c1.1 25 3, c1, e.2, ?_, ?_, k3⟩
      · unfold F_X8_later F_X8_canWait
        rw [if_pos h1, if_pos h2, if_pos rfl, k1]
        rfl
      · unfold F_X9_later
        rw [if_neg h1', if_pos (show F_X9_isIn v1 0 24 = true from h2), k2]
        show some (e.2.1 1 (Int32.toNatClampNeg 6), e.2) = _
        rw [(I_trav k3).1.2.2.2.1]
        rfl
    · refine ⟨-1, c, m, ?_, ?_, hI⟩
      · unfold F_X8_later F_X8_canWait
        rw [if_pos h1, if_neg h2, if_neg (by decide)]
      · unfold F_X9_later
        rw [if_neg h1', if_neg (show ¬ F_X9_isIn v1 0 24 = true from h2)]
  · have h1' : m.1 1 (Int32.toNatClampNeg 5) = m.1 0 2 := Classical.byContradiction (fun z => h1 (ha.mpr z))
    refine ⟨-1, c, m, ?_, ?_, hI⟩
    · unfold F_X8_later F_X8_canWait
      rw [if_neg h1, if_neg (by decide)]
    · unfold F_X9_later
      rw [if_pos h1']
/-! undo -/
theorem i32_div {x k : Int32} {n : Int} (hk : k.toInt = n) (h0 : 0 ≤ x.toInt) (hn : 0 < n) : (x / k).toInt = x.toInt / n := by
  have h1 := i32_rng x
  rw [Int32.toInt_div, hk, Int.tdiv_eq_ediv_of_nonneg h0]
  have h2 : 0 ≤ x.toInt / n := Int.ediv_nonneg h0 (by omega)
  have h3 : x.toInt / n ≤ x.toInt := Int.ediv_le_self _ h0
  exact Int.bmod_eq_of_le (by omega) (by omega)
/-- the rest of a division, as written in the code -/
theorem i32_rest {x k : Int32} {n : Int} (hk : k.toInt = n) (h0 : 0 ≤ x.toInt) (hn : 0 < n) : (x - x / k * k).toInt = x.toInt % n := by
  have h1 := i32_rng x
  have e1 := i32_div hk h0 hn
  have h2 : 0 ≤ x.toInt / n := Int.ediv_nonneg h0 (by omega)
  have h4 := Int.mul_ediv_add_emod x.toInt n
  have h5 := Int.emod_nonneg x.toInt (show n ≠ 0 by omega)
  have h6 : (x / k).toInt * n = n * (x.toInt / n) := by rw [e1, Int.mul_comm]
  have h7 : 0 ≤ n * (x.toInt / n) := Int.mul_nonneg (by omega) h2
  have e2 : (x / k * k).toInt = n * (x.toInt / n) := by rw [i32_mulR hk (by omega) (by omega), h6]
  rw [i32_sub (by omega) (by omega), e2]
  omega
theorem backM {n : Nat} (hn : 400000 ≤ n) (s : jS) (h0 : 0 ≤ (s.1 1 1).toInt) (h29 : (s.1 1 1).toInt ≤ 29) : ∃ e : Int32 × jS, lp (B_X9_undo_23 n) n (0, s) = some e ∧ onlyRow 1 s e.2 ∧ (∀ j : Nat, (j < 5 ∨ 9 ≤ j) → e.2.1 1 j = s.1 1 j) ∧ ∀ i : Nat, i < 4 → e.2.1 1 (5 + i) = s.1 1 (204 + 4 * (s.1 1 1).toInt.toNat + i) := by
  have l1 : (1 : Int32).toInt = 1 := rfl
  have l2 : (4 : Int32).toInt = 4 := rfl
  have l3 : (204 : Int32).toInt = 204 := rfl
  have l5 : (5 : Int32).toInt = 5 := rfl
  generalize hk : (s.1 1 1).toInt.toNat = t0
  have a1 : (4 * s.1 1 1).toInt = 4 * (s.1 1 1).toInt := i32_mulL (n := 4) rfl (by omega) (by omega)
  have a2 : (204 + 4 * s.1 1 1).toInt = 204 + 4 * (s.1 1 1).toInt := by rw [i32_add (by omega) (by omega)]; omega
  refine lp_rule (body := B_X9_undo_23 n) (I := fun q k => 0 ≤ q.1.toInt ∧ q.1.toInt ≤ 4 ∧ k = 4 - q.1.toInt.toNat ∧ onlyRow 1 s q.2 ∧ (∀ j : Nat, (j < 5 ∨ 9 ≤ j) → q.2.1 1 j = s.1 1 j) ∧ ∀ i : Nat, i < q.1.toInt.toNat → q.2.1 1 (5 + i) = s.1 1 (204 + 4 * t0 + i)) ?_ 4 n (0, s) (by omega) ⟨by show (0 : Int) ≤ (0 : Int32).toInt; decide, by show (0 : Int32).toInt ≤ 4; decide, by show 4 = 4 - (0 : Int32).toInt.toNat; decide, onlyRow_rfl, fun _ _ => rfl, fun j j2 => absurd j2 (by simp)⟩
  rintro ⟨q, t⟩ k ⟨h1, h2, h3, h4, h5, h6⟩
  simp only at h1 h2 h3 h4 h5 h6
  by_cases hc : 4 ≤ q
  · left
    have := i32_le.mp hc
    refine ⟨(q, t), by unfold B_X9_undo_23; rw [if_pos hc], h4, h5, ?_⟩
    have e : q.toInt.toNat = 4 := by omega
    rw [e] at h6
    exact h6
  · right
    have hc' : q.toInt < 4 := by rw [i32_le] at hc; omega
    have e1 : (q + 1).toInt = q.toInt + 1 := i32_add (by omega) (by omega)
    have e2 : (5 + q).toInt = 5 + q.toInt := i32_add (by omega) (by omega)
    have ht1 : t.1 1 (Int32.toNatClampNeg 1) = s.1 1 1 := h5 1 (by omega)
    have e3 : (204 + 4 * s.1 1 1 + q).toInt = 204 + 4 * (s.1 1 1).toInt + q.toInt := by rw [i32_add (by omega) (by omega)]; omega
    have g1 : (204 + 4 * s.1 1 1 + q).toNatClampNeg = 204 + 4 * t0 + q.toInt.toNat := by rw [i32_nat]; omega
    have g2 : (5 + q).toNatClampNeg = 5 + q.toInt.toNat := by rw [i32_nat]; omega
    refine ⟨(q + 1, upI t 1 (5 + q).toNatClampNeg (t.1 1 (204 + 4 * s.1 1 1 + q).toNatClampNeg)), 4 - (q.toInt.toNat + 1), by omega, ?_, by show 0 ≤ (q + 1).toInt; omega, by show (q + 1).toInt ≤ 4; omega, by show _ = 4 - (q + 1).toInt.toNat; omega, onlyRow_upI h4 _ _, ?_, ?_⟩
    · unfold B_X9_undo_23
      dsimp only
      rw [ht1, if_neg hc, if_pos (jin_of (by omega) (by omega)), if_pos (jin_of (by omega) (by omega))]
      rfl
    · rw [g2]
      intro j j1
      show upd (t.1 1) _ _ j = _
      rw [upd_ne (by omega)]
      exact h5 j j1
    · rw [g1, g2]
      intro i j2
      simp only at j2
      show upd (t.1 1) _ _ _ = _
      by_cases e : i = q.toInt.toNat
      · rw [upd_eq (by omega), e]
        exact h5 _ (by omega)
      · rw [upd_ne (by omega)]
        exact h6 i (by omega)
def undoC (c : jS) (v : Int32) : jS := upI (upI (upI (upI (upI c 25 6 (c.1 25 6 - 1)) 25 2 (v - v / 100 * 100)) 25 4 ((v / 100) - (v / 100) / 10 * 10)) 25 3 (((v / 100) / 10) - ((v / 100) / 10) / 24 * 24)) 25 5 (((v / 100) / 10) / 24)
theorem undo_ok {nd n : Nat} {TX : jTX} {LO : jLO} {EO : jEO} (hn : 400000 ≤ n) : ok_undo nd n (Inv nd TX LO EO) := by
  intro c m hI
  have hn8 := I_nd hI
  obtain ⟨⟨q0, q1, q2, q3, q4, q5, q6⟩, r1, r2, ⟨r3, r4, r5, r6⟩, r7⟩ := I_trav hI
  have hs := I_steps hI
  have l0 : (0 : Int32).toInt = 0 := rfl
  have l1 : (1 : Int32).toInt = 1 := rfl
  have l30 : (30 : Int32).toInt = 30 := rfl
  have l10 : (10 : Int32).toInt = 10 := rfl
  have l24 : (24 : Int32).toInt = 24 := rfl
  have l100 : (100 : Int32).toInt = 100 := rfl
  by_cases h : c.1 25 6 = 0
  · refine ⟨-1, c, m, ?_, ?_, hI⟩
    · unfold F_X8_undo F_X6_stepsBack_25
      rw [h, if_neg (by decide)]
      rfl
    · unfold F_X9_undo
      rw [if_pos (show m.1 1 (Int32.toNatClampNeg 1) = 0 from q6.symm.trans h)]
  · have h' : ¬ (c.1 25 6).toInt = 0 := fun z => h (i32_eq.mpr (by omega))
    have e1 : (c.1 25 6 - 1).toInt = (c.1 25 6).toInt - 1 := i32_sub (by omega) (by omega)
    obtain ⟨e, he, ho, hj, hw⟩ := backM hn (upI m 1 1 (c.1 25 6 - 1)) (by show 0 ≤ (c.1 25 6 - 1).toInt; omega) (by show (c.1 25 6 - 1).toInt ≤ 29; omega)
    change ∀ i : Nat, i < 4 → e.2.1 1 (5 + i) = upd (m.1 1) 1 (c.1 25 6 - 1) (204 + 4 * (c.1 25 6 - 1).toInt.toNat + i) at hw
    change ∀ j : Nat, (j < 5 ∨ 9 ≤ j) → e.2.1 1 j = upd (m.1 1) 1 (c.1 25 6 - 1) j at hj
    generalize hk : (c.1 25 6 - 1).toInt.toNat = t at hw
    have hz := hs t (by omega)
    have w0 : e.2.1 1 5 = m.1 1 (204 + 4 * t) := by have := hw 0 (by decide); rw [upd_ne (by omega)] at this; exact this
    have w1 : e.2.1 1 6 = m.1 1 (205 + 4 * t) := by have := hw 1 (by decide); rw [upd_ne (by omega)] at this; rw [show 205 + 4 * t = 204 + 4 * t + 1 from by omega]; exact this
    have w2 : e.2.1 1 7 = m.1 1 (206 + 4 * t) := by have := hw 2 (by decide); rw [upd_ne (by omega)] at this; rw [show 206 + 4 * t = 204 + 4 * t + 2 from by omega]; exact this
    have w3 : e.2.1 1 8 = m.1 1 (207 + 4 * t) := by have := hw 3 (by decide); rw [upd_ne (by omega)] at this; rw [show 207 + 4 * t = 204 + 4 * t + 3 from by omega]; exact this
    rw [← w0, ← w1, ← w2, ← w3] at hz
    generalize hv : c.1 26 t = v at hz
    generalize hD : e.2.1 1 5 = D at hz
    generalize hH : e.2.1 1 6 = H at hz
    generalize hW : e.2.1 1 7 = W at hz
    generalize hP : e.2.1 1 8 = P at hz
    obtain ⟨hp, hz⟩ := hz
    have hpl := hp
    obtain ⟨⟨d1, d2⟩, ⟨h1, h2⟩, ⟨k1, k2⟩, p1, p2⟩ := hpl
    have v0 : 0 ≤ v.toInt := by omega
    have f1 : (v - v / 100 * 100).toInt = P.toInt := by rw [i32_rest (n := 100) rfl v0 (by omega)]; omega
    have g1 : (v / 100).toInt = v.toInt / 100 := i32_div rfl v0 (by omega)
    have f2 : ((v / 100) - (v / 100) / 10 * 10).toInt = W.toInt := by rw [i32_rest (n := 10) rfl (by omega) (by omega), g1]; omega
    have g2 : (v / 100 / 10).toInt = v.toInt / 100 / 10 := by rw [i32_div (n := 10) rfl (by omega) (by omega), g1]
    have f3 : (((v / 100) / 10) - ((v / 100) / 10) / 24 * 24).toInt = H.toInt := by rw [i32_rest (n := 24) rfl (by omega) (by omega), g2]; omega
    have f4 : (v / 100 / 10 / 24).toInt = D.toInt := by rw [i32_div (n := 24) rfl (by omega) (by omega), g2]; omega
    have f1' := i32_eq.mpr f1
    have f2' := i32_eq.mpr f2
    have f3' := i32_eq.mpr f3
    have f4' := i32_eq.mpr f4
    have hj1 : e.2.1 1 1 = c.1 25 6 - 1 := (hj 1 (by decide)).trans (upd_eq rfl)
    have hjj : ∀ j : Nat, ¬ j = 1 → (j < 5 ∨ 9 ≤ j) → e.2.1 1 j = m.1 1 j := fun j a b => (hj j b).trans (upd_ne a)
    have hv' : (upI c 25 6 (c.1 25 6 - 1)).1 26 (Int32.toNatClampNeg ((upI c 25 6 (c.1 25 6 - 1)).1 25 6)) = v := by
      show c.1 26 (c.1 25 6 - 1).toNatClampNeg = v
      rw [i32_nat, hk, hv]
    refine ⟨c.1 25 6 - 1, undoC c v, e.2, ?_, ?_, ?_⟩
    · unfold F_X8_undo F_X6_stepsBack_25
      rw [if_pos (show F_X8_within (c.1 25 6) 1 30 = true from win_iff.mpr ⟨by omega, by omega⟩), jl_1, if_pos (show jin ((upI c 25 6 (c.1 25 6 - 1)).1 25 6) 30 = true from jin_of (by show 0 ≤ (c.1 25 6 - 1).toInt; omega) (by show (c.1 25 6 - 1).toInt < (30 : Nat); omega)), hv']
      rfl
    · unfold F_X9_undo
      have q6' : m.1 1 (Int32.toNatClampNeg 1) = c.1 25 6 := q6.symm
      rw [q6', if_neg h, jl_1]
      show ((lp (B_X9_undo_23 n) n (0, upI m 1 1 (c.1 25 6 - 1))).bind fun e23 => some ((e23.2.1 1 (Int32.toNatClampNeg 1)), e23.2)) = _
      rw [he]
      show some (e.2.1 1 1, e.2) = _
      rw [hj1]
    · have hom : onlyRow 1 m e.2 := onlyRow_tr (onlyRow_upI onlyRow_rfl _ _) ho
      refine Inv_walk hI ?_ rfl hom (fun j j1 j2 => hjj j (by omega) (by omega)) (fun j j1 j2 => hjj j (by omega) (by omega)) (fun j j1 j2 => hjj j (by omega) (by omega)) ?_ ?_
      · intro k k1 k2
        unfold undoC
        rw [row_ne k1, row_ne k1, row_ne k1, row_ne k1, row_ne k1]
      · have hT : (undoC c v).1 25 = upd (upd (upd (upd (upd (c.1 25) 6 (c.1 25 6 - 1)) 2 P) 4 W) 3 H) 5 D := by
          rw [← f1', ← f2', ← f3', ← f4']
          rfl
        rw [hT]
        refine ⟨⟨q0.trans (hjj 9 (by decide) (by decide)).symm, q1.trans (hjj 10 (by decide) (by decide)).symm, hP.symm, hH.symm, hW.symm, hD.symm, hj1.symm⟩, r1, r2, hp, ?_, ?_⟩
        · show 0 ≤ (c.1 25 6 - 1).toInt
          omega
        · show (c.1 25 6 - 1).toInt ≤ 30
          omega
      · show rSteps nd (c.1 25 6 - 1) (c.1 26) (e.2.1 1)
        intro k hk2
        have z := hs k (by omega)
        rw [hjj _ (by omega) (by omega), hjj _ (by omega) (by omega), hjj _ (by omega) (by omega), hjj _ (by omega) (by omega)]
        exact z
/-! feed -/
theorem bit255 {i : Nat} (hi : i < 32) : (255#32).getLsbD i = decide (i < 8) := by
  have : ∀ k : Fin 32, (255#32).getLsbD k.val = decide (k.val < 8) := by decide
  exact this ⟨i, hi⟩
theorem low_sext (w : BitVec 32) : BitVec.signExtend 32 (BitVec.signExtend 8 w) &&& 255#32 = w &&& 255#32 := by
  apply BitVec.eq_of_getLsbD_eq
  intro i hi
  rw [BitVec.getLsbD_and, BitVec.getLsbD_and, bit255 hi]
  by_cases h : i < 8
  · rw [BitVec.getLsbD_signExtend, BitVec.getLsbD_signExtend]
    simp [h, hi]
  · simp [h]
theorem low_shr (w : BitVec 32) {k : Nat} (hk : k ≤ 24) : (w >>> k) &&& 255#32 = w.sshiftRight k &&& 255#32 := by
  apply BitVec.eq_of_getLsbD_eq
  intro i hi
  rw [BitVec.getLsbD_and, BitVec.getLsbD_and, bit255 hi]
  by_cases h : i < 8
  · rw [BitVec.getLsbD_ushiftRight, BitVec.getLsbD_sshiftRight]
    have h1 : ¬ 32 ≤ i := by omega
    have h2 : k + i < 32 := by omega
    simp [h, h1, h2]
  · simp [h]
theorem byte_low (v q : Int32) (hq : q = 24 ∨ q = 16 ∨ q = 8 ∨ q = 0) : (vp_nar .byte ((Int32.toInt8 (((v).toUInt32 >>> ((q : Int32).toUInt32 &&& Int32.toUInt32 31)).toInt32)).toInt32)) &&& 255 = (v >>> (q &&& 31)) &&& (255 : Int32) := by
  have hn : ∀ x : Int32, vp_nar .byte x = x.toInt8.toInt32 := fun x => rfl
  rw [hn]
  have h1 : ∀ y : Int8, y.toInt32.toInt8 = y := fun y => by simp
  rw [h1]
  apply Int32.toBitVec_inj.mp
  have h255 : (255 : Int32).toBitVec = 255#32 := rfl
  rcases hq with rfl | rfl | rfl | rfl
  · rw [Int32.toBitVec_and, Int32.toBitVec_and, Int32.toBitVec_shiftRight, h255]
    simp
    rw [low_sext, low_shr _ (by omega)]
  · rw [Int32.toBitVec_and, Int32.toBitVec_and, Int32.toBitVec_shiftRight, h255]
    simp
    rw [low_sext, low_shr _ (by omega)]
  · rw [Int32.toBitVec_and, Int32.toBitVec_and, Int32.toBitVec_shiftRight, h255]
    simp
    rw [low_sext, low_shr _ (by omega)]
  · rw [Int32.toBitVec_and, Int32.toBitVec_and, Int32.toBitVec_shiftRight, h255]
    simp
    rw [low_sext]
section
variable {nd : Nat} {TX : jTX} {LO : jLO} {EO : jEO} {c m c' m' : jS}
theorem Inv_tape (hI : Inv nd TX LO EO c m) (hc : ∀ k : Nat, ¬ k = 27 → ¬ k = 28 → c'.1 k = c.1 k) (hc2 : c'.2 = c.2) (hm : ∀ k : Nat, ¬ k = 0 → ¬ k = 4 → m'.1 k = m.1 k) (hm2 : ∀ j : Nat, ¬ j = 5 → m'.1 0 j = m.1 0 j) (ht : rTape (c'.1 27) (c'.1 28) (m'.1 0) (m'.1 4)) : Inv nd TX LO EO c' m' := by
  obtain ⟨⟨hC, hN, hS, hT, hTape, hF, hTX⟩, hL, hE⟩ := hI
  unfold Inv rel
  rw [hm 1 (by decide) (by decide), hm 2 (by decide) (by decide), hm 3 (by decide) (by decide), hc2, hc 0 (by decide) (by decide), hc 29 (by decide) (by decide), hc 33 (by decide) (by decide), hc 51 (by decide) (by decide), hc 18 (by decide) (by decide), hc 19 (by decide) (by decide), hc 20 (by decide) (by decide), hc 21 (by decide) (by decide), hc 22 (by decide) (by decide), hc 23 (by decide) (by decide), hc 24 (by decide) (by decide), hc 25 (by decide) (by decide), hc 26 (by decide) (by decide), hc 40 (by decide) (by decide), hc 41 (by decide) (by decide), hc 42 (by decide) (by decide), hc 43 (by decide) (by decide), hc 44 (by decide) (by decide), hc 45 (by decide) (by decide), hc 46 (by decide) (by decide), hc 47 (by decide) (by decide), hc 48 (by decide) (by decide), hc 49 (by decide) (by decide), hc 52 (by decide) (by decide)]
  refine ⟨⟨?_, hN, hS, hT, ht, ?_, ?_⟩, hL, hE⟩
  · obtain ⟨a, b, d, e, f, g⟩ := hC
    exact ⟨a, b, d, e, f, (hm2 2 (by decide)).trans g⟩
  · obtain ⟨a, b, d⟩ := hF
    exact ⟨a.trans (hm2 6 (by decide)).symm, b.trans (hm2 7 (by decide)).symm, d⟩
  · exact rTexts_s hTX (Int.le_refl _) hN.1.2.2 (fun k k1 k2 => hc k (by omega) (by omega)) rfl
theorem add_rel {n : Nat} (hn : 400000 ≤ n) (hI : Inv nd TX LO EO c m) (v : Int32) (hp : (c.1 27 1).toInt ≤ 296) : ∃ c1 m1, F_X4_add n v c = some c1 ∧ F_X9_four n v m = some m1 ∧ Inv nd TX LO EO c1 m1 ∧ (c1.1 27 1).toInt = (c.1 27 1).toInt + 4 := by
  obtain ⟨t1, t2, t3⟩ := hI.1.2.2.2.2.1
  have l1 : (1 : Int32).toInt = 1 := rfl
  have l0 : (0 : Int32).toInt = 0 := rfl
  have l8 : (-8 : Int32).toInt = -8 := rfl
  have l300 : (300 : Int32).toInt = 300 := rfl
  generalize hb : (c.1 27 1).toInt = b at *
  obtain ⟨e, f, he, hf, hq1, hq2⟩ := lp_rule2 (body := B_X4_add_3 n v) (body' := B_X9_four_3 n v) (I := fun x y k => x.1 = y.1 ∧ k ≤ 4 ∧ x.1.toInt = 8 * k - 8 ∧ (x.2.1 27 1).toInt = b + (4 - k) ∧ Inv nd TX LO EO x.2 y.2) (Q := fun e f => Inv nd TX LO EO e.2 f.2 ∧ (e.2.1 27 1).toInt = b + 4) (by
    rintro ⟨q, c⟩ ⟨q', m⟩ k ⟨h1, h2, h3, h4, h5⟩
    simp only at h1 h2 h3 h4 h5
    subst h1
    obtain ⟨t1, t2, t3⟩ := h5.1.2.2.2.2.1
    by_cases hc : q < 0
    · left
      have hc' := i32_lt.mp hc
      refine ⟨(q, c), (q, m), ?_, ?_, h5, by show (c.1 27 1).toInt = b + 4; omega⟩
      · unfold B_X4_add_3
        rw [if_pos hc]
      · unfold B_X9_four_3
        rw [if_pos hc]
    · right
      have hc' : ¬ q.toInt < 0 := fun z => hc (i32_lt.mpr z)
      have hq : q = 24 ∨ q = 16 ∨ q = 8 ∨ q = 0 := by
        have : k = 1 ∨ k = 2 ∨ k = 3 ∨ k = 4 := by omega
        rcases this with rfl | rfl | rfl | rfl
        · right; right; right; exact i32_eq.mpr h3
        · right; right; left; exact i32_eq.mpr h3
        · right; left; exact i32_eq.mpr h3
        · left; exact i32_eq.mpr h3
      have hj : jin (c.1 27 1) 300 = true := jin_of (by omega) (by omega)
      have e1 : (q + -8).toInt = q.toInt - 8 := by rw [i32_add (by omega) (by omega)]; omega
      have e2 : (c.1 27 1 + 1).toInt = (c.1 27 1).toInt + 1 := i32_add (by omega) (by omega)
      obtain ⟨p1, hp1⟩ : ∃ p1, c.1 27 1 + 1 = p1 := ⟨_, rfl⟩
      obtain ⟨q1, hq1⟩ : ∃ q1, q + -8 = q1 := ⟨_, rfl⟩
      obtain ⟨x1, hx1⟩ : ∃ x1, vp_nar .byte ((Int32.toInt8 (((v).toUInt32 >>> ((q : Int32).toUInt32 &&& Int32.toUInt32 31)).toInt32)).toInt32) = x1 := ⟨_, rfl⟩
      obtain ⟨y1, hy1⟩ : ∃ y1, (v >>> (q &&& 31)) &&& (255 : Int32) = y1 := ⟨_, rfl⟩
      have hxy := byte_low v q hq
      rw [hx1, hy1] at hxy
      rw [hp1] at e2
      rw [hq1] at e1
      refine ⟨(q1, upI (upI c 28 (c.1 27 1).toNatClampNeg x1) 27 1 p1), (q1, upI (upI m 4 (c.1 27 1).toNatClampNeg y1) 0 5 p1), k - 1, by omega, ?_, ?_, rfl, by omega, ?_, ?_, ?_⟩
      · unfold B_X4_add_3
        dsimp only
        rw [if_neg hc, if_neg (fun z => by have := i32_lt.mp z; omega), if_neg (fun z => by have := i32_le.mp z; omega), if_pos hj, hx1, hq1, jl_1, jl_1]
        have hz : (upI c 28 (c.1 27 1).toNatClampNeg x1).1 27 1 = c.1 27 1 := rfl
        rw [hz, hp1]
      · unfold B_X9_four_3
        dsimp only
        rw [← t1, if_neg hc, if_pos hj, hy1, hq1]
        have hz : (upI m 4 (c.1 27 1).toNatClampNeg y1).1 0 5 = c.1 27 1 := t1.symm
        rw [jl_1, jl_1, hz, hp1]
      · show q1.toInt = 8 * ((k - 1 : Nat) : Int) - 8
        omega
      · show p1.toInt = b + (4 - ((k - 1 : Nat) : Int))
        omega
      · refine Inv_tape h5 ?_ rfl ?_ ?_ ?_
        · intro i i1 i2
          rw [row_ne i1, row_ne i2]
        · intro i i1 i2
          rw [row_ne i1, row_ne i2]
        · intro j j1
          show upd (m.1 0) 5 p1 j = _
          rw [upd_ne j1]
        · refine ⟨rfl, ⟨by show 0 ≤ p1.toInt; omega, by show p1.toInt ≤ 300; omega⟩, ?_⟩
          intro j hj
          change (j : Int) < p1.toInt at hj
          show upd (c.1 28) (c.1 27 1).toNatClampNeg x1 j &&& 255 = upd (m.1 4) (c.1 27 1).toNatClampNeg y1 j
          by_cases e : j = (c.1 27 1).toNatClampNeg
          · rw [upd_eq e, upd_eq e]
            exact hxy
          · rw [upd_ne e, upd_ne e]
            rw [i32_nat] at e
            exact t3 j (by omega)) 4 n (24, c) (24, m) (by omega) ⟨rfl, by omega, by show (24 : Int32).toInt = 8 * 4 - 8; decide, by show (c.1 27 1).toInt = b + (4 - 4); omega, hI⟩
  refine ⟨e.2, f.2, ?_, ?_, hq1, hq2⟩
  · unfold F_X4_add
    rw [he]
    rfl
  · unfold F_X9_four
    rw [hf]
    rfl
end
theorem feed_ok {nd n : Nat} {TX : jTX} {LO : jLO} {EO : jEO} (hn : 400000 ≤ n) : ok_feed nd n (Inv nd TX LO EO) := by
  intro v1 v2 v3 v4 v5 c m hI
  obtain ⟨t1, t2, t3⟩ := hI.1.2.2.2.2.1
  have l20 : (20 : Int32).toInt = 20 := rfl
  have l300 : (300 : Int32).toInt = 300 := rfl
  have e : (c.1 27 1 + 20).toInt = (c.1 27 1).toInt + 20 := i32_add (by omega) (by omega)
  by_cases h : c.1 27 1 + 20 ≤ 300
  · have h' := i32_le.mp h
    obtain ⟨c1, m1, a1, b1, i1, g1⟩ := add_rel hn hI v1 (by omega)
    obtain ⟨c2, m2, a2, b2, i2, g2⟩ := add_rel hn i1 v2 (by omega)
    obtain ⟨c3, m3, a3, b3, i3, g3⟩ := add_rel hn i2 v3 (by omega)
    obtain ⟨c4, m4, a4, b4, i4, g4⟩ := add_rel hn i3 v4 (by omega)
    obtain ⟨c5, m5, a5, b5, i5, g5⟩ := add_rel hn i4 v5 (by omega)
    refine ⟨c5.1 27 1, c5, m5, ?_, ?_, i5⟩
    · unfold F_X8_feed
      rw [if_pos h, a1, Option.bind_some, a2, Option.bind_some, a3, Option.bind_some, a4, Option.bind_some, a5, Option.bind_some]
    · unfold F_X9_feed
      rw [← t1, if_pos h, b1, Option.bind_some, b2, Option.bind_some, b3, Option.bind_some, b4, Option.bind_some, b5, Option.bind_some, i5.1.2.2.2.2.1.1]
  · refine ⟨-1, c, m, ?_, ?_, hI⟩
    · unfold F_X8_feed
      rw [if_neg h]
    · unfold F_X9_feed
      rw [← t1, if_neg h]
