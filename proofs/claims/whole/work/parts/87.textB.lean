/-! text -/
theorem jText_z {x w kn am z3 z3' : Nat → Int32} {t : Nat} (hz : ∀ j : Nat, 680 * t ≤ j → j < 680 * t + 680 → z3' j = z3 j) (h : jText x w kn am z3 t) : jText x w kn am z3' t := by
  obtain ⟨⟨a1, a2, a3⟩, ⟨ko, b1, b2, b3, b4⟩, d, e⟩ := h
  refine ⟨⟨by rw [hz _ (by omega) (by omega)]; exact a1, a2, a3⟩, ⟨ko, b1, fun k hk => by rw [hz _ (by omega) (by omega)]; exact b2 k hk, fun q => ?_, b4⟩, fun k hk => ?_, fun ho => ?_⟩
  · rw [hz _ (by omega) (by omega), hz _ (by omega) (by omega), hz _ (by omega) (by omega)]
    exact b3 q
  · rw [hz _ (by omega) (by omega), hz _ (by omega) (by omega), hz _ (by omega) (by omega)]
    exact d k hk
  · obtain ⟨N, n1, n2, ⟨D, d0, dN, dS⟩, n4⟩ := e ho
    refine ⟨N, n1, n2, ⟨D, d0, dN, fun i hi => ?_⟩, n4⟩
    rw [hz _ (by omega) (by omega), hz _ (by omega) (by omega)]
    exact dS i hi
/-- what the calls keep must not look beyond the texts told -/
def stayL (LO : jLO) : Prop := ∀ (y32 : Nat → Int64) (ra mo z3 z3' : Nat → Int32) (told : Int32), (∀ j : Nat, (j : Int) < 680 * told.toInt → z3' j = z3 j) → LO y32 ra mo z3 told → LO y32 ra mo z3' told
def stayE (EO : jEO) : Prop := ∀ (x6 : Int32) (x52 : Nat → Int32) (cnt : Int32) (gu ru un ra mo z3 z3' : Nat → Int32) (told : Int32), (∀ j : Nat, (j : Int) < 680 * told.toInt → z3' j = z3 j) → EO x6 x52 cnt gu ru un ra mo z3 told → EO x6 x52 cnt gu ru un ra mo z3' told
/-- a text read: what has changed -/
def readC (t : Nat) (c c' : jS) : Prop := (∀ k : Nat, (k < 2 + 4 * t ∨ 2 + 4 * t + 3 < k) → ¬ k = 27 → ¬ k = 49 → ¬ k = 50 → c'.1 k = c.1 k) ∧ c'.1 27 1 = 0 ∧ c'.1 49 4 = Int32.ofNat t ∧ c'.2 = c.2
def readM (t : Nat) (m m' : jS) : Prop := (∀ k : Nat, ¬ k = 0 → ¬ k = 3 → ¬ k = 5 → m'.1 k = m.1 k) ∧ m'.1 0 2 = m.1 0 2 ∧ m'.1 0 5 = 0 ∧ (∀ j : Nat, j < 680 * t → m'.1 3 j = m.1 3 j)
theorem Inv_refused {nd t : Nat} {LO : jLO} {EO : jEO} (hL : stayL LO) (hE : stayE EO) {c m c' m' : jS} (hI : Inv nd jText LO EO c m) (ht : t < 4) (htold : (c.1 18 7).toInt = t) (hc : readC t c c') (hm : readM t m m') (h1 : c'.1 49 0 = m'.1 0 6) (h2 : c'.1 49 1 = m'.1 0 7) : Inv nd jText LO EO c' m' := by
  obtain ⟨⟨hC, hR, hS, hT, hTape, hF, hTX⟩, hLe, hEe⟩ := hI
  have ck : ∀ k : Nat, 18 ≤ k → ¬ k = 27 → ¬ k = 49 → ¬ k = 50 → c'.1 k = c.1 k := fun k a1 a2 a3 a4 => hc.1 k (by omega) a2 a3 a4
  have hz : ∀ j : Nat, (j : Int) < 680 * (c.1 18 7).toInt → m'.1 3 j = m.1 3 j := fun j hj => hm.2.2.2 j (by omega)
  unfold Inv rel
  rw [ck 29 (by omega) (by omega) (by omega) (by omega), ck 33 (by omega) (by omega) (by omega) (by omega), ck 51 (by omega) (by omega) (by omega) (by omega), ck 18 (by omega) (by omega) (by omega) (by omega), ck 19 (by omega) (by omega) (by omega) (by omega), ck 20 (by omega) (by omega) (by omega) (by omega), ck 21 (by omega) (by omega) (by omega) (by omega), ck 22 (by omega) (by omega) (by omega) (by omega), ck 23 (by omega) (by omega) (by omega) (by omega), ck 24 (by omega) (by omega) (by omega) (by omega), ck 25 (by omega) (by omega) (by omega) (by omega), ck 26 (by omega) (by omega) (by omega) (by omega), ck 40 (by omega) (by omega) (by omega) (by omega), ck 41 (by omega) (by omega) (by omega) (by omega), ck 42 (by omega) (by omega) (by omega) (by omega), ck 43 (by omega) (by omega) (by omega) (by omega), ck 44 (by omega) (by omega) (by omega) (by omega), ck 45 (by omega) (by omega) (by omega) (by omega), ck 46 (by omega) (by omega) (by omega) (by omega), ck 47 (by omega) (by omega) (by omega) (by omega), ck 48 (by omega) (by omega) (by omega) (by omega), ck 52 (by omega) (by omega) (by omega) (by omega), ck 28 (by omega) (by omega) (by omega) (by omega), hc.1 0 (by omega) (by omega) (by omega) (by omega), hm.1 1 (by omega) (by omega) (by omega), hm.1 2 (by omega) (by omega) (by omega), hm.1 4 (by omega) (by omega) (by omega), hc.2.2.2]
  refine ⟨⟨?_, hR, hS, hT, ⟨?_, ?_, ?_⟩, ⟨h1, h2, ?_⟩, ?_⟩, ?_, ?_⟩
  · obtain ⟨a1, a2, a3, a4, a5, a6⟩ := hC
    exact ⟨a1, a2, a3, a4, a5, by rw [hm.2.1]; exact a6⟩
  · rw [hc.2.1, hm.2.2.1]
  · rw [hc.2.1]; exact ⟨by decide, by decide⟩
  · intro k hk
    rw [hc.2.1] at hk
    have : (0 : Int32).toInt = 0 := rfl
    omega
  · rw [hc.2.2.1]
    exact jin_val (ofNat_int (by omega)) ht
  · intro k hk
    rw [hc.1 _ (by omega) (by omega) (by omega) (by omega), hc.1 _ (by omega) (by omega) (by omega) (by omega), hc.1 _ (by omega) (by omega) (by omega) (by omega), hc.1 _ (by omega) (by omega) (by omega) (by omega)]
    exact jText_z (fun j _ hj => hz j (by omega)) (hTX k hk)
  · rcases hLe with q | q
    · exact Or.inl q
    · exact Or.inr (hL _ _ _ _ _ _ hz q)
  · intro q
    exact hE _ _ _ _ _ _ _ _ _ _ _ hz (hEe q)
theorem Inv_told {nd t : Nat} {LO : jLO} {EO : jEO} {c m c' m' : jS} (hI : Inv nd jText LO EO c m) (ht : t < 4) (htold : (c.1 18 7).toInt = t) (hc : readC t c c') (hm : readM t m m') (h1 : c'.1 49 0 = m'.1 0 6) (h2 : c'.1 49 1 = m'.1 0 7) (hx : jText (c'.1 (2 + 4 * t)) (c'.1 (2 + 4 * t + 1)) (c'.1 (2 + 4 * t + 2)) (c'.1 (2 + 4 * t + 3)) (m'.1 3) t) {x1 : Int32} (hx1 : x1.toInt = (t : Int) + 1) :
    Inv nd jText LO EO (outl (upI c' 18 7 x1)) (upI m' 1 0 x1) := by
  obtain ⟨⟨hC, ⟨r1, r2, r3, r4, r5, r6, r7, r8, r9⟩, hS, hT, hTape, hF, hTX⟩, hLe, hEe⟩ := hI
  have ck : ∀ k : Nat, 18 ≤ k → ¬ k = 27 → ¬ k = 49 → ¬ k = 50 → c'.1 k = c.1 k := fun k a1 a2 a3 a4 => hc.1 k (by omega) a2 a3 a4
  have hz : ∀ j : Nat, (j : Int) < 680 * (c.1 18 7).toInt → m'.1 3 j = m.1 3 j := fun j hj => hm.2.2.2 j (by omega)
  obtain ⟨D, hD⟩ : ∃ D, outl (upI c' 18 7 x1) = D := ⟨_, rfl⟩
  have dk : ∀ k : Nat, ¬ k = 18 → ¬ k = 29 → ¬ k = 51 → D.1 k = c'.1 k := fun k a1 a2 a3 => by
    rw [← hD]
    unfold outl
    rw [upI_1, if_neg a3, upI_1, if_neg a2, upI_1, if_neg a1]
  have d18 : D.1 18 = upd (c.1 18) 7 x1 := by
    rw [← hD]
    unfold outl
    rw [upI_1, if_neg (by decide), upI_1, if_neg (by decide), upI_1, if_pos rfl, ck 18 (by omega) (by omega) (by omega) (by omega)]
  have d29 : D.1 29 = upd (c.1 29) 6 (jb true) := by
    rw [← hD]
    unfold outl
    rw [upI_1, if_neg (by decide), upI_1, if_pos rfl, upI_1, if_neg (by decide), ck 29 (by omega) (by omega) (by omega) (by omega)]
  have d51 : D.1 51 = upd (c.1 51) 7 (jb false) := by
    rw [← hD]
    unfold outl
    rw [upI_1, if_pos rfl, upI_1, if_neg (by decide), upI_1, if_neg (by decide), ck 51 (by omega) (by omega) (by omega) (by omega)]
  have dc : ∀ k : Nat, 18 ≤ k → ¬ k = 18 → ¬ k = 27 → ¬ k = 29 → ¬ k = 49 → ¬ k = 50 → ¬ k = 51 → D.1 k = c.1 k := fun k a0 a1 a2 a3 a4 a5 a6 => by
    rw [dk k a1 a3 a6, ck k a0 a2 a4 a5]
  obtain ⟨M, hM⟩ : ∃ M, upI m' 1 0 x1 = M := ⟨_, rfl⟩
  have M1 : M.1 1 = upd (m.1 1) 0 x1 := by rw [← hM, upI_1, if_pos rfl, hm.1 1 (by omega) (by omega) (by omega)]
  have Mk : ∀ k : Nat, ¬ k = 1 → M.1 k = m'.1 k := fun k hk => by rw [← hM, upI_1, if_neg hk]
  have s1 : ∀ lo hi : Nat, 1 ≤ lo → sam (m.1 1) (M.1 1) lo hi := fun lo hi h j j1 j2 => by rw [M1, upd_ne (by omega)]
  have s18 : ∀ lo hi : Nat, 8 ≤ lo → sam (c.1 18) (D.1 18) lo hi := fun lo hi h j j1 j2 => by rw [d18, upd_ne (by omega)]
  rw [hD, hM]
  have e7 : D.1 18 7 = x1 := by rw [d18, upd_eq rfl]
  unfold Inv rel
  rw [d29, d51, dc 33 (by omega) (by omega) (by omega) (by omega) (by omega) (by omega) (by omega), dc 19 (by omega) (by omega) (by omega) (by omega) (by omega) (by omega) (by omega), dc 20 (by omega) (by omega) (by omega) (by omega) (by omega) (by omega) (by omega), dc 21 (by omega) (by omega) (by omega) (by omega) (by omega) (by omega) (by omega), dc 22 (by omega) (by omega) (by omega) (by omega) (by omega) (by omega) (by omega), dc 23 (by omega) (by omega) (by omega) (by omega) (by omega) (by omega) (by omega), dc 24 (by omega) (by omega) (by omega) (by omega) (by omega) (by omega) (by omega), dc 25 (by omega) (by omega) (by omega) (by omega) (by omega) (by omega) (by omega), dc 26 (by omega) (by omega) (by omega) (by omega) (by omega) (by omega) (by omega), dc 40 (by omega) (by omega) (by omega) (by omega) (by omega) (by omega) (by omega), dc 41 (by omega) (by omega) (by omega) (by omega) (by omega) (by omega) (by omega), dc 42 (by omega) (by omega) (by omega) (by omega) (by omega) (by omega) (by omega), dc 43 (by omega) (by omega) (by omega) (by omega) (by omega) (by omega) (by omega), dc 44 (by omega) (by omega) (by omega) (by omega) (by omega) (by omega) (by omega), dc 45 (by omega) (by omega) (by omega) (by omega) (by omega) (by omega) (by omega), dc 46 (by omega) (by omega) (by omega) (by omega) (by omega) (by omega) (by omega), dc 47 (by omega) (by omega) (by omega) (by omega) (by omega) (by omega) (by omega), dc 48 (by omega) (by omega) (by omega) (by omega) (by omega) (by omega) (by omega), dc 28 (by omega) (by omega) (by omega) (by omega) (by omega) (by omega) (by omega), dk 0 (by omega) (by omega) (by omega), hc.1 0 (by omega) (by omega) (by omega) (by omega), dk 27 (by omega) (by omega) (by omega), dk 49 (by omega) (by omega) (by omega), Mk 0 (by omega), Mk 2 (by omega), hm.1 2 (by omega) (by omega) (by omega), Mk 3 (by omega), Mk 4 (by omega), hm.1 4 (by omega) (by omega) (by omega), e7]
  refine ⟨⟨?_, ⟨?_, rRain_s r2 sam_rfl (s1 _ _ (by omega)), rMood_s r3 sam_rfl (s1 _ _ (by omega)), ?_, rHinge_s r5 sam_rfl (s1 _ _ (by omega)), rGuests_s r6 (s18 8 9 (by omega) 8 (by omega) (by omega)) sam_rfl (s1 _ _ (by omega)) (s1 _ _ (by omega)), rSeen_s r7 (s18 9 10 (by omega) 9 (by omega) (by omega)) sam_rfl (s1 _ _ (by omega)) (s1 _ _ (by omega)), rTrav_s r8 sam_rfl (s1 _ _ (by omega)) (s1 _ _ (by omega)), rSteps_s r9 rfl r8.2.2.2.2.2 sam_rfl (s1 _ _ (by omega))⟩, hS, ?_, ⟨?_, ?_, ?_⟩, ⟨h1, h2, ?_⟩, ?_⟩, rLeasts_s, rEarn_f⟩
  · obtain ⟨a1, a2, a3, a4, a5, a6⟩ := hC
    exact ⟨a1, a2, by rw [upd_ne (by decide)]; exact a3, a4, by rw [upd_ne (by decide)]; exact a5, by rw [hm.2.1]; exact a6⟩
  · unfold rTold
    rw [e7, M1, upd_eq rfl]
    exact ⟨rfl, by omega, by omega⟩
  · intro k hk
    obtain ⟨q1, q2, q3⟩ := r4 k hk
    rw [s1 28 36 (by omega) (28 + k) (by omega) (by omega)]
    have : (D.1 18 7).toInt = x1.toInt := by rw [e7]
    exact ⟨q1, q2, by omega⟩
  · omega
  · rw [hc.2.1, hm.2.2.1]
  · rw [hc.2.1]; exact ⟨by decide, by decide⟩
  · intro k hk
    rw [hc.2.1] at hk
    have : (0 : Int32).toInt = 0 := rfl
    omega
  · rw [hc.2.2.1]
    exact jin_val (ofNat_int (by omega)) ht
  · intro k hk
    rw [dk _ (by omega) (by omega) (by omega), dk _ (by omega) (by omega) (by omega), dk _ (by omega) (by omega) (by omega), dk _ (by omega) (by omega) (by omega)]
    by_cases e : k = t
    · subst e; exact hx
    · rw [hc.1 _ (by omega) (by omega) (by omega) (by omega), hc.1 _ (by omega) (by omega) (by omega) (by omega), hc.1 _ (by omega) (by omega) (by omega) (by omega), hc.1 _ (by omega) (by omega) (by omega) (by omega)]
      exact jText_z (fun j _ hj => hz j (by omega)) (hTX k (by omega))
theorem text_ok {nd n : Nat} {LO : jLO} {EO : jEO} (hL : stayL LO) (hE : stayE EO) (hn : 400000 ≤ n) : ok_text nd n (Inv nd jText LO EO) := by
  intro c m hI
  have hI0 := hI
  obtain ⟨⟨hC, hR, hS, hT, hTape, hF, hTX⟩, hLe, hEe⟩ := hI
  obtain ⟨hR1, hR2, hR3⟩ := hR.1
  have l0 : (0 : Int32).toInt = 0 := rfl
  have l1 : (1 : Int32).toInt = 1 := rfl
  have l3 : (3 : Int32).toInt = 3 := rfl
  have l4 : (4 : Int32).toInt = 4 := rfl
  have n0 : (Int32.toNatClampNeg 0) = 0 := rfl
  obtain ⟨told, htd⟩ : ∃ x, c.1 18 7 = x := ⟨_, rfl⟩
  rw [htd] at hR1 hR2 hR3
  by_cases h4 : told.toInt = 4
  · refine ⟨-1, c, m, ?_, ?_, hI0⟩
    · unfold F_X8_text
      rw [htd, if_neg (fun z => by have := win_iff.mp z; omega)]
    · unfold F_X9_text
      rw [n0, ← hR1, if_pos (i32_eq.mpr h4)]
  · obtain ⟨t, ht0⟩ : ∃ t : Nat, told.toInt = t := ⟨told.toInt.toNat, by omega⟩
    have ht : t < 4 := by omega
    have htn : told.toNatClampNeg = t := nat_val ht0
    have htj : jin told 4 = true := jin_val ht0 ht
    have hot : Int32.ofNat t = told := by rw [i32_of hR2, show told.toInt.toNat = t from by omega]
    -- the two begin
    obtain ⟨X, hX⟩ : ∃ X, upI (upI (upI (upI (upI (upI (upI (upI (upI c 49 0 0) 49 1 (-1)) 49 5 0) 49 4 (Int32.ofNat t)) (2 + 4 * t) 3 0) (2 + 4 * t) 4 0) (2 + 4 * t) 5 0) (2 + 4 * t) 6 (jb false)) 27 5 0 = X := ⟨_, rfl⟩
    have X49 : X.1 49 = upd (upd (upd (upd (c.1 49) 0 0) 1 (-1)) 5 0) 4 (Int32.ofNat t) := by
      rw [← hX, upI_1, if_neg (by decide), upI_1, if_neg (by omega), upI_1, if_neg (by omega), upI_1, if_neg (by omega), upI_1, if_neg (by omega), upI_1, if_pos rfl, upI_1, if_pos rfl, upI_1, if_pos rfl, upI_1, if_pos rfl]
    have Xt : X.1 (2 + 4 * t) = upd (upd (upd (upd (c.1 (2 + 4 * t)) 3 0) 4 0) 5 0) 6 (jb false) := by
      rw [← hX, upI_1, if_neg (by omega), upI_1, if_pos rfl, upI_1, if_pos rfl, upI_1, if_pos rfl, upI_1, if_pos rfl, upI_1, if_neg (by omega), upI_1, if_neg (by omega), upI_1, if_neg (by omega), upI_1, if_neg (by omega)]
    have X27 : X.1 27 = upd (c.1 27) 5 0 := by
      rw [← hX, upI_1, if_pos rfl, upI_1, if_neg (by omega), upI_1, if_neg (by omega), upI_1, if_neg (by omega), upI_1, if_neg (by omega), upI_1, if_neg (by omega), upI_1, if_neg (by omega), upI_1, if_neg (by omega), upI_1, if_neg (by omega)]
    have Xk : ∀ k : Nat, ¬ k = 2 + 4 * t → ¬ k = 27 → ¬ k = 49 → X.1 k = c.1 k := fun k a1 a2 a3 => by
      rw [← hX, upI_1, if_neg a2, upI_1, if_neg a1, upI_1, if_neg a1, upI_1, if_neg a1, upI_1, if_neg a1, upI_1, if_neg a3, upI_1, if_neg a3, upI_1, if_neg a3, upI_1, if_neg a3]
    have XL : X.2 = c.2 := by rw [← hX]; rfl
    have e680 : (680 * told).toInt = (680 * t : Nat) := by rw [i32_mulL (n := 680) rfl (by omega) (by omega)]; omega
    obtain ⟨b, hb⟩ : ∃ b, 680 * told = b := ⟨_, rfl⟩
    rw [hb] at e680
    have hbj : jin b 2720 = true := jin_of (by omega) (by omega)
    have hbn : b.toNatClampNeg = 680 * t := nat_val e680
    obtain ⟨Y, hY⟩ : ∃ Y, upI (upI (upI (upI (upI (upI m 0 13 b) 3 (680 * t) 0) 0 15 0) 0 19 0) 0 21 (jb false)) 0 8 0 = Y := ⟨_, rfl⟩
    have Y0 : Y.1 0 = upd (upd (upd (upd (upd (m.1 0) 13 b) 15 0) 19 0) 21 (jb false)) 8 0 := by
      rw [← hY, upI_1, if_pos rfl, upI_1, if_pos rfl, upI_1, if_pos rfl, upI_1, if_pos rfl, upI_1, if_neg (by decide), upI_1, if_pos rfl]
    have Y3 : Y.1 3 = upd (m.1 3) (680 * t) 0 := by
      rw [← hY, upI_1, if_neg (by decide), upI_1, if_neg (by decide), upI_1, if_neg (by decide), upI_1, if_neg (by decide), upI_1, if_pos rfl, upI_1, if_neg (by decide)]
    have Yk : ∀ k : Nat, ¬ k = 0 → ¬ k = 3 → Y.1 k = m.1 k := fun k a1 a2 => by
      rw [← hY, upI_1, if_neg a1, upI_1, if_neg a1, upI_1, if_neg a1, upI_1, if_neg a1, upI_1, if_neg a2, upI_1, if_neg a1]
    have YL : Y.2 = m.2 := by rw [← hY]; rfl
    have hTX0 : rTape (X.1 27) (X.1 28) (Y.1 0) (Y.1 4) := by
      obtain ⟨t1, t2, t3⟩ := hTape
      unfold rTape
      rw [X27, upd_ne (by decide), Xk 28 (by omega) (by omega) (by omega), Y0, upd_ne (by decide), upd_ne (by decide), upd_ne (by decide), upd_ne (by decide), upd_ne (by decide), Yk 4 (by decide) (by decide)]
      exact ⟨t1, t2, t3⟩
    obtain ⟨c1, m1, a1, a2, a3, a4, a5, a6⟩ := nextToken_rel hn hTX0 (by rw [X27, upd_eq rfl, Y0, upd_eq rfl]) (by rw [X27, upd_eq rfl]; decide) (by rw [X27, upd_eq rfl, upd_ne (by decide)]; exact hTape.2.1.1)
    have hT1 := tape_fr hTX0 a3 a4
    have m10 : ∀ j : Nat, ¬ j = 8 → ¬ j = 9 → ¬ j = 10 → ¬ j = 11 → m1.1 0 j = Y.1 0 j := a4.2.1
    have htR : textR t [] c1 m1 := by
      have e0 : c1.1 (2 + 4 * t) = X.1 (2 + 4 * t) := a3.1 _ (by omega)
      have e49 : c1.1 49 = X.1 49 := a3.1 49 (by decide)
      have e3 : m1.1 3 = Y.1 3 := a4.1 3 (by decide)
      have x4 : X.1 (2 + 4 * t) 4 = 0 := by rw [Xt, upd_ne (by decide), upd_ne (by decide), upd_eq rfl]
      have x6 : X.1 (2 + 4 * t) 6 = jb false := by rw [Xt, upd_eq rfl]
      refine ⟨⟨?_, ?_, ?_⟩, hT1, a5, ⟨⟨?_, ?_, ?_⟩, ⟨0, ?_, fun k hk => absurd hk (Nat.not_lt_zero k), fun z => ?_, ?_⟩, fun k hk => ?_⟩, ?_, ⟨?_, trivial, ?_, trivial, ?_, Nat.zero_le _, fun z => ?_, fun _ => rfl⟩, ?_, ?_⟩
      · rw [e49, X49, upd_eq rfl]
      · rw [e49, X49, upd_ne (by decide), upd_eq rfl]
      · rw [e49, X49, upd_ne (by decide), upd_ne (by decide), upd_ne (by decide), upd_eq rfl]
      · rw [e0, x4, e3, Y3, upd_eq rfl]
      · rw [e0, x4]; decide
      · rw [e0, x4]; decide
      · rw [e0, x4]; decide
      · rw [e0, x4] at z; exact absurd z (by decide)
      · rw [e0, x4, x6]; exact ⟨fun z => absurd z jz_f, fun z => absurd z (by decide)⟩
      · rw [e0, x4, l0] at hk; omega
      · rw [e0, x6, m10 21 (by decide) (by decide) (by decide) (by decide), Y0, upd_ne (by decide), upd_eq rfl]
      · rw [e0, Xt, upd_ne (by decide), upd_ne (by decide), upd_ne (by decide), upd_eq rfl]; rfl
      · rw [m10 15 (by decide) (by decide) (by decide) (by decide), Y0, upd_ne (by decide), upd_ne (by decide), upd_ne (by decide), upd_eq rfl]; rfl
      · rw [e0, Xt, upd_ne (by decide), upd_eq rfl]
        intro j hj
        have : ∀ j : Nat, j < 8 → ¬ (((0 : Int32) >>> (Int32.ofNat j &&& 31)) &&& (1 : Int32)) = 1 := by decide +kernel
        exact ⟨fun z => absurd z (this j hj), fun ⟨y, hy, _⟩ => absurd hy (by simp)⟩
      · rw [e0, x6] at z; exact absurd z jz_f
      · rw [m10 19 (by decide) (by decide) (by decide) (by decide), Y0, upd_ne (by decide), upd_ne (by decide), upd_eq rfl]; rfl
      · rw [m10 13 (by decide) (by decide) (by decide) (by decide), Y0, upd_ne (by decide), upd_ne (by decide), upd_ne (by decide), upd_ne (by decide), upd_eq rfl]; exact e680
    have hfX : fC t c1 c1 := fC_rfl
    have c1k : ∀ k : Nat, (k < 2 + 4 * t ∨ 2 + 4 * t + 3 < k) → ¬ k = 27 → ¬ k = 49 → ¬ k = 50 → c1.1 k = c.1 k := fun k b1 b2 b3 b4 => by rw [a3.1 k b2, Xk k (by omega) b2 b3]
    have c14 : c1.1 49 4 = Int32.ofNat t := htR.1.1
    have c1L : c1.2 = c.2 := by rw [a3.2.2, XL]
    have m1k : ∀ k : Nat, ¬ k = 0 → ¬ k = 3 → ¬ k = 5 → m1.1 k = m.1 k := fun k b1 b2 b3 => by rw [a4.1 k b1, Yk k b1 b2]
    have m12 : m1.1 0 2 = m.1 0 2 := by rw [m10 2 (by decide) (by decide) (by decide) (by decide), Y0, upd_ne (by decide), upd_ne (by decide), upd_ne (by decide), upd_ne (by decide), upd_ne (by decide)]
    have m13 : ∀ j : Nat, j < 680 * t → m1.1 3 j = m.1 3 j := fun j hj => by rw [a4.1 3 (by decide), Y3, upd_ne (by omega)]
    -- the class's loop and the reference's
    obtain ⟨e, he, hq⟩ := clauses_rel hn ht htR
    have hread : F_X9_readText n m = Sum.elim (fun e48 => some (0, e48)) (fun r48 => some r48) e := by
      unfold F_X9_readText
      rw [n0, ← hR1, hb, jl_1, show (upI m 0 13 b).1 0 13 = b from rfl, if_pos hbj, jl_1, hbn, jl_1, jl_1, jl_1, jl_1, hY, a2, Option.bind_some, he, Option.bind_some]
    have X0 : X.1 49 0 = 0 := by rw [X49, upd_ne (by decide), upd_ne (by decide), upd_ne (by decide), upd_eq rfl]
    have hcls : ∀ (c' y : jS), fin n c' y → c'.1 49 0 = 0 → (c'.1 27 4).toInt ≤ 300 → rch n c1 c' → F_X1_read_T n t c = (if (y.1 49 0) = 0 then some (true, y) else some (false, y)) := by
      intro c' y f1 f2 f3 ⟨kk, f4⟩
      have := rchK_le kk c1 c' f4
      have hst : 0 ≤ (c1.1 27 4).toInt := a5.1.2.2.1
      obtain ⟨e', e1, e2⟩ := loop_end f1 f2 f3 kk c1 X 0 n f4 X0 a1 (by decide) (by rw [l0]; exact hst) (by omega)
      unfold F_X1_read_T
      rw [jl_1, jl_1, jl_1, jl_1]
      have e4 : (upI (upI (upI (upI c 49 0 0) 49 1 (-1)) 49 5 0) 49 4 (Int32.ofNat t)).1 49 4 = Int32.ofNat t := rfl
      rw [e4, if_pos (jin_val (ofNat_int (by omega)) ht), nat_val (z := t) (ofNat_int (by omega))]
      unfold F_X5_empties
      rw [jl_1, jl_1, jl_1, jl_1, Option.bind_some]
      unfold F_X4_rewinds
      rw [jl_1, Option.bind_some, hX, e1, Option.bind_some, e2]
    have hc0 : F_X8_text n c = (F_X1_read_T n t c).bind fun p29 => (jl (upI p29.2 27 1 0) fun s38_2 => (if p29.1 = true then (jl (upI s38_2 18 7 (told + 1)) fun s54_3 => ((F_X8_outlookChanged s54_3).bind fun p58 => some (told, p58))) else some ((-1), s38_2))) := by
      unfold F_X8_text
      rw [htd, if_pos (win_iff.mpr (by omega)), if_pos htj, htn]
    have hm0 : F_X9_text n m = (F_X9_readText n m).bind fun p14 => (jl (upI p14.2 0 6 p14.1) fun s17_1 => (if (s17_1.1 0 6) = 0 then J_X9_text_36 n (-1) s17_1 else J_X9_text_36 n (s17_1.1 0 9) s17_1)) := by
      unfold F_X9_text
      rw [n0, ← hR1, if_neg (fun z => h4 (i32_eq.mp z))]
    rcases hq with ⟨f, y, rfl, f0, d1, d2, q1, q2, q3, q4, q5, q6, q7, q8, q9⟩ | ⟨y, rfl, c', Wf, q1, q2, q3, q4, q5⟩
    · -- refused
      have hr : F_X1_read_T n t c = some (false, d2) := by
        rw [hcls d1 d2 (Or.inr ⟨q2, q5, by rw [q6]; exact f0⟩) q3 q4 q1, if_neg (by rw [q6]; exact f0)]
      rw [hr, Option.bind_some, jl_1, if_neg (fun z => by cases z)] at hc0
      rw [hread] at hm0
      change F_X9_text n m = (jl (upI y 0 6 f) fun s17_1 => (if (s17_1.1 0 6) = 0 then J_X9_text_36 n (-1) s17_1 else J_X9_text_36 n (s17_1.1 0 9) s17_1)) at hm0
      rw [jl_1, show (upI y 0 6 f).1 0 6 = f from rfl, if_neg f0, show (upI y 0 6 f).1 0 9 = y.1 0 9 from rfl] at hm0
      unfold J_X9_text_36 at hm0
      rw [jl_1, jl_1, show (upI (upI (upI y 0 6 f) 0 7 (y.1 0 9)) 0 5 0).1 0 6 = f from rfl, if_neg f0] at hm0
      refine ⟨-1, _, _, hc0, hm0, Inv_refused hL hE hI0 ht (by rw [htd]; exact ht0) ⟨fun k b1 b2 b3 b4 => ?_, ?_, ?_, ?_⟩ ⟨fun k b1 b2 b3 => ?_, ?_, ?_, fun j hj => ?_⟩ ?_ ?_⟩
      · rw [upI_1, if_neg b2, q8.1 k b1 b2 b3 b4, c1k k b1 b2 b3 b4]
      · rw [upI_1, if_pos rfl, upd_eq rfl]
      · rw [upI_1, if_neg (by decide), q8.2.2.1]; exact c14
      · rw [upI_2, q8.2.2.2, c1L]
      · rw [upI_1, if_neg b1, upI_1, if_neg b1, upI_1, if_neg b1, q9.1 k b1 b2 b3, m1k k b1 b2 b3]
      · rw [upI_1, if_pos rfl, upd_ne (by decide), upI_1, if_pos rfl, upd_ne (by decide), upI_1, if_pos rfl, upd_ne (by decide), q9.2.1 2 (by decide) (by decide) (by decide) (by decide) (by decide) (by decide) (by decide) (by decide) (by decide)]; exact m12
      · rw [upI_1, if_pos rfl, upd_eq rfl]
      · rw [upI_1, if_neg (by decide), upI_1, if_neg (by decide), upI_1, if_neg (by decide), q9.2.2.1 j hj, m13 j hj]
      · rw [upI_1, if_neg (by decide)]; exact q6
      · rw [upI_1, if_neg (by decide)]; exact q7
    · -- told
      have h490 : c'.1 49 0 = 0 := q2.1.2.2
      have hst := (notEnd q2.2.1 q2.2.2.1).1
      have hr : F_X1_read_T n t c = some (true, c') := by
        rw [hcls c' c' (Or.inl ⟨q2.1.2.1, q5, rfl⟩) h490 hst q1, if_pos h490]
      obtain ⟨x1, hx1⟩ : ∃ x1, told + 1 = x1 := ⟨_, rfl⟩
      have hx1v : x1.toInt = (t : Int) + 1 := by rw [← hx1, i32_add (by omega) (by omega)]; omega
      rw [hr, Option.bind_some, jl_1, if_pos rfl, hx1, jl_1, outl_eq, Option.bind_some] at hc0
      rw [hread] at hm0
      change F_X9_text n m = (jl (upI y 0 6 0) fun s17_1 => (if (s17_1.1 0 6) = 0 then J_X9_text_36 n (-1) s17_1 else J_X9_text_36 n (s17_1.1 0 9) s17_1)) at hm0
      rw [jl_1, show (upI y 0 6 0).1 0 6 = 0 from rfl, if_pos rfl] at hm0
      unfold J_X9_text_36 at hm0
      rw [jl_1, jl_1, show (upI (upI (upI y 0 6 0) 0 7 (-1)) 0 5 0).1 0 6 = 0 from rfl, if_pos rfl, n0] at hm0
      obtain ⟨M, hM⟩ : ∃ M, upI (upI (upI y 0 6 0) 0 7 (-1)) 0 5 0 = M := ⟨_, rfl⟩
      rw [hM] at hm0
      have M0 : ∀ j : Nat, ¬ j = 5 → ¬ j = 6 → ¬ j = 7 → M.1 0 j = y.1 0 j := fun j b1 b2 b3 => by
        rw [← hM, upI_1, if_pos rfl, upd_ne b1, upI_1, if_pos rfl, upd_ne b3, upI_1, if_pos rfl, upd_ne b2]
      have Mk : ∀ k : Nat, ¬ k = 0 → M.1 k = y.1 k := fun k b1 => by
        rw [← hM, upI_1, if_neg b1, upI_1, if_neg b1, upI_1, if_neg b1]
      have M10 : M.1 1 0 = told := by rw [Mk 1 (by decide), q4.1 1 (by decide) (by decide) (by decide), m1k 1 (by decide) (by decide) (by decide)]; exact hR1.symm
      rw [M10, hx1, jl_1, show (upI M 1 0 x1).1 1 0 = x1 from rfl, show x1 - 1 = told from i32_eq.mpr (by rw [i32_sub (by omega) (by omega), l1]; omega)] at hm0
      refine ⟨told, _, _, hc0, hm0, Inv_told hI0 ht (by rw [htd]; exact ht0) ⟨fun k b1 b2 b3 b4 => ?_, ?_, ?_, ?_⟩ ⟨fun k b1 b2 b3 => ?_, ?_, ?_, fun j hj => ?_⟩ ?_ ?_ ?_ hx1v⟩
      · rw [upI_1, if_neg b2, q3.1 k b1 b2 b3 b4, c1k k b1 b2 b3 b4]
      · rw [upI_1, if_pos rfl, upd_eq rfl]
      · rw [upI_1, if_neg (by decide), q3.2.2.1]; exact c14
      · rw [upI_2, q3.2.2.2, c1L]
      · rw [Mk k b1, q4.1 k b1 b2 b3, m1k k b1 b2 b3]
      · rw [M0 2 (by decide) (by decide) (by decide), q4.2.1 2 (by decide) (by decide) (by decide) (by decide) (by decide) (by decide) (by decide) (by decide) (by decide)]; exact m12
      · rw [← hM, upI_1, if_pos rfl, upd_eq rfl]
      · rw [Mk 3 (by decide), q4.2.2.1 j hj, m13 j hj]
      · rw [upI_1, if_neg (by decide), ← hM]; exact h490
      · rw [upI_1, if_neg (by decide), rch_49 q1, a3.1 49 (by decide), X49, upd_ne (by decide), upd_ne (by decide), upd_eq rfl, ← hM]
        rfl
      · rw [upI_1, if_neg (by omega), upI_1, if_neg (by omega), upI_1, if_neg (by omega), upI_1, if_neg (by omega), Mk 3 (by decide)]
        exact jText_of q2
