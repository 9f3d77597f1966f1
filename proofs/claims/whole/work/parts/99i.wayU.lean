/-! what is kept of the rules, between calls -/
def LOw (nd n : Nat) : jLO := fun y32 ra mo z3 told => ∃ c : jS, asksR c (canM ra mo z3) ∧ c.1 18 7 = told ∧ c.1 19 = ra ∧ c.1 20 = mo ∧ tabOK (opV n ra mo z3) c y32 nd told
theorem can_rain {ra mo z3 a : Nat → Int32} (h : rRain ra a) : rRain ra ((canM ra mo z3).1 1) := by
  intro k hk
  refine ⟨?_, (h k hk).2⟩
  show ra k = (if 36 + k < 36 then mo (36 + k - 12) else ra (36 + k - 36))
  rw [if_neg (by omega), show 36 + k - 36 = k from by omega]
theorem can_mood {ra mo z3 a : Nat → Int32} (h : rMood mo a) : rMood mo ((canM ra mo z3).1 1) := by
  intro k hk
  refine ⟨?_, (h k hk).2⟩
  show mo k = (if 12 + k < 36 then mo (12 + k - 12) else ra (12 + k - 36))
  rw [if_pos (by omega), show 12 + k - 12 = k from by omega]
theorem asks_can {c m : jS} (h : asksR c m) : asksR c (canM (c.1 19) (c.1 20) (m.1 3)) := ⟨h.1, h.2.1, can_rain h.2.2.1, can_mood h.2.2.2⟩
/-- one answer, of any two states of one rules -/
theorem opV_same {n : Nat} (hn : 400000 ≤ n) {c m m' : jS} (h : asksR c m) (h' : asksR c m') {v1 v2 v3 v4 v5 v6 v7 : Int32} (g : inArgs (c.1 18 7) v1 v2 v3 v4 v5 v6 v7) : opV n (c.1 19) (c.1 20) (m.1 3) v1 v2 v3 v4 v5 v6 v7 = opV n (c.1 19) (c.1 20) (m'.1 3) v1 v2 v3 v4 v5 v6 v7 := by
  obtain ⟨_, _, q, _⟩ := op_is hn h g
  obtain ⟨_, _, q', _⟩ := op_is hn h' g
  rw [q] at q'
  exact congrArg Prod.fst (Option.some.inj q')
theorem stay_w {nd n : Nat} (hn : 400000 ≤ n) (hnd : nd ≤ 8) : stayL (LOw nd n) := by
  intro y32 ra mo z3 z3' told hz h
  obtain ⟨c, h1, h2, h3, h4, h5⟩ := h
  subst h2 h3 h4
  have h1' : asksR c (canM (c.1 19) (c.1 20) z3') := by
    refine ⟨fun t ht => jText_z (fun j j1 j2 => hz j (by omega)) (h1.1 t ht), h1.2.1, can_rain h1.2.2.1, can_mood h1.2.2.2⟩
  refine ⟨c, h1', rfl, rfl, rfl, fun r dd ll a1 a2 a3 a4 a5 h w a6 a7 a8 => ?_⟩
  have hr4 : r < 4 := by have := h1.2.1; omega
  refine entP_congr (fun k k1 k8 => lgF_congr (fun g hg => ?_)) (h5 r dd ll a1 a2 a3 a4 a5 h w a6 a7 a8)
  exact opV_same hn h1 h1' (sr_args hr4 a1 (by omega) a6 a3 a7 hg (by omega))
theorem start_w {nd n : Nat} (h : 1 ≤ nd ∧ nd ≤ 8) : ∀ z3 : Nat → Int32, LOw nd n ((sC0 nd).2 32) ((sC0 nd).1 19) ((sC0 nd).1 20) z3 0 := by
  intro z3
  have hr := startRoad h
  refine ⟨sC0 nd, ⟨fun t ht => ?_, ?_, can_rain hr.2.1, can_mood hr.2.2.1⟩, rfl, rfl, rfl, fun r dd ll a1 => ?_⟩
  · exact absurd ht (by show ¬ (t : Int) < (0 : Int32).toInt; rw [show (0 : Int32).toInt = 0 from rfl]; omega)
  · show (0 : Int32).toInt ≤ 4
    decide
  · exact absurd a1 (by rw [show (0 : Int32).toInt = 0 from rfl]; omega)
theorem tab_s {V : oV} {s s' : jS} {y : Nat → Int64} {nd : Nat} {told : Int32} (h : tabOK V s y nd told) (h4 : told.toInt ≤ 4) (g : ∀ r : Nat, r < 4 → s'.1 (2 + 4 * r) = s.1 (2 + 4 * r)) : tabOK V s' y nd told := by
  intro r dd ll a1 a2 a3 a4 a5 h' w a6 a7 a8
  rw [g r (by omega)] at a4 a8
  exact h r dd ll a1 a2 a3 a4 a5 h' w a6 a7 a8
section
variable {nd n : Nat} {EO : jEO} {c m : jS}
theorem I_asks {TXX : jLO} (hI : Inv nd jText TXX EO c m) : asksR c m := ⟨hI.1.2.2.2.2.2.2, hI.1.2.1.1.2.2, hI.1.2.1.2.1, hI.1.2.1.2.2.1⟩
theorem I_tab (hI : Inv nd jText (LOw nd n) EO c m) : jz (c.1 29 6) = true ∨ tabOK (opV n (c.1 19) (c.1 20) (m.1 3)) c (c.2 32) nd (c.1 18 7) := by
  rcases hI.2.1 with q | ⟨c0, h1, h2, h3, h4, h5⟩
  · exact Or.inl q
  · right
    refine tab_c h5 ?_ hI.1.2.2.2.2.2.2
    rw [← h2]
    exact h1.1
/-- rows of the ways and earnings change -/
def wkC (c c' : jS) : Prop := (∀ k : Nat, k < 29 ∨ (39 < k ∧ k < 51) → c'.1 k = c.1 k) ∧ c'.1 29 0 = c.1 29 0 ∧ c'.1 33 4 = c.1 33 4 ∧ c'.1 51 1 = c.1 51 1
theorem wkC_rfl : wkC c c := ⟨fun _ _ => rfl, rfl, rfl, rfl⟩
theorem wkC_tr {a b d : jS} (h1 : wkC a b) (h2 : wkC b d) : wkC a d := ⟨fun k hk => (h2.1 k hk).trans (h1.1 k hk), h2.2.1.trans h1.2.1, h2.2.2.1.trans h1.2.2.1, h2.2.2.2.trans h1.2.2.2⟩
theorem wkC_l {s s' : jS} (h : lnM s s') : wkC s s' := ⟨fun k hk => h.1 k (by omega) (by omega) (by omega), h.2.1 0 (by decide), by rw [h.1 33 (by decide) (by decide) (by decide)], by rw [h.1 51 (by decide) (by decide) (by decide)]⟩
theorem wkC_w {s s' : jS} (h : wyM s s') : wkC s s' := ⟨fun k hk => h.1 k (by omega), by rw [h.1 29 (by decide)], h.2.1 4 (by decide) (by decide), by rw [h.1 51 (by decide)]⟩
def wkM (m m' : jS) : Prop := (∀ k : Nat, 1 ≤ k → k ≤ 4 → m'.1 k = m.1 k) ∧ m'.1 0 2 = m.1 0 2 ∧ m'.1 0 5 = m.1 0 5 ∧ m'.1 0 6 = m.1 0 6 ∧ m'.1 0 7 = m.1 0 7
theorem wkM_rfl : wkM m m := ⟨fun _ _ _ => rfl, rfl, rfl, rfl, rfl⟩
theorem wkM_tr {a b d : jS} (h1 : wkM a b) (h2 : wkM b d) : wkM a d := ⟨fun k k1 k2 => (h2.1 k k1 k2).trans (h1.1 k k1 k2), h2.2.1.trans h1.2.1, h2.2.2.1.trans h1.2.2.1, h2.2.2.2.1.trans h1.2.2.2.1, h2.2.2.2.2.trans h1.2.2.2.2⟩
theorem wkM_o {a b : jS} (h : oM a b) : wkM a b := ⟨fun k k1 k2 => h.1 k (by omega) (by omega) (by omega) (by omega) (by omega) (by omega) (by omega), h.2.1 2 (by decide), h.2.1 5 (by decide), h.2.1 6 (by decide), h.2.1 7 (by decide)⟩
theorem Inv_wk {TX : jTX} {LO : jLO} {c' m' : jS} (hI : Inv nd TX LO EO c m) (hc : wkC c c') (hm : wkM m m') (hL : rLeasts LO (c'.1 29) (c'.2 32) (c.1 19) (c.1 20) (m.1 3) (c.1 18 7)) (hE : rEarn EO (c'.1 51) (c'.1 52) (c.1 18 8) (c.1 23) (c.1 21) (c.1 22) (c.1 19) (c.1 20) (m.1 3) (c.1 18 7)) : Inv nd TX LO EO c' m' := by
  obtain ⟨hc1, hc2, hc3, hc4⟩ := hc
  obtain ⟨hm1, hm2, hm3, hm4, hm5⟩ := hm
  obtain ⟨⟨hC, hN, hS, hT, hTape, hF, hTX⟩, _, _⟩ := hI
  have ck : ∀ k : Nat, k < 29 ∨ (39 < k ∧ k < 51) → c'.1 k = c.1 k := hc1
  have m1 := hm1 1 (by decide) (by decide)
  have m2 := hm1 2 (by decide) (by decide)
  have m3 := hm1 3 (by decide) (by decide)
  have m4 := hm1 4 (by decide) (by decide)
  unfold Inv rel
  rw [m1, m2, m3, m4, ck 0 (by omega), ck 18 (by omega), ck 19 (by omega), ck 20 (by omega), ck 21 (by omega), ck 22 (by omega), ck 23 (by omega), ck 24 (by omega), ck 25 (by omega), ck 26 (by omega), ck 27 (by omega), ck 28 (by omega), ck 40 (by omega), ck 41 (by omega), ck 42 (by omega), ck 43 (by omega), ck 44 (by omega), ck 45 (by omega), ck 46 (by omega), ck 47 (by omega), ck 48 (by omega), ck 49 (by omega)]
  refine ⟨⟨?_, hN, hS, hT, ?_, ?_, rTexts_s hTX (Int.le_refl _) hN.1.2.2 (fun k k1 k2 => hc1 k (by omega)) rfl⟩, hL, hE⟩
  · unfold rConst at hC ⊢
    rw [hc2, hc3, hc4, hm2]
    exact hC
  · unfold rTape at hTape ⊢
    rw [hm3]
    exact hTape
  · unfold rFault at hF ⊢
    rw [hm4, hm5]
    exact hF
/-- what is kept after learning -/
theorem L_keep (hI : Inv nd jText (LOw nd n) EO c m) {c' : jS} (hc : wkC c c') (h : jz (c'.1 29 6) = true ∨ tabOK (opV n (c.1 19) (c.1 20) (m.1 3)) c' (c'.2 32) nd (c.1 18 7)) : rLeasts (LOw nd n) (c'.1 29) (c'.2 32) (c.1 19) (c.1 20) (m.1 3) (c.1 18 7) := by
  rcases h with q | q
  · exact Or.inl q
  · right
    have ha := I_asks hI
    refine ⟨c, asks_can ha, rfl, rfl, rfl, tab_s q ha.2.1 (fun r hr => ?_)⟩
    rw [hc.1 _ (Or.inl (by omega))]
end
