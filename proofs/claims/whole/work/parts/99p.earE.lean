section
variable {nd n : Nat} {EO : jEO} {c m : jS}
/-- the reference's guests begun -/
theorem begin_is (hn : 400000 ≤ n) (hI : Inv nd jText (LOw nd n) EO c m) :
    ∃ m', F_X9_beginGuests n m = some m' ∧ wkM m m' ∧ gsR n (opV n (c.1 19) (c.1 20) (m.1 3)) (c.1 18 7) nd (m.1 1) (m.1 3) (c.1 23) (c.1 18 8).toInt.toNat (c.1 21) m' := by
  have l0 : (0 : Int32).toInt = 0 := rfl
  have l1 : (1 : Int32).toInt = 1 := rfl
  have l24 : (24 : Int32).toInt = 24 := rfl
  have l60 : (60 : Int32).toInt = 60 := rfl
  obtain ⟨hnd1, hnd⟩ := I_nd hI
  have ha := I_asks hI
  obtain ⟨g1, g2, g3⟩ := guests_is hI
  obtain ⟨e, he, q1, q2, q3⟩ := lp_rule (body := B_X9_beginGuests_2 n)
    (I := fun q k => ∃ i : Nat, k = 24 - i ∧ i ≤ 24 ∧ q.1 = Int32.ofNat i ∧ (∀ k : Nat, ¬ k = 9 → q.2.1 k = m.1 k) ∧ q.2.2 = m.2 ∧ ∀ j : Nat, j < i → q.2.1 9 j = m.1 1 (60 + j))
    (Q := fun e => (∀ k : Nat, ¬ k = 9 → e.2.1 k = m.1 k) ∧ e.2.2 = m.2 ∧ ∀ j : Nat, j < 24 → e.2.1 9 j = m.1 1 (60 + j)) (by
    rintro ⟨iI, s1⟩ k ⟨i, g0, g1, g2, g3, g4, g5⟩
    simp only at g2 g3 g4 g5
    subst g2
    have hiI : (Int32.ofNat i).toInt = i := ofNat_int (by omega)
    by_cases c1 : (24 : Int32) ≤ Int32.ofNat i
    · left
      have c1' := i32_le.mp c1
      exact ⟨(Int32.ofNat i, s1), by unfold B_X9_beginGuests_2; dsimp only; rw [if_pos c1], g3, g4, fun j hj => g5 j (by omega)⟩
    · right
      have c1' : ¬ (24 : Int32).toInt ≤ (Int32.ofNat i).toInt := fun z => c1 (i32_le.mpr z)
      have hnext : Int32.ofNat i + 1 = Int32.ofNat (i + 1) := i32_eq.mpr (by rw [i32_add (by omega) (by omega), ofNat_int (by omega), ofNat_int (by omega)]; omega)
      have hi60 : (60 + Int32.ofNat i).toInt = ((60 + i : Nat) : Int) := by rw [i32_add (by omega) (by omega)]; omega
      refine ⟨(Int32.ofNat (i + 1), upI s1 9 i (m.1 1 (60 + i))), 24 - (i + 1), by omega, ?_, i + 1, rfl, by omega, rfl, fun k hk => ?_, g4, fun j hj => ?_⟩
      · unfold B_X9_beginGuests_2
        dsimp only
        rw [if_neg c1, if_pos (jin_val hi60 (by omega)), if_pos (jin_val hiI (by omega)), jl_1, nat_val hi60, nat_val hiI, g3 1 (by decide), hnext]
      · show (upI s1 9 i (m.1 1 (60 + i))).1 k = _
        rw [upI_1, if_neg hk]
        exact g3 k hk
      · show (upI s1 9 i (m.1 1 (60 + i))).1 9 j = _
        rw [upI_1, if_pos rfl]
        by_cases z : j = i
        · rw [upd_eq z, z]
        · rw [upd_ne z]
          exact g5 j (by omega)) 24 n (0, m) (by omega) ⟨0, rfl, by omega, rfl, fun _ _ => rfl, rfl, fun j hj => absurd hj (Nat.not_lt_zero j)⟩
  obtain ⟨m5, f1, f2, f3, f4, f5⟩ := forget_is hn (s := e.2) (v1 := 0) (v2 := e.2.1 1 2) (lo := 0) (hi := (c.1 18 8).toInt.toNat) l0 (by rw [q1 1 (by decide), ← g1]; omega) (Nat.zero_le _) (by omega)
  have o5 : ∀ k : Nat, ¬ k = 9 → ¬ k = 10 → ¬ k = 11 → m5.1 k = m.1 k := fun k a1 a2 a3 => by rw [f2 k a2 a3, q1 k a1]
  refine ⟨m5, ?_, ⟨fun k k1 k2 => o5 k (by omega) (by omega) (by omega), by rw [o5 0 (by decide) (by decide) (by decide)], by rw [o5 0 (by decide) (by decide) (by decide)], by rw [o5 0 (by decide) (by decide) (by decide)], by rw [o5 0 (by decide) (by decide) (by decide)]⟩, ?_⟩
  · unfold F_X9_beginGuests
    rw [he, Option.bind_some, show (Int32.toNatClampNeg 2) = 2 from rfl, f1, Option.bind_some]
  · refine ⟨isOp_of hn ha, o5 1 (by decide) (by decide) (by decide), o5 3 (by decide) (by decide) (by decide), by rw [o5 0 (by decide) (by decide) (by decide)]; exact hI.1.1.2.2.2.2.2, by omega, by rw [← g1]; omega, fun k hk => ?_, fun g hg => guest_is hI (by omega), fun d hd => ?_, ha.2.1, cOK_new ha.2.1 f4⟩
    · rw [f2 9 (by decide) (by decide), q3 k hk, g3 k hk]
    · have hr := rule_is hI hd
      exact ⟨by rw [f5 d hd, q1 1 (by decide), hr.1], hr.2⟩
theorem wkM_e {a b : jS} (h : oM a b) : wkM a b := wkM_o h
/-- from the trial begun to a state of the trial -/
theorem ts_of (hI : Inv nd jText (LOw nd n) EO c m) {ch : Bool} {c1 s : jS} (hc : atC c c1) (hs : trC n nd c m c1 s) (hl : ∀ g d r : Nat, (g : Int) < (c.1 18 8).toInt → d < nd → freeB (m.1 1) (c.1 23 (4 * g + 1)) d = false → (r : Int) < (c.1 18 7).toInt → (ch = true ∨ (c.1 21 d).toInt = r) → lrnT nd (c.1 23) s g d r) : tsC n nd c m (fun d r => ch = true ∨ (c.1 21 d).toInt = r) s ∧ ∀ d : Nat, d < 8 → s.1 52 d = c.1 21 d := by
  have g := hs.1.1
  refine ⟨⟨⟨fun k hk => ?_, ?_, ?_, ?_⟩, hs.2, hl⟩, fun d hd => ?_⟩
  · rw [g.1 k (by omega) (by omega) (by omega), hc.1 k (by omega) (by omega)]
  · rw [g.2.1 0 (by decide), hc.1 29 (by decide) (by decide)]
  · rw [g.1 33 (by decide) (by decide) (by decide), hc.1 33 (by decide) (by decide)]
  · rw [g.1 51 (by decide) (by decide) (by decide), hc.2.1]
  · rw [g.1 52 (by decide) (by decide) (by decide)]
    exact hc.2.2.2 d hd
theorem ts_L (hI : Inv nd jText (LOw nd n) EO c m) {W : Nat → Nat → Prop} {s : jS} (h : tsC n nd c m W s) : rLeasts (LOw nd n) (s.1 29) (s.2 32) (c.1 19) (c.1 20) (m.1 3) (c.1 18 7) := L_keep hI h.1 h.2.1
end
theorem earns_ok {nd n : Nat} {EO : jEO} (hn : 400000 ≤ n) : ok_earns nd n (Inv nd jText (LOw nd n) EO) := by
  intro v1 c m hI
  obtain ⟨hnd1, hnd⟩ := I_nd hI
  have hdo := I_door hI v1
  by_cases hd : F_X8_isDoor v1 c = true
  · have hv := I_doorI hI hd
    obtain ⟨v, e1⟩ : ∃ v : Nat, v1.toInt = v := ⟨v1.toInt.toNat, by omega⟩
    obtain ⟨c1, s, p1, p2, p3, p4, p5⟩ := startTrial_is hn hI false
    obtain ⟨t1, t2⟩ := ts_of hI p2 p4 p5
    obtain ⟨x, s', r1, r2, r3⟩ := earnedC_is hn hI t1 t2 (fun d hd => (rule_is hI hd).2) (fun d r _ h => Or.inr h) e1 (by omega)
    obtain ⟨m1, k1, k2, k3⟩ := begin_is hn hI
    obtain ⟨y, m2, w1, w2, w3, w4⟩ := earnedM_is hn hnd e1 k3
    have hxy : y = x := i32_eq.mpr (by rw [w2, r2])
    have ht' := ts_w hI t1 (wkC_w r3) (r3.1 29 (by decide)) r3.2.2
    refine ⟨x, s', m2, ?_, ?_, Inv_wk hI ht'.1 (wkM_tr k2 (wkM_o w3)) (ts_L hI ht') ?_⟩
    · unfold F_X8_earns F_X0_earnedNow
      rw [if_pos hd, p1, Option.bind_some, r1, Option.bind_some, Option.bind_some]
    · unfold F_X9_earns
      rw [hdo, if_pos hd, k1, Option.bind_some, w1, Option.bind_some, hxy]
    · rw [r3.1 51 (by decide), p4.1.1.1 51 (by decide) (by decide) (by decide), p3]
      exact rEarn_f
  · refine ⟨-1, c, m, ?_, ?_, hI⟩
    · unfold F_X8_earns
      rw [if_neg hd]
    · unfold F_X9_earns
      rw [hdo, if_neg hd]
