/-! the reference's start of a way, and the way -/
theorem forget_is {n : Nat} (hn : 400000 ≤ n) {s : jS} {v1 v2 : Int32} {lo hi : Nat} (e1 : v1.toInt = lo) (e2 : v2.toInt = hi) (h1 : lo ≤ hi) (h2 : hi ≤ 7) :
    ∃ s', F_X9_forgetLeasts n v1 v2 s = some s' ∧ (∀ k : Nat, ¬ k = 10 → ¬ k = 11 → s'.1 k = s.1 k) ∧ s'.2 = s.2 ∧ (∀ j : Nat, 53760 * lo ≤ j → j < 53760 * hi → s'.1 11 j = -1) ∧ ∀ d : Nat, d < 8 → s'.1 10 d = s.1 1 (28 + d) := by
  have l0 : (0 : Int32).toInt = 0 := rfl
  have l1 : (1 : Int32).toInt = 1 := rfl
  have l8 : (8 : Int32).toInt = 8 := rfl
  have l28 : (28 : Int32).toInt = 28 := rfl
  have m1 : (53760 * v1).toInt = ((53760 * lo : Nat) : Int) := by rw [i32_mulL (n := 53760) rfl (by omega) (by omega), e1]; omega
  have m2 : (53760 * v2).toInt = ((53760 * hi : Nat) : Int) := by rw [i32_mulL (n := 53760) rfl (by omega) (by omega), e2]; omega
  obtain ⟨e, he, q1, q2, q3⟩ := lp_rule (body := B_X9_forgetLeasts_6 n v2)
    (I := fun q k => ∃ i : Nat, k = 53760 * hi - i ∧ 53760 * lo ≤ i ∧ i ≤ 53760 * hi ∧ q.1.toInt = i ∧ (∀ k : Nat, ¬ k = 11 → q.2.1 k = s.1 k) ∧ q.2.2 = s.2 ∧ ∀ j : Nat, 53760 * lo ≤ j → j < i → q.2.1 11 j = -1)
    (Q := fun e => (∀ k : Nat, ¬ k = 11 → e.2.1 k = s.1 k) ∧ e.2.2 = s.2 ∧ ∀ j : Nat, 53760 * lo ≤ j → j < 53760 * hi → e.2.1 11 j = -1) (by
    rintro ⟨iq, s1⟩ k ⟨i, g0, g0', g1, g3, g4, g4', g5⟩
    simp only at g3 g4 g4' g5
    by_cases c : (53760 * v2) ≤ iq
    · left
      have c' := i32_le.mp c
      exact ⟨(iq, s1), by unfold B_X9_forgetLeasts_6; dsimp only; rw [if_pos c], g4, g4', fun j h1 h2 => g5 j h1 (by omega)⟩
    · right
      have c' : ¬ (53760 * v2).toInt ≤ iq.toInt := fun z => c (i32_le.mpr z)
      obtain ⟨i1, hi1⟩ : ∃ y, iq + 1 = y := ⟨_, rfl⟩
      have hi1v : i1.toInt = ((i + 1 : Nat) : Int) := by rw [← hi1, i32_add (by omega) (by omega)]; omega
      refine ⟨(i1, upI s1 11 i (-1)), 53760 * hi - (i + 1), by omega, ?_, i + 1, rfl, by omega, by omega, hi1v, fun k hk => ?_, g4', fun j h1 h2 => ?_⟩
      · unfold B_X9_forgetLeasts_6
        dsimp only
        rw [if_neg c, if_pos (jin_val g3 (by omega)), jl_1, nat_val g3, hi1]
      · show (upI s1 11 i (-1)).1 k = _
        rw [upI_1, if_neg hk]
        exact g4 k hk
      · show (upI s1 11 i (-1)).1 11 j = -1
        rw [upI_1, if_pos rfl]
        by_cases z : j = i
        · rw [upd_eq z]
        · rw [upd_ne z]
          exact g5 j h1 (by omega)) (53760 * hi - 53760 * lo) n ((53760 * v1), s) (by omega) ⟨53760 * lo, rfl, by omega, by omega, m1, fun _ _ => rfl, rfl, fun j h1 h2 => by omega⟩
  obtain ⟨f, hf, p1, p2, p3⟩ := lp_rule (body := B_X9_forgetLeasts_30 n)
    (I := fun q k => ∃ i : Nat, k = 8 - i ∧ i ≤ 8 ∧ q.1.toInt = i ∧ (∀ k : Nat, ¬ k = 10 → q.2.1 k = e.2.1 k) ∧ q.2.2 = e.2.2 ∧ ∀ d : Nat, d < i → q.2.1 10 d = s.1 1 (28 + d))
    (Q := fun f => (∀ k : Nat, ¬ k = 10 → f.2.1 k = e.2.1 k) ∧ f.2.2 = e.2.2 ∧ ∀ d : Nat, d < 8 → f.2.1 10 d = s.1 1 (28 + d)) (by
    rintro ⟨iq, s1⟩ k ⟨i, g0, g1, g3, g4, g4', g5⟩
    simp only at g3 g4 g4' g5
    by_cases c : (8 : Int32) ≤ iq
    · left
      have c' := i32_le.mp c
      exact ⟨(iq, s1), by unfold B_X9_forgetLeasts_30; dsimp only; rw [if_pos c], g4, g4', fun d h1 => g5 d (by omega)⟩
    · right
      have c' : ¬ (8 : Int32).toInt ≤ iq.toInt := fun z => c (i32_le.mpr z)
      obtain ⟨i1, hi1⟩ : ∃ y, iq + 1 = y := ⟨_, rfl⟩
      have hi1v : i1.toInt = ((i + 1 : Nat) : Int) := by rw [← hi1, i32_add (by omega) (by omega)]; omega
      obtain ⟨i2, hi2⟩ : ∃ y, 28 + iq = y := ⟨_, rfl⟩
      have hi2v : i2.toInt = ((28 + i : Nat) : Int) := by rw [← hi2, i32_add (by omega) (by omega)]; omega
      have h1r : s1.1 1 (28 + i) = s.1 1 (28 + i) := by rw [g4 1 (by decide), q1 1 (by decide)]
      refine ⟨(i1, upI s1 10 i (s.1 1 (28 + i))), 8 - (i + 1), by omega, ?_, i + 1, rfl, by omega, hi1v, fun k hk => ?_, g4', fun d h1 => ?_⟩
      · unfold B_X9_forgetLeasts_30
        dsimp only
        rw [if_neg c, hi2, if_pos (jin_val hi2v (by omega)), if_pos (jin_val g3 (by omega)), jl_1, nat_val g3, nat_val hi2v, hi1, h1r]
      · show (upI s1 10 i (s.1 1 (28 + i))).1 k = _
        rw [upI_1, if_neg hk]
        exact g4 k hk
      · show (upI s1 10 i (s.1 1 (28 + i))).1 10 d = _
        rw [upI_1, if_pos rfl]
        by_cases z : d = i
        · rw [upd_eq z, z]
        · rw [upd_ne z]
          exact g5 d (by omega)) 8 n (0, e.2) (by omega) ⟨0, rfl, by omega, l0, fun _ _ => rfl, rfl, fun d h1 => absurd h1 (Nat.not_lt_zero d)⟩
  refine ⟨f.2, ?_, fun k k10 k11 => by rw [p1 k k10, q1 k k11], by rw [p2, q2], fun j h1 h2 => by rw [p1 11 (by decide)]; exact q3 j h1 h2, p3⟩
  unfold F_X9_forgetLeasts
  rw [he, Option.bind_some, hf, Option.bind_some]
theorem gi_rng {v r d h w k : Nat} (hr : r < 4) (hd : d < 8) (hh : h < 24) (hw : w < 10) (hk : 1 ≤ k) (hk2 : k < 8) : 53760 * v ≤ gi v r d h w k ∧ gi v r d h w k < 53760 * (v + 1) := by
  unfold gi
  omega
theorem cOK_new {V : oV} {told : Int32} {lo hi : Nat} {m : jS} (h4 : told.toInt ≤ 4) (h : ∀ j : Nat, 53760 * lo ≤ j → j < 53760 * hi → m.1 11 j = -1) : cOK V told lo hi m := by
  intro v r d hh w k a1 a2 a3 a4 a5 a6 a7 a8
  left
  have := gi_rng (v := v) (r := r) (d := d) (h := hh) (w := w) (k := k) (by omega) a4 a5 a6 a7 a8
  rw [h _ (by omega) (by omega)]
  decide
section
variable {nd n : Nat} {EO : jEO} {c m : jS}
theorem way_ref (hn : 400000 ≤ n) (hI : Inv nd jText (LOw nd n) EO c m) {v1 v2 v3 v4 v5 v7 : Int32} {v6 : Bool} {l H N P : Nat} (ht : F_X9_isTraveller v1 v2 v3 v5 m = true) (hw : F_X9_isIn v4 1 48 = true) (h7 : (-2 : Int32) ≤ v7) (e1 : v1.toInt = l) (hl : l ≤ 9) (e3 : v3.toInt = H) (hH : H < 24) (e4 : v4.toInt = N) (hN : N ≤ 48) (e5 : v5.toInt = P) :
    ∃ x m', F_X9_way n v1 v2 v3 v4 v5 v6 v7 m = J_X9_way_98 n v7 x m' ∧ wkM m m' ∧
      (v6 = false → (aff (sL (opV n (c.1 19) (c.1 20) (m.1 3)) (freeB (m.1 1) v2) (c.1 21) l H) nd false N P ∧ x.toInt = (vX (sL (opV n (c.1 19) (c.1 20) (m.1 3)) (freeB (m.1 1) v2) (c.1 21) l H) nd false N 0 0 0 : Nat) ∧ toldM (sL (opV n (c.1 19) (c.1 20) (m.1 3)) (freeB (m.1 1) v2) (c.1 21) l H) nd false N m') ∨ (¬ aff (sL (opV n (c.1 19) (c.1 20) (m.1 3)) (freeB (m.1 1) v2) (c.1 21) l H) nd false N P ∧ x = 1000000)) ∧
      (v6 = true → (∃ M : Nat, 1 ≤ M ∧ M ≤ N ∧ aff (sL (opV n (c.1 19) (c.1 20) (m.1 3)) (freeB (m.1 1) v2) (c.1 21) l H) nd true M P ∧ (∀ M' : Nat, 1 ≤ M' → M' < M → ¬ aff (sL (opV n (c.1 19) (c.1 20) (m.1 3)) (freeB (m.1 1) v2) (c.1 21) l H) nd true M' P) ∧ x.toInt = (vX (sL (opV n (c.1 19) (c.1 20) (m.1 3)) (freeB (m.1 1) v2) (c.1 21) l H) nd true M 0 0 0 : Nat) ∧ toldM (sL (opV n (c.1 19) (c.1 20) (m.1 3)) (freeB (m.1 1) v2) (c.1 21) l H) nd true M m') ∨ ((∀ M' : Nat, 1 ≤ M' → M' ≤ N → ¬ aff (sL (opV n (c.1 19) (c.1 20) (m.1 3)) (freeB (m.1 1) v2) (c.1 21) l H) nd true M' P) ∧ x = 1000000)) := by
  obtain ⟨hnd1, hnd⟩ := I_nd hI
  have ha := I_asks hI
  obtain ⟨m4, hm4⟩ : ∃ x, upI (upI (upI (upI m 9 24 v1) 9 25 v2) 9 26 v3) 9 27 v5 = x := ⟨_, rfl⟩
  have o9 : ∀ k : Nat, ¬ k = 9 → m4.1 k = m.1 k := by
    intro k hk
    rw [← hm4]
    simp only [upI_1, if_neg hk]
  have r9 : m4.1 9 24 = v1 ∧ m4.1 9 25 = v2 ∧ m4.1 9 26 = v3 ∧ m4.1 9 27 = v5 := by
    rw [← hm4]
    refine ⟨?_, ?_, ?_, ?_⟩
    · rw [upI_1, if_pos rfl, upd_ne (by decide), upI_1, if_pos rfl, upd_ne (by decide), upI_1, if_pos rfl, upd_ne (by decide), upI_1, if_pos rfl, upd_eq rfl]
    · rw [upI_1, if_pos rfl, upd_ne (by decide), upI_1, if_pos rfl, upd_ne (by decide), upI_1, if_pos rfl, upd_eq rfl]
    · rw [upI_1, if_pos rfl, upd_ne (by decide), upI_1, if_pos rfl, upd_eq rfl]
    · rw [upI_1, if_pos rfl, upd_eq rfl]
  obtain ⟨m5, f1, f2, f3, f4, f5⟩ := forget_is hn (s := m4) (v1 := 6) (v2 := 7) (lo := 6) (hi := 7) rfl rfl (by decide) (by decide)
  have o5 : ∀ k : Nat, ¬ k = 9 → ¬ k = 10 → ¬ k = 11 → m5.1 k = m.1 k := fun k a1 a2 a3 => by rw [f2 k a2 a3, o9 k a1]
  have m59 : m5.1 9 = m4.1 9 := f2 9 (by decide) (by decide)
  have hG : goerR n (opV n (c.1 19) (c.1 20) (m.1 3)) (c.1 18 7) nd (m.1 1) (m.1 3) 6 l H v2 (c.1 21) 6 7 m5 := by
    refine ⟨isOp_of hn ha, o5 1 (by decide) (by decide) (by decide), o5 3 (by decide) (by decide) (by decide), by rw [o5 0 (by decide) (by decide) (by decide)]; exact hI.1.1.2.2.2.2.2, ⟨by decide, by decide, by decide⟩, ⟨by rw [m59]; show (m4.1 9 24).toInt = _; rw [r9.1]; exact e1, hl⟩, by rw [m59]; exact r9.2.1, ⟨by rw [m59]; show (m4.1 9 26).toInt = _; rw [r9.2.2.1]; exact e3, hH⟩, fun d hd => ?_, ha.2.1, cOK_new ha.2.1 f4⟩
    have hr := rule_is hI hd
    refine ⟨?_, hr.2⟩
    rw [f5 d hd, o9 1 (by decide), hr.1]
  have hP27 : (m5.1 9 (4 * 6 + 3)).toInt = P := by
    rw [m59]
    show (m4.1 9 27).toInt = _
    rw [r9.2.2.2]
    exact e5
  have hwk : wkM m m5 := ⟨fun k k1 k2 => o5 k (by omega) (by omega) (by omega), by rw [o5 0 (by decide) (by decide) (by decide)], by rw [o5 0 (by decide) (by decide) (by decide)], by rw [o5 0 (by decide) (by decide) (by decide)], by rw [o5 0 (by decide) (by decide) (by decide)]⟩
  have hstart : F_X9_way n v1 v2 v3 v4 v5 v6 v7 m = (if v6 = true then ((F_X9_soonestOf n 6 v4 m5).bind fun p84 => J_X9_way_98 n v7 p84.1 p84.2) else ((F_X9_cheapest n 6 v4 m5).bind fun p95 => J_X9_way_98 n v7 p95.1 p95.2)) := by
    unfold F_X9_way
    rw [if_pos ht, if_pos hw, if_pos h7, jl_1, jl_1, jl_1, jl_1]
    change ((F_X9_forgetLeasts n 6 7 (upI (upI (upI (upI m 9 24 v1) 9 25 v2) 9 26 v3) 9 27 v5)).bind _) = _
    rw [hm4, f1, Option.bind_some]
  cases v6 with
  | true =>
    obtain ⟨x, m6, r1, r2, r3, r4⟩ := soonestM_is hn hG (v1 := 6) (v2 := v4) (N := N) (P := P) rfl e4 hnd hN hP27
    exact ⟨x, m6, by rw [hstart, if_pos rfl, r1, Option.bind_some], wkM_tr hwk (wkM_o r2), fun z => (by cases z), fun _ => r4⟩
  | false =>
    obtain ⟨x, m6, r1, r2, r3, r4⟩ := cheapestM_is hn hG (v1 := 6) (v2 := v4) (N := N) (P := P) rfl e4 hnd hN hP27
    exact ⟨x, m6, by rw [hstart, if_neg (fun z => by cases z), r1, Option.bind_some], wkM_tr hwk (wkM_o r2), fun _ => r4, fun z => (by cases z)⟩
end
theorem act_same {L : Nat → Nat → Nat → Nat → Nat} {D N : Nat} (hL : ∀ d h w k : Nat, L d h w k ≤ 6) (hD : D ≤ 8) (hN : N ≤ 48) (hf : vX L D false N 0 0 0 < 1000000) (hT : vX L D false N 0 0 0 % 100 = N) {i : Nat} (hi : i < N) : actX L D true N i = actX L D false N i := by
  obtain ⟨p1, p2, p3⟩ := path_same hL hD hN hf hT i (by omega)
  unfold actX
  rw [p1, p3 hi]
/-- the answers, of one way told on both sides -/
theorem way_ans {n nd M : Nat} {L : Nat → Nat → Nat → Nat → Nat} {c' m' : jS} {x v7 : Int32} {X : Nat} {A : Nat → Nat} (hX : X < 1000000) (hT : X % 100 ≤ 48) (hx : x.toInt = X) (h7 : (-2 : Int32) ≤ v7) (m31 : (m'.1 0 31).toInt = ((X % 100 : Nat) : Int)) (m13 : ∀ i : Nat, i < X % 100 → (m'.1 13 i).toInt = (A i : Nat)) (c0 : (c'.1 33 0).toInt = ((X / 100 : Nat) : Int)) (c1 : (c'.1 33 1).toInt = ((X % 100 : Nat) : Int)) (c34 : ∀ i : Nat, i < X % 100 → (c'.1 34 i).toInt = (A i : Nat)) :
    ∃ r, J_X8_way_136 nd n v7 true c' = some (r, c') ∧ J_X9_way_98 n v7 x m' = some (r, m') := by
  have lM : (1000000 : Int32).toInt = 1000000 := rfl
  have l0 : (0 : Int32).toInt = 0 := rfl
  have l1 : (1 : Int32).toInt = 1 := rfl
  have lm1 : (-1 : Int32).toInt = -1 := rfl
  have lm2 : (-2 : Int32).toInt = -2 := rfl
  have l48 : (48 : Int32).toInt = 48 := rfl
  have h7' := i32_le.mp h7
  have hne : ¬ x = 1000000 := fun z => by rw [z, lM] at hx; omega
  unfold J_X8_way_136 J_X9_way_98
  rw [if_pos rfl, if_neg hne]
  by_cases a1 : v7 = -1
  · rw [if_pos a1, if_pos a1]
    have : x / 100 = c'.1 33 0 := i32_eq.mpr (by rw [i32_div (n := 100) rfl (by omega) (by omega), hx, c0]; omega)
    exact ⟨_, rfl, by rw [this]⟩
  · rw [if_neg a1, if_neg a1]
    by_cases a2 : v7 = -2
    · rw [if_pos a2, if_pos a2]
      have : m'.1 0 31 = c'.1 33 1 := i32_eq.mpr (by rw [m31, c1])
      exact ⟨_, rfl, by rw [this]⟩
    · rw [if_neg a2, if_neg a2]
      have h70 : 0 ≤ v7.toInt := by
        have b1 : ¬ v7.toInt = -1 := fun z => a1 (i32_eq.mpr (by rw [lm1]; exact z))
        have b2 : ¬ v7.toInt = -2 := fun z => a2 (i32_eq.mpr (by rw [lm2]; exact z))
        omega
      have hs1 : ((c'.1 33 1) - 1).toInt = ((X % 100 : Nat) : Int) - 1 := by rw [i32_sub (by omega) (by omega)]; omega
      by_cases a3 : (m'.1 0 31) ≤ v7
      · have a3' := i32_le.mp a3
        rw [if_pos a3, if_neg (fun z => by have := (win_iff.mp z).2; omega)]
        exact ⟨_, rfl, rfl⟩
      · have a3' : ¬ (m'.1 0 31).toInt ≤ v7.toInt := fun z => a3 (i32_le.mpr z)
        have hj : jin v7 48 = true := jin_of h70 (by omega)
        rw [if_neg a3, if_pos (win_iff.mpr ⟨by omega, by omega⟩), if_neg (fun z => by have := i32_le.mp z; omega), if_pos hj, if_pos hj]
        have : c'.1 34 v7.toNatClampNeg = m'.1 13 v7.toNatClampNeg := i32_eq.mpr (by rw [i32_nat, c34 _ (by omega), m13 _ (by omega)])
        exact ⟨_, rfl, by rw [this]⟩
theorem way_ok {nd n : Nat} {EO : jEO} (hn : 400000 ≤ n) : ok_way nd n (Inv nd jText (LOw nd n) EO) := by
  intro v1 v2 v3 v4 v5 v6 v7 c m hI
  have l1 : (1 : Int32).toInt = 1 := rfl
  have l48 : (48 : Int32).toInt = 48 := rfl
  have lm1 : (-1 : Int32).toInt = -1 := rfl
  have lm2 : (-2 : Int32).toInt = -2 := rfl
  have l0 : (0 : Int32).toInt = 0 := rfl
  obtain ⟨hnd1, hnd⟩ := I_nd hI
  have hgo := I_goer hI v1 v2 v3 v5
  by_cases ht : F_X8_isTraveller v1 v2 v3 v5 c = true
  · obtain ⟨g1, g2, g3, g4⟩ := I_goerI hI ht
    have htm : F_X9_isTraveller v1 v2 v3 v5 m = true := by rw [hgo]; exact ht
    by_cases hw : F_X8_within v4 1 48 = true
    · have hwm : F_X9_isIn v4 1 48 = true := by rw [isIn_eq]; exact hw
      have hw' := win_iff.mp hw
      obtain ⟨l, hl⟩ : ∃ l : Nat, v1.toInt = l := ⟨v1.toInt.toNat, by omega⟩
      obtain ⟨H, hH⟩ : ∃ l : Nat, v3.toInt = l := ⟨v3.toInt.toNat, by omega⟩
      obtain ⟨N, hN⟩ : ∃ l : Nat, v4.toInt = l := ⟨v4.toInt.toNat, by omega⟩
      obtain ⟨P, hP⟩ : ∃ l : Nat, v5.toInt = l := ⟨v5.toInt.toNat, by omega⟩
      obtain ⟨b, c', p1, p2, p3, p4, p5, p6⟩ := way_cls hn hI (v6 := v6) (v7 := v7) ht hw hl (by omega) hH (by omega) hN (by omega) (by omega) hP (by omega)
      have hE : rEarn EO (c'.1 51) (c'.1 52) (c.1 18 8) (c.1 23) (c.1 21) (c.1 22) (c.1 19) (c.1 20) (m.1 3) (c.1 18 7) := by
        rw [p3, p4]
        exact hI.2.2
      obtain ⟨L, hLe⟩ : ∃ L, sL (opV n (c.1 19) (c.1 20) (m.1 3)) (freeB (m.1 1) v2) (c.1 21) l H = L := ⟨_, rfl⟩
      have hL : ∀ d h w k : Nat, L d h w k ≤ 6 := by rw [← hLe]; exact sL_le
      rw [hLe] at p6
      by_cases h7 : (-2 : Int32) ≤ v7
      · obtain ⟨x, m', r1, r2, r3, r4⟩ := way_ref hn hI (v6 := v6) htm hwm h7 hl (by omega) hH (by omega) hN (by omega) hP
        rw [hLe] at r3 r4
        have hInv := Inv_wk hI p2 r2 p5 hE
        have hnone : b = false → x = 1000000 → ∃ (r : Int32) (c' m' : jS), F_X8_way nd n v1 v2 v3 v4 v5 v6 v7 c = some (r, c') ∧ F_X9_way n v1 v2 v3 v4 v5 v6 v7 m = some (r, m') ∧ Inv nd jText (LOw nd n) EO c' m' := by
          intro hb hx
          subst hb hx
          refine ⟨-3, c', m', ?_, ?_, hInv⟩
          · rw [p1]
            unfold J_X8_way_136
            rw [if_neg (fun z => by cases z)]
          · rw [r1]
            unfold J_X9_way_98
            rw [if_pos rfl]
        cases v6 with
        | false =>
          rcases r3 rfl with ⟨a1, a2, a3, a4⟩ | ⟨a1, a2⟩
          · rcases p6 with ⟨hb, M, b1, b2, b3, b4, b5, b6⟩ | ⟨hb, b1⟩
            · have hM := b6 rfl
              subst hM
              have hfin := vX_fin hL (ex := false) M 0 0 0 (by omega) (Nat.zero_le _) hnd b3.1
              obtain ⟨t1, t2, t3, t4⟩ := b4
              obtain ⟨r, w1, w2⟩ := way_ans (n := n) (nd := nd) (M := M) (L := L) (A := actX L nd false M) (v7 := v7) b3.1 (by omega) a2 h7 a3 (fun i hi => (a4 i hi).1) t1 t2 t3
              subst hb
              exact ⟨r, c', m', by rw [p1, w1], by rw [r1, w2], hInv⟩
            · exact absurd a1 b1
          · rcases p6 with ⟨hb, M, b1, b2, b3, b4, b5, b6⟩ | ⟨hb, b1⟩
            · have hM := b6 rfl
              subst hM
              exact absurd b3 a1
            · exact hnone hb a2
        | true =>
          rcases r4 rfl with ⟨M', a0, a1, a2, a3, a4, a5, a6⟩ | ⟨a1, a2⟩
          · rcases p6 with ⟨hb, M, b1, b2, b3, b4, b5, b6⟩ | ⟨hb, b1⟩
            · obtain ⟨s1, s2⟩ := least_same hL hnd1 hnd (by omega) b3 (b5 rfl)
              have hM : M' = M := by
                have k1 : ¬ M' < M := fun z => b5 rfl M' z (aff_exact a2)
                have k2 : ¬ M < M' := fun z => a3 M b1 z ⟨by rw [s2]; exact b3.1, by rw [s2]; exact b3.2⟩
                omega
              subst hM
              rw [s2] at a4 a5 a6
              obtain ⟨t1, t2, t3, t4⟩ := b4
              obtain ⟨r, w1, w2⟩ := way_ans (n := n) (nd := nd) (M := M') (L := L) (A := actX L nd false M') (v7 := v7) b3.1 (by omega) a4 h7 a5 (fun i hi => by
                rw [(a6 i hi).1, act_same hL hnd (by omega) b3.1 s1 (by omega)]) t1 t2 t3
              subst hb
              exact ⟨r, c', m', by rw [p1, w1], by rw [r1, w2], hInv⟩
            · exact absurd (aff_up a1 (aff_exact a2)) b1
          · rcases p6 with ⟨hb, M, b1, b2, b3, b4, b5, b6⟩ | ⟨hb, b1⟩
            · obtain ⟨s1, s2⟩ := least_same hL hnd1 hnd (by omega) b3 (b5 rfl)
              exact absurd ⟨by rw [s2]; exact b3.1, by rw [s2]; exact b3.2⟩ (a1 M b1 b2)
            · exact hnone hb a2
      · have h7' : ¬ (-2 : Int32).toInt ≤ v7.toInt := fun z => h7 (i32_le.mpr z)
        refine ⟨-3, c', m, ?_, ?_, Inv_wk hI p2 wkM_rfl p5 hE⟩
        · rw [p1]
          unfold J_X8_way_136
          cases b with
          | true =>
            rw [if_pos rfl, if_neg (fun z => by rw [z] at h7'; omega), if_neg (fun z => by rw [z] at h7'; omega), if_neg (fun z => by have := (win_iff.mp z).1; omega)]
          | false => rw [if_neg (fun z => by cases z)]
        · unfold F_X9_way
          rw [if_pos htm, if_pos hwm, if_neg h7]
    · have hwm : ¬ F_X9_isIn v4 1 48 = true := by rw [isIn_eq]; exact hw
      exact ⟨-3, c, m, by unfold F_X8_way; rw [if_pos ht, if_neg hw], by unfold F_X9_way; rw [if_pos htm, if_neg hwm], hI⟩
  · have htm : ¬ F_X9_isTraveller v1 v2 v3 v5 m = true := by rw [hgo]; exact ht
    exact ⟨-3, c, m, by unfold F_X8_way; rw [if_neg ht], by unfold F_X9_way; rw [if_neg htm], hI⟩
