/-! the class's table as a whole -/
def clsE (L : Nat → Nat → Nat → Nat → Nat) (mo : Nat → Nat) (nd H : Nat) (s : jS) : Prop := (s.1 33 4).toInt = nd ∧ (s.1 33 11).toInt = H ∧ H < 24 ∧ nd ≤ 8 ∧ ∀ d : Nat, d < nd → (s.1 39 d).toInt = mo d ∧ (mo d = 9 ∨ (mo d = 0 ∧ stl L d)) ∧ ∀ h : Nat, ∃ y : Int64, (∀ x : Int32, x.toInt = ((H + h) % 24 : Nat) → F_X3_leastsAt nd (s.1 38 d) x s = some y) ∧ ∀ w : Nat, w ≤ mo d → entP (L d h w) (exI y (Int32.ofNat w)).toInt.toNat
theorem leastsAt_s {nd : Nat} {v1 v2 : Int32} {s s' : jS} (h : s'.2 = s.2) : F_X3_leastsAt nd v1 v2 s' = F_X3_leastsAt nd v1 v2 s := by
  unfold F_X3_leastsAt
  rw [h]
theorem clsE_s {L : Nat → Nat → Nat → Nat → Nat} {mo : Nat → Nat} {nd H : Nat} {s s' : jS} (h : clsE L mo nd H s) (g : ∀ k : Nat, k = 33 ∨ k = 38 ∨ k = 39 → s'.1 k = s.1 k) (g2 : s'.2 = s.2) : clsE L mo nd H s' := by
  obtain ⟨h1, h2, h3, h4, h5⟩ := h
  have a33 := g 33 (Or.inl rfl)
  have a38 := g 38 (Or.inr (Or.inl rfl))
  have a39 := g 39 (Or.inr (Or.inr rfl))
  refine ⟨by rw [a33]; exact h1, by rw [a33]; exact h2, h3, h4, fun d hd => ?_⟩
  obtain ⟨b1, b2, b3⟩ := h5 d hd
  refine ⟨by rw [a39]; exact b1, b2, fun h => ?_⟩
  obtain ⟨y, c1, c2⟩ := b3 h
  exact ⟨y, fun x hx => by rw [a38, leastsAt_s g2]; exact c1 x hx, c2⟩
theorem clsE_c {L : Nat → Nat → Nat → Nat → Nat} {mo : Nat → Nat} {nd H : Nat} {s s' : jS} (h : clsE L mo nd H s) (g : clM s s') : clsE L mo nd H s' := clsE_s h (fun k hk => g.1 k (by omega) (by omega)) g.2
theorem goesC_s {L : Nat → Nat → Nat → Nat → Nat} {mo : Nat → Nat} {nd N : Nat} {s s' : jS} {t d : Nat} (h : goesC L mo nd N s t d) (g : s'.1 37 (t * 8 + d) = s.1 37 (t * 8 + d)) : goesC L mo nd N s' t d := by
  intro w c1 c2 c3
  rw [g]
  exact h w c1 c2 c3
theorem fill36_is {n : Nat} (hn : 400000 ≤ n) {s : jS} {a b x : Int32} {A : Nat} (ha : a.toInt = A) (hb : b.toInt = (A + 90 : Nat)) (hA : A ≤ 90) :
    ∃ s', F_J7_fill_fda19_36 n a b x s = some s' ∧ clM s s' ∧ ∀ j : Nat, A ≤ j → j < A + 90 → s'.1 36 j = x := by
  have l1 : (1 : Int32).toInt = 1 := rfl
  have l0 : (0 : Int32).toInt = 0 := rfl
  have l180 : (180 : Int32).toInt = 180 := rfl
  obtain ⟨e, he, q1, q2⟩ := lp_rule (body := B_J7_fill_fda19_36_10 n b x)
    (I := fun q k => ∃ i : Nat, k = A + 90 - i ∧ A ≤ i ∧ i ≤ A + 90 ∧ q.1.toInt = i ∧ clM s q.2 ∧ ∀ j : Nat, A ≤ j → j < i → q.2.1 36 j = x)
    (Q := fun e => clM s e.2 ∧ ∀ j : Nat, A ≤ j → j < A + 90 → e.2.1 36 j = x) (by
    rintro ⟨iq, s1⟩ k ⟨i, g0, g1, g2, g3, g4, g5⟩
    simp only at g3 g4 g5
    by_cases c : b ≤ iq
    · left
      have c' := i32_le.mp c
      exact ⟨(iq, s1), by unfold B_J7_fill_fda19_36_10; dsimp only; rw [if_pos c], g4, fun j h1 h2 => g5 j h1 (by omega)⟩
    · right
      have c' : ¬ b.toInt ≤ iq.toInt := fun z => c (i32_le.mpr z)
      obtain ⟨i1, hi1⟩ : ∃ y, iq + 1 = y := ⟨_, rfl⟩
      have hi1v : i1.toInt = ((i + 1 : Nat) : Int) := by rw [← hi1, i32_add (by omega) (by omega)]; omega
      refine ⟨(i1, upI s1 36 i x), A + 90 - (i + 1), by omega, ?_, i + 1, rfl, by omega, by omega, hi1v, clM_36 g4 _ _, fun j h1 h2 => ?_⟩
      · unfold B_J7_fill_fda19_36_10
        dsimp only
        rw [if_neg c, if_pos (jin_val g3 (by omega)), jl_1, nat_val g3, hi1]
      · show (upI s1 36 i x).1 36 j = x
        rw [upI_1, if_pos rfl]
        by_cases z : j = i
        · rw [upd_eq z]
        · rw [upd_ne z]
          exact g5 j h1 (by omega)) 90 n (a, s) (by omega) ⟨A, by omega, Nat.le_refl _, by omega, ha, clM_rfl, fun j h1 h2 => by omega⟩
  refine ⟨e.2, ?_, q1, q2⟩
  unfold F_J7_fill_fda19_36 F_J7_rangeCheck_23922
  rw [if_pos (i32_le.mpr (by omega)), if_pos (i32_le.mpr (by omega)), if_pos (i32_le.mpr (by omega)), Option.bind_some, he, Option.bind_some]
section
variable {n : Nat} {L : Nat → Nat → Nat → Nat → Nat} {mo : Nat → Nat} {nd N H : Nat}
theorem layer_is (hn : 400000 ≤ n) (hL : ∀ d h w k : Nat, L d h w k ≤ 6) {s : jS} {v3 : Int32} {t : Nat} (e3 : v3.toInt = t) (ht : t < N) (hN : N ≤ 48) (hE : clsE L mo nd H s) (hD : cllC L nd N s t nd 0) (hnx : layC L mo nd N s (t + 1)) (hg : ∀ t' d : Nat, t < t' → t' < N → d < nd → d ≤ t' → goesC L mo nd N s t' d) :
    ∃ e, lp (B_X7_cheapest_72 nd n v3) n (0, s) = some e ∧ clM s e.2 ∧ layC L mo nd N e.2 t ∧ ∀ t' d : Nat, t ≤ t' → t' < N → d < nd → d ≤ t' → goesC L mo nd N e.2 t' d := by
  have l1 : (1 : Int32).toInt = 1 := rfl
  have l0 : (0 : Int32).toInt = 0 := rfl
  have hnd := hE.2.2.2.1
  obtain ⟨e, he, q1, q2, q3⟩ := lp_rule (body := B_X7_cheapest_72 nd n v3)
    (I := fun q k => ∃ j : Nat, k = nd - j ∧ j ≤ nd ∧ j ≤ t + 1 ∧ q.1.toInt = j ∧ clM s q.2 ∧ cllC L nd N q.2 t nd 0 ∧ layC L mo nd N q.2 (t + 1) ∧ (∀ d w : Nat, d < j → d + w ≤ t → w ≤ mo d → cllC L nd N q.2 t d w) ∧ (∀ t' d : Nat, t < t' → t' < N → d < nd → d ≤ t' → goesC L mo nd N q.2 t' d) ∧ ∀ d : Nat, d < j → goesC L mo nd N q.2 t d)
    (Q := fun e => clM s e.2 ∧ layC L mo nd N e.2 t ∧ ∀ t' d : Nat, t ≤ t' → t' < N → d < nd → d ≤ t' → goesC L mo nd N e.2 t' d) (by
    rintro ⟨jq, s1⟩ k ⟨j, g0, g1, g1', g2, g3, g4, g5, g6, g7, g8⟩
    simp only at g2 g3 g4 g5 g6 g7 g8
    have hE1 := clsE_c hE g3
    have hfin : (nd ≤ j ∨ t < j) → clM s s1 ∧ layC L mo nd N s1 t ∧ ∀ t' d : Nat, t ≤ t' → t' < N → d < nd → d ≤ t' → goesC L mo nd N s1 t' d := by
      intro hj
      refine ⟨g3, fun d w hdw => ?_, fun t' d h1 h2 h3 h4 => ?_⟩
      · rcases hdw with ⟨z1, z2⟩ | ⟨z1, z2, z3⟩
        · rw [z1, z2]; exact g4
        · exact g6 d w (by omega) z2 z3
      · by_cases z : t' = t
        · rw [z]; exact g8 d (by omega)
        · exact g7 t' d (by omega) h2 h3 h4
    by_cases c1 : (s1.1 33 4) ≤ jq
    · left
      have c1' := i32_le.mp c1
      have h33 := hE1.1
      exact ⟨(jq, s1), by unfold B_X7_cheapest_72; dsimp only; rw [if_pos c1], hfin (Or.inl (by omega))⟩
    · have c1' : ¬ (s1.1 33 4).toInt ≤ jq.toInt := fun z => c1 (i32_le.mpr z)
      have h33 := hE1.1
      by_cases c2 : v3 < jq
      · left
        have c2' := i32_lt.mp c2
        exact ⟨(jq, s1), by unfold B_X7_cheapest_72; dsimp only; rw [if_neg c1, if_pos c2], hfin (Or.inr (by omega))⟩
      · right
        have c2' : ¬ v3.toInt < jq.toInt := fun z => c2 (i32_lt.mpr z)
        have hjn : j < nd := by omega
        obtain ⟨b1, b2, b3⟩ := hE1.2.2.2.2 j hjn
        obtain ⟨y, y1, y2⟩ := b3 t
        have hH := hE1.2.1
        have hH24 := hE1.2.2.1
        have hsum : ((s1.1 33 11) + v3).toInt = ((H + t : Nat) : Int) := by rw [i32_add (by omega) (by omega)]; omega
        have hrest : (((s1.1 33 11) + v3) - ((s1.1 33 11) + v3) / 24 * 24).toInt = (((H + t) % 24 : Nat) : Int) := by rw [i32_rest (n := 24) rfl (by omega) (by omega), hsum]; omega
        have hy := y1 _ hrest
        obtain ⟨s2, r1, r2, r3, r4, r5, r6⟩ := choose_is hn hL (s := s1) (v1 := v3) (v2 := jq) (y := y) e3 g2 hnd hjn (by omega) ht hN b1 b2 y2 g5
        obtain ⟨j1, hj1⟩ : ∃ x, jq + 1 = x := ⟨_, rfl⟩
        have hj1v : j1.toInt = ((j + 1 : Nat) : Int) := by rw [← hj1, i32_add (by omega) (by omega)]; omega
        refine ⟨(j1, s2), nd - (j + 1), by omega, ?_, j + 1, rfl, by omega, by omega, hj1v, clM_tr g3 r2, ?_, ?_, ?_, ?_, ?_⟩
        · unfold B_X7_cheapest_72
          dsimp only
          rw [if_neg c1, if_neg c2, if_pos (jin_val g2 (by omega)), nat_val g2, hy, Option.bind_some, r1, Option.bind_some, hj1]
        · show cllC L nd N s2 t nd 0
          unfold cllC at g4 ⊢
          rw [r4 _ (by omega)]
          exact g4
        · show layC L mo nd N s2 (t + 1)
          intro d w hdw
          have := g5 d w hdw
          have hdw' : d ≤ nd ∧ w ≤ 9 := by
            rcases hdw with ⟨z1, z2⟩ | ⟨z1, z2, z3⟩
            · omega
            · have := (hE1.2.2.2.2 d z1).2.1
              rcases this with q | ⟨q, _⟩ <;> omega
          unfold cllC at this ⊢
          rw [r4 _ (by omega)]
          exact this
        · show ∀ d w : Nat, d < j + 1 → d + w ≤ t → w ≤ mo d → cllC L nd N s2 t d w
          intro d w h1 h2 h3
          by_cases z : d = j
          · rw [z]; exact r3 w (by omega) (by rw [← z]; exact h3)
          · have := g6 d w (by omega) h2 h3
            have hw9 : w ≤ 9 := by
              have := (hE1.2.2.2.2 d (by omega)).2.1
              rcases this with q | ⟨q, _⟩ <;> omega
            unfold cllC at this ⊢
            rw [r4 _ (by omega)]
            exact this
        · show ∀ t' d : Nat, t < t' → t' < N → d < nd → d ≤ t' → goesC L mo nd N s2 t' d
          intro t' d h1 h2 h3 h4
          exact goesC_s (g7 t' d h1 h2 h3 h4) (r5 _ (by omega))
        · show ∀ d : Nat, d < j + 1 → goesC L mo nd N s2 t d
          intro d h1
          by_cases z : d = j
          · rw [z]; exact r6
          · exact goesC_s (g8 d (by omega)) (r5 _ (by omega))) nd n (0, s) (by omega) ⟨0, rfl, by omega, by omega, l0, clM_rfl, hD, hnx, fun d w h1 => absurd h1 (Nat.not_lt_zero d), hg, fun d h1 => absurd h1 (Nat.not_lt_zero d)⟩
  exact ⟨e, he, q1, q2, q3⟩
theorem convD (ex : Bool) (hex : ex = false) (t : Nat) {r h : Nat} (L : Nat → Nat → Nat → Nat → Nat) (nd : Nat) : convY t (vX L nd ex r h nd 0) = t := by
  have h0 : vX L nd ex r h nd 0 = 0 := by
    subst hex
    cases r with
    | zero => exact if_pos rfl
    | succ r =>
      show (if nd = nd then (if false = true then 1000000 else 0) else _) = 0
      rw [if_pos rfl, if_neg (fun z => by cases z)]
  rw [h0]
  show (if 1000000 ≤ 0 then 1048576 else 64 * (0 / 100) + t + 0 % 100) = t
  rw [if_neg (by decide)]
  omega
theorem cheapest_is (hn : 400000 ≤ n) (hL : ∀ d h w k : Nat, L d h w k ≤ 6) {s : jS} {v1 : Int32} (e1 : v1.toInt = N) (hN1 : 1 ≤ N) (hN : N ≤ 48) (hnd1 : 1 ≤ nd) (hE : clsE L mo nd H s) :
    ∃ x s', F_X7_cheapest nd n v1 s = some (x, s') ∧ clM s s' ∧ x.toInt = (convY 0 (vX L nd false N 0 0 0) : Nat) ∧ ∀ t d : Nat, t < N → d < nd → d ≤ t → goesC L mo nd N s' t d := by
  have l1 : (1 : Int32).toInt = 1 := rfl
  have lm : (-1 : Int32).toInt = -1 := rfl
  have l0 : (0 : Int32).toInt = 0 := rfl
  have l48 : (48 : Int32).toInt = 48 := rfl
  have l90 : (90 : Int32).toInt = 90 := rfl
  have hnd := hE.2.2.2.1
  have hpN := par_bits N (by omega)
  have hvN : v1 = Int32.ofNat N := i32_eq.mpr (by rw [ofNat_int (by omega)]; exact e1)
  rw [← hvN] at hpN
  obtain ⟨a, ha⟩ : ∃ x, (v1 &&& (1 : Int32)) * 90 = x := ⟨_, rfl⟩
  have hav : a.toInt = ((N % 2 * 90 : Nat) : Int) := by rw [← ha, i32_mulR (n := 90) rfl (by omega) (by omega), hpN]; omega
  obtain ⟨b, hb⟩ : ∃ x, a + 90 = x := ⟨_, rfl⟩
  have hbv : b.toInt = ((N % 2 * 90 + 90 : Nat) : Int) := by rw [← hb, i32_add (by omega) (by omega)]; omega
  obtain ⟨s1, f1, f2, f3⟩ := fill36_is hn (s := s) (x := 1048576) hav hbv (by omega)
  have hE1 := clsE_c hE f2
  obtain ⟨g, hg⟩ : ∃ x, a + ((s1.1 33 4) * 10) = x := ⟨_, rfl⟩
  have hgv : g.toInt = ((N % 2 * 90 + nd * 10 : Nat) : Int) := by
    have h10 : ((s1.1 33 4) * 10).toInt = (nd : Int) * 10 := by rw [i32_mulR (n := 10) rfl (by have := hE1.1; omega) (by have := hE1.1; omega), hE1.1]
    rw [← hg, i32_add (by omega) (by omega), h10, hav]
    omega
  have c2 : clM s (upI s1 36 (N % 2 * 90 + nd * 10) v1) := clM_36 f2 _ _
  have hlast : layC L mo nd N (upI s1 36 (N % 2 * 90 + nd * 10) v1) N := by
    intro d w hdw
    unfold cllC
    rw [upI_1, if_pos rfl, Nat.sub_self]
    rcases hdw with ⟨z1, z2⟩ | ⟨z1, z2, z3⟩
    · subst z1 z2
      rw [upd_eq (by omega), convD false rfl]
      exact e1
    · have hw9 : w ≤ 9 := by
        have := (hE.2.2.2.2 d z1).2.1
        rcases this with q | ⟨q, _⟩ <;> omega
      rw [upd_ne (by omega), f3 _ (by omega) (by omega), show vX L nd false 0 N d w = 1000000 from if_neg (by omega)]
      rfl
  obtain ⟨e, he, q1, q2, q3⟩ := lp_rule (body := B_X7_cheapest_45 nd n)
    (I := fun q j => j ≤ N ∧ q.1.toInt = (j : Int) - 1 ∧ clM s q.2 ∧ layC L mo nd N q.2 j ∧ ∀ t d : Nat, j ≤ t → t < N → d < nd → d ≤ t → goesC L mo nd N q.2 t d)
    (Q := fun e => clM s e.2 ∧ layC L mo nd N e.2 0 ∧ ∀ t d : Nat, t < N → d < nd → d ≤ t → goesC L mo nd N e.2 t d) (by
    rintro ⟨tq, s2⟩ j ⟨g1, g2, g3, g4, g5⟩
    simp only at g2 g3 g4 g5
    by_cases c : tq < 0
    · left
      have c' := i32_lt.mp c
      have hj0 : j = 0 := by omega
      subst hj0
      exact ⟨(tq, s2), by unfold B_X7_cheapest_45; dsimp only; rw [if_pos c], g3, g4, fun t d h1 h2 h3 => g5 t d (Nat.zero_le _) h1 h2 h3⟩
    · right
      have c' : ¬ tq.toInt < (0 : Int32).toInt := fun z => c (i32_lt.mpr z)
      obtain ⟨t, rfl⟩ : ∃ t, j = t + 1 := ⟨j - 1, by omega⟩
      have hE2 := clsE_c hE g3
      have htq : tq.toInt = t := by omega
      obtain ⟨z, hz, hzv⟩ := base_i32 htq hE2.1 (by omega) hnd
      have hD : cllC L nd N (upI s2 36 (t % 2 * 90 + nd * 10) tq) t nd 0 := by
        unfold cllC
        rw [upI_1, if_pos rfl, upd_eq (by omega), convD false rfl]
        exact htq
      have hnx : layC L mo nd N (upI s2 36 (t % 2 * 90 + nd * 10) tq) (t + 1) := by
        intro d w hdw
        have := g4 d w hdw
        have hdw' : d ≤ nd ∧ w ≤ 9 := by
          rcases hdw with ⟨z1, z2⟩ | ⟨z1, z2, z3⟩
          · omega
          · have := (hE2.2.2.2.2 d z1).2.1
            rcases this with q | ⟨q, _⟩ <;> omega
        unfold cllC at this ⊢
        rw [upI_1, if_pos rfl, upd_ne (by omega)]
        exact this
      obtain ⟨e, r1, r2, r3, r4⟩ := layer_is hn hL (s := upI s2 36 (t % 2 * 90 + nd * 10) tq) htq (by omega) hN (clsE_c hE2 (clM_36 clM_rfl _ _)) hD hnx (fun t' d h1 h2 h3 h4 => goesC_s (g5 t' d (by omega) h2 h3 h4) rfl)
      obtain ⟨y, hy⟩ : ∃ y, tq + (-1) = y := ⟨_, rfl⟩
      have hyv : y.toInt = (t : Int) - 1 := by rw [← hy, i32_add (by omega) (by omega)]; omega
      refine ⟨(y, e.2), t, by omega, ?_, by omega, hyv, clM_tr (clM_36 g3 _ _) r2, r3, r4⟩
      unfold B_X7_cheapest_45
      dsimp only
      rw [if_neg c, hz, if_pos (jin_val hzv (by omega)), jl_1, nat_val hzv, r1, Option.bind_some, hy]) N n (((if (48 : Int32) < v1 then 48 else v1) - 1), upI s1 36 (N % 2 * 90 + nd * 10) v1) (by omega) ⟨Nat.le_refl _, by
        show ((if (48 : Int32) < v1 then 48 else v1) - 1).toInt = (N : Int) - 1
        rw [if_neg (fun z => by have := i32_lt.mp z; omega), i32_sub (by omega) (by omega)]
        omega, c2, hlast, fun t d h1 h2 => by omega⟩
  have h0 : cllC L nd N e.2 0 0 0 := q2 0 0 (Or.inr ⟨by omega, by omega, Nat.zero_le _⟩)
  unfold cllC at h0
  rw [Nat.sub_zero] at h0
  refine ⟨e.2.1 36 0, e.2, ?_, q1, h0, q3⟩
  unfold F_X7_cheapest
  rw [ha, hb, f1, Option.bind_some, hg, if_pos (jin_val hgv (by omega)), jl_1, nat_val hgv, he, Option.bind_some]
  rfl
end
