section
variable {n : Nat} {c m : jS} {t dN hN lN : Nat}
theorem srchG (hn : 400000 ≤ n) (h : asksR c m) (ht : t < 4) (htold : (t : Int) < (c.1 18 7).toInt) (hop : jz (c.1 (2 + 4 * t) 6) = true) (hd : dN < 8) (hh : hN < 24) (hl : lN ≤ 9) {w mg mk : Nat} (hw : w ≤ 9) (hmg : mg = 5 ∨ (mg = 0 ∧ ∀ g k : Nat, g ≤ 5 → 1 ≤ k → k ≤ 7 → srT n c m t dN hN lN w g k = srT n c m t dN hN lN w 0 k)) (hmk : mk = 7 ∨ (mk = 1 ∧ ∀ g k : Nat, g ≤ 5 → 1 ≤ k → k ≤ 7 → srT n c m t dN hN lN w g k = srT n c m t dN hN lN w g 1)) {s : jS} (hs : nmS c (Int32.ofNat dN) (Int32.ofNat hN) (Int32.ofNat lN) s) (s6 : s.1 30 6 = Int32.ofNat w) {v2 : Int64} {v4 v5 v6 v7 : Int32} (e5 : v5.toInt = mg) (e6 : v6.toInt = mk) :
    ∃ e, lp (B_X3_searched_T_81 n t v2 v4 v5 v6 v7) n (8, 0, s) = some e ∧ nmS c (Int32.ofNat dN) (Int32.ofNat hN) (Int32.ofNat lN) e.2.2 ∧ e.2.2.2 = s.2 ∧
      ∃ E : Nat, E < 64 ∧ 1 ≤ E ∧ e.1 = Int32.ofNat E ∧ entP (fun k => lgF (fun g => srT n c m t dN hN lN w g k)) E := by
  have l0 : (0 : Int32).toInt = 0 := rfl
  have l1 : (1 : Int32).toInt = 1 := rfl
  have hmg5 : mg ≤ 5 := by rcases hmg with q | ⟨q, _⟩ <;> omega
  have hmk7 : mk ≤ 7 := by rcases hmk with q | ⟨q, _⟩ <;> omega
  obtain ⟨e, he, q1, q2, q3⟩ := lp_rule (body := B_X3_searched_T_81 n t v2 v4 v5 v6 v7)
    (I := fun q j => ∃ g : Nat, g ≤ mg + 1 ∧ j = 10 - g ∧ q.2.1 = Int32.ofNat g ∧ nmS c (Int32.ofNat dN) (Int32.ofNat hN) (Int32.ofNat lN) q.2.2 ∧ q.2.2.1 30 6 = Int32.ofNat w ∧ q.2.2.2 = s.2 ∧
      ((q.1 = 8 ∧ ∀ g' k : Nat, g' < g → 1 ≤ k → k ≤ mk → srT n c m t dN hN lN w g' k = false) ∨ ∃ G K : Nat, G ≤ mg ∧ 1 ≤ K ∧ K ≤ mk ∧ q.1 = Int32.ofNat (8 * G + K) ∧ srT n c m t dN hN lN w G K = true ∧ (∀ g' k : Nat, g' < G → 1 ≤ k → k ≤ mk → srT n c m t dN hN lN w g' k = false) ∧ ∀ k : Nat, 1 ≤ k → k < K → srT n c m t dN hN lN w G k = false))
    (Q := fun e => nmS c (Int32.ofNat dN) (Int32.ofNat hN) (Int32.ofNat lN) e.2.2 ∧ e.2.2.2 = s.2 ∧
      ∃ E : Nat, E < 64 ∧ 1 ≤ E ∧ e.1 = Int32.ofNat E ∧ entP (fun k => lgF (fun g => srT n c m t dN hN lN w g k)) E) (by
    rintro ⟨x, gq, s1⟩ j ⟨g, k2, hj, g1, g2, g4, g5, g6⟩
    simp only at g1 g2 g4 g5 g6
    subst g1
    have hgv : (Int32.ofNat g).toInt = g := ofNat_int (by omega)
    have hfin : (∀ g' k : Nat, g' ≤ mg → 1 ≤ k → k ≤ mk → x = 8 → srT n c m t dN hN lN w g' k = false) → ∃ E : Nat, E < 64 ∧ 1 ≤ E ∧ x = Int32.ofNat E ∧ entP (fun k => lgF (fun g => srT n c m t dN hN lN w g k)) E := by
      intro hall
      rcases g6 with ⟨z1, z2⟩ | ⟨G, K, y1, y2, y3, y4, y5, y6, y7⟩
      · exact ⟨8, by omega, by omega, z1, ent_none hmg hmk (fun g' k a1 a2 a3 => hall g' k a1 a2 a3 z1)⟩
      · exact ⟨8 * G + K, by omega, by omega, y4, ent_found hmg hmk y1 y2 y3 y5 y6 y7⟩
    by_cases c1 : v5 < Int32.ofNat g
    · left
      have c1' := i32_lt.mp c1
      refine ⟨(x, Int32.ofNat g, s1), by unfold B_X3_searched_T_81; dsimp only; rw [if_pos c1], g2, g5, hfin (fun g' k a1 a2 a3 hx => ?_)⟩
      rcases g6 with ⟨z1, z2⟩ | ⟨G, K, y1, y2, y3, y4, y5, y6, y7⟩
      · exact z2 g' k (by omega) a2 a3
      · exfalso
        rw [y4] at hx
        have := congrArg Int32.toInt hx
        rw [ofNat_int (by omega)] at this
        change ((8 * G + K : Nat) : Int) = 8 at this
        omega
    · have c1' : ¬ v5.toInt < (Int32.ofNat g).toInt := fun z => c1 (i32_lt.mpr z)
      by_cases c2 : x = 8
      · right
        have hold : ∀ g' k : Nat, g' < g → 1 ≤ k → k ≤ mk → srT n c m t dN hN lN w g' k = false := by
          rcases g6 with ⟨z1, z2⟩ | ⟨G, K, y1, y2, y3, y4, _⟩
          · exact z2
          · exfalso
            rw [y4] at c2
            have := congrArg Int32.toInt c2
            rw [ofNat_int (by omega)] at this
            change ((8 * G + K : Nat) : Int) = 8 at this
            omega
        have hnext : Int32.ofNat g + 1 = Int32.ofNat (g + 1) := i32_eq.mpr (by rw [i32_add (by omega) (by omega), ofNat_int (by omega), ofNat_int (by omega)]; omega)
        obtain ⟨e, r1, r2, r3, r4, r5⟩ := srchK hn h ht htold hop hd hh hl hw (g := g) (by omega) hmk7 (s := upI s1 30 4 (Int32.ofNat g)) (nmS_up g2 (Or.inl rfl) _) (by rw [upI_1, if_pos rfl, upd_eq rfl]) (by rw [upI_1, if_pos rfl, upd_ne (by decide)]; exact g4) (v2 := v2) (v4 := v4) (v5 := v5) (v7 := v7) e6
        refine ⟨(e.1, Int32.ofNat (g + 1), e.2.2), 10 - (g + 1), by omega, ?_, g + 1, by omega, rfl, rfl, r2, r3, by rw [r4]; exact g5, ?_⟩
        · unfold B_X3_searched_T_81
          dsimp only
          rw [if_neg c1, if_pos c2, jl_1, show (Int32.toNatClampNeg 4) = 4 from rfl, c2, r1, Option.bind_some, hnext]
        · rcases r5 with ⟨z1, z2⟩ | ⟨K, z1, z2, z3, z4, z5⟩
          · refine Or.inl ⟨z1, fun g' k a1 a2 a3 => ?_⟩
            by_cases z : g' = g
            · rw [z]; exact z2 k a2 a3
            · exact hold g' k (by omega) a2 a3
          · exact Or.inr ⟨g, K, by omega, z1, z2, z3, z4, hold, z5⟩
      · left
        refine ⟨(x, Int32.ofNat g, s1), by unfold B_X3_searched_T_81; dsimp only; rw [if_neg c1, if_neg c2], g2, g5, hfin (fun g' k a1 a2 a3 hx => absurd hx c2)⟩) 10 n (8, 0, s) (by omega) ⟨0, by omega, rfl, rfl, hs, s6, rfl, Or.inl ⟨rfl, fun g' k a1 _ _ => absurd a1 (Nat.not_lt_zero g')⟩⟩
  exact ⟨e, he, q1, q2, q3⟩
/-- entries side by side -/
def packP (y : Int64) (j : Nat) (P : Nat → Nat → Prop) : Prop := ∃ Y : Nat, y.toInt = Y ∧ Y < 64 ^ j ∧ ∀ w : Nat, w < j → 1 ≤ Y / 64 ^ w % 64 ∧ P w (Y / 64 ^ w % 64)
theorem digit_low (Y e w i : Nat) (hi : i < w) : (Y + e * 64 ^ w) / 64 ^ i % 64 = Y / 64 ^ i % 64 := by
  obtain ⟨r, hr⟩ : ∃ r, w = i + 1 + r := ⟨w - i - 1, by omega⟩
  have h1 : e * 64 ^ w = 64 ^ i * (64 * (e * 64 ^ r)) := by
    rw [hr, Nat.pow_add, Nat.pow_succ]
    ac_rfl
  rw [h1, Nat.add_mul_div_left _ _ (Nat.pow_pos (by decide)), Nat.add_mul_mod_self_left]
theorem digit_top (Y e w : Nat) (hY : Y < 64 ^ w) (he : e < 64) : (Y + e * 64 ^ w) / 64 ^ w % 64 = e := by
  rw [Nat.mul_comm, Nat.add_mul_div_left _ _ (Nat.pow_pos (by decide)), Nat.div_eq_of_lt hY, Nat.zero_add, Nat.mod_eq_of_lt he]
theorem pack_up {y : Int64} {j e : Nat} {P : Nat → Nat → Prop} (h : packP y j P) (hj : j ≤ 9) (he : e < 64) (h1 : 1 ≤ e) (hp : P j e) : packP (y ||| ((Int32.toInt64 (Int32.ofNat e)) <<< (((Int32.ofNat j * 6) : Int32).toInt64 &&& 63))) (j + 1) P := by
  obtain ⟨Y, a1, a2, a3⟩ := h
  have hq := pack_or a1 a2 hj he
  refine ⟨Y + e * 64 ^ j, hq.1, hq.2, fun w hw => ?_⟩
  by_cases z : w = j
  · subst z
    rw [digit_top Y e w a2 he]
    exact ⟨h1, hp⟩
  · rw [digit_low Y e j w (by omega)]
    exact a3 w (by omega)
theorem srchW (hn : 400000 ≤ n) (h : asksR c m) (ht : t < 4) (htold : (t : Int) < (c.1 18 7).toInt) (hop : jz (c.1 (2 + 4 * t) 6) = true) (hd : dN < 8) (hh : hN < 24) (hl : lN ≤ 9) {mw mg mk : Nat} (hmw : mw ≤ 9) (hmg : mg = 5 ∨ (mg = 0 ∧ ∀ w g k : Nat, w ≤ 9 → g ≤ 5 → 1 ≤ k → k ≤ 7 → srT n c m t dN hN lN w g k = srT n c m t dN hN lN w 0 k)) (hmk : mk = 7 ∨ (mk = 1 ∧ ∀ w g k : Nat, w ≤ 9 → g ≤ 5 → 1 ≤ k → k ≤ 7 → srT n c m t dN hN lN w g k = srT n c m t dN hN lN w g 1)) {s : jS} (hs : nmS c (Int32.ofNat dN) (Int32.ofNat hN) (Int32.ofNat lN) s) {v4 v5 v6 : Int32} (e4 : v4.toInt = mw) (e5 : v5.toInt = mg) (e6 : v6.toInt = mk) :
    ∃ e, lp (B_X3_searched_T_58 n t v4 v5 v6) n (0, 0, s) = some e ∧ nmS c (Int32.ofNat dN) (Int32.ofNat hN) (Int32.ofNat lN) e.2.2 ∧ e.2.2.2 = s.2 ∧
      packP e.1 (mw + 1) (fun w E => entP (fun k => lgF (fun g => srT n c m t dN hN lN w g k)) E) := by
  have l0 : (0 : Int32).toInt = 0 := rfl
  have l1 : (1 : Int32).toInt = 1 := rfl
  obtain ⟨e, he, q1, q2, q3⟩ := lp_rule (body := B_X3_searched_T_58 n t v4 v5 v6)
    (I := fun q j => ∃ w : Nat, w ≤ mw + 1 ∧ j = 12 - w ∧ q.2.1 = Int32.ofNat w ∧ nmS c (Int32.ofNat dN) (Int32.ofNat hN) (Int32.ofNat lN) q.2.2 ∧ q.2.2.2 = s.2 ∧ packP q.1 w (fun w E => entP (fun k => lgF (fun g => srT n c m t dN hN lN w g k)) E))
    (Q := fun e => nmS c (Int32.ofNat dN) (Int32.ofNat hN) (Int32.ofNat lN) e.2.2 ∧ e.2.2.2 = s.2 ∧ packP e.1 (mw + 1) (fun w E => entP (fun k => lgF (fun g => srT n c m t dN hN lN w g k)) E)) (by
    rintro ⟨x, wq, s1⟩ j ⟨w, k2, hj, g1, g2, g5, g6⟩
    simp only at g1 g2 g5 g6
    subst g1
    have hwv : (Int32.ofNat w).toInt = w := ofNat_int (by omega)
    by_cases c1 : v4 < Int32.ofNat w
    · left
      have c1' := i32_lt.mp c1
      have : w = mw + 1 := by omega
      subst this
      exact ⟨(x, Int32.ofNat (mw + 1), s1), by unfold B_X3_searched_T_58; dsimp only; rw [if_pos c1], g2, g5, g6⟩
    · right
      have c1' : ¬ v4.toInt < (Int32.ofNat w).toInt := fun z => c1 (i32_lt.mpr z)
      have hnext : Int32.ofNat w + 1 = Int32.ofNat (w + 1) := i32_eq.mpr (by rw [i32_add (by omega) (by omega), ofNat_int (by omega), ofNat_int (by omega)]; omega)
      have hmg' : mg = 5 ∨ (mg = 0 ∧ ∀ g k : Nat, g ≤ 5 → 1 ≤ k → k ≤ 7 → srT n c m t dN hN lN w g k = srT n c m t dN hN lN w 0 k) := by
        rcases hmg with q | ⟨q, q'⟩
        · exact Or.inl q
        · exact Or.inr ⟨q, fun g k => q' w g k (by omega)⟩
      have hmk' : mk = 7 ∨ (mk = 1 ∧ ∀ g k : Nat, g ≤ 5 → 1 ≤ k → k ≤ 7 → srT n c m t dN hN lN w g k = srT n c m t dN hN lN w g 1) := by
        rcases hmk with q | ⟨q, q'⟩
        · exact Or.inl q
        · exact Or.inr ⟨q, fun g k => q' w g k (by omega)⟩
      obtain ⟨e, r1, r2, r3, E, r4, r5, r6, r7⟩ := srchG hn h ht htold hop hd hh hl (w := w) (by omega) hmg' hmk' (s := upI s1 30 6 (Int32.ofNat w)) (nmS_up g2 (Or.inr (Or.inr rfl)) _) (by rw [upI_1, if_pos rfl, upd_eq rfl]) (v2 := x) (v4 := v4) (v7 := Int32.ofNat w) e5 e6
      refine ⟨(x ||| ((Int32.toInt64 (Int32.ofNat E)) <<< (((Int32.ofNat w * 6) : Int32).toInt64 &&& 63)), Int32.ofNat (w + 1), e.2.2), 12 - (w + 1), by omega, ?_, w + 1, by omega, rfl, rfl, r2, by rw [r3]; exact g5, pack_up g6 (by omega) r4 r5 r7⟩
      unfold B_X3_searched_T_58
      dsimp only
      rw [if_neg c1, jl_1, show (Int32.toNatClampNeg 6) = 6 from rfl, r1, Option.bind_some, r6, hnext]) 12 n (0, 0, s) (by omega) ⟨0, by omega, rfl, rfl, hs, rfl, 0, rfl, by decide, fun w hw => absurd hw (Nat.not_lt_zero w)⟩
  exact ⟨e, he, q1, q2, q3⟩
theorem nmV_j (c : jS) (d h k g w l : Int32) : nmV c d h k g w l 0 = d ∧ nmV c d h k g w l 1 = h ∧ nmV c d h k g w l 2 = c.1 19 h.toNatClampNeg ∧ nmV c d h k g w l 3 = c.1 20 d.toNatClampNeg ∧ nmV c d h k g w l 4 = g ∧ nmV c d h k g w l 5 = k ∧ nmV c d h k g w l 6 = w ∧ nmV c d h k g w l 7 = l := ⟨rfl, rfl, rfl, rfl, rfl, rfl, rfl, rfl⟩
/-- what is not looked at does not count -/
theorem sr_same (hn : 400000 ≤ n) (h : asksR c m) (ht : t < 4) (htold : (t : Int) < (c.1 18 7).toInt) (hop : jz (c.1 (2 + 4 * t) 6) = true) {d1 h1 l1 w1 g1 k1 d2 h2 l2 w2 g2 k2 : Nat} (a1 : d1 < 8) (a2 : h1 < 24) (a3 : l1 ≤ 9) (a4 : w1 ≤ 9) (a5 : g1 ≤ 5) (a6 : k1 ≤ 7) (b1 : d2 < 8) (b2 : h2 < 24) (b3 : l2 ≤ 9) (b4 : w2 ≤ 9) (b5 : g2 ≤ 5) (b6 : k2 ≤ 7)
    (e0 : d1 = d2 ∨ (¬ lk (c.1 (2 + 4 * t) 5) 0 ∧ ¬ lk (c.1 (2 + 4 * t) 5) 3)) (e1 : h1 = h2 ∨ (¬ lk (c.1 (2 + 4 * t) 5) 1 ∧ ¬ lk (c.1 (2 + 4 * t) 5) 2)) (e4 : g1 = g2 ∨ ¬ lk (c.1 (2 + 4 * t) 5) 4) (e5 : k1 = k2 ∨ ¬ lk (c.1 (2 + 4 * t) 5) 5) (e6 : w1 = w2 ∨ ¬ lk (c.1 (2 + 4 * t) 5) 6) (e7 : l1 = l2 ∨ ¬ lk (c.1 (2 + 4 * t) 5) 7) :
    srT n c m t d1 h1 l1 w1 g1 k1 = srT n c m t d2 h2 l2 w2 g2 k2 := by
  obtain ⟨s, hs⟩ : ∃ s : jS, s = upR c 30 (fun j => nmV c (Int32.ofNat d1) (Int32.ofNat h1) (Int32.ofNat k1) (Int32.ofNat g1) (Int32.ofNat w1) (Int32.ofNat l1) j) := ⟨_, rfl⟩
  have so : ∀ i : Nat, ¬ i = 30 → s.1 i = c.1 i := by
    intro i hi
    rw [hs, upR_1, if_neg hi]
  have s30 : s.1 30 = fun j => nmV c (Int32.ofNat d1) (Int32.ofNat h1) (Int32.ofNat k1) (Int32.ofNat g1) (Int32.ofNat w1) (Int32.ofNat l1) j := by rw [hs, upR_1, if_pos rfl]
  obtain ⟨s1, p1, _⟩ := holds_is hn h ht htold hop (sr_args (w := w1) (g := g1) (k := k1) ht htold a1 a2 a3 a4 a5 a6) (s := s) (fun j => by rw [so _ (by omega)]) (fun j => by rw [so _ (by omega)]) (fun j hj _ => by rw [s30])
  obtain ⟨s2, p2, _⟩ := holds_is hn h ht htold hop (sr_args (w := w2) (g := g2) (k := k2) ht htold b1 b2 b3 b4 b5 b6) (s := s) (fun j => by rw [so _ (by omega)]) (fun j => by rw [so _ (by omega)]) (fun j hj hlk => by
    rw [s30]
    obtain ⟨p0, p1, p2, p3, p4, p5, p6, p7⟩ := nmV_j c (Int32.ofNat d1) (Int32.ofNat h1) (Int32.ofNat k1) (Int32.ofNat g1) (Int32.ofNat w1) (Int32.ofNat l1)
    obtain ⟨r0, r1, r2, r3, r4, r5, r6, r7⟩ := nmV_j c (Int32.ofNat d2) (Int32.ofNat h2) (Int32.ofNat k2) (Int32.ofNat g2) (Int32.ofNat w2) (Int32.ofNat l2)
    have : j = 0 ∨ j = 1 ∨ j = 2 ∨ j = 3 ∨ j = 4 ∨ j = 5 ∨ j = 6 ∨ j = 7 := by omega
    rcases this with rfl | rfl | rfl | rfl | rfl | rfl | rfl | rfl
    · rcases e0 with q | ⟨q, _⟩
      · exact p0.trans (by rw [r0, q])
      · exact absurd hlk q
    · rcases e1 with q | ⟨q, _⟩
      · exact p1.trans (by rw [r1, q])
      · exact absurd hlk q
    · rcases e1 with q | ⟨_, q⟩
      · exact p2.trans (by rw [r2, q])
      · exact absurd hlk q
    · rcases e0 with q | ⟨_, q⟩
      · exact p3.trans (by rw [r3, q])
      · exact absurd hlk q
    · rcases e4 with q | q
      · exact p4.trans (by rw [r4, q])
      · exact absurd hlk q
    · rcases e5 with q | q
      · exact p5.trans (by rw [r5, q])
      · exact absurd hlk q
    · rcases e6 with q | q
      · exact p6.trans (by rw [r6, q])
      · exact absurd hlk q
    · rcases e7 with q | q
      · exact p7.trans (by rw [r7, q])
      · exact absurd hlk q)
  rw [p1] at p2
  exact congrArg Prod.fst (Option.some.inj p2)
theorem searched_is (hn : 400000 ≤ n) (h : asksR c m) (ht : t < 4) (htold : (t : Int) < (c.1 18 7).toInt) (hop : jz (c.1 (2 + 4 * t) 6) = true) (hd : dN < 8) (hh : hN < 24) (hl : lN ≤ 9) {s : jS} (hs : nmS c (Int32.ofNat dN) (Int32.ofNat hN) (Int32.ofNat lN) s) :
    ∃ y s', F_X3_searched_T n t s = some (y, s') ∧ nmS c (Int32.ofNat dN) (Int32.ofNat hN) (Int32.ofNat lN) s' ∧ s'.2 = s.2 ∧ ¬ y = 0 ∧ ∀ w : Nat, w ≤ 9 → (w = 0 ∨ lk (c.1 (2 + 4 * t) 5) 6) → entP (lgV (opV n (c.1 19) (c.1 20) (m.1 3)) (Int32.ofNat t) lN dN hN w) (exI y (Int32.ofNat w)).toInt.toNat := by
  have key : ∀ mw mg mk : Nat, ∀ v4 v5 v6 : Int32, v4.toInt = mw → v5.toInt = mg → v6.toInt = mk → mw ≤ 9 → (lk (c.1 (2 + 4 * t) 5) 6 → mw = 9) → (mg = 5 ∨ (mg = 0 ∧ ¬ lk (c.1 (2 + 4 * t) 5) 4)) → (mk = 7 ∨ (mk = 1 ∧ ¬ lk (c.1 (2 + 4 * t) 5) 5)) → ∃ e, lp (B_X3_searched_T_58 n t v4 v5 v6) n (0, 0, s) = some e ∧ nmS c (Int32.ofNat dN) (Int32.ofNat hN) (Int32.ofNat lN) e.2.2 ∧ e.2.2.2 = s.2 ∧ ¬ e.1 = 0 ∧ ∀ w : Nat, w ≤ 9 → (w = 0 ∨ lk (c.1 (2 + 4 * t) 5) 6) → entP (lgV (opV n (c.1 19) (c.1 20) (m.1 3)) (Int32.ofNat t) lN dN hN w) (exI e.1 (Int32.ofNat w)).toInt.toNat := by
    intro mw mg mk v4 v5 v6 e4 e5 e6 hmw hw9 hmg hmk
    have hmg' : mg = 5 ∨ (mg = 0 ∧ ∀ w g k : Nat, w ≤ 9 → g ≤ 5 → 1 ≤ k → k ≤ 7 → srT n c m t dN hN lN w g k = srT n c m t dN hN lN w 0 k) := by
      rcases hmg with q | ⟨q, q'⟩
      · exact Or.inl q
      · exact Or.inr ⟨q, fun w g k a1 a2 a3 a4 => sr_same hn h ht htold hop hd hh hl a1 a2 (by omega) hd hh hl a1 (by omega) (by omega) (Or.inl rfl) (Or.inl rfl) (Or.inr q') (Or.inl rfl) (Or.inl rfl) (Or.inl rfl)⟩
    have hmk' : mk = 7 ∨ (mk = 1 ∧ ∀ w g k : Nat, w ≤ 9 → g ≤ 5 → 1 ≤ k → k ≤ 7 → srT n c m t dN hN lN w g k = srT n c m t dN hN lN w g 1) := by
      rcases hmk with q | ⟨q, q'⟩
      · exact Or.inl q
      · exact Or.inr ⟨q, fun w g k a1 a2 a3 a4 => sr_same hn h ht htold hop hd hh hl a1 a2 (by omega) hd hh hl a1 a2 (by omega) (Or.inl rfl) (Or.inl rfl) (Or.inl rfl) (Or.inr q') (Or.inl rfl) (Or.inl rfl)⟩
    obtain ⟨e, r1, r2, r3, Y, r4, r5, r6⟩ := srchW hn h ht htold hop hd hh hl hmw hmg' hmk' hs e4 e5 e6
    have h10 : Y < 64 ^ 10 := Nat.lt_of_lt_of_le r5 (Nat.pow_le_pow_right (by decide) (by omega))
    refine ⟨e, r1, r2, r3, fun z => ?_, fun w hw hlk => ?_⟩
    · have h0 := (r6 0 (by omega)).1
      rw [z] at r4
      have hY0 : Y = 0 := by
        change (0 : Int) = _ at r4
        omega
      rw [hY0] at h0
      exact absurd h0 (by decide)
    · have hwm : w ≤ mw := by
        rcases hlk with q | q
        · omega
        · rw [hw9 q]; exact hw
      rw [pack_get r4 h10 hw]
      exact (r6 w (by omega)).2
  have c9 : (9 : Int32).toInt = (9 : Nat) := rfl
  have c0 : (0 : Int32).toInt = (0 : Nat) := rfl
  have c5 : (5 : Int32).toInt = (5 : Nat) := rfl
  have c7 : (7 : Int32).toInt = (7 : Nat) := rfl
  have c1 : (1 : Int32).toInt = (1 : Nat) := rfl
  have hx : s.1 (2 + 4 * t) 5 = c.1 (2 + 4 * t) 5 := by rw [hs.1 _ (by omega) (by omega)]
  have k3 : ∀ mw mg : Nat, ∀ v4 v5 : Int32, v4.toInt = mw → v5.toInt = mg → mw ≤ 9 → (lk (c.1 (2 + 4 * t) 5) 6 → mw = 9) → (mg = 5 ∨ (mg = 0 ∧ ¬ lk (c.1 (2 + 4 * t) 5) 4)) → ∃ y s', J_X3_searched_T_35 n t 0 v4 v5 s = some (y, s') ∧ nmS c (Int32.ofNat dN) (Int32.ofNat hN) (Int32.ofNat lN) s' ∧ s'.2 = s.2 ∧ ¬ y = 0 ∧ ∀ w : Nat, w ≤ 9 → (w = 0 ∨ lk (c.1 (2 + 4 * t) 5) 6) → entP (lgV (opV n (c.1 19) (c.1 20) (m.1 3)) (Int32.ofNat t) lN dN hN w) (exI y (Int32.ofNat w)).toInt.toNat := by
    intro mw mg v4 v5 e4 e5 hmw hw9 hmg
    unfold J_X3_searched_T_35
    rw [hx]
    by_cases z : (c.1 (2 + 4 * t) 5) &&& (32 : Int32) = 0
    · obtain ⟨e, r1, r2, r3, r4, r5⟩ := key mw mg 1 v4 v5 1 e4 e5 c1 hmw hw9 hmg (Or.inr ⟨rfl, (m32 _).mp z⟩)
      exact ⟨e.1, e.2.2, by rw [if_pos z, r1, Option.bind_some], r2, r3, r4, r5⟩
    · obtain ⟨e, r1, r2, r3, r4, r5⟩ := key mw mg 7 v4 v5 7 e4 e5 c7 hmw hw9 hmg (Or.inl rfl)
      exact ⟨e.1, e.2.2, by rw [if_neg z, r1, Option.bind_some], r2, r3, r4, r5⟩
  have k2 : ∀ mw : Nat, ∀ v4 : Int32, v4.toInt = mw → mw ≤ 9 → (lk (c.1 (2 + 4 * t) 5) 6 → mw = 9) → ∃ y s', J_X3_searched_T_18 n t 0 v4 s = some (y, s') ∧ nmS c (Int32.ofNat dN) (Int32.ofNat hN) (Int32.ofNat lN) s' ∧ s'.2 = s.2 ∧ ¬ y = 0 ∧ ∀ w : Nat, w ≤ 9 → (w = 0 ∨ lk (c.1 (2 + 4 * t) 5) 6) → entP (lgV (opV n (c.1 19) (c.1 20) (m.1 3)) (Int32.ofNat t) lN dN hN w) (exI y (Int32.ofNat w)).toInt.toNat := by
    intro mw v4 e4 hmw hw9
    unfold J_X3_searched_T_18
    rw [hx]
    by_cases z : (c.1 (2 + 4 * t) 5) &&& (16 : Int32) = 0
    · rw [if_pos z]
      exact k3 mw 0 v4 0 e4 c0 hmw hw9 (Or.inr ⟨rfl, (m16 _).mp z⟩)
    · rw [if_neg z]
      exact k3 mw 5 v4 5 e4 c5 hmw hw9 (Or.inl rfl)
  unfold F_X3_searched_T
  rw [hx]
  by_cases z : (c.1 (2 + 4 * t) 5) &&& (64 : Int32) = 0
  · rw [if_pos z]
    exact k2 0 0 c0 (by omega) (fun y => absurd y ((m64 _).mp z))
  · rw [if_neg z]
    exact k2 9 9 c9 (by omega) (fun _ => rfl)
end
