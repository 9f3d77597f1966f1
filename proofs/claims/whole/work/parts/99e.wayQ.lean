theorem updL_1 (f : Nat → Int64) (k : Nat) (x : Int64) (j : Nat) : vp_updL f k x j = if j = k then x else f j := rfl
section
variable {n : Nat} {c m : jS} {t : Nat}
theorem learn101 (hn : 400000 ≤ n) (h : asksR c m) (ht : t < 4) (htold : (t : Int) < (c.1 18 7).toInt) (hop : jz (c.1 (2 + 4 * t) 6) = true) {nd d l p : Nat} {v2 v3 v4 : Int32} {v6 : Bool} (hv6 : v6 = false → (¬ lk (c.1 (2 + 4 * t) 5) 1 ∧ ¬ lk (c.1 (2 + 4 * t) 5) 2)) (hd8 : nd ≤ 8) (hd : d < nd) (hl : l ≤ 9) (e2 : v2.toInt = d) (e3 : v3.toInt = l) (e4 : v4.toInt = p) (hp : p + 23 < 960 * nd) {s : jS} (hs : ∀ k : Nat, ¬ k = 30 → ¬ k = 31 → s.1 k = c.1 k) :
    ∃ e, lp (B_X3_learn_101 nd n v2 v3 v4 t v6) n (0, s) = some e ∧ (∀ k : Nat, ¬ k = 30 → ¬ k = 31 → e.2.1 k = c.1 k) ∧ (∀ k : Nat, ¬ k = 32 → e.2.2 k = s.2 k) ∧ (∀ j : Nat, (j < p ∨ p + 24 ≤ j) → e.2.2 32 j = s.2 32 j) ∧ ∀ hh : Nat, hh < 24 → ¬ e.2.2 32 (p + hh) = 0 ∧ ∀ w : Nat, w ≤ 9 → (w = 0 ∨ lk (c.1 (2 + 4 * t) 5) 6) → entP (lgV (opV n (c.1 19) (c.1 20) (m.1 3)) (Int32.ofNat t) l d hh w) (exI (e.2.2 32 (p + hh)) (Int32.ofNat w)).toInt.toNat := by
  have l0 : (0 : Int32).toInt = 0 := rfl
  have l1 : (1 : Int32).toInt = 1 := rfl
  have l24 : (24 : Int32).toInt = 24 := rfl
  obtain ⟨e, he, q1, q2, q3, q4⟩ := lp_rule (body := B_X3_learn_101 nd n v2 v3 v4 t v6)
    (I := fun q j => ∃ hq : Nat, j = 24 - hq ∧ hq ≤ 24 ∧ q.1.toInt = hq ∧ (∀ k : Nat, ¬ k = 30 → ¬ k = 31 → q.2.1 k = c.1 k) ∧ (∀ k : Nat, ¬ k = 32 → q.2.2 k = s.2 k) ∧ (∀ j : Nat, (j < p ∨ p + 24 ≤ j) → q.2.2 32 j = s.2 32 j) ∧ ∀ hh : Nat, hh < hq → ¬ q.2.2 32 (p + hh) = 0 ∧ ∀ w : Nat, w ≤ 9 → (w = 0 ∨ lk (c.1 (2 + 4 * t) 5) 6) → entP (lgV (opV n (c.1 19) (c.1 20) (m.1 3)) (Int32.ofNat t) l d hh w) (exI (q.2.2 32 (p + hh)) (Int32.ofNat w)).toInt.toNat)
    (Q := fun e => (∀ k : Nat, ¬ k = 30 → ¬ k = 31 → e.2.1 k = c.1 k) ∧ (∀ k : Nat, ¬ k = 32 → e.2.2 k = s.2 k) ∧ (∀ j : Nat, (j < p ∨ p + 24 ≤ j) → e.2.2 32 j = s.2 32 j) ∧ ∀ hh : Nat, hh < 24 → ¬ e.2.2 32 (p + hh) = 0 ∧ ∀ w : Nat, w ≤ 9 → (w = 0 ∨ lk (c.1 (2 + 4 * t) 5) 6) → entP (lgV (opV n (c.1 19) (c.1 20) (m.1 3)) (Int32.ofNat t) l d hh w) (exI (e.2.2 32 (p + hh)) (Int32.ofNat w)).toInt.toNat) (by
    rintro ⟨hI, s1⟩ j ⟨hq, g0, g1, g2, g3, g4, g5, g6⟩
    simp only at g2 g3 g4 g5 g6
    by_cases c1 : (24 : Int32) ≤ hI
    · left
      have c1' := i32_le.mp c1
      have : hq = 24 := by omega
      subst this
      exact ⟨(hI, s1), by unfold B_X3_learn_101; dsimp only; rw [if_pos c1], g3, g4, g5, g6⟩
    · right
      have c1' : ¬ (24 : Int32).toInt ≤ hI.toInt := fun z => c1 (i32_le.mpr z)
      have hlt : hq < 24 := by omega
      have hnew : ∀ y : Int64, ¬ y = 0 → (∀ w : Nat, w ≤ 9 → (w = 0 ∨ lk (c.1 (2 + 4 * t) 5) 6) → entP (lgV (opV n (c.1 19) (c.1 20) (m.1 3)) (Int32.ofNat t) l d hq w) (exI y (Int32.ofNat w)).toInt.toNat) → ∀ f : Nat → Int64, f = vp_updL (s1.2 32) (p + hq) y → (∀ j : Nat, (j < p ∨ p + 24 ≤ j) → f j = s.2 32 j) ∧ ∀ hh : Nat, hh < hq + 1 → ¬ f (p + hh) = 0 ∧ ∀ w : Nat, w ≤ 9 → (w = 0 ∨ lk (c.1 (2 + 4 * t) 5) 6) → entP (lgV (opV n (c.1 19) (c.1 20) (m.1 3)) (Int32.ofNat t) l d hh w) (exI (f (p + hh)) (Int32.ofNat w)).toInt.toNat := by
        intro y y0 yw f hf
        refine ⟨fun j hj => by rw [hf, updL_1, if_neg (by omega)]; exact g5 j hj, fun hh hhh => ?_⟩
        by_cases z : hh = hq
        · subst z
          rw [hf, updL_1, if_pos rfl]
          exact ⟨y0, yw⟩
        · rw [hf, updL_1, if_neg (by omega)]
          exact g6 hh (by omega)
      have hlearn : (hI = 0 ∨ v6 = true) → B_X3_learn_101 nd n v2 v3 v4 t v6 (hI, s1) = J_X3_learn_118 nd n v2 v3 v4 t v6 hI s1 := by
        intro hor
        unfold B_X3_learn_101
        dsimp only
        rw [if_neg c1]
        rcases hor with q | q
        · rw [if_pos q]
        · by_cases z : hI = 0
          · rw [if_pos z]
          · rw [if_neg z, if_pos q]
      by_cases hor : hI = 0 ∨ v6 = true
      · obtain ⟨s2, y, v7', r1, r2, r3, r4, r5, r6, r7⟩ := learn118 hn h ht htold hop (v6 := v6) hd8 hd hlt hl e2 e3 e4 g2 hp (s := s1) g3
        have hw := hnew y r6 r7 _ r5
        refine ⟨(v7', s2), 24 - (hq + 1), by omega, by rw [hlearn hor, r1], hq + 1, rfl, by omega, r2, r3, fun k hk => by rw [r4 k hk]; exact g4 k hk, hw.1, hw.2⟩
      · have hz : ¬ hI = 0 := fun z => hor (Or.inl z)
        have hf : v6 = false := by
          cases v6 with
          | false => rfl
          | true => exact absurd (Or.inr rfl) hor
        have hz' : ¬ hI.toInt = (0 : Int32).toInt := fun z => hz (i32_eq.mpr z)
        have h0 := g6 0 (by omega)
        obtain ⟨x, hx⟩ : ∃ x, v4 + hI = x := ⟨_, rfl⟩
        have hxv : x.toInt = ((p + hq : Nat) : Int) := by rw [← hx, i32_add (by omega) (by omega)]; omega
        obtain ⟨h1, hh1⟩ : ∃ x, hI + 1 = x := ⟨_, rfl⟩
        have hh1v : h1.toInt = ((hq + 1 : Nat) : Int) := by rw [← hh1, i32_add (by omega) (by omega)]; omega
        have hw := hnew (s1.2 32 p) h0.1 (fun w a1 a2 => entP_congr (fun k k1 k8 => lgV_same hn h ht htold hop (by omega) (by omega) hl a1 (by omega) (by omega) hlt hl (Or.inl rfl) (Or.inr (hv6 hf)) (Or.inl rfl)) (h0.2 w a1 a2)) _ rfl
        refine ⟨(h1, upL s1 32 (p + hq) (s1.2 32 p)), 24 - (hq + 1), by omega, ?_, hq + 1, rfl, by omega, hh1v, g3, fun k hk => by rw [upL_2, if_neg hk]; exact g4 k hk, ?_, ?_⟩
        · unfold B_X3_learn_101
          dsimp only
          rw [if_neg c1, if_neg hz, if_neg (by rw [hf]; exact fun z => by cases z), if_pos (jin_val e4 (by omega)), hx, if_pos (jin_val hxv (by omega)), jl_1, nat_val hxv, nat_val e4, hh1]
        · show ∀ j : Nat, (j < p ∨ p + 24 ≤ j) → (upL s1 32 (p + hq) (s1.2 32 p)).2 32 j = s.2 32 j
          rw [upL_2, if_pos rfl]
          exact hw.1
        · show ∀ hh : Nat, hh < hq + 1 → ¬ (upL s1 32 (p + hq) (s1.2 32 p)).2 32 (p + hh) = 0 ∧ ∀ w : Nat, w ≤ 9 → (w = 0 ∨ lk (c.1 (2 + 4 * t) 5) 6) → entP (lgV (opV n (c.1 19) (c.1 20) (m.1 3)) (Int32.ofNat t) l d hh w) (exI ((upL s1 32 (p + hq) (s1.2 32 p)).2 32 (p + hh)) (Int32.ofNat w)).toInt.toNat
          rw [upL_2, if_pos rfl]
          exact hw.2) 24 n (0, s) (by omega) ⟨0, rfl, by omega, l0, hs, fun _ _ => rfl, fun _ _ => rfl, fun hh hhh => absurd hhh (Nat.not_lt_zero hh)⟩
  exact ⟨e, he, q1, q2, q3, q4⟩
/-- a rule learnt at a door and load, when what is kept stands -/
theorem learn39 (hn : 400000 ≤ n) (h : asksR c m) (ht : t < 4) (htold : (t : Int) < (c.1 18 7).toInt) (hop : jz (c.1 (2 + 4 * t) 6) = true) {nd d l : Nat} {v1 v2 v3 v4 : Int32} (hd8 : nd ≤ 8) (hd : d < nd) (hl : l ≤ 9) (e1 : v1.toInt = t) (e2 : v2.toInt = d) (e3 : v3.toInt = l) (e4 : v4.toInt = (plI nd (c.1 (2 + 4 * t) 5) t d l : Nat)) (hst : tabOK (opV n (c.1 19) (c.1 20) (m.1 3)) c (c.2 32) nd (c.1 18 7)) :
    ∃ s', J_X3_learn_39 nd n v1 v2 v3 v4 c = some s' ∧ lnM c s' ∧ s'.1 29 = c.1 29 ∧ tabOK (opV n (c.1 19) (c.1 20) (m.1 3)) s' (s'.2 32) nd (c.1 18 7) ∧ (∀ j : Nat, ¬ c.2 32 j = 0 → ¬ s'.2 32 j = 0) ∧ ¬ s'.2 32 (plI nd (c.1 (2 + 4 * t) 5) t d l) = 0 := by
  have l0 : (0 : Int32).toInt = 0 := rfl
  have l24 : (24 : Int32).toInt = 24 := rfl
  have hpl := plI_rng (nd := nd) (x5 := c.1 (2 + 4 * t) 5) (r := t) hd hl
  have hplt : plI nd (c.1 (2 + 4 * t) 5) t d l + 23 < 960 * nd := pI_lt ht hpl.1 hpl.2
  have hsz : (Int32.ofNat (960 * nd)).toInt = ((960 * nd : Nat) : Int) := ofNat_int (by omega)
  obtain ⟨p, hp⟩ : ∃ p, plI nd (c.1 (2 + 4 * t) 5) t d l = p := ⟨_, rfl⟩
  rw [hp] at e4 hplt ⊢
  have c1 : ¬ v4 < 0 := fun z => by have := i32_lt.mp z; omega
  have c2 : ¬ ((Int32.ofNat (960 * nd)) - 24) < v4 := fun z => by
    have := i32_lt.mp z
    rw [i32_sub (by omega) (by omega), hsz] at this
    omega
  unfold J_X3_learn_39
  rw [if_neg c1, if_neg c2, if_pos (jin_val e4 (by omega)), nat_val e4]
  by_cases c3 : lg_cmp (c.2 32 p) 0 = 0
  · rw [if_pos c3, if_pos (jin_val e1 ht), nat_val e1]
    have hz : c.2 32 p = 0 := cmp_e.mp c3
    have key : ∀ v6 : Bool, (v6 = false → (¬ lk (c.1 (2 + 4 * t) 5) 1 ∧ ¬ lk (c.1 (2 + 4 * t) 5) 2)) → ∃ s', ((lp (B_X3_learn_101 nd n v2 v3 v4 t v6) n (0, c)).bind fun e101 => some e101.2) = some s' ∧ lnM c s' ∧ s'.1 29 = c.1 29 ∧ tabOK (opV n (c.1 19) (c.1 20) (m.1 3)) s' (s'.2 32) nd (c.1 18 7) ∧ (∀ j : Nat, ¬ c.2 32 j = 0 → ¬ s'.2 32 j = 0) ∧ ¬ s'.2 32 p = 0 := by
      intro v6 hv6
      obtain ⟨e, r1, r2, r3, r4, r5⟩ := learn101 hn h ht htold hop hv6 hd8 hd hl e2 e3 e4 hplt (s := c) (fun _ _ _ => rfl)
      refine ⟨e.2, by rw [r1, Option.bind_some], ⟨fun k a1 a2 a3 => r2 k a2 a3, fun j _ => by rw [r2 29 (by decide) (by decide)], r3⟩, r2 29 (by decide) (by decide), ?_, fun j hj => ?_, (r5 0 (by decide)).1⟩
      · intro r dd ll a1 a2 a3 a4 a5 hh w a6 a7 a8
        have hr4 : r < 4 := by have := h.2.1; omega
        rw [r2 _ (by omega) (by omega)] at a4 a8
        by_cases hq : (r * nd + dd) * 10 + ll = (t * nd + (if (c.1 (2 + 4 * t) 5 &&& (9 : Int32)) = 0 then 0 else d)) * 10 + (if (c.1 (2 + 4 * t) 5 &&& (128 : Int32)) = 0 then 0 else l)
        · obtain ⟨b1, b2, b3⟩ := pI_inj a2 a3 hpl.1 hpl.2 hq
          have hpp : pI nd r dd ll = p := by rw [← hp]; unfold plI pI; rw [hq]
          rw [hpp]
          subst b1
          refine entP_congr (fun k k1 k8 => lgV_same hn h ht htold hop (by omega) a6 hl a7 (by omega) (by omega) a6 a3 ?_ (Or.inl rfl) ?_) ((r5 hh a6).2 w a7 a8)
          · rw [b2]
            by_cases z : (c.1 (2 + 4 * r) 5 &&& (9 : Int32)) = 0
            · exact Or.inr ((m9 _).mp z)
            · exact Or.inl (if_neg z).symm
          · rw [b3]
            by_cases z : (c.1 (2 + 4 * r) 5 &&& (128 : Int32)) = 0
            · exact Or.inr ((m128 _).mp z)
            · exact Or.inl (if_neg z).symm
        · have hne : ∀ i : Nat, i < 24 → (pI nd r dd ll + i < p ∨ p + 24 ≤ pI nd r dd ll + i) := by
            intro i hi
            rw [← hp]
            unfold plI pI
            omega
          have h0 := hne 0 (by decide)
          rw [Nat.add_zero] at h0
          rw [r4 _ h0] at a5
          rw [r4 _ (hne hh a6)]
          exact hst r dd ll a1 a2 a3 a4 a5 hh w a6 a7 a8
      · by_cases z : j < p ∨ p + 24 ≤ j
        · rw [r4 j z]; exact hj
        · have := (r5 (j - p) (by omega)).1
          rw [show p + (j - p) = j from by omega] at this
          exact this
    by_cases z : (c.1 (2 + 4 * t) 5) &&& (6 : Int32) = 0
    · rw [if_pos z]
      exact key false (fun _ => (m6 _).mp z)
    · rw [if_neg z]
      exact key true (fun y => by cases y)
  · rw [if_neg c3]
    exact ⟨c, rfl, lnM_rfl, rfl, hst, fun _ hj => hj, fun z => c3 (cmp_e.mpr z)⟩
theorem fill32_is (hn : 400000 ≤ n) {nd : Nat} (hnd : nd ≤ 8) {s : jS} : ∃ s', F_J7_fill_d0a16_32 nd n 0 s = some s' ∧ s'.1 = s.1 ∧ (∀ k : Nat, ¬ k = 32 → s'.2 k = s.2 k) ∧ ∀ j : Nat, j < 960 * nd → s'.2 32 j = 0 := by
  have l0 : (0 : Int32).toInt = 0 := rfl
  have l1 : (1 : Int32).toInt = 1 := rfl
  have hsz : (Int32.ofNat (960 * nd)).toInt = ((960 * nd : Nat) : Int) := ofNat_int (by omega)
  obtain ⟨e, he, q1, q2, q3⟩ := lp_rule (body := B_J7_fill_d0a16_32_6 nd n 0 (Int32.ofNat (960 * nd)))
    (I := fun q k => ∃ i : Nat, k = 960 * nd - i ∧ i ≤ 960 * nd ∧ q.1.toInt = i ∧ q.2.1 = s.1 ∧ (∀ k : Nat, ¬ k = 32 → q.2.2 k = s.2 k) ∧ ∀ j : Nat, j < i → q.2.2 32 j = 0)
    (Q := fun e => e.2.1 = s.1 ∧ (∀ k : Nat, ¬ k = 32 → e.2.2 k = s.2 k) ∧ ∀ j : Nat, j < 960 * nd → e.2.2 32 j = 0) (by
    rintro ⟨iq, s1⟩ k ⟨i, g0, g1, g3, g4, g4', g5⟩
    simp only at g3 g4 g4' g5
    by_cases c : (Int32.ofNat (960 * nd)) ≤ iq
    · left
      have c' := i32_le.mp c
      exact ⟨(iq, s1), by unfold B_J7_fill_d0a16_32_6; dsimp only; rw [if_pos c], g4, g4', fun j h1 => g5 j (by omega)⟩
    · right
      have c' : ¬ (Int32.ofNat (960 * nd)).toInt ≤ iq.toInt := fun z => c (i32_le.mpr z)
      obtain ⟨i1, hi1⟩ : ∃ y, iq + 1 = y := ⟨_, rfl⟩
      have hi1v : i1.toInt = ((i + 1 : Nat) : Int) := by rw [← hi1, i32_add (by omega) (by omega)]; omega
      refine ⟨(i1, upL s1 32 i 0), 960 * nd - (i + 1), by omega, ?_, i + 1, rfl, by omega, hi1v, g4, fun k hk => by rw [upL_2, if_neg hk]; exact g4' k hk, fun j h1 => ?_⟩
      · unfold B_J7_fill_d0a16_32_6
        dsimp only
        rw [if_neg c, if_pos (jin_val g3 (by omega)), jl_1, nat_val g3, hi1]
      · show (upL s1 32 i 0).2 32 j = 0
        rw [upL_2, if_pos rfl, updL_1]
        by_cases z : j = i
        · rw [if_pos z]
        · rw [if_neg z]
          exact g5 j (by omega)) (960 * nd) n (0, s) (by omega) ⟨0, by omega, by omega, l0, rfl, fun _ _ => rfl, fun j h1 => absurd h1 (Nat.not_lt_zero j)⟩
  refine ⟨e.2, ?_, q1, q2, q3⟩
  unfold F_J7_fill_d0a16_32
  rw [he, Option.bind_some]
/-- a rule learnt -/
theorem learn_is (hn : 400000 ≤ n) {s : jS} (h : asksR s m) {nd d l : Nat} {v1 v2 v3 : Int32} (hd8 : nd ≤ 8) (hN : s.1 29 0 = Int32.ofNat nd) (hd : d < nd) (hl : l ≤ 9) (e1 : -1 ≤ v1.toInt ∧ v1.toInt < (s.1 18 7).toInt) (e2 : v2.toInt = d) (e3 : v3.toInt = l) (hst : jz (s.1 29 6) = true ∨ tabOK (opV n (s.1 19) (s.1 20) (m.1 3)) s (s.2 32) nd (s.1 18 7)) :
    ∃ s', F_X3_learn nd n v1 v2 v3 s = some s' ∧ lnM s s' ∧ ¬ jz (s'.1 29 6) = true ∧ tabOK (opV n (s.1 19) (s.1 20) (m.1 3)) s' (s'.2 32) nd (s.1 18 7) ∧ (¬ jz (s.1 29 6) = true → ∀ j : Nat, ¬ s.2 32 j = 0 → ¬ s'.2 32 j = 0) ∧ ∀ t : Nat, v1.toInt = t → jz (s.1 (2 + 4 * t) 6) = true → ¬ s'.2 32 (plI nd (s.1 (2 + 4 * t) 5) t d l) = 0 := by
  have l0 : (0 : Int32).toInt = 0 := rfl
  have h4 := h.2.1
  have key : ∀ s1 : jS, lnM s s1 → ¬ jz (s1.1 29 6) = true → tabOK (opV n (s.1 19) (s.1 20) (m.1 3)) s1 (s1.2 32) nd (s.1 18 7) → ∃ s', J_X3_learn_20 nd n v1 v2 v3 s1 = some s' ∧ lnM s s' ∧ ¬ jz (s'.1 29 6) = true ∧ tabOK (opV n (s.1 19) (s.1 20) (m.1 3)) s' (s'.2 32) nd (s.1 18 7) ∧ (∀ j : Nat, ¬ s1.2 32 j = 0 → ¬ s'.2 32 j = 0) ∧ ∀ t : Nat, v1.toInt = t → jz (s.1 (2 + 4 * t) 6) = true → ¬ s'.2 32 (plI nd (s.1 (2 + 4 * t) 5) t d l) = 0 := by
    intro s1 hl1 hns ht1
    have ha1 := asksR_l h hl1
    have s18 : s1.1 18 = s.1 18 := hl1.1 18 (by decide) (by decide) (by decide)
    have s19 : s1.1 19 = s.1 19 := hl1.1 19 (by decide) (by decide) (by decide)
    have s20 : s1.1 20 = s.1 20 := hl1.1 20 (by decide) (by decide) (by decide)
    have sT : ∀ t : Nat, t < 4 → s1.1 (2 + 4 * t) = s.1 (2 + 4 * t) := fun t ht => hl1.1 _ (by omega) (by omega) (by omega)
    have hno : J_X3_learn_39 nd n v1 v2 v3 (-1) s1 = some s1 := by
      unfold J_X3_learn_39
      rw [if_pos (by decide)]
    by_cases hneg : v1.toInt < 0
    · refine ⟨s1, ?_, hl1, hns, ht1, fun _ hj => hj, fun t ht => by omega⟩
      unfold J_X3_learn_20 F_X3_isOpening
      rw [if_pos (i32_lt.mpr (by omega)), Option.bind_some, if_neg (fun z => by cases z), hno]
    · obtain ⟨t, ht⟩ : ∃ t : Nat, v1.toInt = t := ⟨v1.toInt.toNat, by omega⟩
      have ht4 : t < 4 := by omega
      have htold : (t : Int) < (s1.1 18 7).toInt := by rw [s18]; omega
      have hop := opening_is ht ht4 htold
      by_cases hz : jz (s1.1 (2 + 4 * t) 6) = true
      · obtain ⟨p, hp1, hp2⟩ := placeOf_is (s := s1) hd8 (by rw [hl1.2.1 0 (by decide), hN]; exact ofNat_int (by omega)) ht e2 e3 ht4 hd hl
        obtain ⟨s', r1, r2, r3, r4, r5, r6⟩ := learn39 hn ha1 ht4 htold hz hd8 hd hl ht e2 e3 hp2 (by rw [s18, s19, s20]; exact ht1)
        rw [s18, s19, s20] at r4
        refine ⟨s', ?_, lnM_tr hl1 r2, by rw [r3]; exact hns, r4, r5, fun t' ht' hz' => ?_⟩
        · unfold J_X3_learn_20
          rw [hop, hz, Option.bind_some, if_pos rfl, hp1, Option.bind_some, r1]
        · have : t' = t := by omega
          subst this
          rw [← sT t' ht4]
          exact r6
      · refine ⟨s1, ?_, hl1, hns, ht1, fun _ hj => hj, fun t' ht' hz' => ?_⟩
        · unfold J_X3_learn_20
          have : jz (s1.1 (2 + 4 * t) 6) = false := by
            cases q : jz (s1.1 (2 + 4 * t) 6) with
            | false => rfl
            | true => exact absurd q hz
          rw [hop, this, Option.bind_some, if_neg (fun z => by cases z), hno]
        · have : t' = t := by omega
          subst this
          rw [← sT t' ht4] at hz'
          exact absurd hz' hz
  unfold F_X3_learn
  by_cases c1 : jz (s.1 29 6) = true
  · rw [if_pos c1]
    obtain ⟨s1, f1, f2, f3, f4⟩ := fill32_is hn hd8 (s := s)
    rw [f1, Option.bind_some, jl_1]
    obtain ⟨s', r1, r2, r3, r4, r5, r6⟩ := key (upI s1 29 6 (jb false)) ⟨fun k a1 a2 a3 => by rw [upI_1, if_neg a1, f2], fun j hj => by rw [upI_1, if_pos rfl, upd_ne hj, f2], f3⟩ (by rw [upI_1, if_pos rfl, upd_eq rfl]; exact jz_f) (fun r dd ll a1 a2 a3 a4 a5 => absurd (f4 _ (by have := pI_lt (nd := nd) (r := r) (dd := dd) (ll := ll) (by omega) a2 a3; omega)) a5)
    exact ⟨s', r1, r2, r3, r4, fun z => absurd c1 z, r6⟩
  · rw [if_neg c1]
    obtain ⟨s', r1, r2, r3, r4, r5, r6⟩ := key s lnM_rfl c1 (hst.resolve_left c1)
    exact ⟨s', r1, r2, r3, r4, fun _ => r5, r6⟩
end
