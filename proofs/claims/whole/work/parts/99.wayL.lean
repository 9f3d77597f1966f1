/-! the class's walk along its table -/
section
variable (L : Nat → Nat → Nat → Nat → Nat) (D : Nat) (ex : Bool) (N : Nat)
/-- what is given at a door within the first hours -/
def gvX (d : Nat) : Nat → Nat
  | 0 => 0
  | i + 1 => gvX d i + (if (posX L D ex N i).1 = d then actX L D ex N i % 10 else 0)
end
theorem fst_same {f g : Nat → Nat} {x : Nat} (h : ∀ k : Nat, k < 8 → f k = g k) : fstK f x = fstK g x := by
  unfold fstK
  rw [h 0 (by decide), h 1 (by decide), h 2 (by decide), h 3 (by decide), h 4 (by decide), h 5 (by decide), h 6 (by decide)]
theorem kX_still {L : Nat → Nat → Nat → Nat → Nat} {D : Nat} {ex : Bool} {N h d : Nat} (hs : stl L d) {w : Nat} (hw : w ≤ 9) : kX L D ex N h d w = kX L D ex N h d 0 := by
  unfold kX
  rw [vX_stl hs (N - h) h w hw]
  refine fst_same (fun k k8 => opt_same ?_ (fun k k1 k8 => hs h w k hw k1 k8) k8)
  rw [vX_stl hs (N - h - 1) (h + 1) (capW w) (cap9 hw), vX_stl hs (N - h - 1) (h + 1) (capW 0) (cap9 (by omega))]
theorem cost_bits : ∀ i : Nat, i < 2688 → (Int32.ofNat i >>> ((6 : Int32) &&& 31)).toInt = ((i / 64 : Nat) : Int) ∧ (Int32.ofNat i &&& (63 : Int32)).toInt = ((i % 64 : Nat) : Int) := by decide +kernel
theorem fill35_is {n : Nat} (hn : 400000 ≤ n) {s : jS} :
    ∃ s', F_J7_fill_53178_35 n 0 s = some s' ∧ (∀ k : Nat, ¬ k = 35 → s'.1 k = s.1 k) ∧ s'.2 = s.2 ∧ ∀ j : Nat, j < 8 → s'.1 35 j = 0 := by
  have l1 : (1 : Int32).toInt = 1 := rfl
  have l0 : (0 : Int32).toInt = 0 := rfl
  have l8 : (8 : Int32).toInt = 8 := rfl
  obtain ⟨e, he, q1, q2, q3⟩ := lp_rule (body := B_J7_fill_53178_35_5 n 0 8)
    (I := fun q k => ∃ i : Nat, k = 8 - i ∧ i ≤ 8 ∧ q.1.toInt = i ∧ (∀ k : Nat, ¬ k = 35 → q.2.1 k = s.1 k) ∧ q.2.2 = s.2 ∧ ∀ j : Nat, j < i → q.2.1 35 j = 0)
    (Q := fun e => (∀ k : Nat, ¬ k = 35 → e.2.1 k = s.1 k) ∧ e.2.2 = s.2 ∧ ∀ j : Nat, j < 8 → e.2.1 35 j = 0) (by
    rintro ⟨iq, s1⟩ k ⟨i, g0, g1, g3, g4, g4', g5⟩
    simp only at g3 g4 g4' g5
    by_cases c : (8 : Int32) ≤ iq
    · left
      have c' := i32_le.mp c
      exact ⟨(iq, s1), by unfold B_J7_fill_53178_35_5; dsimp only; rw [if_pos c], g4, g4', fun j h1 => g5 j (by omega)⟩
    · right
      have c' : ¬ (8 : Int32).toInt ≤ iq.toInt := fun z => c (i32_le.mpr z)
      obtain ⟨i1, hi1⟩ : ∃ y, iq + 1 = y := ⟨_, rfl⟩
      have hi1v : i1.toInt = ((i + 1 : Nat) : Int) := by rw [← hi1, i32_add (by omega) (by omega)]; omega
      refine ⟨(i1, upI s1 35 i 0), 8 - (i + 1), by omega, ?_, i + 1, rfl, by omega, hi1v, fun k hk => ?_, g4', fun j h1 => ?_⟩
      · unfold B_J7_fill_53178_35_5
        dsimp only
        rw [if_neg c, if_pos (jin_val g3 (by omega)), jl_1, nat_val g3, hi1]
      · show (upI s1 35 i 0).1 k = _
        rw [upI_1, if_neg hk]
        exact g4 k hk
      · show (upI s1 35 i 0).1 35 j = 0
        rw [upI_1, if_pos rfl]
        by_cases z : j = i
        · rw [upd_eq z]
        · rw [upd_ne z]
          exact g5 j (by omega)) 8 n (0, s) (by omega) ⟨0, rfl, by omega, l0, fun _ _ => rfl, rfl, fun j h1 => absurd h1 (Nat.not_lt_zero j)⟩
  refine ⟨e.2, ?_, q1, q2, q3⟩
  unfold F_J7_fill_53178_35
  rw [he, Option.bind_some]
/-- rows of the ways alone change -/
def wyM (s s' : jS) : Prop := (∀ k : Nat, k < 33 ∨ 39 < k → s'.1 k = s.1 k) ∧ (∀ j : Nat, 1 < j → ¬ j = 11 → s'.1 33 j = s.1 33 j) ∧ s'.2 = s.2
theorem wyM_rfl {s : jS} : wyM s s := ⟨fun _ _ => rfl, fun _ _ _ => rfl, rfl⟩
theorem wyM_tr {a b c : jS} (h1 : wyM a b) (h2 : wyM b c) : wyM a c := ⟨fun k a1 => (h2.1 k a1).trans (h1.1 k a1), fun j a1 a2 => (h2.2.1 j a1 a2).trans (h1.2.1 j a1 a2), h2.2.2.trans h1.2.2⟩
theorem wyM_c {s s' : jS} (h : clM s s') : wyM s s' := ⟨fun k hk => h.1 k (by omega) (by omega), fun j _ _ => by rw [h.1 33 (by decide) (by decide)], h.2⟩
/-- what the class tells of a way -/
def toldC (L : Nat → Nat → Nat → Nat → Nat) (nd N : Nat) (s : jS) : Prop := (s.1 33 0).toInt = ((vX L nd false N 0 0 0 / 100 : Nat) : Int) ∧ (s.1 33 1).toInt = ((vX L nd false N 0 0 0 % 100 : Nat) : Int) ∧ (∀ i : Nat, i < vX L nd false N 0 0 0 % 100 → (s.1 34 i).toInt = (actX L nd false N i : Nat)) ∧ ∀ d : Nat, d < nd → (s.1 35 d).toInt = (gvX L nd false N d (vX L nd false N 0 0 0 % 100) : Nat)
section
variable {n : Nat} {L : Nat → Nat → Nat → Nat → Nat} {mo : Nat → Nat} {nd N H : Nat}
theorem walk_is (hn : 400000 ≤ n) (hL : ∀ d h w k : Nat, L d h w k ≤ 6) {s : jS} {v1 : Int32} (e1 : v1.toInt = (convY 0 (vX L nd false N 0 0 0) : Nat)) (hN : N ≤ 48) (hE : clsE L mo nd H s) (hf : vX L nd false N 0 0 0 < 1000000) (hg : ∀ t d : Nat, t < N → d < nd → d ≤ t → goesC L mo nd N s t d) :
    ∃ s', F_X7_walk nd n v1 s = some s' ∧ wyM s s' ∧ clsE L mo nd H s' ∧ toldC L nd N s' := by
  have l1 : (1 : Int32).toInt = 1 := rfl
  have l0 : (0 : Int32).toInt = 0 := rfl
  have l48 : (48 : Int32).toInt = 48 := rfl
  have l10 : (10 : Int32).toInt = 10 := rfl
  have hnd := hE.2.2.2.1
  have hfin := vX_fin hL N 0 0 0 hN (Nat.zero_le _) hnd hf
  have hp := fun i hi => path_is (ex := false) hL hnd hN hf i hi
  obtain ⟨X, hX⟩ : ∃ X, vX L nd false N 0 0 0 = X := ⟨_, rfl⟩
  have hcv : convY 0 X = 64 * (X / 100) + X % 100 := by
    have : X < 1000000 := by omega
    show (if 1000000 ≤ X then 1048576 else 64 * (X / 100) + 0 + X % 100) = _
    rw [if_neg (by omega)]
    omega
  rw [hX, hcv] at e1
  rw [hX] at hfin hp
  have hv : v1 = Int32.ofNat (64 * (X / 100) + X % 100) := i32_eq.mpr (by rw [ofNat_int (by omega)]; exact e1)
  have hcb := cost_bits (64 * (X / 100) + X % 100) (by omega)
  rw [← hv] at hcb
  obtain ⟨x6, hx6⟩ : ∃ x, v1 >>> ((6 : Int32) &&& 31) = x := ⟨_, rfl⟩
  obtain ⟨x63, hx63⟩ : ∃ x, v1 &&& (63 : Int32) = x := ⟨_, rfl⟩
  rw [hx6, hx63] at hcb
  obtain ⟨s2, f1, f2, f3, f4⟩ := fill35_is hn (s := upI (upI s 33 0 x6) 33 1 x63)
  have hE2 : clsE L mo nd H s2 := by
    have h33 : s2.1 33 = upd (upd (s.1 33) 0 x6) 1 x63 := f2 33 (by decide)
    have h38 : s2.1 38 = s.1 38 := f2 38 (by decide)
    have h39 : s2.1 39 = s.1 39 := f2 39 (by decide)
    have hs2 : s2.2 = s.2 := f3
    obtain ⟨h1, h2, h3, h4, h5⟩ := hE
    refine ⟨by rw [h33, upd_ne (by decide), upd_ne (by decide)]; exact h1, by rw [h33, upd_ne (by decide), upd_ne (by decide)]; exact h2, h3, h4, fun d hd => ?_⟩
    obtain ⟨b1, b2, b3⟩ := h5 d hd
    refine ⟨by rw [h39]; exact b1, b2, fun h => ?_⟩
    obtain ⟨y, c1, c2⟩ := b3 h
    exact ⟨y, fun x hx => by rw [h38, leastsAt_s hs2]; exact c1 x hx, c2⟩
  have h33 : s2.1 33 = upd (upd (s.1 33) 0 x6) 1 x63 := f2 33 (by decide)
  have hhr : (s2.1 33 1).toInt = ((X % 100 : Nat) : Int) := by rw [h33, upd_eq rfl, hcb.2]; omega
  have hgf : (s2.1 33 0).toInt = ((X / 100 : Nat) : Int) := by rw [h33, upd_ne (by decide), upd_eq rfl, hcb.1]; omega
  have hg2 : ∀ t d : Nat, t < N → d < nd → d ≤ t → goesC L mo nd N s2 t d := fun t d a1 a2 a3 => goesC_s (hg t d a1 a2 a3) (by rw [f2 37 (by decide)]; rfl)
  obtain ⟨e, he, q1, q2, q3, q4⟩ := lp_rule (body := B_X7_walk_31 nd n)
    (I := fun q k => ∃ t d wc : Nat, k = X % 100 - t ∧ t ≤ X % 100 ∧ (posX L nd false N t).1 = d ∧ q.1.toInt = d ∧ q.2.1 = Int32.ofNat wc ∧ wc ≤ 9 ∧ (d < nd → (mo d = 9 ∧ wc = (posX L nd false N t).2) ∨ (mo d = 0 ∧ wc = 0)) ∧ q.2.2.1.toInt = t ∧ (∀ k : Nat, ¬ k = 34 → ¬ k = 35 → q.2.2.2.1 k = s2.1 k) ∧ q.2.2.2.2 = s2.2 ∧ (∀ i : Nat, i < t → (q.2.2.2.1 34 i).toInt = (actX L nd false N i : Nat)) ∧ (∀ d' : Nat, d' < nd → (q.2.2.2.1 35 d').toInt = (gvX L nd false N d' t : Nat)) ∧ ∀ d' : Nat, d ≤ d' → gvX L nd false N d' t = 0)
    (Q := fun e => (∀ k : Nat, ¬ k = 34 → ¬ k = 35 → e.2.2.2.1 k = s2.1 k) ∧ e.2.2.2.2 = s2.2 ∧ (∀ i : Nat, i < X % 100 → (e.2.2.2.1 34 i).toInt = (actX L nd false N i : Nat)) ∧ ∀ d' : Nat, d' < nd → (e.2.2.2.1 35 d').toInt = (gvX L nd false N d' (X % 100) : Nat)) (by
    rintro ⟨dq, wq, tq, s3⟩ k ⟨t, d, wc, g0, g1, g2, g3, g4, g5, g6, g7, g8, g9, g10, g11, g12⟩
    simp only at g3 g4 g7 g8 g9 g10 g11
    subst g4
    have h33' : s3.1 33 = s2.1 33 := g8 33 (by decide) (by decide)
    have hE3 : clsE L mo nd H s3 := clsE_s hE2 (fun k hk => g8 k (by omega) (by omega)) g9
    by_cases c1 : (s3.1 33 1) ≤ tq
    · left
      have c1' := i32_le.mp c1
      rw [h33'] at c1'
      have ht : t = X % 100 := by omega
      subst ht
      exact ⟨(dq, Int32.ofNat wc, tq, s3), by unfold B_X7_walk_31; dsimp only; rw [if_pos c1], g8, g9, g10, g11⟩
    · right
      have c1' : ¬ (s3.1 33 1).toInt ≤ tq.toInt := fun z => c1 (i32_le.mpr z)
      rw [h33'] at c1'
      have htX : t < X % 100 := by omega
      obtain ⟨p1, p2, p3, p3a, p3b, p4, p5, p6, p7⟩ := hp t g1
      have hdn := p6 htX
      obtain ⟨w, hw⟩ : ∃ w, (posX L nd false N t).2 = w := ⟨_, rfl⟩
      rw [g2] at hdn
      rw [hw] at p3 p3a
      rw [g2, hw] at p3b p4
      rw [hw] at g6
      have c2 : ¬ (48 : Int32) ≤ tq := fun z => by have := i32_le.mp z; omega
      have c3 : ¬ (s3.1 33 4) ≤ dq := fun z => by have := i32_le.mp z; have := hE3.1; omega
      obtain ⟨G, hG⟩ : ∃ x, (tq * 8) + dq = x := ⟨_, rfl⟩
      have hGv : G.toInt = (t * 8 + d : Nat) := by
        have h8 : (tq * 8).toInt = (t : Int) * 8 := by rw [i32_mulR (n := 8) rfl (by omega) (by omega), g7]
        rw [← hG, i32_add (by omega) (by omega), h8]
        omega
      obtain ⟨b1, b2, b3⟩ := hE3.2.2.2.2 d hdn
      have h6 := g6 hdn
      -- at the waited that the class keeps
      have hvw : vX L nd false (N - t) t d wc < 1000000 ∧ kX L nd false N t d wc = kX L nd false N t d w := by
        rcases h6 with ⟨z1, z2⟩ | ⟨z1, z2⟩
        · rw [z2]; exact ⟨p4, rfl⟩
        · rcases b2 with q | ⟨_, q⟩
          · omega
          · rw [z2, kX_still q p3, ← vX_stl q (N - t) t w p3]
            exact ⟨p4, rfl⟩
      have hwcm : wc ≤ mo d := by rcases h6 with ⟨z1, z2⟩ | ⟨z1, z2⟩ <;> omega
      have hwcw : wc ≤ w := by rcases h6 with ⟨z1, z2⟩ | ⟨z1, z2⟩ <;> omega
      have hgo := goesC_s (s' := s3) (hg2 t d (by omega) hdn (by omega)) (by rw [g8 37 (by decide) (by decide)]) wc (by omega) hwcm hvw.1
      obtain ⟨y, y1, y2⟩ := b3 t
      have hent := y2 wc hwcm
      have hke := kX_ent hL (ex := false) (N := N) (h := t) (d := d) (w := wc) hnd hdn hN p1 hvw.1 hent
      have hact : actX L nd false N t = if kX L nd false N t d w = 0 then 0 else 10 * kX L nd false N t d w + L d t w (kX L nd false N t d w) := by
        show (if kX L nd false N t (posX L nd false N t).1 (posX L nd false N t).2 = 0 then 0 else 10 * kX L nd false N t (posX L nd false N t).1 (posX L nd false N t).2 + L (posX L nd false N t).1 t (posX L nd false N t).2 (kX L nd false N t (posX L nd false N t).1 (posX L nd false N t).2)) = _
        rw [g2, hw]
      have hpos : posX L nd false N (t + 1) = if kX L nd false N t d w = 0 then (d, capW w) else (d + 1, 0) := by
        show (if kX L nd false N t (posX L nd false N t).1 (posX L nd false N t).2 = 0 then ((posX L nd false N t).1, capW (posX L nd false N t).2) else ((posX L nd false N t).1 + 1, 0)) = _
        rw [g2, hw]
      have hgv : ∀ d' : Nat, gvX L nd false N d' (t + 1) = gvX L nd false N d' t + (if d = d' then actX L nd false N t % 10 else 0) := by
        intro d'
        show gvX L nd false N d' t + (if (posX L nd false N t).1 = d' then actX L nd false N t % 10 else 0) = _
        rw [g2]
      obtain ⟨t1, ht1⟩ : ∃ x, tq + 1 = x := ⟨_, rfl⟩
      have ht1v : t1.toInt = ((t + 1 : Nat) : Int) := by rw [← ht1, i32_add (by omega) (by omega)]; omega
      have jt : jin tq 48 = true := jin_val g7 (by omega)
      have nt : tq.toNatClampNeg = t := nat_val g7
      have jd : jin dq 8 = true := jin_val g3 (by omega)
      have ndq : dq.toNatClampNeg = d := nat_val g3
      by_cases c4 : (((s3.1 37 (t * 8 + d)) >>> (Int32.ofNat wc &&& 31)) &&& (1 : Int32)) = 1
      · have hk := hgo.mp c4
        have hk2 : ¬ kX L nd false N t d w = 0 := by rw [← hvw.2]; exact hk
        obtain ⟨ee, he64, hee⟩ := exI_rng y (Int32.ofNat wc)
        have heN : (exI y (Int32.ofNat wc)).toInt.toNat = ee := by rw [hee, ofNat_int (by omega)]; omega
        rw [heN] at hke
        obtain ⟨k1, k2, k3, k4⟩ := hke.2 (fun z => hk (hke.1 z))
        have hLw : L d t w (kX L nd false N t d w) = ee / 8 := by
          have hkw : kX L nd false N t d w = ee % 8 := by rw [← hvw.2, k1]
          rw [← k3, hkw]
          rcases h6 with ⟨z1, z2⟩ | ⟨z1, z2⟩
          · rw [z2]
          · rcases b2 with q | ⟨_, q⟩
            · omega
            · rw [z2]
              exact q t w (ee % 8) p3 k2 (Nat.mod_lt _ (by decide))
        rw [if_neg hk2, hLw, ← hvw.2, k1] at hact
        rw [if_neg hk2] at hpos
        obtain ⟨b1e, b2e, b3e⟩ := e_bits ee he64
        have hH := hE3.2.1
        have hH24 := hE3.2.2.1
        have hsum : ((s3.1 33 11) + tq).toInt = ((H + t : Nat) : Int) := by rw [i32_add (by omega) (by omega)]; omega
        have hrest : (((s3.1 33 11) + tq) - ((s3.1 33 11) + tq) / 24 * 24).toInt = (((H + t) % 24 : Nat) : Int) := by rw [i32_rest (n := 24) rfl (by omega) (by omega), hsum]; omega
        have hy := y1 _ hrest
        obtain ⟨gI, hgI⟩ : ∃ x, Int32.ofNat ee >>> ((3 : Int32) &&& 31) = x := ⟨_, rfl⟩
        obtain ⟨kI, hkI⟩ : ∃ x, Int32.ofNat ee &&& (7 : Int32) = x := ⟨_, rfl⟩
        rw [hgI] at b2e
        rw [hkI] at b1e
        obtain ⟨aI, haI⟩ : ∃ x, 10 * kI + gI = x := ⟨_, rfl⟩
        have haIv : aI.toInt = ((10 * (ee % 8) + ee / 8 : Nat) : Int) := by
          have h10 : (10 * kI).toInt = 10 * kI.toInt := i32_mulL (n := 10) rfl (by omega) (by omega)
          rw [← haI, i32_add (by omega) (by omega), h10]
          omega
        obtain ⟨d1, hd1⟩ : ∃ x, dq + 1 = x := ⟨_, rfl⟩
        have hd1v : d1.toInt = ((d + 1 : Nat) : Int) := by rw [← hd1, i32_add (by omega) (by omega)]; omega
        refine ⟨(d1, 0, t1, upI (upI s3 35 d gI) 34 t aI), X % 100 - (t + 1), by omega, ?_, t + 1, d + 1, 0, rfl, by omega, by rw [hpos], hd1v, rfl, by omega, fun hlt => ?_, ht1v, fun k h34 h35 => ?_, ?_, fun i hi => ?_, fun d' hd' => ?_, fun d' hd' => ?_⟩
        · unfold B_X7_walk_31
          dsimp only
          rw [if_neg c1, if_neg c2, if_neg c3, hG, if_pos (jin_val hGv (by omega)), nat_val hGv, if_pos c4, if_pos jd, ndq, hy, Option.bind_some, jl_1]
          change (if jin tq 48 = true then jl (upI (upI s3 35 d (exI y (Int32.ofNat wc) >>> ((3 : Int32) &&& 31))) 34 tq.toNatClampNeg (10 * (exI y (Int32.ofNat wc) &&& (7 : Int32)) + (upI s3 35 d (exI y (Int32.ofNat wc) >>> ((3 : Int32) &&& 31))).1 35 d)) (fun s144_10 => some (Sum.inl (dq + 1, (0 : Int32), tq + 1, s144_10))) else none) = _
          rw [if_pos jt, jl_1, nt, hee, hgI, hkI, upI_1, if_pos rfl, upd_eq rfl, haI, hd1, ht1]
        · rw [hpos]
          have := (hE3.2.2.2.2 (d + 1) hlt).2.1
          rcases this with q | ⟨q, _⟩
          · exact Or.inl ⟨q, rfl⟩
          · exact Or.inr ⟨q, rfl⟩
        · show (upI (upI s3 35 d gI) 34 t aI).1 k = _
          rw [upI_1, if_neg h34, upI_1, if_neg h35]
          exact g8 k h34 h35
        · exact g9
        · show ((upI (upI s3 35 d gI) 34 t aI).1 34 i).toInt = _
          rw [upI_1, if_pos rfl, upI_1, if_neg (by decide)]
          by_cases z : i = t
          · rw [z, upd_eq rfl, haIv, hact]
          · rw [upd_ne z]
            exact g10 i (by omega)
        · show ((upI (upI s3 35 d gI) 34 t aI).1 35 d').toInt = _
          rw [upI_1, if_neg (by decide), upI_1, if_pos rfl, hgv]
          by_cases z : d = d'
          · rw [if_pos z, upd_eq z.symm, b2e, hact, g12 d' (by omega)]
            omega
          · rw [if_neg z, upd_ne (fun y => z y.symm), g11 d' hd']
            omega
        · rw [hgv, if_neg (by omega), g12 d' (by omega)]
      · have hk0 : kX L nd false N t d w = 0 := by
          rw [← hvw.2]
          by_cases z : kX L nd false N t d wc = 0
          · exact z
          · exact absurd (hgo.mpr z) c4
        rw [if_pos hk0] at hact hpos
        obtain ⟨w1, hw1⟩ : ∃ x, Int32.ofNat wc + 1 = x := ⟨_, rfl⟩
        have hwcv : (Int32.ofNat wc).toInt = wc := ofNat_int (by omega)
        have hw1v : w1.toInt = ((wc + 1 : Nat) : Int) := by rw [← hw1, i32_add (by omega) (by omega)]; omega
        obtain ⟨wn, hwn, hwn9, hwnI⟩ : ∃ wn : Nat, ((mo d = 9 ∧ wn = capW w) ∨ (mo d = 0 ∧ wn = 0)) ∧ wn ≤ 9 ∧ (if w1 < (s3.1 39 d) then w1 else (s3.1 39 d)) = Int32.ofNat wn := by
          rcases h6 with ⟨z1, z2⟩ | ⟨z1, z2⟩
          · refine ⟨capW w, Or.inl ⟨z1, rfl⟩, by unfold capW; split <;> omega, ?_⟩
            by_cases z : w1 < (s3.1 39 d)
            · have z' := i32_lt.mp z
              rw [if_pos z]
              exact i32_eq.mpr (by rw [ofNat_int (by unfold capW; split <;> omega), show capW w = w + 1 from if_neg (by omega)]; omega)
            · have z' : ¬ w1.toInt < (s3.1 39 d).toInt := fun y => z (i32_lt.mpr y)
              rw [if_neg z]
              have hc : capW w = 9 := by unfold capW; split <;> omega
              exact i32_eq.mpr (by rw [hc, b1, z1]; rfl)
          · refine ⟨0, Or.inr ⟨z1, rfl⟩, by omega, ?_⟩
            rw [if_neg (fun y => by have := i32_lt.mp y; omega)]
            exact i32_eq.mpr (by rw [b1, z1]; rfl)
        refine ⟨(dq, Int32.ofNat wn, t1, upI s3 34 t 0), X % 100 - (t + 1), by omega, ?_, t + 1, d, wn, rfl, by omega, by rw [hpos], g3, rfl, hwn9, fun _ => by rw [hpos]; exact hwn, ht1v, fun k h34 h35 => ?_, g9, fun i hi => ?_, fun d' hd' => ?_, fun d' hd' => ?_⟩
        · unfold B_X7_walk_31
          dsimp only
          rw [if_neg c1, if_neg c2, if_neg c3, hG, if_pos (jin_val hGv (by omega)), nat_val hGv, if_neg c4, if_pos jt, jl_1, if_pos jd, nt, ndq, hw1, ht1]
          show some (Sum.inl (dq, (if w1 < (s3.1 39 d) then w1 else (s3.1 39 d)), t1, upI s3 34 t 0)) = _
          rw [hwnI]
        · show (upI s3 34 t 0).1 k = _
          rw [upI_1, if_neg h34]
          exact g8 k h34 h35
        · show ((upI s3 34 t 0).1 34 i).toInt = _
          rw [upI_1, if_pos rfl]
          by_cases z : i = t
          · rw [z, upd_eq rfl, hact]
            rfl
          · rw [upd_ne z]
            exact g10 i (by omega)
        · show ((upI s3 34 t 0).1 35 d').toInt = _
          rw [upI_1, if_neg (by decide), hgv, hact, g11 d' hd']
          split <;> rfl
        · rw [hgv, hact, g12 d' hd']
          split <;> rfl) (X % 100) n (0, 0, 0, s2) (by omega) ⟨0, 0, 0, by omega, Nat.zero_le _, rfl, l0, rfl, by omega, fun hlt => by
          have := (hE2.2.2.2.2 0 hlt).2.1
          rcases this with q | ⟨q, _⟩
          · exact Or.inl ⟨q, rfl⟩
          · exact Or.inr ⟨q, rfl⟩, l0, fun _ _ _ => rfl, rfl, fun i hi => absurd hi (Nat.not_lt_zero i), fun d' hd' => by show (s2.1 35 d').toInt = 0; rw [f4 d' (by omega)]; rfl, fun d' _ => rfl⟩
  have q33 := q1 33 (by decide) (by decide)
  refine ⟨e.2.2.2, ?_, ⟨fun k hk => ?_, fun j j1 j2 => ?_, by rw [q2, f3]; rfl⟩, clsE_s hE2 (fun k hk => q1 k (by omega) (by omega)) q2, ?_, ?_, ?_, ?_⟩
  · unfold F_X7_walk
    rw [jl_1, jl_1, hx6, hx63, f1, Option.bind_some, he, Option.bind_some]
  · rw [q1 k (by omega) (by omega), f2 k (by omega), upI_1, if_neg (by omega), upI_1, if_neg (by omega)]
  · rw [q33, h33, upd_ne (by omega), upd_ne (by omega)]
  · rw [hX, q33]; exact hgf
  · rw [hX, q33]; exact hhr
  · rw [hX]; exact q3
  · rw [hX]; exact q4
end
