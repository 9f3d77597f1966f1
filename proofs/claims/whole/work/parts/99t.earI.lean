theorem even_ok {nd n : Nat} {EO : jEO} (hn : 400000 ≤ n) : ok_even nd n (Inv nd jText (LOw nd n) EO) := by
  intro c m hI
  have l0 : (0 : Int32).toInt = 0 := rfl
  have l1 : (1 : Int32).toInt = 1 := rfl
  obtain ⟨hnd1, hnd⟩ := I_nd hI
  have hndI : (Int32.ofNat nd).toInt = nd := ofNat_int (by omega)
  obtain ⟨c1, s, p1, p2, p3, p4, p5⟩ := startTrial_is hn hI true
  obtain ⟨t1, t2⟩ := ts_of hI p2 p4 p5
  obtain ⟨m1, k1, k2, k3⟩ := begin_is hn hI
  have hrr : inR (c.1 18 7) (c.1 21) := fun d hd => (rule_is hI hd).2
  have htold := I_told hI
  have h51 : c.1 51 1 = Int32.ofNat nd := hI.1.1.2.2.2.2.1
  obtain ⟨e, f, he, hf, r, s', m', q1, q2, q3⟩ := lp_rule2 (body := B_X0_firstUneven_7 nd n) (body' := B_X9_even_6 n)
    (I := fun x y k => ∃ j : Nat, k = nd - j ∧ j ≤ nd ∧ x.1 = Int32.ofNat j ∧ y.1 = Int32.ofNat j ∧ bkM s x.2 ∧ (∀ d : Nat, d < 8 → x.2.1 52 d = c.1 21 d) ∧ wkM m y.2 ∧ gsR n (opV n (c.1 19) (c.1 20) (m.1 3)) (c.1 18 7) nd (m.1 1) (m.1 3) (c.1 23) (c.1 18 8).toInt.toNat (c.1 21) y.2)
    (Q := fun e f => ∃ (r : Int32) (s' m' : jS), bkM s s' ∧ wkM m m' ∧ ((∃ i i', e = .inl (i, s') ∧ f = .inl (i', m') ∧ r = -1) ∨ (e = .inr (r, s') ∧ f = .inr (r, m')))) (by
    rintro ⟨jI, s1⟩ ⟨jI', m2⟩ k ⟨j, g0, g1, g2, g3, g4, g5, g6, g7⟩
    simp only at g2 g3 g4 g5 g6 g7
    subst g2 g3
    have hjI : (Int32.ofNat j).toInt = j := ofNat_int (by omega)
    have ts1 := ts_b hI t1 g4
    have f51 : s1.1 51 1 = Int32.ofNat nd := by rw [ts1.1.2.2.2]; exact h51
    have f02 : m2.1 0 2 = Int32.ofNat nd := g7.2.2.2.1
    by_cases hj : j = nd
    · left
      subst hj
      refine ⟨.inl (Int32.ofNat j, s1), .inl (Int32.ofNat j, m2), ?_, ?_, -1, s1, m2, g4, g6, Or.inl ⟨_, _, rfl, rfl, rfl⟩⟩
      · unfold B_X0_firstUneven_7
        dsimp only
        rw [f51, if_pos (i32_le.mpr (Int.le_refl _))]
      · unfold B_X9_even_6
        dsimp only
        rw [f02, if_pos (i32_le.mpr (Int.le_refl _))]
    · have hlt : j < nd := by omega
      have hnl : ¬ (Int32.ofNat nd) ≤ Int32.ofNat j := fun z => by have := i32_le.mp z; omega
      have jj : jin (Int32.ofNat j) 8 = true := jin_val hjI (by omega)
      have nj : (Int32.ofNat j).toNatClampNeg = j := nat_val hjI
      have hnext : Int32.ofNat j + 1 = Int32.ofNat (j + 1) := i32_eq.mpr (by rw [i32_add (by omega) (by omega), ofNat_int (by omega), ofNat_int (by omega)]; omega)
      obtain ⟨s2, r1, r2, r3⟩ := bestC_is hn hI (W := fun d r => true = true ∨ (c.1 21 d).toInt = r) (fun _ _ => Or.inl rfl) ts1 g5 hrr hjI hlt
      obtain ⟨m3, w1, w2, w3⟩ := bestM_is hn hnd g7 htold.1.symm htold.2.1 hjI hlt
      obtain ⟨b, hb⟩ : ∃ b, bestF (eE (opV n (c.1 19) (c.1 20) (m.1 3)) (m.1 1) (c.1 23) nd (c.1 18 8).toInt.toNat) (c.1 18 7).toInt.toNat (c.1 21) j = b := ⟨_, rfl⟩
      rw [hb] at r1 w1
      have f10 : m3.1 10 j = c.1 21 j := (w3.2.2.2.2.2.2.2.2.1 j (by omega)).1
      have hC : B_X0_firstUneven_7 nd n (Int32.ofNat j, s1) = (if b = c.1 21 j then some (.inl (Int32.ofNat (j + 1), s2)) else some (.inr (.inr (Int32.ofNat j, s2)))) := by
        unfold B_X0_firstUneven_7
        dsimp only
        rw [f51, if_neg hnl, r1, Option.bind_some, if_pos jj, nj, r3 j (by omega), hnext]
      have hM : B_X9_even_6 n (Int32.ofNat j, m2) = (if b = c.1 21 j then some (.inl (Int32.ofNat (j + 1), m3)) else some (.inr (.inr (Int32.ofNat j, m3)))) := by
        unfold B_X9_even_6
        dsimp only
        rw [f02, if_neg hnl, w1, Option.bind_some, if_pos jj, nj, f10, hnext]
      by_cases z : b = c.1 21 j
      · right
        exact ⟨(Int32.ofNat (j + 1), s2), (Int32.ofNat (j + 1), m3), nd - (j + 1), by omega, by rw [hC, if_pos z], by rw [hM, if_pos z], j + 1, rfl, by omega, rfl, rfl, bkM_tr g4 r2, r3, wkM_tr g6 w2, w3⟩
      · left
        exact ⟨.inr (Int32.ofNat j, s2), .inr (Int32.ofNat j, m3), by rw [hC, if_neg z], by rw [hM, if_neg z], Int32.ofNat j, s2, m3, bkM_tr g4 r2, wkM_tr g6 w2, Or.inr ⟨rfl, rfl⟩⟩) nd n (0, s) (0, m1) (by omega) ⟨0, rfl, by omega, rfl, rfl, bkM_rfl, t2, k2, k3⟩
  have ts' := ts_b hI t1 q1
  have hInv : Inv nd jText (LOw nd n) EO s' m' := by
    refine Inv_wk hI ts'.1 q2 (ts_L hI ts') ?_
    rw [q1.1 51 (by decide) (by decide), p4.1.1.1 51 (by decide) (by decide) (by decide), p3]
    exact rEarn_f
  have hCs : F_X8_even nd n c = Sum.elim (fun e7 : Int32 × jS => some (((-1) : Int32), e7.2)) (fun r7 => some r7) e := by
    unfold F_X8_even F_X0_firstUneven
    rw [p1, Option.bind_some, he, Option.bind_some]
    cases e <;> rfl
  have hMs : F_X9_even n m = Sum.elim (fun e7 : Int32 × jS => some (((-1) : Int32), e7.2)) (fun r7 => some r7) f := by
    unfold F_X9_even
    rw [k1, Option.bind_some, hf, Option.bind_some]
  rcases q3 with ⟨i, i', h1, h2, h3⟩ | ⟨h1, h2⟩
  · subst h1 h2 h3
    exact ⟨-1, s', m', by rw [hCs]; rfl, by rw [hMs]; rfl, hInv⟩
  · subst h1 h2
    exact ⟨r, s', m', by rw [hCs]; rfl, by rw [hMs]; rfl, hInv⟩
