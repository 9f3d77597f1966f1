theorem aff_low {L : Nat → Nat → Nat → Nat → Nat} (hL : ∀ d h w k : Nat, L d h w k ≤ 6) {nd M P : Nat} (hnd : nd ≤ 8) (hM : M ≤ 48) (h : aff L nd false M P) : nd ≤ M := by
  have := vX_fin hL (ex := false) M 0 0 0 hM (Nat.zero_le _) hnd h.1
  omega
theorem aff_up {L : Nat → Nat → Nat → Nat → Nat} {nd r r' P : Nat} (hr : r ≤ r') (h : aff L nd false r P) : aff L nd false r' P := by
  have := vX_mono (L := L) (D := nd) hr 0 0 0
  obtain ⟨a, b⟩ := h
  refine ⟨by omega, Nat.le_trans (Nat.div_le_div_right this) b⟩
/-- the class's fewest hours -/
theorem findSoonest_is {n : Nat} (hn : 400000 ≤ n) {s m : jS} {nd l H N P : Nat} {v2 v3 v4 v5 v6 : Int32} {free : Nat → Bool} {ρ : Nat → Int32} (hr : rdy n s m nd l free ρ 21) (e2 : v2.toInt = l) (e4 : v4.toInt = H) (hH : H < 24) (e5 : v5.toInt = N) (hN1 : 1 ≤ N) (hN : N ≤ 48) (e6 : v6.toInt = P) (hP : P ≤ 99) (hf : ∀ d : Nat, d < nd → (free d = true ↔ (jz (s.1 22 d) = true ∨ F_X8_hasKey v3 (Int32.ofNat d) = true))) :
    ∃ b s', F_X7_findSoonest_21 nd n v2 v3 v4 v5 v6 s = some (b, s') ∧ wyM s s' ∧ ((b = true ∧ ∃ M : Nat, 1 ≤ M ∧ M ≤ N ∧ aff (sL (opV n (s.1 19) (s.1 20) (m.1 3)) free ρ l H) nd false M P ∧ (∀ r : Nat, r < M → ¬ aff (sL (opV n (s.1 19) (s.1 20) (m.1 3)) free ρ l H) nd false r P) ∧ toldC (sL (opV n (s.1 19) (s.1 20) (m.1 3)) free ρ l H) nd M s') ∨ (b = false ∧ ¬ aff (sL (opV n (s.1 19) (s.1 20) (m.1 3)) free ρ l H) nd false N P)) := by
  have l1 : (1 : Int32).toInt = 1 := rfl
  have l0 : (0 : Int32).toInt = 0 := rfl
  have l48 : (48 : Int32).toInt = 48 := rfl
  obtain ⟨b, s1, p1, p2, p3⟩ := findCheapest21_is hn hr e2 e4 hH e5 hN1 hN e6 hP hf
  obtain ⟨_, ⟨hnd1, hnd⟩, _, h33, _⟩ := hr
  have hndI : (Int32.ofNat nd).toInt = nd := ofNat_int (by omega)
  obtain ⟨L, hLe⟩ : ∃ L, sL (opV n (s.1 19) (s.1 20) (m.1 3)) free ρ l H = L := ⟨_, rfl⟩
  have hL : ∀ d h w k : Nat, L d h w k ≤ 6 := by rw [← hLe]; exact sL_le
  rw [hLe] at p3 ⊢
  rcases p3 with ⟨hb, hA, ⟨mo, hE⟩, hT⟩ | ⟨hb, hA⟩
  · subst hb
    have hlow := aff_low hL hnd hN hA
    have h334 : s1.1 33 4 = Int32.ofNat nd := by rw [p2.2.1 4 (by decide) (by decide)]; exact h33
    obtain ⟨e, he, M, q1, q2, q3, q4, q5, q6, q7⟩ := lp_rule (body := B_X7_findSoonest_21_31 nd n v6)
      (I := fun q k => ∃ lo hi i : Nat, k = 48 - i ∧ 1 ≤ lo ∧ lo ≤ hi ∧ hi ≤ N ∧ i + (hi - lo) ≤ 47 ∧ q.1.toInt = lo ∧ q.2.1.toInt = hi ∧ q.2.2.1.toInt = i ∧ aff L nd false hi P ∧ (∀ r : Nat, r < lo → ¬ aff L nd false r P) ∧ clsE L mo nd H q.2.2.2 ∧ wyM s q.2.2.2)
      (Q := fun e => ∃ M : Nat, 1 ≤ M ∧ M ≤ N ∧ e.2.1.toInt = M ∧ aff L nd false M P ∧ (∀ r : Nat, r < M → ¬ aff L nd false r P) ∧ clsE L mo nd H e.2.2.2 ∧ wyM s e.2.2.2) (by
      rintro ⟨loI, hiI, iI, s2⟩ k ⟨lo, hi, i, g0, g1, g2, g3, g4, g5, g6, g7, g8, g9, g10, g11⟩
      simp only at g5 g6 g7 g10 g11
      have c1 : ¬ (48 : Int32) ≤ iI := fun z => by have := i32_le.mp z; omega
      by_cases c2 : hiI ≤ loI
      · left
        have c2' := i32_le.mp c2
        have : lo = hi := by omega
        subst this
        exact ⟨(loI, hiI, iI, s2), by unfold B_X7_findSoonest_21_31; dsimp only; rw [if_neg c1, if_pos c2], lo, g1, g3, g6, g8, g9, g10, g11⟩
      · right
        have c2' : ¬ hiI.toInt ≤ loI.toInt := fun z => c2 (i32_le.mpr z)
        have hsum : (loI + hiI).toInt = ((lo + hi : Nat) : Int) := by rw [i32_add (by omega) (by omega)]; omega
        have hmid : ((loI + hiI) / 2).toInt = (((lo + hi) / 2 : Nat) : Int) := by rw [i32_div (n := 2) rfl (by omega) (by omega), hsum]; omega
        obtain ⟨md, hmd⟩ : ∃ x, (loI + hiI) / 2 = x := ⟨_, rfl⟩
        rw [hmd] at hmid
        obtain ⟨md1, hmd1⟩ : ∃ x, md + 1 = x := ⟨_, rfl⟩
        have hmd1v : md1.toInt = (((lo + hi) / 2 + 1 : Nat) : Int) := by rw [← hmd1, i32_add (by omega) (by omega)]; omega
        obtain ⟨i1, hi1⟩ : ∃ x, iI + 1 = x := ⟨_, rfl⟩
        have hi1v : i1.toInt = ((i + 1 : Nat) : Int) := by rw [← hi1, i32_add (by omega) (by omega)]; omega
        obtain ⟨x, s3, r1, r2, r3, r4⟩ := cheapest_is hn hL (v1 := md) (N := (lo + hi) / 2) hmid (by omega) (by omega) hnd1 g10
        obtain ⟨k1, k2, k3, k4⟩ := cost_is hL hnd (by omega) r3 e6 hP
        have hw3 := wyM_tr g11 (wyM_c r2)
        have hE3 := clsE_c g10 r2
        by_cases hm : aff L nd false ((lo + hi) / 2) P
        · refine ⟨(loI, md, i1, s3), 48 - (i + 1), by omega, ?_, lo, (lo + hi) / 2, i + 1, rfl, g1, by omega, by omega, by omega, g5, hmid, hi1v, hm, g9, hE3, hw3⟩
          unfold B_X7_findSoonest_21_31
          dsimp only
          rw [if_neg c1, if_neg c2, hmd, r1, Option.bind_some, if_neg (k1 hm).2, hi1]
        · refine ⟨(md1, hiI, i1, s3), 48 - (i + 1), by omega, ?_, (lo + hi) / 2 + 1, hi, i + 1, rfl, by omega, by omega, g3, by omega, hmd1v, g6, hi1v, g8, fun r hr' => ?_, hE3, hw3⟩
          · unfold B_X7_findSoonest_21_31
            dsimp only
            rw [if_neg c1, if_neg c2, hmd, r1, Option.bind_some, if_pos (k2 hm), hmd1, hi1]
          · exact fun z => hm (aff_up (by omega) z)) 48 n ((s1.1 33 4), v5, 0, s1) (by omega) ⟨nd, N, 0, rfl, hnd1, hlow, Nat.le_refl _, by omega, by show (s1.1 33 4).toInt = nd; rw [h334]; exact hndI, e5, l0, hA, fun r hr' z => by have := aff_low hL hnd (by omega) z; omega, hE, p2⟩
    obtain ⟨x, s3, r1, r2, r3, r4⟩ := cheapest_is hn hL q3 q1 (by omega) hnd1 q6
    obtain ⟨s4, w1, w2, w3, w4⟩ := walk_is hn hL r3 (by omega) (clsE_c q6 r2) q4.1 r4
    refine ⟨true, s4, ?_, wyM_tr (wyM_tr q7 (wyM_c r2)) w2, Or.inl ⟨rfl, M, q1, q2, q4, q5, w4⟩⟩
    unfold F_X7_findSoonest_21
    rw [p1, Option.bind_some, if_pos rfl, he, Option.bind_some, r1, Option.bind_some, w1, Option.bind_some]
  · subst hb
    refine ⟨false, s1, ?_, p2, Or.inr ⟨rfl, hA⟩⟩
    unfold F_X7_findSoonest_21
    rw [p1, Option.bind_some, if_neg (fun z => by cases z)]
/-- the least hours of either table -/
theorem least_same {L : Nat → Nat → Nat → Nat → Nat} (hL : ∀ d h w k : Nat, L d h w k ≤ 6) {nd M P : Nat} (hnd1 : 1 ≤ nd) (hnd : nd ≤ 8) (hM : M ≤ 48) (h : aff L nd false M P) (hl : ∀ r : Nat, r < M → ¬ aff L nd false r P) : vX L nd false M 0 0 0 % 100 = M ∧ vX L nd true M 0 0 0 = vX L nd false M 0 0 0 := by
  have hf := vX_fin hL (ex := false) M 0 0 0 hM (Nat.zero_le _) hnd h.1
  have hT : vX L nd false M 0 0 0 % 100 = M := by
    by_cases z : vX L nd false M 0 0 0 % 100 = M
    · exact z
    · exfalso
      obtain ⟨r, hr⟩ : ∃ r, M = r + 1 := ⟨M - 1, by omega⟩
      subst hr
      have hs := vX_less hL r 0 0 0 hM (Nat.zero_le _) hnd h.1 (by omega)
      exact hl r (Nat.lt_succ_self r) ⟨by rw [hs]; exact h.1, by rw [hs]; exact h.2⟩
  exact ⟨hT, vX_same hL M 0 0 0 hM (Nat.zero_le _) hnd h.1 hT⟩
theorem aff_exact {L : Nat → Nat → Nat → Nat → Nat} {nd M P : Nat} (h : aff L nd true M P) : aff L nd false M P := by
  have := vX_le (L := L) (D := nd) M 0 0 0
  exact ⟨Nat.lt_of_le_of_lt this h.1, Nat.le_trans (Nat.div_le_div_right this) h.2⟩
