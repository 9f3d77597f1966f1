section
variable {nd n : Nat} {EO : jEO} {c m c1 : jS}
/-- all doors for one guest -/
theorem start44 (hn : 400000 ≤ n) (hI : Inv nd jText (LOw nd n) EO c m) (hc : atC c c1) {ch : Bool} {g : Nat} (hg : (g : Int) < (c.1 18 8).toInt) {s : jS} (hs : trC n nd c m c1 s) :
    ∃ e, lp (B_X0_startTrial_44 nd n ch (Int32.ofNat g)) n (0, s) = some e ∧ trC n nd c m c1 e.2 ∧ kpM s e.2 ∧ ∀ d r : Nat, d < nd → freeB (m.1 1) (c.1 23 (4 * g + 1)) d = false → (r : Int) < (c.1 18 7).toInt → (ch = true ∨ (c.1 21 d).toInt = r) → lrnT nd (c.1 23) e.2 g d r := by
  have l0 : (0 : Int32).toInt = 0 := rfl
  have l1 : (1 : Int32).toInt = 1 := rfl
  obtain ⟨hnd1, hnd⟩ := I_nd hI
  have h4 := (I_asks hI).2.1
  have hcnt := (guests_is hI).2.1
  have hgI : (Int32.ofNat g).toInt = g := ofNat_int (by omega)
  have h51 : c.1 51 1 = Int32.ofNat nd := hI.1.1.2.2.2.2.1
  have hg4 : (Int32.ofNat g * 4).toInt = ((4 * g : Nat) : Int) := by rw [i32_mulR (n := 4) rfl (by omega) (by omega), hgI]; omega
  have hg41 : ((Int32.ofNat g * 4) + 1).toInt = ((4 * g + 1 : Nat) : Int) := by rw [i32_add (by omega) (by omega)]; omega
  obtain ⟨e, he, q1, q2, q3⟩ := lp_rule (body := B_X0_startTrial_44 nd n ch (Int32.ofNat g))
    (I := fun q k => ∃ j : Nat, k = nd - j ∧ j ≤ nd ∧ q.1 = Int32.ofNat j ∧ trC n nd c m c1 q.2 ∧ kpM s q.2 ∧ ∀ d r : Nat, d < j → freeB (m.1 1) (c.1 23 (4 * g + 1)) d = false → (r : Int) < (c.1 18 7).toInt → (ch = true ∨ (c.1 21 d).toInt = r) → lrnT nd (c.1 23) q.2 g d r)
    (Q := fun e => trC n nd c m c1 e.2 ∧ kpM s e.2 ∧ ∀ d r : Nat, d < nd → freeB (m.1 1) (c.1 23 (4 * g + 1)) d = false → (r : Int) < (c.1 18 7).toInt → (ch = true ∨ (c.1 21 d).toInt = r) → lrnT nd (c.1 23) e.2 g d r) (by
    rintro ⟨jI, s1⟩ k ⟨j, g0, g1, g2, g3, g4, g5⟩
    simp only at g2 g3 g4 g5
    subst g2
    have hjI : (Int32.ofNat j).toInt = j := ofNat_int (by omega)
    obtain ⟨t1, t2, t3, t4, t5, t6, t7, t8⟩ := tr_rows hc g3
    have hndI : (Int32.ofNat nd).toInt = nd := ofNat_int (by omega)
    by_cases c1' : (s1.1 51 1) ≤ Int32.ofNat j
    · left
      have c1'' := i32_le.mp c1'
      rw [t7, h51] at c1''
      have : j = nd := by omega
      subst this
      exact ⟨(Int32.ofNat j, s1), by unfold B_X0_startTrial_44; dsimp only; rw [if_pos c1'], g3, g4, g5⟩
    · right
      have c1'' : ¬ (s1.1 51 1).toInt ≤ (Int32.ofNat j).toInt := fun z => c1' (i32_le.mpr z)
      rw [t7, h51] at c1''
      have hj : j < nd := by omega
      have jj : jin (Int32.ofNat j) 8 = true := jin_val hjI (by omega)
      have nj : (Int32.ofNat j).toNatClampNeg = j := nat_val hjI
      have hnext : Int32.ofNat j + 1 = Int32.ofNat (j + 1) := i32_eq.mpr (by rw [i32_add (by omega) (by omega), ofNat_int (by omega), ofNat_int (by omega)]; omega)
      have hf := free_is hI (c.1 23 (4 * g + 1)) hj
      have hstep : ∀ sh : Bool, (freeB (m.1 1) (c.1 23 (4 * g + 1)) j = false → sh = true) → B_X0_startTrial_44 nd n ch (Int32.ofNat g) (Int32.ofNat j, s1) = ((lp (B_X0_startTrial_94 nd n ch (Int32.ofNat g) (Int32.ofNat j) sh) n (0, s1)).bind fun e94 => some (.inl ((Int32.ofNat j + 1), e94.2))) → ∃ (v' : Int32 × jS) (k' : Nat), k' < k ∧ B_X0_startTrial_44 nd n ch (Int32.ofNat g) (Int32.ofNat j, s1) = some (.inl v') ∧ ∃ j : Nat, k' = nd - j ∧ j ≤ nd ∧ v'.1 = Int32.ofNat j ∧ trC n nd c m c1 v'.2 ∧ kpM s v'.2 ∧ ∀ d r : Nat, d < j → freeB (m.1 1) (c.1 23 (4 * g + 1)) d = false → (r : Int) < (c.1 18 7).toInt → (ch = true ∨ (c.1 21 d).toInt = r) → lrnT nd (c.1 23) v'.2 g d r := by
        intro sh hsh hb
        obtain ⟨e, r1, r2, r3, r4⟩ := start94 hn hI hc (ch := ch) (sh := sh) hg hj g3
        refine ⟨(Int32.ofNat (j + 1), e.2), nd - (j + 1), by omega, by rw [hb, r1, Option.bind_some, hnext], j + 1, rfl, by omega, rfl, r2, kpM_tr g4 r3, fun d r hd hfd hr hch => ?_⟩
        by_cases z : d = j
        · subst z
          exact r4 (hsh hfd) r hr hch
        · exact lrn_k (by omega) r3 (g5 d r (by omega) hfd hr hch)
      by_cases z1 : jz (c.1 22 j) = true
      · refine hstep false (fun hfd => ?_) ?_
        · rw [hf.mpr (Or.inl z1)] at hfd
          cases hfd
        · unfold B_X0_startTrial_44
          dsimp only
          rw [if_neg c1', if_pos jj, nj, t4, if_pos z1]
      · by_cases z2 : F_X8_hasKey (c.1 23 (4 * g + 1)) (Int32.ofNat j) = true
        · refine hstep false (fun hfd => ?_) ?_
          · rw [hf.mpr (Or.inr z2)] at hfd
            cases hfd
          · unfold B_X0_startTrial_44
            dsimp only
            rw [if_neg c1', if_pos jj, nj, t4, if_neg z1, if_pos (jin_val hg41 (by omega)), nat_val hg41, t5, if_pos z2]
        · refine hstep true (fun _ => rfl) ?_
          unfold B_X0_startTrial_44
          dsimp only
          rw [if_neg c1', if_pos jj, nj, t4, if_neg z1, if_pos (jin_val hg41 (by omega)), nat_val hg41, t5, if_neg z2]) nd n (0, s) (by omega) ⟨0, rfl, by omega, rfl, hs, kpM_rfl, fun d r hd => absurd hd (Nat.not_lt_zero d)⟩
  exact ⟨e, he, q1, q2, q3⟩
/-- the trial begun -/
theorem startTrial_is (hn : 400000 ≤ n) (hI : Inv nd jText (LOw nd n) EO c m) (ch : Bool) :
    ∃ c1 s', F_X0_startTrial nd n ch c = some s' ∧ atC c c1 ∧ c1.1 51 = upd (c.1 51) 7 (jb false) ∧ trC n nd c m c1 s' ∧ ∀ g d r : Nat, (g : Int) < (c.1 18 8).toInt → d < nd → freeB (m.1 1) (c.1 23 (4 * g + 1)) d = false → (r : Int) < (c.1 18 7).toInt → (ch = true ∨ (c.1 21 d).toInt = r) → lrnT nd (c.1 23) s' g d r := by
  have l0 : (0 : Int32).toInt = 0 := rfl
  have l1 : (1 : Int32).toInt = 1 := rfl
  have l6 : (6 : Int32).toInt = 6 := rfl
  obtain ⟨hnd1, hnd⟩ := I_nd hI
  have h4 := (I_asks hI).2.1
  have hcnt := (guests_is hI).2.1
  obtain ⟨c1, hc1⟩ : ∃ x, upR (upI c 51 7 (jb false)) 52 (va_cpy (c.1 21) (c.1 52) 0 0 8) = x := ⟨_, rfl⟩
  have hat : atC c c1 := by
    refine ⟨fun k a1 a2 => ?_, ?_, ?_, fun d hd => ?_⟩
    · rw [← hc1, upR_1, if_neg a2, upI_1, if_neg a1]
    · rw [← hc1, upR_1, if_neg (by decide), upI_1, if_pos rfl, upd_ne (by decide)]
    · rw [← hc1]; rfl
    · rw [← hc1, upR_1, if_pos rfl]
      exact cpy_sam d (Nat.zero_le _) hd
  have h51 : c1.1 51 = upd (c.1 51) 7 (jb false) := by rw [← hc1, upR_1, if_neg (by decide), upI_1, if_pos rfl]
  have htr : trC n nd c m c1 c1 := by
    refine ⟨kpM_rfl, ?_⟩
    rw [hat.1 29 (by decide) (by decide), hat.2.2.1]
    rcases I_tab hI with q | q
    · exact Or.inl q
    · exact Or.inr (tab_s q h4 (fun r hr => hat.1 _ (by omega) (by omega)))
  obtain ⟨e, he, q1, q2⟩ := lp_rule (body := B_X0_startTrial_25 nd n ch)
    (I := fun q k => ∃ i : Nat, k = 6 - i ∧ (i : Int) ≤ (c.1 18 8).toInt ∧ q.1 = Int32.ofNat i ∧ trC n nd c m c1 q.2 ∧ ∀ g d r : Nat, g < i → d < nd → freeB (m.1 1) (c.1 23 (4 * g + 1)) d = false → (r : Int) < (c.1 18 7).toInt → (ch = true ∨ (c.1 21 d).toInt = r) → lrnT nd (c.1 23) q.2 g d r)
    (Q := fun e => trC n nd c m c1 e.2 ∧ ∀ g d r : Nat, (g : Int) < (c.1 18 8).toInt → d < nd → freeB (m.1 1) (c.1 23 (4 * g + 1)) d = false → (r : Int) < (c.1 18 7).toInt → (ch = true ∨ (c.1 21 d).toInt = r) → lrnT nd (c.1 23) e.2 g d r) (by
    rintro ⟨iI, s1⟩ k ⟨i, g0, g1, g2, g3, g5⟩
    simp only at g2 g3 g5
    subst g2
    have hiI : (Int32.ofNat i).toInt = i := ofNat_int (by omega)
    obtain ⟨t1, t2, t3, t4, t5, t6, t7, t8⟩ := tr_rows hat g3
    by_cases c1' : (s1.1 18 8) ≤ Int32.ofNat i
    · left
      have c1'' := i32_le.mp c1'
      rw [t1] at c1''
      exact ⟨(Int32.ofNat i, s1), by unfold B_X0_startTrial_25; dsimp only; rw [if_pos c1'], g3, fun g d r hg => g5 g d r (by omega)⟩
    · right
      have c1'' : ¬ (s1.1 18 8).toInt ≤ (Int32.ofNat i).toInt := fun z => c1' (i32_le.mpr z)
      rw [t1] at c1''
      have hnext : Int32.ofNat i + 1 = Int32.ofNat (i + 1) := i32_eq.mpr (by rw [i32_add (by omega) (by omega), ofNat_int (by omega), ofNat_int (by omega)]; omega)
      obtain ⟨e, r1, r2, r3, r4⟩ := start44 hn hI hat (ch := ch) (g := i) (by omega) g3
      refine ⟨(Int32.ofNat (i + 1), e.2), 6 - (i + 1), by omega, ?_, i + 1, rfl, by omega, rfl, r2, fun g d r hg hd hfd hr hch => ?_⟩
      · unfold B_X0_startTrial_25
        dsimp only
        rw [if_neg c1', if_neg (fun z => by have := i32_le.mp z; omega), r1, Option.bind_some, hnext]
      · by_cases z : g = i
        · subst z
          exact r4 d r hd hfd hr hch
        · exact lrn_k (by omega) r3 (g5 g d r (by omega) hd hfd hr hch)) 6 n (0, c1) (by omega) ⟨0, rfl, by omega, rfl, htr, fun g d r hg => absurd hg (Nat.not_lt_zero g)⟩
  refine ⟨c1, e.2, ?_, hat, h51, q1, q2⟩
  unfold F_X0_startTrial
  rw [jl_1, jl_1]
  change (lp (B_X0_startTrial_25 nd n ch) n (0, upR (upI c 51 7 (jb false)) 52 (va_cpy (c.1 21) (c.1 52) 0 0 8))).bind (fun e25 => some e25.2) = _
  rw [hc1, he, Option.bind_some]
end
