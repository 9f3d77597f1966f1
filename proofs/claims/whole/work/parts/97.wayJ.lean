/-- what a knock costs -/
def kcC (L : Nat → Nat → Nat → Nat → Nat) (nd N t d e : Nat) : Nat := if e % 8 = 0 then 1048576 else if 1048576 ≤ convY (t + 1) (vX L nd false (N - (t + 1)) (t + 1) (d + 1) 0) then 1048576 else convY (t + 1) (vX L nd false (N - (t + 1)) (t + 1) (d + 1) 0) + 64 * (e / 8)
theorem choose_is {n : Nat} (hn : 400000 ≤ n) {L : Nat → Nat → Nat → Nat → Nat} (hL : ∀ d h w k : Nat, L d h w k ≤ 6) {mo : Nat → Nat} {nd N : Nat} {s : jS} {v1 v2 : Int32} {y : Int64} {t d : Nat} (e1 : v1.toInt = t) (e2 : v2.toInt = d) (hnd : nd ≤ 8) (hd : d < nd) (hdt : d ≤ t) (ht : t < N) (hN : N ≤ 48) (hm : (s.1 39 d).toInt = mo d) (hmo : mo d = 9 ∨ (mo d = 0 ∧ stl L d)) (hy : ∀ w : Nat, w ≤ mo d → entP (L d t w) (exI y (Int32.ofNat w)).toInt.toNat) (hnx : layC L mo nd N s (t + 1)) :
    ∃ s', F_X7_choose n v1 v2 y s = some s' ∧ clM s s' ∧ (∀ w : Nat, d + w ≤ t → w ≤ mo d → cllC L nd N s' t d w) ∧ (∀ j : Nat, (j < t % 2 * 90 + d * 10 ∨ t % 2 * 90 + d * 10 + 10 ≤ j) → s'.1 36 j = s.1 36 j) ∧ (∀ j : Nat, ¬ j = t * 8 + d → s'.1 37 j = s.1 37 j) ∧ goesC L mo nd N s' t d := by
  have l1 : (1 : Int32).toInt = 1 := rfl
  have l10 : (10 : Int32).toInt = 10 := rfl
  have lV : (1048576 : Int32).toInt = 1048576 := rfl
  have hmo9 : mo d ≤ 9 := by rcases hmo with q | ⟨q, _⟩ <;> omega
  obtain ⟨B, hB, hBv⟩ := base_i32 e1 e2 (by omega) (by omega)
  have ht1 : (v1 + 1).toInt = ((t + 1 : Nat) : Int) := by rw [i32_add (by omega) (by omega)]; omega
  obtain ⟨A, hA, hAv⟩ := base_i32 ht1 e2 (by omega) (by omega)
  have hAten : (A + 10).toInt = ((t + 1) % 2 * 90 + d * 10 + 10 : Nat) := by rw [i32_add (by omega) (by omega)]; omega
  obtain ⟨At, hAt⟩ : ∃ x, A + 10 = x := ⟨_, rfl⟩
  rw [hAt] at hAten
  have jAt : jin At 180 = true := jin_val hAten (by omega)
  have nAt : At.toNatClampNeg = (t + 1) % 2 * 90 + d * 10 + 10 := nat_val hAten
  have hbh : (s.1 36 At.toNatClampNeg).toInt = (convY (t + 1) (vX L nd false (N - (t + 1)) (t + 1) (d + 1) 0) : Nat) := by
    have hc : cllC L nd N s (t + 1) (d + 1) 0 := by
      apply hnx
      by_cases z : d + 1 = nd
      · exact Or.inl ⟨z, rfl⟩
      · exact Or.inr ⟨by omega, by omega, Nat.zero_le _⟩
    unfold cllC at hc
    rw [nAt, ← hc, show (t + 1) % 2 * 90 + (d + 1) * 10 + 0 = (t + 1) % 2 * 90 + d * 10 + 10 from by omega]
  obtain ⟨bh, hbhe⟩ : ∃ x, s.1 36 At.toNatClampNeg = x := ⟨_, rfl⟩
  rw [hbhe] at hbh
  have jv2 : jin v2 8 = true := jin_val e2 (by omega)
  have nv2 : v2.toNatClampNeg = d := nat_val e2
  obtain ⟨mI, hmI⟩ : ∃ x, s.1 39 d = x := ⟨_, rfl⟩
  rw [hmI] at hm
  obtain ⟨P, hP⟩ : ∃ P : Nat → Prop, P = fun w => ¬ convY (t + 1) (vX L nd false (N - (t + 1)) (t + 1) d (capW w)) ≤ kcC L nd N t d (exI y (Int32.ofNat w)).toInt.toNat := ⟨_, rfl⟩
  have hst := fun w => conv_step (L := L) (D := nd) hL (N := N) (h := t) (d := d) (w := w) (e := (exI y (Int32.ofNat w)).toInt.toNat) hnd hd hN ht
  obtain ⟨e, he, q1, q2, q3, q4, q5⟩ := lp_rule (body := B_X7_choose_54 n v1 v2 y B A bh mI)
    (I := fun q k => ∃ w : Nat, k = 11 - w ∧ w ≤ mo d + 1 ∧ d + w ≤ t + 1 ∧ q.2.1 = Int32.ofNat w ∧ bitsP q.1 w P ∧ clM s q.2.2 ∧ (∀ w' : Nat, w' < w → cllC L nd N q.2.2 t d w') ∧ (∀ j : Nat, (j < t % 2 * 90 + d * 10 ∨ t % 2 * 90 + d * 10 + 10 ≤ j) → q.2.2.1 36 j = s.1 36 j) ∧ q.2.2.1 37 = s.1 37)
    (Q := fun e => (∃ w : Nat, w ≤ 10 ∧ bitsP e.1 w P ∧ ∀ w' : Nat, d + w' ≤ t → w' ≤ mo d → w' < w) ∧ clM s e.2.2 ∧ (∀ w : Nat, d + w ≤ t → w ≤ mo d → cllC L nd N e.2.2 t d w) ∧ (∀ j : Nat, (j < t % 2 * 90 + d * 10 ∨ t % 2 * 90 + d * 10 + 10 ≤ j) → e.2.2.1 36 j = s.1 36 j) ∧ e.2.2.1 37 = s.1 37) (by
    rintro ⟨b, wq, s1⟩ k ⟨w, g0, g1, g2, g3, g4, g5, g6, g7, g8⟩
    simp only at g3 g4 g5 g6 g7 g8
    subst g3
    have hw : (Int32.ofNat w).toInt = w := ofNat_int (by omega)
    have hsub : (v1 - v2).toInt = (t : Int) - d := by rw [i32_sub (by omega) (by omega)]; omega
    by_cases c1 : mI < Int32.ofNat w
    · left
      have c1' := i32_lt.mp c1
      exact ⟨(b, Int32.ofNat w, s1), by unfold B_X7_choose_54; dsimp only; rw [if_pos c1], ⟨w, by omega, g4, fun w' _ z => by omega⟩, g5, fun w' _ z => g6 w' (by omega), g7, g8⟩
    · have c1' : ¬ mI.toInt < (Int32.ofNat w).toInt := fun z => c1 (i32_lt.mpr z)
      by_cases c2 : (v1 - v2) < Int32.ofNat w
      · left
        have c2' := i32_lt.mp c2
        exact ⟨(b, Int32.ofNat w, s1), by unfold B_X7_choose_54; dsimp only; rw [if_neg c1, if_pos c2], ⟨w, by omega, g4, fun w' z _ => by omega⟩, g5, fun w' z _ => g6 w' (by omega), g7, g8⟩
      · right
        have c2' : ¬ (v1 - v2).toInt < (Int32.ofNat w).toInt := fun z => c2 (i32_lt.mpr z)
        have hwm : w ≤ mo d := by omega
        have hwt : d + w ≤ t := by omega
        obtain ⟨v13, z1, z2, z3, z4, z5⟩ := hst w (hy w hwm)
        change v13 = kcC L nd N t d (exI y (Int32.ofNat w)).toInt.toNat at z1
        obtain ⟨ee, he64, hee⟩ := exI_rng y (Int32.ofNat w)
        have hPw : P w ↔ ¬ convY (t + 1) (vX L nd false (N - (t + 1)) (t + 1) d (capW w)) ≤ v13 := by rw [hP, z1]
        have heN : (exI y (Int32.ofNat w)).toInt.toNat = ee := by rw [hee, ofNat_int (by omega)]; omega
        rw [heN] at z1
        obtain ⟨W, hW⟩ : ∃ W, convY (t + 1) (vX L nd false (N - (t + 1)) (t + 1) d (capW w)) = W := ⟨_, rfl⟩
        rw [hW] at z2 z3 z5 hPw
        obtain ⟨b1, b2, b3⟩ := e_bits ee he64
        -- what the wait costs
        obtain ⟨ix, hix⟩ : ∃ ix : Nat, ix = if w < mo d then w + 1 else mo d := ⟨_, rfl⟩
        have hix9 : ix ≤ 9 := by rw [hix]; split <;> omega
        have hwait : (s1.1 36 ((t + 1) % 2 * 90 + d * 10 + ix)).toInt = (W : Nat) := by
          rw [g7 _ (by omega), ← hW]
          by_cases z : w < mo d
          · rw [if_pos z] at hix
            have hc : cllC L nd N s (t + 1) d (w + 1) := hnx d (w + 1) (Or.inr ⟨hd, by omega, by omega⟩)
            unfold cllC at hc
            rw [hix, hc, show capW w = w + 1 from if_neg (by omega)]
          · rw [if_neg z] at hix
            have hwe : w = mo d := by omega
            have hc : cllC L nd N s (t + 1) d (mo d) := hnx d (mo d) (Or.inr ⟨hd, by omega, by omega⟩)
            unfold cllC at hc
            rw [hix, hc]
            rcases hmo with q | ⟨q, q'⟩
            · rw [show capW w = mo d from by rw [hwe, q]; rfl]
            · rw [q, vX_stl q' _ _ (capW w) (cap9 (by omega))]
        obtain ⟨vk, hvk, hvkv⟩ : ∃ vk : Int32, (∀ k2 : Int32, k2.toInt = ix → J_X7_choose_104 n v1 v2 y B A bh mI b (Int32.ofNat w) (Int32.ofNat ee) A k2 s1 = J_X7_choose_139 n v1 v2 y B A bh mI b (Int32.ofNat w) (s1.1 36 ((t + 1) % 2 * 90 + d * 10 + ix)) vk s1) ∧ vk.toInt = v13 := by
          have hin : ∀ k2 : Int32, k2.toInt = ix → jin (A + k2) 180 = true ∧ (A + k2).toNatClampNeg = (t + 1) % 2 * 90 + d * 10 + ix := by
            intro k2 h2
            have hs : (A + k2).toInt = ((t + 1) % 2 * 90 + d * 10 + ix : Nat) := by rw [i32_add (by omega) (by omega)]; omega
            exact ⟨jin_val hs (by omega), nat_val hs⟩
          unfold kcC at z1
          by_cases f1 : (Int32.ofNat ee &&& (7 : Int32)) = 0
          · have f1' : ee % 8 = 0 := by rw [f1] at b1; change (0 : Int) = _ at b1; omega
            rw [if_pos f1'] at z1
            refine ⟨1048576, fun k2 h2 => ?_, by rw [z1]; rfl⟩
            unfold J_X7_choose_104
            rw [if_pos (hin k2 h2).1, if_pos f1, (hin k2 h2).2]
          · have f1' : ¬ ee % 8 = 0 := fun z => f1 (i32_eq.mpr (by rw [b1, z]; rfl))
            rw [if_neg f1'] at z1
            by_cases f2 : (1048576 : Int32) ≤ bh
            · have f2' := i32_le.mp f2
              rw [if_pos (by omega)] at z1
              refine ⟨1048576, fun k2 h2 => ?_, by rw [z1]; rfl⟩
              unfold J_X7_choose_104
              rw [if_pos (hin k2 h2).1, if_neg f1, if_pos f2, (hin k2 h2).2]
            · have f2' : ¬ (1048576 : Int32).toInt ≤ bh.toInt := fun z => f2 (i32_le.mpr z)
              rw [if_neg (by omega)] at z1
              refine ⟨bh + ((Int32.ofNat ee >>> ((3 : Int32) &&& 31)) <<< ((6 : Int32) &&& 31)), fun k2 h2 => ?_, by rw [i32_add (by omega) (by omega), b3, hbh, z1]; omega⟩
              unfold J_X7_choose_104
              rw [if_pos (hin k2 h2).1, if_neg f1, if_neg f2, (hin k2 h2).2]
        obtain ⟨wt, hwt'⟩ : ∃ x, s1.1 36 ((t + 1) % 2 * 90 + d * 10 + ix) = x := ⟨_, rfl⟩
        rw [hwt'] at hwait hvk
        obtain ⟨xB, hxB⟩ : ∃ x, B + Int32.ofNat w = x := ⟨_, rfl⟩
        have hxBv : xB.toInt = (t % 2 * 90 + d * 10 + w : Nat) := by rw [← hxB, i32_add (by omega) (by omega)]; omega
        have jxB : jin xB 180 = true := jin_val hxBv (by omega)
        have nxB : xB.toNatClampNeg = t % 2 * 90 + d * 10 + w := nat_val hxBv
        have hnext : Int32.ofNat w + 1 = Int32.ofNat (w + 1) := i32_eq.mpr (by rw [i32_add (by omega) (by omega), ofNat_int (by omega), ofNat_int (by omega)]; omega)
        have hbody : ∃ b' cv, B_X7_choose_54 n v1 v2 y B A bh mI (b, Int32.ofNat w, s1) = some (.inl (b', Int32.ofNat (w + 1), upI s1 36 (t % 2 * 90 + d * 10 + w) cv)) ∧ bitsP b' (w + 1) P ∧ cv.toInt = (convY t (vX L nd false (N - t) t d w) : Nat) := by
          have h155 : ∀ b0 : Int32, J_X7_choose_155 n v1 v2 y B A bh mI b0 (Int32.ofNat w) wt vk s1 = some (.inl (b0, Int32.ofNat (w + 1), upI s1 36 (t % 2 * 90 + d * 10 + w) (if wt ≤ vk then wt else vk))) := by
            intro b0
            unfold J_X7_choose_155
            by_cases f : wt ≤ vk
            · rw [if_pos f, if_pos f, hxB, if_pos jxB, jl_1, nxB, hnext]
            · rw [if_neg f, if_neg f, hxB, if_pos jxB, jl_1, nxB, hnext]
          have h104 : ∃ b', (∀ k2 : Int32, k2.toInt = ix → J_X7_choose_104 n v1 v2 y B A bh mI b (Int32.ofNat w) (Int32.ofNat ee) A k2 s1 = some (.inl (b', Int32.ofNat (w + 1), upI s1 36 (t % 2 * 90 + d * 10 + w) (if wt ≤ vk then wt else vk)))) ∧ bitsP b' (w + 1) P := by
            by_cases f : wt ≤ vk
            · have f' := i32_le.mp f
              refine ⟨b, fun k2 h2 => ?_, bits_no g4 (by omega) (fun z => (hPw.mp z) (by omega))⟩
              rw [hvk k2 h2]
              unfold J_X7_choose_139
              rw [if_pos f]
              exact h155 b
            · have f' : ¬ wt.toInt ≤ vk.toInt := fun z => f (i32_le.mpr z)
              refine ⟨_, fun k2 h2 => ?_, bits_yes g4 (by omega) (hPw.mpr (by omega))⟩
              rw [hvk k2 h2]
              unfold J_X7_choose_139
              rw [if_neg f]
              exact h155 _
          obtain ⟨b', h104, hbp⟩ := h104
          refine ⟨b', (if wt ≤ vk then wt else vk), ?_, hbp, ?_⟩
          · unfold B_X7_choose_54
            dsimp only
            change (if mI < Int32.ofNat w then _ else if (v1 - v2) < Int32.ofNat w then _ else if mI ≤ Int32.ofNat w then J_X7_choose_104 n v1 v2 y B A bh mI b (Int32.ofNat w) (exI y (Int32.ofNat w)) A mI s1 else J_X7_choose_104 n v1 v2 y B A bh mI b (Int32.ofNat w) (exI y (Int32.ofNat w)) A (Int32.ofNat w + 1) s1) = _
            rw [if_neg c1, if_neg c2, hee]
            by_cases f : mI ≤ Int32.ofNat w
            · have f' := i32_le.mp f
              rw [if_pos f]
              exact h104 mI (by rw [hix, if_neg (by omega)]; exact hm)
            · have f' : ¬ mI.toInt ≤ (Int32.ofNat w).toInt := fun z => f (i32_le.mpr z)
              rw [if_neg f]
              exact h104 _ (by rw [hix, if_pos (by omega), hnext, ofNat_int (by omega)])
          · rw [z2]
            by_cases f : wt ≤ vk
            · have f' := i32_le.mp f
              rw [if_pos f, if_pos (by omega)]
              exact hwait
            · have f' : ¬ wt.toInt ≤ vk.toInt := fun z => f (i32_le.mpr z)
              rw [if_neg f, if_neg (by omega)]
              exact hvkv
        obtain ⟨b', cv, hbody, hbp, hcv⟩ := hbody
        refine ⟨_, 11 - (w + 1), by omega, hbody, w + 1, rfl, by omega, by omega, rfl, hbp, clM_36 g5 _ _, fun w' hw' => ?_, fun j hj => ?_, ?_⟩
        · unfold cllC
          show ((upI s1 36 (t % 2 * 90 + d * 10 + w) cv).1 36 _).toInt = _
          rw [upI_1, if_pos rfl]
          by_cases z : w' = w
          · rw [z, upd_eq rfl]
            exact hcv
          · rw [upd_ne (by omega)]
            exact g6 w' (by omega)
        · show (upI s1 36 (t % 2 * 90 + d * 10 + w) cv).1 36 j = _
          rw [upI_1, if_pos rfl, upd_ne (by omega)]
          exact g7 j hj
        · show (upI s1 36 (t % 2 * 90 + d * 10 + w) cv).1 37 = _
          rw [upI_1, if_neg (by decide)]
          exact g8) 11 n (0, 0, s) (by omega) ⟨0, rfl, by omega, by omega, rfl, bits_0 P, clM_rfl, fun w' hw' => absurd hw' (Nat.not_lt_zero w'), fun j _ => rfl, rfl⟩
  obtain ⟨w0, hw10, hbits, hall⟩ := q1
  obtain ⟨G, hG⟩ : ∃ x, (v1 * 8) + v2 = x := ⟨_, rfl⟩
  have hGv : G.toInt = (t * 8 + d : Nat) := by
    have h8 : (v1 * 8).toInt = (t : Int) * 8 := by rw [i32_mulR (n := 8) rfl (by omega) (by omega), e1]
    rw [← hG, i32_add (by omega) (by omega), h8]
    omega
  refine ⟨upI e.2.2 37 (t * 8 + d) e.1, ?_, clM_37 q2 _ _, fun w c1 c2 => ?_, fun j hj => ?_, fun j hj => ?_, fun w c1 c2 c3 => ?_⟩
  · unfold F_X7_choose
    rw [hA, hB, hAt, if_pos jAt, if_pos jv2, hbhe, nv2, hmI, he, Option.bind_some, hG, if_pos (jin_val hGv (by omega)), jl_1, nat_val hGv]
  · have := q3 w c1 c2
    unfold cllC at this ⊢
    rw [upI_1, if_neg (by decide)]
    exact this
  · rw [upI_1, if_neg (by decide)]
    exact q4 j hj
  · rw [upI_1, if_pos rfl, upd_ne hj, q5]
  · rw [upI_1, if_pos rfl, upd_eq rfl, bits_get hbits hw10 (hall w c1 c2)]
    obtain ⟨v13, z1, z2, z3, z4, z5⟩ := hst w (hy w c2)
    rw [hP]
    change v13 = kcC L nd N t d (exI y (Int32.ofNat w)).toInt.toNat at z1
    show (¬ convY (t + 1) (vX L nd false (N - (t + 1)) (t + 1) d (capW w)) ≤ kcC L nd N t d (exI y (Int32.ofNat w)).toInt.toNat) ↔ _
    rw [← z1]
    exact z3 c3
