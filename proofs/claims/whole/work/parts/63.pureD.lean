/-! opens -/
section
variable {nd : Nat} {TX : jTX} {LO : jLO} {EO : jEO} {c m c' m' : jS}
theorem Inv_scr (hI : Inv nd TX LO EO c m) (hc : scrC c c') (hm : scrM m m') : Inv nd TX LO EO c' m' := by
  obtain ⟨hc, hc2⟩ := hc
  obtain ⟨hm, hm2⟩ := hm
  unfold Inv rel
  rw [hm 0 (by decide) (by decide), hm 1 (by decide) (by decide), hm 2 (by decide) (by decide), hm 3 (by decide) (by decide), hm 4 (by decide) (by decide), hc2, hc 0 (by decide) (by decide), hc 29 (by decide) (by decide), hc 33 (by decide) (by decide), hc 51 (by decide) (by decide), hc 18 (by decide) (by decide), hc 19 (by decide) (by decide), hc 20 (by decide) (by decide), hc 21 (by decide) (by decide), hc 22 (by decide) (by decide), hc 23 (by decide) (by decide), hc 24 (by decide) (by decide), hc 25 (by decide) (by decide), hc 26 (by decide) (by decide), hc 27 (by decide) (by decide), hc 28 (by decide) (by decide), hc 40 (by decide) (by decide), hc 41 (by decide) (by decide), hc 42 (by decide) (by decide), hc 43 (by decide) (by decide), hc 44 (by decide) (by decide), hc 45 (by decide) (by decide), hc 46 (by decide) (by decide), hc 47 (by decide) (by decide), hc 48 (by decide) (by decide), hc 49 (by decide) (by decide), hc 52 (by decide) (by decide)]
  obtain ⟨⟨hC, hN, hS, hT, hTape, hF, hTX⟩, hL, hE⟩ := hI
  exact ⟨⟨hC, hN, hS, hT, hTape, hF, rTexts_s hTX (Int.le_refl _) hN.1.2.2 (fun k k1 k2 => hc k (by omega) (by omega)) rfl⟩, hL, hE⟩
theorem ask_rel {n : Nat} (hn : 400000 ≤ n) (hI : Inv nd jText LO EO c m) {v1 v2 v3 v4 v5 v6 v7 : Int32} (g1 : -1 ≤ v1.toInt) (g1' : v1.toInt < (c.1 18 7).toInt) (g : isSight nd v2 v3 v4 v5 v6) (g7 : 0 ≤ v7.toInt ∧ v7.toInt ≤ 9) :
    ∃ r c' m', F_X3_opensBy n v1 v2 v3 v4 v5 v6 v7 c = some (r, c') ∧ F_X9_isOpen n v1 v2 v3 v4 v5 v6 v7 m = some (r, m') ∧ scrC c c' ∧ scrM m m' := by
  have h8 := I_nd hI
  obtain ⟨s1, s2, s3, s4, s5⟩ := g
  exact opensBy_rel hn hI.1.2.2.2.2.2.2 rfl hI.1.2.1.1.2.2 hI.1.2.1.2.1 hI.1.2.1.2.2.1 g1 g1' s1.1 (by omega) s2.1 (by omega) ⟨by omega, by omega⟩ ⟨by omega, by omega⟩ ⟨by omega, by omega⟩ ⟨by omega, by omega⟩
end
theorem opens_ok {nd n : Nat} {LO : jLO} {EO : jEO} (hn : 400000 ≤ n) : ok_opens nd n (Inv nd jText LO EO) := by
  intro v1 v2 v3 v4 v5 v6 c m hI
  have hd := I_door hI v1
  have l28 : (28 : Int32).toInt = 28 := rfl
  have l20 : (20 : Int32).toInt = 20 := rfl
  by_cases h1 : F_X8_isKnock v1 v2 v3 v4 v5 c = true
  · have a1 := I_sight hI h1
    have a0 := I_nd hI
    obtain ⟨k1, k2, k3, k4, k5⟩ := knock_true.mp h1
    have k6 := knock9.mpr ⟨k3, k4⟩
    by_cases h2 : F_X8_within v6 0 9 = true
    · have a6 : 0 ≤ v6.toInt ∧ v6.toInt ≤ 9 := win_iff.mp h2
      have e1 : (28 + v1).toInt = 28 + v1.toInt := int_add (by omega) (by have := a1.1; omega) (by have := a1.1; omega)
      have e2 : (20 + v1).toInt = 20 + v1.toInt := int_add (by omega) (by have := a1.1; omega) (by have := a1.1; omega)
      have d1 := a1.1
      have n1 : (28 + v1).toNatClampNeg = 28 + v1.toNatClampNeg := by rw [i32_nat, i32_nat]; omega
      have n2 : (20 + v1).toNatClampNeg = 20 + v1.toNatClampNeg := by rw [i32_nat, i32_nat]; omega
      have n3 : v1.toNatClampNeg < 8 := by rw [i32_nat]; omega
      have u4 := hI.1.2.1.2.2.2.1 _ n3
      have u5 := hI.1.2.1.2.2.2.2.1 _ n3
      have ref : F_X9_opens n v1 v2 v3 v4 v5 v6 m = (if m.1 1 (20 + v1.toNatClampNeg) = 0 then some (true, m) else ((F_X9_isOpen n (c.1 21 v1.toNatClampNeg) v1 v2 v3 v4 v5 v6 m).bind fun p79 => (if p79.1 = true then some (true, p79.2) else some (false, p79.2)))) := by
        unfold F_X9_opens
        rw [hd, if_pos k1, if_pos (show F_X9_isHour v2 = true from k2), if_pos k6, if_pos (show F_X9_isIn v5 0 9 = true from k5), if_pos (show F_X9_isIn v6 0 9 = true from h2), if_pos (jin_of (by omega) (by omega)), n2]
        by_cases z : m.1 1 (20 + v1.toNatClampNeg) = 0
        · rw [if_pos z, if_pos z]
        · rw [if_neg z, if_neg z, if_pos (jin_of (by omega) (by omega)), n1, u4.1]
      have cls : F_X8_opens n v1 v2 v3 v4 v5 v6 c = (if (jz (c.1 22 v1.toNatClampNeg)) = true then some (true, c) else ((F_X3_opensBy n (c.1 21 v1.toNatClampNeg) v1 v2 v3 v4 v5 v6 c).bind fun p61 => (if p61.1 = true then some (true, p61.2) else some (false, p61.2)))) := by
        unfold F_X8_opens
        rw [if_pos h1, if_pos h2, if_pos (jin_of (by omega) (by omega))]
      by_cases hz : jz (c.1 22 v1.toNatClampNeg) = true
      · exact ⟨true, c, m, by rw [cls, if_pos hz], by rw [ref, if_pos (u5.mp hz)], hI⟩
      · obtain ⟨r, c', m', p1, p2, p3, p4⟩ := ask_rel hn hI u4.2.1 u4.2.2 a1 a6
        refine ⟨r, c', m', ?_, ?_, Inv_scr hI p3 p4⟩
        · rw [cls, if_neg hz, p1]
          cases r <;> rfl
        · rw [ref, if_neg (fun z => hz (u5.mpr z)), p2]
          cases r <;> rfl
    · refine ⟨false, c, m, ?_, ?_, hI⟩
      · unfold F_X8_opens
        rw [if_pos h1, if_neg h2]
      · unfold F_X9_opens
        rw [hd, if_pos k1, if_pos (show F_X9_isHour v2 = true from k2), if_pos k6, if_pos (show F_X9_isIn v5 0 9 = true from k5), if_neg (show ¬ F_X9_isIn v6 0 9 = true from h2)]
  · refine ⟨false, c, m, ?_, ?_, hI⟩
    · unfold F_X8_opens
      rw [if_neg h1]
    · unfold F_X9_opens
      rw [hd]
      by_cases k1 : F_X8_isDoor v1 c = true
      · by_cases k2 : F_X8_isHour v2 = true
        · by_cases k3 : F_X9_isKnock v3 v4 = true
          · by_cases k5 : F_X8_within v5 0 9 = true
            · exact absurd (knock_true.mpr ⟨k1, k2, (knock9.mp k3).1, (knock9.mp k3).2, k5⟩) h1
            · rw [if_pos k1, if_pos (show F_X9_isHour v2 = true from k2), if_pos k3, if_neg (show ¬ F_X9_isIn v5 0 9 = true from k5)]
          · rw [if_pos k1, if_pos (show F_X9_isHour v2 = true from k2), if_neg k3]
        · rw [if_pos k1, if_neg (show ¬ F_X9_isHour v2 = true from k2)]
      · rw [if_neg k1]
/-! knock -/
theorem scrC_rfl {c : jS} : scrC c c := ⟨fun _ _ _ => rfl, rfl⟩
theorem scrM_rfl {c : jS} : scrM c c := ⟨fun _ _ _ => rfl, fun _ _ => rfl⟩
section
variable {nd : Nat} {LO : jLO} {EO : jEO} {c m : jS}
def paidC (c : jS) (v2 : Int32) : jS := upI (upI (upI (upI c 25 3 (hourI (c.1 25 3))) 25 2 (c.1 25 2 - v2)) 25 5 (c.1 25 5 + 1)) 25 4 0
def paidM (m : jS) (v2 : Int32) : jS := upI (upI (upI (upI m 1 8 (m.1 1 8 - v2)) 1 6 (hourI (m.1 1 6))) 1 5 (m.1 1 5 + 1)) 1 7 0
theorem paid_rel {TX : jTX} (hI : Inv nd TX LO EO c m) {v2 : Int32} (h0 : 0 ≤ v2.toInt) (h1 : v2.toInt ≤ (c.1 25 2).toInt) (h2 : (c.1 25 5).toInt < nd) : Inv nd TX LO EO (paidC c v2) (paidM m v2) := by
  have h8 := I_nd hI
  have hs := I_steps hI
  obtain ⟨⟨q0, q1, q2, q3, q4, q5, q6⟩, r1, r2, ⟨r3, r4, r5, r6⟩, r7⟩ := I_trav hI
  have l1 : (1 : Int32).toInt = 1 := rfl
  have hh := hour_next r4.1 r4.2
  have e1 : (c.1 25 2 - v2).toInt = (c.1 25 2).toInt - v2.toInt := i32_sub (by omega) (by omega)
  have e2 : (c.1 25 5 + 1).toInt = (c.1 25 5).toInt + 1 := i32_add (by omega) (by omega)
  have hj : ∀ j : Nat, ¬ j = 5 → ¬ j = 6 → ¬ j = 7 → ¬ j = 8 → (paidM m v2).1 1 j = m.1 1 j := by
    intro j a b d e
    show upd (upd (upd (upd (m.1 1) 8 _) 6 _) 5 _) 7 0 j = _
    rw [upd_ne d, upd_ne a, upd_ne b, upd_ne e]
  refine Inv_walk hI ?_ rfl (onlyRow_upI (onlyRow_upI (onlyRow_upI (onlyRow_upI onlyRow_rfl _ _) _ _) _ _) _ _) (fun j j1 j2 => hj j (by omega) (by omega) (by omega) (by omega)) (fun j j1 j2 => hj j (by omega) (by omega) (by omega) (by omega)) (fun j j1 j2 => hj j (by omega) (by omega) (by omega) (by omega)) ?_ ?_
  · intro k k1 k2
    unfold paidC
    rw [row_ne k1, row_ne k1, row_ne k1, row_ne k1]
  · obtain ⟨P, hP⟩ : ∃ P, c.1 25 2 - v2 = P := ⟨_, rfl⟩
    obtain ⟨D, hD⟩ : ∃ D, c.1 25 5 + 1 = D := ⟨_, rfl⟩
    obtain ⟨H, hH⟩ : ∃ H, hourI (c.1 25 3) = H := ⟨_, rfl⟩
    have hH' : 0 ≤ H.toInt ∧ H.toInt ≤ 23 := by rw [← hH]; exact hh
    unfold paidC paidM
    rw [hP, hD, hH, ← q2, ← q3, ← q5, hP, hD, hH]
    rw [hP] at e1
    rw [hD] at e2
    refine ⟨⟨q0, q1, rfl, rfl, rfl, rfl, q6⟩, r1, r2, ⟨⟨?_, ?_⟩, hH', ⟨by show 0 ≤ (0 : Int32).toInt; decide, by show (0 : Int32).toInt ≤ 9; decide⟩, ?_, ?_⟩, r7⟩
    · show 0 ≤ D.toInt; omega
    · show D.toInt ≤ nd; omega
    · show 0 ≤ P.toInt; omega
    · show P.toInt ≤ 99; omega
  · show rSteps nd (c.1 25 6) (c.1 26) ((paidM m v2).1 1)
    exact rSteps_s hs rfl r7.2 sam_rfl (fun j j1 j2 => hj j (by omega) (by omega) (by omega) (by omega))
/-- behind the answer of the door -/
theorem knocked_end {TX : jTX} {n : Nat} (hn : 400000 ≤ n) (hI : Inv nd TX LO EO c m) {c' m1 m2 : jS} (hc : scrC c c') (hm1 : F_X9_keepStep n m = some m1) (hm : scrM m1 m2) {v2 : Int32} (k0 : Bool) (h0 : 0 ≤ v2.toInt) (h1 : v2.toInt ≤ (c.1 25 2).toInt) (h2 : (c.1 25 5).toInt < nd) :
    ∃ cE mE, J_X8_knocked_86 n v2 k0 c' = some (k0, cE) ∧ J_X9_knock_90 n v2 k0 m2 = some ((if k0 = true then 1 else 0), mE) ∧ Inv nd TX LO EO cE mE ∧ cE.1 18 = c.1 18 := by
  have hI2 : Inv nd TX LO EO c' m := Inv_scr hI hc scrM_rfl
  obtain ⟨c1, m1', k1, k2, k3, k4, k5⟩ := keepStep_rel hn hI2
  rw [hm1] at k2
  obtain rfl := Option.some.inj k2
  have hI3 : Inv nd TX LO EO c1 m2 := Inv_scr k3 scrC_rfl hm
  have hj : ∀ j : Nat, j < 6 → c1.1 25 j = c.1 25 j := fun j h => (k4.2.2 j (by omega) h).trans (by rw [hc.1 25 (by decide) (by decide)])
  have h18 : c1.1 18 = c.1 18 := (k4.1 18 (by decide) (by decide)).trans (hc.1 18 (by decide) (by decide))
  cases k0
  · obtain ⟨m3, b1, b2⟩ := hour_stay hI3
    refine ⟨_, m3, ?_, ?_, b2, h18⟩
    · unfold J_X8_knocked_86
      rw [k1, Option.bind_some]
      rfl
    · unfold J_X9_knock_90 J_X9_knock_108
      rw [if_neg (by decide), b1]
      rfl
  · have hp := paid_rel hI3 (v2 := v2) h0 (by rw [hj 2 (by decide)]; exact h1) (by rw [hj 5 (by decide)]; exact h2)
    refine ⟨_, _, ?_, ?_, hp, h18⟩
    · unfold J_X8_knocked_86
      rw [k1, Option.bind_some]
      rfl
    · unfold J_X9_knock_90 J_X9_knock_108 F_X9_hourBy
      rw [if_pos rfl]
      rfl
end
theorem hasKey_eq (k d : Int32) : F_X9_has k d = F_X8_hasKey k d := rfl
theorem knock_rel {nd n : Nat} {LO : jLO} {EO : jEO} (hn : 400000 ≤ n) {v1 v2 : Int32} {c m : jS} (hI : Inv nd jText LO EO c m) :
    (¬ F_X8_canKnock v1 v2 c = true ∧ F_X9_knock n v1 v2 m = some (-1, m)) ∨ (F_X8_canKnock v1 v2 c = true ∧ ∃ r c' m', F_X8_knocked n v1 v2 c = some (r, c') ∧ F_X9_knock n v1 v2 m = some ((if r = true then 1 else 0), m') ∧ Inv nd jText LO EO c' m' ∧ c'.1 18 = c.1 18) := by
  have ha := at_end hI
  have h8 := I_nd hI
  obtain ⟨⟨q0, q1, q2, q3, q4, q5, q6⟩, r1, r2, ⟨r3, r4, r5, r6⟩, r7⟩ := I_trav hI
  have e8 : m.1 1 (Int32.toNatClampNeg 8) = c.1 25 2 := q2.symm
  by_cases k1 : F_X8_isDoor (c.1 25 5) c = true
  · have k1' := ha.mp k1
    by_cases k2 : F_X9_isKnock v1 v2 = true
    · obtain ⟨w1, w2⟩ := knock9.mp k2
      have b1 : 1 ≤ v1.toInt ∧ v1.toInt ≤ 7 := win_iff.mp w1
      have b2 : 0 ≤ v2.toInt ∧ v2.toInt ≤ 5 := win_iff.mp w2
      by_cases k3 : v2 ≤ c.1 25 2
      · have k3' := i32_le.mp k3
        have k3n : ¬ c.1 25 2 < v2 := fun z => by have := i32_lt.mp z; omega
        have hdoor := I_doorI hI k1
        right
        refine ⟨by unfold F_X8_canKnock; rw [if_pos k1, if_pos w1, if_pos w2, if_neg k3n], ?_⟩
        obtain ⟨c1, m1, s1, s2, s3, s4, s5⟩ := keepStep_rel hn hI
        have hm1 : ∀ j : Nat, 2 ≤ j → j < 204 → m1.1 1 j = m.1 1 j := fun j a b => s5.2.2 j a b
        have e5 : m.1 1 (Int32.toNatClampNeg 5) = c.1 25 5 := q5.symm
        have e10 : m1.1 1 (Int32.toNatClampNeg 10) = c.1 25 1 := (hm1 10 (by decide) (by decide)).trans q1.symm
        have e6 : m1.1 1 (Int32.toNatClampNeg 6) = c.1 25 3 := (hm1 6 (by decide) (by decide)).trans q3.symm
        have e7 : m1.1 1 (Int32.toNatClampNeg 7) = c.1 25 4 := (hm1 7 (by decide) (by decide)).trans q4.symm
        have e9 : m1.1 1 (Int32.toNatClampNeg 9) = c.1 25 0 := (hm1 9 (by decide) (by decide)).trans q0.symm
        have hjd : jin (c.1 25 5) 8 = true := jin_of hdoor.1 (by omega)
        have ref : F_X9_knock n v1 v2 m = (if (F_X8_hasKey (c.1 25 1) (c.1 25 5)) = true then J_X9_knock_85 n v2 m1 else ((F_X9_opens n (c.1 25 5) (c.1 25 3) v1 v2 (c.1 25 4) (c.1 25 0) m1).bind fun p79 => (if p79.1 = true then J_X9_knock_85 n v2 p79.2 else J_X9_knock_90 n v2 false p79.2))) := by
          unfold F_X9_knock
          rw [if_neg k1', if_pos k2, e8, if_pos k3, s2, Option.bind_some, e5, e10, e6, e7, e9]
          rfl
        have n3 : (c.1 25 5).toNatClampNeg < 8 := by rw [i32_nat]; omega
        have u4 := hI.1.2.1.2.2.2.1 _ n3
        have u5 := hI.1.2.1.2.2.2.2.1 _ n3
        have hfin := fun (c' m2 : jS) (hc : scrC c c') (hm : scrM m1 m2) (k0 : Bool) => knocked_end hn hI hc s2 hm k0 b2.1 k3' hdoor.2
        by_cases hk : F_X8_hasKey (c.1 25 1) (c.1 25 5) = true
        · obtain ⟨cE, mE, f1, f2, f3⟩ := hfin c m1 scrC_rfl scrM_rfl true
          refine ⟨true, cE, mE, ?_, ?_, f3⟩
          · unfold F_X8_knocked
            rw [if_pos hjd, if_pos hk]
            by_cases hz : jz (c.1 22 (c.1 25 5).toNatClampNeg) = true
            · rw [if_pos hz]; exact f1
            · rw [if_neg hz]; exact f1
          · rw [ref, if_pos hk]
            exact f2
        · have l28 : (28 : Int32).toInt = 28 := rfl
          have l20 : (20 : Int32).toInt = 20 := rfl
          have i28 : (28 + c.1 25 5).toInt = 28 + (c.1 25 5).toInt := int_add (by omega) (by omega) (by omega)
          have i20 : (20 + c.1 25 5).toInt = 20 + (c.1 25 5).toInt := int_add (by omega) (by omega) (by omega)
          have n1 : (28 + c.1 25 5).toNatClampNeg = 28 + (c.1 25 5).toNatClampNeg := by rw [i32_nat, i32_nat]; omega
          have n2 : (20 + c.1 25 5).toNatClampNeg = 20 + (c.1 25 5).toNatClampNeg := by rw [i32_nat, i32_nat]; omega
          have v20 : m1.1 1 (20 + c.1 25 5).toNatClampNeg = m.1 1 (20 + (c.1 25 5).toNatClampNeg) := by rw [n2]; exact hm1 _ (by omega) (by omega)
          have v28 : m1.1 1 (28 + c.1 25 5).toNatClampNeg = c.1 21 (c.1 25 5).toNatClampNeg := by rw [n1, u4.1]; exact hm1 _ (by omega) (by omega)
          have hop : F_X9_opens n (c.1 25 5) (c.1 25 3) v1 v2 (c.1 25 4) (c.1 25 0) m1 = (if m.1 1 (20 + (c.1 25 5).toNatClampNeg) = 0 then some (true, m1) else ((F_X9_isOpen n (c.1 21 (c.1 25 5).toNatClampNeg) (c.1 25 5) (c.1 25 3) v1 v2 (c.1 25 4) (c.1 25 0) m1).bind fun p79 => (if p79.1 = true then some (true, p79.2) else some (false, p79.2)))) := by
            have hdo : F_X9_isDoor (c.1 25 5) m1 = true := by
              have : F_X9_isDoor (c.1 25 5) m1 = F_X9_isDoor (c.1 25 5) m := by unfold F_X9_isDoor; rw [s5.1.1 0 (by decide)]
              rw [this, I_door hI]; exact k1
            unfold F_X9_opens
            rw [if_pos hdo, if_pos (show F_X9_isHour (c.1 25 3) = true from win_iff.mpr r4), if_pos k2, if_pos (show F_X9_isIn (c.1 25 4) 0 9 = true from win_iff.mpr r5), if_pos (show F_X9_isIn (c.1 25 0) 0 9 = true from win_iff.mpr r1), if_pos (jin_of (by omega) (by omega)), v20]
            by_cases z : m.1 1 (20 + (c.1 25 5).toNatClampNeg) = 0
            · rw [if_pos z, if_pos z]
            · rw [if_neg z, if_neg z, if_pos (jin_of (by omega) (by omega)), v28]
          by_cases hz : jz (c.1 22 (c.1 25 5).toNatClampNeg) = true
          · obtain ⟨cE, mE, f1, f2, f3⟩ := hfin c m1 scrC_rfl scrM_rfl true
            refine ⟨true, cE, mE, ?_, ?_, f3⟩
            · unfold F_X8_knocked
              rw [if_pos hjd, if_pos hz]
              exact f1
            · rw [ref, if_neg hk, hop, if_pos (u5.mp hz)]
              exact f2
          · obtain ⟨r, c', m2, p1, p2, p3, p4⟩ := opensBy_rel (n := n) (c := c) (m := m1) (told := c.1 18 7) (v1 := c.1 21 (c.1 25 5).toNatClampNeg) (v2 := c.1 25 5) (v3 := c.1 25 3) (v4 := v1) (v5 := v2) (v6 := c.1 25 4) (v7 := c.1 25 0) hn (by rw [s5.1.1 3 (by decide)]; exact hI.1.2.2.2.2.2.2) rfl hI.1.2.1.1.2.2 (rRain_s hI.1.2.1.2.1 sam_rfl (sam_sub s5.2.2 (by omega) (by omega))) (rMood_s hI.1.2.1.2.2.1 sam_rfl (sam_sub s5.2.2 (by omega) (by omega))) u4.2.1 u4.2.2 hdoor.1 (by omega) r4.1 (by omega) ⟨by omega, by omega⟩ ⟨by omega, by omega⟩ ⟨by omega, by omega⟩ ⟨by omega, by omega⟩
            obtain ⟨cE, mE, f1, f2, f3⟩ := hfin c' m2 p3 p4 r
            refine ⟨r, cE, mE, ?_, ?_, f3⟩
            · unfold F_X8_knocked
              rw [if_pos hjd, if_neg hz, if_neg hk, p1, Option.bind_some]
              cases r
              · exact f1
              · exact f1
            · rw [ref, if_neg hk, hop, if_neg (fun z => hz (u5.mpr z)), p2]
              cases r
              · exact f2
              · exact f2
      · left
        have k3n : c.1 25 2 < v2 := i32_lt.mpr (by rw [i32_le] at k3; omega)
        refine ⟨by unfold F_X8_canKnock; rw [if_pos k1, if_pos w1, if_pos w2, if_pos k3n]; decide, ?_⟩
        unfold F_X9_knock
        rw [if_neg k1', if_pos k2, e8, if_neg k3]
    · left
      refine ⟨?_, ?_⟩
      · intro z
        unfold F_X8_canKnock at z
        rw [if_pos k1] at z
        obtain ⟨z1, z⟩ := ite_tf (q := True) z
        obtain ⟨z2, z⟩ := ite_tf (q := True) z
        exact k2 (knock9.mpr ⟨z1, z2⟩)
      · unfold F_X9_knock
        rw [if_neg k1', if_neg k2]
  · left
    have k1' : m.1 1 (Int32.toNatClampNeg 5) = m.1 0 2 := Classical.byContradiction (fun z => k1 (ha.mpr z))
    refine ⟨by unfold F_X8_canKnock; rw [if_neg k1]; decide, ?_⟩
    unfold F_X9_knock
    rw [if_pos k1']
theorem knock_ok {nd n : Nat} {LO : jLO} {EO : jEO} (hn : 400000 ≤ n) : ok_knock nd n (Inv nd jText LO EO) := by
  intro v1 v2 c m hI
  rcases knock_rel hn (v1 := v1) (v2 := v2) hI with ⟨h1, h2⟩ | ⟨h1, r, c', m', h2, h3, h4, _⟩
  · refine ⟨-1, c, m, ?_, h2, hI⟩
    unfold F_X8_knock
    rw [if_neg h1]
  · refine ⟨(if r = true then 1 else 0), c', m', ?_, h3, h4⟩
    unfold F_X8_knock
    rw [if_pos h1, h2]
    cases r <;> rfl
/-! played -/
theorem clause_rel {nd n t k : Nat} {LO : jLO} {EO : jEO} (hn : 400000 ≤ n) {c m : jS} (hI : Inv nd jText LO EO c m) {v1 : Int32} (hv : v1.toInt = t) (ht : (t : Int) < (c.1 18 7).toInt) {q : Int32} (hq : q.toInt = k) (hk : (k : Int) < (c.1 (2 + 4 * t) 4).toInt) :
    ∃ r c' m', F_X8_clauseDone n (c.1 (2 + 4 * t + 2) k) (c.1 (2 + 4 * t + 3) k) c = some (r, c') ∧ F_X9_isPlayed n (((680 * v1) + 1) + (3 * q)) m = some (r, m') ∧ Inv nd jText LO EO c' m' ∧ c'.1 18 = c.1 18 := by
  have htold := I_told hI
  have l0 : (0 : Int32).toInt = 0 := rfl
  have l24 : (24 : Int32).toInt = 24 := rfl
  obtain ⟨⟨t1, t2, t3⟩, _, hcl, _⟩ := hI.1.2.2.2.2.2.2 t ht
  have R := clR_of (e := q) (k := k) hv (by omega) hq (by omega)
  have x0 : m.1 3 (Int32.toNatClampNeg (((680 * v1) + 1) + (3 * q))) = m.1 3 (680 * t + 1 + 3 * k) := congrArg (m.1 3) (nat_val R.2.2.1)
  have x1 : m.1 3 (Int32.toNatClampNeg ((((680 * v1) + 1) + (3 * q)) + 1)) = m.1 3 (680 * t + 2 + 3 * k) := congrArg (m.1 3) (nat_val R.2.2.2.1)
  have x2 : m.1 3 (Int32.toNatClampNeg ((((680 * v1) + 1) + (3 * q)) + 2)) = m.1 3 (680 * t + 3 + 3 * k) := congrArg (m.1 3) (nat_val R.2.2.2.2)
  have j0 := jin_val (n := 2720) R.2.2.1 (by omega)
  have j1 := jin_val (n := 2720) R.2.2.2.1 (by omega)
  have j2 := jin_val (n := 2720) R.2.2.2.2 (by omega)
  clear R
  generalize ((680 * v1) + 1) + (3 * q) = P at x0 x1 x2 j0 j1 j2
  unfold F_X9_isPlayed F_X8_clauseDone
  rw [if_pos j0, x0]
  rcases hcl k hk with ⟨d1, d2⟩ | ⟨d1, d2, d3, d4, d5⟩ | ⟨d0, d1, d2, d3, d4, d5, d6⟩
  · refine ⟨true, c, m, ?_, ?_, hI, rfl⟩
    · rw [d1, if_pos rfl]
    · rw [d2, if_neg (by decide), if_neg (by decide)]
  · rw [d1, d2, if_neg (show ¬ (0 : Int32) = -1 by decide), if_pos (show (0 : Int32) = 0 from rfl), if_neg (show ¬ (2 : Int32) = 1 by decide), if_pos (show (2 : Int32) = 2 from rfl), if_pos j1, x1, ← d3]
    generalize c.1 (2 + 4 * t + 3) k = A at d4 d5
    have hw : F_X8_within A 0 24 = true := win_iff.mpr ⟨d4, d5⟩
    have ha := at_end hI
    by_cases h1 : F_X8_isDoor (c.1 25 5) c = true
    · have h1' := ha.mp h1
      have hcan : F_X8_canWait A c = true := by
        unfold F_X8_canWait
        rw [if_pos h1, if_pos hw]
      obtain ⟨c1, e, k1, k2, k3, k4⟩ := waited_rel hn hI d4 d5
      refine ⟨true, c1, e.2, ?_, ?_, k3, k4⟩
      · rw [if_pos hcan, k1, hcan]
        rfl
      · unfold F_X9_later
        rw [if_neg h1', if_pos (show F_X9_isIn A 0 24 = true from hw), k2]
        have hr := (I_trav k3).2.2.2.1.2.1
        have he := (I_trav k3).1.2.2.2.1
        show (if e.2.1 1 6 < 0 then some (false, e.2) else some (true, e.2)) = _
        rw [if_neg (fun z => by have := i32_lt.mp z; rw [← he] at this; omega)]
    · have h1' : m.1 1 (Int32.toNatClampNeg 5) = m.1 0 2 := Classical.byContradiction (fun z => h1 (ha.mpr z))
      have hcan : ¬ F_X8_canWait A c = true := by
        unfold F_X8_canWait
        rw [if_neg h1]
        decide
      obtain ⟨c1, e, k1, k2, k3, k4⟩ := waited_rel hn hI (v1 := 0) (by decide) (by decide)
      have k2' : lp (B_X9_later_27 n 0) n (0, m) = some (0, m) := by
        cases n with
        | zero => omega
        | succ n => rfl
      rw [k2'] at k2
      obtain rfl := Option.some.inj k2
      refine ⟨false, c1, m, ?_, ?_, k3, k4⟩
      · rw [if_neg hcan, k1]
        cases hb : F_X8_canWait A c
        · rfl
        · exact absurd hb hcan
      · unfold F_X9_later
        rw [if_pos h1']
        rfl
  · rw [d2, if_pos (show (1 : Int32) = 1 from rfl), if_pos j1, if_pos j2, x1, x2, d3, d4]
    generalize c.1 (2 + 4 * t + 3) k = A at d5 d6
    generalize c.1 (2 + 4 * t + 2) k = K at d0 d1
    have m1 : (-1 : Int32).toInt = -1 := rfl
    have e1 : ¬ K = -1 := fun z => by rw [z] at d0; omega
    have e2 : ¬ K = 0 := fun z => by rw [z] at d0; omega
    rw [if_neg e1, if_neg e2]
    rcases knock_rel hn (v1 := K) (v2 := A) hI with ⟨h1, h2⟩ | ⟨h1, r, c', m', h2, h3, h4, h5⟩
    · exact ⟨false, c, m, by rw [if_neg h1], by rw [h2]; rfl, hI, rfl⟩
    · refine ⟨true, c', m', by rw [if_pos h1, h2]; rfl, ?_, h4, h5⟩
      rw [h3]
      cases r <;> rfl
theorem played_ok {nd n : Nat} {LO : jLO} {EO : jEO} (hn : 400000 ≤ n) : ok_played nd n (Inv nd jText LO EO) := by
  intro v1 c m hI
  have ht := I_told hI
  have l0 : (0 : Int32).toInt = 0 := rfl
  have l1 : (1 : Int32).toInt = 1 := rfl
  have l4 : (4 : Int32).toInt = 4 := rfl
  have l24 : (24 : Int32).toInt = 24 := rfl
  have hw : F_X9_isIn v1 0 ((m.1 1 (Int32.toNatClampNeg 0)) - 1) = F_X8_within v1 0 (c.1 18 7 - 1) := by
    rw [ht.1, isIn_eq]
    rfl
  by_cases h1 : F_X8_within v1 0 (c.1 18 7 - 1) = true
  · have a1 := win_iff.mp h1
    rw [i32_sub (by omega) (by omega)] at a1
    obtain ⟨t, hv⟩ : ∃ t : Nat, v1.toInt = t := ⟨v1.toInt.toNat, by omega⟩
    have hvn : v1.toNatClampNeg = t := nat_val hv
    have hj4 : jin v1 4 = true := jin_val hv (by omega)
    have h4 : v1 < 4 := i32_lt.mpr (by omega)
    obtain ⟨e, f, he, hf, hQ⟩ := lp_rule2 (body := B_X8_played_34 n t) (body' := B_X9_played_21 n v1)
      (I := fun x y k => x.1 = y.1 ∧ 0 ≤ x.1.toInt ∧ x.1.toInt ≤ 24 ∧ k = 24 - x.1.toInt.toNat ∧ Inv nd jText LO EO x.2 y.2 ∧ x.2.1 18 = c.1 18)
      (Q := fun e f => (∃ x y, e = .inl x ∧ f = .inl y ∧ Inv nd jText LO EO x.2 y.2) ∨ (∃ x y, e = .inr x ∧ f = .inr y ∧ x.1 = y.1 ∧ Inv nd jText LO EO x.2 y.2)) (by
      rintro ⟨q, cc⟩ ⟨q', mm⟩ k ⟨g1, g2, g3, g4, g5, g6⟩
      simp only at g1 g2 g3 g4 g5 g6
      subst g1
      obtain ⟨⟨t1, t2, t3⟩, _, hcl, _⟩ := g5.1.2.2.2.2.2.2 t (by rw [g6]; omega)
      have R := clR_of (e := q) (k := q.toInt.toNat) hv (by omega) (by omega) (by omega)
      have hb : mm.1 3 (Int32.toNatClampNeg (680 * v1)) = cc.1 (2 + 4 * t) 4 := (congrArg (mm.1 3) (nat_val R.1)).trans t1.symm
      have jb0 := jin_val (n := 2720) R.1 (by omega)
      clear R
      by_cases hc : cc.1 (2 + 4 * t) 4 ≤ q
      · left
        refine ⟨.inl (q, cc), .inl (q, mm), ?_, ?_, Or.inl ⟨_, _, rfl, rfl, g5⟩⟩
        · unfold B_X8_played_34
          dsimp only
          rw [if_pos hc]
        · unfold B_X9_played_21
          dsimp only
          rw [if_pos jb0, hb, if_pos hc]
      · have hc' : ¬ (cc.1 (2 + 4 * t) 4).toInt ≤ q.toInt := fun z => hc (i32_le.mpr z)
        obtain ⟨r, c', m', k1, k2, k3, k4⟩ := clause_rel hn g5 hv (by rw [g6]; omega) (q := q) (k := q.toInt.toNat) (by omega) (by omega)
        have hbc : B_X8_played_34 n t (q, cc) = (if r = true then some (.inl ((q + 1), c')) else some (.inr (.inr (q, c')))) := by
          unfold B_X8_played_34
          dsimp only
          rw [if_neg hc, if_neg (fun z => by have := i32_le.mp z; omega), if_pos (jin_of g2 (by omega)), i32_nat, k1]
          rfl
        have hbm : B_X9_played_21 n v1 (q, mm) = (if r = true then some (.inl ((q + 1), m')) else some (.inr (.inr (q, m')))) := by
          unfold B_X9_played_21
          dsimp only
          rw [if_pos jb0, hb, if_neg hc, k2]
          rfl
        cases r
        · left
          exact ⟨.inr (q, c'), .inr (q, m'), hbc, hbm, Or.inr ⟨_, _, rfl, rfl, rfl, k3⟩⟩
        · right
          have ei : (q + 1).toInt = q.toInt + 1 := i32_add (by omega) (by omega)
          exact ⟨(q + 1, c'), (q + 1, m'), 24 - (q.toInt.toNat + 1), by omega, hbc, hbm, rfl, by show 0 ≤ (q + 1).toInt; omega, by show (q + 1).toInt ≤ 24; omega, by show _ = 24 - (q + 1).toInt.toNat; omega, k3, k4.trans g6⟩) 24 n (0, c) (0, m) (by omega) ⟨rfl, by show (0 : Int) ≤ (0 : Int32).toInt; decide, by show (0 : Int32).toInt ≤ 24; decide, by show 24 = 24 - (0 : Int32).toInt.toNat; decide, hI, rfl⟩
    rcases hQ with ⟨x, y, rfl, rfl, q1⟩ | ⟨x, y, rfl, rfl, q1, q2⟩
    · refine ⟨-1, x.2, y.2, ?_, ?_, q1⟩
      · unfold F_X8_played
        rw [if_pos h1, if_pos h4, if_pos hj4, hvn, he]
        rfl
      · unfold F_X9_played
        rw [hw, if_pos h1, hf]
        rfl
    · refine ⟨x.1, x.2, y.2, ?_, ?_, q2⟩
      · unfold F_X8_played
        rw [if_pos h1, if_pos h4, if_pos hj4, hvn, he]
        rfl
      · unfold F_X9_played
        rw [hw, if_pos h1, hf, q1]
        rfl
  · refine ⟨-2, c, m, ?_, ?_, hI⟩
    · unfold F_X8_played
      rw [if_neg h1]
    · unfold F_X9_played
      rw [hw, if_neg h1]
