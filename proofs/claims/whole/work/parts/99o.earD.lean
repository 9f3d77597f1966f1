section
variable {V : oV} {a gu : Nat → Int32} {nd : Nat} {ρ : Nat → Int32} {v : Nat}
theorem eG_free {g : Nat} (h : freeB a (gu (4 * g + 1)) v = true) : eG V a gu nd ρ v g = 0 := by
  unfold eG
  split
  · exact gvX_free (fun hh w k => if_pos h) _
  · rfl
theorem eS_0 : ∀ cnt : Nat, (∀ g : Nat, g < cnt → eG V a gu nd ρ v g = 0) → eS V a gu nd ρ v cnt = 0 := by
  intro cnt
  induction cnt with
  | zero => intro _; rfl
  | succ k ih =>
    intro h
    show eS V a gu nd ρ v k + eG V a gu nd ρ v k = 0
    rw [ih (fun g hg => h g (by omega)), h k (by omega)]
end
section
variable {nd n : Nat} {EO : jEO} {c m : jS}
/-- a state of the trial: what was learnt stands -/
def tsC (n nd : Nat) (c m : jS) (W : Nat → Nat → Prop) (s : jS) : Prop := wkC c s ∧ (jz (s.1 29 6) = true ∨ tabOK (opV n (c.1 19) (c.1 20) (m.1 3)) s (s.2 32) nd (c.1 18 7)) ∧ ∀ g d r : Nat, (g : Int) < (c.1 18 8).toInt → d < nd → freeB (m.1 1) (c.1 23 (4 * g + 1)) d = false → (r : Int) < (c.1 18 7).toInt → W d r → lrnT nd (c.1 23) s g d r
theorem ts_w {W : Nat → Nat → Prop} (hI : Inv nd jText (LOw nd n) EO c m) {s s' : jS} (h : tsC n nd c m W s) (hw : wkC s s') (h29 : s'.1 29 = s.1 29) (h2 : s'.2 = s.2) : tsC n nd c m W s' := by
  have h4 := (I_asks hI).2.1
  obtain ⟨a1, a2, a3⟩ := h
  refine ⟨wkC_tr a1 hw, ?_, fun g d r b1 b2 b3 b4 b5 => ?_⟩
  · rw [h29, h2]
    rcases a2 with q | q
    · exact Or.inl q
    · exact Or.inr (tab_s q h4 (fun r hr => hw.1 _ (by omega)))
  · obtain ⟨k1, k2⟩ := a3 g d r b1 b2 b3 b4 b5
    refine ⟨by rw [h29]; exact k1, fun q => ?_⟩
    rw [hw.1 _ (by omega)] at q ⊢
    rw [h2]
    exact k2 q
theorem ts_rdy {W : Nat → Nat → Prop} (hI : Inv nd jText (LOw nd n) EO c m) {s : jS} {ρ : Nat → Int32} (h : tsC n nd c m W s) (hρ : ∀ d : Nat, d < 8 → s.1 52 d = ρ d) (hr : ∀ d : Nat, d < 8 → -1 ≤ (ρ d).toInt ∧ (ρ d).toInt < (c.1 18 7).toInt) (hW : ∀ d r : Nat, d < nd → (ρ d).toInt = r → W d r) {g : Nat} (hg : (g : Int) < (c.1 18 8).toInt) :
    rdy n s m nd (c.1 23 (4 * g)).toInt.toNat (freeB (m.1 1) (c.1 23 (4 * g + 1))) ρ 52 := by
  obtain ⟨hnd1, hnd⟩ := I_nd hI
  obtain ⟨i1, i2, i3, i4⟩ := I_asks hI
  obtain ⟨a1, a2, a3⟩ := h
  have hgo := guest_is hI hg
  have e18 : s.1 18 = c.1 18 := a1.1 18 (by decide)
  have e19 : s.1 19 = c.1 19 := a1.1 19 (by decide)
  have e20 : s.1 20 = c.1 20 := a1.1 20 (by decide)
  refine ⟨⟨fun r hr' => ?_, by rw [e18]; exact i2, by rw [e19]; exact i3, by rw [e20]; exact i4⟩, ⟨hnd1, hnd⟩, by rw [a1.2.1]; exact hI.1.1.2.2.1, by rw [a1.2.2.1]; exact hI.1.1.2.2.2.1, by have := hgo.1; omega, fun d hd => hρ d (by omega), fun d hd => by rw [e18]; exact hr d (by omega), fun d hd hfd h0 => ?_, fun d hd hfd t ht hz => ?_⟩
  · rw [e18] at hr'
    rw [a1.1 _ (by omega), a1.1 _ (by omega), a1.1 _ (by omega), a1.1 _ (by omega)]
    exact i1 r hr'
  · rw [e18, e19, e20]
    have hd' := hr d (by omega)
    have := a3 g d (ρ d).toInt.toNat hg hd hfd (by omega) (hW d _ hd (by omega))
    exact a2.resolve_left this.1
  · have hd' := hr d (by omega)
    exact (a3 g d t hg hd hfd (by omega) (hW d t hd ht)).2 hz
theorem eG_shut (hn : 400000 ≤ n) (hI : Inv nd jText (LOw nd n) EO c m) {ρ : Nat → Int32} (hr : ∀ d : Nat, d < 8 → -1 ≤ (ρ d).toInt ∧ (ρ d).toInt < (c.1 18 7).toInt) {v g : Nat} (hv : v < nd) (hg : (g : Int) < (c.1 18 8).toInt) (hno : ∀ t : Nat, (ρ v).toInt = t → ¬ jz (c.1 (2 + 4 * t) 6) = true) : eG (opV n (c.1 19) (c.1 20) (m.1 3)) (m.1 1) (c.1 23) nd ρ v g = 0 := by
  obtain ⟨hnd1, hnd⟩ := I_nd hI
  have ha := I_asks hI
  have hgo := guest_is hI hg
  by_cases hf : freeB (m.1 1) (c.1 23 (4 * g + 1)) v = true
  · exact eG_free hf
  · refine if_neg (fun hA => ?_)
    have h6 : ∀ h w k : Nat, w ≤ 9 → 1 ≤ k → k < 8 → guL (opV n (c.1 19) (c.1 20) (m.1 3)) (m.1 1) (c.1 23) ρ g v h w k = 6 := by
      intro h w k a1 a2 a3
      unfold guL sL
      rw [if_neg hf]
      by_cases z : (ρ v).toInt < 0
      · rw [if_pos z]
      · rw [if_neg z]
        exact shut_is hn ha (hr v (by omega)) hno (by omega) (Nat.mod_lt _ (by decide)) (by have := hgo.1; omega) a1 (by omega)
    have := vX_sht (ex := false) hv h6 24 0 0 0 (Nat.zero_le _) (by omega)
    have := hA.1
    omega
/-- the class's earnings -/
theorem earnedC_is (hn : 400000 ≤ n) (hI : Inv nd jText (LOw nd n) EO c m) {W : Nat → Nat → Prop} {ρ : Nat → Int32} {s : jS} (h : tsC n nd c m W s) (hρ : ∀ d : Nat, d < 8 → s.1 52 d = ρ d) (hr : ∀ d : Nat, d < 8 → -1 ≤ (ρ d).toInt ∧ (ρ d).toInt < (c.1 18 7).toInt) (hW : ∀ d r : Nat, d < nd → (ρ d).toInt = r → W d r) {v : Nat} {v1 : Int32} (e1 : v1.toInt = v) (hv : v < nd) :
    ∃ x s', F_X0_earned nd n v1 s = some (x, s') ∧ x.toInt = (eS (opV n (c.1 19) (c.1 20) (m.1 3)) (m.1 1) (c.1 23) nd ρ v (c.1 18 8).toInt.toNat : Nat) ∧ wyM s s' := by
  have l0 : (0 : Int32).toInt = 0 := rfl
  have l1 : (1 : Int32).toInt = 1 := rfl
  have l6 : (6 : Int32).toInt = 6 := rfl
  obtain ⟨hnd1, hnd⟩ := I_nd hI
  have h4 := (I_asks hI).2.1
  have hcnt := (guests_is hI).2.1
  have e18 : s.1 18 = c.1 18 := h.1.1 18 (by decide)
  have e22 : s.1 22 = c.1 22 := h.1.1 22 (by decide)
  have jv : jin v1 8 = true := jin_val e1 (by omega)
  have nv : v1.toNatClampNeg = v := nat_val e1
  have hv1 : v1 = Int32.ofNat v := i32_eq.mpr (by rw [ofNat_int (by omega)]; exact e1)
  obtain ⟨cn, hcn⟩ : ∃ cn : Nat, (c.1 18 8).toInt = cn := ⟨(c.1 18 8).toInt.toNat, by omega⟩
  have hcn2 : (c.1 18 8).toInt.toNat = cn := by omega
  rw [hcn2]
  by_cases hu : jz (c.1 22 v) = true
  · refine ⟨0, s, ?_, ?_, wyM_rfl⟩
    · unfold F_X0_earned
      rw [if_pos jv, nv, e22, if_pos hu]
    · rw [eS_0 cn (fun g hg => eG_free ((free_is hI _ hv).mpr (Or.inl hu)))]
      rfl
  · have hstart : F_X0_earned nd n v1 s = ((F_X3_isOpening (ρ v) s).bind fun p24 => (if p24 = true then ((lp (B_X0_earned_43 nd n v1) n (0, 0, s)).bind fun e43 => some (e43.1, e43.2.2)) else some (0, s))) := by
      unfold F_X0_earned
      rw [if_pos jv, nv, e22, if_neg hu, hρ v (by omega)]
    have hrv := hr v (by omega)
    have hshut : (∀ t : Nat, (ρ v).toInt = t → ¬ jz (c.1 (2 + 4 * t) 6) = true) → F_X3_isOpening (ρ v) s = some false → ∃ x s', F_X0_earned nd n v1 s = some (x, s') ∧ x.toInt = (eS (opV n (c.1 19) (c.1 20) (m.1 3)) (m.1 1) (c.1 23) nd ρ v cn : Nat) ∧ wyM s s' := by
      intro hno hop
      refine ⟨0, s, by rw [hstart, hop, Option.bind_some, if_neg (fun z => by cases z)], ?_, wyM_rfl⟩
      rw [eS_0 cn (fun g hg => eG_shut hn hI hr hv (by omega) hno)]
      rfl
    by_cases hneg : (ρ v).toInt < 0
    · refine hshut (fun t ht => by omega) ?_
      unfold F_X3_isOpening
      rw [if_pos (i32_lt.mpr (by omega))]
    · obtain ⟨t, ht⟩ : ∃ t : Nat, (ρ v).toInt = t := ⟨(ρ v).toInt.toNat, by omega⟩
      have ht4 : t < 4 := by omega
      have hop := opening_is (c := s) ht ht4 (by rw [e18]; omega)
      rw [h.1.1 _ (by omega)] at hop
      by_cases hz : jz (c.1 (2 + 4 * t) 6) = true
      · rw [hz] at hop
        obtain ⟨e, he, q1, q2⟩ := lp_rule (body := B_X0_earned_43 nd n v1)
          (I := fun q k => ∃ g : Nat, k = cn - g ∧ g ≤ cn ∧ q.2.1 = Int32.ofNat g ∧ q.1.toInt = (eS (opV n (c.1 19) (c.1 20) (m.1 3)) (m.1 1) (c.1 23) nd ρ v g : Nat) ∧ wyM s q.2.2)
          (Q := fun e => e.1.toInt = (eS (opV n (c.1 19) (c.1 20) (m.1 3)) (m.1 1) (c.1 23) nd ρ v cn : Nat) ∧ wyM s e.2.2) (by
          rintro ⟨x, gI, s1⟩ k ⟨g, g0, g1, g2, g3, g4⟩
          simp only at g2 g3 g4
          subst g2
          have hgI : (Int32.ofNat g).toInt = g := ofNat_int (by omega)
          have f18 : s1.1 18 = c.1 18 := by rw [g4.1 18 (by decide), e18]
          by_cases c1 : (s1.1 18 8) ≤ Int32.ofNat g
          · left
            have c1' := i32_le.mp c1
            rw [f18] at c1'
            have : g = cn := by omega
            subst this
            exact ⟨(x, Int32.ofNat g, s1), by unfold B_X0_earned_43; dsimp only; rw [if_pos c1], g3, g4⟩
          · right
            have c1' : ¬ (s1.1 18 8).toInt ≤ (Int32.ofNat g).toInt := fun z => c1 (i32_le.mpr z)
            rw [f18] at c1'
            have hg : (g : Int) < (c.1 18 8).toInt := by omega
            have hgo := guest_is hI hg
            have hts1 := ts_w hI h (wkC_w g4) (g4.1 29 (by decide)) g4.2.2
            have hnext : Int32.ofNat g + 1 = Int32.ofNat (g + 1) := i32_eq.mpr (by rw [i32_add (by omega) (by omega), ofNat_int (by omega), ofNat_int (by omega)]; omega)
            have hg4 : (Int32.ofNat g * 4).toInt = ((4 * g : Nat) : Int) := by rw [i32_mulR (n := 4) rfl (by omega) (by omega), hgI]; omega
            have l2 : (2 : Int32).toInt = 2 := rfl
            have l3 : (3 : Int32).toInt = 3 := rfl
            have hg41 : ((Int32.ofNat g * 4) + 1).toInt = ((4 * g + 1 : Nat) : Int) := by rw [i32_add (by omega) (by omega)]; omega
            have hg42 : ((Int32.ofNat g * 4) + 2).toInt = ((4 * g + 2 : Nat) : Int) := by rw [i32_add (by omega) (by omega)]; omega
            have hg43 : ((Int32.ofNat g * 4) + 3).toInt = ((4 * g + 3 : Nat) : Int) := by rw [i32_add (by omega) (by omega)]; omega
            have f23 : s1.1 23 = c.1 23 := by rw [g4.1 23 (by decide), h.1.1 23 (by decide)]
            have f22 : s1.1 22 = c.1 22 := by rw [g4.1 22 (by decide), e22]
            have f19 : s1.1 19 = c.1 19 := by rw [g4.1 19 (by decide), h.1.1 19 (by decide)]
            have f20 : s1.1 20 = c.1 20 := by rw [g4.1 20 (by decide), h.1.1 20 (by decide)]
            have c2 : ¬ (6 : Int32) ≤ Int32.ofNat g := fun z => by have := i32_le.mp z; omega
            have hsl := eS_le (V := opV n (c.1 19) (c.1 20) (m.1 3)) (a := m.1 1) (gu := c.1 23) (nd := nd) (ρ := ρ) (v := v) g
            have hss : eS (opV n (c.1 19) (c.1 20) (m.1 3)) (m.1 1) (c.1 23) nd ρ v (g + 1) = eS (opV n (c.1 19) (c.1 20) (m.1 3)) (m.1 1) (c.1 23) nd ρ v g + eG (opV n (c.1 19) (c.1 20) (m.1 3)) (m.1 1) (c.1 23) nd ρ v g := rfl
            by_cases hk : F_X8_hasKey (c.1 23 (4 * g + 1)) v1 = true
            · have heG : eG (opV n (c.1 19) (c.1 20) (m.1 3)) (m.1 1) (c.1 23) nd ρ v g = 0 := eG_free ((free_is hI _ hv).mpr (Or.inr (by rw [← hv1]; exact hk)))
              refine ⟨(x, Int32.ofNat (g + 1), s1), cn - (g + 1), by omega, ?_, g + 1, rfl, by omega, rfl, by show x.toInt = _; rw [g3, hss, heG]; rfl, g4⟩
              unfold B_X0_earned_43
              dsimp only
              rw [if_neg c1, if_neg c2, if_pos (jin_val hg41 (by omega)), nat_val hg41, f23, if_pos hk, hnext]
            · have hrd := ts_rdy hI hts1 (fun d hd => by rw [g4.1 52 (by decide)]; exact hρ d hd) hr hW hg
              obtain ⟨bb, s2, r1, r2, r3⟩ := findCheapest52_is hn hrd (v2 := c.1 23 (4 * g)) (v3 := c.1 23 (4 * g + 1)) (v4 := c.1 23 (4 * g + 2)) (v5 := 24) (v6 := c.1 23 (4 * g + 3)) (H := (c.1 23 (4 * g + 2)).toInt.toNat) (N := 24) (P := (c.1 23 (4 * g + 3)).toInt.toNat) (by have := hgo.1; omega) (by have := hgo.2.2.1; omega) (by have := hgo.2.2.1; omega) rfl (by decide) (by decide) (by have := hgo.2.2.2; omega) (by have := hgo.2.2.2; omega) (fun d hd => by rw [f22]; exact free_is hI _ hd)
              rw [f19, f20] at r3
              have hbody : B_X0_earned_43 nd n v1 (x, Int32.ofNat g, s1) = (if bb = true then (if jin v1 8 = true then some (.inl ((x + (s2.1 35 (Int32.toNatClampNeg v1))), Int32.ofNat (g + 1), s2)) else none) else some (.inl (x, Int32.ofNat (g + 1), s2))) := by
                unfold B_X0_earned_43
                dsimp only
                rw [if_neg c1, if_neg c2, if_pos (jin_val hg41 (by omega)), nat_val hg41, f23, if_neg hk, if_pos (jin_val hg4 (by omega)), if_pos (jin_val hg42 (by omega)), if_pos (jin_val hg43 (by omega)), nat_val hg4, nat_val hg42, nat_val hg43, r1, Option.bind_some, hnext]
              rcases r3 with ⟨hb, a1, a2, a3⟩ | ⟨hb, a1⟩
              · have heG : eG (opV n (c.1 19) (c.1 20) (m.1 3)) (m.1 1) (c.1 23) nd ρ v g = gvX (guL (opV n (c.1 19) (c.1 20) (m.1 3)) (m.1 1) (c.1 23) ρ g) nd false 24 v (vX (guL (opV n (c.1 19) (c.1 20) (m.1 3)) (m.1 1) (c.1 23) ρ g) nd false 24 0 0 0 % 100) := if_pos a1
                have h35 : (s2.1 35 v).toInt = (eG (opV n (c.1 19) (c.1 20) (m.1 3)) (m.1 1) (c.1 23) nd ρ v g : Nat) := by rw [heG]; exact a3.2.2.2 v hv
                have hel := eG_le (V := opV n (c.1 19) (c.1 20) (m.1 3)) (a := m.1 1) (gu := c.1 23) (nd := nd) (ρ := ρ) (v := v) (g := g)
                refine ⟨(x + s2.1 35 v, Int32.ofNat (g + 1), s2), cn - (g + 1), by omega, by rw [hbody, if_pos hb, if_pos jv, nv], g + 1, rfl, by omega, rfl, ?_, wyM_tr g4 r2⟩
                show (x + s2.1 35 v).toInt = _
                rw [i32_add (by omega) (by omega), hss]
                omega
              · have heG : eG (opV n (c.1 19) (c.1 20) (m.1 3)) (m.1 1) (c.1 23) nd ρ v g = 0 := if_neg a1
                refine ⟨(x, Int32.ofNat (g + 1), s2), cn - (g + 1), by omega, by rw [hbody, if_neg (by rw [hb]; exact fun z => by cases z)], g + 1, rfl, by omega, rfl, by show x.toInt = _; rw [g3, hss, heG]; rfl, wyM_tr g4 r2⟩) cn n (0, 0, s) (by omega) ⟨0, rfl, Nat.zero_le _, rfl, l0, wyM_rfl⟩
        exact ⟨e.1, e.2.2, by rw [hstart, hop, Option.bind_some, if_pos rfl, he, Option.bind_some], q1, q2⟩
      · have hzf : jz (c.1 (2 + 4 * t) 6) = false := by
          cases q : jz (c.1 (2 + 4 * t) 6) with
          | false => rfl
          | true => exact absurd q hz
        rw [hzf] at hop
        exact hshut (fun t' ht' => by
          have : t' = t := by omega
          rw [this]
          exact hz) hop
end
