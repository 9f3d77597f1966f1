/-! the reference's least gift and cost of a next hour -/
theorem goerR_s {n : Nat} {V : oV} {told : Int32} {nd : Nat} {a z3 : Nat → Int32} {v l H : Nat} {ky : Int32} {ρ : Nat → Int32} {lo hi : Nat} {m m' : jS} (h : goerR n V told nd a z3 v l H ky ρ lo hi m) (g : ∀ k : Nat, k = 0 ∨ k = 1 ∨ k = 3 ∨ k = 9 ∨ k = 10 → m'.1 k = m.1 k) (hc : cOK V told lo hi m') : goerR n V told nd a z3 v l H ky ρ lo hi m' := by
  obtain ⟨h1, h2, h3, h4, h5, h6, h7, h8, h9, h10, h11⟩ := h
  unfold goerR
  rw [g 0 (by omega), g 1 (by omega), g 3 (by omega), g 9 (by omega), g 10 (by omega)]
  exact ⟨h1, h2, h3, h4, h5, h6, h7, h8, h9, h10, hc⟩
theorem cOK_s {V : oV} {told : Int32} {lo hi : Nat} {m m' : jS} (h : cOK V told lo hi m) (h9 : m'.1 9 = m.1 9) (h11 : m'.1 11 = m.1 11) : cOK V told lo hi m' := by
  unfold cOK
  rw [h9, h11]
  exact h
theorem v4_i32 {v1 : Int32} {v : Nat} (e1 : v1.toInt = v) (hv : v < 7) (j : Nat) (jj : Int32) (hj : jj.toInt = j) (hj3 : j ≤ 3) : ∃ x, 4 * v1 + jj = x ∧ jin x 28 = true ∧ x.toNatClampNeg = 4 * v + j := by
  have a1 : (4 * v1).toInt = 4 * v := by rw [i32_mulL (n := 4) rfl (by omega) (by omega)]; omega
  have a2 : (4 * v1 + jj).toInt = 4 * v + j := by rw [i32_add (by omega) (by omega)]; omega
  exact ⟨_, rfl, jin_of (by omega) (by omega), by rw [i32_nat]; omega⟩
theorem v4_i320 {v1 : Int32} {v : Nat} (e1 : v1.toInt = v) (hv : v < 7) : ∃ x, 4 * v1 = x ∧ jin x 28 = true ∧ x.toNatClampNeg = 4 * v := by
  have a1 : (4 * v1).toInt = 4 * v := by rw [i32_mulL (n := 4) rfl (by omega) (by omega)]; omega
  exact ⟨_, rfl, jin_of (by omega) (by omega), by rw [i32_nat]; omega⟩
theorem leastGift_is {n : Nat} (hn : 400000 ≤ n) {V : oV} {told : Int32} {nd : Nat} {a z3 : Nat → Int32} {v l H : Nat} {ky : Int32} {ρ : Nat → Int32} {lo hi : Nat} {m : jS} (hG : goerR n V told nd a z3 v l H ky ρ lo hi m) {v1 v2 v3 v4 v5 : Int32} {d h w k : Nat}
    (e1 : v1.toInt = v) (e2 : v2.toInt = d) (e3 : v3.toInt = h) (e4 : v4.toInt = w) (e5 : v5.toInt = k) (hd : d < 8) (hh : h < 24) (hw : w < 10) (hk : 1 ≤ k) (hk8 : k < 8) :
    ∃ g m', F_X9_leastGift n v1 v2 v3 v4 v5 m = some (g, m') ∧ g.toInt = ((if freeB a ky d = true then 0 else if (ρ d).toInt < 0 then 6 else lgV V (ρ d) l d h w k : Nat) : Int) ∧ gM m m' ∧ goerR n V told nd a z3 v l H ky ρ lo hi m' := by
  have hG0 := hG
  obtain ⟨h1, h2, h3, h4, ⟨h5, h5', h5''⟩, ⟨h6, h6'⟩, h7, ⟨h8, h8'⟩, h9, h10, h11⟩ := hG
  have l0 : (0 : Int32).toInt = 0 := rfl
  have l1 : (1 : Int32).toInt = 1 := rfl
  have l6 : (6 : Int32).toInt = 6 := rfl
  have l20 : (20 : Int32).toInt = 20 := rfl
  obtain ⟨x1, x1e, x1j, x1n⟩ := v4_i32 e1 (by omega) 1 1 rfl (by omega)
  obtain ⟨x0, x0e, x0j, x0n⟩ := v4_i320 e1 (by omega)
  have e20 : (20 + v2).toInt = ((20 + d : Nat) : Int) := by rw [i32_add (by omega) (by omega)]; omega
  have j20 : jin (20 + v2) 324 = true := jin_val e20 (by omega)
  have n20 : (20 + v2).toNatClampNeg = 20 + d := nat_val e20
  have jv2 : jin v2 8 = true := jin_val e2 hd
  have nv2 : v2.toNatClampNeg = d := nat_val e2
  have o2 : v2 = Int32.ofNat d := by rw [i32_of (x := v2) (by omega), show v2.toInt.toNat = d from by omega]
  have o3 : v3 = Int32.ofNat h := by rw [i32_of (x := v3) (by omega), show v3.toInt.toNat = h from by omega]
  have o4 : v4 = Int32.ofNat w := by rw [i32_of (x := v4) (by omega), show v4.toInt.toNat = w from by omega]
  have o5 : v5 = Int32.ofNat k := by rw [i32_of (x := v5) (by omega), show v5.toInt.toNat = k from by omega]
  obtain ⟨r9, r9a, r9b⟩ := h9 d hd
  have hval : F_X9_has (m.1 9 (4 * v + 1)) v2 = hasN ky d := by rw [h7, o2]; rfl
  by_cases f1 : a (20 + d) = 0
  · have hfree : freeB a ky d = true := by unfold freeB; rw [decide_eq_true f1, Bool.true_or]
    refine ⟨0, m, ?_, by rw [if_pos hfree]; rfl, gM_rfl, hG0⟩
    unfold F_X9_leastGift
    rw [if_pos j20, n20, h2, if_pos f1]
  · by_cases f2 : hasN ky d = true
    · have hfree : freeB a ky d = true := by unfold freeB; rw [f2, Bool.or_true]
      refine ⟨0, m, ?_, by rw [if_pos hfree]; rfl, gM_rfl, hG0⟩
      unfold F_X9_leastGift
      rw [if_pos j20, n20, h2, if_neg f1, x1e, if_pos x1j, x1n, hval, if_pos f2]
    · have hfree : ¬ freeB a ky d = true := by
        unfold freeB
        rw [decide_eq_false f1, Bool.false_or]
        exact f2
      rw [if_neg hfree]
      by_cases f3 : 0 ≤ ρ d
      · have f3' := i32_le.mp f3
        obtain ⟨r, hr⟩ : ∃ r : Nat, (ρ d).toInt = r := ⟨(ρ d).toInt.toNat, by omega⟩
        have hor : Int32.ofNat r = ρ d := by rw [i32_of (x := ρ d) (by omega), show (ρ d).toInt.toNat = r from by omega]
        rw [if_neg (by omega)]
        obtain ⟨i, ie, iv, ib⟩ := gi_i32 (v1 := v1) (ru := ρ d) (v2 := v2) (v3 := v3) (v4 := v4) (v5 := v5) e1 hr e2 e3 e4 e5 (by omega) (by omega) hd hh hw hk hk8
        have ji : jin i 376320 = true := jin_val iv ib
        have ni : i.toNatClampNeg = gi v r d h w k := nat_val iv
        have hbody : F_X9_leastGift n v1 v2 v3 v4 v5 m = (if (m.1 11 (gi v r d h w k)) < 0 then ((lp (B_X9_leastGift_100 n v1 v2 v3 v4 v5 (ρ d) i) n (0, m)).bind fun e100 => (some (e100.1, upI e100.2 11 (gi v r d h w k) e100.1))) else some ((m.1 11 (gi v r d h w k)), m)) := by
          unfold F_X9_leastGift
          rw [if_pos j20, n20, h2, if_neg f1, x1e, if_pos x1j, x1n, hval, if_neg f2, if_pos jv2, nv2, r9, if_pos f3, ie, if_pos ji, ni]
          by_cases z : (m.1 11 (gi v r d h w k)) < 0
          · rw [if_pos z, if_pos z]
            refine congrArg _ (funext fun e => ?_)
            rw [if_pos ji]
            rfl
          · rw [if_neg z, if_neg z]
        have hc := h11 v r d h w k h5 h5' (by omega) hd hh hw hk hk8
        rw [show (m.1 9 (4 * v)).toInt.toNat = l from by omega, hor] at hc
        by_cases f4 : (m.1 11 (gi v r d h w k)) < 0
        · rw [if_pos f4] at hbody
          have hload : m.1 9 (4 * v) = Int32.ofNat l := by rw [i32_of (x := m.1 9 (4 * v)) (by omega), show (m.1 9 (4 * v)).toInt.toNat = l from by omega]
          obtain ⟨e, he, q1, q2⟩ := lp_rule (body := B_X9_leastGift_100 n v1 v2 v3 v4 v5 (ρ d) i)
            (I := fun q j => 0 ≤ q.1.toInt ∧ q.1.toInt ≤ 6 ∧ j = 6 - q.1.toInt.toNat ∧ scrM m q.2 ∧ ∀ g : Nat, (g : Int) < q.1.toInt → ¬ V (ρ d) (Int32.ofNat d) (Int32.ofNat h) (Int32.ofNat k) (Int32.ofNat g) (Int32.ofNat w) (Int32.ofNat l) = true)
            (Q := fun e => e.1.toInt = (lgV V (ρ d) l d h w k : Nat) ∧ scrM m e.2) (by
            rintro ⟨q, s⟩ j ⟨g1, g2, g3, g4, g5⟩
            simp only at g1 g2 g4 g5
            by_cases hc6 : 6 ≤ q
            · left
              have hc6' := i32_le.mp hc6
              refine ⟨(q, s), by unfold B_X9_leastGift_100; dsimp only; rw [if_pos hc6], ?_, g4⟩
              have : lgV V (ρ d) l d h w k = 6 := lgF_is _ 6 (by omega) (fun g hg => g5 g (by omega)) (fun z => by omega)
              rw [this]
              show q.toInt = 6
              omega
            · have hc6' : ¬ (6 : Int32).toInt ≤ q.toInt := fun z => hc6 (i32_le.mpr z)
              have oq : q = Int32.ofNat q.toInt.toNat := i32_of g1
              have s9 : s.1 9 = m.1 9 := g4.1 9 (by decide) (by decide)
              obtain ⟨s', a1, a2⟩ := h1 s (by rw [g4.1 1 (by decide) (by decide)]; exact h2) (by rw [g4.1 3 (by decide) (by decide)]; exact h3) (ρ d) v2 v3 v5 q v4 (m.1 9 (4 * v)) ⟨⟨by omega, by omega⟩, ⟨by omega, by omega⟩, ⟨by omega, by omega⟩, ⟨by omega, by omega⟩, ⟨by omega, by omega⟩, ⟨by omega, by omega⟩, by omega, by omega⟩
              have g4' : scrM m s' := ⟨fun k b1 b2 => (a2.1 k b1 b2).trans (g4.1 k b1 b2), fun k b1 => (a2.2 k b1).trans (g4.2 k b1)⟩
              have hb : B_X9_leastGift_100 n v1 v2 v3 v4 v5 (ρ d) i (q, s) = (if V (ρ d) v2 v3 v5 q v4 (m.1 9 (4 * v)) = true then some (.inr (q, s')) else some (.inl ((q + 1), s'))) := by
                unfold B_X9_leastGift_100
                dsimp only
                rw [if_neg hc6, x0e, if_pos x0j, x0n, s9, a1, Option.bind_some]
              rw [hload, o2, o3, o4, o5] at hb
              by_cases hv : V (ρ d) (Int32.ofNat d) (Int32.ofNat h) (Int32.ofNat k) q (Int32.ofNat w) (Int32.ofNat l) = true
              · left
                rw [o2, o3, o4, o5, if_pos hv] at *
                refine ⟨(q, s'), hb, ?_, g4'⟩
                have : lgV V (ρ d) l d h w k = q.toInt.toNat := lgF_is _ _ (by omega) (fun g hg => g5 g (by omega)) (fun _ => by rw [← oq]; exact hv)
                rw [this]
                show q.toInt = _
                omega
              · right
                have hq1 : (q + 1).toInt = q.toInt + 1 := i32_add (by omega) (by omega)
                rw [o2, o3, o4, o5, if_neg hv] at *
                refine ⟨(q + 1, s'), 6 - (q + 1).toInt.toNat, (by clear hb; rw [g3]; show 6 - (q + 1).toInt.toNat < 6 - q.toInt.toNat; omega), hb, by show 0 ≤ (q + 1).toInt; omega, by show (q + 1).toInt ≤ 6; omega, rfl, g4', fun g hg => ?_⟩
                have hg' : (g : Int) < (q + 1).toInt := hg
                by_cases e : (g : Int) < q.toInt
                · exact g5 g e
                · have : g = q.toInt.toNat := by omega
                  rw [this, ← oq]; exact hv) 6 n (0, m) (by omega) ⟨Int.le_refl _, (by show (0 : Int32).toInt ≤ 6; decide), rfl, ⟨fun _ _ _ => rfl, fun _ _ => rfl⟩, fun g hg => by have hg' : (g : Int) < (0 : Int32).toInt := hg; rw [l0] at hg'; omega⟩
          rw [he, Option.bind_some] at hbody
          have hrow : ∀ k' : Nat, ¬ k' = 6 → ¬ k' = 8 → ¬ k' = 11 → (upI e.2 11 (gi v r d h w k) e.1).1 k' = m.1 k' := fun k' b1 b2 b3 => by
            rw [upI_1, if_neg b3]; exact q2.1 k' b1 b2
          refine ⟨e.1, _, hbody, q1, ⟨hrow, q2.2⟩, goerR_s hG0 (fun k' hk' => hrow k' (by omega) (by omega) (by omega)) ?_⟩
          intro v' r' d' h' w' k' c1 c2 c3 c4 c5 c6 c7 c8
          rw [hrow 9 (by decide) (by decide) (by decide), upI_1, if_pos rfl, q2.1 11 (by decide) (by decide)]
          by_cases ee : gi v' r' d' h' w' k' = gi v r d h w k
          · obtain ⟨rfl, rfl, rfl, rfl, rfl, rfl⟩ := gi_inj (by omega) c4 c5 c6 c7 c8 (by omega) hd hh hw hk hk8 ee
            rw [upd_eq rfl, show (m.1 9 (4 * v')).toInt.toNat = l from by omega, hor]
            exact Or.inr q1
          · rw [upd_ne ee]
            exact h11 v' r' d' h' w' k' c1 c2 c3 c4 c5 c6 c7 c8
        · rw [if_neg f4] at hbody
          have f4' : ¬ (m.1 11 (gi v r d h w k)).toInt < (0 : Int32).toInt := fun z => f4 (i32_lt.mpr z)
          refine ⟨_, m, hbody, ?_, gM_rfl, hG0⟩
          rcases hc with z | z
          · omega
          · exact z
      · have f3' : ¬ (0 : Int32).toInt ≤ (ρ d).toInt := fun z => f3 (i32_le.mpr z)
        refine ⟨6, m, ?_, by rw [if_pos (by omega)]; rfl, gM_rfl, hG0⟩
        unfold F_X9_leastGift
        rw [if_pos j20, n20, h2, if_neg f1, x1e, if_pos x1j, x1n, hval, if_neg f2, if_pos jv2, nv2, r9, if_neg f3]
def lfI (h d w : Nat) : Nat := (h * 9 + d) * 10 + w
theorem left_i32 {x y z : Int32} {h d w : Nat} (e1 : x.toInt = h) (e2 : y.toInt = d) (e3 : z.toInt = w) (hh : h ≤ 48) (hd : d ≤ 8) (hw : w < 10) : (F_X9_leftAt x y z).toInt = (lfI h d w : Nat) ∧ lfI h d w < 4410 := by
  have a1 : (x * 9).toInt = h * 9 := by rw [i32_mulR (n := 9) rfl (by omega) (by omega)]; omega
  have a2 : (x * 9 + y).toInt = h * 9 + d := by rw [i32_add (by omega) (by omega)]; omega
  have a3 : ((x * 9 + y) * 10).toInt = (h * 9 + d) * 10 := by rw [i32_mulR (n := 10) rfl (by omega) (by omega)]; omega
  unfold F_X9_leftAt lfI
  rw [i32_add (by omega) (by omega), a3]
  omega
/-- the table of one hour -/
def tabR (nd : Nat) (m : jS) (h : Nat) (X' : Nat → Nat → Nat) : Prop := ∀ d w : Nat, d ≤ nd → w < 10 → (m.1 12 (lfI h d w)).toInt = (X' d w : Nat) ∧ X' d w ≤ 1000000
theorem by_is {n : Nat} (hn : 400000 ≤ n) {V : oV} {told : Int32} {nd : Nat} {a z3 : Nat → Int32} {v l H : Nat} {ky : Int32} {ρ : Nat → Int32} {lo hi : Nat} {m : jS} (hG : goerR n V told nd a z3 v l H ky ρ lo hi m) {v1 v2 v3 v4 v5 : Int32} {h d w k : Nat} {X' : Nat → Nat → Nat}
    (e1 : v1.toInt = v) (e2 : v2.toInt = h) (e3 : v3.toInt = d) (e4 : v4.toInt = w) (e5 : v5.toInt = k) (hnd : nd ≤ 8) (hh : h < 48) (hd : d < nd) (hw : w < 10) (hk8 : k < 8) (hT : tabR nd m (h + 1) X') :
    ∃ x m', F_X9_by n v1 v2 v3 v4 v5 m = some (x, m') ∧ x.toInt = (optX (sL V (freeB a ky) ρ l H) X' h d w k : Nat) ∧ gM m m' ∧ goerR n V told nd a z3 v l H ky ρ lo hi m' := by
  have l0 : (0 : Int32).toInt = 0 := rfl
  have l1 : (1 : Int32).toInt = 1 := rfl
  have l9 : (9 : Int32).toInt = 9 := rfl
  have l6 : (6 : Int32).toInt = 6 := rfl
  have eh1 : (v2 + 1).toInt = ((h + 1 : Nat) : Int) := by rw [i32_add (by omega) (by omega)]; omega
  by_cases k0 : v5 = 0
  · have hk0 : k = 0 := by rw [k0, l0] at e5; omega
    subst hk0
    rw [opt_0]
    by_cases w9 : v4 = 9
    · have hw9 : w = 9 := by rw [w9, l9] at e4; omega
      obtain ⟨t1, t2⟩ := left_i32 (z := 9) (w := 9) eh1 e3 rfl (by omega) (by omega) (by omega)
      obtain ⟨t3, t4⟩ := hT d 9 (by omega) (by omega)
      have hc9 : capW w = 9 := by unfold capW; rw [if_pos hw9]
      refine ⟨m.1 12 (lfI (h + 1) d 9) + 1, m, ?_, ?_, gM_rfl, hG⟩
      · unfold F_X9_by
        rw [if_pos k0, if_pos w9, if_pos (jin_val t1 t2), nat_val t1]
      · rw [i32_add (by omega) (by omega), hc9]; omega
    · have hw9 : ¬ w = 9 := fun z => w9 (i32_eq.mpr (by omega))
      have ew : (v4 + 1).toInt = ((w + 1 : Nat) : Int) := by rw [i32_add (by omega) (by omega)]; omega
      obtain ⟨t1, t2⟩ := left_i32 eh1 e3 ew (by omega) (by omega) (by omega)
      obtain ⟨t3, t4⟩ := hT d (w + 1) (by omega) (by omega)
      have hc9 : capW w = w + 1 := by unfold capW; rw [if_neg hw9]
      refine ⟨m.1 12 (lfI (h + 1) d (w + 1)) + 1, m, ?_, ?_, gM_rfl, hG⟩
      · unfold F_X9_by
        rw [if_pos k0, if_neg w9, if_pos (jin_val t1 t2), nat_val t1]
      · rw [i32_add (by omega) (by omega), hc9]; omega
  · have hk0 : ¬ k = 0 := fun z => k0 (i32_eq.mpr (by omega))
    obtain ⟨x2, x2e, x2j, x2n⟩ := v4_i32 e1 (by have := hG.2.2.2.2.1; omega) 2 2 rfl (by omega)
    obtain ⟨hH, hH24⟩ := hG.2.2.2.2.2.2.2.1
    have eH : (m.1 9 (4 * v + 2) + v2).toInt = ((H + h : Nat) : Int) := by rw [i32_add (by omega) (by omega)]; omega
    obtain ⟨hr, hre⟩ : ∃ hr, (m.1 9 (4 * v + 2) + v2) - (m.1 9 (4 * v + 2) + v2) / 24 * 24 = hr := ⟨_, rfl⟩
    have ehr : hr.toInt = (((H + h) % 24 : Nat) : Int) := by
      rw [← hre, i32_rest (n := 24) rfl (by omega) (by omega), eH]
      omega
    obtain ⟨g, m', a1, a2, a3, a4⟩ := leastGift_is hn hG (v1 := v1) (v2 := v3) (v3 := hr) (v4 := v4) (v5 := v5) e1 e3 ehr e4 e5 (by omega) (by omega) hw (by omega) hk8
    have hLd : sL V (freeB a ky) ρ l H d h w k = (if freeB a ky d = true then 0 else if (ρ d).toInt < 0 then 6 else lgV V (ρ d) l d ((H + h) % 24) w k) := rfl
    rw [← hLd] at a2
    have hL6 := sL_le (V := V) (free := freeB a ky) (ρ := ρ) (l := l) (H := H) d h w k
    by_cases g6 : g = 6
    · have hL : sL V (freeB a ky) ρ l H d h w k = 6 := by rw [g6, l6] at a2; omega
      refine ⟨1000000, m', ?_, by rw [opt_6 hk0 hL]; rfl, a3, a4⟩
      unfold F_X9_by
      rw [if_neg k0, x2e, if_pos x2j, x2n, hre, a1, Option.bind_some, if_pos g6]
    · have hL : ¬ sL V (freeB a ky) ρ l H d h w k = 6 := fun z => g6 (i32_eq.mpr (by omega))
      have ed1 : (v3 + 1).toInt = ((d + 1 : Nat) : Int) := by rw [i32_add (by omega) (by omega)]; omega
      obtain ⟨t1, t2⟩ := left_i32 (z := 0) (w := 0) eh1 ed1 rfl (by omega) (by omega) (by omega)
      obtain ⟨t3, t4⟩ := hT (d + 1) 0 (by omega) (by omega)
      have m12 : m'.1 12 = m.1 12 := a3.1 12 (by decide) (by decide) (by decide)
      have eg : (100 * g).toInt = 100 * g.toInt := i32_mulL (n := 100) rfl (by omega) (by omega)
      have es : (m.1 12 (lfI (h + 1) (d + 1) 0) + 100 * g).toInt = (m.1 12 (lfI (h + 1) (d + 1) 0)).toInt + 100 * g.toInt := by rw [i32_add (by omega) (by omega), eg]
      refine ⟨(m.1 12 (lfI (h + 1) (d + 1) 0) + (100 * g)) + 1, m', ?_, ?_, a3, a4⟩
      · unfold F_X9_by
        rw [if_neg k0, x2e, if_pos x2j, x2n, hre, a1, Option.bind_some, if_neg g6, if_pos (jin_val t1 t2), nat_val t1, m12]
      · rw [opt_k hk0 hL, i32_add (by omega) (by omega), es]
        omega
