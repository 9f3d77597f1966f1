/-! the class's start of a trial: what the rounds ask for is learnt -/
/-- rule r learnt at door d for guest g -/
def lrnT (nd : Nat) (gu : Nat → Int32) (s : jS) (g d r : Nat) : Prop := ¬ jz (s.1 29 6) = true ∧ (jz (s.1 (2 + 4 * r) 6) = true → ¬ s.2 32 (plI nd (s.1 (2 + 4 * r) 5) r d (gu (4 * g)).toInt.toNat) = 0)
/-- what is learnt stays -/
def kpM (s s' : jS) : Prop := lnM s s' ∧ (¬ jz (s.1 29 6) = true → ¬ jz (s'.1 29 6) = true ∧ ∀ j : Nat, ¬ s.2 32 j = 0 → ¬ s'.2 32 j = 0)
theorem kpM_rfl {s : jS} : kpM s s := ⟨lnM_rfl, fun h => ⟨h, fun _ q => q⟩⟩
theorem kpM_tr {a b c : jS} (h1 : kpM a b) (h2 : kpM b c) : kpM a c := ⟨lnM_tr h1.1 h2.1, fun h => ⟨(h2.2 (h1.2 h).1).1, fun j q => (h2.2 (h1.2 h).1).2 j ((h1.2 h).2 j q)⟩⟩
theorem lrn_k {nd : Nat} {gu : Nat → Int32} {s s' : jS} {g d r : Nat} (hr : r < 4) (hk : kpM s s') (h : lrnT nd gu s g d r) : lrnT nd gu s' g d r := by
  have e := hk.1.1 (2 + 4 * r) (by omega) (by omega) (by omega)
  obtain ⟨a, b⟩ := hk.2 h.1
  refine ⟨a, fun q => ?_⟩
  rw [e] at q ⊢
  exact b _ (h.2 q)
section
variable {nd n : Nat} {EO : jEO} {c m c1 : jS}
/-- the state at the start of a trial, but for the trial and the flag as the class has it -/
def atC (c c1 : jS) : Prop := (∀ k : Nat, ¬ k = 51 → ¬ k = 52 → c1.1 k = c.1 k) ∧ c1.1 51 1 = c.1 51 1 ∧ c1.2 = c.2 ∧ ∀ d : Nat, d < 8 → c1.1 52 d = c.1 21 d
/-- doors, guests and rules of the trial -/
def trC (n nd : Nat) (c m c1 s : jS) : Prop := kpM c1 s ∧ (jz (s.1 29 6) = true ∨ tabOK (opV n (c.1 19) (c.1 20) (m.1 3)) s (s.2 32) nd (c.1 18 7))
theorem tr_rows (hc : atC c c1) {s : jS} (h : trC n nd c m c1 s) : s.1 18 = c.1 18 ∧ s.1 19 = c.1 19 ∧ s.1 20 = c.1 20 ∧ s.1 22 = c.1 22 ∧ s.1 23 = c.1 23 ∧ s.1 29 0 = c.1 29 0 ∧ s.1 51 1 = c.1 51 1 ∧ s.1 52 = c1.1 52 := by
  have g := h.1.1
  refine ⟨?_, ?_, ?_, ?_, ?_, ?_, ?_, ?_⟩
  · rw [g.1 18 (by decide) (by decide) (by decide), hc.1 18 (by decide) (by decide)]
  · rw [g.1 19 (by decide) (by decide) (by decide), hc.1 19 (by decide) (by decide)]
  · rw [g.1 20 (by decide) (by decide) (by decide), hc.1 20 (by decide) (by decide)]
  · rw [g.1 22 (by decide) (by decide) (by decide), hc.1 22 (by decide) (by decide)]
  · rw [g.1 23 (by decide) (by decide) (by decide), hc.1 23 (by decide) (by decide)]
  · rw [g.2.1 0 (by decide), hc.1 29 (by decide) (by decide)]
  · rw [g.1 51 (by decide) (by decide) (by decide), hc.2.1]
  · rw [g.1 52 (by decide) (by decide) (by decide)]
theorem asks_at (hI : Inv nd jText (LOw nd n) EO c m) (hc : atC c c1) : asksR c1 m := by
  obtain ⟨h1, h2, h3, h4⟩ := I_asks hI
  have e18 : c1.1 18 = c.1 18 := hc.1 18 (by decide) (by decide)
  refine ⟨fun r hr => ?_, by rw [e18]; exact h2, by rw [hc.1 19 (by decide) (by decide)]; exact h3, by rw [hc.1 20 (by decide) (by decide)]; exact h4⟩
  rw [e18] at hr
  rw [hc.1 _ (by omega) (by omega), hc.1 _ (by omega) (by omega), hc.1 _ (by omega) (by omega), hc.1 _ (by omega) (by omega)]
  exact h1 r hr
theorem guest_is (hI : Inv nd jText (LOw nd n) EO c m) {g : Nat} (hg : (g : Int) < (c.1 18 8).toInt) : isGoer nd (c.1 23 (4 * g)) (c.1 23 (4 * g + 1)) (c.1 23 (4 * g + 2)) (c.1 23 (4 * g + 3)) := hI.1.2.1.2.2.2.2.2.1.2.2.2 g hg
theorem guests_is (hI : Inv nd jText (LOw nd n) EO c m) : c.1 18 8 = m.1 1 2 ∧ (0 ≤ (c.1 18 8).toInt ∧ (c.1 18 8).toInt ≤ 6) ∧ ∀ k : Nat, k < 24 → c.1 23 k = m.1 1 (60 + k) := ⟨hI.1.2.1.2.2.2.2.2.1.1, hI.1.2.1.2.2.2.2.2.1.2.1, hI.1.2.1.2.2.2.2.2.1.2.2.1⟩
/-- all rules at one door for one guest -/
theorem start94 (hn : 400000 ≤ n) (hI : Inv nd jText (LOw nd n) EO c m) (hc : atC c c1) {ch sh : Bool} {g d : Nat} (hg : (g : Int) < (c.1 18 8).toInt) (hd : d < nd) {s : jS} (hs : trC n nd c m c1 s) :
    ∃ e, lp (B_X0_startTrial_94 nd n ch (Int32.ofNat g) (Int32.ofNat d) sh) n (0, s) = some e ∧ trC n nd c m c1 e.2 ∧ kpM s e.2 ∧ (sh = true → ∀ r : Nat, (r : Int) < (c.1 18 7).toInt → (ch = true ∨ (c.1 21 d).toInt = r) → lrnT nd (c.1 23) e.2 g d r) := by
  have l0 : (0 : Int32).toInt = 0 := rfl
  have l1 : (1 : Int32).toInt = 1 := rfl
  have l4 : (4 : Int32).toInt = 4 := rfl
  obtain ⟨hnd1, hnd⟩ := I_nd hI
  have h4 := (I_asks hI).2.1
  have hcnt := (guests_is hI).2.1
  have hgo := guest_is hI hg
  have hgI : (Int32.ofNat g).toInt = g := ofNat_int (by omega)
  have hdI : (Int32.ofNat d).toInt = d := ofNat_int (by omega)
  have h29 : c.1 29 0 = Int32.ofNat nd := hI.1.1.2.2.1
  have hg4 : (Int32.ofNat g * 4).toInt = ((4 * g : Nat) : Int) := by rw [i32_mulR (n := 4) rfl (by omega) (by omega), hgI]; omega
  obtain ⟨e, he, q1, q2, q3⟩ := lp_rule (body := B_X0_startTrial_94 nd n ch (Int32.ofNat g) (Int32.ofNat d) sh)
    (I := fun q k => ∃ r : Nat, k = 4 - r ∧ (r : Int) ≤ (c.1 18 7).toInt ∧ q.1 = Int32.ofNat r ∧ trC n nd c m c1 q.2 ∧ kpM s q.2 ∧ (sh = true → ∀ r' : Nat, r' < r → (ch = true ∨ (c.1 21 d).toInt = r') → lrnT nd (c.1 23) q.2 g d r'))
    (Q := fun e => trC n nd c m c1 e.2 ∧ kpM s e.2 ∧ (sh = true → ∀ r : Nat, (r : Int) < (c.1 18 7).toInt → (ch = true ∨ (c.1 21 d).toInt = r) → lrnT nd (c.1 23) e.2 g d r)) (by
    rintro ⟨rI, s1⟩ k ⟨r, g0, g1, g2, g3, g4, g5⟩
    simp only at g2 g3 g4 g5
    subst g2
    have hrI : (Int32.ofNat r).toInt = r := ofNat_int (by omega)
    obtain ⟨t1, t2, t3, t4, t5, t6, t7, t8⟩ := tr_rows hc g3
    by_cases c1' : (s1.1 18 7) ≤ Int32.ofNat r
    · left
      have c1'' := i32_le.mp c1'
      rw [t1] at c1''
      exact ⟨(Int32.ofNat r, s1), by unfold B_X0_startTrial_94; dsimp only; rw [if_pos c1'], g3, g4, fun hsh r' hr' hch => g5 hsh r' (by omega) hch⟩
    · right
      have c1'' : ¬ (s1.1 18 7).toInt ≤ (Int32.ofNat r).toInt := fun z => c1' (i32_le.mpr z)
      rw [t1] at c1''
      have hnext : Int32.ofNat r + 1 = Int32.ofNat (r + 1) := i32_eq.mpr (by rw [i32_add (by omega) (by omega), ofNat_int (by omega), ofNat_int (by omega)]; omega)
      have jd : jin (Int32.ofNat d) 8 = true := jin_val hdI (by omega)
      have nD : (Int32.ofNat d).toNatClampNeg = d := nat_val hdI
      have s52 : s1.1 52 d = c.1 21 d := by rw [t8]; exact hc.2.2.2 d (by omega)
      by_cases hdo : sh = true ∧ (ch = true ∨ (c.1 21 d).toInt = r)
      · obtain ⟨hsh, hch⟩ := hdo
        have ha1 := asksR_l (asks_at hI hc) g3.1.1
        obtain ⟨s', r1, r2, r3, r4, r5, r6⟩ := learn_is hn ha1 (nd := nd) (v1 := Int32.ofNat r) (v2 := Int32.ofNat d) (v3 := c.1 23 (4 * g)) (d := d) (l := (c.1 23 (4 * g)).toInt.toNat) hnd (by rw [t6]; exact h29) hd (by have := hgo.1; omega) (by rw [t1]; omega) hdI (by have := hgo.1; omega) (by rw [t1, t2, t3]; exact g3.2)
        rw [t1, t2, t3] at r4
        have hk : kpM s1 s' := ⟨r2, fun h => ⟨r3, r5 h⟩⟩
        have h126 : J_X0_startTrial_126 nd n ch (Int32.ofNat g) (Int32.ofNat d) sh (Int32.ofNat r) s1 = some (.inl (Int32.ofNat (r + 1), s')) := by
          unfold J_X0_startTrial_126
          rw [if_pos (jin_val hg4 (by omega)), nat_val hg4, t5, r1, Option.bind_some, hnext]
        refine ⟨(Int32.ofNat (r + 1), s'), 4 - (r + 1), by omega, ?_, r + 1, rfl, by omega, rfl, ⟨kpM_tr g3.1 hk, Or.inr r4⟩, kpM_tr g4 hk, fun _ r' hr' hch' => ?_⟩
        · unfold B_X0_startTrial_94
          dsimp only
          rw [if_neg c1', if_pos hsh]
          by_cases z : ch = true
          · rw [if_pos z, h126]
          · rw [if_neg z, if_pos jd, nD, s52, if_pos (i32_eq.mpr (by rw [hrI]; exact ((hch.resolve_left z).symm))), h126]
        · by_cases z : r' = r
          · subst z
            refine ⟨r3, fun hz => ?_⟩
            have e := r2.1 (2 + 4 * r') (by omega) (by omega) (by omega)
            rw [e] at hz ⊢
            exact r6 r' hrI hz
          · exact lrn_k (by omega) hk (g5 hsh r' (by omega) hch')
      · refine ⟨(Int32.ofNat (r + 1), s1), 4 - (r + 1), by omega, ?_, r + 1, rfl, by omega, rfl, g3, g4, fun hsh r' hr' hch' => ?_⟩
        · unfold B_X0_startTrial_94
          dsimp only
          rw [if_neg c1']
          by_cases z : sh = true
          · rw [if_pos z, if_neg (fun y => hdo ⟨z, Or.inl y⟩), if_pos jd, nD, s52, if_neg (fun y => hdo ⟨z, Or.inr (by rw [← y]; exact hrI)⟩), hnext]
          · rw [if_neg z, hnext]
        · by_cases z : r' = r
          · subst z
            exact absurd ⟨hsh, hch'⟩ hdo
          · exact g5 hsh r' (by omega) hch') 4 n (0, s) (by omega) ⟨0, rfl, by have := (I_told hI).2.1; omega, rfl, hs, kpM_rfl, fun _ r' hr' => absurd hr' (Nat.not_lt_zero r')⟩
  exact ⟨e, he, q1, q2, q3⟩
end
