/-! what doors earn -/
def guL (V : oV) (a gu : Nat → Int32) (ρ : Nat → Int32) (g : Nat) : Nat → Nat → Nat → Nat → Nat := sL V (freeB a (gu (4 * g + 1))) ρ (gu (4 * g)).toInt.toNat (gu (4 * g + 2)).toInt.toNat
/-- what guest g gives at door v -/
def eG (V : oV) (a gu : Nat → Int32) (nd : Nat) (ρ : Nat → Int32) (v g : Nat) : Nat := if vX (guL V a gu ρ g) nd false 24 0 0 0 < 1000000 ∧ vX (guL V a gu ρ g) nd false 24 0 0 0 / 100 ≤ (gu (4 * g + 3)).toInt.toNat then gvX (guL V a gu ρ g) nd false 24 v (vX (guL V a gu ρ g) nd false 24 0 0 0 % 100) else 0
def eS (V : oV) (a gu : Nat → Int32) (nd : Nat) (ρ : Nat → Int32) (v : Nat) : Nat → Nat
  | 0 => 0
  | g + 1 => eS V a gu nd ρ v g + eG V a gu nd ρ v g
theorem gvX_le {L : Nat → Nat → Nat → Nat → Nat} {D : Nat} {ex : Bool} {N d : Nat} : ∀ k : Nat, gvX L D ex N d k ≤ 9 * k := by
  intro k
  induction k with
  | zero => exact Nat.le_refl _
  | succ k ih =>
    show gvX L D ex N d k + (if (posX L D ex N k).1 = d then actX L D ex N k % 10 else 0) ≤ _
    split <;> omega
theorem gvX_free {L : Nat → Nat → Nat → Nat → Nat} {D : Nat} {ex : Bool} {N d : Nat} (h : ∀ hh w k : Nat, L d hh w k = 0) : ∀ k : Nat, gvX L D ex N d k = 0 := by
  intro k
  induction k with
  | zero => rfl
  | succ k ih =>
    show gvX L D ex N d k + (if (posX L D ex N k).1 = d then actX L D ex N k % 10 else 0) = 0
    rw [ih]
    by_cases z : (posX L D ex N k).1 = d
    · rw [if_pos z]
      unfold actX
      rw [z]
      by_cases y : kX L D ex N k d (posX L D ex N k).2 = 0
      · rw [if_pos y]
      · rw [if_neg y, h]
        omega
    · rw [if_neg z]
theorem eG_le {V : oV} {a gu : Nat → Int32} {nd : Nat} {ρ : Nat → Int32} {v g : Nat} : eG V a gu nd ρ v g ≤ 900 := by
  unfold eG
  split
  · have := gvX_le (L := guL V a gu ρ g) (D := nd) (ex := false) (N := 24) (d := v) (vX (guL V a gu ρ g) nd false 24 0 0 0 % 100)
    omega
  · omega
theorem eS_le {V : oV} {a gu : Nat → Int32} {nd : Nat} {ρ : Nat → Int32} {v : Nat} : ∀ g : Nat, eS V a gu nd ρ v g ≤ 900 * g := by
  intro g
  induction g with
  | zero => exact Nat.le_refl _
  | succ g ih =>
    show eS V a gu nd ρ v g + eG V a gu nd ρ v g ≤ _
    have := eG_le (V := V) (a := a) (gu := gu) (nd := nd) (ρ := ρ) (v := v) (g := g)
    omega
/-- the reference's guests -/
def gsR (n : Nat) (V : oV) (told : Int32) (nd : Nat) (a z3 gu : Nat → Int32) (cnt : Nat) (ρ : Nat → Int32) (m : jS) : Prop :=
  isOp n V told a z3 ∧ m.1 1 = a ∧ m.1 3 = z3 ∧ m.1 0 2 = Int32.ofNat nd ∧ cnt ≤ 6 ∧ (a 2).toInt = cnt ∧ (∀ k : Nat, k < 24 → m.1 9 k = gu k) ∧ (∀ g : Nat, g < cnt → isGoer nd (gu (4 * g)) (gu (4 * g + 1)) (gu (4 * g + 2)) (gu (4 * g + 3))) ∧ (∀ d : Nat, d < 8 → m.1 10 d = ρ d ∧ -1 ≤ (ρ d).toInt ∧ (ρ d).toInt < told.toInt) ∧ told.toInt ≤ 4 ∧ cOK V told 0 cnt m
section
variable {n : Nat} {V : oV} {told : Int32} {nd : Nat} {a z3 gu : Nat → Int32} {cnt : Nat} {ρ : Nat → Int32}
theorem gs_goer {m : jS} (h : gsR n V told nd a z3 gu cnt ρ m) {g : Nat} (hg : g < cnt) : goerR n V told nd a z3 g (gu (4 * g)).toInt.toNat (gu (4 * g + 2)).toInt.toNat (gu (4 * g + 1)) ρ 0 cnt m := by
  obtain ⟨h1, h2, h3, h4, h5, h6, h7, h8, h9, h10, h11⟩ := h
  obtain ⟨b1, b2, b3, b4⟩ := h8 g hg
  refine ⟨h1, h2, h3, h4, ⟨Nat.zero_le _, hg, by omega⟩, ⟨?_, by omega⟩, ?_, ⟨?_, by omega⟩, h9, h10, h11⟩
  · rw [h7 _ (by omega)]; omega
  · rw [h7 _ (by omega)]
  · rw [h7 _ (by omega)]; omega
theorem gs_next {m m' : jS} (h : gsR n V told nd a z3 gu cnt ρ m) (ho : oM m m') (hc : cOK V told 0 cnt m') : gsR n V told nd a z3 gu cnt ρ m' := by
  obtain ⟨h1, h2, h3, h4, h5, h6, h7, h8, h9, h10, h11⟩ := h
  have e : ∀ k : Nat, k = 1 ∨ k = 3 ∨ k = 9 ∨ k = 10 → m'.1 k = m.1 k := fun k hk => ho.1 k (by omega) (by omega) (by omega) (by omega) (by omega) (by omega) (by omega)
  refine ⟨h1, by rw [e 1 (by omega)]; exact h2, by rw [e 3 (by omega)]; exact h3, by rw [ho.2.1 2 (by decide)]; exact h4, h5, h6, fun k hk => by rw [e 9 (by omega)]; exact h7 k hk, h8, fun d hd => by rw [e 10 (by omega)]; exact h9 d hd, h10, hc⟩
/-- the reference's sum over one way -/
theorem inner33 (hn : 400000 ≤ n) {L : Nat → Nat → Nat → Nat → Nat} {N v A : Nat} {v1 v3 acc : Int32} {m : jS} (ht : toldM L nd false N m) (hT : vX L nd false N 0 0 0 % 100 ≤ 48) (e1 : v1.toInt = v) (hA : acc.toInt = A) (hA2 : A ≤ 100000) :
    ∃ e, lp (B_X9_earned_33 n v1 v3 m) n (acc, 0) = some e ∧ e.1.toInt = ((A + gvX L nd false N v (vX L nd false N 0 0 0 % 100) : Nat) : Int) := by
  have l0 : (0 : Int32).toInt = 0 := rfl
  have l1 : (1 : Int32).toInt = 1 := rfl
  obtain ⟨T, hTe⟩ : ∃ T, vX L nd false N 0 0 0 % 100 = T := ⟨_, rfl⟩
  obtain ⟨t1, t2⟩ := ht
  rw [hTe] at t1 t2 hT ⊢
  obtain ⟨e, he, q1⟩ := lp_rule (body := B_X9_earned_33 n v1 v3 m)
    (I := fun q k => ∃ i : Nat, k = T - i ∧ i ≤ T ∧ q.2 = Int32.ofNat i ∧ q.1.toInt = ((A + gvX L nd false N v i : Nat) : Int))
    (Q := fun e => e.1.toInt = ((A + gvX L nd false N v T : Nat) : Int)) (by
    rintro ⟨x, iI⟩ k ⟨i, g0, g1, g2, g3⟩
    simp only at g2 g3
    subst g2
    have hiI : (Int32.ofNat i).toInt = i := ofNat_int (by omega)
    by_cases c1 : (m.1 0 31) ≤ Int32.ofNat i
    · left
      have c1' := i32_le.mp c1
      have : i = T := by omega
      subst this
      exact ⟨(x, Int32.ofNat i), by unfold B_X9_earned_33; dsimp only; rw [if_pos c1], g3⟩
    · right
      have c1' : ¬ (m.1 0 31).toInt ≤ (Int32.ofNat i).toInt := fun z => c1 (i32_le.mpr z)
      have hi : i < T := by omega
      have hnext : Int32.ofNat i + 1 = Int32.ofNat (i + 1) := i32_eq.mpr (by rw [i32_add (by omega) (by omega), ofNat_int (by omega), ofNat_int (by omega)]; omega)
      obtain ⟨a1, a2⟩ := t2 i hi
      have hgl := gvX_le (L := L) (D := nd) (ex := false) (N := N) (d := v) i
      have hgs : gvX L nd false N v (i + 1) = gvX L nd false N v i + (if (posX L nd false N i).1 = v then actX L nd false N i % 10 else 0) := rfl
      have hr : ((m.1 13 i) - (m.1 13 i) / 10 * 10).toInt = ((actX L nd false N i % 10 : Nat) : Int) := by rw [i32_rest (n := 10) rfl (by omega) (by omega), a1]; omega
      obtain ⟨y, hy⟩ : ∃ y, (m.1 13 i) - (m.1 13 i) / 10 * 10 = y := ⟨_, rfl⟩
      rw [hy] at hr
      by_cases z : m.1 14 i = v1
      · have z' : (posX L nd false N i).1 = v := by rw [z] at a2; omega
        rw [if_pos z'] at hgs
        refine ⟨(x + y, Int32.ofNat (i + 1)), T - (i + 1), by omega, ?_, i + 1, rfl, by omega, rfl, by show (x + y).toInt = _; rw [i32_add (by omega) (by omega), hgs]; omega⟩
        unfold B_X9_earned_33
        dsimp only
        rw [if_neg c1, if_pos (jin_val hiI (by omega)), nat_val hiI, if_pos z, hy, hnext]
      · have z' : ¬ (posX L nd false N i).1 = v := fun q => z (i32_eq.mpr (by rw [a2, e1, q]))
        rw [if_neg z'] at hgs
        refine ⟨(x + 0, Int32.ofNat (i + 1)), T - (i + 1), by omega, ?_, i + 1, rfl, by omega, rfl, by show (x + 0).toInt = _; rw [i32_add (by omega) (by omega), hgs]; omega⟩
        unfold B_X9_earned_33
        dsimp only
        rw [if_neg c1, if_pos (jin_val hiI (by omega)), nat_val hiI, if_neg z, hnext]) T n (acc, 0) (by omega) ⟨0, rfl, Nat.zero_le _, rfl, by rw [hA]; rfl⟩
  exact ⟨e, he, q1⟩
/-- the reference's earnings -/
theorem earnedM_is (hn : 400000 ≤ n) (hnd : nd ≤ 8) {v : Nat} {v1 : Int32} (e1 : v1.toInt = v) {m : jS} (hm : gsR n V told nd a z3 gu cnt ρ m) :
    ∃ x m', F_X9_earned n v1 m = some (x, m') ∧ x.toInt = (eS V a gu nd ρ v cnt : Nat) ∧ oM m m' ∧ gsR n V told nd a z3 gu cnt ρ m' := by
  have l0 : (0 : Int32).toInt = 0 := rfl
  have l1 : (1 : Int32).toInt = 1 := rfl
  have lM : (1000000 : Int32).toInt = 1000000 := rfl
  have hc6 := hm.2.2.2.2.1
  obtain ⟨e, he, q1, q2, q3⟩ := lp_rule (body := B_X9_earned_4 n v1)
    (I := fun q k => ∃ g : Nat, k = cnt - g ∧ g ≤ cnt ∧ q.2.1 = Int32.ofNat g ∧ q.1.toInt = (eS V a gu nd ρ v g : Nat) ∧ oM m q.2.2 ∧ gsR n V told nd a z3 gu cnt ρ q.2.2)
    (Q := fun e => e.1.toInt = (eS V a gu nd ρ v cnt : Nat) ∧ oM m e.2.2 ∧ gsR n V told nd a z3 gu cnt ρ e.2.2) (by
    rintro ⟨x, gI, s⟩ k ⟨g, g0, g1, g2, g3, g4, g5⟩
    simp only at g2 g3 g4 g5
    subst g2
    have hgI : (Int32.ofNat g).toInt = g := ofNat_int (by omega)
    have s12 : (s.1 1 2).toInt = cnt := by rw [g5.2.1]; exact g5.2.2.2.2.2.1
    by_cases c1 : (s.1 1 2) ≤ Int32.ofNat g
    · left
      have c1' := i32_le.mp c1
      have : g = cnt := by omega
      subst this
      refine ⟨(x, Int32.ofNat g, s), ?_, g3, g4, g5⟩
      unfold B_X9_earned_4
      dsimp only
      rw [show (Int32.toNatClampNeg 2) = 2 from rfl, if_pos c1]
    · right
      have c1' : ¬ (s.1 1 2).toInt ≤ (Int32.ofNat g).toInt := fun z => c1 (i32_le.mpr z)
      have hg : g < cnt := by omega
      have hnext : Int32.ofNat g + 1 = Int32.ofNat (g + 1) := i32_eq.mpr (by rw [i32_add (by omega) (by omega), ofNat_int (by omega), ofNat_int (by omega)]; omega)
      have hgo := g5.2.2.2.2.2.2.2.1 g hg
      obtain ⟨y, s1, r1, r2, r3, r4⟩ := cheapestM_is hn (gs_goer g5 hg) (v1 := Int32.ofNat g) (v2 := 24) (N := 24) (P := (gu (4 * g + 3)).toInt.toNat) hgI rfl hnd (by decide) (by rw [g5.2.2.2.2.2.2.1 _ (by omega)]; have := hgo.2.2.2; omega)
      have hs1 := gs_next g5 r2 r3.2.2.2.2.2.2.2.2.2.2
      have hsl := eS_le (V := V) (a := a) (gu := gu) (nd := nd) (ρ := ρ) (v := v) g
      have hss : eS V a gu nd ρ v (g + 1) = eS V a gu nd ρ v g + eG V a gu nd ρ v g := rfl
      have hbody : B_X9_earned_4 n v1 (x, Int32.ofNat g, s) = (if y = 1000000 then some (.inl (x, Int32.ofNat (g + 1), s1)) else ((lp (B_X9_earned_33 n v1 (Int32.ofNat g) s1) n (x, 0)).bind fun e33 => some (.inl (e33.1, Int32.ofNat (g + 1), s1)))) := by
        unfold B_X9_earned_4
        dsimp only
        rw [show (Int32.toNatClampNeg 2) = 2 from rfl, if_neg c1, r1, Option.bind_some, hnext]
      rcases r4 with ⟨a1, a2, a3⟩ | ⟨a1, a2⟩
      · have heG : eG V a gu nd ρ v g = gvX (guL V a gu ρ g) nd false 24 v (vX (guL V a gu ρ g) nd false 24 0 0 0 % 100) := if_pos a1
        have hfin := vX_fin (sL_le (V := V) (free := freeB a (gu (4 * g + 1))) (ρ := ρ) (l := (gu (4 * g)).toInt.toNat) (H := (gu (4 * g + 2)).toInt.toNat)) (D := nd) (ex := false) 24 0 0 0 (by decide) (Nat.zero_le _) hnd a1.1
        have hyne : ¬ y = 1000000 := fun z => by
          have := a1.1
          rw [z, lM] at a2
          omega
        obtain ⟨e, w1, w2⟩ := inner33 hn (v := v) (v3 := Int32.ofNat g) (A := eS V a gu nd ρ v g) a3 (by omega) e1 g3 (by omega)
        refine ⟨(e.1, Int32.ofNat (g + 1), s1), cnt - (g + 1), by omega, by rw [hbody, if_neg hyne, w1, Option.bind_some], g + 1, rfl, by omega, rfl, ?_, oM_tr g4 r2, hs1⟩
        show e.1.toInt = _
        rw [w2, hss, heG]
        rfl
      · have heG : eG V a gu nd ρ v g = 0 := if_neg a1
        refine ⟨(x, Int32.ofNat (g + 1), s1), cnt - (g + 1), by omega, by rw [hbody, if_pos a2], g + 1, rfl, by omega, rfl, ?_, oM_tr g4 r2, hs1⟩
        show x.toInt = _
        rw [g3, hss, heG]
        rfl) cnt n (0, 0, m) (by omega) ⟨0, rfl, Nat.zero_le _, rfl, l0, oM_rfl, hm⟩
  exact ⟨e.1, e.2.2, by unfold F_X9_earned; rw [he, Option.bind_some], q1, q2, q3⟩
end
