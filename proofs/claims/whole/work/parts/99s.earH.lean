/-! the best rule on both sides -/
def eE (V : oV) (a gu : Nat → Int32) (nd cn : Nat) : eFn := fun ρ v => eS V a gu nd ρ v cn
/-- but for the trial and the ways all stands -/
def bkM (s s' : jS) : Prop := (∀ k : Nat, k < 33 ∨ 39 < k → ¬ k = 52 → s'.1 k = s.1 k) ∧ (∀ j : Nat, 1 < j → ¬ j = 11 → s'.1 33 j = s.1 33 j) ∧ s'.2 = s.2
theorem bkM_rfl {s : jS} : bkM s s := ⟨fun _ _ _ => rfl, fun _ _ _ => rfl, rfl⟩
theorem bkM_tr {a b c : jS} (h1 : bkM a b) (h2 : bkM b c) : bkM a c := ⟨fun k a1 a2 => (h2.1 k a1 a2).trans (h1.1 k a1 a2), fun j a1 a2 => (h2.2.1 j a1 a2).trans (h1.2.1 j a1 a2), h2.2.2.trans h1.2.2⟩
theorem bkM_w {s s' : jS} (h : wyM s s') : bkM s s' := ⟨fun k hk _ => h.1 k hk, h.2.1, h.2.2⟩
theorem bkM_52 (s : jS) (j : Nat) (x : Int32) : bkM s (upI s 52 j x) := ⟨fun k _ h52 => by rw [upI_1, if_neg h52], fun j _ _ => by rw [upI_1, if_neg (by decide)], rfl⟩
theorem wkC_b {s s' : jS} (h : bkM s s') : wkC s s' := ⟨fun k hk => h.1 k (by omega) (by omega), by rw [h.1 29 (by decide) (by decide)], h.2.1 4 (by decide) (by decide), by rw [h.1 51 (by decide) (by decide)]⟩
section
variable {nd n : Nat} {EO : jEO} {c m : jS}
theorem ts_b {W : Nat → Nat → Prop} (hI : Inv nd jText (LOw nd n) EO c m) {s s' : jS} (h : tsC n nd c m W s) (hb : bkM s s') : tsC n nd c m W s' := ts_w hI h (wkC_b hb) (hb.1 29 (by decide) (by decide)) hb.2.2
/-- the class's best rule at a door -/
theorem bestC_is (hn : 400000 ≤ n) (hI : Inv nd jText (LOw nd n) EO c m) {W : Nat → Nat → Prop} (hW : ∀ d r : Nat, W d r) {ρ : Nat → Int32} {s : jS} (h : tsC n nd c m W s) (hρ : ∀ d : Nat, d < 8 → s.1 52 d = ρ d) (hr : inR (c.1 18 7) ρ) {v : Nat} {v1 : Int32} (e1 : v1.toInt = v) (hv : v < nd) :
    ∃ s', F_X0_bestRule nd n v1 s = some (bestF (eE (opV n (c.1 19) (c.1 20) (m.1 3)) (m.1 1) (c.1 23) nd (c.1 18 8).toInt.toNat) (c.1 18 7).toInt.toNat ρ v, s') ∧ bkM s s' ∧ ∀ d : Nat, d < 8 → s'.1 52 d = ρ d := by
  have l0 : (0 : Int32).toInt = 0 := rfl
  obtain ⟨hnd1, hnd⟩ := I_nd hI
  have h4 := (I_asks hI).2.1
  have ht0 := (I_told hI).2.1
  obtain ⟨tn, htn⟩ : ∃ tn : Nat, (c.1 18 7).toInt = tn := ⟨(c.1 18 7).toInt.toNat, by omega⟩
  have htn2 : (c.1 18 7).toInt.toNat = tn := by omega
  rw [htn2]
  obtain ⟨E, hE⟩ : ∃ E, eE (opV n (c.1 19) (c.1 20) (m.1 3)) (m.1 1) (c.1 23) nd (c.1 18 8).toInt.toNat = E := ⟨_, rfl⟩
  rw [hE]
  have jv : jin v1 8 = true := jin_val e1 (by omega)
  have nv : v1.toNatClampNeg = v := nat_val e1
  have hearn : ∀ (s1 : jS) (ρ1 : Nat → Int32), bkM s s1 → inR (c.1 18 7) ρ1 → (∀ d : Nat, d < 8 → s1.1 52 d = ρ1 d) → ∃ x s2, F_X0_earned nd n v1 s1 = some (x, s2) ∧ x.toInt = (E ρ1 v : Nat) ∧ wyM s1 s2 := by
    intro s1 ρ1 hb hr1 h52
    obtain ⟨x, s2, r1, r2, r3⟩ := earnedC_is hn hI (ts_b hI h hb) h52 hr1 (fun d r _ _ => hW d r) e1 hv
    exact ⟨x, s2, r1, by rw [r2, ← hE]; rfl, r3⟩
  have hown := hρ v (by omega)
  obtain ⟨x0, s0, p1, p2, p3⟩ := hearn s ρ bkM_rfl hr hρ
  obtain ⟨e, he, q1, q2, q3⟩ := lp_rule (body := B_X0_bestRule_19 nd n v1 (ρ v))
    (I := fun q k => ∃ i : Nat, k = tn + 1 - i ∧ i ≤ tn + 1 ∧ q.1 = (bstI E ρ v i).1 ∧ q.2.1.toInt = ((bstI E ρ v i).2 : Nat) ∧ q.2.2.1 = trR i ∧ bkM s q.2.2.2 ∧ ∀ d : Nat, d < 8 → ¬ d = v → q.2.2.2.1 52 d = ρ d)
    (Q := fun e => e.1 = (bstI E ρ v (tn + 1)).1 ∧ bkM s e.2.2.2 ∧ ∀ d : Nat, d < 8 → ¬ d = v → e.2.2.2.1 52 d = ρ d) (by
    rintro ⟨b, mo, rI, s1⟩ k ⟨i, g0, g1, g2, g3, g4, g5, g6⟩
    simp only at g2 g3 g4 g5 g6
    subst g4
    have hri := trR_i (i := i) (by omega)
    have f18 : s1.1 18 7 = c.1 18 7 := by rw [g5.1 18 (by decide) (by decide), h.1.1 18 (by decide)]
    by_cases c1 : (s1.1 18 7) ≤ trR i
    · left
      have c1' := i32_le.mp c1
      rw [f18] at c1'
      have : i = tn + 1 := by omega
      subst this
      exact ⟨(b, mo, trR (tn + 1), s1), by unfold B_X0_bestRule_19; dsimp only; rw [if_pos c1], g2, g5, g6⟩
    · right
      have c1' : ¬ (s1.1 18 7).toInt ≤ (trR i).toInt := fun z => c1 (i32_le.mpr z)
      rw [f18] at c1'
      have hnext := trR_next (i := i) (by omega)
      have hb1 : bkM s (upI s1 52 v (trR i)) := bkM_tr g5 (bkM_52 _ _ _)
      have h52 : ∀ d : Nat, d < 8 → (upI s1 52 v (trR i)).1 52 d = upd ρ v (trR i) d := by
        intro d hd
        rw [upI_1, if_pos rfl]
        by_cases z : d = v
        · rw [upd_eq z, upd_eq z]
        · rw [upd_ne z, upd_ne z]
          exact g6 d hd z
      have h52n : ∀ d : Nat, d < 8 → ¬ d = v → (upI s1 52 v (trR i)).1 52 d = ρ d := fun d hd z => by rw [h52 d hd, upd_ne z]
      have hbs : bstI E ρ v (i + 1) = if (bstI E ρ v i).2 < E (upd ρ v (trR i)) v then (trR i, E (upd ρ v (trR i)) v) else bstI E ρ v i := rfl
      by_cases ho : trR i = ρ v
      · have hle : ¬ (bstI E ρ v i).2 < E (upd ρ v (trR i)) v := by
          rw [upd_same ho]
          have := bst_ge (E := E) (ρ := ρ) (v := v) i
          omega
        rw [if_neg hle] at hbs
        refine ⟨(b, mo, trR (i + 1), upI s1 52 v (trR i)), tn + 1 - (i + 1), by omega, ?_, i + 1, rfl, by omega, by rw [hbs]; exact g2, by rw [hbs]; exact g3, rfl, hb1, h52n⟩
        unfold B_X0_bestRule_19
        dsimp only
        rw [if_neg c1, if_pos jv, jl_1, nv, if_pos ho]
        unfold J_X0_bestRule_54
        rw [if_pos (i32_le.mpr (by omega)), hnext]
      · obtain ⟨x, s2, r1, r2, r3⟩ := hearn _ _ hb1 (inR_upd hr (by omega) (by omega)) h52
        have hb2 := bkM_tr hb1 (bkM_w r3)
        have h52' : ∀ d : Nat, d < 8 → ¬ d = v → s2.1 52 d = ρ d := fun d hd z => by rw [r3.1 52 (by decide)]; exact h52n d hd z
        have hbody : B_X0_bestRule_19 nd n v1 (ρ v) (b, mo, trR i, s1) = J_X0_bestRule_54 nd n v1 (ρ v) b mo (trR i) x s2 := by
          unfold B_X0_bestRule_19
          dsimp only
          rw [if_neg c1, if_pos jv, jl_1, nv, if_neg ho, r1, Option.bind_some]
        by_cases hlt : (bstI E ρ v i).2 < E (upd ρ v (trR i)) v
        · rw [if_pos hlt] at hbs
          refine ⟨(trR i, x, trR (i + 1), s2), tn + 1 - (i + 1), by omega, ?_, i + 1, rfl, by omega, by rw [hbs], by rw [hbs]; exact r2, rfl, hb2, h52'⟩
          rw [hbody]
          unfold J_X0_bestRule_54
          rw [if_neg (fun z => by have := i32_le.mp z; omega), hnext]
        · rw [if_neg hlt] at hbs
          refine ⟨(b, mo, trR (i + 1), s2), tn + 1 - (i + 1), by omega, ?_, i + 1, rfl, by omega, by rw [hbs]; exact g2, by rw [hbs]; exact g3, rfl, hb2, h52'⟩
          rw [hbody]
          unfold J_X0_bestRule_54
          rw [if_pos (i32_le.mpr (by omega)), hnext]) (tn + 1) n (ρ v, x0, -1, s0) (by omega) ⟨0, rfl, by omega, rfl, p2, trR_0.symm, bkM_w p3, fun d hd _ => by rw [p3.1 52 (by decide)]; exact hρ d hd⟩
  refine ⟨upI e.2.2.2 52 v (ρ v), ?_, bkM_tr q2 (bkM_52 _ _ _), fun d hd => ?_⟩
  · unfold F_X0_bestRule
    rw [if_pos jv, p1, Option.bind_some, nv, hown, he, Option.bind_some, if_pos jv, jl_1, q1]
    rfl
  · rw [upI_1, if_pos rfl]
    by_cases z : d = v
    · rw [upd_eq z, z]
    · rw [upd_ne z]
      exact q3 d hd z
end
section
variable {n : Nat} {V : oV} {told : Int32} {nd : Nat} {a z3 gu : Nat → Int32} {cnt : Nat} {ρ : Nat → Int32}
theorem gs_set {m : jS} (h : gsR n V told nd a z3 gu cnt ρ m) {v : Nat} {r : Int32} (h1 : -1 ≤ r.toInt) (h2 : r.toInt < told.toInt) : gsR n V told nd a z3 gu cnt (upd ρ v r) (upI m 10 v r) := by
  obtain ⟨a1, a2, a3, a4, a5, a6, a7, a8, a9, a10, a11⟩ := h
  refine ⟨a1, a2, a3, a4, a5, a6, a7, a8, fun d hd => ?_, a10, cOK_s a11 rfl rfl⟩
  rw [upI_1, if_pos rfl]
  by_cases z : d = v
  · rw [upd_eq z, upd_eq z]; exact ⟨rfl, h1, h2⟩
  · rw [upd_ne z, upd_ne z]; exact a9 d hd
theorem wkM_10 {m : jS} (j : Nat) (x : Int32) : wkM m (upI m 10 j x) := ⟨fun k k1 k2 => by rw [upI_1, if_neg (by omega)], rfl, rfl, rfl, rfl⟩
/-- the reference's best rule at a door -/
theorem bestM_is (hn : 400000 ≤ n) (hnd : nd ≤ 8) {m : jS} (hm : gsR n V told nd a z3 gu cnt ρ m) (h0 : (a 0) = told) (ht0 : 0 ≤ told.toInt) {v : Nat} {v1 : Int32} (e1 : v1.toInt = v) (hv : v < nd) :
    ∃ m', F_X9_bestRule n v1 m = some (bestF (eE V a gu nd cnt) told.toInt.toNat ρ v, m') ∧ wkM m m' ∧ gsR n V told nd a z3 gu cnt ρ m' := by
  have l0 : (0 : Int32).toInt = 0 := rfl
  have h4 := hm.2.2.2.2.2.2.2.2.2.1
  obtain ⟨tn, htn⟩ : ∃ tn : Nat, told.toInt = tn := ⟨told.toInt.toNat, by omega⟩
  have htn2 : told.toInt.toNat = tn := by omega
  rw [htn2]
  have jv : jin v1 8 = true := jin_val e1 (by omega)
  have nv : v1.toNatClampNeg = v := nat_val e1
  obtain ⟨x0, m0, p1, p2, p3, p4⟩ := earnedM_is hn hnd e1 hm
  have hown : m.1 10 v = ρ v := (hm.2.2.2.2.2.2.2.2.1 v (by omega)).1
  have hρv := (hm.2.2.2.2.2.2.2.2.1 v (by omega)).2
  obtain ⟨e, he, q1, q2, r, q3, q4, q5⟩ := lp_rule (body := B_X9_bestRule_19 n v1 (ρ v))
    (I := fun q k => ∃ i : Nat, k = tn + 1 - i ∧ i ≤ tn + 1 ∧ q.1 = (bstI (eE V a gu nd cnt) ρ v i).1 ∧ q.2.1.toInt = ((bstI (eE V a gu nd cnt) ρ v i).2 : Nat) ∧ q.2.2.1 = trR i ∧ wkM m q.2.2.2 ∧ ∃ r : Int32, -1 ≤ r.toInt ∧ r.toInt < told.toInt ∧ gsR n V told nd a z3 gu cnt (upd ρ v r) q.2.2.2)
    (Q := fun e => e.1 = (bstI (eE V a gu nd cnt) ρ v (tn + 1)).1 ∧ wkM m e.2.2.2 ∧ ∃ r : Int32, -1 ≤ r.toInt ∧ r.toInt < told.toInt ∧ gsR n V told nd a z3 gu cnt (upd ρ v r) e.2.2.2) (by
    rintro ⟨b, mo, rI, s1⟩ k ⟨i, g0, g1, g2, g3, g4, g5, r, g6, g7, g8⟩
    simp only at g2 g3 g4 g5 g8
    subst g4
    have hri := trR_i (i := i) (by omega)
    have f10 : s1.1 1 0 = told := by rw [g8.2.1]; exact h0
    by_cases c1 : (s1.1 1 0) ≤ trR i
    · left
      have c1' := i32_le.mp c1
      rw [f10] at c1'
      have : i = tn + 1 := by omega
      subst this
      refine ⟨(b, mo, trR (tn + 1), s1), ?_, g2, g5, r, g6, g7, g8⟩
      unfold B_X9_bestRule_19
      dsimp only
      rw [show (Int32.toNatClampNeg 0) = 0 from rfl, if_pos c1]
    · right
      have c1' : ¬ (s1.1 1 0).toInt ≤ (trR i).toInt := fun z => c1 (i32_le.mpr z)
      rw [f10] at c1'
      have hnext := trR_next (i := i) (by omega)
      have hg := gs_set g8 (v := v) (r := trR i) (by omega) (by omega)
      rw [upd_two] at hg
      obtain ⟨x, s2, r1, r2, r3, r4⟩ := earnedM_is hn hnd e1 hg
      have hx : x.toInt = (eE V a gu nd cnt (upd ρ v (trR i)) v : Nat) := r2
      have hw2 : wkM m s2 := wkM_tr g5 (wkM_tr (wkM_10 _ _) (wkM_o r3))
      have hbs : bstI (eE V a gu nd cnt) ρ v (i + 1) = if (bstI (eE V a gu nd cnt) ρ v i).2 < eE V a gu nd cnt (upd ρ v (trR i)) v then (trR i, eE V a gu nd cnt (upd ρ v (trR i)) v) else bstI (eE V a gu nd cnt) ρ v i := rfl
      have hbody : B_X9_bestRule_19 n v1 (ρ v) (b, mo, trR i, s1) = (if mo < x then some (.inl (trR i, x, trR (i + 1), s2)) else some (.inl (b, mo, trR (i + 1), s2))) := by
        unfold B_X9_bestRule_19
        dsimp only
        rw [show (Int32.toNatClampNeg 0) = 0 from rfl, if_neg c1, if_pos jv, jl_1, nv, r1, Option.bind_some, hnext]
      by_cases hlt : (bstI (eE V a gu nd cnt) ρ v i).2 < eE V a gu nd cnt (upd ρ v (trR i)) v
      · rw [if_pos hlt] at hbs
        refine ⟨(trR i, x, trR (i + 1), s2), tn + 1 - (i + 1), by omega, by rw [hbody, if_pos (i32_lt.mpr (by omega))], i + 1, rfl, by omega, by rw [hbs], by rw [hbs]; exact hx, rfl, hw2, trR i, by omega, by omega, r4⟩
      · rw [if_neg hlt] at hbs
        refine ⟨(b, mo, trR (i + 1), s2), tn + 1 - (i + 1), by omega, by rw [hbody, if_neg (fun z => by have := i32_lt.mp z; omega)], i + 1, rfl, by omega, by rw [hbs]; exact g2, by rw [hbs]; exact g3, rfl, hw2, trR i, by omega, by omega, r4⟩) (tn + 1) n (ρ v, x0, -1, m0) (by omega) ⟨0, rfl, by omega, rfl, p2, trR_0.symm, wkM_o p3, ρ v, hρv.1, hρv.2, by rw [upd_same rfl]; exact p4⟩
  have hg := gs_set q5 (v := v) (r := ρ v) hρv.1 hρv.2
  rw [upd_back rfl] at hg
  refine ⟨upI e.2.2.2 10 v (ρ v), ?_, wkM_tr q2 (wkM_10 _ _), hg⟩
  unfold F_X9_bestRule
  rw [if_pos jv, p1, Option.bind_some, nv, hown, he, Option.bind_some, if_pos jv, jl_1, q1]
  rfl
end
