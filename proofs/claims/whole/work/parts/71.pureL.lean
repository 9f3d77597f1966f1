/-! the reference's words and pile -/
def rowM (z : Nat → Int32) (B : Nat) : List (Int32 × Int32) → Prop
  | [] => True
  | w :: r => (z (B + 2 * r.length) = w.1 ∧ z (B + 2 * r.length + 1) = w.2) ∧ rowM z B r
theorem rowM_upd {z : Nat → Int32} {B j : Nat} {x : Int32} : ∀ r : List (Int32 × Int32), B + 2 * r.length ≤ j → rowM z B r → rowM (upd z j x) B r := by
  intro r
  induction r with
  | nil => intro _ _; trivial
  | cons w r ih =>
    intro hj h
    have hj' : B + 2 * (r.length + 1) ≤ j := hj
    refine ⟨⟨?_, ?_⟩, ih (by omega) h.2⟩
    · rw [upd_ne (by omega)]
      exact h.1.1
    · rw [upd_ne (by omega)]
      exact h.1.2
def mE (t : Nat) (Ts : List (Int32 × Int32)) (Pm : List Int32) (ne : Nat) (m : jS) : Prop :=
  (m.1 0 15).toInt = Ts.length ∧ rowM (m.1 3) (680 * t + 75) Ts ∧ (m.1 0 18).toInt = Pm.length ∧ rowL (m.1 5) Pm ∧ (m.1 0 19).toInt = ne ∧ (m.1 0 13).toInt = (680 * t : Nat)
def pM (t : Nat) (m m' : jS) : Prop := (∀ k : Nat, ¬ k = 0 → ¬ k = 3 → ¬ k = 5 → m'.1 k = m.1 k) ∧ (∀ j : Nat, ¬ j = 15 → ¬ j = 18 → ¬ j = 19 → m'.1 0 j = m.1 0 j) ∧ (∀ j : Nat, j < 680 * t + 75 → m'.1 3 j = m.1 3 j) ∧ m'.2 = m.2
theorem pM_rfl {t : Nat} {m : jS} : pM t m m := ⟨fun _ _ _ _ => rfl, fun _ _ _ _ => rfl, fun _ _ => rfl, rfl⟩
theorem pM_tr {t : Nat} {a b c : jS} (h1 : pM t a b) (h2 : pM t b c) : pM t a c := ⟨fun k a1 a2 a3 => (h2.1 k a1 a2 a3).trans (h1.1 k a1 a2 a3), fun j a1 a2 a3 => (h2.2.1 j a1 a2 a3).trans (h1.2.1 j a1 a2 a3), fun j a1 => (h2.2.2.1 j a1).trans (h1.2.2.1 j a1), h2.2.2.2.trans h1.2.2.2⟩
theorem pM_0 {t : Nat} {m m' : jS} (h : pM t m m') {j : Nat} (hj : j = 15 ∨ j = 18 ∨ j = 19) (x : Int32) : pM t m (upI m' 0 j x) := by
  refine ⟨fun k a1 a2 a3 => ?_, fun i a1 a2 a3 => ?_, fun i a1 => ?_, h.2.2.2⟩
  · rw [upI_1, if_neg a1]; exact h.1 k a1 a2 a3
  · rw [upI_1, if_pos rfl, upd_ne (by omega)]; exact h.2.1 i a1 a2 a3
  · rw [upI_1, if_neg (by decide)]; exact h.2.2.1 i a1
theorem pM_3 {t : Nat} {m m' : jS} (h : pM t m m') {j : Nat} (hj : 680 * t + 75 ≤ j) (x : Int32) : pM t m (upI m' 3 j x) := by
  refine ⟨fun k a1 a2 a3 => ?_, fun i a1 a2 a3 => ?_, fun i a1 => ?_, h.2.2.2⟩
  · rw [upI_1, if_neg a2]; exact h.1 k a1 a2 a3
  · rw [upI_1, if_neg (by decide)]; exact h.2.1 i a1 a2 a3
  · rw [upI_1, if_pos rfl, upd_ne (by omega)]; exact h.2.2.1 i a1
theorem pM_5 {t : Nat} {m m' : jS} (h : pM t m m') (j : Nat) (x : Int32) : pM t m (upI m' 5 j x) := by
  refine ⟨fun k a1 a2 a3 => ?_, fun i a1 a2 a3 => ?_, fun i a1 => ?_, h.2.2.2⟩
  · rw [upI_1, if_neg a3]; exact h.1 k a1 a2 a3
  · rw [upI_1, if_neg (by decide)]; exact h.2.1 i a1 a2 a3
  · rw [upI_1, if_neg (by decide)]; exact h.2.2.1 i a1
theorem emit_m {t : Nat} (ht : t < 4) {Ts : List (Int32 × Int32)} {Pm : List Int32} {ne : Nat} {m : jS} (h : mE t Ts Pm ne m) (hb : Ts.length < 300) (o v : Int32) : ∃ m', F_X9_emit o v m = some m' ∧ mE t ((o, v) :: Ts) Pm ne m' ∧ pM t m m' := by
  obtain ⟨h1, h2, h3, h4, h5, h6⟩ := h
  have l1 : (1 : Int32).toInt = 1 := rfl
  have l75 : (75 : Int32).toInt = 75 := rfl
  obtain ⟨x, hx⟩ : ∃ x, m.1 0 15 = x := ⟨_, rfl⟩
  obtain ⟨y, hy⟩ : ∃ y, m.1 0 13 = y := ⟨_, rfl⟩
  rw [hx] at h1
  rw [hy] at h6
  have e1 : (y + 75).toInt = y.toInt + 75 := i32_add (by omega) (by omega)
  have e2 : (2 * x).toInt = 2 * x.toInt := i32_mulL rfl (by omega) (by omega)
  have e3 : (y + 75 + 2 * x).toInt = y.toInt + 75 + 2 * x.toInt := by rw [i32_add (by omega) (by omega), e1, e2]
  have e4 : (y + 75 + 2 * x + 1).toInt = y.toInt + 75 + 2 * x.toInt + 1 := by rw [i32_add (by omega) (by omega), e3, l1]
  clear e1 e2
  obtain ⟨w, hw⟩ : ∃ w, y + 75 + 2 * x = w := ⟨_, rfl⟩
  rw [hw] at e3 e4
  obtain ⟨w1, hw1⟩ : ∃ w1, w + 1 = w1 := ⟨_, rfl⟩
  rw [hw1] at e4
  have hx1 : (x + 1).toInt = x.toInt + 1 := i32_add (by omega) (by omega)
  obtain ⟨x1, hq⟩ : ∃ x1, x + 1 = x1 := ⟨_, rfl⟩
  rw [hq] at hx1
  have hwn : w.toNatClampNeg = 680 * t + 75 + 2 * Ts.length := by rw [i32_nat]; omega
  have hwn1 : w1.toNatClampNeg = 680 * t + 75 + 2 * Ts.length + 1 := by rw [i32_nat]; omega
  have hj1 : jin w 2720 = true := jin_of (by omega) (by omega)
  have hj2 : jin w1 2720 = true := jin_of (by omega) (by omega)
  refine ⟨upI (upI (upI m 3 (680 * t + 75 + 2 * Ts.length) o) 3 (680 * t + 75 + 2 * Ts.length + 1) v) 0 15 x1, ?_, ⟨?_, ?_, ?_, ?_, ?_, ?_⟩, pM_0 (pM_3 (pM_3 pM_rfl (by omega) _) (by omega) _) (Or.inl rfl) _⟩
  · unfold F_X9_emit
    rw [hx, hy, hw, if_pos hj1, jl_1, hwn]
    rw [show (upI m 3 (680 * t + 75 + 2 * Ts.length) o).1 0 = m.1 0 from by rw [upI_1, if_neg (by decide)], hx, hy, hw, hw1, if_pos hj2, jl_1, hwn1]
    rw [show (upI (upI m 3 (680 * t + 75 + 2 * Ts.length) o) 3 (680 * t + 75 + 2 * Ts.length + 1) v).1 0 = m.1 0 from by rw [upI_1, if_neg (by decide), upI_1, if_neg (by decide)], hx, hq, jl_1]
  · rw [upI_1, if_pos rfl, upd_eq rfl, hx1, h1]; rfl
  · rw [upI_1, if_neg (by decide), upI_1, if_pos rfl, upI_1, if_pos rfl]
    refine ⟨⟨?_, ?_⟩, rowM_upd Ts (by omega) (rowM_upd Ts (by omega) h2)⟩
    · rw [upd_ne (by omega), upd_eq rfl]
    · rw [upd_eq rfl]
  · rw [upI_1, if_pos rfl, upd_ne (by decide), upI_1, if_neg (by decide), upI_1, if_neg (by decide)]; exact h3
  · rw [upI_1, if_neg (by decide), upI_1, if_neg (by decide), upI_1, if_neg (by decide)]; exact h4
  · rw [upI_1, if_pos rfl, upd_ne (by decide), upI_1, if_neg (by decide), upI_1, if_neg (by decide)]; exact h5
  · rw [upI_1, if_pos rfl, upd_ne (by decide), upI_1, if_neg (by decide), upI_1, if_neg (by decide), hy]; exact h6
theorem push_m {t : Nat} {Ts : List (Int32 × Int32)} {Pm : List Int32} {ne : Nat} {m : jS} (h : mE t Ts Pm ne m) (hb : Pm.length < 160) (v : Int32) : ∃ m', F_X9_push v m = some m' ∧ mE t Ts (v :: Pm) ne m' ∧ pM t m m' := by
  obtain ⟨h1, h2, h3, h4, h5, h6⟩ := h
  have l1 : (1 : Int32).toInt = 1 := rfl
  obtain ⟨x, hx⟩ : ∃ x, m.1 0 18 = x := ⟨_, rfl⟩
  rw [hx] at h3
  have hx1 : (x + 1).toInt = x.toInt + 1 := i32_add (by omega) (by omega)
  obtain ⟨x1, hq⟩ : ∃ x1, x + 1 = x1 := ⟨_, rfl⟩
  rw [hq] at hx1
  have hxn : x.toNatClampNeg = Pm.length := nat_val h3
  refine ⟨upI (upI m 5 Pm.length v) 0 18 x1, ?_, ⟨?_, ?_, ?_, ?_, ?_, ?_⟩, pM_0 (pM_5 pM_rfl _ _) (by decide) _⟩
  · unfold F_X9_push
    rw [hx, if_pos (jin_of (by omega) (by omega)), jl_1, hxn, upI_1, if_neg (by decide), hx, hq, jl_1]
  · rw [upI_1, if_pos rfl, upd_ne (by decide), upI_1, if_neg (by decide)]; exact h1
  · rw [upI_1, if_neg (by decide), upI_1, if_neg (by decide)]; exact h2
  · rw [upI_1, if_pos rfl, upd_eq rfl, hx1, h3]; rfl
  · rw [upI_1, if_neg (by decide), upI_1, if_pos rfl]
    exact rowL_push h4
  · rw [upI_1, if_pos rfl, upd_ne (by decide), upI_1, if_neg (by decide)]; exact h5
  · rw [upI_1, if_pos rfl, upd_ne (by decide), upI_1, if_neg (by decide)]; exact h6
/-- words that popped operators become -/
def appM : List Int32 → List (Int32 × Int32) → List (Int32 × Int32)
  | [], W => W
  | p :: P, W => appM P ((p, 0) :: W)
theorem topM {t : Nat} {Ts : List (Int32 × Int32)} {p : Int32} {Pm : List Int32} {ne : Nat} {m : jS} (h : mE t Ts (p :: Pm) ne m) (hb : Pm.length < 160) :
    ∃ i, (m.1 0 18) - 1 = i ∧ i.toInt = Pm.length ∧ jin i 160 = true ∧ i.toNatClampNeg = Pm.length ∧ m.1 5 Pm.length = p ∧ ¬ (m.1 0 18) ≤ 0 := by
  have l1 : (1 : Int32).toInt = 1 := rfl
  have l0 : (0 : Int32).toInt = 0 := rfl
  have h3 : (m.1 0 18).toInt = ((Pm.length + 1 : Nat) : Int) := h.2.2.1
  have e : (m.1 0 18 - 1).toInt = Pm.length := by rw [i32_sub (by omega) (by omega)]; omega
  exact ⟨_, rfl, e, jin_of (by omega) (by omega), nat_val e, h.2.2.2.1.1, fun z => by have := i32_le.mp z; omega⟩
theorem settle_m {n t : Nat} (ht : t < 4) {R : List Int32} {ne : Nat} {v : Int32} (hR : ∀ p r, R = p :: r → 40 ≤ p ∨ p < v) :
    ∀ (P : List Int32) (Ts : List (Int32 × Int32)) (m : jS) (k : Nat), P.length < k → (∀ p ∈ P, ¬ 40 ≤ p ∧ ¬ p < v) → mE t Ts (P ++ R) ne m → Ts.length + P.length ≤ 300 → P.length + R.length ≤ 160 →
      ∃ e, lp (B_X9_settle_0 n v) k m = some e ∧ mE t (appM P Ts) R ne e ∧ pM t m e := by
  have l0 : (0 : Int32).toInt = 0 := rfl
  intro P
  induction P with
  | nil =>
    intro Ts m k hk hP h hw hl
    obtain ⟨k, rfl⟩ : ∃ k', k = k' + 1 := ⟨k - 1, by have : (0 : Nat) < k := hk; omega⟩
    refine ⟨m, ?_, h, pM_rfl⟩
    show (B_X9_settle_0 n v m).bind _ = _
    have hb : B_X9_settle_0 n v m = some (.inr m) := by
      unfold B_X9_settle_0
      cases hRR : R with
      | nil =>
        rw [hRR] at h
        have h3 : (m.1 0 18).toInt = ((0 : Nat) : Int) := h.2.2.1
        rw [if_pos (i32_le.mpr (by omega))]
      | cons p r =>
        rw [hRR] at h hl
        have hl' : 0 + (r.length + 1) ≤ 160 := hl
        obtain ⟨i, i1, i2, i3, i4, i5, i6⟩ := topM (m := m) (p := p) (Pm := r) h (by omega)
        rw [if_neg i6, i1, if_pos i3, i4, i5]
        rcases hR p r hRR with z | z
        · rw [if_pos z]
        · by_cases y : 40 ≤ p
          · rw [if_pos y]
          · rw [if_neg y, if_pos z]
    rw [hb]
    rfl
  | cons p P ih =>
    intro Ts m k hk hP h hw hl
    have hk' : P.length + 1 < k := hk
    obtain ⟨k, rfl⟩ : ∃ k', k = k' + 1 := ⟨k - 1, by omega⟩
    have hl' : P.length + 1 + R.length ≤ 160 := hl
    have hw' : Ts.length + (P.length + 1) ≤ 300 := hw
    have hlen : (P ++ R).length = P.length + R.length := List.length_append
    obtain ⟨p1, p2⟩ := hP p (List.mem_cons_self ..)
    obtain ⟨i, i1, i2, i3, i4, i5, i6⟩ := topM (m := m) (p := p) (Pm := P ++ R) h (by omega)
    have hm1 : mE t Ts (P ++ R) ne (upI m 0 18 i) := by
      obtain ⟨b1, b2, b3, b4, b5, b6⟩ := h
      refine ⟨?_, ?_, ?_, ?_, ?_, ?_⟩
      · rw [upI_1, if_pos rfl, upd_ne (by decide)]; exact b1
      · rw [upI_1, if_neg (by decide)]; exact b2
      · rw [upI_1, if_pos rfl, upd_eq rfl]; exact i2
      · rw [upI_1, if_neg (by decide)]; exact b4.2
      · rw [upI_1, if_pos rfl, upd_ne (by decide)]; exact b5
      · rw [upI_1, if_pos rfl, upd_ne (by decide)]; exact b6
    obtain ⟨m2, a1, a2, a3⟩ := emit_m ht hm1 (by omega) p 0
    have hbd : B_X9_settle_0 n v m = some (.inl m2) := by
      unfold B_X9_settle_0
      rw [if_neg i6, i1, if_pos i3, i4, i5, if_neg p1, if_neg p2, jl_1, show (upI m 0 18 i).1 0 18 = i from rfl, if_pos i3, i4, upI_1, if_neg (by decide), i5, a1, Option.bind_some]
    obtain ⟨e, e1, e2, e3⟩ := ih ((p, 0) :: Ts) m2 k (by omega) (fun q hq => hP q (List.mem_cons_of_mem _ hq)) a2 (by show Ts.length + 1 + P.length ≤ 300; omega) (by omega)
    refine ⟨e, ?_, e2, pM_tr (pM_tr (pM_0 pM_rfl (by decide) _) a3) e3⟩
    show (B_X9_settle_0 n v m).bind _ = _
    rw [hbd]
    exact e1
theorem settleAll {n t : Nat} (hn : 400000 ≤ n) (ht : t < 4) {P R : List Int32} {Ts : List (Int32 × Int32)} {ne : Nat} {v : Int32} {m : jS} (hR : ∀ p r, R = p :: r → 40 ≤ p ∨ p < v) (hP : ∀ p ∈ P, ¬ 40 ≤ p ∧ ¬ p < v) (h : mE t Ts (P ++ R) ne m) (hw : Ts.length + P.length ≤ 300) (hl : P.length + R.length ≤ 160) :
    ∃ m', F_X9_settle n v m = some m' ∧ mE t (appM P Ts) R ne m' ∧ pM t m m' := by
  obtain ⟨e, e1, e2, e3⟩ := settle_m (n := n) ht hR P Ts m n (by omega) hP h hw hl
  exact ⟨e, by unfold F_X9_settle; rw [e1, Option.bind_some], e2, e3⟩
theorem whole_m {n t : Nat} (ht : t < 4) {R : List Int32} (hR : ∀ p r, R = p :: r → ¬ p = 2) :
    ∀ (P : List Int32) (Ts : List (Int32 × Int32)) (ne : Nat) (m : jS) (k : Nat), P.length < k → (∀ p ∈ P, p = 2) → mE t Ts (P ++ R) (P.length + ne) m → Ts.length + P.length ≤ 300 → P.length + R.length ≤ 160 → P.length + ne ≤ 8 →
      ∃ e, lp (B_X9_whole_5 n) k m = some e ∧ mE t (appM P Ts) R ne e ∧ pM t m e := by
  have l0 : (0 : Int32).toInt = 0 := rfl
  have l1 : (1 : Int32).toInt = 1 := rfl
  intro P
  induction P with
  | nil =>
    intro Ts ne m k hk hP h hw hl hn
    obtain ⟨k, rfl⟩ : ∃ k', k = k' + 1 := ⟨k - 1, by have : (0 : Nat) < k := hk; omega⟩
    have e0 : ([] : List Int32).length + ne = ne := Nat.zero_add _
    rw [e0] at h
    refine ⟨m, ?_, h, pM_rfl⟩
    show (B_X9_whole_5 n m).bind _ = _
    have hb : B_X9_whole_5 n m = some (.inr m) := by
      unfold B_X9_whole_5
      cases hRR : R with
      | nil =>
        rw [hRR] at h
        have h3 : (m.1 0 18).toInt = ((0 : Nat) : Int) := h.2.2.1
        rw [if_pos (i32_le.mpr (by omega))]
      | cons p r =>
        rw [hRR] at h hl
        have hl' : 0 + (r.length + 1) ≤ 160 := hl
        obtain ⟨i, i1, i2, i3, i4, i5, i6⟩ := topM (m := m) (p := p) (Pm := r) h (by omega)
        rw [if_neg i6, i1, if_pos i3, i4, i5, if_neg (hR p r hRR)]
    rw [hb]
    rfl
  | cons p P ih =>
    intro Ts ne m k hk hP h hw hl hn
    have hk' : P.length + 1 < k := hk
    obtain ⟨k, rfl⟩ : ∃ k', k = k' + 1 := ⟨k - 1, by omega⟩
    have hl' : P.length + 1 + R.length ≤ 160 := hl
    have hw' : Ts.length + (P.length + 1) ≤ 300 := hw
    have hn' : P.length + 1 + ne ≤ 8 := hn
    have hlen : (P ++ R).length = P.length + R.length := List.length_append
    have hp := hP p (List.mem_cons_self ..)
    obtain ⟨i, i1, i2, i3, i4, i5, i6⟩ := topM (m := m) (p := p) (Pm := P ++ R) h (by omega)
    have hy : (m.1 0 19).toInt = ((P.length + 1 + ne : Nat) : Int) := h.2.2.2.2.1
    obtain ⟨y, hy1⟩ : ∃ y, m.1 0 19 - 1 = y := ⟨_, rfl⟩
    have hyv : y.toInt = ((P.length + ne : Nat) : Int) := by rw [← hy1, i32_sub (by omega) (by omega)]; omega
    have hm1 : mE t Ts (P ++ R) (P.length + ne) (upI (upI m 0 18 i) 0 19 y) := by
      obtain ⟨b1, b2, b3, b4, b5, b6⟩ := h
      refine ⟨?_, ?_, ?_, ?_, ?_, ?_⟩
      · rw [upI_1, if_pos rfl, upd_ne (by decide), upI_1, if_pos rfl, upd_ne (by decide)]; exact b1
      · rw [upI_1, if_neg (by decide), upI_1, if_neg (by decide)]; exact b2
      · rw [upI_1, if_pos rfl, upd_ne (by decide), upI_1, if_pos rfl, upd_eq rfl]; exact i2
      · rw [upI_1, if_neg (by decide), upI_1, if_neg (by decide)]; exact b4.2
      · rw [upI_1, if_pos rfl, upd_eq rfl]; exact hyv
      · rw [upI_1, if_pos rfl, upd_ne (by decide), upI_1, if_pos rfl, upd_ne (by decide)]; exact b6
    obtain ⟨m2, a1, a2, a3⟩ := emit_m ht hm1 (by omega) 2 0
    have hbd : B_X9_whole_5 n m = some (.inl m2) := by
      unfold B_X9_whole_5
      rw [if_neg i6, i1, if_pos i3, i4, i5, if_pos hp, jl_1, show (upI m 0 18 i).1 0 19 = m.1 0 19 from rfl, hy1, jl_1, a1, Option.bind_some]
    obtain ⟨e, e1, e2, e3⟩ := ih ((2, 0) :: Ts) ne m2 k (by omega) (fun q hq => hP q (List.mem_cons_of_mem _ hq)) a2 (by show Ts.length + 1 + P.length ≤ 300; omega) (by omega) (by omega)
    refine ⟨e, ?_, ?_, pM_tr (pM_tr (pM_0 (pM_0 pM_rfl (by decide) _) (by decide) _) a3) e3⟩
    · show (B_X9_whole_5 n m).bind _ = _
      rw [hbd]
      exact e1
    · rw [hp]
      exact e2
theorem wholeAll {n t : Nat} (hn : 400000 ≤ n) (ht : t < 4) {P R : List Int32} {Ts : List (Int32 × Int32)} {ne : Nat} {m : jS} (hR : ∀ p r, R = p :: r → ¬ p = 2) (hP : ∀ p ∈ P, p = 2) (h : mE t Ts (P ++ R) (P.length + ne) m) (hw : Ts.length + P.length ≤ 300) (hl : P.length + R.length ≤ 160) (h8 : P.length + ne ≤ 8) :
    ∃ m', F_X9_whole n m = some m' ∧ mE t (appM P Ts) R ne m' ∧ pM t (upI m 0 20 (jb true)) m' := by
  have h' : mE t Ts (P ++ R) (P.length + ne) (upI m 0 20 (jb true)) := by
    obtain ⟨b1, b2, b3, b4, b5, b6⟩ := h
    refine ⟨?_, ?_, ?_, ?_, ?_, ?_⟩
    · rw [upI_1, if_pos rfl, upd_ne (by decide)]; exact b1
    · rw [upI_1, if_neg (by decide)]; exact b2
    · rw [upI_1, if_pos rfl, upd_ne (by decide)]; exact b3
    · rw [upI_1, if_neg (by decide)]; exact b4
    · rw [upI_1, if_pos rfl, upd_ne (by decide)]; exact b5
    · rw [upI_1, if_pos rfl, upd_ne (by decide)]; exact b6
  obtain ⟨e, e1, e2, e3⟩ := whole_m (n := n) ht hR P Ts ne _ n (by omega) hP h' hw hl h8
  exact ⟨e, by unfold F_X9_whole; rw [jl_1, e1, Option.bind_some], e2, e3⟩
theorem paren_m {n t : Nat} (hn : 400000 ≤ n) {Ts : List (Int32 × Int32)} {Pm : List Int32} {ne : Nat} {m : jS} (h : mE t Ts Pm ne m) (hl : Pm.length ≤ 160) : F_X9_hasParen n m = some (decide ((40 : Int32) ∈ Pm)) := by
  have l1 : (1 : Int32).toInt = 1 := rfl
  have l0 : (0 : Int32).toInt = 0 := rfl
  have h3 := h.2.2.1
  -- the row's slots are the list's members
  have hrow : ∀ (P : List Int32), rowL (m.1 5) P → ((40 : Int32) ∈ P ↔ ∃ j : Nat, j < P.length ∧ m.1 5 j = 40) := by
    intro P
    induction P with
    | nil => intro _; exact ⟨fun z => absurd z (by simp), fun ⟨j, hj, _⟩ => absurd hj (Nat.not_lt_zero j)⟩
    | cons p P ih =>
      intro hr
      have hi := ih hr.2
      constructor
      · intro z
        rcases List.mem_cons.mp z with z | z
        · exact ⟨P.length, Nat.lt_succ_self _, by rw [hr.1, ← z]⟩
        · obtain ⟨j, hj, e⟩ := hi.mp z
          exact ⟨j, Nat.lt_succ_of_lt hj, e⟩
      · rintro ⟨j, hj, e⟩
        have hj' : j < P.length + 1 := hj
        by_cases hjP : j = P.length
        · rw [hjP, hr.1] at e
          rw [e]
          exact List.mem_cons_self ..
        · exact List.mem_cons_of_mem _ (hi.mpr ⟨j, by omega, e⟩)
  have hr := hrow Pm h.2.2.2.1
  obtain ⟨e, he, hq⟩ := lp_rule (body := B_X9_hasParen_2 n m)
    (I := fun q k => 0 ≤ q.toInt ∧ q.toInt ≤ Pm.length ∧ k = Pm.length - q.toInt.toNat ∧ ∀ j : Nat, (j : Int) < q.toInt → ¬ m.1 5 j = 40)
    (Q := fun e => (e = .inr true ∧ (40 : Int32) ∈ Pm) ∨ ((∃ x, e = .inl x) ∧ ¬ (40 : Int32) ∈ Pm)) (by
    rintro q k ⟨g1, g2, g3, g4⟩
    by_cases hc : m.1 0 18 ≤ q
    · left
      have hc' := i32_le.mp hc
      refine ⟨.inl q, by unfold B_X9_hasParen_2; rw [if_pos hc], Or.inr ⟨⟨q, rfl⟩, fun z => ?_⟩⟩
      obtain ⟨j, hj, e⟩ := hr.mp z
      exact g4 j (by omega) e
    · have hc' : ¬ (m.1 0 18).toInt ≤ q.toInt := fun z => hc (i32_le.mpr z)
      have hj : jin q 160 = true := jin_of g1 (by omega)
      by_cases h4 : m.1 5 q.toNatClampNeg = 40
      · left
        exact ⟨.inr true, by unfold B_X9_hasParen_2; rw [if_neg hc, if_pos hj, if_pos h4], Or.inl ⟨rfl, hr.mpr ⟨q.toNatClampNeg, by rw [i32_nat]; omega, h4⟩⟩⟩
      · right
        have hq1 : (q + 1).toInt = q.toInt + 1 := i32_add (by omega) (by omega)
        refine ⟨q + 1, Pm.length - (q + 1).toInt.toNat, by omega, by unfold B_X9_hasParen_2; rw [if_neg hc, if_pos hj, if_neg h4], by omega, by omega, rfl, fun j hj => ?_⟩
        by_cases hjq : (j : Int) < q.toInt
        · exact g4 j hjq
        · have : j = q.toNatClampNeg := by rw [i32_nat]; omega
          rw [this]; exact h4) Pm.length n 0 (by omega) ⟨by decide, by rw [l0]; omega, by rw [l0]; rfl, fun j hj => by rw [l0] at hj; omega⟩
  unfold F_X9_hasParen
  rw [he, Option.bind_some]
  rcases hq with ⟨rfl, hq⟩ | ⟨⟨x, rfl⟩, hq⟩
  · show some true = _
    rw [decide_eq_true hq]
  · show some false = _
    rw [decide_eq_false hq]
