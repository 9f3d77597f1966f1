/-! lists in rows; the class's words and pile -/
def rowL (W : Nat → Int32) : List Int32 → Prop
  | [] => True
  | w :: r => W r.length = w ∧ rowL W r
theorem rowL_upd {W : Nat → Int32} {j : Nat} {x : Int32} : ∀ r : List Int32, r.length ≤ j → rowL W r → rowL (upd W j x) r := by
  intro r
  induction r with
  | nil => intro _ _; trivial
  | cons w r ih =>
    intro hj h
    have hj' : r.length + 1 ≤ j := hj
    refine ⟨?_, ih (by omega) h.2⟩
    rw [upd_ne (by omega)]
    exact h.1
theorem rowL_push {W : Nat → Int32} {x : Int32} {r : List Int32} (h : rowL W r) : rowL (upd W r.length x) (x :: r) := ⟨upd_eq rfl, rowL_upd r (Nat.le_refl _) h⟩
/-- the class's words, pile and nesting -/
def cE (t : Nat) (Ws L : List Int32) (ne : Nat) (c : jS) : Prop :=
  (c.1 (2 + 4 * t) 3).toInt = Ws.length ∧ rowL (c.1 (2 + 4 * t + 1)) Ws ∧ (c.1 49 6).toInt = L.length ∧ rowL (c.1 50) L ∧ (c.1 49 7).toInt = ne ∧ c.1 49 4 = Int32.ofNat t
/-- what words and pile leave alone -/
def pC (t : Nat) (c c' : jS) : Prop := (∀ k : Nat, ¬ k = 2 + 4 * t → ¬ k = 2 + 4 * t + 1 → ¬ k = 49 → ¬ k = 50 → c'.1 k = c.1 k) ∧ (∀ j : Nat, ¬ j = 3 → c'.1 (2 + 4 * t) j = c.1 (2 + 4 * t) j) ∧ (∀ j : Nat, ¬ j = 6 → ¬ j = 7 → c'.1 49 j = c.1 49 j) ∧ c'.2 = c.2
theorem pC_rfl {t : Nat} {c : jS} : pC t c c := ⟨fun _ _ _ _ _ => rfl, fun _ _ => rfl, fun _ _ _ => rfl, rfl⟩
theorem pC_tr {t : Nat} {a b c : jS} (h1 : pC t a b) (h2 : pC t b c) : pC t a c := ⟨fun k a1 a2 a3 a4 => (h2.1 k a1 a2 a3 a4).trans (h1.1 k a1 a2 a3 a4), fun j a1 => (h2.2.1 j a1).trans (h1.2.1 j a1), fun j a1 a2 => (h2.2.2.1 j a1 a2).trans (h1.2.2.1 j a1 a2), h2.2.2.2.trans h1.2.2.2⟩
theorem pC_word {t : Nat} (ht : t < 4) {c c' : jS} (h : pC t c c') (j : Nat) (x : Int32) : pC t c (upI c' (2 + 4 * t + 1) j x) := by
  refine ⟨fun k a1 a2 a3 a4 => ?_, fun i a1 => ?_, fun i a1 a2 => ?_, h.2.2.2⟩
  · rw [upI_1, if_neg a2]; exact h.1 k a1 a2 a3 a4
  · rw [upI_1, if_neg (by omega)]; exact h.2.1 i a1
  · rw [upI_1, if_neg (by omega)]; exact h.2.2.1 i a1 a2
theorem pC_cnt {t : Nat} (ht : t < 4) {c c' : jS} (h : pC t c c') (x : Int32) : pC t c (upI c' (2 + 4 * t) 3 x) := by
  refine ⟨fun k a1 a2 a3 a4 => ?_, fun i a1 => ?_, fun i a1 a2 => ?_, h.2.2.2⟩
  · rw [upI_1, if_neg a1]; exact h.1 k a1 a2 a3 a4
  · rw [upI_1, if_pos rfl, upd_ne a1]; exact h.2.1 i a1
  · rw [upI_1, if_neg (by omega)]; exact h.2.2.1 i a1 a2
theorem pC_pile {t : Nat} (ht : t < 4) {c c' : jS} (h : pC t c c') (j : Nat) (x : Int32) : pC t c (upI c' 50 j x) := by
  refine ⟨fun k a1 a2 a3 a4 => ?_, fun i a1 => ?_, fun i a1 a2 => ?_, h.2.2.2⟩
  · rw [upI_1, if_neg a4]; exact h.1 k a1 a2 a3 a4
  · rw [upI_1, if_neg (by omega)]; exact h.2.1 i a1
  · rw [upI_1, if_neg (by omega)]; exact h.2.2.1 i a1 a2
theorem pC_49 {t : Nat} (ht : t < 4) {c c' : jS} (h : pC t c c') {j : Nat} (hj : j = 6 ∨ j = 7) (x : Int32) : pC t c (upI c' 49 j x) := by
  refine ⟨fun k a1 a2 a3 a4 => ?_, fun i a1 => ?_, fun i a1 a2 => ?_, h.2.2.2⟩
  · rw [upI_1, if_neg a3]; exact h.1 k a1 a2 a3 a4
  · rw [upI_1, if_neg (by omega)]; exact h.2.1 i a1
  · rw [upI_1, if_pos rfl, upd_ne (by omega)]; exact h.2.2.1 i a1 a2
theorem textNo {t : Nat} (ht : t < 4) {c : jS} (h : c.1 49 4 = Int32.ofNat t) : jin (c.1 49 4) 4 = true ∧ (c.1 49 4).toNatClampNeg = t := by
  have e : (c.1 49 4).toInt = t := by rw [h]; exact ofNat_int (by omega)
  exact ⟨jin_val e ht, nat_val e⟩
theorem addWord_c {t : Nat} (ht : t < 4) {Ws L : List Int32} {ne : Nat} {c : jS} (h : cE t Ws L ne c) (hb : Ws.length < 300) (v : Int32) : ∃ c', F_X5_addWord t v c = some c' ∧ cE t (v :: Ws) L ne c' ∧ pC t c c' := by
  obtain ⟨h1, h2, h3, h4, h5, h6⟩ := h
  have l1 : (1 : Int32).toInt = 1 := rfl
  have l0 : (0 : Int32).toInt = 0 := rfl
  have l300 : (300 : Int32).toInt = 300 := rfl
  obtain ⟨x, hx⟩ : ∃ x, c.1 (2 + 4 * t) 3 = x := ⟨_, rfl⟩
  rw [hx] at h1
  have hx1 : (x + 1).toInt = x.toInt + 1 := i32_add (by omega) (by omega)
  obtain ⟨x1, hq⟩ : ∃ x1, x + 1 = x1 := ⟨_, rfl⟩
  rw [hq] at hx1
  have hxn : x.toNatClampNeg = Ws.length := nat_val h1
  refine ⟨upI (upI c (2 + 4 * t + 1) Ws.length v) (2 + 4 * t) 3 x1, ?_, ⟨?_, ?_, ?_, ?_, ?_, ?_⟩, pC_cnt ht (pC_word ht pC_rfl _ _) _⟩
  · unfold F_X5_addWord
    rw [hx, if_neg (fun z => by have := i32_lt.mp z; omega), if_neg (fun z => by have := i32_le.mp z; omega), if_pos (jin_of (by omega) (by omega)), jl_1, jl_1, hxn, upI_1, if_neg (by omega), hx, hq]
  · rw [upI_1, if_pos rfl, upd_eq rfl, hx1, h1]; rfl
  · rw [upI_1, if_neg (by omega), upI_1, if_pos rfl]
    exact rowL_push h2
  · rw [upI_1, if_neg (by omega), upI_1, if_neg (by omega)]; exact h3
  · rw [upI_1, if_neg (by omega), upI_1, if_neg (by omega)]; exact h4
  · rw [upI_1, if_neg (by omega), upI_1, if_neg (by omega)]; exact h5
  · rw [upI_1, if_neg (by omega), upI_1, if_neg (by omega)]; exact h6
theorem put_c {t : Nat} (ht : t < 4) {Ws L : List Int32} {ne : Nat} {c : jS} (h : cE t Ws L ne c) (hb : L.length < 64) (v : Int32) : ∃ c', F_X1_put v c = some c' ∧ cE t Ws (v :: L) ne c' ∧ pC t c c' := by
  obtain ⟨h1, h2, h3, h4, h5, h6⟩ := h
  have l1 : (1 : Int32).toInt = 1 := rfl
  have l0 : (0 : Int32).toInt = 0 := rfl
  have l64 : (64 : Int32).toInt = 64 := rfl
  obtain ⟨x, hx⟩ : ∃ x, c.1 49 6 = x := ⟨_, rfl⟩
  rw [hx] at h3
  have hx1 : (x + 1).toInt = x.toInt + 1 := i32_add (by omega) (by omega)
  obtain ⟨x1, hq⟩ : ∃ x1, x + 1 = x1 := ⟨_, rfl⟩
  rw [hq] at hx1
  have hxn : x.toNatClampNeg = L.length := nat_val h3
  refine ⟨upI (upI c 50 L.length v) 49 6 x1, ?_, ⟨?_, ?_, ?_, ?_, ?_, ?_⟩, pC_49 ht (pC_pile ht pC_rfl _ _) (Or.inl rfl) _⟩
  · unfold F_X1_put
    rw [hx, if_neg (fun z => by have := i32_lt.mp z; omega), if_neg (fun z => by have := i32_le.mp z; omega), if_pos (jin_of (by omega) (by omega)), jl_1, jl_1, hxn, upI_1, if_neg (by decide), hx, hq]
  · rw [upI_1, if_neg (by omega), upI_1, if_neg (by omega)]; exact h1
  · rw [upI_1, if_neg (by omega), upI_1, if_neg (by omega)]; exact h2
  · rw [upI_1, if_pos rfl, upd_eq rfl, hx1, h3]; rfl
  · rw [upI_1, if_neg (by decide), upI_1, if_pos rfl]
    exact rowL_push h4
  · rw [upI_1, if_pos rfl, upd_ne (by decide), upI_1, if_neg (by decide)]; exact h5
  · rw [upI_1, if_pos rfl, upd_ne (by decide), upI_1, if_neg (by decide)]; exact h6
theorem pileAt_c {t : Nat} {Ws L : List Int32} {ne : Nat} {c : jS} {p : Int32} (h : cE t Ws (p :: L) ne c) {i : Int32} (hi : i.toInt = L.length) (hb : L.length < 64) : F_X1_pileAt i c = some p := by
  have l0 : (0 : Int32).toInt = 0 := rfl
  have l64 : (64 : Int32).toInt = 64 := rfl
  unfold F_X1_pileAt
  rw [if_neg (fun z => by have := i32_lt.mp z; omega), if_neg (fun z => by have := i32_le.mp z; omega), if_pos (jin_of (by omega) (by omega)), show i.toNatClampNeg = L.length from nat_val hi, h.2.2.2.1.1]
/-- words that popped operators become -/
def app : List Int32 → List Int32 → List Int32
  | [], W => W
  | p :: P, W => app P (-p :: W)
def nests : List Int32 → Nat
  | [] => 0
  | p :: P => (if p = 13 ∨ p = 24 then 1 else 0) + nests P
theorem joinDown_c {n t : Nat} (ht : t < 4) {R : List Int32} {ne : Nat} {v : Int32} (hR : ∀ p r, R = p :: r → F_X1_levelOf p < v) :
    ∀ (P Ws : List Int32) (c : jS) (i : Int32) (k : Nat), P.length < k → i.toInt = (P.length + R.length : Nat) - 1 → (∀ p ∈ P, ¬ F_X1_levelOf p < v) → cE t Ws (P ++ R) (nests P + ne) c → Ws.length + P.length ≤ 300 → P.length + R.length ≤ 64 → nests P + ne ≤ 8 →
      ∃ e, lp (B_X1_joinDownTo_7 n v) k (i, c) = some e ∧ cE t (app P Ws) R ne e.2 ∧ pC t c e.2 := by
  have l1 : (1 : Int32).toInt = 1 := rfl
  have l0 : (0 : Int32).toInt = 0 := rfl
  have lm : (-1 : Int32).toInt = -1 := rfl
  intro P
  induction P with
  | nil =>
    intro Ws c i k hk hi hP h hw hl hn
    obtain ⟨k, rfl⟩ : ∃ k', k = k' + 1 := ⟨k - 1, by have : (0 : Nat) < k := hk; omega⟩
    have h' : cE t Ws R ne c := by
      have e0 : nests [] + ne = ne := Nat.zero_add _
      rw [e0] at h
      exact h
    refine ⟨(i, c), ?_, h', pC_rfl⟩
    show (B_X1_joinDownTo_7 n v (i, c)).bind _ = _
    have hb : B_X1_joinDownTo_7 n v (i, c) = some (.inr (i, c)) := by
      unfold B_X1_joinDownTo_7
      dsimp only
      cases hRR : R with
      | nil =>
        rw [hRR] at hi
        change i.toInt = ((0 + 0 : Nat) : Int) - 1 at hi
        rw [if_pos (i32_lt.mpr (by omega))]
      | cons p r =>
        rw [hRR] at hi h' hl
        change i.toInt = ((0 + (r.length + 1) : Nat) : Int) - 1 at hi
        have hl' : 0 + (r.length + 1) ≤ 64 := hl
        rw [if_neg (fun z => by have := i32_lt.mp z; omega), pileAt_c h' (by omega) (by omega), Option.bind_some, if_pos (hR p r hRR)]
    rw [hb]
    rfl
  | cons p P ih =>
    intro Ws c i k hk hi hP h hw hl hn
    have hk' : P.length + 1 < k := hk
    obtain ⟨k, rfl⟩ : ∃ k', k = k' + 1 := ⟨k - 1, by omega⟩
    have hi' : i.toInt = ((P.length + 1 + R.length : Nat) : Int) - 1 := hi
    have hl' : P.length + 1 + R.length ≤ 64 := hl
    have hw' : Ws.length + (P.length + 1) ≤ 300 := hw
    have hlen : (P ++ R).length = P.length + R.length := List.length_append
    have hp := hP p (List.mem_cons_self ..)
    have hpa : F_X1_pileAt i c = some p := pileAt_c (L := P ++ R) h (by omega) (by omega)
    obtain ⟨tn1, tn2⟩ := textNo ht h.2.2.2.2.2
    obtain ⟨c1, a1, a2, a3⟩ := addWord_c ht h (by omega) (-p)
    have hn' : (if p = 13 ∨ p = 24 then 1 else 0) + nests P + ne ≤ 8 := hn
    obtain ⟨y, hy⟩ : ∃ y, c1.1 49 7 = y := ⟨_, rfl⟩
    have hyv : y.toInt = ((if p = 13 ∨ p = 24 then 1 else 0) + nests P + ne : Nat) := by rw [← hy]; exact a2.2.2.2.2.1
    obtain ⟨i1, hi1⟩ : ∃ i1, i + (-1) = i1 := ⟨_, rfl⟩
    have hi1v : i1.toInt = i.toInt - 1 := by
      rw [← hi1, i32_add (by omega) (by omega)]; omega
    obtain ⟨y1, hy1, hy1v⟩ : ∃ y1, B_X1_joinDownTo_7 n v (i, c) = some (.inl (i1, upI (upI c1 49 7 y1) 49 6 i)) ∧ y1.toInt = (nests P + ne : Nat) := by
      by_cases hq : p = 13 ∨ p = 24
      · rw [if_pos hq] at hyv hn'
        refine ⟨y - 1, ?_, by rw [i32_sub (by omega) (by omega)]; omega⟩
        unfold B_X1_joinDownTo_7
        dsimp only
        rw [if_neg (fun z => by have := i32_lt.mp z; omega), hpa, Option.bind_some, if_neg hp, Option.bind_some, if_pos tn1, tn2, a1, Option.bind_some]
        have hj : J_X1_joinDownTo_55 n v i (c1.1 49 7) c1 = some (.inl (i1, upI (upI c1 49 7 (y - 1)) 49 6 i)) := by
          unfold J_X1_joinDownTo_55
          rw [jl_1, jl_1, hy, hi1]
        rw [hj]
        by_cases h13 : p = 13
        · rw [if_pos h13]
        · rw [if_neg h13, if_pos (by rcases hq with z | z; exact absurd z h13; exact z)]
      · rw [if_neg hq] at hyv hn'
        refine ⟨y - 0, ?_, by rw [i32_sub (by omega) (by omega)]; omega⟩
        unfold B_X1_joinDownTo_7
        dsimp only
        rw [if_neg (fun z => by have := i32_lt.mp z; omega), hpa, Option.bind_some, if_neg hp, Option.bind_some, if_pos tn1, tn2, a1, Option.bind_some, if_neg (fun z => hq (Or.inl z)), if_neg (fun z => hq (Or.inr z)), jl_1, jl_1, hy, hi1]
    obtain ⟨b1, b2, b3, b4, b5, b6⟩ := a2
    have hc2 : cE t (-p :: Ws) (P ++ R) (nests P + ne) (upI (upI c1 49 7 y1) 49 6 i) := by
      refine ⟨?_, ?_, ?_, ?_, ?_, ?_⟩
      · rw [upI_1, if_neg (by omega), upI_1, if_neg (by omega)]; exact b1
      · rw [upI_1, if_neg (by omega), upI_1, if_neg (by omega)]; exact b2
      · rw [upI_1, if_pos rfl, upd_eq rfl]; omega
      · rw [upI_1, if_neg (by decide), upI_1, if_neg (by decide)]; exact b4.2
      · rw [upI_1, if_pos rfl, upd_ne (by decide), upI_1, if_pos rfl, upd_eq rfl]; exact hy1v
      · rw [upI_1, if_pos rfl, upd_ne (by decide), upI_1, if_pos rfl, upd_ne (by decide)]; exact b6
    have hj2 : pC t c (upI (upI c1 49 7 y1) 49 6 i) := pC_49 ht (pC_49 ht a3 (Or.inr rfl) _) (Or.inl rfl) _
    obtain ⟨e, e1, e2, e3⟩ := ih (-p :: Ws) _ i1 k (by omega) (by omega) (fun q hq => hP q (List.mem_cons_of_mem _ hq)) hc2 (by show Ws.length + 1 + P.length ≤ 300; omega) (by omega) (by omega)
    refine ⟨e, ?_, e2, pC_tr hj2 e3⟩
    show (B_X1_joinDownTo_7 n v (i, c)).bind _ = _
    rw [hy1]
    exact e1
theorem join_c {n t : Nat} (hn : 400000 ≤ n) (ht : t < 4) {P R Ws : List Int32} {ne : Nat} {v : Int32} {c : jS} (hR : ∀ p r, R = p :: r → F_X1_levelOf p < v) (hP : ∀ p ∈ P, ¬ F_X1_levelOf p < v) (h : cE t Ws (P ++ R) (nests P + ne) c) (hw : Ws.length + P.length ≤ 300) (hl : P.length + R.length ≤ 64) (h8 : nests P + ne ≤ 8) :
    ∃ c', F_X1_joinDownTo n v c = some c' ∧ cE t (app P Ws) R ne c' ∧ pC t c c' := by
  have l1 : (1 : Int32).toInt = 1 := rfl
  have hlen : (P ++ R).length = P.length + R.length := List.length_append
  obtain ⟨x, hx⟩ : ∃ x, c.1 49 6 = x := ⟨_, rfl⟩
  have hxv : x.toInt = (P ++ R).length := by rw [← hx]; exact h.2.2.1
  obtain ⟨i, hi⟩ : ∃ i, x - 1 = i := ⟨_, rfl⟩
  have hiv : i.toInt = x.toInt - 1 := by rw [← hi, i32_sub (by omega) (by omega)]; omega
  obtain ⟨e, e1, e2, e3⟩ := joinDown_c (n := n) ht hR P Ws c i n (by omega) (by omega) hP h hw hl h8
  refine ⟨e.2, ?_, e2, e3⟩
  unfold F_X1_joinDownTo
  rw [hx, hi, e1, Option.bind_some]
