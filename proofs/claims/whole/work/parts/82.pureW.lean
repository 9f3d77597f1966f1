/-! clauses: numbers and signs -/
def fC (t : Nat) (c c' : jS) : Prop := (∀ k : Nat, (k < 2 + 4 * t ∨ 2 + 4 * t + 3 < k) → ¬ k = 27 → ¬ k = 49 → ¬ k = 50 → c'.1 k = c.1 k) ∧ c'.1 27 1 = c.1 27 1 ∧ c'.1 49 4 = c.1 49 4 ∧ c'.2 = c.2
def fM (t : Nat) (m m' : jS) : Prop := (∀ k : Nat, ¬ k = 0 → ¬ k = 3 → ¬ k = 5 → m'.1 k = m.1 k) ∧ (∀ j : Nat, ¬ j = 8 → ¬ j = 9 → ¬ j = 10 → ¬ j = 11 → ¬ j = 15 → ¬ j = 18 → ¬ j = 19 → ¬ j = 20 → ¬ j = 21 → m'.1 0 j = m.1 0 j) ∧ (∀ j : Nat, j < 680 * t → m'.1 3 j = m.1 3 j) ∧ (∀ k : Nat, ¬ k = 0 → m'.2 k = m.2 k) ∧ ∀ j : Nat, ¬ j = 12 → m'.2 0 j = m.2 0 j
theorem fC_rfl {t : Nat} {c : jS} : fC t c c := ⟨fun _ _ _ _ _ => rfl, rfl, rfl, rfl⟩
theorem fM_rfl {t : Nat} {m : jS} : fM t m m := ⟨fun _ _ _ _ => rfl, fun _ _ _ _ _ _ _ _ _ _ => rfl, fun _ _ => rfl, fun _ _ => rfl, fun _ _ => rfl⟩
theorem fC_tr {t : Nat} {a b c : jS} (h1 : fC t a b) (h2 : fC t b c) : fC t a c := ⟨fun k a1 a2 a3 a4 => (h2.1 k a1 a2 a3 a4).trans (h1.1 k a1 a2 a3 a4), h2.2.1.trans h1.2.1, h2.2.2.1.trans h1.2.2.1, h2.2.2.2.trans h1.2.2.2⟩
theorem fM_tr {t : Nat} {a b c : jS} (h1 : fM t a b) (h2 : fM t b c) : fM t a c := ⟨fun k a1 a2 a3 => (h2.1 k a1 a2 a3).trans (h1.1 k a1 a2 a3), fun j a1 a2 a3 a4 a5 a6 a7 a8 a9 => (h2.2.1 j a1 a2 a3 a4 a5 a6 a7 a8 a9).trans (h1.2.1 j a1 a2 a3 a4 a5 a6 a7 a8 a9), fun j a1 => (h2.2.2.1 j a1).trans (h1.2.2.1 j a1), fun k hk => (h2.2.2.2.1 k hk).trans (h1.2.2.2.1 k hk), fun j hj => (h2.2.2.2.2 j hj).trans (h1.2.2.2.2 j hj)⟩
theorem fC_w {t : Nat} {c c' : jS} (h : wC t c c') : fC t c c' := ⟨fun k a1 a2 a3 a4 => h.1 k (by omega) (by omega) a2 a3 a4, h.2.2.1, h.2.2.2.1, h.2.2.2.2⟩
theorem fM_w {t : Nat} {m m' : jS} (h : wM t m m') : fM t m m' := ⟨h.1, fun j a1 a2 a3 a4 a5 a6 a7 a8 a9 => h.2.1 j a1 a2 a3 a4 a5 a6 a7 a8, fun j hj => h.2.2.1 j (by omega), h.2.2.2.1, h.2.2.2.2⟩
theorem fC_t {t : Nat} (ht : t < 4) {c c' : jS} (h : fC t c c') {k : Nat} (hk : 2 + 4 * t ≤ k ∧ k ≤ 2 + 4 * t + 3) (j : Nat) (x : Int32) : fC t c (upI c' k j x) := by
  refine ⟨fun i a1 a2 a3 a4 => ?_, ?_, ?_, h.2.2.2⟩
  · rw [upI_1, if_neg (by omega)]; exact h.1 i a1 a2 a3 a4
  · rw [upI_1, if_neg (by omega)]; exact h.2.1
  · rw [upI_1, if_neg (by omega)]; exact h.2.2.1
theorem fC_49 {t : Nat} {c c' : jS} (h : fC t c c') {j : Nat} (hj : ¬ j = 4) (x : Int32) : fC t c (upI c' 49 j x) := by
  refine ⟨fun i a1 a2 a3 a4 => ?_, ?_, ?_, h.2.2.2⟩
  · rw [upI_1, if_neg a3]; exact h.1 i a1 a2 a3 a4
  · rw [upI_1, if_neg (by decide)]; exact h.2.1
  · rw [upI_1, if_pos rfl, upd_ne (fun z => hj z.symm)]; exact h.2.2.1
theorem fM_3 {t : Nat} {m m' : jS} (h : fM t m m') {j : Nat} (hj : 680 * t ≤ j) (x : Int32) : fM t m (upI m' 3 j x) := by
  refine ⟨fun k a1 a2 a3 => ?_, fun i a1 a2 a3 a4 a5 a6 a7 a8 a9 => ?_, fun i a1 => ?_, h.2.2.2⟩
  · rw [upI_1, if_neg a2]; exact h.1 k a1 a2 a3
  · rw [upI_1, if_neg (by decide)]; exact h.2.1 i a1 a2 a3 a4 a5 a6 a7 a8 a9
  · rw [upI_1, if_pos rfl, upd_ne (by omega)]; exact h.2.2.1 i a1
theorem fM_0 {t : Nat} {m m' : jS} (h : fM t m m') {j : Nat} (hj : j = 15 ∨ j = 18 ∨ j = 19 ∨ j = 20 ∨ j = 21) (x : Int32) : fM t m (upI m' 0 j x) := by
  refine ⟨fun k a1 a2 a3 => ?_, fun i a1 a2 a3 a4 a5 a6 a7 a8 a9 => ?_, fun i a1 => ?_, h.2.2.2⟩
  · rw [upI_1, if_neg a1]; exact h.1 k a1 a2 a3
  · rw [upI_1, if_pos rfl, upd_ne (by omega)]; exact h.2.1 i a1 a2 a3 a4 a5 a6 a7 a8 a9
  · rw [upI_1, if_neg (by decide)]; exact h.2.2.1 i a1
theorem fC_fr {t : Nat} {c c' : jS} (h : frC c c') : fC t c c' := ⟨fun k a1 a2 a3 a4 => h.1 k a2, h.2.1, by rw [h.1 49 (by decide)], h.2.2⟩
theorem fM_fr {t : Nat} {m m' : jS} (h : frM m m') : fM t m m' := ⟨fun k a1 a2 a3 => h.1 k a1, fun j a1 a2 a3 a4 a5 a6 a7 a8 a9 => h.2.1 j a1 a2 a3 a4, fun j hj => by rw [h.1 3 (by decide)], h.2.2.1, h.2.2.2⟩
def tNo (n t : Nat) (c m : jS) (f : Int32) (m' : jS) : Prop := ¬ f = 0 ∧ ∃ c1 c2, rch n c c1 ∧ ¬ (c1.1 49 5 = 0 ∧ c1.1 27 2 = 1) ∧ c1.1 49 0 = 0 ∧ (c1.1 27 4).toInt ≤ 300 ∧ F_X1_take n (c1.1 27 2) c1 = some c2 ∧ c2.1 49 0 = f ∧ c2.1 49 1 = m'.1 0 9 ∧ fC t c c2 ∧ fM t m m'
theorem tNo_tr {n t : Nat} {c m c' m' m2 : jS} {f : Int32} (h1 : rch n c c') (h2 : fC t c c') (h3 : fM t m m') (h : tNo n t c' m' f m2) : tNo n t c m f m2 := by
  obtain ⟨f0, c1, c2, r, q1, q2, q3, q4, q5, q6, q7, q8⟩ := h
  exact ⟨f0, c1, c2, rch_tr h1 r, q1, q2, q3, q4, q5, q6, fC_tr h2 q7, fM_tr h3 q8⟩
theorem tNo_of {n t : Nat} {c m m2 : jS} {f : Int32} (h : bothNo n t c m f m2) : tNo n t c m f m2 := by
  obtain ⟨f0, c1, c2, r, q1, q2, q3, q4, q5, q6, q7, q8⟩ := h
  exact ⟨f0, c1, c2, r, q1, q2, q3, q4, q5, q6, fC_w q7, fM_w q8⟩
theorem tNo_here {n t : Nat} {c m c2 : jS} {f : Int32} (hf : ¬ f = 0) (hT : rTape (c.1 27) (c.1 28) (m.1 0) (m.1 4)) (hk : tokA c m) (h5 : ¬ (c.1 49 5 = 0 ∧ c.1 27 2 = 1)) (h0 : c.1 49 0 = 0) (hq : F_X1_take n (c.1 27 2) c = some c2) (q0 : c2.1 49 0 = f) (q1 : c2.1 49 1 = c.1 27 4) (hc : fC t c c2) : tNo n t c m f m :=
  ⟨hf, c, c2, rch_rfl, h5, h0, (notEnd hT hk).1, hq, q0, q1.trans hk.1.1, hc, fM_rfl⟩
/-- the next token on both sides, of the places alone -/
theorem advance2 {n : Nat} (hn : 400000 ≤ n) {c m c1 m1 : jS} (ht : rTape (c.1 27) (c.1 28) (m.1 0) (m.1 4)) (hk : tokA c m) (h1 : ¬ c.1 27 2 = 1) (h27 : c1.1 27 = c.1 27) (h28 : c1.1 28 = c.1 28) (h5 : m1.1 0 5 = m.1 0 5) (h8 : m1.1 0 8 = m.1 0 8) (h4 : m1.1 4 = m.1 4) :
    ∃ c2 m2, F_X4_nextToken n c1 = some c2 ∧ F_X9_nextToken n m1 = some m2 ∧ frC c1 c2 ∧ frM m1 m2 ∧ tokA c2 m2 ∧ rTape (c2.1 27) (c2.1 28) (m2.1 0) (m2.1 4) ∧ (c.1 27 4).toInt + 1 ≤ (c2.1 27 4).toInt := by
  obtain ⟨⟨k1, k2, k3, k4, k5, k6⟩, _⟩ := hk
  have ht1 : rTape (c1.1 27) (c1.1 28) (m1.1 0) (m1.1 4) := by
    obtain ⟨t1, t2, t3⟩ := ht
    unfold rTape
    rw [h27, h28, h5, h4]
    exact ⟨t1, t2, t3⟩
  have := k6 h1
  obtain ⟨c2, m2, a1, a2, a3, a4, a5, a6⟩ := nextToken_rel hn ht1 (by rw [h27, h8]; exact k2) (by rw [h27]; omega) (by rw [h27]; exact k5)
  rw [h27] at a6
  exact ⟨c2, m2, a1, a2, a3, a4, a5, tape_fr ht1 a3 a4, by omega⟩
theorem set_cell {t cc : Nat} (ht : t < 4) {s : jS} (h : (s.1 (2 + 4 * t) 4).toInt = (cc : Int) + 1) (hc : cc < 24) (v : Int32) : F_X5_setKnocks t v s = some (upI s (2 + 4 * t + 2) cc v) ∧ F_X5_setAmount t v s = some (upI s (2 + 4 * t + 3) cc v) := by
  have l1 : (1 : Int32).toInt = 1 := rfl
  have l24 : (24 : Int32).toInt = 24 := rfl
  have hw : F_X8_within (s.1 (2 + 4 * t) 4) 1 24 = true := win_iff.mpr (by omega)
  have e : (s.1 (2 + 4 * t) 4 - 1).toInt = cc := by rw [i32_sub (by omega) (by omega)]; omega
  constructor
  · unfold F_X5_setKnocks
    rw [if_pos hw, if_pos (jin_val e hc), jl_1, nat_val e]
  · unfold F_X5_setAmount
    rw [if_pos hw, if_pos (jin_val e hc), jl_1, nat_val e]
/-- what a number or a sign of a clause leaves -/
def nC (r : Nat) (c c' : jS) : Prop := (∀ k : Nat, ¬ k = 27 → ¬ k = 49 → ¬ k = r → c'.1 k = c.1 k) ∧ (∀ j : Nat, ¬ j = 5 → c'.1 49 j = c.1 49 j) ∧ c'.1 27 1 = c.1 27 1 ∧ c'.2 = c.2
def nM (m m' : jS) : Prop := (∀ k : Nat, ¬ k = 0 → ¬ k = 3 → m'.1 k = m.1 k) ∧ (∀ j : Nat, ¬ j = 8 → ¬ j = 9 → ¬ j = 10 → ¬ j = 11 → m'.1 0 j = m.1 0 j) ∧ (∀ k : Nat, ¬ k = 0 → m'.2 k = m.2 k) ∧ ∀ j : Nat, ¬ j = 12 → m'.2 0 j = m.2 0 j
theorem fig_small {cv mn lo hi : Int32} (h : sameNum cv mn) (h0 : 0 ≤ lo.toInt) (hh : hi.toInt ≤ 24) : (F_X8_within cv lo hi = true ↔ F_X9_isIn mn lo hi = true) ∧ (F_X9_isIn mn lo hi = true → cv = mn) := by
  obtain ⟨a, b, c⟩ := h
  rw [isIn_eq, win_iff, win_iff]
  have l10 : (10000 : Int32).toInt = 10000 := rfl
  rcases c with ⟨c1, rfl⟩ | ⟨c1, rfl⟩
  · exact ⟨Iff.rfl, fun _ => rfl⟩
  · constructor
    · constructor
      · intro z; omega
      · intro z; omega
    · intro z; omega
theorem figStep {n t cc : Nat} (hn : 400000 ≤ n) (ht : t < 4) {c m : jS} (hT : rTape (c.1 27) (c.1 28) (m.1 0) (m.1 4)) (hK : tokA c m) (h0 : c.1 49 0 = 0) (h4 : c.1 49 4 = Int32.ofNat t) {st lo hi nx : Int32} {r : Nat} (hst : c.1 49 5 = st)
    (hcase : (st = 1 ∧ lo = 1 ∧ hi = 7 ∧ nx = 2 ∧ r = 2 + 4 * t + 2) ∨ (st = 3 ∧ lo = 0 ∧ hi = 5 ∧ nx = 5 ∧ r = 2 + 4 * t + 3) ∨ (st = 4 ∧ lo = 0 ∧ hi = 24 ∧ nx = 5 ∧ r = 2 + 4 * t + 3))
    (hcc : (c.1 (2 + 4 * t) 4).toInt = (cc : Int) + 1) (hc24 : cc < 24) {i : Int32} (hi2 : jin i 2720 = true) (hi0 : 680 * t ≤ i.toNatClampNeg) :
    (∃ f, F_X9_figure n i lo hi m = some (f, m) ∧ tNo n t c m f m) ∨
    (∃ m' c' x, F_X9_figure n i lo hi m = some (0, m') ∧ stp n c c' ∧ (lo.toInt ≤ x.toInt ∧ x.toInt ≤ hi.toInt) ∧ c'.1 r = upd (c.1 r) cc x ∧ nC r c c' ∧ c'.1 49 5 = nx ∧ m'.1 3 = upd (m.1 3) i.toNatClampNeg x ∧ nM m m' ∧ rTape (c'.1 27) (c'.1 28) (m'.1 0) (m'.1 4) ∧ tokA c' m') := by
  obtain ⟨tt1, tt2⟩ := textNo ht h4
  have hr : r = 2 + 4 * t + 2 ∨ r = 2 + 4 * t + 3 := by rcases hcase with z | z | z; exact Or.inl z.2.2.2.2; exact Or.inr z.2.2.2.2; exact Or.inr z.2.2.2.2
  -- what the class does
  have hset : ∀ (s : jS), (s.1 (2 + 4 * t) 4).toInt = (cc : Int) + 1 → s.1 49 4 = c.1 49 4 → F_X1_takeNumber lo hi nx c = some s → F_X1_take n (c.1 27 2) c = some (upI s r cc (s.1 27 3)) := by
    intro s hs hs4 htn
    obtain ⟨q1, q2⟩ := set_cell ht hs hc24 (s.1 27 3)
    unfold F_X1_take
    rw [hst]
    rcases hcase with ⟨z1, z2, z3, z4, z5⟩ | ⟨z1, z2, z3, z4, z5⟩ | ⟨z1, z2, z3, z4, z5⟩
    · subst z1 z2 z3 z4 z5
      rw [if_neg (by decide), if_pos rfl, htn, Option.bind_some, hs4, if_pos tt1, tt2, q1, Option.bind_some]
    · subst z1 z2 z3 z4 z5
      rw [if_neg (by decide), if_neg (by decide), if_neg (by decide), if_pos rfl, htn, Option.bind_some, hs4, if_pos tt1, tt2, q2, Option.bind_some]
    · subst z1 z2 z3 z4 z5
      rw [if_neg (by decide), if_neg (by decide), if_neg (by decide), if_neg (by decide), if_pos rfl, htn, Option.bind_some, hs4, if_pos tt1, tt2, q2, Option.bind_some]
  have hst0 : ¬ c.1 49 5 = 0 := by rw [hst]; rcases hcase with z | z | z <;> (rw [z.1]; decide)
  have hlo : 0 ≤ lo.toInt ∧ hi.toInt ≤ 24 := by rcases hcase with z | z | z <;> (rw [z.2.1, z.2.2.1]; decide)
  have no : ∀ f : Int32, ¬ f = 0 → F_X1_takeNumber lo hi nx c = F_X1_refuse f c → tNo n t c m f m := by
    intro f hf hq
    have hs := hset (upI (upI c 49 0 f) 49 1 (c.1 27 4)) (by rw [upI_1, if_neg (by omega), upI_1, if_neg (by omega)]; exact hcc) rfl (hq.trans (refuse_is f c))
    refine tNo_here hf hT hK (fun z => hst0 z.1) h0 hs ?_ ?_ (fC_t ht (fC_49 (fC_49 fC_rfl (by decide) _) (by decide) _) (by omega) _ _)
    · rw [upI_1, if_neg (by omega)]; rfl
    · rw [upI_1, if_neg (by omega)]; rfl
  obtain ⟨tw, tn⟩ := hK.2
  have hnum := tw.2.1
  by_cases k2 : c.1 27 2 = 2
  · obtain ⟨u1, u2⟩ := fig_small (tn k2) hlo.1 hlo.2
    by_cases kin : F_X9_isIn (m.1 0 11) lo hi = true
    · right
      have hx := u2 kin
      have htn : F_X1_takeNumber lo hi nx c = some (upI c 49 5 nx) := by
        unfold F_X1_takeNumber
        rw [if_pos k2, if_pos (u1.mpr kin), jl_1]
      have hs := hset (upI c 49 5 nx) (by rw [upI_1, if_neg (by omega)]; exact hcc) rfl htn
      rw [show (upI c 49 5 nx).1 27 3 = c.1 27 3 from rfl, hx] at hs
      have hne : ¬ c.1 27 2 = 1 := by rw [k2]; decide
      obtain ⟨c2, m2, k1, k2', k3, k4, k5, k6, k7⟩ := advance2 hn (c1 := upI (upI c 49 5 nx) r cc (m.1 0 11)) (m1 := upI m 3 i.toNatClampNeg (m.1 0 11)) hT hK hne (by rw [upI_1, if_neg (by omega)]; rfl) (by rw [upI_1, if_neg (by omega)]; rfl) rfl rfl rfl
      refine ⟨m2, c2, m.1 0 11, ?_, ⟨fun z => hst0 z.1, k7, by rw [k3.1 49 (by decide), upI_1, if_neg (by omega), upI_1, if_pos rfl, upd_ne (by decide)], _, hs, ?_, k1⟩, win_iff.mp kin, ?_, ⟨fun k a1 a2 a3 => ?_, fun j a1 => ?_, ?_, ?_⟩, ?_, ?_, ⟨fun k a1 a2 => ?_, fun j a1 a2 a3 a4 => ?_, k4.2.2.1, k4.2.2.2⟩, k6, k5⟩
      · unfold F_X9_figure
        rw [if_pos (hnum.mp k2), if_pos kin, if_pos hi2, jl_1, k2', Option.bind_some]
      · rw [upI_1, if_neg (by omega)]; exact h0
      · rw [k3.1 r (by omega), upI_1, if_pos rfl, upI_1, if_neg (by omega)]
      · rw [k3.1 k a1, upI_1, if_neg a3, upI_1, if_neg a2]
      · rw [k3.1 49 (by decide), upI_1, if_neg (by omega), upI_1, if_pos rfl, upd_ne a1]
      · rw [k3.2.1, upI_1, if_neg (by omega)]; rfl
      · rw [k3.2.2]; rfl
      · rw [k3.1 49 (by decide), upI_1, if_neg (by omega), upI_1, if_pos rfl, upd_eq rfl]
      · rw [k4.1 3 (by decide), upI_1, if_pos rfl]
      · rw [k4.1 k a1, upI_1, if_neg a2]
      · rw [k4.2.1 j a1 a2 a3 a4]; rfl
    · left
      refine ⟨2, ?_, no 2 (by decide) ?_⟩
      · unfold F_X9_figure
        rw [if_pos (hnum.mp k2), if_neg kin]
      · unfold F_X1_takeNumber
        rw [if_pos k2, if_neg (fun z => kin (u1.mp z)), bind_id]
  · left
    refine ⟨1, ?_, no 1 (by decide) ?_⟩
    · unfold F_X9_figure
      rw [if_neg (fun z => k2 (hnum.mpr z))]
    · unfold F_X1_takeNumber
      rw [if_neg k2, bind_id]
/-- a sign or a word of a clause -/
theorem signStep {n t : Nat} (hn : 400000 ≤ n) (ht : t < 4) {c m : jS} (hT : rTape (c.1 27) (c.1 28) (m.1 0) (m.1 4)) (hK : tokA c m) (h0 : c.1 49 0 = 0) {st v nx : Int32} (hst : c.1 49 5 = st)
    (hcase : (st = 2 ∧ v = 6 ∧ nx = 3) ∨ (st = 5 ∧ v = 8 ∧ nx = 0)) :
    (¬ c.1 27 2 = v ∧ tNo n t c m 1 m) ∨ (c.1 27 2 = v ∧ ∃ m' c', F_X9_nextToken n m = some m' ∧ stp n c c' ∧ nC 27 c c' ∧ c'.1 49 5 = nx ∧ frM m m' ∧ rTape (c'.1 27) (c'.1 28) (m'.1 0) (m'.1 4) ∧ tokA c' m') := by
  have htake : F_X1_take n (c.1 27 2) c = F_X1_takeSign v nx c := by
    unfold F_X1_take
    rw [hst]
    rcases hcase with ⟨rfl, rfl, rfl⟩ | ⟨rfl, rfl, rfl⟩
    · rw [if_neg (by decide), if_neg (by decide), if_pos rfl, bind_id]
    · rw [if_neg (by decide), if_neg (by decide), if_neg (by decide), if_neg (by decide), if_neg (by decide), if_pos rfl, bind_id]
  have hst0 : ¬ c.1 49 5 = 0 := by rw [hst]; rcases hcase with z | z <;> (rw [z.1]; decide)
  by_cases k : c.1 27 2 = v
  · right
    have hne : ¬ c.1 27 2 = 1 := by rw [k]; rcases hcase with z | z <;> (rw [z.2.1]; decide)
    have hs : F_X1_take n (c.1 27 2) c = some (upI c 49 5 nx) := by
      rw [htake]
      unfold F_X1_takeSign
      rw [if_pos k, jl_1]
    obtain ⟨c2, m2, k1, k2, k3, k4, k5, k6, k7⟩ := advance2 hn (c1 := upI c 49 5 nx) (m1 := m) hT hK hne rfl rfl rfl rfl rfl
    refine ⟨k, m2, c2, k2, ⟨fun z => hst0 z.1, k7, by rw [k3.1 49 (by decide), upI_1, if_pos rfl, upd_ne (by decide)], _, hs, h0, k1⟩, ⟨fun k a1 a2 a3 => ?_, fun j a1 => ?_, ?_, ?_⟩, ?_, k4, k6, k5⟩
    · rw [k3.1 k a1, upI_1, if_neg a2]
    · rw [k3.1 49 (by decide), upI_1, if_pos rfl, upd_ne a1]
    · rw [k3.2.1]; rfl
    · rw [k3.2.2]; rfl
    · rw [k3.1 49 (by decide), upI_1, if_pos rfl, upd_eq rfl]
  · left
    refine ⟨k, tNo_here (c2 := upI (upI c 49 0 1) 49 1 (c.1 27 4)) (by decide) hT hK (fun z => hst0 z.1) h0 ?_ ?_ ?_ (fC_49 (fC_49 fC_rfl (by decide) _) (by decide) _)⟩
    · rw [htake]
      unfold F_X1_takeSign
      rw [if_neg k, refuse_is, Option.bind_some]
    · rfl
    · rfl
