/-! a text read, whole -/
theorem clause_read {n t : Nat} (hn : 400000 ≤ n) (ht : t < 4) {Wf : List (Int32 × Int32 × Int32)} {c m : jS} (h : textR t Wf c m) (hne : ¬ c.1 27 2 = 1) :
    ∃ r, F_X9_clause n m = some r ∧ (tNo n t c m r.1 r.2 ∨ (r.1 = 0 ∧ ∃ c' Wf', rch n c c' ∧ (c.1 27 4).toInt + 1 ≤ (c'.1 27 4).toInt ∧ textR t Wf' c' r.2 ∧ fC t c c' ∧ fM t m r.2)) := by
  have h' := h
  obtain ⟨⟨s1, s2, s3⟩, hT, hK, hcl, hop, _, u1, u2⟩ := h
  have hx4 : c.1 (2 + 4 * t) 4 = m.1 3 (680 * t) := hcl.1.1
  have hx0 := hcl.1.2
  obtain ⟨cc, hcc⟩ : ∃ cc : Nat, (c.1 (2 + 4 * t) 4).toInt = cc := ⟨(c.1 (2 + 4 * t) 4).toInt.toNat, by omega⟩
  have hj13 : jin (m.1 0 13) 2720 = true := jin_of (by omega) (by omega)
  have hn13 : (m.1 0 13).toNatClampNeg = 680 * t := nat_val u2
  have hsort : F_X9_sortOf m = (if c.1 27 2 = 4 then 0 else if c.1 27 2 = 5 then 1 else if c.1 27 2 = 7 then 2 else -1) := (sortOf_D m).trans hK.2.1.2.2.1
  have l24 : (24 : Int32).toInt = 24 := rfl
  have hfull : m.1 3 (680 * t) = 24 ↔ cc = 24 := by
    rw [← hx4, i32_eq]
    omega
  have hJ : ∀ v1 : Int32, J_X9_clause_24 n v1 m = (if m.1 3 (680 * t) = 24 then some (5, m) else J_X9_clause_59 n v1 (m.1 3 (680 * t)) (jz (m.1 0 21) || decide (v1 = 0)) m) := fun v1 => by
    rw [J24_is hj13, hn13]
  have hst0 : ¬ (c.1 49 5 = 0 ∧ c.1 27 2 = 1) := fun z => hne z.2
  have no : ∀ f : Int32, ¬ f = 0 → F_X1_takeClause (c.1 27 2) c = some (upI (upI c 49 0 f) 49 1 (c.1 27 4)) → tNo n t c m f m := fun f hf hq =>
    tNo_here hf hT hK hst0 s3 ((take_0 s2).trans hq) rfl rfl (fC_49 (fC_49 fC_rfl (by decide) _) (by decide) _)
  by_cases k4 : c.1 27 2 = 4
  · rw [if_pos k4] at hsort
    have href : F_X9_clause n m = (if jz (m.1 0 21) = true then some (4, m) else J_X9_clause_24 n 0 m) := by
      unfold F_X9_clause
      rw [hsort, if_pos (by decide), if_pos rfl]
    by_cases ho : jz (c.1 (2 + 4 * t) 6) = true
    · refine ⟨(4, m), by rw [href, if_pos (hop.mp ho)], Or.inl (no 4 (by decide) ?_)⟩
      rw [k4]
      exact takeClause_opened ht s1 ho
    · rw [if_neg (fun z => ho (hop.mpr z)), hJ] at href
      by_cases h24 : cc = 24
      · rw [if_pos (hfull.mpr h24)] at href
        exact ⟨(5, m), href, Or.inl (no 5 (by decide) (takeClause_no ht s1 (by omega) (Or.inl k4) (fun _ => ho)))⟩
      · rw [if_neg (fun z => h24 (hfull.mp z)), show (jz (m.1 0 21) || decide ((0 : Int32) = 0)) = true from by rw [decide_eq_true rfl, Bool.or_true]] at href
        obtain ⟨r, a1, a2⟩ := clause_open hn ht h' k4 ho hcc (by omega)
        exact ⟨r, href.trans a1, a2⟩
  · by_cases k57 : c.1 27 2 = 5 ∨ c.1 27 2 = 7
    · obtain ⟨v1, hv1, hs1⟩ : ∃ v1 : Int32, ((c.1 27 2 = 5 ∧ v1 = 1) ∨ (c.1 27 2 = 7 ∧ v1 = 2)) ∧ F_X9_sortOf m = v1 := by
        rcases k57 with k | k
        · exact ⟨1, Or.inl ⟨k, rfl⟩, by rw [hsort, if_neg k4, if_pos k]⟩
        · exact ⟨2, Or.inr ⟨k, rfl⟩, by rw [hsort, if_neg k4, if_neg (by rw [k]; decide), if_pos k]⟩
      have hv0 : 0 ≤ v1 ∧ ¬ v1 = 0 := by rcases hv1 with ⟨_, rfl⟩ | ⟨_, rfl⟩ <;> decide
      have href : F_X9_clause n m = J_X9_clause_24 n v1 m := by
        unfold F_X9_clause
        rw [hs1, if_pos hv0.1, if_neg hv0.2]
      rw [hJ] at href
      by_cases h24 : cc = 24
      · rw [if_pos (hfull.mpr h24)] at href
        exact ⟨(5, m), href, Or.inl (no 5 (by decide) (takeClause_no ht s1 (by omega) (Or.inr k57) (fun z => absurd z k4)))⟩
      · rw [if_neg (fun z => h24 (hfull.mp z)), decide_eq_false hv0.2, Bool.or_false] at href
        obtain ⟨r, a1, a2⟩ := clause_other hn ht h' (k1 := jz (m.1 0 21)) rfl hv1 hcc (by omega) Iff.rfl
        exact ⟨r, href.trans a1, a2⟩
    · have k5 : ¬ c.1 27 2 = 5 := fun z => k57 (Or.inl z)
      have k7 : ¬ c.1 27 2 = 7 := fun z => k57 (Or.inr z)
      rw [if_neg k4, if_neg k5, if_neg k7] at hsort
      refine ⟨(1, m), ?_, Or.inl (no 1 (by decide) ?_)⟩
      · unfold F_X9_clause
        rw [hsort, if_neg (by decide)]
      · unfold F_X1_takeClause
        rw [if_neg k4, if_neg k5, if_neg k7, refuse_is, Option.bind_some]
/-- how the class's loop ends at a token -/
def fin (n : Nat) (c y : jS) : Prop := (c.1 49 5 = 0 ∧ c.1 27 2 = 1 ∧ y = c) ∨ (¬ (c.1 49 5 = 0 ∧ c.1 27 2 = 1) ∧ F_X1_take n (c.1 27 2) c = some y ∧ ¬ y.1 49 0 = 0)
theorem loop_end {n : Nat} {c' y : jS} (hf : fin n c' y) (h0' : c'.1 49 0 = 0) (h300 : (c'.1 27 4).toInt ≤ 300) :
    ∀ (kk : Nat) (c x : jS) (k : Int32) (fuel : Nat), rchK n kk c c' → x.1 49 0 = 0 → F_X4_nextToken n x = some c → 0 ≤ k.toInt → k.toInt ≤ (c.1 27 4).toInt → kk + 2 ≤ fuel → ∃ e, lp (B_X1_read_T_38 n) fuel (false, k, x) = some e ∧ e.2.2 = y := by
  have l1 : (1 : Int32).toInt = 1 := rfl
  have l300 : (300 : Int32).toInt = 300 := rfl
  intro kk
  induction kk with
  | zero =>
    intro c x k fuel hr hx hn hk0 hk hfu
    have e : c = c' := hr
    subst e
    obtain ⟨fuel, rfl⟩ : ∃ f, fuel = f + 2 := ⟨fuel - 2, by omega⟩
    have hb : B_X1_read_T_38 n (false, k, x) = (if (c.1 49 5) = 0 then (if (c.1 27 2) = 1 then J_X1_read_T_86 n k true c else J_X1_read_T_85 n k c) else J_X1_read_T_85 n k c) := by
      unfold B_X1_read_T_38
      dsimp only
      rw [if_neg (fun z => by have := i32_lt.mp z; omega), if_pos hx, if_neg (fun z => by cases z), hn, Option.bind_some]
    rcases hf with ⟨f1, f2, f3⟩ | ⟨f1, f2, f3⟩
    · rw [if_pos f1, if_pos f2] at hb
      unfold J_X1_read_T_86 at hb
      rw [if_pos rfl] at hb
      refine ⟨(true, k + 1, c), ?_, f3.symm⟩
      show (B_X1_read_T_38 n (false, k, x)).bind _ = _
      rw [hb]
      show (B_X1_read_T_38 n (true, k + 1, c)).bind _ = _
      have hb2 : B_X1_read_T_38 n (true, k + 1, c) = some (.inr (true, k + 1, c)) := by
        unfold B_X1_read_T_38
        dsimp only
        by_cases z : (300 : Int32) < k + 1
        · rw [if_pos z]
        · rw [if_neg z, if_pos h0', if_pos rfl]
      rw [hb2]
      rfl
    · have hb' : B_X1_read_T_38 n (false, k, x) = some (.inl (false, k + 1, y)) := by
        rw [hb]
        have h85 : J_X1_read_T_85 n k c = some (.inl (false, k + 1, y)) := by
          unfold J_X1_read_T_85 J_X1_read_T_86
          rw [if_neg (fun z => by cases z), f2, Option.bind_some]
        by_cases z5 : c.1 49 5 = 0
        · rw [if_pos z5, if_neg (fun z => f1 ⟨z5, z⟩), h85]
        · rw [if_neg z5, h85]
      refine ⟨(false, k + 1, y), ?_, rfl⟩
      show (B_X1_read_T_38 n (false, k, x)).bind _ = _
      rw [hb']
      show (B_X1_read_T_38 n (false, k + 1, y)).bind _ = _
      have hb2 : B_X1_read_T_38 n (false, k + 1, y) = some (.inr (false, k + 1, y)) := by
        unfold B_X1_read_T_38
        dsimp only
        by_cases z : (300 : Int32) < k + 1
        · rw [if_pos z]
        · rw [if_neg z, if_neg f3]
      rw [hb2]
      rfl
  | succ kk ih =>
    intro c x k fuel hr hx hn hk0 hk hfu
    obtain ⟨d, ⟨s1, s2, s3, c1, s4, s5, s6⟩, hr'⟩ := hr
    have hle := rch_le ⟨kk, hr'⟩
    obtain ⟨fuel, rfl⟩ : ∃ f, fuel = f + 1 := ⟨fuel - 1, by omega⟩
    have hk1 : (k + 1).toInt = k.toInt + 1 := i32_add (by omega) (by omega)
    have h85 : J_X1_read_T_85 n k c = some (.inl (false, k + 1, c1)) := by
      unfold J_X1_read_T_85 J_X1_read_T_86
      rw [if_neg (fun z => by cases z), s4, Option.bind_some]
    have hb : B_X1_read_T_38 n (false, k, x) = some (.inl (false, k + 1, c1)) := by
      unfold B_X1_read_T_38
      dsimp only
      rw [if_neg (fun z => by have := i32_lt.mp z; omega), if_pos hx, if_neg (fun z => by cases z), hn, Option.bind_some]
      by_cases z5 : c.1 49 5 = 0
      · rw [if_pos z5, if_neg (fun z => s1 ⟨z5, z⟩), h85]
      · rw [if_neg z5, h85]
    obtain ⟨e, e1, e2⟩ := ih d c1 (k + 1) fuel hr' s5 s6 (by omega) (by omega) (by omega)
    refine ⟨e, ?_, e2⟩
    show (B_X1_read_T_38 n (false, k, x)).bind _ = _
    rw [hb]
    exact e1
theorem rchK_le {n : Nat} : ∀ (k : Nat) (a b : jS), rchK n k a b → (a.1 27 4).toInt + k ≤ (b.1 27 4).toInt := by
  intro k
  induction k with
  | zero => intro a b h; have e : a = b := h; rw [e]; omega
  | succ k ih =>
    intro a b h
    obtain ⟨x, s, r⟩ := h
    have := ih x b r
    have := s.2.1
    omega
/-- the clauses in their order -/
theorem clauses_rel {n t : Nat} (hn : 400000 ≤ n) (ht : t < 4) {c m : jS} (h : textR t [] c m) :
    ∃ e, lp (B_X9_readText_48 n) n m = some e ∧ ((∃ f y, e = .inr (f, y) ∧ tNo n t c m f y) ∨ ∃ y, e = .inl y ∧ ∃ c' Wf, rch n c c' ∧ textR t Wf c' y ∧ fC t c c' ∧ fM t m y ∧ c'.1 27 2 = 1) := by
  obtain ⟨e, he, hq⟩ := lp_rule (body := B_X9_readText_48 n)
    (I := fun y k => ∃ c' Wf, rch n c c' ∧ textR t Wf c' y ∧ fC t c c' ∧ fM t m y ∧ k = 300 - (c'.1 27 4).toInt.toNat)
    (Q := fun e => (∃ f y, e = .inr (f, y) ∧ tNo n t c m f y) ∨ ∃ y, e = .inl y ∧ ∃ c' Wf, rch n c c' ∧ textR t Wf c' y ∧ fC t c c' ∧ fM t m y ∧ c'.1 27 2 = 1) (by
    rintro y k ⟨c', Wf, g1, g2, g3, g4, g5⟩
    have hend := g2.2.2.1.2.1.1
    by_cases k1 : c'.1 27 2 = 1
    · left
      exact ⟨.inl y, by unfold B_X9_readText_48; rw [if_pos (hend.mp k1)], Or.inr ⟨y, rfl, c', Wf, g1, g2, g3, g4, k1⟩⟩
    · obtain ⟨r, a1, a2⟩ := clause_read hn ht g2 k1
      rcases a2 with a2 | ⟨a0, c2, Wf2, b1, b2, b3, b4, b5⟩
      · left
        refine ⟨.inr (r.1, r.2), ?_, Or.inl ⟨r.1, r.2, rfl, tNo_tr g1 g3 g4 a2⟩⟩
        unfold B_X9_readText_48
        rw [if_neg (fun z => k1 (hend.mpr z)), a1, Option.bind_some, if_neg a2.1]
      · right
        have q1 := (notEnd b3.2.1 b3.2.2.1).1
        have q2 := g2.2.2.1.1.2.2.1
        refine ⟨r.2, 300 - (c2.1 27 4).toInt.toNat, by omega, ?_, c2, Wf2, rch_tr g1 b1, b3, fC_tr g3 b4, fM_tr g4 b5, rfl⟩
        unfold B_X9_readText_48
        rw [if_neg (fun z => k1 (hend.mpr z)), a1, Option.bind_some, if_pos a0]) (300 - (c.1 27 4).toInt.toNat) n m (by omega) ⟨c, [], rch_rfl, h, fC_rfl, fM_rfl, rfl⟩
  exact ⟨e, he, hq⟩
/-- a text's code from its words -/
theorem code_of {w z3 : Nat → Int32} {B : Nat} : ∀ (W : List (Int32 × Int32 × Int32)) (a b : Nat), codeL W a b → rowL w (w1 W) → rowM z3 B (w2 W) → ∃ D : Nat → Nat × Nat, D 0 = (0, 0) ∧ D W.length = (a, b) ∧ ∀ i : Nat, i < W.length → (D i).1 + (D i).2 ≤ 64 ∧ opStep (w i) (z3 (B + 2 * i)) (z3 (B + 2 * i + 1)) (D i).1 (D i).2 (D (i + 1)).1 (D (i + 1)).2 := by
  intro W
  induction W with
  | nil =>
    intro a b h _ _
    obtain ⟨rfl, rfl⟩ := h
    exact ⟨fun _ => (0, 0), rfl, rfl, fun i hi => absurd hi (Nat.not_lt_zero i)⟩
  | cons x W ih =>
    intro a b ⟨a', b', h1, h2, h3⟩ h4 h5
    obtain ⟨D, d0, dN, d1⟩ := ih a' b' h1 h4.2 h5.2
    have e1 : w W.length = x.1 := by have := h4.1; rw [show (List.map (fun x : Int32 × Int32 × Int32 => x.1) W).length = W.length from List.length_map ..] at this; exact this
    have hl : (List.map (fun x : Int32 × Int32 × Int32 => x.2) W).length = W.length := List.length_map ..
    have e2 : z3 (B + 2 * W.length) = x.2.1 := by have := h5.1.1; rw [hl] at this; exact this
    have e3 : z3 (B + 2 * W.length + 1) = x.2.2 := by have := h5.1.2; rw [hl] at this; exact this
    refine ⟨fun i => if i = W.length + 1 then (a, b) else D i, ?_, ?_, fun i hi => ?_⟩
    · show (if 0 = W.length + 1 then (a, b) else D 0) = _
      rw [if_neg (by omega)]; exact d0
    · show (if W.length + 1 = W.length + 1 then (a, b) else D (W.length + 1)) = _
      rw [if_pos rfl]
    · have hi' : i < W.length + 1 := hi
      show (if i = W.length + 1 then (a, b) else D i).1 + (if i = W.length + 1 then (a, b) else D i).2 ≤ 64 ∧ opStep (w i) (z3 (B + 2 * i)) (z3 (B + 2 * i + 1)) (if i = W.length + 1 then (a, b) else D i).1 (if i = W.length + 1 then (a, b) else D i).2 (if i + 1 = W.length + 1 then (a, b) else D (i + 1)).1 (if i + 1 = W.length + 1 then (a, b) else D (i + 1)).2
      rw [if_neg (by omega)]
      by_cases e : i = W.length
      · subst e
        rw [if_pos rfl, dN, e1, e2, e3]
        exact ⟨h2, h3⟩
      · rw [if_neg (by omega)]
        exact d1 i (by omega)
theorem words_mem {w : Nat → Int32} : ∀ (W : List (Int32 × Int32 × Int32)), rowL w (w1 W) → ∀ v : Int32, ((∃ y ∈ W, y.1 = v) ↔ ∃ i : Nat, i < W.length ∧ w i = v) := by
  intro W
  induction W with
  | nil => intro _ v; exact ⟨fun ⟨y, hy, _⟩ => absurd hy (by simp), fun ⟨i, hi, _⟩ => absurd hi (Nat.not_lt_zero i)⟩
  | cons x W ih =>
    intro h v
    have hi := ih h.2 v
    have e1 : w W.length = x.1 := by have := h.1; rw [show (List.map (fun x : Int32 × Int32 × Int32 => x.1) W).length = W.length from List.length_map ..] at this; exact this
    constructor
    · rintro ⟨y, hy, e⟩
      rcases List.mem_cons.mp hy with rfl | q
      · exact ⟨W.length, Nat.lt_succ_self _, e1.trans e⟩
      · obtain ⟨i, i1, i2⟩ := hi.mp ⟨y, q, e⟩
        exact ⟨i, Nat.lt_succ_of_lt i1, i2⟩
    · rintro ⟨i, i1, i2⟩
      have i1' : i < W.length + 1 := i1
      by_cases e : i = W.length
      · rw [e, e1] at i2
        exact ⟨x, List.mem_cons_self .., i2⟩
      · obtain ⟨y, q, q2⟩ := hi.mpr ⟨i, by omega, i2⟩
        exact ⟨y, List.mem_cons_of_mem _ q, q2⟩
theorem jText_of {t : Nat} {Wf : List (Int32 × Int32 × Int32)} {c m : jS} (h : textR t Wf c m) : jText (c.1 (2 + 4 * t)) (c.1 (2 + 4 * t + 1)) (c.1 (2 + 4 * t + 2)) (c.1 (2 + 4 * t + 3)) (m.1 3) t := by
  obtain ⟨_, _, _, ⟨h1, h2, h3⟩, _, ⟨p1, p2, p3, p4, p5, p6, p7, p8⟩, _, _⟩ := h
  refine ⟨h1, h2, h3, fun ho => ⟨Wf.length, p6, p1, code_of Wf 0 1 (p7 ho) p2 p4, fun j hj => ?_⟩⟩
  rw [p5 j hj]
  exact words_mem Wf p2 _
