/-! sums: the operators (0 - ahead of one, 1 +, 2 -, 3 *, 4 /, 5 a paren) and their words -/
def oR (p : Fin 6) : Int32 := ([2, 3, 4, 5, 6, 40] : List Int32).getD p.val 0
def oC (p : Fin 6) : Int32 := ([24, 20, 21, 22, 23, 9] : List Int32).getD p.val 0
def app3 : List (Fin 6) → List (Int32 × Int32 × Int32) → List (Int32 × Int32 × Int32)
  | [], W => W
  | p :: P, W => app3 P ((-(oC p), oR p, 0) :: W)
def w1 (ws : List (Int32 × Int32 × Int32)) : List Int32 := ws.map (fun x => x.1)
def w2 (ws : List (Int32 × Int32 × Int32)) : List (Int32 × Int32) := ws.map (fun x => x.2)
theorem w1_len (ws : List (Int32 × Int32 × Int32)) : (w1 ws).length = ws.length := List.length_map ..
theorem w2_len (ws : List (Int32 × Int32 × Int32)) : (w2 ws).length = ws.length := List.length_map ..
theorem app3_1 : ∀ (P : List (Fin 6)) (W : List (Int32 × Int32 × Int32)), w1 (app3 P W) = app (P.map oC) (w1 W) := by
  intro P
  induction P with
  | nil => intro W; rfl
  | cons p P ih => intro W; exact ih _
theorem app3_2 : ∀ (P : List (Fin 6)) (W : List (Int32 × Int32 × Int32)), w2 (app3 P W) = appM (P.map oR) (w2 W) := by
  intro P
  induction P with
  | nil => intro W; rfl
  | cons p P ih => intro W; exact ih _
theorem app3_len : ∀ (P : List (Fin 6)) (W : List (Int32 × Int32 × Int32)), (app3 P W).length = P.length + W.length := by
  intro P
  induction P with
  | nil => intro W; exact (Nat.zero_add _).symm
  | cons p P ih =>
    intro W
    have := ih ((-(oC p), oR p, 0) :: W)
    show (app3 P ((-(oC p), oR p, 0) :: W)).length = P.length + 1 + W.length
    rw [this]
    show P.length + (W.length + 1) = _
    omega
def codeL : List (Int32 × Int32 × Int32) → Nat → Nat → Prop
  | [], a, b => a = 0 ∧ b = 0
  | x :: r, a', b' => ∃ a b, codeL r a b ∧ a + b ≤ 64 ∧ opStep x.1 x.2.1 x.2.2 a b a' b'
theorem bin_step : ∀ p : Fin 6, 1 ≤ p.val → p.val ≤ 4 → ∃ k : Nat, 3 ≤ k ∧ k ≤ 6 ∧ oR p = Int32.ofNat k ∧ -(oC p) = -Int32.ofNat (17 + k) := by
  intro p h1 h2
  refine ⟨p.val + 2, by omega, by omega, ?_, ?_⟩
  · revert p; decide
  · revert p; decide
theorem codeL_bin {a b : Nat} (ha : 1 ≤ a) : ∀ (P : List (Fin 6)) (W : List (Int32 × Int32 × Int32)), (∀ p ∈ P, 1 ≤ p.val ∧ p.val ≤ 4) → codeL W (a + P.length) b → a + P.length + b ≤ 64 → codeL (app3 P W) a b := by
  intro P
  induction P with
  | nil => intro W _ h _; exact h
  | cons p P ih =>
    intro W hP h hl
    have hl' : a + (P.length + 1) + b ≤ 64 := hl
    obtain ⟨p1, p2⟩ := hP p (List.mem_cons_self ..)
    obtain ⟨k, k1, k2, k3, k4⟩ := bin_step p p1 p2
    refine ih _ (fun q hq => hP q (List.mem_cons_of_mem _ hq)) ⟨a + (P.length + 1), b, h, hl', ?_⟩ (by omega)
    exact Or.inr (Or.inr (Or.inr (Or.inl ⟨k, k1, k2, k3, k4, by omega, by omega, rfl⟩)))
theorem codeL_neg {a b : Nat} (ha : 1 ≤ a) (hab : a + b ≤ 64) : ∀ (P : List (Fin 6)) (W : List (Int32 × Int32 × Int32)), (∀ p ∈ P, p = 0) → codeL W a b → codeL (app3 P W) a b := by
  intro P
  induction P with
  | nil => intro W _ h; exact h
  | cons p P ih =>
    intro W hP h
    have hp := hP p (List.mem_cons_self ..)
    subst hp
    refine ih _ (fun q hq => hP q (List.mem_cons_of_mem _ hq)) ⟨a, b, h, hab, ?_⟩
    exact Or.inr (Or.inr (Or.inl ⟨rfl, by decide, ha, rfl, rfl⟩))
def okP : List (Fin 6) → Prop
  | [] => True
  | p :: r => okP r ∧ ((p = 1 ∨ p = 2) → ∀ q r', r = q :: r' → q = 5) ∧ ((p = 3 ∨ p = 4) → ∀ q r', r = q :: r' → q = 5 ∨ q = 1 ∨ q = 2)
def deep : List (Fin 6) → Nat
  | [] => 0
  | p :: r => (if p = 0 ∨ p = 5 then 1 else 0) + deep r
def bins : List (Fin 6) → Nat
  | [] => 0
  | p :: r => (if p = 0 ∨ p = 5 then 0 else 1) + bins r
def pars : List (Fin 6) → Nat
  | [] => 0
  | p :: r => (if p = 5 then 1 else 0) + pars r
theorem pars_mem : ∀ pl : List (Fin 6), (0 < pars pl ↔ (5 : Fin 6) ∈ pl) := by
  intro pl
  induction pl with
  | nil => exact ⟨fun h => absurd h (Nat.lt_irrefl 0), fun h => absurd h (by simp)⟩
  | cons p r ih =>
    show 0 < (if p = 5 then 1 else 0) + pars r ↔ _
    by_cases h : p = 5
    · rw [if_pos h, h]
      exact ⟨fun _ => List.mem_cons_self .., fun _ => by omega⟩
    · rw [if_neg h, Nat.zero_add, ih]
      exact ⟨fun z => List.mem_cons_of_mem _ z, fun z => by
        rcases List.mem_cons.mp z with z | z
        · exact absurd z.symm h
        · exact z⟩
theorem len_eq : ∀ pl : List (Fin 6), pl.length = deep pl + bins pl := by
  intro pl
  induction pl with
  | nil => rfl
  | cons p r ih =>
    show r.length + 1 = ((if p = 0 ∨ p = 5 then 1 else 0) + deep r) + ((if p = 0 ∨ p = 5 then 0 else 1) + bins r)
    by_cases h : p = 0 ∨ p = 5
    · rw [if_pos h, if_pos h]; omega
    · rw [if_neg h, if_neg h]; omega
theorem f6_a : ∀ p : Fin 6, ¬ (p = 0 ∨ p = 5) → ¬ (p = 1 ∨ p = 2) → p = 3 ∨ p = 4 := by decide
theorem f6_b : ∀ q : Fin 6, ¬ q = 5 → ¬ q = 0 → 1 ≤ q.val ∧ q.val ≤ 4 := by decide
theorem f6_c : ∀ q : Fin 6, q = 3 ∨ q = 4 → 3 ≤ q.val ∧ q.val ≤ 4 := by decide
theorem f6_d : ∀ p : Fin 6, ¬ (p = 3 ∨ p = 4) → ¬ p = 0 → p = 5 ∨ p = 1 ∨ p = 2 := by decide
theorem f6_e : ∀ p : Fin 6, 1 ≤ p.val ∧ p.val ≤ 4 → ¬ (p = 0 ∨ p = 5) ∧ ¬ p = 5 ∧ ¬ (oC p = 13 ∨ oC p = 24) := by decide
theorem f6_f : ∀ p : Fin 6, ∀ j : Nat, j < 8 → ¬ -(oC p) = 10000 + Int32.ofNat j := by decide +kernel
theorem len_le : ∀ pl : List (Fin 6), okP pl → pl.length ≤ 3 * deep pl + 2 ∧ (∀ q r, pl = q :: r → (q = 0 ∨ q = 5 → pl.length ≤ 3 * deep pl) ∧ (q = 1 ∨ q = 2 → pl.length ≤ 3 * deep pl + 1)) := by
  intro pl
  induction pl with
  | nil => intro _; exact ⟨by decide, fun q r h => by cases h⟩
  | cons p r ih =>
    intro ⟨h1, h2, h3⟩
    obtain ⟨i1, i2⟩ := ih h1
    have hd : deep (p :: r) = (if p = 0 ∨ p = 5 then 1 else 0) + deep r := rfl
    have hl : (p :: r).length = r.length + 1 := rfl
    have hr : r = [] ∨ ∃ q r', r = q :: r' := by
      cases r with
      | nil => exact Or.inl rfl
      | cons q r' => exact Or.inr ⟨q, r', rfl⟩
    have hz : r = [] → r.length = 0 := fun z => by rw [z]; rfl
    by_cases h05 : p = 0 ∨ p = 5
    · rw [if_pos h05] at hd
      refine ⟨by omega, fun q r' h => ⟨fun _ => by omega, fun z => by omega⟩⟩
    · rw [if_neg h05] at hd
      by_cases h12 : p = 1 ∨ p = 2
      · have : r.length ≤ 3 * deep r := by
          rcases hr with z | ⟨q, r', z⟩
          · have := hz z; omega
          · exact (i2 q r' z).1 (Or.inr (h2 h12 q r' z))
        exact ⟨by omega, fun q r' h => ⟨fun z => by obtain ⟨rfl, _⟩ := List.cons.inj h; exact absurd z h05, fun _ => by omega⟩⟩
      · have h34 : p = 3 ∨ p = 4 := f6_a p h05 h12
        have : r.length ≤ 3 * deep r + 1 := by
          rcases hr with z | ⟨q, r', z⟩
          · have := hz z; omega
          · rcases h3 h34 q r' z with y | y
            · have := (i2 q r' z).1 (Or.inr y); omega
            · exact (i2 q r' z).2 y
        exact ⟨by omega, fun q r' h => ⟨fun z => by obtain ⟨rfl, _⟩ := List.cons.inj h; exact absurd z h05, fun z => by obtain ⟨rfl, _⟩ := List.cons.inj h; exact absurd z h12⟩⟩
theorem okP_tail {P R : List (Fin 6)} : okP (P ++ R) → okP R := by
  induction P with
  | nil => exact fun h => h
  | cons p P ih => exact fun h => ih h.1
/-- the operators ahead of the nearest paren -/
theorem split_par : ∀ pl : List (Fin 6), okP pl → (∀ r, ¬ pl = 0 :: r) → ∃ P R, pl = P ++ R ∧ (∀ p ∈ P, 1 ≤ p.val ∧ p.val ≤ 4) ∧ (∀ q r, R = q :: r → q = 5) := by
  intro pl
  induction pl with
  | nil => intro _ _; exact ⟨[], [], rfl, fun p hp => absurd hp (by simp), fun q r h => by cases h⟩
  | cons p r ih =>
    intro ⟨h1, h2, h3⟩ h0
    by_cases h5 : p = 5
    · exact ⟨[], p :: r, rfl, fun q hq => absurd hq (by simp), fun q r' h => by obtain ⟨rfl, _⟩ := List.cons.inj h; exact h5⟩
    · have hp0 : ¬ p = 0 := fun z => h0 r (by rw [z])
      have hr0 : ∀ r', ¬ r = 0 :: r' := fun r' z => by
        by_cases h12 : p = 1 ∨ p = 2
        · exact absurd (h2 h12 0 r' z) (by decide)
        · have h34 : p = 3 ∨ p = 4 := f6_a p (fun z => by rcases z with z | z; exact hp0 z; exact h5 z) h12
          exact absurd (h3 h34 0 r' z) (by decide)
      obtain ⟨P, R, e1, e2, e3⟩ := ih h1 hr0
      refine ⟨p :: P, R, by rw [e1]; rfl, fun q hq => ?_, e3⟩
      rcases List.mem_cons.mp hq with z | z
      · subst z
        exact f6_b q h5 hp0
      · exact e2 q z
theorem split_mul : ∀ pl : List (Fin 6), okP pl → (∀ r, ¬ pl = 0 :: r) → ∃ P R, pl = P ++ R ∧ (∀ p ∈ P, 3 ≤ p.val ∧ p.val ≤ 4) ∧ (∀ q r, R = q :: r → q = 5 ∨ q = 1 ∨ q = 2) := by
  intro pl
  cases pl with
  | nil => intro _ _; exact ⟨[], [], rfl, fun p hp => absurd hp (by simp), fun q r h => by cases h⟩
  | cons p r =>
    intro ⟨h1, h2, h3⟩ h0
    by_cases h34 : p = 3 ∨ p = 4
    · refine ⟨[p], r, rfl, fun q hq => ?_, h3 h34⟩
      rcases List.mem_cons.mp hq with z | z
      · subst z
        exact f6_c q h34
      · exact absurd z (by simp)
    · refine ⟨[], p :: r, rfl, fun q hq => absurd hq (by simp), fun q r' h => ?_⟩
      obtain ⟨rfl, _⟩ := List.cons.inj h
      have hp0 : ¬ p = 0 := fun z => h0 r (by rw [z])
      exact f6_d p h34 hp0
theorem split_neg : ∀ pl : List (Fin 6), ∃ P R, pl = P ++ R ∧ (∀ p ∈ P, p = 0) ∧ (∀ q r, R = q :: r → ¬ q = 0) := by
  intro pl
  induction pl with
  | nil => exact ⟨[], [], rfl, fun p hp => absurd hp (by simp), fun q r h => by cases h⟩
  | cons p r ih =>
    by_cases h : p = 0
    · obtain ⟨P, R, e1, e2, e3⟩ := ih
      refine ⟨p :: P, R, by rw [e1]; rfl, fun q hq => ?_, e3⟩
      rcases List.mem_cons.mp hq with z | z
      · rw [z]; exact h
      · exact e2 q z
    · exact ⟨[], p :: r, rfl, fun q hq => absurd hq (by simp), fun q r' e => by obtain ⟨rfl, _⟩ := List.cons.inj e; exact h⟩
theorem deep_app : ∀ P R : List (Fin 6), deep (P ++ R) = deep P + deep R := by
  intro P R
  induction P with
  | nil => exact (Nat.zero_add _).symm
  | cons p P ih =>
    show _ + deep (P ++ R) = _ + deep P + deep R
    omega
theorem bins_app : ∀ P R : List (Fin 6), bins (P ++ R) = bins P + bins R := by
  intro P R
  induction P with
  | nil => exact (Nat.zero_add _).symm
  | cons p P ih =>
    show _ + bins (P ++ R) = _ + bins P + bins R
    omega
theorem pars_app : ∀ P R : List (Fin 6), pars (P ++ R) = pars P + pars R := by
  intro P R
  induction P with
  | nil => exact (Nat.zero_add _).symm
  | cons p P ih =>
    show _ + pars (P ++ R) = _ + pars P + pars R
    omega
theorem cnt_bin : ∀ P : List (Fin 6), (∀ p ∈ P, 1 ≤ p.val ∧ p.val ≤ 4) → deep P = 0 ∧ bins P = P.length ∧ pars P = 0 ∧ nests (P.map oC) = 0 := by
  intro P
  induction P with
  | nil => intro _; exact ⟨rfl, rfl, rfl, rfl⟩
  | cons p P ih =>
    intro h
    obtain ⟨a, b, c, d⟩ := ih (fun q hq => h q (List.mem_cons_of_mem _ hq))
    have hp := h p (List.mem_cons_self ..)
    have e0 : ¬ (p = 0 ∨ p = 5) ∧ ¬ p = 5 ∧ ¬ (oC p = 13 ∨ oC p = 24) := f6_e p hp
    refine ⟨?_, ?_, ?_, ?_⟩
    · show (if p = 0 ∨ p = 5 then 1 else 0) + deep P = 0
      rw [if_neg e0.1, a]
    · show (if p = 0 ∨ p = 5 then 0 else 1) + bins P = P.length + 1
      rw [if_neg e0.1, b]; omega
    · show (if p = 5 then 1 else 0) + pars P = 0
      rw [if_neg e0.2.1, c]
    · show (if oC p = 13 ∨ oC p = 24 then 1 else 0) + nests (P.map oC) = 0
      rw [if_neg e0.2.2, d]
theorem cnt_neg : ∀ P : List (Fin 6), (∀ p ∈ P, p = 0) → deep P = P.length ∧ bins P = 0 ∧ pars P = 0 ∧ nests (P.map oC) = P.length := by
  intro P
  induction P with
  | nil => intro _; exact ⟨rfl, rfl, rfl, rfl⟩
  | cons p P ih =>
    intro h
    obtain ⟨a, b, c, d⟩ := ih (fun q hq => h q (List.mem_cons_of_mem _ hq))
    have hp := h p (List.mem_cons_self ..)
    subst hp
    refine ⟨?_, ?_, ?_, ?_⟩
    · show 1 + deep P = P.length + 1
      omega
    · show 0 + bins P = 0
      omega
    · show 0 + pars P = 0
      omega
    · show 1 + nests (P.map oC) = P.length + 1
      omega
/-- names among the words, and the bits that tell them -/
def nmB (x : Int32) (ws : List (Int32 × Int32 × Int32)) : Prop := ∀ j : Nat, j < 8 → (((x >>> (Int32.ofNat j &&& 31)) &&& (1 : Int32)) = 1 ↔ ∃ y ∈ ws, y.1 = 10000 + Int32.ofNat j)
theorem nmB_skip {x : Int32} {ws : List (Int32 × Int32 × Int32)} {y : Int32 × Int32 × Int32} (h : nmB x ws) (hy : ∀ j : Nat, j < 8 → ¬ y.1 = 10000 + Int32.ofNat j) : nmB x (y :: ws) := by
  intro j hj
  rw [h j hj]
  constructor
  · rintro ⟨z, hz, e⟩
    exact ⟨z, List.mem_cons_of_mem _ hz, e⟩
  · rintro ⟨z, hz, e⟩
    rcases List.mem_cons.mp hz with q | q
    · rw [q] at e
      exact absurd e (hy j hj)
    · exact ⟨z, q, e⟩
theorem nmB_app {x : Int32} : ∀ (P : List (Fin 6)) (ws : List (Int32 × Int32 × Int32)), nmB x ws → nmB x (app3 P ws) := by
  intro P
  induction P with
  | nil => intro ws h; exact h
  | cons p P ih =>
    intro ws h
    refine ih _ (nmB_skip h ?_)
    intro j hj
    exact f6_f p j hj
theorem bit_or (x y k : Int32) : (((x ||| y) >>> k) &&& (1 : Int32)) = ((x >>> k) &&& 1) ||| ((y >>> k) &&& 1) := by
  apply Int32.toBitVec_inj.mp
  rw [Int32.toBitVec_and, Int32.toBitVec_or, Int32.toBitVec_and, Int32.toBitVec_and, Int32.toBitVec_shiftRight, Int32.toBitVec_shiftRight, Int32.toBitVec_shiftRight, Int32.toBitVec_or]
  unfold BitVec.sshiftRight'
  rw [BitVec.sshiftRight_or_distrib]
  ext i hi
  simp only [BitVec.getElem_and, BitVec.getElem_or]
  cases (x.toBitVec.sshiftRight (k.toBitVec.smod 32).toNat)[i] <;> cases (y.toBitVec.sshiftRight (k.toBitVec.smod 32).toNat)[i] <;> cases (1 : Int32).toBitVec[i] <;> rfl
theorem and1_or1 (z : Int32) : (z &&& 1) ||| 1 = (1 : Int32) := by
  apply Int32.toBitVec_inj.mp
  rw [Int32.toBitVec_or, Int32.toBitVec_and]
  ext i hi
  simp only [BitVec.getElem_and, BitVec.getElem_or]
  cases z.toBitVec[i] <;> cases (1 : Int32).toBitVec[i] <;> rfl
theorem or0 (z : Int32) : z ||| 0 = z := Int32.or_zero
theorem nmB_name {x v : Int32} {ws : List (Int32 × Int32 × Int32)} (h : nmB x ws) (h0 : 0 ≤ v.toInt) (h1 : v.toInt < 8) (o w : Int32) : nmB (x ||| ((1 : Int32) <<< (v &&& 31))) ((10000 + v, o, w) :: ws) := by
  obtain ⟨i, hi, rfl⟩ : ∃ i : Nat, i < 8 ∧ v = Int32.ofNat i := ⟨v.toInt.toNat, by omega, i32_of h0⟩
  intro j hj
  rw [bit_or]
  by_cases e : j = i
  · subst e
    have k1 : ∀ j : Nat, j < 8 → ((((1 : Int32) <<< (Int32.ofNat j &&& 31)) >>> (Int32.ofNat j &&& 31)) &&& 1) = 1 := by decide +kernel
    rw [k1 j hj, and1_or1]
    exact ⟨fun _ => ⟨_, List.mem_cons_self .., rfl⟩, fun _ => rfl⟩
  · have k1 : ∀ i : Nat, i < 8 → ∀ j : Nat, j < 8 → ¬ j = i → ((((1 : Int32) <<< (Int32.ofNat i &&& 31)) >>> (Int32.ofNat j &&& 31)) &&& 1) = 0 ∧ ¬ (10000 + Int32.ofNat i : Int32) = 10000 + Int32.ofNat j := by decide +kernel
    obtain ⟨k2, k3⟩ := k1 i hi j hj e
    rw [k2, or0, h j hj]
    constructor
    · rintro ⟨z, hz, q⟩
      exact ⟨z, List.mem_cons_of_mem _ hz, q⟩
    · rintro ⟨z, hz, q⟩
      rcases List.mem_cons.mp hz with y | y
      · rw [y] at q
        exact absurd q k3
      · exact ⟨z, y, q⟩
