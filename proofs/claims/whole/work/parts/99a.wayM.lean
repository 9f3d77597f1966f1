/-! what a rule looks at -/
def lk (x : Int32) (j : Nat) : Prop := ((x >>> (Int32.ofNat j &&& 31)) &&& (1 : Int32)) = 1
theorem lk_is (x : Int32) {j : Nat} (hj : j < 8) : lk x j ↔ x.toBitVec.getLsbD j = true := by
  have hs : ∀ k : Fin 8, ((Int32.ofNat k.val &&& 31 : Int32).toBitVec.smod 32).toNat = k.val := by decide
  have hsj := hs ⟨j, hj⟩
  simp only at hsj
  have h1 : ∀ i : Nat, (1#32).getLsbD i = decide (i = 0) := by
    intro i
    rw [BitVec.getLsbD_one]
    by_cases z : i = 0
    · subst z; rfl
    · simp [z]
  have e : ((x >>> (Int32.ofNat j &&& 31)) &&& (1 : Int32)).toBitVec = x.toBitVec.sshiftRight j &&& 1#32 := by
    rw [Int32.toBitVec_and, Int32.toBitVec_shiftRight]
    unfold BitVec.sshiftRight'
    rw [hsj]
    rfl
  unfold lk
  rw [← Int32.toBitVec_inj, e]
  show x.toBitVec.sshiftRight j &&& 1#32 = 1#32 ↔ _
  have hb : (x.toBitVec.sshiftRight j).getLsbD 0 = x.toBitVec.getLsbD j := by
    rw [BitVec.getLsbD_sshiftRight]
    have : j + 0 < 32 := by omega
    simp
    omega
  constructor
  · intro z
    have := congrArg (fun v => BitVec.getLsbD v 0) z
    simp only [BitVec.getLsbD_and, hb, h1] at this
    simpa using this
  · intro z
    apply BitVec.eq_of_getLsbD_eq
    intro i hi
    rw [BitVec.getLsbD_and, h1]
    by_cases q : i = 0
    · subst q
      rw [hb, z]
      rfl
    · simp [q]
theorem mask_is (x m : Int32) : (x &&& m) = 0 ↔ ∀ i : Nat, i < 32 → m.toBitVec.getLsbD i = true → x.toBitVec.getLsbD i = false := by
  rw [← Int32.toBitVec_inj, Int32.toBitVec_and]
  show x.toBitVec &&& m.toBitVec = 0#32 ↔ _
  constructor
  · intro z i hi hm
    have := congrArg (fun v => BitVec.getLsbD v i) z
    simp only [BitVec.getLsbD_and, hm, BitVec.getLsbD_zero] at this
    simpa using this
  · intro z
    apply BitVec.eq_of_getLsbD_eq
    intro i hi
    rw [BitVec.getLsbD_and, BitVec.getLsbD_zero]
    cases hm : m.toBitVec.getLsbD i with
    | false => simp
    | true => rw [z i hi hm]; rfl
theorem mask1 (x : Int32) {m : Int32} {j : Nat} (hj : j < 8) (hm : ∀ i : Nat, i < 32 → m.toBitVec.getLsbD i = decide (i = j)) : (x &&& m) = 0 ↔ ¬ lk x j := by
  rw [mask_is, lk_is x hj]
  constructor
  · intro z
    rw [z j (by omega) (by rw [hm j (by omega)]; exact decide_eq_true rfl)]
    exact fun q => by cases q
  · intro z i hi hmi
    rw [hm i hi] at hmi
    rw [of_decide_eq_true hmi]
    cases q : x.toBitVec.getLsbD j with
    | false => rfl
    | true => exact absurd q z
theorem mask2 (x : Int32) {m : Int32} {j k : Nat} (hj : j < 8) (hk : k < 8) (hm : ∀ i : Nat, i < 32 → m.toBitVec.getLsbD i = decide (i = j ∨ i = k)) : (x &&& m) = 0 ↔ (¬ lk x j ∧ ¬ lk x k) := by
  rw [mask_is, lk_is x hj, lk_is x hk]
  constructor
  · intro z
    rw [z j (by omega) (by rw [hm j (by omega)]; exact decide_eq_true (Or.inl rfl)), z k (by omega) (by rw [hm k (by omega)]; exact decide_eq_true (Or.inr rfl))]
    exact ⟨fun q => (by cases q), fun q => (by cases q)⟩
  · intro z i hi hmi
    rw [hm i hi] at hmi
    rcases of_decide_eq_true hmi with q | q
    · rw [q]
      cases q : x.toBitVec.getLsbD j with
      | false => rfl
      | true => exact absurd q z.1
    · rw [q]
      cases q : x.toBitVec.getLsbD k with
      | false => rfl
      | true => exact absurd q z.2
theorem m64 (x : Int32) : (x &&& (64 : Int32)) = 0 ↔ ¬ lk x 6 := mask1 x (by decide) (by decide)
theorem m32 (x : Int32) : (x &&& (32 : Int32)) = 0 ↔ ¬ lk x 5 := mask1 x (by decide) (by decide)
theorem m16 (x : Int32) : (x &&& (16 : Int32)) = 0 ↔ ¬ lk x 4 := mask1 x (by decide) (by decide)
theorem m128 (x : Int32) : (x &&& (128 : Int32)) = 0 ↔ ¬ lk x 7 := mask1 x (by decide) (by decide)
theorem m9 (x : Int32) : (x &&& (9 : Int32)) = 0 ↔ (¬ lk x 0 ∧ ¬ lk x 3) := mask2 x (by decide) (by decide) (by decide)
theorem m6 (x : Int32) : (x &&& (6 : Int32)) = 0 ↔ (¬ lk x 1 ∧ ¬ lk x 2) := mask2 x (by decide) (by decide) (by decide)
theorem name_code {w o v : Int32} {a b a' b' j : Nat} (hj : j < 8) (h : opStep w o v a b a' b') : w = 10000 + Int32.ofNat j ↔ (o = 1 ∧ v = Int32.ofNat j) := by
  have lj : (10000 + Int32.ofNat j : Int32).toInt = 10000 + j := by
    rw [i32_add (by rw [ofNat_int (by omega)]; show -2147483648 ≤ (10000 : Int) + _; omega) (by rw [ofNat_int (by omega)]; show (10000 : Int) + _ < _; omega), ofNat_int (by omega)]
    rfl
  have neg : ∀ c : Int32, c.toInt < 0 → ¬ c = 10000 + Int32.ofNat j := fun c hc z => by rw [z, lj] at hc; omega
  rcases h with ⟨h1, h2, h3, h4, _⟩ | ⟨h1, h2, h3, h4, _⟩ | ⟨h1, h2, _⟩ | ⟨k, k1, k2, h1, h2, _⟩ | ⟨k, k1, k2, h1, h2, _⟩ | ⟨h1, h2, _⟩ | ⟨h1, h2, _⟩ | ⟨h1, h2, _⟩
  · constructor
    · intro z
      rw [h2] at z
      rw [z, lj] at h4
      omega
    · intro z
      rw [h1] at z
      exact absurd z.1 (by decide)
  · constructor
    · intro z
      refine ⟨h1, i32_eq.mpr ?_⟩
      have h5 := congrArg Int32.toInt z
      rw [lj, h2, i32_add (by show -2147483648 ≤ (10000 : Int) + _; omega) (by show (10000 : Int) + _ < _; omega)] at h5
      change (10000 : Int) + v.toInt = _ at h5
      rw [ofNat_int (by omega)]
      omega
    · intro z
      rw [h2, z.2]
  · exact ⟨fun z => absurd (h2 ▸ z) (neg _ (by decide)), fun z => absurd (h1 ▸ z.1) (by decide)⟩
  · have : ∀ i : Fin 7, 3 ≤ i.val → (-Int32.ofNat (17 + i.val)).toInt < 0 ∧ ¬ Int32.ofNat i.val = 1 := by decide
    have := this ⟨k, by omega⟩ k1
    exact ⟨fun z => absurd (h2 ▸ z) (neg _ this.1), fun z => absurd (h1 ▸ z.1) this.2⟩
  · have : ∀ i : Fin 16, 10 ≤ i.val → (-Int32.ofNat (i.val + 4)).toInt < 0 ∧ ¬ Int32.ofNat i.val = 1 := by decide
    have := this ⟨k, by omega⟩ k1
    exact ⟨fun z => absurd (h2 ▸ z) (neg _ this.1), fun z => absurd (h1 ▸ z.1) this.2⟩
  · exact ⟨fun z => absurd (h2 ▸ z) (neg _ (by decide)), fun z => absurd (h1 ▸ z.1) (by decide)⟩
  · exact ⟨fun z => absurd (h2 ▸ z) (neg _ (by decide)), fun z => absurd (h1 ▸ z.1) (by decide)⟩
  · exact ⟨fun z => absurd (h2 ▸ z) (neg _ (by decide)), fun z => absurd (h1 ▸ z.1) (by decide)⟩
/-- two objects of one text look at the same names -/
theorem looks_same {x w kn am x' w' kn' am' z3 : Nat → Int32} {t : Nat} (h : jText x w kn am z3 t) (h' : jText x' w' kn' am' z3 t) : (jz (x 6) = true ↔ jz (x' 6) = true) ∧ (jz (x 6) = true → ∀ j : Nat, j < 8 → (lk (x 5) j ↔ lk (x' 5) j)) := by
  obtain ⟨⟨a1, a2, a3⟩, ⟨ko, b1, b2, b3, b4⟩, _, c⟩ := h
  obtain ⟨⟨a1', a2', a3'⟩, ⟨ko', b1', b2', b3', b4'⟩, _, c'⟩ := h'
  have e4 : x' 4 = x 4 := by rw [a1, a1']
  have hko : ko = ko' := by
    by_cases z : ko < ko'
    · exact absurd (b3 (by rw [← e4]; omega)).1 (b2' ko z)
    · by_cases z' : ko' < ko
      · exact absurd (b3' (by rw [e4]; omega)).1 (b2 ko' z')
      · omega
  subst hko
  have h6 : jz (x 6) = true ↔ jz (x' 6) = true := by rw [b4, b4', e4]
  refine ⟨h6, fun hx j hj => ?_⟩
  obtain ⟨N, n1, n2, n3, n4⟩ := c hx
  obtain ⟨N', n1', n2', n3', n4'⟩ := c' (h6.mp hx)
  have e3 : x' 3 = x 3 := by
    rw [← (b3 (b4.mp hx)).2.2, ← (b3' (b4'.mp (h6.mp hx))).2.2]
  have hN : N' = N := by rw [e3] at n2'; omega
  subst hN
  obtain ⟨D, _, _, d3⟩ := n3
  obtain ⟨D', _, _, d3'⟩ := n3'
  show ((x 5 >>> (Int32.ofNat j &&& 31)) &&& (1 : Int32)) = 1 ↔ ((x' 5 >>> (Int32.ofNat j &&& 31)) &&& (1 : Int32)) = 1
  rw [n4 j hj, n4' j hj]
  constructor
  · rintro ⟨i, hi, hw⟩
    exact ⟨i, hi, (name_code hj (d3' i hi).2).mpr ((name_code hj (d3 i hi).2).mp hw)⟩
  · rintro ⟨i, hi, hw⟩
    exact ⟨i, hi, (name_code hj (d3 i hi).2).mpr ((name_code hj (d3' i hi).2).mp hw)⟩
/-- the names' values that a rule is asked with -/
def nmV (c : jS) (d h k g w l : Int32) (j : Nat) : Int32 := if j = 0 then d else if j = 1 then h else if j = 2 then c.1 19 h.toNatClampNeg else if j = 3 then c.1 20 d.toNatClampNeg else if j = 4 then g else if j = 5 then k else if j = 6 then w else l
theorem face_is {d h l : Int32} {s : jS} (d0 : 0 ≤ d.toInt) (d1 : d.toInt < 8) (h0 : 0 ≤ h.toInt) (h1 : h.toInt < 24) : F_X3_face d h l s = some (upI (upI (upI (upI (upI s 30 0 d) 30 1 h) 30 2 (s.1 19 h.toNatClampNeg)) 30 3 (s.1 20 d.toNatClampNeg)) 30 7 l) := by
  have l0 : (0 : Int32).toInt = 0 := rfl
  have l8 : (8 : Int32).toInt = 8 := rfl
  have l24 : (24 : Int32).toInt = 24 := rfl
  unfold F_X3_face J_X3_face_42
  rw [jl_1, jl_1, if_neg (fun z => by have := i32_lt.mp z; omega), if_neg (fun z => by have := i32_le.mp z; omega), if_pos (jin_of h0 h1), if_pos (by decide), jl_1, if_neg (fun z => by have := i32_lt.mp z; omega), if_neg (fun z => by have := i32_le.mp z; omega), if_pos (jin_of d0 d1), jl_1, jl_1]
  rfl
theorem opening_is {c : jS} {v1 : Int32} {t : Nat} (e1 : v1.toInt = t) (ht : t < 4) (htold : (t : Int) < (c.1 18 7).toInt) : F_X3_isOpening v1 c = some (jz (c.1 (2 + 4 * t) 6)) := by
  have l0 : (0 : Int32).toInt = 0 := rfl
  have l4 : (4 : Int32).toInt = 4 := rfl
  unfold F_X3_isOpening
  rw [if_neg (fun z => by have := i32_lt.mp z; omega), if_neg (fun z => by have := i32_le.mp z; omega), if_neg (fun z => by have := i32_le.mp z; omega), if_pos (jin_val e1 ht), nat_val e1]
  cases jz (c.1 (2 + 4 * t) 6) <;> rfl
theorem holds_is {n : Nat} (hn : 400000 ≤ n) {c m : jS} (h : asksR c m) {t : Nat} (ht : t < 4) (htold : (t : Int) < (c.1 18 7).toInt) (hop : jz (c.1 (2 + 4 * t) 6) = true) {d hh k g w l : Int32} (ga : inArgs (c.1 18 7) (Int32.ofNat t) d hh k g w l) {s : jS} (hx : ∀ j : Nat, s.1 (2 + 4 * t) j = c.1 (2 + 4 * t) j) (hw : ∀ j : Nat, s.1 (2 + 4 * t + 1) j = c.1 (2 + 4 * t + 1) j) (hnm : ∀ j : Nat, j < 8 → lk (c.1 (2 + 4 * t) 5) j → s.1 30 j = nmV c d hh k g w l j) :
    ∃ s', F_X3_holds_T n t s = some (opV n (c.1 19) (c.1 20) (m.1 3) (Int32.ofNat t) d hh k g w l, s') ∧ onlyRow 31 s s' := by
  obtain ⟨c', m', q1, _, _, _⟩ := op_is hn h ga
  obtain ⟨N, n1, n2, n3, n4⟩ := (h.1 t htold).2.2.2 hop
  have et : (Int32.ofNat t).toInt = t := ofNat_int (by omega)
  unfold F_X3_opensBy at q1
  rw [opening_is et ht htold, Option.bind_some, if_pos hop, face_is ga.2.1.1 ga.2.1.2 ga.2.2.1.1 ga.2.2.1.2, Option.bind_some, jl_1, jl_1, jl_1, if_pos (jin_val et ht), nat_val et] at q1
  obtain ⟨c4, hc4⟩ : ∃ x, (upI (upI (upI (upI (upI (upI (upI (upI c 30 0 d) 30 1 hh) 30 2 (c.1 19 hh.toNatClampNeg)) 30 3 (c.1 20 d.toNatClampNeg)) 30 7 l) 30 6 w) 30 5 k) 30 4 g) = x := ⟨_, rfl⟩
  change ((F_X3_holds_T n t (upI (upI (upI (upI (upI (upI (upI (upI c 30 0 d) 30 1 hh) 30 2 (c.1 19 hh.toNatClampNeg)) 30 3 (c.1 20 d.toNatClampNeg)) 30 7 l) 30 6 w) 30 5 k) 30 4 g)).bind fun p50 => some (p50.1, p50.2)) = _ at q1
  rw [hc4] at q1
  have o4 : ∀ i : Nat, ¬ i = 30 → c4.1 i = c.1 i := by
    intro i hi
    rw [← hc4]
    simp only [upI_1, if_neg hi]
  have n30 : ∀ j : Nat, j < 8 → c4.1 30 j = nmV c d hh k g w l j := by
    intro j hj
    rw [← hc4]
    have : j = 0 ∨ j = 1 ∨ j = 2 ∨ j = 3 ∨ j = 4 ∨ j = 5 ∨ j = 6 ∨ j = 7 := by omega
    rcases this with rfl | rfl | rfl | rfl | rfl | rfl | rfl | rfl <;> rfl
  obtain ⟨r, c5, s5, r1, r2, r3, r4⟩ := same_run (c := c4) (c2 := s) (z3 := m.1 3) (base := 680 * t + 75) hn n1 (by rw [o4 _ (by omega)]; exact n2) (fun j => by rw [o4 _ (by omega)]; exact hx j) (fun j => by rw [o4 _ (by omega)]; exact hw j) ht (fun j hj hi => by
    rw [o4 _ (by omega)] at hi
    rw [n30 j hj]
    exact hnm j hj ((n4 j hj).mpr hi)) (by rw [o4 _ (by omega)]; exact n3)
  rw [r1, Option.bind_some] at q1
  have hr : r = opV n (c.1 19) (c.1 20) (m.1 3) (Int32.ofNat t) d hh k g w l := congrArg Prod.fst (Option.some.inj q1)
  exact ⟨s5, by rw [r2, hr], r4⟩
