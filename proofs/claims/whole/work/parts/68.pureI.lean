/-! words: the class compares letters, the reference the digest -/
theorem tape_c {x27 x28 z0 z4 : Nat → Int32} (ht : rTape x27 x28 z0 z4) {j : Nat} (hj : ¬ j = 1) (x : Int32) : rTape (upd x27 j x) x28 z0 z4 := by
  have e : upd x27 j x 1 = x27 1 := upd_ne (fun z => hj z.symm)
  unfold rTape
  rw [e]
  exact ht
/-- a word's letters, the last ahead -/
def rb (z4 : Nat → Int32) (p : Nat) : Nat → List Nat
  | 0 => []
  | k + 1 => (z4 (p + k)).toInt.toNat :: rb z4 p k
def valR : List Nat → Nat
  | [] => 0
  | x :: r => valR r * 256 + x
theorem valR_inj : ∀ a b : List Nat, (∀ x ∈ a, 1 ≤ x ∧ x ≤ 255) → (∀ x ∈ b, 1 ≤ x ∧ x ≤ 255) → valR a = valR b → a = b := by
  intro a
  induction a with
  | nil =>
    intro b _ hb h
    cases b with
    | nil => rfl
    | cons y t =>
      have := hb y (List.mem_cons_self ..)
      change 0 = valR t * 256 + y at h
      omega
  | cons x r ih =>
    intro b ha hb h
    have hx := ha x (List.mem_cons_self ..)
    cases b with
    | nil =>
      change valR r * 256 + x = 0 at h
      omega
    | cons y t =>
      have hy := hb y (List.mem_cons_self ..)
      change valR r * 256 + x = valR t * 256 + y at h
      have h1 : valR r = valR t := by omega
      have h2 : x = y := by omega
      rw [ih t (fun z hz => ha z (List.mem_cons_of_mem _ hz)) (fun z hz => hb z (List.mem_cons_of_mem _ hz)) h1, h2]
theorem rb_len (z4 : Nat → Int32) (p : Nat) : ∀ k : Nat, (rb z4 p k).length = k := by
  intro k
  induction k with
  | zero => rfl
  | succ k ih => exact congrArg (· + 1) ih
theorem rb_rng {z4 : Nat → Int32} {p : Nat} : ∀ k : Nat, (∀ j : Nat, j < k → 1 ≤ (z4 (p + j)).toInt ∧ (z4 (p + j)).toInt ≤ 255) → ∀ x ∈ rb z4 p k, 1 ≤ x ∧ x ≤ 255 := by
  intro k
  induction k with
  | zero => intro _ x hx; cases hx
  | succ k ih =>
    intro h x hx
    rcases List.mem_cons.mp hx with rfl | hx
    · have := h k (by omega)
      omega
    · exact ih (fun j hj => h j (by omega)) x hx
theorem rb_eq {z4 y4 : Nat → Int32} {p q : Nat} : ∀ k : Nat, (∀ j : Nat, j < k → 0 ≤ (z4 (p + j)).toInt ∧ 0 ≤ (y4 (q + j)).toInt) → (rb z4 p k = rb y4 q k ↔ ∀ j : Nat, j < k → z4 (p + j) = y4 (q + j)) := by
  intro k
  induction k with
  | zero => intro _; exact ⟨fun _ j hj => absurd hj (Nat.not_lt_zero j), fun _ => rfl⟩
  | succ k ih =>
    intro h
    have h0 := h k (by omega)
    constructor
    · intro e j hj
      obtain ⟨e1, e2⟩ := List.cons.inj e
      by_cases hk : j = k
      · subst hk; exact i32_eq.mpr (by omega)
      · exact (ih (fun j hj => h j (by omega))).mp e2 j (by omega)
    · intro e
      show _ :: _ = _ :: _
      rw [e k (by omega), (ih (fun j hj => h j (by omega))).mpr (fun j hj => e j (by omega))]
theorem i64_sh {x : Int64} {y : Int32} (h0 : 0 ≤ x.toInt) (h1 : x.toInt < 281474976710656) (h2 : 0 ≤ y.toInt) (h3 : y.toInt ≤ 255) : ((x <<< ((8 : Int32).toInt64 &&& 63)) ||| Int32.toInt64 y).toInt = x.toInt * 256 + y.toInt := by
  have hyI : (Int32.toInt64 y).toInt = y.toInt := Int32.toInt_toInt64 y
  have hyN : (Int32.toInt64 y).toBitVec.toNat = y.toInt.toNat := by
    have e : (Int32.toInt64 y).toBitVec.toInt = y.toInt := hyI
    rw [BitVec.toInt_eq_toNat_cond] at e
    have := (Int32.toInt64 y).toBitVec.isLt
    split at e <;> omega
  have hxN : x.toBitVec.toNat = x.toInt.toNat := by
    have e : x.toBitVec.toInt = x.toInt := rfl
    rw [BitVec.toInt_eq_toNat_cond] at e
    have := x.toBitVec.isLt
    split at e <;> omega
  have hs : ((8 : Int32).toInt64 &&& 63) = (8 : Int64) := by decide
  have e1 : ((x <<< ((8 : Int32).toInt64 &&& 63)) ||| Int32.toInt64 y).toBitVec.toNat = x.toInt.toNat * 256 + y.toInt.toNat := by
    rw [hs, Int64.toBitVec_or, Int64.toBitVec_shiftLeft, BitVec.toNat_or, show ((8 : Int64).toBitVec.smod 64) = 8#64 from by decide, BitVec.shiftLeft_eq', BitVec.toNat_shiftLeft, hxN, hyN]
    rw [show (8#64).toNat = 8 from rfl, Nat.shiftLeft_eq, Nat.mod_eq_of_lt (by omega)]
    rw [show x.toInt.toNat * 2 ^ 8 = x.toInt.toNat <<< 8 from (Nat.shiftLeft_eq _ _).symm, ← Nat.shiftLeft_add_eq_or_of_lt (by omega : y.toInt.toNat < 2 ^ 8), Nat.shiftLeft_eq]
  show ((x <<< ((8 : Int32).toInt64 &&& 63)) ||| Int32.toInt64 y).toBitVec.toInt = _
  rw [BitVec.toInt_eq_toNat_of_lt (by rw [e1]; omega), e1]
  omega
theorem dg_val {z4 : Nat → Int32} {p : Nat} : ∀ k : Nat, k ≤ 7 → (∀ j : Nat, j < k → 0 ≤ (z4 (p + j)).toInt ∧ (z4 (p + j)).toInt ≤ 255) → (dg z4 p k).toInt = valR (rb z4 p k) ∧ valR (rb z4 p k) < 256 ^ k := by
  intro k
  induction k with
  | zero => intro _ _; exact ⟨rfl, show 0 < 1 from by decide⟩
  | succ k ih =>
    intro hk h
    obtain ⟨a, b⟩ := ih (by omega) (fun j hj => h j (by omega))
    have h0 := h k (by omega)
    have hp : 256 ^ k ≤ 256 ^ 6 := Nat.pow_le_pow_right (by decide) (by omega)
    have hv : 256 ^ 6 = 281474976710656 := by decide
    have e : (dg z4 p (k + 1)).toInt = (dg z4 p k).toInt * 256 + (z4 (p + k)).toInt := i64_sh (by omega) (by omega) h0.1 h0.2
    rw [e, a]
    show _ = ((valR (rb z4 p k) * 256 + (z4 (p + k)).toInt.toNat : Nat) : Int) ∧ valR (rb z4 p k) * 256 + (z4 (p + k)).toInt.toNat < 256 ^ k * 256
    constructor
    · omega
    · omega
/-- the digest of the class's i-th word -/
def jdig (i : Nat) : Int64 := dg (fun j => (jbyt.getD i []).getD j 0) 0 (jlen.getD i 0)
theorem jbyt_rng : ∀ i : Nat, i < 15 → ∀ j : Nat, j < jlen.getD i 0 → 1 ≤ ((jbyt.getD i []).getD j 0).toInt ∧ ((jbyt.getD i []).getD j 0).toInt ≤ 255 := by decide +kernel
theorem jlen_rng : ∀ i : Nat, i < 15 → 1 ≤ jlen.getD i 0 ∧ jlen.getD i 0 ≤ 6 := by decide
theorem jdig_ne : ∀ i : Nat, i < 15 → ¬ jdig i = 0 := by decide +kernel
/-- the digest that the reference keeps of k letters -/
def kdig (z4 : Nat → Int32) (p k : Nat) : Int64 := if k ≤ 7 then dg z4 p k else 0
theorem dig_iff {z4 : Nat → Int32} {p k i : Nat} (hi : i < 15) (h : ∀ j : Nat, j < k → 1 ≤ (z4 (p + j)).toInt ∧ (z4 (p + j)).toInt ≤ 255) : kdig z4 p k = jdig i ↔ k = jlen.getD i 0 ∧ ∀ j : Nat, j < jlen.getD i 0 → z4 (p + j) = (jbyt.getD i []).getD j 0 := by
  have hl := jlen_rng i hi
  have hbr := jbyt_rng i hi
  unfold kdig
  by_cases h7 : k ≤ 7
  · rw [if_pos h7]
    obtain ⟨a1, a2⟩ := dg_val (z4 := z4) (p := p) k h7 (fun j hj => by have := h j hj; omega)
    obtain ⟨b1, b2⟩ := dg_val (z4 := fun j => (jbyt.getD i []).getD j 0) (p := 0) (jlen.getD i 0) (by omega) (fun j hj => by have := hbr j hj; rw [Nat.zero_add]; omega)
    have hinj := valR_inj (rb z4 p k) (rb (fun j => (jbyt.getD i []).getD j 0) 0 (jlen.getD i 0)) (rb_rng k h) (rb_rng _ (fun j hj => by have := hbr j hj; rw [Nat.zero_add]; exact this))
    constructor
    · intro e
      have e2 : valR (rb z4 p k) = valR (rb (fun j => (jbyt.getD i []).getD j 0) 0 (jlen.getD i 0)) := by
        have e3 : (dg z4 p k).toInt = (jdig i).toInt := by rw [e]
        have b1' : (jdig i).toInt = _ := b1
        omega
      have e4 := hinj e2
      have e5 : k = jlen.getD i 0 := by
        have := congrArg List.length e4
        rw [rb_len, rb_len] at this
        exact this
      refine ⟨e5, fun j hj => ?_⟩
      rw [← e5] at e4
      have := (rb_eq (z4 := z4) (y4 := fun j => (jbyt.getD i []).getD j 0) (p := p) (q := 0) k (fun j hj => by
        have q1 := h j hj
        have q2 := hbr j (by omega)
        rw [Nat.zero_add]
        omega)).mp e4 j (by omega)
      rw [Nat.zero_add] at this
      exact this
    · rintro ⟨e1, e2⟩
      subst e1
      have e4 : rb z4 p (jlen.getD i 0) = rb (fun j => (jbyt.getD i []).getD j 0) 0 (jlen.getD i 0) := (rb_eq (z4 := z4) (y4 := fun j => (jbyt.getD i []).getD j 0) (p := p) (q := 0) _ (fun j hj => by
        have q1 := h j hj
        have q2 := hbr j hj
        rw [Nat.zero_add]
        omega)).mpr (fun j hj => by rw [Nat.zero_add]; exact e2 j hj)
      apply Int64.toInt_inj.mp
      have b1' : (jdig i).toInt = _ := b1
      rw [a1, b1', e4]
  · rw [if_neg h7]
    exact ⟨fun e => absurd e.symm (jdig_ne i hi), fun e => by omega⟩
/-- a word is spelt as the class's i-th -/
theorem spells_is {n i : Nat} (hn : 400000 ≤ n) (hi : i < 15) {c m : jS} (ht : rTape (c.1 27) (c.1 28) (m.1 0) (m.1 4)) {p e : Int32} (hp : c.1 27 4 = p) (he : c.1 27 5 = e) (h0 : 0 ≤ p.toInt) (h1 : p.toInt ≤ e.toInt) (h2 : e.toInt ≤ (c.1 27 1).toInt)
    (hl : ∀ j : Nat, p.toInt.toNat + j < e.toInt.toNat → 1 ≤ (m.1 4 (p.toInt.toNat + j)).toInt ∧ (m.1 4 (p.toInt.toNat + j)).toInt ≤ 255) :
    F_X4_spells n i c = some (decide (kdig (m.1 4) p.toInt.toNat (e.toInt.toNat - p.toInt.toNat) = jdig i)) := by
  have hb := ht.2.1
  have hlr := jlen_rng i hi
  have hle : (Int32.ofNat (jlen.getD i 0)).toInt = jlen.getD i 0 := ofNat_int (by omega)
  have hd := dig_iff (z4 := m.1 4) (p := p.toInt.toNat) (k := e.toInt.toNat - p.toInt.toNat) hi (fun j hj => hl j (by omega))
  have hep : (e - p).toInt = e.toInt - p.toInt := i32_sub (by omega) (by omega)
  have l1 : (1 : Int32).toInt = 1 := rfl
  have l0 : (0 : Int32).toInt = 0 := rfl
  unfold F_X4_spells
  rw [hp, he]
  by_cases hc : e - p = Int32.ofNat (jlen.getD i 0)
  · rw [if_pos hc]
    have hc' : e.toInt - p.toInt = jlen.getD i 0 := by rw [← hep, hc, hle]
    obtain ⟨r, hr, hq⟩ := lp_rule (body := B_X4_spells i c)
      (I := fun q k => 0 ≤ q.toInt ∧ q.toInt ≤ jlen.getD i 0 ∧ k = jlen.getD i 0 - q.toInt.toNat ∧ ∀ j : Nat, (j : Int) < q.toInt → m.1 4 (p.toInt.toNat + j) = (jbyt.getD i []).getD j 0)
      (Q := fun r => (r = .inr false ∧ ¬ ∀ j : Nat, j < jlen.getD i 0 → m.1 4 (p.toInt.toNat + j) = (jbyt.getD i []).getD j 0) ∨ ((∃ x, r = .inl x) ∧ ∀ j : Nat, j < jlen.getD i 0 → m.1 4 (p.toInt.toNat + j) = (jbyt.getD i []).getD j 0)) (by
      rintro q k ⟨g1, g2, g3, g4⟩
      by_cases hz : Int32.ofNat (jlen.getD i 0) ≤ q
      · left
        refine ⟨.inl q, ?_, Or.inr ⟨⟨q, rfl⟩, fun j hj => g4 j ?_⟩⟩
        · unfold B_X4_spells
          rw [if_pos hz]
        · have := i32_le.mp hz
          omega
      · have hz' : ¬ (Int32.ofNat (jlen.getD i 0)).toInt ≤ q.toInt := fun z => hz (i32_le.mpr z)
        have hpq : (p + q).toInt = p.toInt + q.toInt := i32_add (by omega) (by omega)
        have hq1 : (q + 1).toInt = q.toInt + 1 := i32_add (by omega) (by omega)
        obtain ⟨q1, hq⟩ : ∃ q1, q + 1 = q1 := ⟨_, rfl⟩
        obtain ⟨w, hw⟩ : ∃ w, p + q = w := ⟨_, rfl⟩
        rw [hq] at hq1
        rw [hw] at hpq
        obtain ⟨b, b1, b2, b3, b4⟩ := byte_rel ht (q := w) (by omega)
        have hbz := (b3 (by omega)).1
        have hw' : w.toInt.toNat = p.toInt.toNat + q.toInt.toNat := by omega
        rw [hw'] at hbz
        have hcls : B_X4_spells i c q = (if b = (jbyt.getD i []).getD q.toNatClampNeg 0 then some (.inl q1) else some (.inr (.inr false))) := by
          unfold B_X4_spells
          rw [if_neg hz, hp, hw, b1, Option.bind_some, hq]
        by_cases hbe : b = (jbyt.getD i []).getD q.toNatClampNeg 0
        · right
          refine ⟨q1, jlen.getD i 0 - q1.toInt.toNat, by omega, by rw [hcls, if_pos hbe], by omega, by omega, rfl, fun j hj => ?_⟩
          by_cases hjq : (j : Int) < q.toInt
          · exact g4 j hjq
          · have : j = q.toInt.toNat := by omega
            subst this
            rw [← hbz, hbe, i32_nat]
        · left
          refine ⟨.inr false, by rw [hcls, if_neg hbe], Or.inl ⟨rfl, fun z => hbe ?_⟩⟩
          rw [hbz, z q.toInt.toNat (by omega), i32_nat]) (jlen.getD i 0) n 0 (by omega) ⟨by decide, by rw [l0]; omega, by rw [l0]; rfl, fun j hj => by rw [l0] at hj; omega⟩
    rw [hr, Option.bind_some]
    rcases hq with ⟨rfl, hq⟩ | ⟨⟨x, rfl⟩, hq⟩
    · show some false = _
      rw [decide_eq_false (fun z => hq (hd.mp z).2)]
    · show some true = _
      rw [decide_eq_true (hd.mpr ⟨by omega, hq⟩)]
  · rw [if_neg hc, decide_eq_false (fun z => hc (i32_eq.mpr (by
      have := (hd.mp z).1
      rw [hle, hep]
      omega)))]
/-! tokens -/
theorem letters_all {n : Nat} (hn : 400000 ≤ n) {c m : jS} (ht : rTape (c.1 27) (c.1 28) (m.1 0) (m.1 4)) {p e : Int32} (h0 : 0 ≤ p.toInt) (h1 : p.toInt ≤ (c.1 27 1).toInt) (he : lp (B_X4_readWord_5 n c) n p = some e) :
    ∀ j : Nat, p.toInt.toNat + j < e.toInt.toNat → 1 ≤ (m.1 4 (p.toInt.toNat + j)).toInt ∧ (m.1 4 (p.toInt.toNat + j)).toInt ≤ 255 := by
  have hb := ht.2.1
  have l1 : (1 : Int32).toInt = 1 := rfl
  obtain ⟨e', he', hq⟩ := lp_rule (body := B_X4_readWord_5 n c)
    (I := fun q k => p.toInt ≤ q.toInt ∧ q.toInt ≤ (c.1 27 1).toInt ∧ k = (c.1 27 1).toInt.toNat - q.toInt.toNat ∧ ∀ j : Nat, p.toInt.toNat + j < q.toInt.toNat → 1 ≤ (m.1 4 (p.toInt.toNat + j)).toInt ∧ (m.1 4 (p.toInt.toNat + j)).toInt ≤ 255)
    (Q := fun e => ∀ j : Nat, p.toInt.toNat + j < e.toInt.toNat → 1 ≤ (m.1 4 (p.toInt.toNat + j)).toInt ∧ (m.1 4 (p.toInt.toNat + j)).toInt ≤ 255) (by
    rintro q k ⟨g1, g2, g3, g4⟩
    obtain ⟨b, b1, b2, b3, b4⟩ := byte_rel ht (q := q) (by omega)
    have hcls : B_X4_readWord_5 n c q = if c.1 27 1 ≤ q then some (.inr q) else (if (F_X4_isLetter b) = true then some (.inl (q + 1)) else some (.inr q)) := by
      unfold B_X4_readWord_5
      rw [b1, Option.bind_some]
    by_cases hc : c.1 27 1 ≤ q
    · exact Or.inl ⟨q, by rw [hcls, if_pos hc], g4⟩
    · have hc' : ¬ (c.1 27 1).toInt ≤ q.toInt := fun z => hc (i32_le.mpr z)
      by_cases hl : F_X4_isLetter b = true
      · right
        have hq1 : (q + 1).toInt = q.toInt + 1 := i32_add (by omega) (by omega)
        obtain ⟨q1, hq⟩ : ∃ q1, q + 1 = q1 := ⟨_, rfl⟩
        rw [hq] at hcls hq1
        refine ⟨q1, (c.1 27 1).toInt.toNat - q1.toInt.toNat, by omega, by rw [hcls, if_neg hc, if_pos hl], by omega, by omega, rfl, fun j hj => ?_⟩
        by_cases hjq : p.toInt.toNat + j < q.toInt.toNat
        · exact g4 j hjq
        · have hbz := (b3 (by omega)).1
          rw [show p.toInt.toNat + j = q.toInt.toNat from by omega, ← hbz]
          unfold F_X4_isLetter at hl
          by_cases h9 : F_X8_within b 97 122 = true
          · obtain ⟨u1, u2⟩ := win_iff.mp h9
            have : (97 : Int32).toInt = 97 := rfl
            have : (122 : Int32).toInt = 122 := rfl
            omega
          · rw [if_neg h9] at hl
            by_cases h6 : F_X8_within b 65 90 = true
            · obtain ⟨u1, u2⟩ := win_iff.mp h6
              have : (65 : Int32).toInt = 65 := rfl
              have : (90 : Int32).toInt = 90 := rfl
              omega
            · rw [if_neg h6] at hl
              cases hl
      · exact Or.inl ⟨q, by rw [hcls, if_neg hc, if_neg hl], g4⟩) ((c.1 27 1).toInt.toNat - p.toInt.toNat) n p (by omega) ⟨Int.le_refl _, h1, rfl, fun j hj => by omega⟩
  rw [he] at he'
  cases he'
  exact hq
/-! what the reference asks of its token, of its slots alone -/
def wordD (v : Int64) (ms : Int32) (md : Int64) : Bool := (if ms = 2 then (if (lg_cmp md v) = 0 then true else false) else false)
theorem isWord_D (v : Int64) (s : jS) : F_X9_isWord v s = wordD v (s.1 0 10) (s.2 0 12) := rfl
def sortD (ms : Int32) (md : Int64) : Int32 := if wordD (jdig 8) ms md = true then 0 else if wordD (jdig 9) ms md = true then 1 else if wordD (jdig 11) ms md = true then 2 else -1
def nameD (ms : Int32) (md : Int64) : Int32 := if ms = 2 then (if lg_cmp md (jdig 0) = 0 then 0 else if lg_cmp md (jdig 1) = 0 then 1 else if lg_cmp md (jdig 2) = 0 then 2 else if lg_cmp md (jdig 3) = 0 then 3 else if lg_cmp md (jdig 4) = 0 then 4 else if lg_cmp md (jdig 5) = 0 then 5 else if lg_cmp md (jdig 6) = 0 then 6 else if lg_cmp md (jdig 7) = 0 then 7 else -1) else -1
def compD (ms : Int32) : Int32 := if ms = 60 then 10 else if ms = 4 then 11 else if ms = 62 then 12 else if ms = 5 then 13 else if ms = 61 then 14 else if ms = 35 then 15 else -1
theorem d0 : F_X9_w4 100 111 111 114 = jdig 0 := by decide +kernel
theorem d1 : F_X9_w4 104 111 117 114 = jdig 1 := by decide +kernel
theorem d2 : F_X9_w4 114 97 105 110 = jdig 2 := by decide +kernel
theorem d3 : F_X9_w4 109 111 111 100 = jdig 3 := by decide +kernel
theorem d4 : F_X9_w4 103 105 102 116 = jdig 4 := by decide +kernel
theorem d5 : F_X9_w6 107 110 111 99 107 115 = jdig 5 := by decide +kernel
theorem d6 : F_X9_w6 119 97 105 116 101 100 = jdig 6 := by decide +kernel
theorem d7 : F_X9_w4 108 111 97 100 = jdig 7 := by decide +kernel
theorem d8 : F_X9_w5 111 112 101 110 115 = jdig 8 := by decide +kernel
theorem d9 : F_X9_w5 107 110 111 99 107 = jdig 9 := by decide +kernel
theorem d10 : F_X9_w4 119 105 116 104 = jdig 10 := by decide +kernel
theorem d11 : F_X9_w4 119 97 105 116 = jdig 11 := by decide +kernel
theorem d12 : (28530 : Int64) = jdig 12 := by decide +kernel
theorem d13 : F_X9_w3 97 110 100 = jdig 13 := by decide +kernel
theorem d14 : F_X9_w3 110 111 116 = jdig 14 := by decide +kernel
theorem sortOf_D (s : jS) : F_X9_sortOf s = sortD (s.1 0 10) (s.2 0 12) := by
  unfold F_X9_sortOf sortD
  rw [isWord_D, isWord_D, isWord_D, d8, d9, d11]
theorem nameOf_D (s : jS) : F_X9_nameOf s = nameD (s.1 0 10) (s.2 0 12) := by
  unfold F_X9_nameOf nameD
  rw [d0, d1, d2, d3, d4, d5, d6, d7]
theorem compOf_D (s : jS) : F_X9_compareOf s = compD (s.1 0 10) := rfl
/-- token of the class (sort, value) and of the reference (sort, digest) -/
def tokW (cs cv ms : Int32) (md : Int64) : Prop :=
  (cs = 1 ↔ ms = 0) ∧ (cs = 2 ↔ ms = 1) ∧ sortD ms md = (if cs = 4 then 0 else if cs = 5 then 1 else if cs = 7 then 2 else -1) ∧
  (wordD (jdig 10) ms md = true ↔ cs = 6) ∧ (wordD (jdig 13) ms md = true ↔ cs = 12) ∧ (wordD (jdig 14) ms md = true ↔ cs = 13) ∧ (wordD (jdig 12) ms md = true ↔ cs = 11) ∧
  nameD ms md = (if cs = 3 then cv else -1) ∧ (cs = 3 → 0 ≤ cv.toInt ∧ cv.toInt < 8) ∧
  ((ms = 59 ↔ cs = 8) ∧ (ms = 40 ↔ cs = 9) ∧ (ms = 41 ↔ cs = 10) ∧ (ms = 43 ↔ cs = 20) ∧ (ms = 45 ↔ cs = 21) ∧ (ms = 42 ↔ cs = 22) ∧ (ms = 47 ↔ cs = 23)) ∧
  compD ms = (if cs = 14 then 10 else if cs = 15 then 11 else if cs = 16 then 12 else if cs = 17 then 13 else if cs = 18 then 14 else if cs = 19 then 15 else -1)
def tokF (cs cv ms mn : Int32) (md : Int64) : Prop := tokW cs cv ms md ∧ (cs = 2 → sameNum cv mn)
theorem wordD_no {v : Int64} {ms : Int32} {md : Int64} (h : ¬ ms = 2) : wordD v ms md = wordD v ms 0 := by
  unfold wordD
  rw [if_neg h, if_neg h]
theorem tokW_no {cs cv ms : Int32} {md : Int64} (h : ¬ ms = 2) (h3 : ¬ cs = 3) (k : tokW cs 0 ms 0) : tokW cs cv ms md := by
  unfold tokW sortD nameD at k ⊢
  have hw : ∀ v : Int64, wordD v ms md = wordD v ms 0 := fun v => wordD_no h
  rw [hw, hw, hw, hw, hw, hw, hw, if_neg h, if_neg h3]
  rw [if_neg h, if_neg h3] at k
  exact ⟨k.1, k.2.1, k.2.2.1, k.2.2.2.1, k.2.2.2.2.1, k.2.2.2.2.2.1, k.2.2.2.2.2.2.1, rfl, fun z => absurd z h3, k.2.2.2.2.2.2.2.2.2⟩
theorem cmp_e {x y : Int64} : lg_cmp x y = 0 ↔ x = y := cmp_eq0.trans Int64.toInt_inj
theorem tokW_other {md : Int64} {cv : Int32} (h : ∀ i : Nat, i < 15 → ¬ md = jdig i) : tokW 0 cv 2 md := by
  have hc : ∀ i : Nat, i < 15 → ¬ lg_cmp md (jdig i) = 0 := fun i hi z => h i hi (cmp_e.mp z)
  have hw : ∀ i : Nat, i < 15 → wordD (jdig i) 2 md = false := fun i hi => by
    unfold wordD
    rw [if_pos rfl, if_neg (hc i hi)]
  unfold tokW sortD nameD
  rw [hw 8 (by decide), hw 9 (by decide), hw 11 (by decide), hw 10 (by decide), hw 12 (by decide), hw 13 (by decide), hw 14 (by decide), if_pos rfl, if_neg (hc 0 (by decide)), if_neg (hc 1 (by decide)), if_neg (hc 2 (by decide)), if_neg (hc 3 (by decide)), if_neg (hc 4 (by decide)), if_neg (hc 5 (by decide)), if_neg (hc 6 (by decide)), if_neg (hc 7 (by decide))]
  refine ⟨by decide, by decide, rfl, by decide, by decide, by decide, by decide, rfl, fun z => absurd z (by decide), by decide, by decide⟩
/-- which word of the class a digest is: sort and value -/
def wordOf (i : Nat) : Int32 × Int32 := (([(3, 0), (3, 1), (3, 2), (3, 3), (3, 4), (3, 5), (3, 6), (3, 7), (4, -1), (5, -1), (6, -1), (7, -1), (11, -1), (12, -1), (13, -1)] : List (Int32 × Int32)).getD i (0, -1))
theorem tokW_word : ∀ i : Nat, i < 15 → tokW (wordOf i).1 (wordOf i).2 2 (jdig i) := by
  intro i hi
  unfold tokW
  have h : i = 0 ∨ i = 1 ∨ i = 2 ∨ i = 3 ∨ i = 4 ∨ i = 5 ∨ i = 6 ∨ i = 7 ∨ i = 8 ∨ i = 9 ∨ i = 10 ∨ i = 11 ∨ i = 12 ∨ i = 13 ∨ i = 14 := by omega
  rcases h with rfl | rfl | rfl | rfl | rfl | rfl | rfl | rfl | rfl | rfl | rfl | rfl | rfl | rfl | rfl <;> decide +kernel
theorem jdig_inj : ∀ i : Nat, i < 15 → ∀ j : Nat, j < 15 → jdig i = jdig j → i = j := by decide +kernel
theorem nameSpelt_is {n : Nat} {s : jS} {d : Int64} (h : ∀ i : Nat, i < 15 → F_X4_spells n i s = some (decide (d = jdig i))) : F_X4_nameSpelt n s = some (if d = jdig 0 then 0 else if d = jdig 1 then 1 else if d = jdig 2 then 2 else if d = jdig 3 then 3 else if d = jdig 4 then 4 else if d = jdig 5 then 5 else if d = jdig 6 then 6 else if d = jdig 7 then 7 else -1) := by
  unfold F_X4_nameSpelt
  rw [h 0 (by decide), h 1 (by decide), h 2 (by decide), h 3 (by decide), h 4 (by decide), h 5 (by decide), h 6 (by decide), h 7 (by decide)]
  simp only [Option.bind_some, decide_eq_true_eq]
  repeat' split
  all_goals rfl
theorem wordSpelt_is {n : Nat} {s : jS} {d : Int64} (h : ∀ i : Nat, i < 15 → F_X4_spells n i s = some (decide (d = jdig i))) : F_X4_wordSpelt n s = some (if d = jdig 8 then 4 else if d = jdig 9 then 5 else if d = jdig 10 then 6 else if d = jdig 11 then 7 else if d = jdig 12 then 11 else if d = jdig 13 then 12 else if d = jdig 14 then 13 else 0) := by
  unfold F_X4_wordSpelt
  rw [h 8 (by decide), h 9 (by decide), h 10 (by decide), h 11 (by decide), h 12 (by decide), h 13 (by decide), h 14 (by decide)]
  simp only [Option.bind_some, decide_eq_true_eq]
  repeat' split
  all_goals rfl
def nameN (d : Int64) : Int32 := if d = jdig 0 then 0 else if d = jdig 1 then 1 else if d = jdig 2 then 2 else if d = jdig 3 then 3 else if d = jdig 4 then 4 else if d = jdig 5 then 5 else if d = jdig 6 then 6 else if d = jdig 7 then 7 else -1
def wordN (d : Int64) : Int32 := if d = jdig 8 then 4 else if d = jdig 9 then 5 else if d = jdig 10 then 6 else if d = jdig 11 then 7 else if d = jdig 12 then 11 else if d = jdig 13 then 12 else if d = jdig 14 then 13 else 0
theorem wordN_is : ∀ i : Nat, i < 15 → (if nameN (jdig i) = -1 then wordN (jdig i) else 3, nameN (jdig i)) = wordOf i := by decide +kernel
theorem tokW_spelt (d : Int64) : tokW (if nameN d = -1 then wordN d else 3) (nameN d) 2 d := by
  by_cases h : ∃ i : Nat, i < 15 ∧ d = jdig i
  · obtain ⟨i, hi, rfl⟩ := h
    have := wordN_is i hi
    have h1 : (if nameN (jdig i) = -1 then wordN (jdig i) else 3) = (wordOf i).1 := congrArg Prod.fst this
    have h2 : nameN (jdig i) = (wordOf i).2 := congrArg Prod.snd this
    rw [h1, h2]
    exact tokW_word i hi
  · have h' : ∀ i : Nat, i < 15 → ¬ d = jdig i := fun i hi z => h ⟨i, hi, z⟩
    have h1 : nameN d = -1 := by
      unfold nameN
      rw [if_neg (h' 0 (by decide)), if_neg (h' 1 (by decide)), if_neg (h' 2 (by decide)), if_neg (h' 3 (by decide)), if_neg (h' 4 (by decide)), if_neg (h' 5 (by decide)), if_neg (h' 6 (by decide)), if_neg (h' 7 (by decide))]
    have h2 : wordN d = 0 := by
      unfold wordN
      rw [if_neg (h' 8 (by decide)), if_neg (h' 9 (by decide)), if_neg (h' 10 (by decide)), if_neg (h' 11 (by decide)), if_neg (h' 12 (by decide)), if_neg (h' 13 (by decide)), if_neg (h' 14 (by decide))]
    rw [h1, h2, if_pos rfl]
    exact tokW_other h'
/-- frames of reading a token -/
def frC (c c' : jS) : Prop := (∀ k : Nat, ¬ k = 27 → c'.1 k = c.1 k) ∧ c'.1 27 1 = c.1 27 1 ∧ c'.2 = c.2
def frM (m m' : jS) : Prop := (∀ k : Nat, ¬ k = 0 → m'.1 k = m.1 k) ∧ (∀ j : Nat, ¬ j = 8 → ¬ j = 9 → ¬ j = 10 → ¬ j = 11 → m'.1 0 j = m.1 0 j) ∧ (∀ k : Nat, ¬ k = 0 → m'.2 k = m.2 k) ∧ ∀ j : Nat, ¬ j = 12 → m'.2 0 j = m.2 0 j
theorem frC_rfl {c : jS} : frC c c := ⟨fun _ _ => rfl, rfl, rfl⟩
theorem frC_up {c c' : jS} (h : frC c c') {j : Nat} (hj : ¬ j = 1) (x : Int32) : frC c (upI c' 27 j x) := by
  refine ⟨fun k hk => ?_, ?_, h.2.2⟩
  · rw [upI_1, if_neg hk]; exact h.1 k hk
  · show upd (c'.1 27) j x 1 = _
    rw [upd_ne (fun z => hj z.symm)]; exact h.2.1
theorem frM_rfl {m : jS} : frM m m := ⟨fun _ _ => rfl, fun _ _ _ _ _ => rfl, fun _ _ => rfl, fun _ _ => rfl⟩
theorem frM_up {m m' : jS} (h : frM m m') {j : Nat} (hj : j = 8 ∨ j = 9 ∨ j = 10 ∨ j = 11) (x : Int32) : frM m (upI m' 0 j x) := by
  refine ⟨fun k hk => ?_, fun i a1 a2 a3 a4 => ?_, h.2.2⟩
  · rw [upI_1, if_neg hk]; exact h.1 k hk
  · show upd (m'.1 0) j x i = _
    rw [upd_ne (by omega)]; exact h.2.1 i a1 a2 a3 a4
theorem frM_L {m m' : jS} (h : frM m m') (x : Int64) : frM m (upL m' 0 12 x) := by
  refine ⟨h.1, h.2.1, fun k hk => ?_, fun j hj => ?_⟩
  · rw [upL_2, if_neg hk]; exact h.2.2.1 k hk
  · show vp_updL (m'.2 0) 12 x j = _
    rw [vupd_ne hj]; exact h.2.2.2 j hj
theorem frM_at {m m' m2 : jS} (h : frM m m') (h2 : onlyAt m' m2) : frM m m2 := ⟨fun k hk => (h2.1 k hk).trans (h.1 k hk), fun j a1 a2 a3 a4 => (h2.2.1 j a1).trans (h.2.1 j a1 a2 a3 a4), fun k hk => by rw [h2.2.2]; exact h.2.2.1 k hk, fun j hj => by rw [h2.2.2]; exact h.2.2.2 j hj⟩
theorem frM_num {m m' m2 : jS} (h : frM m m') (h2 : onlyNum m' m2) : frM m m2 := ⟨fun k hk => (h2.1 k hk).trans (h.1 k hk), fun j a1 a2 a3 a4 => (h2.2.1 j a1 a4).trans (h.2.1 j a1 a2 a3 a4), fun k hk => by rw [h2.2.2]; exact h.2.2.1 k hk, fun j hj => by rw [h2.2.2]; exact h.2.2.2 j hj⟩
theorem frM_word {m m' m2 : jS} (h : frM m m') (h2 : onlyWord m' m2) : frM m m2 := ⟨fun k hk => (h2.1 k hk).trans (h.1 k hk), fun j a1 a2 a3 a4 => (h2.2.1 j a1).trans (h.2.1 j a1 a2 a3 a4), fun k hk => (h2.2.2.1 k hk).trans (h.2.2.1 k hk), fun j hj => (h2.2.2.2 j hj).trans (h.2.2.2 j hj)⟩
theorem tape_fr {c c' m m' : jS} (ht : rTape (c.1 27) (c.1 28) (m.1 0) (m.1 4)) (h1 : frC c c') (h2 : frM m m') : rTape (c'.1 27) (c'.1 28) (m'.1 0) (m'.1 4) := by
  obtain ⟨t1, t2, t3⟩ := ht
  unfold rTape
  rw [h1.2.1, h1.1 28 (by decide), h2.2.1 5 (by decide) (by decide) (by decide) (by decide), h2.1 4 (by decide)]
  exact ⟨t1, t2, t3⟩
/-- where both stand, the token read -/
def tokB (c m : jS) : Prop := c.1 27 4 = m.1 0 9 ∧ c.1 27 5 = m.1 0 8 ∧ 0 ≤ (c.1 27 4).toInt ∧ (c.1 27 4).toInt ≤ (c.1 27 5).toInt ∧ (c.1 27 5).toInt ≤ (c.1 27 1).toInt ∧ (¬ c.1 27 2 = 1 → (c.1 27 4).toInt < (c.1 27 5).toInt)
def tokA (c m : jS) : Prop := tokB c m ∧ tokF (c.1 27 2) (c.1 27 3) (m.1 0 10) (m.1 0 11) (m.2 0 12)
