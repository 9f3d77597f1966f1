/-! rules asked: the answer as a function of rain, moods and the texts -/
def cA (ra mo : Nat → Int32) : Nat → Int32 := fun j => if j < 36 then mo (j - 12) else ra (j - 36)
def canM (ra mo z3 : Nat → Int32) : jS := (fun k => if k = 1 then cA ra mo else if k = 3 then z3 else fun _ => 0, fun _ _ => 0)
def oV : Type := Int32 → Int32 → Int32 → Int32 → Int32 → Int32 → Int32 → Bool
/-- rule, door, hour, knocks, gift, waited, load -/
def opV (n : Nat) (ra mo z3 : Nat → Int32) : oV := fun v1 v2 v3 v4 v5 v6 v7 => match F_X9_isOpen n v1 v2 v3 v4 v5 v6 v7 (canM ra mo z3) with
  | some q => q.1
  | none => false
def asksR (c m : jS) : Prop := rTexts jText (c.1 18 7) c.1 (m.1 3) ∧ ((c.1 18 7).toInt ≤ 4) ∧ rRain (c.1 19) (m.1 1) ∧ rMood (c.1 20) (m.1 1)
def inArgs (told v1 v2 v3 v4 v5 v6 v7 : Int32) : Prop := (-1 ≤ v1.toInt ∧ v1.toInt < told.toInt) ∧ (0 ≤ v2.toInt ∧ v2.toInt < 8) ∧ (0 ≤ v3.toInt ∧ v3.toInt < 24) ∧ (0 ≤ v4.toInt ∧ v4.toInt ≤ 7) ∧ (0 ≤ v5.toInt ∧ v5.toInt ≤ 5) ∧ (0 ≤ v6.toInt ∧ v6.toInt ≤ 9) ∧ 0 ≤ v7.toInt ∧ v7.toInt ≤ 9
theorem op_is {n : Nat} (hn : 400000 ≤ n) {c m : jS} (h : asksR c m) {v1 v2 v3 v4 v5 v6 v7 : Int32} (g : inArgs (c.1 18 7) v1 v2 v3 v4 v5 v6 v7) :
    ∃ c' m', F_X3_opensBy n v1 v2 v3 v4 v5 v6 v7 c = some (opV n (c.1 19) (c.1 20) (m.1 3) v1 v2 v3 v4 v5 v6 v7, c') ∧ F_X9_isOpen n v1 v2 v3 v4 v5 v6 v7 m = some (opV n (c.1 19) (c.1 20) (m.1 3) v1 v2 v3 v4 v5 v6 v7, m') ∧ scrC c c' ∧ scrM m m' := by
  obtain ⟨h1, h2, h3, h4⟩ := h
  obtain ⟨⟨a1, a2⟩, ⟨b1, b2⟩, ⟨d1, d2⟩, e1, e2, e3, e4⟩ := g
  obtain ⟨r, c', m', q1, q2, q3, q4⟩ := opensBy_rel (m := m) hn h1 rfl h2 h3 h4 a1 a2 b1 b2 d1 d2 (v4 := v4) (v5 := v5) (v6 := v6) (v7 := v7) ⟨by omega, by omega⟩ ⟨by omega, by omega⟩ ⟨by omega, by omega⟩ ⟨by omega, by omega⟩
  have hr : rRain (c.1 19) ((canM (c.1 19) (c.1 20) (m.1 3)).1 1) := by
    intro k hk
    refine ⟨?_, (h3 k hk).2⟩
    show c.1 19 k = (if 36 + k < 36 then (c.1 20) (36 + k - 12) else (c.1 19) (36 + k - 36))
    rw [if_neg (by omega), show 36 + k - 36 = k from by omega]
  have hm : rMood (c.1 20) ((canM (c.1 19) (c.1 20) (m.1 3)).1 1) := by
    intro k hk
    refine ⟨?_, (h4 k hk).2⟩
    show c.1 20 k = (if 12 + k < 36 then (c.1 20) (12 + k - 12) else (c.1 19) (12 + k - 36))
    rw [if_pos (by omega), show 12 + k - 12 = k from by omega]
  obtain ⟨r2, c2, m2, p1, p2, p3, p4⟩ := opensBy_rel (m := canM (c.1 19) (c.1 20) (m.1 3)) hn h1 rfl h2 hr hm a1 a2 b1 b2 d1 d2 (v4 := v4) (v5 := v5) (v6 := v6) (v7 := v7) ⟨by omega, by omega⟩ ⟨by omega, by omega⟩ ⟨by omega, by omega⟩ ⟨by omega, by omega⟩
  have e : opV n (c.1 19) (c.1 20) (m.1 3) v1 v2 v3 v4 v5 v6 v7 = r := by
    unfold opV
    rw [p2]
    rw [q1] at p1
    exact (congrArg Prod.fst (Option.some.inj p1)).symm
  rw [e]
  exact ⟨c', m', q1, q2, q3, q4⟩
/-- the least gift of six by which it opens -/
def lgF (p : Nat → Bool) : Nat := if p 0 = true then 0 else if p 1 = true then 1 else if p 2 = true then 2 else if p 3 = true then 3 else if p 4 = true then 4 else if p 5 = true then 5 else 6
theorem lgF_le (p : Nat → Bool) : lgF p ≤ 6 := by
  unfold lgF
  repeat' split
  all_goals omega
theorem lgF_is (p : Nat → Bool) (g : Nat) (hg : g ≤ 6) (h1 : ∀ i : Nat, i < g → ¬ p i = true) (h2 : g < 6 → p g = true) : lgF p = g := by
  unfold lgF
  rcases (by omega : g = 0 ∨ g = 1 ∨ g = 2 ∨ g = 3 ∨ g = 4 ∨ g = 5 ∨ g = 6) with rfl | rfl | rfl | rfl | rfl | rfl | rfl
  · rw [if_pos (h2 (by decide))]
  · rw [if_neg (h1 0 (by decide)), if_pos (h2 (by decide))]
  · rw [if_neg (h1 0 (by decide)), if_neg (h1 1 (by decide)), if_pos (h2 (by decide))]
  · rw [if_neg (h1 0 (by decide)), if_neg (h1 1 (by decide)), if_neg (h1 2 (by decide)), if_pos (h2 (by decide))]
  · rw [if_neg (h1 0 (by decide)), if_neg (h1 1 (by decide)), if_neg (h1 2 (by decide)), if_neg (h1 3 (by decide)), if_pos (h2 (by decide))]
  · rw [if_neg (h1 0 (by decide)), if_neg (h1 1 (by decide)), if_neg (h1 2 (by decide)), if_neg (h1 3 (by decide)), if_neg (h1 4 (by decide)), if_pos (h2 (by decide))]
  · rw [if_neg (h1 0 (by decide)), if_neg (h1 1 (by decide)), if_neg (h1 2 (by decide)), if_neg (h1 3 (by decide)), if_neg (h1 4 (by decide)), if_neg (h1 5 (by decide))]
theorem lgF_at (p : Nat → Bool) : (∀ i : Nat, i < lgF p → ¬ p i = true) ∧ (lgF p < 6 → p (lgF p) = true) := by
  have key : ∀ g : Nat, g ≤ 6 → (∀ i : Nat, i < g → ¬ p i = true) → (g < 6 → p g = true) → (∀ i : Nat, i < lgF p → ¬ p i = true) ∧ (lgF p < 6 → p (lgF p) = true) := fun g hg a b => by
    rw [lgF_is p g hg a b]
    exact ⟨a, b⟩
  by_cases h0 : p 0 = true
  · exact key 0 (by omega) (fun i hi => by omega) (fun _ => h0)
  · by_cases h1 : p 1 = true
    · exact key 1 (by omega) (fun i hi => by rw [show i = 0 from by omega]; exact h0) (fun _ => h1)
    · by_cases h2 : p 2 = true
      · exact key 2 (by omega) (fun i hi => by rcases (by omega : i = 0 ∨ i = 1) with rfl | rfl <;> assumption) (fun _ => h2)
      · by_cases h3 : p 3 = true
        · exact key 3 (by omega) (fun i hi => by rcases (by omega : i = 0 ∨ i = 1 ∨ i = 2) with rfl | rfl | rfl <;> assumption) (fun _ => h3)
        · by_cases h4 : p 4 = true
          · exact key 4 (by omega) (fun i hi => by rcases (by omega : i = 0 ∨ i = 1 ∨ i = 2 ∨ i = 3) with rfl | rfl | rfl | rfl <;> assumption) (fun _ => h4)
          · by_cases h5 : p 5 = true
            · exact key 5 (by omega) (fun i hi => by rcases (by omega : i = 0 ∨ i = 1 ∨ i = 2 ∨ i = 3 ∨ i = 4) with rfl | rfl | rfl | rfl | rfl <;> assumption) (fun _ => h5)
            · exact key 6 (by omega) (fun i hi => by rcases (by omega : i = 0 ∨ i = 1 ∨ i = 2 ∨ i = 3 ∨ i = 4 ∨ i = 5) with rfl | rfl | rfl | rfl | rfl | rfl <;> assumption) (fun z => by omega)
def lgV (V : oV) (r : Int32) (l d h w k : Nat) : Nat := lgF (fun g => V r (Int32.ofNat d) (Int32.ofNat h) (Int32.ofNat k) (Int32.ofNat g) (Int32.ofNat w) (Int32.ofNat l))
/-- what a reference state says of rules: V, whatever its scratch rows hold -/
def isOp (n : Nat) (V : oV) (told : Int32) (a z3 : Nat → Int32) : Prop := ∀ m : jS, m.1 1 = a → m.1 3 = z3 → ∀ v1 v2 v3 v4 v5 v6 v7 : Int32, inArgs told v1 v2 v3 v4 v5 v6 v7 → ∃ m', F_X9_isOpen n v1 v2 v3 v4 v5 v6 v7 m = some (V v1 v2 v3 v4 v5 v6 v7, m') ∧ scrM m m'
theorem isOp_of {n : Nat} (hn : 400000 ≤ n) {c m : jS} (h : asksR c m) : isOp n (opV n (c.1 19) (c.1 20) (m.1 3)) (c.1 18 7) (m.1 1) (m.1 3) := by
  intro m2 h1 h2 v1 v2 v3 v4 v5 v6 v7 g
  have h' : asksR c m2 := by
    unfold asksR
    rw [h1, h2]
    exact h
  obtain ⟨c', m', q1, q2, q3, q4⟩ := op_is hn h' g
  rw [h2] at q2
  exact ⟨m', q2, q4⟩
/-! the reference's least gifts, kept in its row 11 -/
def gM (m m' : jS) : Prop := (∀ k : Nat, ¬ k = 6 → ¬ k = 8 → ¬ k = 11 → m'.1 k = m.1 k) ∧ ∀ k : Nat, ¬ k = 7 → m'.2 k = m.2 k
theorem gM_rfl {m : jS} : gM m m := ⟨fun _ _ _ _ => rfl, fun _ _ => rfl⟩
theorem gM_tr {a b c : jS} (h1 : gM a b) (h2 : gM b c) : gM a c := ⟨fun k a1 a2 a3 => (h2.1 k a1 a2 a3).trans (h1.1 k a1 a2 a3), fun k a1 => (h2.2 k a1).trans (h1.2 k a1)⟩
theorem gM_s {m m' : jS} (h : scrM m m') : gM m m' := ⟨fun k a1 a2 _ => h.1 k a1 a2, h.2⟩
def gi (v r d h w k : Nat) : Nat := (((((v * 4 + r) * 8 + d) * 24 + h) * 10 + w) * 7 + k) - 1
def cOK (V : oV) (told : Int32) (lo hi : Nat) (m : jS) : Prop := ∀ v r d h w k : Nat, lo ≤ v → v < hi → (r : Int) < told.toInt → d < 8 → h < 24 → w < 10 → 1 ≤ k → k < 8 → (m.1 11 (gi v r d h w k)).toInt < 0 ∨ (m.1 11 (gi v r d h w k)).toInt = lgV V (Int32.ofNat r) (m.1 9 (4 * v)).toInt.toNat d h w k
theorem gi_inj {v r d h w k v' r' d' h' w' k' : Nat} (hr : r < 4) (hd : d < 8) (hh : h < 24) (hw : w < 10) (hk : 1 ≤ k) (hk2 : k < 8) (hr' : r' < 4) (hd' : d' < 8) (hh' : h' < 24) (hw' : w' < 10) (hk' : 1 ≤ k') (hk2' : k' < 8) (e : gi v r d h w k = gi v' r' d' h' w' k') : v = v' ∧ r = r' ∧ d = d' ∧ h = h' ∧ w = w' ∧ k = k' := by
  unfold gi at e
  have e1 : k = k' ∧ ((((v * 4 + r) * 8 + d) * 24 + h) * 10 + w) = ((((v' * 4 + r') * 8 + d') * 24 + h') * 10 + w') := by omega
  have e2 : w = w' ∧ (((v * 4 + r) * 8 + d) * 24 + h) = (((v' * 4 + r') * 8 + d') * 24 + h') := by omega
  have e3 : h = h' ∧ ((v * 4 + r) * 8 + d) = ((v' * 4 + r') * 8 + d') := by omega
  have e4 : d = d' ∧ (v * 4 + r) = (v' * 4 + r') := by omega
  omega
theorem gi_i32 {v1 v2 v3 v4 v5 ru : Int32} {v r d h w k : Nat} (e1 : v1.toInt = v) (e2 : ru.toInt = r) (e3 : v2.toInt = d) (e4 : v3.toInt = h) (e5 : v4.toInt = w) (e6 : v5.toInt = k) (hv : v < 7) (hr : r < 4) (hd : d < 8) (hh : h < 24) (hw : w < 10) (hk : 1 ≤ k) (hk2 : k < 8) :
    ∃ i, (((((((((((v1 * 4) + ru) * 8) + v2) * 24) + v3) * 10) + v4) * 7) + v5) - 1) = i ∧ i.toInt = (gi v r d h w k : Nat) ∧ gi v r d h w k < 376320 := by
  have l1 : (1 : Int32).toInt = 1 := rfl
  have a1 : (v1 * 4).toInt = v * 4 := by rw [i32_mulR (n := 4) rfl (by omega) (by omega)]; omega
  have a2 : (v1 * 4 + ru).toInt = v * 4 + r := by rw [i32_add (by omega) (by omega)]; omega
  obtain ⟨x, hx⟩ : ∃ x, v1 * 4 + ru = x := ⟨_, rfl⟩
  rw [hx] at a2 ⊢
  have a3 : (x * 8).toInt = (v * 4 + r) * 8 := by rw [i32_mulR (n := 8) rfl (by omega) (by omega)]; omega
  have a4 : (x * 8 + v2).toInt = (v * 4 + r) * 8 + d := by rw [i32_add (by omega) (by omega)]; omega
  clear a1 a3
  obtain ⟨y, hy⟩ : ∃ y, x * 8 + v2 = y := ⟨_, rfl⟩
  rw [hy] at a4 ⊢
  have a5 : (y * 24).toInt = ((v * 4 + r) * 8 + d) * 24 := by rw [i32_mulR (n := 24) rfl (by omega) (by omega)]; omega
  have a6 : (y * 24 + v3).toInt = ((v * 4 + r) * 8 + d) * 24 + h := by rw [i32_add (by omega) (by omega)]; omega
  clear a5
  obtain ⟨z, hz⟩ : ∃ z, y * 24 + v3 = z := ⟨_, rfl⟩
  rw [hz] at a6 ⊢
  have a7 : (z * 10).toInt = (((v * 4 + r) * 8 + d) * 24 + h) * 10 := by rw [i32_mulR (n := 10) rfl (by omega) (by omega)]; omega
  have a8 : (z * 10 + v4).toInt = (((v * 4 + r) * 8 + d) * 24 + h) * 10 + w := by rw [i32_add (by omega) (by omega)]; omega
  clear a7
  obtain ⟨u, hu⟩ : ∃ u, z * 10 + v4 = u := ⟨_, rfl⟩
  rw [hu] at a8 ⊢
  have a9 : (u * 7).toInt = ((((v * 4 + r) * 8 + d) * 24 + h) * 10 + w) * 7 := by rw [i32_mulR (n := 7) rfl (by omega) (by omega)]; omega
  have b1 : (u * 7 + v5).toInt = ((((v * 4 + r) * 8 + d) * 24 + h) * 10 + w) * 7 + k := by rw [i32_add (by omega) (by omega)]; omega
  clear a9
  obtain ⟨t, ht⟩ : ∃ t, u * 7 + v5 = t := ⟨_, rfl⟩
  rw [ht] at b1 ⊢
  have b2 : (t - 1).toInt = t.toInt - 1 := i32_sub (by omega) (by omega)
  refine ⟨_, rfl, ?_, ?_⟩
  · rw [b2, b1]
    unfold gi
    omega
  · unfold gi
    omega
def hasN (ky : Int32) (d : Nat) : Bool := F_X9_has ky (Int32.ofNat d)
/-- one who goes, as row 9 has him, and the rules tried -/
def goerR (n : Nat) (V : oV) (told : Int32) (nd : Nat) (a z3 : Nat → Int32) (v : Nat) (l H : Nat) (ky : Int32) (ρ : Nat → Int32) (lo hi : Nat) (m : jS) : Prop :=
  isOp n V told a z3 ∧ m.1 1 = a ∧ m.1 3 = z3 ∧ m.1 0 2 = Int32.ofNat nd ∧ (lo ≤ v ∧ v < hi ∧ hi ≤ 7) ∧ ((m.1 9 (4 * v)).toInt = l ∧ l ≤ 9) ∧ m.1 9 (4 * v + 1) = ky ∧ ((m.1 9 (4 * v + 2)).toInt = H ∧ H < 24) ∧ (∀ d : Nat, d < 8 → m.1 10 d = ρ d ∧ -1 ≤ (ρ d).toInt ∧ (ρ d).toInt < told.toInt) ∧ told.toInt ≤ 4 ∧ cOK V told lo hi m
def freeB (a : Nat → Int32) (ky : Int32) (d : Nat) : Bool := decide (a (20 + d) = 0) || hasN ky d
def sL (V : oV) (free : Nat → Bool) (ρ : Nat → Int32) (l H : Nat) : Nat → Nat → Nat → Nat → Nat := fun d h w k => if free d = true then 0 else if (ρ d).toInt < 0 then 6 else lgV V (ρ d) l d ((H + h) % 24) w k
theorem sL_le {V : oV} {free : Nat → Bool} {ρ : Nat → Int32} {l H : Nat} : ∀ d h w k : Nat, sL V free ρ l H d h w k ≤ 6 := by
  intro d h w k
  unfold sL
  split
  · omega
  · split
    · omega
    · exact lgF_le _
