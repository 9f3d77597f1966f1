/-! the class's table: one hour and door -/
/-- a door at which waiting makes no difference -/
def stl (L : Nat → Nat → Nat → Nat → Nat) (d : Nat) : Prop := ∀ h w k : Nat, w ≤ 9 → 1 ≤ k → k < 8 → L d h w k = L d h 0 k
theorem cap9 {w : Nat} (h : w ≤ 9) : capW w ≤ 9 := by
  unfold capW
  split <;> omega
theorem opt_same {L : Nat → Nat → Nat → Nat → Nat} {X' : Nat → Nat → Nat} {h d w w' : Nat} (hc : X' d (capW w) = X' d (capW w')) (hk : ∀ k : Nat, 1 ≤ k → k < 8 → L d h w k = L d h w' k) {k : Nat} (k8 : k < 8) : optX L X' h d w k = optX L X' h d w' k := by
  unfold optX
  by_cases k0 : k = 0
  · rw [if_pos k0, if_pos k0, hc]
  · rw [if_neg k0, if_neg k0, hk k (by omega) k8]
theorem vX_stl {L : Nat → Nat → Nat → Nat → Nat} {D : Nat} {ex : Bool} {d : Nat} (hs : stl L d) : ∀ r h w : Nat, w ≤ 9 → vX L D ex r h d w = vX L D ex r h d 0 := by
  intro r
  induction r with
  | zero => intro h w _; rfl
  | succ r ih =>
    intro h w hw
    by_cases e : d = D
    · show (if d = D then _ else _) = (if d = D then _ else _)
      rw [if_pos e, if_pos e]
    · rw [vX_s e, vX_s e]
      refine minTo_congr 8 (fun k hk => opt_same ?_ (fun k k1 k8 => hs h w k hw k1 k8) hk)
      rw [ih (h + 1) (capW w) (cap9 hw), ih (h + 1) (capW 0) (cap9 (by omega))]
/-- a door that never opens -/
theorem vX_sht {L : Nat → Nat → Nat → Nat → Nat} {D : Nat} {ex : Bool} {d0 : Nat} (hd0 : d0 < D) (hs : ∀ h w k : Nat, w ≤ 9 → 1 ≤ k → k < 8 → L d0 h w k = 6) : ∀ r h d w : Nat, d ≤ d0 → w ≤ 9 → vX L D ex r h d w = 1000000 := by
  intro r
  induction r with
  | zero => intro h d w hd _; exact if_neg (by omega)
  | succ r ih =>
    intro h d w hd hw
    have e : ¬ d = D := by omega
    by_cases hf : vX L D ex (r + 1) h d w < 1000000
    · exfalso
      rcases vX_step e hf with q | ⟨k, k1, k7, k6, q⟩
      · rw [ih (h + 1) d (capW w) hd (cap9 hw)] at q; omega
      · by_cases hdd : d = d0
        · exact k6 (by rw [hdd]; exact hs h w k hw k1 k7)
        · rw [ih (h + 1) (d + 1) 0 (by omega) (by omega)] at q; omega
    · have := vX_M (L := L) (D := D) ex (r + 1) h d w
      omega
def cllC (L : Nat → Nat → Nat → Nat → Nat) (nd N : Nat) (s : jS) (t d w : Nat) : Prop := (s.1 36 (t % 2 * 90 + d * 10 + w)).toInt = (convY t (vX L nd false (N - t) t d w) : Nat)
def layC (L : Nat → Nat → Nat → Nat → Nat) (mo : Nat → Nat) (nd N : Nat) (s : jS) (t : Nat) : Prop := ∀ d w : Nat, (d = nd ∧ w = 0) ∨ (d < nd ∧ d + w ≤ t ∧ w ≤ mo d) → cllC L nd N s t d w
def goesC (L : Nat → Nat → Nat → Nat → Nat) (mo : Nat → Nat) (nd N : Nat) (s : jS) (t d : Nat) : Prop := ∀ w : Nat, d + w ≤ t → w ≤ mo d → vX L nd false (N - t) t d w < 1000000 → ((((s.1 37 (t * 8 + d)) >>> (Int32.ofNat w &&& 31)) &&& (1 : Int32)) = 1 ↔ ¬ kX L nd false N t d w = 0)
/-- only the table's rows change -/
def clM (s s' : jS) : Prop := (∀ k : Nat, ¬ k = 36 → ¬ k = 37 → s'.1 k = s.1 k) ∧ s'.2 = s.2
theorem clM_rfl {s : jS} : clM s s := ⟨fun _ _ _ => rfl, rfl⟩
theorem clM_tr {a b c : jS} (h1 : clM a b) (h2 : clM b c) : clM a c := ⟨fun k a1 a2 => (h2.1 k a1 a2).trans (h1.1 k a1 a2), h2.2.trans h1.2⟩
theorem clM_36 {s s' : jS} (h : clM s s') (j : Nat) (x : Int32) : clM s (upI s' 36 j x) := ⟨fun k a1 a2 => by rw [upI_1, if_neg a1]; exact h.1 k a1 a2, h.2⟩
theorem clM_37 {s s' : jS} (h : clM s s') (j : Nat) (x : Int32) : clM s (upI s' 37 j x) := ⟨fun k a1 a2 => by rw [upI_1, if_neg a2]; exact h.1 k a1 a2, h.2⟩
theorem set_bit : ∀ j : Nat, j < 10 → ∀ B : Nat, B < 2 ^ j → (Int32.ofNat B ||| ((1 : Int32) <<< (Int32.ofNat j &&& 31))) = Int32.ofNat (B + 2 ^ j) := by decide +kernel
theorem get_bit : ∀ B : Nat, B < 1024 → ∀ i : Nat, i < 10 → (((Int32.ofNat B >>> (Int32.ofNat i &&& 31)) &&& (1 : Int32)) = 1 ↔ B / 2 ^ i % 2 = 1) := by decide +kernel
theorem add_bit : ∀ j : Nat, j < 10 → ∀ B : Nat, B < 2 ^ j → ∀ i : Nat, i < j → (B + 2 ^ j) / 2 ^ i % 2 = B / 2 ^ i % 2 := by decide +kernel
theorem top_bit : ∀ j : Nat, j < 10 → ∀ B : Nat, B < 2 ^ j → (B + 2 ^ j) / 2 ^ j % 2 = 1 ∧ B / 2 ^ j % 2 = 0 ∧ B + 2 ^ j < 2 ^ (j + 1) ∧ B < 2 ^ (j + 1) := by decide +kernel
/-- bits told so far -/
def bitsP (b : Int32) (j : Nat) (P : Nat → Prop) : Prop := ∃ B : Nat, b = Int32.ofNat B ∧ B < 2 ^ j ∧ ∀ i : Nat, i < j → (B / 2 ^ i % 2 = 1 ↔ P i)
theorem bits_0 (P : Nat → Prop) : bitsP 0 0 P := ⟨0, rfl, by decide, fun i hi => absurd hi (Nat.not_lt_zero i)⟩
theorem bits_no {b : Int32} {j : Nat} {P : Nat → Prop} (h : bitsP b j P) (hj : j < 10) (hp : ¬ P j) : bitsP b (j + 1) P := by
  obtain ⟨B, h1, h2, h3⟩ := h
  have ht := top_bit j hj B h2
  refine ⟨B, h1, ht.2.2.2, fun i hi => ?_⟩
  by_cases e : i = j
  · rw [e, ht.2.1]
    exact ⟨fun z => absurd z (by decide), fun z => absurd z hp⟩
  · exact h3 i (by omega)
theorem bits_yes {b : Int32} {j : Nat} {P : Nat → Prop} (h : bitsP b j P) (hj : j < 10) (hp : P j) : bitsP (b ||| ((1 : Int32) <<< (Int32.ofNat j &&& 31))) (j + 1) P := by
  obtain ⟨B, h1, h2, h3⟩ := h
  have ht := top_bit j hj B h2
  refine ⟨B + 2 ^ j, by rw [h1]; exact set_bit j hj B h2, ht.2.2.1, fun i hi => ?_⟩
  by_cases e : i = j
  · rw [e, ht.1]
    exact ⟨fun _ => hp, fun _ => rfl⟩
  · rw [add_bit j hj B h2 i (by omega)]
    exact h3 i (by omega)
theorem bits_get {b : Int32} {j : Nat} {P : Nat → Prop} (h : bitsP b j P) (hj : j ≤ 10) {i : Nat} (hi : i < j) : ((b >>> (Int32.ofNat i &&& 31)) &&& (1 : Int32)) = 1 ↔ P i := by
  obtain ⟨B, h1, h2, h3⟩ := h
  have hB : B < 1024 := Nat.lt_of_lt_of_le h2 (Nat.pow_le_pow_right (by decide) hj)
  rw [h1, get_bit B hB i (by omega)]
  exact h3 i hi
theorem base_i32 {x y : Int32} {t d : Nat} (e1 : x.toInt = t) (e2 : y.toInt = d) (ht : t < 64) (hd : d ≤ 8) : ∃ z, (((x &&& (1 : Int32)) * 90) + (y * 10)) = z ∧ z.toInt = (t % 2 * 90 + d * 10 : Nat) := by
  have hx : x = Int32.ofNat t := i32_eq.mpr (by rw [ofNat_int (by omega)]; exact e1)
  have hp := par_bits t ht
  rw [← hx] at hp
  have h1 : ((x &&& (1 : Int32)) * 90).toInt = (t % 2 : Nat) * 90 := by rw [i32_mulR (n := 90) rfl (by omega) (by omega), hp]
  have h2 : (y * 10).toInt = (d : Int) * 10 := by rw [i32_mulR (n := 10) rfl (by omega) (by omega), e2]
  refine ⟨_, rfl, ?_⟩
  rw [i32_add (by omega) (by omega), h1, h2]
  omega
theorem and63 (x : Int32) : 0 ≤ (x &&& 63).toInt ∧ (x &&& 63).toInt < 64 := by
  have h : (x &&& (63 : Int32)).toBitVec.toNat ≤ 63 := by
    rw [Int32.toBitVec_and, BitVec.toNat_and]
    exact Nat.and_le_right
  have h2 : (x &&& 63).toInt = ((x &&& (63 : Int32)).toBitVec.toNat : Int) := BitVec.toInt_eq_toNat_of_lt (by omega)
  omega
theorem exI_rng (y : Int64) (w : Int32) : ∃ e : Nat, e < 64 ∧ exI y w = Int32.ofNat e := by
  have h : 0 ≤ (exI y w).toInt ∧ (exI y w).toInt < 64 := by
    unfold exI
    exact and63 _
  exact ⟨(exI y w).toInt.toNat, by omega, i32_of h.1⟩
