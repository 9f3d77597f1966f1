/-! the way itself -/
def fstK (f : Nat → Nat) (v : Nat) : Nat := if f 0 = v then 0 else if f 1 = v then 1 else if f 2 = v then 2 else if f 3 = v then 3 else if f 4 = v then 4 else if f 5 = v then 5 else if f 6 = v then 6 else 7
theorem fstK_is {f : Nat → Nat} {v : Nat} (k : Nat) (hk : k < 8) (h1 : ∀ i : Nat, i < k → ¬ f i = v) (h2 : f k = v) : fstK f v = k := by
  unfold fstK
  rcases (by omega : k = 0 ∨ k = 1 ∨ k = 2 ∨ k = 3 ∨ k = 4 ∨ k = 5 ∨ k = 6 ∨ k = 7) with rfl | rfl | rfl | rfl | rfl | rfl | rfl | rfl
  · rw [if_pos h2]
  · rw [if_neg (h1 0 (by decide)), if_pos h2]
  · rw [if_neg (h1 0 (by decide)), if_neg (h1 1 (by decide)), if_pos h2]
  · rw [if_neg (h1 0 (by decide)), if_neg (h1 1 (by decide)), if_neg (h1 2 (by decide)), if_pos h2]
  · rw [if_neg (h1 0 (by decide)), if_neg (h1 1 (by decide)), if_neg (h1 2 (by decide)), if_neg (h1 3 (by decide)), if_pos h2]
  · rw [if_neg (h1 0 (by decide)), if_neg (h1 1 (by decide)), if_neg (h1 2 (by decide)), if_neg (h1 3 (by decide)), if_neg (h1 4 (by decide)), if_pos h2]
  · rw [if_neg (h1 0 (by decide)), if_neg (h1 1 (by decide)), if_neg (h1 2 (by decide)), if_neg (h1 3 (by decide)), if_neg (h1 4 (by decide)), if_neg (h1 5 (by decide)), if_pos h2]
  · rw [if_neg (h1 0 (by decide)), if_neg (h1 1 (by decide)), if_neg (h1 2 (by decide)), if_neg (h1 3 (by decide)), if_neg (h1 4 (by decide)), if_neg (h1 5 (by decide)), if_neg (h1 6 (by decide))]
theorem fst_ex {f : Nat → Nat} {v : Nat} : ∀ n : Nat, (∃ k, k < n ∧ f k = v) → ∃ k, k < n ∧ f k = v ∧ ∀ i : Nat, i < k → ¬ f i = v := by
  intro n
  induction n with
  | zero => rintro ⟨k, hk, _⟩; omega
  | succ n ih =>
    rintro ⟨k, hk, e⟩
    by_cases h : ∃ k, k < n ∧ f k = v
    · obtain ⟨k', a, b, c⟩ := ih h
      exact ⟨k', by omega, b, c⟩
    · have : k = n := by
        by_cases z : k = n
        · exact z
        · exact absurd ⟨k, by omega, e⟩ h
      subst this
      exact ⟨k, hk, e, fun i hi z => h ⟨i, hi, z⟩⟩
section
variable (L : Nat → Nat → Nat → Nat → Nat) (D : Nat) (ex : Bool) (N : Nat)
/-- what is done at an hour, before a door -/
def kX (h d w : Nat) : Nat := fstK (optX L (vX L D ex (N - h - 1) (h + 1)) h d w) (vX L D ex (N - h) h d w)
/-- door and waited hour by hour -/
def posX : Nat → Nat × Nat
  | 0 => (0, 0)
  | i + 1 => if kX L D ex N i (posX i).1 (posX i).2 = 0 then ((posX i).1, capW (posX i).2) else ((posX i).1 + 1, 0)
def actX (i : Nat) : Nat := if kX L D ex N i (posX L D ex N i).1 (posX L D ex N i).2 = 0 then 0 else 10 * kX L D ex N i (posX L D ex N i).1 (posX L D ex N i).2 + L (posX L D ex N i).1 i (posX L D ex N i).2 (kX L D ex N i (posX L D ex N i).1 (posX L D ex N i).2)
end
section
variable {L : Nat → Nat → Nat → Nat → Nat} {D : Nat} {ex : Bool} {N : Nat}
/-- one step of a way that there is -/
theorem step_is (hL : ∀ d h w k : Nat, L d h w k ≤ 6) {h d w : Nat} (hD : D ≤ 8) (hd : d < D) (hN : N ≤ 48) (hh : h ≤ N) (hf : vX L D ex (N - h) h d w < 1000000) :
    ∃ k, kX L D ex N h d w = k ∧ k < 8 ∧ h < N ∧ optX L (vX L D ex (N - h - 1) (h + 1)) h d w k = vX L D ex (N - h) h d w ∧ (∀ i : Nat, i < k → ¬ optX L (vX L D ex (N - h - 1) (h + 1)) h d w i = vX L D ex (N - h) h d w) ∧
      ((k = 0 ∧ vX L D ex (N - (h + 1)) (h + 1) d (capW w) + 1 = vX L D ex (N - h) h d w) ∨ (1 ≤ k ∧ L d h w k ≤ 5 ∧ vX L D ex (N - (h + 1)) (h + 1) (d + 1) 0 + 100 * L d h w k + 1 = vX L D ex (N - h) h d w)) := by
  have hdn : ¬ d = D := by omega
  have hlt : h < N := by
    by_cases z : h < N
    · exact z
    · rw [show N - h = 0 from by omega] at hf
      change (if d = D then 0 else 1000000) < 1000000 at hf
      rw [if_neg hdn] at hf
      omega
  obtain ⟨r, hr⟩ : ∃ r, N - h = r + 1 := ⟨N - h - 1, by omega⟩
  have hr1 : N - h - 1 = r := by omega
  have hr2 : N - (h + 1) = r := by omega
  rw [hr] at hf
  have hex : ∃ k, k < 8 ∧ optX L (vX L D ex r (h + 1)) h d w k = vX L D ex (r + 1) h d w := by
    rcases minTo_ex (optX L (vX L D ex r (h + 1)) h d w) 8 with q | ⟨k, hk, q⟩
    · rw [vX_s hdn, q] at hf; omega
    · exact ⟨k, hk, by rw [vX_s hdn, q]⟩
  obtain ⟨k, k1, k2, k3⟩ := fst_ex 8 hex
  have hkk : kX L D ex N h d w = k := by
    unfold kX
    rw [hr1, hr]
    exact fstK_is k k1 k3 k2
  rw [hr1, hr2, hr]
  refine ⟨k, hkk, k1, hlt, k2, k3, ?_⟩
  by_cases k0 : k = 0
  · left
    subst k0
    rw [opt_0] at k2
    exact ⟨rfl, k2⟩
  · right
    by_cases h6 : L d h w k = 6
    · rw [opt_6 k0 h6] at k2
      omega
    · rw [opt_k k0 h6] at k2
      have := hL d h w k
      exact ⟨by omega, by omega, k2⟩
/-- along the way: what is left -/
theorem path_is (hL : ∀ d h w k : Nat, L d h w k ≤ 6) (hD : D ≤ 8) (hN : N ≤ 48) (hf : vX L D ex N 0 0 0 < 1000000) : ∀ i : Nat, i ≤ vX L D ex N 0 0 0 % 100 → i ≤ N ∧ (posX L D ex N i).1 ≤ D ∧ (posX L D ex N i).2 ≤ 9 ∧ (posX L D ex N i).2 ≤ i ∧ (posX L D ex N i).1 + (posX L D ex N i).2 ≤ i ∧ vX L D ex (N - i) i (posX L D ex N i).1 (posX L D ex N i).2 < 1000000 ∧ vX L D ex (N - i) i (posX L D ex N i).1 (posX L D ex N i).2 % 100 + i = vX L D ex N 0 0 0 % 100 ∧ (i < vX L D ex N 0 0 0 % 100 → (posX L D ex N i).1 < D) ∧ (i = vX L D ex N 0 0 0 % 100 → (posX L D ex N i).1 = D) := by
  have atD : ∀ i : Nat, i ≤ N → ∀ d w : Nat, d ≤ D → vX L D ex (N - i) i d w < 1000000 → (vX L D ex (N - i) i d w % 100 = 0 → d = D) ∧ (d = D → vX L D ex (N - i) i d w % 100 = 0) := by
    intro i hi d w hd hv
    have h1 := vX_fin hL (N - i) i d w (by omega) hd hD hv
    refine ⟨fun z => by omega, fun z => ?_⟩
    cases hr : N - i with
    | zero =>
      show (if d = D then 0 else 1000000) % 100 = 0
      rw [if_pos z]
    | succ r =>
      rw [hr] at hv
      change (if d = D then (if ex = true then 1000000 else 0) else minTo _ 8) < 1000000 at hv
      show (if d = D then (if ex = true then 1000000 else 0) else minTo _ 8) % 100 = 0
      rw [if_pos z] at hv ⊢
      cases ex with
      | true => rw [if_pos rfl] at hv; omega
      | false => rw [if_neg (fun z => by cases z)]
  intro i
  induction i with
  | zero =>
    intro hi
    have h0 := vX_fin hL N 0 0 0 hN (Nat.zero_le _) hD hf
    have hd := atD 0 (Nat.zero_le _) 0 0 (Nat.zero_le _) hf
    refine ⟨Nat.zero_le _, Nat.zero_le _, Nat.zero_le _, Nat.zero_le _, Nat.le_refl _, hf, rfl, fun z => ?_, fun z => hd.1 z.symm⟩
    have hd0 : ¬ (0 : Nat) = D := fun y => by
      have := hd.2 y
      rw [Nat.sub_zero] at this
      omega
    show 0 < D
    omega
  | succ i ih =>
    intro hi
    obtain ⟨g1, g2, g3, g3a, g3b, g4, g5, g6, g7⟩ := ih (by omega)
    have hlt := g6 (by omega)
    obtain ⟨k, k1, k2, k3, k4, k5, k6⟩ := step_is hL hD hlt hN g1 g4
    obtain ⟨p, hp⟩ : ∃ p, posX L D ex N i = p := ⟨_, rfl⟩
    rw [hp] at g2 g3 g3a g3b g4 g5 hlt k1 k4 k5 k6
    have hpos : posX L D ex N (i + 1) = if k = 0 then (p.1, capW p.2) else (p.1 + 1, 0) := by
      show (if kX L D ex N i (posX L D ex N i).1 (posX L D ex N i).2 = 0 then ((posX L D ex N i).1, capW (posX L D ex N i).2) else ((posX L D ex N i).1 + 1, 0)) = _
      rw [hp, k1]
    have hcap : capW p.2 ≤ 9 ∧ capW p.2 ≤ p.2 + 1 := by
      unfold capW
      split <;> omega
    rcases k6 with ⟨k0, k6⟩ | ⟨k0, k7, k6⟩
    · rw [if_pos k0] at hpos
      rw [hpos]
      have hv : vX L D ex (N - (i + 1)) (i + 1) p.1 (capW p.2) < 1000000 := by omega
      have hd := atD (i + 1) (by omega) p.1 (capW p.2) g2 hv
      have h1 := vX_fin hL (N - (i + 1)) (i + 1) p.1 (capW p.2) (by omega) g2 hD hv
      refine ⟨by omega, g2, hcap.1, by omega, by show p.1 + capW p.2 ≤ i + 1; omega, hv, by show vX L D ex (N - (i + 1)) (i + 1) p.1 (capW p.2) % 100 + (i + 1) = _; omega, fun z => ?_, fun z => ?_⟩
      · exact hlt
      · exact hd.1 (by omega)
    · rw [if_neg (by omega)] at hpos
      rw [hpos]
      have hv : vX L D ex (N - (i + 1)) (i + 1) (p.1 + 1) 0 < 1000000 := by omega
      have hd := atD (i + 1) (by omega) (p.1 + 1) 0 (by omega) hv
      have h1 := vX_fin hL (N - (i + 1)) (i + 1) (p.1 + 1) 0 (by omega) (by omega) hD hv
      refine ⟨by omega, by show p.1 + 1 ≤ D; omega, Nat.zero_le _, Nat.zero_le _, by show p.1 + 1 + 0 ≤ i + 1; omega, hv, by show vX L D ex (N - (i + 1)) (i + 1) (p.1 + 1) 0 % 100 + (i + 1) = _; omega, fun z => ?_, fun z => ?_⟩
      · have : ¬ p.1 + 1 = D := fun y => by have := hd.2 y; omega
        show p.1 + 1 < D
        omega
      · exact hd.1 (by omega)
end
/-- where the cheapest takes all its hours, the cheapest of just so many hours goes alike -/
theorem path_same {L : Nat → Nat → Nat → Nat → Nat} {D N : Nat} (hL : ∀ d h w k : Nat, L d h w k ≤ 6) (hD : D ≤ 8) (hN : N ≤ 48) (hf : vX L D false N 0 0 0 < 1000000) (hT : vX L D false N 0 0 0 % 100 = N) : ∀ i : Nat, i ≤ N → posX L D true N i = posX L D false N i ∧ vX L D true (N - i) i (posX L D false N i).1 (posX L D false N i).2 = vX L D false (N - i) i (posX L D false N i).1 (posX L D false N i).2 ∧ (i < N → kX L D true N i (posX L D false N i).1 (posX L D false N i).2 = kX L D false N i (posX L D false N i).1 (posX L D false N i).2) := by
  have key : ∀ i : Nat, i ≤ N → vX L D true (N - i) i (posX L D false N i).1 (posX L D false N i).2 = vX L D false (N - i) i (posX L D false N i).1 (posX L D false N i).2 ∧ (i < N → kX L D true N i (posX L D false N i).1 (posX L D false N i).2 = kX L D false N i (posX L D false N i).1 (posX L D false N i).2) := by
    intro i hi
    obtain ⟨g1, g2, g3, g3a, g3b, g4, g5, g6, g7⟩ := path_is hL hD hN hf i (by omega)
    have hv := vX_same hL (N - i) i (posX L D false N i).1 (posX L D false N i).2 (by omega) g2 hD g4 (by omega)
    refine ⟨hv, fun hlt => ?_⟩
    have hdl := g6 (by omega)
    obtain ⟨k, k1, k2, k3, k4, k5, k6⟩ := step_is hL hD hdl hN g1 g4
    rw [k1]
    have hr1 : N - i - 1 = N - (i + 1) := by omega
    have hle : ∀ k' : Nat, optX L (vX L D false (N - i - 1) (i + 1)) i (posX L D false N i).1 (posX L D false N i).2 k' ≤ optX L (vX L D true (N - i - 1) (i + 1)) i (posX L D false N i).1 (posX L D false N i).2 k' := by
      intro k'
      unfold optX
      split
      · have := vX_le (L := L) (D := D) (N - i - 1) (i + 1) (posX L D false N i).1 (capW (posX L D false N i).2)
        omega
      · split
        · exact Nat.le_refl _
        · have := vX_le (L := L) (D := D) (N - i - 1) (i + 1) ((posX L D false N i).1 + 1) 0
          omega
    have hmin : ∀ k' : Nat, k' < 8 → vX L D false (N - i) i (posX L D false N i).1 (posX L D false N i).2 ≤ optX L (vX L D false (N - i - 1) (i + 1)) i (posX L D false N i).1 (posX L D false N i).2 k' := by
      intro k' hk'
      obtain ⟨r, hr⟩ : ∃ r, N - i = r + 1 := ⟨N - i - 1, by omega⟩
      rw [hr, show r + 1 - 1 = r from rfl, vX_s (by omega)]
      exact minTo_le _ 8 k' hk'
    unfold kX
    refine fstK_is k k2 (fun j hj z => ?_) ?_
    · have a1 := hle j
      have a2 := hmin j (by omega)
      have a3 := k5 j hj
      rw [hv] at z
      omega
    · rw [hv, ← k4]
      rcases k6 with ⟨k0, k6⟩ | ⟨k0, k7, k6⟩
      · subst k0
        rw [opt_0, opt_0, hr1]
        have hvv : vX L D false (N - (i + 1)) (i + 1) (posX L D false N i).1 (capW (posX L D false N i).2) < 1000000 := by omega
        have h1 := vX_fin hL (N - (i + 1)) (i + 1) (posX L D false N i).1 (capW (posX L D false N i).2) (by omega) g2 hD hvv
        rw [vX_same hL (N - (i + 1)) (i + 1) _ _ (by omega) g2 hD hvv (by omega)]
      · have h6 : ¬ L (posX L D false N i).1 i (posX L D false N i).2 k = 6 := by omega
        rw [opt_k (by omega) h6, opt_k (by omega) h6, hr1]
        have hvv : vX L D false (N - (i + 1)) (i + 1) ((posX L D false N i).1 + 1) 0 < 1000000 := by omega
        have h1 := vX_fin hL (N - (i + 1)) (i + 1) ((posX L D false N i).1 + 1) 0 (by omega) (by omega) hD hvv
        rw [vX_same hL (N - (i + 1)) (i + 1) _ _ (by omega) (by omega) hD hvv (by omega)]
  intro i
  induction i with
  | zero => intro hi; exact ⟨rfl, key 0 hi⟩
  | succ i ih =>
    intro hi
    obtain ⟨a, b, c⟩ := ih (by omega)
    refine ⟨?_, key (i + 1) hi⟩
    show (if kX L D true N i (posX L D true N i).1 (posX L D true N i).2 = 0 then _ else _) = (if kX L D false N i (posX L D false N i).1 (posX L D false N i).2 = 0 then _ else _)
    rw [a, c (by omega)]
