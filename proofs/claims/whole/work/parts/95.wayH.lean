/-! the class's costs: gifts by 64 and the hour of arrival -/
def convY (h X : Nat) : Nat := if 1000000 ≤ X then 1048576 else 64 * (X / 100) + h + X % 100
def exI (y : Int64) (w : Int32) : Int32 := ((Int64.toInt32 (y >>> (((w * 6) : Int32).toInt64 &&& 63))) &&& (63 : Int32))
theorem e_bits : ∀ i : Nat, i < 64 → (Int32.ofNat i &&& 7).toInt = ((i % 8 : Nat) : Int) ∧ (Int32.ofNat i >>> ((3 : Int32) &&& 31)).toInt = ((i / 8 : Nat) : Int) ∧ ((Int32.ofNat i >>> ((3 : Int32) &&& 31)) <<< ((6 : Int32) &&& 31)).toInt = ((64 * (i / 8) : Nat) : Int) := by decide +kernel
theorem par_bits : ∀ i : Nat, i < 64 → (Int32.ofNat i &&& 1).toInt = ((i % 2 : Nat) : Int) := by decide +kernel
section
variable {L : Nat → Nat → Nat → Nat → Nat} {D : Nat}
/-- what the class's entry says of the choice -/
theorem kX_ent (hL : ∀ d h w k : Nat, L d h w k ≤ 6) {ex : Bool} {N h d w e : Nat} (hD : D ≤ 8) (hd : d < D) (hN : N ≤ 48) (hh : h ≤ N) (hf : vX L D ex (N - h) h d w < 1000000) (he : entP (L d h w) e) :
    (vX L D ex (N - (h + 1)) (h + 1) d (capW w) + 1 ≤ entV (vX L D ex (N - (h + 1)) (h + 1) (d + 1) 0) e → kX L D ex N h d w = 0) ∧
    (¬ vX L D ex (N - (h + 1)) (h + 1) d (capW w) + 1 ≤ entV (vX L D ex (N - (h + 1)) (h + 1) (d + 1) 0) e → kX L D ex N h d w = e % 8 ∧ 1 ≤ e % 8 ∧ L d h w (e % 8) = e / 8 ∧ e / 8 ≤ 5) := by
  obtain ⟨k, k1, k2, k3, k4, k5, k6⟩ := step_is hL hD hd hN hh hf
  have hr1 : N - h - 1 = N - (h + 1) := by omega
  rw [hr1] at k4 k5
  have hmin : ∀ k' : Nat, k' < 8 → vX L D ex (N - h) h d w ≤ optX L (vX L D ex (N - (h + 1)) (h + 1)) h d w k' := by
    intro k' hk'
    obtain ⟨r, hr⟩ : ∃ r, N - h = r + 1 := ⟨N - h - 1, by omega⟩
    rw [hr, show N - (h + 1) = r from by omega, vX_s (by omega)]
    exact minTo_le _ 8 k' hk'
  have hX := vX_M (L := L) (D := D) ex (N - (h + 1)) (h + 1) (d + 1) 0
  have hm0 := hmin 0 (by decide)
  rw [opt_0] at hm0
  rw [k1]
  constructor
  · intro hle
    by_cases k0 : k = 0
    · exact k0
    · exfalso
      have hn0 := k5 0 (by omega)
      rw [opt_0] at hn0
      rcases k6 with ⟨z, _⟩ | ⟨z1, z2, z3⟩
      · exact k0 z
      · have hlow : entV (vX L D ex (N - (h + 1)) (h + 1) (d + 1) 0) e ≤ vX L D ex (N - (h + 1)) (h + 1) (d + 1) 0 + 100 * L d h w k + 1 := by
          unfold entV
          rcases he with ⟨e8, z⟩ | ⟨g, k', e1, e2, e3, e4, e5, e6, e7⟩
          · have := z k z1 k2; omega
          · have := e6 k z1 k2
            rw [if_neg (by omega), show e / 8 = g from by omega]
            split <;> omega
        omega
  · intro hgt
    have k0 : ¬ k = 0 := fun z => by
      apply hgt
      rcases k6 with ⟨_, q⟩ | ⟨q, _⟩
      · rw [q]
        unfold entV
        rcases he with ⟨e8, z⟩ | ⟨g, k', e1, e2, e3, e4, e5, e6, e7⟩
        · rw [if_pos (by omega)]; omega
        · rw [if_neg (by omega), show e / 8 = g from by omega]
          split
          · omega
          · have := hmin k' e4
            rw [opt_k (by omega) (by omega), e5] at this
            exact this
      · omega
    rcases k6 with ⟨z, _⟩ | ⟨z1, z2, z3⟩
    · exact absurd z k0
    · rcases he with ⟨e8, z⟩ | ⟨g, k', e1, e2, e3, e4, e5, e6, e7⟩
      · have := z k z1 k2; omega
      · have a1 := e6 k z1 k2
        have a2 := hmin k' e4
        rw [opt_k (by omega) (by omega), e5] at a2
        have hLg : L d h w k = g := by omega
        have hkk : k = k' := by
          by_cases lt : k < k'
          · exact absurd hLg (e7 k z1 lt)
          · by_cases gt : k' < k
            · exfalso
              apply k5 k' gt
              rw [opt_k (by omega) (by omega), e5, ← z3, hLg]
            · omega
        rw [show e % 8 = k' from by omega, show e / 8 = g from by omega]
        exact ⟨hkk, e3, e5, e2⟩
/-- the costs of one hour from those of the next -/
theorem conv_step (hL : ∀ d h w k : Nat, L d h w k ≤ 6) {N h d w e : Nat} (hD : D ≤ 8) (hd : d < D) (hN : N ≤ 48) (hh : h < N) (he : entP (L d h w) e) :
    ∃ v13 : Nat, v13 = (if e % 8 = 0 then 1048576 else if 1048576 ≤ convY (h + 1) (vX L D false (N - (h + 1)) (h + 1) (d + 1) 0) then 1048576 else convY (h + 1) (vX L D false (N - (h + 1)) (h + 1) (d + 1) 0) + 64 * (e / 8)) ∧
      convY h (vX L D false (N - h) h d w) = (if convY (h + 1) (vX L D false (N - (h + 1)) (h + 1) d (capW w)) ≤ v13 then convY (h + 1) (vX L D false (N - (h + 1)) (h + 1) d (capW w)) else v13) ∧
      (vX L D false (N - h) h d w < 1000000 → ((¬ convY (h + 1) (vX L D false (N - (h + 1)) (h + 1) d (capW w)) ≤ v13) ↔ ¬ kX L D false N h d w = 0)) ∧ v13 ≤ 1048576 ∧ convY (h + 1) (vX L D false (N - (h + 1)) (h + 1) d (capW w)) ≤ 1048576 := by
  refine ⟨_, rfl, ?_⟩
  obtain ⟨r, hr⟩ : ∃ r, N - h = r + 1 := ⟨N - h - 1, by omega⟩
  have hr2 : N - (h + 1) = r := by omega
  have F1 := fun hf => vX_fin hL (ex := false) r (h + 1) d (capW w) (by omega) (by omega) hD hf
  have F2 := fun hf => vX_fin hL (ex := false) r (h + 1) (d + 1) 0 (by omega) (by omega) hD hf
  have hb : vX L D false r (h + 1) (d + 1) 0 < 1000000 → vX L D false r (h + 1) (d + 1) 0 ≤ 5000 := fun hf => by have := F2 hf; omega
  have hv := vX_ent (L := L) (D := D) (ex := false) (r := r) (h := h) (d := d) (w := w) (by omega) he hb
  have M1 := vX_M (L := L) (D := D) false r (h + 1) d (capW w)
  have M2 := vX_M (L := L) (D := D) false r (h + 1) (d + 1) 0
  have hk := fun hf => kX_ent hL (ex := false) (N := N) (h := h) hD hd hN (by omega) hf he
  rw [hr, hr2] at hk
  rw [hr, hr2]
  have he47 : e ≤ 47 := by
    rcases he with ⟨e8, _⟩ | ⟨g, k', e1, e2, e3, e4, _⟩ <;> omega
  have hk0 : e % 8 = 0 ∨ ¬ e % 8 = 0 := by omega
  obtain ⟨X1, hX1⟩ : ∃ X1, vX L D false r (h + 1) d (capW w) = X1 := ⟨_, rfl⟩
  obtain ⟨X2, hX2⟩ : ∃ X2, vX L D false r (h + 1) (d + 1) 0 = X2 := ⟨_, rfl⟩
  obtain ⟨X, hX⟩ : ∃ X, vX L D false (r + 1) h d w = X := ⟨_, rfl⟩
  obtain ⟨K, hK⟩ : ∃ K, kX L D false N h d w = K := ⟨_, rfl⟩
  rw [hX1] at F1 M1
  rw [hX2] at F2 M2
  rw [hX, hX1, hX2] at hv
  rw [hX, hX1, hX2, hK] at hk
  rw [hX1, hX2, hX, hK]
  -- numbers alone
  obtain ⟨E, hE⟩ : ∃ E, entV X2 e = E := ⟨_, rfl⟩
  have hEv : E = if e % 8 = 0 then 1000000 else if 1000000 ≤ X2 then 1000000 else X2 + 100 * (e / 8) + 1 := by rw [← hE]; rfl
  rw [hE] at hv hk
  have c1 : convY (h + 1) X1 = if 1000000 ≤ X1 then 1048576 else 64 * (X1 / 100) + (h + 1) + X1 % 100 := rfl
  have c2 : convY (h + 1) X2 = if 1000000 ≤ X2 then 1048576 else 64 * (X2 / 100) + (h + 1) + X2 % 100 := rfl
  have c3 : convY h X = if 1000000 ≤ X then 1048576 else 64 * (X / 100) + h + X % 100 := rfl
  obtain ⟨C1, hC1⟩ : ∃ C1, convY (h + 1) X1 = C1 := ⟨_, rfl⟩
  obtain ⟨C2, hC2⟩ : ∃ C2, convY (h + 1) X2 = C2 := ⟨_, rfl⟩
  obtain ⟨C3, hC3⟩ : ∃ C3, convY h X = C3 := ⟨_, rfl⟩
  rw [hC1] at c1 ⊢
  rw [hC2] at c2 ⊢
  rw [hC3] at c3 ⊢
  obtain ⟨W, hW⟩ : ∃ W, (if e % 8 = 0 then 1048576 else if 1048576 ≤ C2 then 1048576 else C2 + 64 * (e / 8)) = W := ⟨_, rfl⟩
  rw [hW]
  -- the costs by waiting and by knocking, one by one
  have hC1' : (X1 < 1000000 ∧ C1 = 64 * (X1 / 100) + (h + 1) + X1 % 100 ∧ X1 % 100 ≤ r ∧ X1 / 100 ≤ 40) ∨ (X1 = 1000000 ∧ C1 = 1048576) := by
    by_cases z : 1000000 ≤ X1
    · rw [if_pos z] at c1; exact Or.inr ⟨by omega, c1⟩
    · rw [if_neg z] at c1
      have := F1 (by omega)
      exact Or.inl ⟨by omega, c1, by omega, by omega⟩
  have hE' : (E < 1000000 ∧ W = 64 * (E / 100) + h + E % 100 ∧ 1 ≤ E % 100 ∧ E % 100 ≤ r + 1 ∧ E / 100 ≤ 80) ∨ (E = 1000000 ∧ W = 1048576) := by
    rcases hk0 with k0 | k0
    · rw [if_pos k0] at hEv hW
      exact Or.inr ⟨hEv, hW.symm⟩
    · rw [if_neg k0] at hEv hW
      by_cases z : 1000000 ≤ X2
      · rw [if_pos z] at hEv c2
        rw [if_pos (by omega)] at hW
        exact Or.inr ⟨hEv, hW.symm⟩
      · rw [if_neg z] at hEv c2
        have := F2 (by omega)
        rw [if_neg (by omega)] at hW
        exact Or.inl ⟨by omega, by omega, by omega, by omega, by omega⟩
  have hrr : r ≤ 47 := by omega
  clear c1 c2 hEv hW F1 F2 hE hC1 hC2 hC3 hX1 hX2 hX hb M1 M2
  rcases hC1' with ⟨a1, a2, a3, a4⟩ | ⟨a1, a2⟩
  · rcases hE' with ⟨b1, b2, b3, b4, b5⟩ | ⟨b1, b2⟩
    · by_cases hle : X1 + 1 ≤ E
      · have hCW : C1 ≤ W := by omega
        rw [if_pos hle, if_pos (by omega)] at hv
        rw [if_neg (by omega)] at c3
        refine ⟨by rw [if_pos hCW]; omega, fun hf => ⟨fun z => absurd hCW z, fun z => absurd ((hk hf).1 hle) z⟩, by omega, by omega⟩
      · have hCW : ¬ C1 ≤ W := by omega
        rw [if_neg hle] at hv
        rw [if_neg (by omega)] at c3
        refine ⟨by rw [if_neg hCW]; omega, fun hf => ⟨fun _ z => ?_, fun _ => hCW⟩, by omega, by omega⟩
        have := (hk hf).2 hle
        omega
    · have hle : X1 + 1 ≤ E := by omega
      have hCW : C1 ≤ W := by omega
      rw [if_pos hle, if_pos (by omega)] at hv
      rw [if_neg (by omega)] at c3
      exact ⟨by rw [if_pos hCW]; omega, fun hf => ⟨fun z => absurd hCW z, fun z => absurd ((hk hf).1 hle) z⟩, by omega, by omega⟩
  · rcases hE' with ⟨b1, b2, b3, b4, b5⟩ | ⟨b1, b2⟩
    · have hle : ¬ X1 + 1 ≤ E := by omega
      have hCW : ¬ C1 ≤ W := by omega
      rw [if_neg hle] at hv
      rw [if_neg (by omega)] at c3
      refine ⟨by rw [if_neg hCW]; omega, fun hf => ⟨fun _ z => ?_, fun _ => hCW⟩, by omega, by omega⟩
      have := (hk hf).2 hle
      omega
    · have hle : ¬ X1 + 1 ≤ E := by omega
      rw [if_neg hle] at hv
      rw [if_pos (by omega)] at c3
      exact ⟨by rw [if_pos (by omega)]; omega, fun hf => by omega, by omega, by omega⟩
end
