/-! ways: the least of what is to come, by hours left (r), the hour (h), door and waited -/
def capW (w : Nat) : Nat := if w = 9 then 9 else w + 1
def minTo (f : Nat → Nat) : Nat → Nat
  | 0 => 1000000
  | k + 1 => if minTo f k ≤ f k then minTo f k else f k
theorem minTo_le (f : Nat → Nat) : ∀ n k : Nat, k < n → minTo f n ≤ f k := by
  intro n
  induction n with
  | zero => intro k hk; omega
  | succ n ih =>
    intro k hk
    show (if minTo f n ≤ f n then minTo f n else f n) ≤ f k
    by_cases e : k = n
    · subst e
      split <;> omega
    · have := ih k (by omega)
      split <;> omega
theorem minTo_M (f : Nat → Nat) : ∀ n : Nat, minTo f n ≤ 1000000 := by
  intro n
  induction n with
  | zero => exact Nat.le_refl _
  | succ n ih =>
    show (if minTo f n ≤ f n then minTo f n else f n) ≤ _
    split <;> omega
theorem minTo_ex (f : Nat → Nat) : ∀ n : Nat, minTo f n = 1000000 ∨ ∃ k, k < n ∧ minTo f n = f k := by
  intro n
  induction n with
  | zero => exact Or.inl rfl
  | succ n ih =>
    show (if minTo f n ≤ f n then minTo f n else f n) = 1000000 ∨ ∃ k, k < n + 1 ∧ (if minTo f n ≤ f n then minTo f n else f n) = f k
    by_cases h : minTo f n ≤ f n
    · rw [if_pos h]
      rcases ih with q | ⟨k, hk, q⟩
      · exact Or.inl q
      · exact Or.inr ⟨k, by omega, q⟩
    · rw [if_neg h]
      exact Or.inr ⟨n, by omega, rfl⟩
theorem minTo_mono {f g : Nat → Nat} (n : Nat) (h : ∀ k : Nat, k < n → f k ≤ g k) : minTo f n ≤ minTo g n := by
  rcases minTo_ex g n with q | ⟨k, hk, q⟩
  · rw [q]; exact minTo_M f n
  · rw [q]
    exact Nat.le_trans (minTo_le f n k hk) (h k hk)
theorem minTo_congr {f g : Nat → Nat} (n : Nat) (h : ∀ k : Nat, k < n → f k = g k) : minTo f n = minTo g n :=
  Nat.le_antisymm (minTo_mono n (fun k hk => Nat.le_of_eq (h k hk))) (minTo_mono n (fun k hk => Nat.le_of_eq (h k hk).symm))
section
variable (L : Nat → Nat → Nat → Nat → Nat) (D : Nat)
/-- door, hour, waited, knocks -> the least gift by which it opens (6 none) -/
def optX (X' : Nat → Nat → Nat) (h d w k : Nat) : Nat := if k = 0 then X' d (capW w) + 1 else if L d h w k = 6 then 1000000 else X' (d + 1) 0 + 100 * L d h w k + 1
def vX (ex : Bool) : Nat → Nat → Nat → Nat → Nat
  | 0, _, d, _ => if d = D then 0 else 1000000
  | r + 1, h, d, w => if d = D then (if ex = true then 1000000 else 0) else minTo (optX L (vX ex r (h + 1)) h d w) 8
end
section
variable {L : Nat → Nat → Nat → Nat → Nat} {D : Nat}
theorem vX_M (ex : Bool) : ∀ r h d w : Nat, vX L D ex r h d w ≤ 1000000 := by
  intro r h d w
  cases r with
  | zero =>
    show (if d = D then 0 else 1000000) ≤ 1000000
    split <;> omega
  | succ r =>
    show (if d = D then (if ex = true then 1000000 else 0) else minTo (optX L (vX L D ex r (h + 1)) h d w) 8) ≤ 1000000
    split
    · split <;> omega
    · exact minTo_M _ _
theorem vX_s {ex : Bool} {r h d w : Nat} (hd : ¬ d = D) : vX L D ex (r + 1) h d w = minTo (optX L (vX L D ex r (h + 1)) h d w) 8 := if_neg hd
theorem opt_0 (X' : Nat → Nat → Nat) (h d w : Nat) : optX L X' h d w 0 = X' d (capW w) + 1 := if_pos rfl
theorem opt_k {X' : Nat → Nat → Nat} {h d w k : Nat} (hk : ¬ k = 0) (h6 : ¬ L d h w k = 6) : optX L X' h d w k = X' (d + 1) 0 + 100 * L d h w k + 1 := by
  unfold optX
  rw [if_neg hk, if_neg h6]
theorem opt_6 {X' : Nat → Nat → Nat} {h d w k : Nat} (hk : ¬ k = 0) (h6 : L d h w k = 6) : optX L X' h d w k = 1000000 := by
  unfold optX
  rw [if_neg hk, if_pos h6]
/-- a way that there is begins with waiting or with a knock -/
theorem vX_step {ex : Bool} {r h d w : Nat} (hd : ¬ d = D) (hf : vX L D ex (r + 1) h d w < 1000000) :
    (vX L D ex (r + 1) h d w = vX L D ex r (h + 1) d (capW w) + 1) ∨ ∃ k, 1 ≤ k ∧ k < 8 ∧ ¬ L d h w k = 6 ∧ vX L D ex (r + 1) h d w = vX L D ex r (h + 1) (d + 1) 0 + 100 * L d h w k + 1 := by
  rw [vX_s hd] at hf ⊢
  rcases minTo_ex (optX L (vX L D ex r (h + 1)) h d w) 8 with q | ⟨k, hk, q⟩
  · omega
  · by_cases k0 : k = 0
    · left
      rw [q, k0, opt_0]
    · right
      by_cases h6 : L d h w k = 6
      · rw [q, opt_6 k0 h6] at hf
        omega
      · exact ⟨k, by omega, hk, h6, by rw [q, opt_k k0 h6]⟩
theorem vX_wait {ex : Bool} {r h d w : Nat} (hd : ¬ d = D) : vX L D ex (r + 1) h d w ≤ vX L D ex r (h + 1) d (capW w) + 1 := by
  rw [vX_s hd, ← opt_0 (L := L) (vX L D ex r (h + 1)) h d w]
  exact minTo_le _ 8 0 (by decide)
theorem vX_knock {ex : Bool} {r h d w k : Nat} (hd : ¬ d = D) (k1 : 1 ≤ k) (k7 : k < 8) (h6 : ¬ L d h w k = 6) : vX L D ex (r + 1) h d w ≤ vX L D ex r (h + 1) (d + 1) 0 + 100 * L d h w k + 1 := by
  rw [vX_s hd, ← opt_k (X' := vX L D ex r (h + 1)) (by omega) h6]
  exact minTo_le _ 8 k k7
/-- gifts and hours of a way -/
theorem vX_fin (hL : ∀ d h w k : Nat, L d h w k ≤ 6) {ex : Bool} : ∀ r h d w : Nat, r ≤ 48 → d ≤ D → D ≤ 8 → vX L D ex r h d w < 1000000 → D - d ≤ vX L D ex r h d w % 100 ∧ vX L D ex r h d w % 100 ≤ r ∧ vX L D ex r h d w / 100 ≤ 5 * (D - d) := by
  intro r
  induction r with
  | zero =>
    intro h d w _ hd _ hf
    change (if d = D then 0 else 1000000) < 1000000 at hf
    show D - d ≤ (if d = D then 0 else 1000000) % 100 ∧ (if d = D then 0 else 1000000) % 100 ≤ 0 ∧ (if d = D then 0 else 1000000) / 100 ≤ 5 * (D - d)
    by_cases e : d = D
    · rw [if_pos e]; omega
    · rw [if_neg e] at hf; omega
  | succ r ih =>
    intro h d w hr hd hD hf
    by_cases e : d = D
    · change (if d = D then (if ex = true then 1000000 else 0) else minTo (optX L (vX L D ex r (h + 1)) h d w) 8) < 1000000 at hf
      show D - d ≤ (if d = D then (if ex = true then 1000000 else 0) else minTo (optX L (vX L D ex r (h + 1)) h d w) 8) % 100 ∧ (if d = D then (if ex = true then 1000000 else 0) else minTo (optX L (vX L D ex r (h + 1)) h d w) 8) % 100 ≤ r + 1 ∧ (if d = D then (if ex = true then 1000000 else 0) else minTo (optX L (vX L D ex r (h + 1)) h d w) 8) / 100 ≤ 5 * (D - d)
      rw [if_pos e] at hf ⊢
      cases ex with
      | true => rw [if_pos rfl] at hf; omega
      | false => rw [if_neg (fun z => by cases z)]; omega
    · rcases vX_step e hf with q | ⟨k, k1, k7, k6, q⟩
      · have := ih (h + 1) d (capW w) (by omega) hd hD (by omega)
        omega
      · have := ih (h + 1) (d + 1) 0 (by omega) (by omega) hD (by omega)
        have := hL d h w k
        omega
theorem vX_exact (hL : ∀ d h w k : Nat, L d h w k ≤ 6) : ∀ r h d w : Nat, r ≤ 48 → d ≤ D → D ≤ 8 → vX L D true r h d w < 1000000 → vX L D true r h d w % 100 = r := by
  intro r
  induction r with
  | zero =>
    intro h d w _ hd hD hf
    have := (vX_fin hL 0 h d w (by omega) hd hD hf).2.1
    omega
  | succ r ih =>
    intro h d w hr hd hD hf
    by_cases e : d = D
    · change (if d = D then (if true = true then 1000000 else 0) else minTo (optX L (vX L D true r (h + 1)) h d w) 8) < 1000000 at hf
      rw [if_pos e, if_pos rfl] at hf
      omega
    · rcases vX_step e hf with q | ⟨k, k1, k7, k6, q⟩
      · have h1 : vX L D true r (h + 1) d (capW w) < 1000000 := by omega
        have := ih (h + 1) d (capW w) (by omega) hd hD h1
        omega
      · have h1 : vX L D true r (h + 1) (d + 1) 0 < 1000000 := by omega
        have := ih (h + 1) (d + 1) 0 (by omega) (by omega) hD h1
        omega
theorem vX_le : ∀ r h d w : Nat, vX L D false r h d w ≤ vX L D true r h d w := by
  intro r
  induction r with
  | zero => intro h d w; exact Nat.le_refl _
  | succ r ih =>
    intro h d w
    by_cases e : d = D
    · show (if d = D then (if false = true then 1000000 else 0) else _) ≤ (if d = D then (if true = true then 1000000 else 0) else _)
      rw [if_pos e, if_pos e, if_neg (fun z => by cases z)]
      exact Nat.zero_le _
    · rw [vX_s e, vX_s e]
      refine minTo_mono 8 (fun k hk => ?_)
      unfold optX
      by_cases k0 : k = 0
      · rw [if_pos k0, if_pos k0]
        have := ih (h + 1) d (capW w)
        omega
      · rw [if_neg k0, if_neg k0]
        by_cases h6 : L d h w k = 6
        · rw [if_pos h6, if_pos h6]
          exact Nat.le_refl _
        · rw [if_neg h6, if_neg h6]
          have := ih (h + 1) (d + 1) 0
          omega
/-- the cheapest within r hours that takes r hours is the cheapest of r hours -/
theorem vX_same (hL : ∀ d h w k : Nat, L d h w k ≤ 6) : ∀ r h d w : Nat, r ≤ 48 → d ≤ D → D ≤ 8 → vX L D false r h d w < 1000000 → vX L D false r h d w % 100 = r → vX L D true r h d w = vX L D false r h d w := by
  intro r
  induction r with
  | zero => intro h d w _ _ _ _ _; rfl
  | succ r ih =>
    intro h d w hr hd hD hf hm
    refine Nat.le_antisymm ?_ (vX_le _ _ _ _)
    by_cases e : d = D
    · exfalso
      have : vX L D false (r + 1) h d w = 0 := by
        show (if d = D then (if false = true then 1000000 else 0) else _) = 0
        rw [if_pos e, if_neg (fun z => by cases z)]
      omega
    · rcases vX_step e hf with q | ⟨k, k1, k7, k6, q⟩
      · have h1 : vX L D false r (h + 1) d (capW w) < 1000000 := by omega
        have h2 := vX_fin hL r (h + 1) d (capW w) (by omega) hd hD h1
        have := ih (h + 1) d (capW w) (by omega) hd hD h1 (by omega)
        have := vX_wait (L := L) (ex := true) (r := r) (h := h) (w := w) e
        omega
      · have h1 : vX L D false r (h + 1) (d + 1) 0 < 1000000 := by omega
        have h2 := vX_fin hL r (h + 1) (d + 1) 0 (by omega) (by omega) hD h1
        have := ih (h + 1) (d + 1) 0 (by omega) (by omega) hD h1 (by omega)
        have := vX_knock (L := L) (ex := true) (r := r) (h := h) (w := w) e k1 k7 k6
        omega
/-- more hours: no dearer -/
theorem vX_more : ∀ r h d w : Nat, vX L D false (r + 1) h d w ≤ vX L D false r h d w := by
  intro r
  induction r with
  | zero =>
    intro h d w
    by_cases e : d = D
    · show (if d = D then (if false = true then 1000000 else 0) else _) ≤ _
      rw [if_pos e, if_neg (fun z => by cases z)]
      exact Nat.zero_le _
    · have : vX L D false 0 h d w = 1000000 := if_neg e
      rw [this]
      exact vX_M _ _ _ _ _
  | succ r ih =>
    intro h d w
    by_cases e : d = D
    · show (if d = D then (if false = true then 1000000 else 0) else _) ≤ _
      rw [if_pos e, if_neg (fun z => by cases z)]
      exact Nat.zero_le _
    · rw [vX_s e, vX_s e]
      refine minTo_mono 8 (fun k hk => ?_)
      unfold optX
      by_cases k0 : k = 0
      · rw [if_pos k0, if_pos k0]
        have := ih (h + 1) d (capW w)
        omega
      · rw [if_neg k0, if_neg k0]
        by_cases h6 : L d h w k = 6
        · rw [if_pos h6, if_pos h6]
          exact Nat.le_refl _
        · rw [if_neg h6, if_neg h6]
          have := ih (h + 1) (d + 1) 0
          omega
theorem vX_mono {r r' : Nat} (hr : r ≤ r') (h d w : Nat) : vX L D false r' h d w ≤ vX L D false r h d w := by
  induction r' with
  | zero =>
    have : r = 0 := by omega
    rw [this]
    exact Nat.le_refl _
  | succ k ih =>
    by_cases e : r = k + 1
    · rw [e]; exact Nat.le_refl _
    · exact Nat.le_trans (vX_more k h d w) (ih (by omega))
/-- the cheapest within r + 1 hours that takes fewer is the cheapest within r -/
theorem vX_less (hL : ∀ d h w k : Nat, L d h w k ≤ 6) : ∀ r h d w : Nat, r + 1 ≤ 48 → d ≤ D → D ≤ 8 → vX L D false (r + 1) h d w < 1000000 → vX L D false (r + 1) h d w % 100 ≤ r → vX L D false r h d w = vX L D false (r + 1) h d w := by
  intro r
  induction r with
  | zero =>
    intro h d w hr hd hD hf hm
    have h2 := vX_fin hL 1 h d w hr hd hD hf
    have hm' : vX L D false 1 h d w % 100 ≤ 0 := hm
    have e : d = D := by omega
    show (if d = D then 0 else 1000000) = (if d = D then (if false = true then 1000000 else 0) else _)
    rw [if_pos e, if_pos e, if_neg (fun z => by cases z)]
  | succ r ih =>
    intro h d w hr hd hD hf hm
    refine Nat.le_antisymm ?_ (vX_more _ _ _ _)
    by_cases e : d = D
    · show (if d = D then (if false = true then 1000000 else 0) else _) ≤ _
      rw [if_pos e, if_neg (fun z => by cases z)]
      exact Nat.zero_le _
    · rcases vX_step e hf with q | ⟨k, k1, k7, k6, q⟩
      · have h1 : vX L D false (r + 1) (h + 1) d (capW w) < 1000000 := by omega
        have h2 := vX_fin hL (r + 1) (h + 1) d (capW w) (by omega) hd hD h1
        have := ih (h + 1) d (capW w) (by omega) hd hD h1 (by omega)
        have := vX_wait (L := L) (ex := false) (r := r) (h := h) (w := w) e
        omega
      · have h1 : vX L D false (r + 1) (h + 1) (d + 1) 0 < 1000000 := by omega
        have h2 := vX_fin hL (r + 1) (h + 1) (d + 1) 0 (by omega) (by omega) hD h1
        have := ih (h + 1) (d + 1) 0 (by omega) (by omega) hD h1 (by omega)
        have := vX_knock (L := L) (ex := false) (r := r) (h := h) (w := w) e k1 k7 k6
        omega
/-- a door that never opens: no way -/
theorem vX_shut {ex : Bool} {d0 : Nat} (hd0 : d0 < D) (hs : ∀ h w k : Nat, 1 ≤ k → L d0 h w k = 6) : ∀ r h d w : Nat, d ≤ d0 → vX L D ex r h d w = 1000000 := by
  intro r
  induction r with
  | zero => intro h d w hd; exact if_neg (by omega)
  | succ r ih =>
    intro h d w hd
    have e : ¬ d = D := by omega
    by_cases hf : vX L D ex (r + 1) h d w < 1000000
    · exfalso
      rcases vX_step e hf with q | ⟨k, k1, k7, k6, q⟩
      · rw [ih (h + 1) d (capW w) hd] at q; omega
      · by_cases hdd : d = d0
        · exact k6 (by rw [hdd]; exact hs h w k k1)
        · rw [ih (h + 1) (d + 1) 0 (by omega)] at q; omega
    · have := vX_M (L := L) (D := D) ex (r + 1) h d w
      omega
/-- a door that does not look at waited -/
theorem vX_still {ex : Bool} {d : Nat} (hs : ∀ h w k : Nat, L d h w k = L d h 0 k) : ∀ r h w : Nat, vX L D ex r h d w = vX L D ex r h d 0 := by
  intro r
  induction r with
  | zero => intro h w; rfl
  | succ r ih =>
    intro h w
    by_cases e : d = D
    · show (if d = D then _ else _) = (if d = D then _ else _)
      rw [if_pos e, if_pos e]
    · rw [vX_s e, vX_s e]
      refine minTo_congr 8 (fun k hk => ?_)
      unfold optX
      rw [hs h w k, ih (h + 1) (capW w), ih (h + 1) (capW 0)]
/-- the least gift and the least knocks for it, as one number (8 none) -/
def entP (f : Nat → Nat) (e : Nat) : Prop := (e = 8 ∧ ∀ k : Nat, 1 ≤ k → k < 8 → f k = 6) ∨ ∃ g k : Nat, e = 8 * g + k ∧ g ≤ 5 ∧ 1 ≤ k ∧ k < 8 ∧ f k = g ∧ (∀ k' : Nat, 1 ≤ k' → k' < 8 → g ≤ f k') ∧ ∀ k' : Nat, 1 ≤ k' → k' < k → ¬ f k' = g
/-- the least cost by knocking, of the entry -/
def entV (X' : Nat) (e : Nat) : Nat := if e % 8 = 0 then 1000000 else if 1000000 ≤ X' then 1000000 else X' + 100 * (e / 8) + 1
theorem vX_ent {ex : Bool} {r h d w e : Nat} (hd : ¬ d = D) (he : entP (L d h w) e) (hb : vX L D ex r (h + 1) (d + 1) 0 < 1000000 → vX L D ex r (h + 1) (d + 1) 0 ≤ 5000) : vX L D ex (r + 1) h d w = (if vX L D ex r (h + 1) d (capW w) + 1 ≤ entV (vX L D ex r (h + 1) (d + 1) 0) e then (if vX L D ex r (h + 1) d (capW w) + 1 ≤ 1000000 then vX L D ex r (h + 1) d (capW w) + 1 else 1000000) else entV (vX L D ex r (h + 1) (d + 1) 0) e) := by
  have hM := vX_M (L := L) (D := D) ex (r + 1) h d w
  have hX := vX_M (L := L) (D := D) ex r (h + 1) (d + 1) 0
  have hw := vX_wait (L := L) (ex := ex) (r := r) (h := h) (w := w) hd
  have hlow : ∀ k : Nat, 1 ≤ k → k < 8 → ¬ L d h w k = 6 → entV (vX L D ex r (h + 1) (d + 1) 0) e ≤ vX L D ex r (h + 1) (d + 1) 0 + 100 * L d h w k + 1 := by
    intro k k1 k8 k6
    unfold entV
    rcases he with ⟨e8, z⟩ | ⟨g, k', e1, e2, e3, e4, e5, e6, e7⟩
    · exact absurd (z k k1 k8) k6
    · have := e6 k k1 k8
      have d1 : e / 8 = g := by omega
      have d2 : ¬ e % 8 = 0 := by omega
      rw [if_neg d2, d1]
      split <;> omega
  have hup : vX L D ex (r + 1) h d w ≤ entV (vX L D ex r (h + 1) (d + 1) 0) e := by
    unfold entV
    rcases he with ⟨e8, z⟩ | ⟨g, k', e1, e2, e3, e4, e5, e6, e7⟩
    · rw [if_pos (by omega)]; exact hM
    · have d1 : e / 8 = g := by omega
      have d2 : ¬ e % 8 = 0 := by omega
      rw [if_neg d2, d1]
      split
      · exact hM
      · have := vX_knock (L := L) (ex := ex) (r := r) (h := h) (w := w) hd e3 e4 (by omega)
        omega
  have hcap : entV (vX L D ex r (h + 1) (d + 1) 0) e ≤ 1000000 := by
    unfold entV
    rcases he with ⟨e8, z⟩ | ⟨g, k', e1, e2, e3, e4, e5, e6, e7⟩
    · rw [if_pos (by omega)]; exact Nat.le_refl _
    · split
      · exact Nat.le_refl _
      · split
        · exact Nat.le_refl _
        · have := hb (by omega)
          omega
  by_cases hf : vX L D ex (r + 1) h d w < 1000000
  · rcases vX_step hd hf with q | ⟨k, k1, k7, k6, q⟩
    · split
      · split <;> omega
      · omega
    · have := hlow k k1 k7 k6
      split
      · split <;> omega
      · omega
  · split
    · split <;> omega
    · omega
end
