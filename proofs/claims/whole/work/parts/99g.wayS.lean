/-! the class's cheapest way -/
/-- ready to ask for ways by the rules of row R -/
def rdy (n : Nat) (s m : jS) (nd l : Nat) (free : Nat → Bool) (ρ : Nat → Int32) (R : Nat) : Prop := asksR s m ∧ (1 ≤ nd ∧ nd ≤ 8) ∧ s.1 29 0 = Int32.ofNat nd ∧ s.1 33 4 = Int32.ofNat nd ∧ l ≤ 9 ∧ (∀ d : Nat, d < nd → s.1 R d = ρ d) ∧ (∀ d : Nat, d < nd → -1 ≤ (ρ d).toInt ∧ (ρ d).toInt < (s.1 18 7).toInt) ∧ (∀ d : Nat, d < nd → free d = false → 0 ≤ (ρ d).toInt → tabOK (opV n (s.1 19) (s.1 20) (m.1 3)) s (s.2 32) nd (s.1 18 7)) ∧ ∀ d : Nat, d < nd → free d = false → ∀ t : Nat, (ρ d).toInt = t → jz (s.1 (2 + 4 * t) 6) = true → ¬ s.2 32 (plI nd (s.1 (2 + 4 * t) 5) t d l) = 0
theorem wyM_cp {s s' : jS} (h : cpM s s') : wyM s s' := ⟨fun k hk => h.1 k (by omega) (by omega), fun j _ _ => by rw [h.1 33 (by decide) (by decide)], h.2⟩
theorem wyM_33 {s s' : jS} (h : wyM s s') (x : Int32) : wyM s (upI s' 33 11 x) := ⟨fun k hk => by rw [upI_1, if_neg (by omega)]; exact h.1 k hk, fun j j1 j2 => by rw [upI_1, if_pos rfl, upd_ne j2]; exact h.2.1 j j1 j2, h.2.2⟩
/-- what the class's cost says -/
theorem cost_is {L : Nat → Nat → Nat → Nat → Nat} (hL : ∀ d h w k : Nat, L d h w k ≤ 6) {nd N P : Nat} {x v6 : Int32} (hnd : nd ≤ 8) (hN : N ≤ 48) (hx : x.toInt = (convY 0 (vX L nd false N 0 0 0) : Nat)) (hv : v6.toInt = P) (hP : P ≤ 99) : (aff L nd false N P → ¬ (1048576 : Int32) ≤ x ∧ ¬ v6 < x >>> ((6 : Int32) &&& 31)) ∧ (¬ aff L nd false N P → v6 < x >>> ((6 : Int32) &&& 31)) ∧ (¬ vX L nd false N 0 0 0 < 1000000 → (1048576 : Int32) ≤ x) ∧ (vX L nd false N 0 0 0 < 1000000 → ¬ (1048576 : Int32) ≤ x) := by
  have lV : (1048576 : Int32).toInt = 1048576 := rfl
  have hM := vX_M (L := L) (D := nd) false N 0 0 0
  have hF := fun hf => vX_fin hL (ex := false) N 0 0 0 hN (Nat.zero_le _) hnd hf
  unfold aff
  obtain ⟨X, hX⟩ : ∃ X, vX L nd false N 0 0 0 = X := ⟨_, rfl⟩
  rw [hX] at hx hM hF ⊢
  have hc : convY 0 X = if 1000000 ≤ X then 1048576 else 64 * (X / 100) + 0 + X % 100 := rfl
  by_cases z : X < 1000000
  · have hf := hF z
    rw [if_neg (by omega)] at hc
    have hxv : x = Int32.ofNat (64 * (X / 100) + X % 100) := i32_eq.mpr (by rw [ofNat_int (by omega), hx, hc]; omega)
    have hb := (cost_bits (64 * (X / 100) + X % 100) (by omega)).1
    rw [← hxv] at hb
    have hb' : (x >>> ((6 : Int32) &&& 31)).toInt = ((X / 100 : Nat) : Int) := by rw [hb]; omega
    have hnx : ¬ (1048576 : Int32) ≤ x := fun y => by have := i32_le.mp y; rw [hx, hc] at this; omega
    refine ⟨fun a => ⟨hnx, fun y => ?_⟩, fun a => ?_, fun y => absurd z y, fun _ => hnx⟩
    · have := i32_lt.mp y
      have := a.2
      omega
    · refine i32_lt.mpr ?_
      have : ¬ X / 100 ≤ P := fun y => a ⟨z, y⟩
      omega
  · rw [if_pos (by omega)] at hc
    have hxv : x = 1048576 := i32_eq.mpr (by rw [hx, hc]; rfl)
    refine ⟨fun a => absurd a.1 z, fun _ => ?_, fun _ => by rw [hxv]; exact i32_le.mpr (Int.le_refl _), fun y => absurd y z⟩
    rw [hxv]
    refine i32_lt.mpr ?_
    have : ((1048576 : Int32) >>> ((6 : Int32) &&& 31)).toInt = 16384 := by decide
    omega
theorem findCheapest21_is {n : Nat} (hn : 400000 ≤ n) {s m : jS} {nd l H N P : Nat} {v2 v3 v4 v5 v6 : Int32} {free : Nat → Bool} {ρ : Nat → Int32} (hr : rdy n s m nd l free ρ 21) (e2 : v2.toInt = l) (e4 : v4.toInt = H) (hH : H < 24) (e5 : v5.toInt = N) (hN1 : 1 ≤ N) (hN : N ≤ 48) (e6 : v6.toInt = P) (hP : P ≤ 99) (hf : ∀ d : Nat, d < nd → (free d = true ↔ (jz (s.1 22 d) = true ∨ F_X8_hasKey v3 (Int32.ofNat d) = true))) :
    ∃ b s', F_X7_findCheapest_21 nd n v2 v3 v4 v5 v6 s = some (b, s') ∧ wyM s s' ∧ ((b = true ∧ aff (sL (opV n (s.1 19) (s.1 20) (m.1 3)) free ρ l H) nd false N P ∧ (∃ mo, clsE (sL (opV n (s.1 19) (s.1 20) (m.1 3)) free ρ l H) mo nd H s') ∧ toldC (sL (opV n (s.1 19) (s.1 20) (m.1 3)) free ρ l H) nd N s') ∨ (b = false ∧ ¬ aff (sL (opV n (s.1 19) (s.1 20) (m.1 3)) free ρ l H) nd false N P)) := by
  obtain ⟨ha, ⟨hnd1, hnd⟩, h29, h33, hl, hρ, hrr, hst, hln⟩ := hr
  have hndI : (Int32.ofNat nd).toInt = nd := ofNat_int (by omega)
  obtain ⟨L, hLe⟩ : ∃ L, sL (opV n (s.1 19) (s.1 20) (m.1 3)) free ρ l H = L := ⟨_, rfl⟩
  have hL : ∀ d h w k : Nat, L d h w k ≤ 6 := by rw [← hLe]; exact sL_le
  obtain ⟨b, s1, p1, p2, p3⟩ := canPass21_is hn hnd h29 h33 hl e2 ha.2.1 hρ hrr hf
  rcases p3 with ⟨hb, hcp⟩ | ⟨hb, d0, c1, c2, c3⟩
  · subst hb
    have hw2 : wyM s (upI s1 33 11 v4) := wyM_33 (wyM_cp p2) v4
    have h334 : s1.1 33 4 = Int32.ofNat nd := by rw [p2.1 33 (by decide) (by decide)]; exact h33
    have hE := cls_of hn ha (s' := upI s1 33 11 v4) hnd hl hH hrr hst hln (by rw [upI_1, if_pos rfl, upd_ne (by decide), h334]; exact hndI) (by rw [upI_1, if_pos rfl, upd_eq rfl]; exact e4) p2.2 hcp
    rw [hLe] at hE ⊢
    obtain ⟨x, s3, q1, q2, q3, q4⟩ := cheapest_is hn hL e5 hN1 hN hnd1 hE
    have hE3 := clsE_c hE q2
    have hw3 : wyM s s3 := wyM_tr hw2 (wyM_c q2)
    obtain ⟨k1, k2, k3, k4⟩ := cost_is hL hnd hN q3 e6 hP
    by_cases hA : aff L nd false N P
    · obtain ⟨k5, k6⟩ := k1 hA
      obtain ⟨s4, w1, w2, w3, w4⟩ := walk_is hn hL q3 hN hE3 hA.1 q4
      refine ⟨true, s4, ?_, wyM_tr hw3 w2, Or.inl ⟨rfl, hA, ⟨_, w3⟩, w4⟩⟩
      unfold F_X7_findCheapest_21
      rw [p1, Option.bind_some, if_pos rfl, jl_1, q1, Option.bind_some, if_neg k5, if_neg k6]
      unfold J_X7_findCheapest_21_48
      rw [if_pos rfl, w1, Option.bind_some]
    · have h48 : ∀ y : Int32, J_X7_findCheapest_21_47 nd n y s3 = some (false, s3) := by
        intro y
        unfold J_X7_findCheapest_21_47 J_X7_findCheapest_21_48
        rw [if_neg (fun z => by cases z)]
      refine ⟨false, s3, ?_, hw3, Or.inr ⟨rfl, hA⟩⟩
      unfold F_X7_findCheapest_21
      rw [p1, Option.bind_some, if_pos rfl, jl_1, q1, Option.bind_some]
      by_cases z : (1048576 : Int32) ≤ x
      · rw [if_pos z, h48]
      · rw [if_neg z, if_pos (k2 hA), h48]
  · subst hb
    refine ⟨false, s1, ?_, wyM_cp p2, Or.inr ⟨rfl, fun hA => ?_⟩⟩
    · unfold F_X7_findCheapest_21
      rw [p1, Option.bind_some, if_neg (fun z => by cases z)]
    · have h6 : ∀ h w k : Nat, w ≤ 9 → 1 ≤ k → k < 8 → L d0 h w k = 6 := by
        intro h w k a1 a2 a3
        rw [← hLe]
        unfold sL
        rw [if_neg (by rw [c2]; exact fun z => by cases z)]
        by_cases z : (ρ d0).toInt < 0
        · rw [if_pos z]
        · rw [if_neg z]
          exact shut_is hn ha (hrr d0 c1) c3 (by omega) (Nat.mod_lt _ (by decide)) hl a1 (by omega)
      rw [hLe] at hA
      have := vX_sht (ex := false) c1 h6 N 0 0 0 (Nat.zero_le _) (by omega)
      have := hA.1
      omega
theorem findCheapest52_is {n : Nat} (hn : 400000 ≤ n) {s m : jS} {nd l H N P : Nat} {v2 v3 v4 v5 v6 : Int32} {free : Nat → Bool} {ρ : Nat → Int32} (hr : rdy n s m nd l free ρ 52) (e2 : v2.toInt = l) (e4 : v4.toInt = H) (hH : H < 24) (e5 : v5.toInt = N) (hN1 : 1 ≤ N) (hN : N ≤ 48) (e6 : v6.toInt = P) (hP : P ≤ 99) (hf : ∀ d : Nat, d < nd → (free d = true ↔ (jz (s.1 22 d) = true ∨ F_X8_hasKey v3 (Int32.ofNat d) = true))) :
    ∃ b s', F_X7_findCheapest_52 nd n v2 v3 v4 v5 v6 s = some (b, s') ∧ wyM s s' ∧ ((b = true ∧ aff (sL (opV n (s.1 19) (s.1 20) (m.1 3)) free ρ l H) nd false N P ∧ (∃ mo, clsE (sL (opV n (s.1 19) (s.1 20) (m.1 3)) free ρ l H) mo nd H s') ∧ toldC (sL (opV n (s.1 19) (s.1 20) (m.1 3)) free ρ l H) nd N s') ∨ (b = false ∧ ¬ aff (sL (opV n (s.1 19) (s.1 20) (m.1 3)) free ρ l H) nd false N P)) := by
  obtain ⟨ha, ⟨hnd1, hnd⟩, h29, h33, hl, hρ, hrr, hst, hln⟩ := hr
  have hndI : (Int32.ofNat nd).toInt = nd := ofNat_int (by omega)
  obtain ⟨L, hLe⟩ : ∃ L, sL (opV n (s.1 19) (s.1 20) (m.1 3)) free ρ l H = L := ⟨_, rfl⟩
  have hL : ∀ d h w k : Nat, L d h w k ≤ 6 := by rw [← hLe]; exact sL_le
  obtain ⟨b, s1, p1, p2, p3⟩ := canPass52_is hn hnd h29 h33 hl e2 ha.2.1 hρ hrr hf
  rcases p3 with ⟨hb, hcp⟩ | ⟨hb, d0, c1, c2, c3⟩
  · subst hb
    have hw2 : wyM s (upI s1 33 11 v4) := wyM_33 (wyM_cp p2) v4
    have h334 : s1.1 33 4 = Int32.ofNat nd := by rw [p2.1 33 (by decide) (by decide)]; exact h33
    have hE := cls_of hn ha (s' := upI s1 33 11 v4) hnd hl hH hrr hst hln (by rw [upI_1, if_pos rfl, upd_ne (by decide), h334]; exact hndI) (by rw [upI_1, if_pos rfl, upd_eq rfl]; exact e4) p2.2 hcp
    rw [hLe] at hE ⊢
    obtain ⟨x, s3, q1, q2, q3, q4⟩ := cheapest_is hn hL e5 hN1 hN hnd1 hE
    have hE3 := clsE_c hE q2
    have hw3 : wyM s s3 := wyM_tr hw2 (wyM_c q2)
    obtain ⟨k1, k2, k3, k4⟩ := cost_is hL hnd hN q3 e6 hP
    by_cases hA : aff L nd false N P
    · obtain ⟨k5, k6⟩ := k1 hA
      obtain ⟨s4, w1, w2, w3, w4⟩ := walk_is hn hL q3 hN hE3 hA.1 q4
      refine ⟨true, s4, ?_, wyM_tr hw3 w2, Or.inl ⟨rfl, hA, ⟨_, w3⟩, w4⟩⟩
      unfold F_X7_findCheapest_52
      rw [p1, Option.bind_some, if_pos rfl, jl_1, q1, Option.bind_some, if_neg k5, if_neg k6]
      unfold J_X7_findCheapest_52_48
      rw [if_pos rfl, w1, Option.bind_some]
    · have h48 : ∀ y : Int32, J_X7_findCheapest_52_47 nd n y s3 = some (false, s3) := by
        intro y
        unfold J_X7_findCheapest_52_47 J_X7_findCheapest_52_48
        rw [if_neg (fun z => by cases z)]
      refine ⟨false, s3, ?_, hw3, Or.inr ⟨rfl, hA⟩⟩
      unfold F_X7_findCheapest_52
      rw [p1, Option.bind_some, if_pos rfl, jl_1, q1, Option.bind_some]
      by_cases z : (1048576 : Int32) ≤ x
      · rw [if_pos z, h48]
      · rw [if_neg z, if_pos (k2 hA), h48]
  · subst hb
    refine ⟨false, s1, ?_, wyM_cp p2, Or.inr ⟨rfl, fun hA => ?_⟩⟩
    · unfold F_X7_findCheapest_52
      rw [p1, Option.bind_some, if_neg (fun z => by cases z)]
    · have h6 : ∀ h w k : Nat, w ≤ 9 → 1 ≤ k → k < 8 → L d0 h w k = 6 := by
        intro h w k a1 a2 a3
        rw [← hLe]
        unfold sL
        rw [if_neg (by rw [c2]; exact fun z => by cases z)]
        by_cases z : (ρ d0).toInt < 0
        · rw [if_pos z]
        · rw [if_neg z]
          exact shut_is hn ha (hrr d0 c1) c3 (by omega) (Nat.mod_lt _ (by decide)) hl a1 (by omega)
      rw [hLe] at hA
      have := vX_sht (ex := false) c1 h6 N 0 0 0 (Nat.zero_le _) (by omega)
      have := hA.1
      omega
