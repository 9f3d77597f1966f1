/-! what is learnt of the rules -/
def pI (nd r dd ll : Nat) : Nat := ((r * nd + dd) * 10 + ll) * 24
def tabOK (V : oV) (c : jS) (y32 : Nat → Int64) (nd : Nat) (told : Int32) : Prop := ∀ r dd ll : Nat, (r : Int) < told.toInt → dd < nd → ll ≤ 9 → jz (c.1 (2 + 4 * r) 6) = true → ¬ y32 (pI nd r dd ll) = 0 → ∀ h w : Nat, h < 24 → w ≤ 9 → (w = 0 ∨ lk (c.1 (2 + 4 * r) 5) 6) → entP (lgV V (Int32.ofNat r) ll dd h w) (exI (y32 (pI nd r dd ll + h)) (Int32.ofNat w)).toInt.toNat
theorem tab_c {V : oV} {c c' : jS} {y32 : Nat → Int64} {nd : Nat} {told : Int32} {z3 : Nat → Int32} (h : tabOK V c y32 nd told) (h1 : rTexts jText told c.1 z3) (h2 : rTexts jText told c'.1 z3) : tabOK V c' y32 nd told := by
  intro r dd ll a1 a2 a3 a4 a5 hh w a6 a7 a8
  have hs := looks_same (h1 r a1) (h2 r a1)
  exact h r dd ll a1 a2 a3 (hs.1.mpr a4) a5 _ w a6 a7 (by
    rcases a8 with q | q
    · exact Or.inl q
    · exact Or.inr ((hs.2 (hs.1.mpr a4) 6 (by decide)).mpr q))
theorem pI_lt {nd r dd ll : Nat} (hr : r < 4) (hd : dd < nd) (hl : ll ≤ 9) : pI nd r dd ll + 23 < 960 * nd := by
  unfold pI
  have : r * nd ≤ 3 * nd := Nat.mul_le_mul_right _ (by omega)
  omega
theorem pI_inj {nd r dd ll r' dd' ll' : Nat} (hd : dd < nd) (hl : ll ≤ 9) (hd' : dd' < nd) (hl' : ll' ≤ 9) (e : (r * nd + dd) * 10 + ll = (r' * nd + dd') * 10 + ll') : r = r' ∧ dd = dd' ∧ ll = ll' := by
  have h1 : r * nd + dd = r' * nd + dd' := by omega
  have hr : r = r' := by
    have a1 : (r * nd + dd) / nd = r := by rw [Nat.mul_comm, Nat.mul_add_div (by omega), Nat.div_eq_of_lt hd]; rfl
    have a2 : (r' * nd + dd') / nd = r' := by rw [Nat.mul_comm, Nat.mul_add_div (by omega), Nat.div_eq_of_lt hd']; rfl
    rw [← a1, h1, a2]
  subst hr
  exact ⟨rfl, by omega, by omega⟩
theorem lgF_congr {p q : Nat → Bool} (h : ∀ g : Nat, g ≤ 5 → p g = q g) : lgF p = lgF q := by
  unfold lgF
  rw [h 0 (by decide), h 1 (by decide), h 2 (by decide), h 3 (by decide), h 4 (by decide), h 5 (by decide)]
theorem entP_congr {f f' : Nat → Nat} {e : Nat} (h : ∀ k : Nat, 1 ≤ k → k < 8 → f k = f' k) (he : entP f e) : entP f' e := by
  rcases he with ⟨h1, h2⟩ | ⟨g, k, h1, h2, h3, h4, h5, h6, h7⟩
  · exact Or.inl ⟨h1, fun k k1 k2 => by rw [← h k k1 k2]; exact h2 k k1 k2⟩
  · exact Or.inr ⟨g, k, h1, h2, h3, h4, by rw [← h k h3 h4]; exact h5, fun k' a1 a2 => by rw [← h k' a1 a2]; exact h6 k' a1 a2, fun k' a1 a2 => by rw [← h k' a1 (by omega)]; exact h7 k' a1 a2⟩
/-- the place of a rule's hours -/
def plI (nd : Nat) (x5 : Int32) (r d l : Nat) : Nat := pI nd r (if (x5 &&& (9 : Int32)) = 0 then 0 else d) (if (x5 &&& (128 : Int32)) = 0 then 0 else l)
theorem plI_rng {nd : Nat} {x5 : Int32} {r d l : Nat} (hd : d < nd) (hl : l ≤ 9) : (if (x5 &&& (9 : Int32)) = 0 then 0 else d) < nd ∧ (if (x5 &&& (128 : Int32)) = 0 then 0 else l) ≤ 9 := by
  constructor <;> split <;> omega
theorem place51 {v1 v5 k0 : Int32} {s : jS} {nd r d l : Nat} (hnd : nd ≤ 8) (hN : (s.1 29 0).toInt = nd) (e1 : v1.toInt = r) (e2 : v5.toInt = d) (e3 : k0.toInt = l) (hr : r < 4) (hd : d < nd) (hl : l ≤ 9) : ∃ p, J_X3_placeOf_51 v1 v5 k0 s = some p ∧ p.toInt = (pI nd r d l : Nat) := by
  have l24 : (24 : Int32).toInt = 24 := rfl
  have l10 : (10 : Int32).toInt = 10 := rfl
  have hrn : r * nd ≤ 3 * nd := Nat.mul_le_mul_right _ (by omega)
  have hm : v1.toInt * (s.1 29 0).toInt = ((r * nd : Nat) : Int) := by rw [e1, hN]; exact (Int.natCast_mul r nd).symm
  have m1 : (v1 * (s.1 29 0)).toInt = ((r * nd : Nat) : Int) := by rw [i32_mul (by rw [hm]; omega) (by rw [hm]; omega), hm]
  obtain ⟨x1, hx1⟩ : ∃ x, v1 * (s.1 29 0) = x := ⟨_, rfl⟩
  rw [hx1] at m1
  have m2 : (x1 + v5).toInt = ((r * nd + d : Nat) : Int) := by rw [i32_add (by omega) (by omega)]; omega
  obtain ⟨x2, hx2⟩ : ∃ x, x1 + v5 = x := ⟨_, rfl⟩
  rw [hx2] at m2
  have m3 : (x2 * 10).toInt = x2.toInt * 10 := i32_mulR rfl (by omega) (by omega)
  obtain ⟨x3, hx3⟩ : ∃ x, x2 * 10 = x := ⟨_, rfl⟩
  rw [hx3] at m3
  have m4 : (x3 + k0).toInt = (((r * nd + d) * 10 + l : Nat) : Int) := by rw [i32_add (by omega) (by omega)]; omega
  obtain ⟨x4, hx4⟩ : ∃ x, x3 + k0 = x := ⟨_, rfl⟩
  rw [hx4] at m4
  have m5 : (x4 * 24).toInt = x4.toInt * 24 := i32_mulR rfl (by omega) (by omega)
  refine ⟨x4 * 24, by unfold J_X3_placeOf_51; rw [hx1, hx2, hx3, hx4], ?_⟩
  rw [m5, m4]
  unfold pI
  omega
theorem placeOf_is {v1 v2 v3 : Int32} {s : jS} {nd r d l : Nat} (hnd : nd ≤ 8) (hN : (s.1 29 0).toInt = nd) (e1 : v1.toInt = r) (e2 : v2.toInt = d) (e3 : v3.toInt = l) (hr : r < 4) (hd : d < nd) (hl : l ≤ 9) : ∃ p, F_X3_placeOf v1 v2 v3 s = some p ∧ p.toInt = (plI nd (s.1 (2 + 4 * r) 5) r d l : Nat) := by
  have l0 : (0 : Int32).toInt = 0 := rfl
  have l4 : (4 : Int32).toInt = 4 := rfl
  have h35 : ∀ (v4 : Int32) (k0 : Int32) (dd : Nat), k0.toInt = dd → dd < nd → ∃ p, J_X3_placeOf_35 v1 v3 v4 k0 s = some p ∧ p.toInt = (pI nd r dd (if (v4 &&& (128 : Int32)) = 0 then 0 else l) : Nat) := by
    intro v4 k0 dd a1 a2
    unfold J_X3_placeOf_35
    by_cases z : (v4 &&& (128 : Int32)) = 0
    · rw [if_pos z, if_pos z]
      exact place51 hnd hN e1 a1 (k0 := 0) (l := 0) l0 hr a2 (by omega)
    · rw [if_neg z, if_neg z]
      exact place51 hnd hN e1 a1 e3 hr a2 hl
  unfold F_X3_placeOf plI
  rw [if_neg (fun z => by have := i32_lt.mp z; omega), if_pos (i32_lt.mpr (by omega)), if_pos (jin_val e1 hr), nat_val e1]
  by_cases z : ((s.1 (2 + 4 * r) 5) &&& (9 : Int32)) = 0
  · rw [if_pos z, if_pos z]
    exact h35 _ 0 0 l0 (by omega)
  · rw [if_neg z, if_neg z]
    exact h35 _ v2 d e2 hd
section
variable {n : Nat} {c m : jS} {t : Nat}
theorem lgV_same (hn : 400000 ≤ n) (h : asksR c m) (ht : t < 4) (htold : (t : Int) < (c.1 18 7).toInt) (hop : jz (c.1 (2 + 4 * t) 6) = true) {d1 h1 l1 w d2 h2 l2 k : Nat} (a1 : d1 < 8) (a2 : h1 < 24) (a3 : l1 ≤ 9) (a4 : w ≤ 9) (a6 : k ≤ 7) (b1 : d2 < 8) (b2 : h2 < 24) (b3 : l2 ≤ 9)
    (e0 : d1 = d2 ∨ (¬ lk (c.1 (2 + 4 * t) 5) 0 ∧ ¬ lk (c.1 (2 + 4 * t) 5) 3)) (e1 : h1 = h2 ∨ (¬ lk (c.1 (2 + 4 * t) 5) 1 ∧ ¬ lk (c.1 (2 + 4 * t) 5) 2)) (e7 : l1 = l2 ∨ ¬ lk (c.1 (2 + 4 * t) 5) 7) :
    lgV (opV n (c.1 19) (c.1 20) (m.1 3)) (Int32.ofNat t) l1 d1 h1 w k = lgV (opV n (c.1 19) (c.1 20) (m.1 3)) (Int32.ofNat t) l2 d2 h2 w k :=
  lgF_congr (fun g hg => sr_same hn h ht htold hop a1 a2 a3 a4 hg a6 b1 b2 b3 a4 hg a6 e0 e1 (Or.inl rfl) (Or.inl rfl) (Or.inl rfl) e7)
/-- what learning changes -/
def lnM (s s' : jS) : Prop := (∀ k : Nat, ¬ k = 29 → ¬ k = 30 → ¬ k = 31 → s'.1 k = s.1 k) ∧ (∀ j : Nat, ¬ j = 6 → s'.1 29 j = s.1 29 j) ∧ ∀ k : Nat, ¬ k = 32 → s'.2 k = s.2 k
theorem lnM_rfl {s : jS} : lnM s s := ⟨fun _ _ _ _ => rfl, fun _ _ => rfl, fun _ _ => rfl⟩
theorem lnM_tr {a b c : jS} (h1 : lnM a b) (h2 : lnM b c) : lnM a c := ⟨fun k a1 a2 a3 => (h2.1 k a1 a2 a3).trans (h1.1 k a1 a2 a3), fun j a1 => (h2.2.1 j a1).trans (h1.2.1 j a1), fun k a1 => (h2.2.2 k a1).trans (h1.2.2 k a1)⟩
theorem asksR_l {s s' : jS} (h : asksR s m) (g : lnM s s') : asksR s' m := by
  obtain ⟨h1, h2, h3, h4⟩ := h
  have e18 : s'.1 18 = s.1 18 := g.1 18 (by decide) (by decide) (by decide)
  refine ⟨fun r hr => ?_, by rw [e18]; exact h2, by rw [g.1 19 (by decide) (by decide) (by decide)]; exact h3, by rw [g.1 20 (by decide) (by decide) (by decide)]; exact h4⟩
  rw [e18] at hr
  have := h1 r hr
  rw [g.1 _ (by omega) (by omega) (by omega), g.1 _ (by omega) (by omega) (by omega), g.1 _ (by omega) (by omega) (by omega), g.1 _ (by omega) (by omega) (by omega)]
  exact this
/-- one hour learnt -/
theorem learn118 (hn : 400000 ≤ n) (h : asksR c m) (ht : t < 4) (htold : (t : Int) < (c.1 18 7).toInt) (hop : jz (c.1 (2 + 4 * t) 6) = true) {nd d hh l p : Nat} {v2 v3 v4 v7 : Int32} {v6 : Bool} (hd8 : nd ≤ 8) (hd : d < nd) (hh24 : hh < 24) (hl : l ≤ 9) (e2 : v2.toInt = d) (e3 : v3.toInt = l) (e4 : v4.toInt = p) (e7 : v7.toInt = hh) (hp : p + 23 < 960 * nd) {s : jS} (hs : ∀ k : Nat, ¬ k = 30 → ¬ k = 31 → s.1 k = c.1 k) :
    ∃ s' y v7', J_X3_learn_118 nd n v2 v3 v4 t v6 v7 s = some (.inl (v7', s')) ∧ v7'.toInt = ((hh + 1 : Nat) : Int) ∧ (∀ k : Nat, ¬ k = 30 → ¬ k = 31 → s'.1 k = c.1 k) ∧ (∀ k : Nat, ¬ k = 32 → s'.2 k = s.2 k) ∧ s'.2 32 = vp_updL (s.2 32) (p + hh) y ∧ ¬ y = 0 ∧ ∀ w : Nat, w ≤ 9 → (w = 0 ∨ lk (c.1 (2 + 4 * t) 5) 6) → entP (lgV (opV n (c.1 19) (c.1 20) (m.1 3)) (Int32.ofNat t) l d hh w) (exI y (Int32.ofNat w)).toInt.toNat := by
  have l1 : (1 : Int32).toInt = 1 := rfl
  have f2 : v2 = Int32.ofNat d := i32_eq.mpr (by rw [ofNat_int (by omega)]; exact e2)
  have f3 : v3 = Int32.ofNat l := i32_eq.mpr (by rw [ofNat_int (by omega)]; exact e3)
  have f7 : v7 = Int32.ofNat hh := i32_eq.mpr (by rw [ofNat_int (by omega)]; exact e7)
  have hfc := face_is (d := v2) (h := v7) (l := v3) (s := s) (by omega) (by omega) (by omega) (by omega)
  obtain ⟨s1, hs1⟩ : ∃ x, upI (upI (upI (upI (upI s 30 0 v2) 30 1 v7) 30 2 (s.1 19 v7.toNatClampNeg)) 30 3 (s.1 20 v2.toNatClampNeg)) 30 7 v3 = x := ⟨_, rfl⟩
  rw [hs1] at hfc
  have hn1 : nmS c (Int32.ofNat d) (Int32.ofNat hh) (Int32.ofNat l) s1 := by
    rw [← hs1]
    refine ⟨fun k a1 a2 => ?_, fun j a1 a2 a3 a4 => ?_⟩
    · simp only [upI_1, if_neg a1]
      exact hs k a1 a2
    · have h19 : s.1 19 = c.1 19 := hs 19 (by decide) (by decide)
      have h20 : s.1 20 = c.1 20 := hs 20 (by decide) (by decide)
      rw [h19, h20, f2, f7, f3]
      have : j = 0 ∨ j = 1 ∨ j = 2 ∨ j = 3 ∨ j = 7 := by omega
      rcases this with rfl | rfl | rfl | rfl | rfl <;> rfl
  obtain ⟨y, s2, r1, r2, r3, r4, r5⟩ := searched_is hn h ht htold hop (dN := d) (hN := hh) (lN := l) (by omega) hh24 hl hn1
  obtain ⟨q, hq⟩ : ∃ q, v4 + v7 = q := ⟨_, rfl⟩
  have hqv : q.toInt = ((p + hh : Nat) : Int) := by rw [← hq, i32_add (by omega) (by omega)]; omega
  refine ⟨upL s2 32 (p + hh) y, y, v7 + 1, ?_, by rw [i32_add (by omega) (by omega)]; omega, r2.1, fun k hk => ?_, ?_, r4, r5⟩
  · unfold J_X3_learn_118
    rw [hfc, Option.bind_some, r1, Option.bind_some, hq, if_pos (jin_val hqv (by omega)), jl_1, nat_val hqv]
  · rw [upL_2, if_neg hk, r3, ← hs1]
    rfl
  · rw [upL_2, if_pos rfl, r3, ← hs1]
    rfl
end
