/-! the reference follows its table; cheapest, soonest -/
section
variable {n : Nat} {V : oV} {told : Int32} {nd : Nat} {a z3 : Nat → Int32} {v l H : Nat} {ky : Int32} {ρ : Nat → Int32} {lo hi : Nat}
def oM (m m' : jS) : Prop := (∀ k : Nat, ¬ k = 0 → ¬ k = 6 → ¬ k = 8 → ¬ k = 11 → ¬ k = 12 → ¬ k = 13 → ¬ k = 14 → m'.1 k = m.1 k) ∧ (∀ j : Nat, ¬ j = 31 → m'.1 0 j = m.1 0 j) ∧ ∀ k : Nat, ¬ k = 7 → m'.2 k = m.2 k
theorem oM_rfl {m : jS} : oM m m := ⟨fun _ _ _ _ _ _ _ _ => rfl, fun _ _ => rfl, fun _ _ => rfl⟩
theorem oM_tr {a b c : jS} (h1 : oM a b) (h2 : oM b c) : oM a c := ⟨fun k a1 a2 a3 a4 a5 a6 a7 => (h2.1 k a1 a2 a3 a4 a5 a6 a7).trans (h1.1 k a1 a2 a3 a4 a5 a6 a7), fun j a1 => (h2.2.1 j a1).trans (h1.2.1 j a1), fun k a1 => (h2.2.2 k a1).trans (h1.2.2 k a1)⟩
theorem oM_t {m m' : jS} (h : tM m m') : oM m m' := ⟨fun k a1 a2 a3 a4 a5 _ _ => h.1 k a2 a3 a4 a5, fun j _ => by rw [h.1 0 (by decide) (by decide) (by decide) (by decide)], h.2⟩
theorem goerR_r {m : jS} (h : goerR n V told nd a z3 v l H ky ρ lo hi m) {k : Nat} (hk : k = 13 ∨ k = 14) (j : Nat) (x : Int32) : goerR n V told nd a z3 v l H ky ρ lo hi (upI m k j x) := goerR_s h (fun i hi => by rw [upI_1, if_neg (by omega)]) (cOK_s h.2.2.2.2.2.2.2.2.2.2 (by rw [upI_1, if_neg (by omega)]) (by rw [upI_1, if_neg (by omega)]))
/-- frames while the way is followed -/
def fwM (m m' : jS) : Prop := (∀ k : Nat, ¬ k = 6 → ¬ k = 8 → ¬ k = 11 → ¬ k = 13 → ¬ k = 14 → m'.1 k = m.1 k) ∧ ∀ k : Nat, ¬ k = 7 → m'.2 k = m.2 k
theorem fwM_g {a b c : jS} (h1 : fwM a b) (h2 : gM b c) : fwM a c := ⟨fun k a1 a2 a3 a4 a5 => (h2.1 k a1 a2 a3).trans (h1.1 k a1 a2 a3 a4 a5), fun k a1 => (h2.2 k a1).trans (h1.2 k a1)⟩
theorem fwM_r {m m' : jS} (h : fwM m m') {k : Nat} (hk : k = 13 ∨ k = 14) (j : Nat) (x : Int32) : fwM m (upI m' k j x) := ⟨fun i a1 a2 a3 a4 a5 => by rw [upI_1, if_neg (by omega)]; exact h.1 i a1 a2 a3 a4 a5, h.2⟩
theorem follow_is (hn : 400000 ≤ n) {m : jS} (hG : goerR n V told nd a z3 v l H ky ρ lo hi m) {v1 : Int32} {ex : Bool} {N : Nat} (e1 : v1.toInt = v) (hnd : nd ≤ 8) (hN : N ≤ 48)
    (hc : ∀ h d w : Nat, h ≤ N → d ≤ nd → w < 10 → cellOK (sL V (freeB a ky) ρ l H) nd ex N m h d w) (hf : vX (sL V (freeB a ky) ρ l H) nd ex N 0 0 0 < 1000000) :
    ∃ m', F_X9_follow n v1 m = some m' ∧ (m'.1 0 31).toInt = ((vX (sL V (freeB a ky) ρ l H) nd ex N 0 0 0 % 100 : Nat) : Int) ∧
      (∀ i : Nat, i < vX (sL V (freeB a ky) ρ l H) nd ex N 0 0 0 % 100 → (m'.1 13 i).toInt = (actX (sL V (freeB a ky) ρ l H) nd ex N i : Nat) ∧ (m'.1 14 i).toInt = ((posX (sL V (freeB a ky) ρ l H) nd ex N i).1 : Nat)) ∧ oM m m' ∧ goerR n V told nd a z3 v l H ky ρ lo hi m' := by
  obtain ⟨L, hLe⟩ : ∃ L, sL V (freeB a ky) ρ l H = L := ⟨_, rfl⟩
  have hL : ∀ d h w k : Nat, L d h w k ≤ 6 := by rw [← hLe]; exact sL_le
  have hby := @by_is n hn V told nd a z3 v l H ky ρ lo hi
  rw [hLe] at hc hf ⊢
  have l0 : (0 : Int32).toInt = 0 := rfl
  have l1 : (1 : Int32).toInt = 1 := rfl
  have l9 : (9 : Int32).toInt = 9 := rfl
  have hndI : (Int32.ofNat nd).toInt = nd := ofNat_int (by omega)
  obtain ⟨T, hT⟩ : ∃ T, vX L nd ex N 0 0 0 % 100 = T := ⟨_, rfl⟩
  have path := path_is (L := L) (D := nd) (ex := ex) (N := N) hL hnd hN hf
  rw [hT] at path ⊢
  have hTN : T ≤ 48 := by
    have := vX_fin hL N 0 0 0 hN (Nat.zero_le _) hnd hf
    omega
  obtain ⟨e, he, q1, q2, q3, q4⟩ := lp_rule (body := B_X9_follow_7 n v1)
    (I := fun q j => ∃ i : Nat, i ≤ T ∧ j = T - i ∧ q.2.2.1.toInt = i ∧ q.1.toInt = ((posX L nd ex N i).1 : Nat) ∧ q.2.1.toInt = ((posX L nd ex N i).2 : Nat) ∧ (∀ i' : Nat, i' < i → (q.2.2.2.1 13 i').toInt = (actX L nd ex N i' : Nat) ∧ (q.2.2.2.1 14 i').toInt = ((posX L nd ex N i').1 : Nat)) ∧ fwM m q.2.2.2 ∧ goerR n V told nd a z3 v l H ky ρ lo hi q.2.2.2)
    (Q := fun e => e.2.2.1.toInt = T ∧ (∀ i' : Nat, i' < T → (e.2.2.2.1 13 i').toInt = (actX L nd ex N i' : Nat) ∧ (e.2.2.2.1 14 i').toInt = ((posX L nd ex N i').1 : Nat)) ∧ fwM m e.2.2.2 ∧ goerR n V told nd a z3 v l H ky ρ lo hi e.2.2.2) (by
    rintro ⟨dd, ww, hh, s⟩ j ⟨i, g1, g2, g3, g4, g5, g6, g7, g8⟩
    simp only at g3 g4 g5 g6 g7 g8
    have s02 : s.1 0 2 = Int32.ofNat nd := g8.2.2.2.1
    obtain ⟨p1, p2, p3, p3a, p3b, p4, p5, p6, p7⟩ := path i g1
    by_cases hend : Int32.ofNat nd ≤ dd
    · left
      have hend' := i32_le.mp hend
      have hiT : i = T := by
        by_cases z : i < T
        · have := p6 z; omega
        · omega
      subst hiT
      exact ⟨(dd, ww, hh, s), by unfold B_X9_follow_7; dsimp only; rw [s02, if_pos hend], g3, g6, g7, g8⟩
    · right
      have hend' : ¬ (Int32.ofNat nd).toInt ≤ dd.toInt := fun z => hend (i32_le.mpr z)
      have hiT : i < T := by
        by_cases z : i = T
        · have := p7 z; omega
        · omega
      obtain ⟨d, hd⟩ : ∃ d, (posX L nd ex N i).1 = d := ⟨_, rfl⟩
      obtain ⟨w, hw⟩ : ∃ w, (posX L nd ex N i).2 = w := ⟨_, rfl⟩
      have hpos1 : posX L nd ex N (i + 1) = if kX L nd ex N i d w = 0 then (d, capW w) else (d + 1, 0) := by
        show (if kX L nd ex N i (posX L nd ex N i).1 (posX L nd ex N i).2 = 0 then ((posX L nd ex N i).1, capW (posX L nd ex N i).2) else ((posX L nd ex N i).1 + 1, 0)) = _
        rw [hd, hw]
      have hact : actX L nd ex N i = if kX L nd ex N i d w = 0 then 0 else 10 * kX L nd ex N i d w + L d i w (kX L nd ex N i d w) := by
        unfold actX
        rw [hd, hw]
      rw [hd] at p2 p3b p4 p5 p6 p7 g4
      rw [hw] at p3 p3a p3b p4 p5 g5
      have hdn := p6 hiT
      obtain ⟨k, k1, k2, k3, k4, k5, k6⟩ := step_is (L := L) (D := nd) (ex := ex) (N := N) hL hnd hdn hN p1 p4
      rw [k1] at hpos1 hact
      obtain ⟨t1, t2⟩ := left_i32 (x := hh) (y := dd) (z := ww) g3 g4 g5 (by omega) (by omega) (by omega)
      -- the choice
      obtain ⟨ek, hek, y1, y2, y3⟩ := lp_rule (body := B_X9_follow_18 n v1 dd ww hh)
        (I := fun q j => ∃ k' : Nat, k' ≤ k ∧ j = k - k' ∧ q.1.toInt = k' ∧ gM s q.2 ∧ goerR n V told nd a z3 v l H ky ρ lo hi q.2)
        (Q := fun e => e.1.toInt = k ∧ gM s e.2 ∧ goerR n V told nd a z3 v l H ky ρ lo hi e.2) (by
        rintro ⟨kk, u⟩ j ⟨k', c1, c2, c3, c4, c5⟩
        simp only at c3 c4 c5
        have u12 : u.1 12 = m.1 12 := by rw [c4.1 12 (by decide) (by decide) (by decide), g7.1 12 (by decide) (by decide) (by decide) (by decide) (by decide)]
        have hTb : tabR nd u (i + 1) (vX L nd ex (N - (i + 1)) (i + 1)) := by
          intro d' w' b1 b2
          rw [u12]
          exact ⟨hc (i + 1) d' w' (by omega) b1 b2, vX_M _ _ _ _ _⟩
        obtain ⟨y, u', a1, a2, a3, a4⟩ := hby c5 (v1 := v1) (v2 := hh) (v3 := dd) (v4 := ww) (v5 := kk) e1 g3 g4 g5 c3 hnd (by omega) (by omega) (by omega) (by omega) hTb
        rw [hLe] at a2
        have u12' : u'.1 12 = m.1 12 := by rw [a3.1 12 (by decide) (by decide) (by decide), u12]
        have hcell := hc i d w (by omega) (by omega) (by omega)
        unfold cellOK at hcell
        have hb : B_X9_follow_18 n v1 dd ww hh (kk, u) = (if y = m.1 12 (lfI i d w) then some (.inr (kk, u')) else some (.inl ((kk + 1), u'))) := by
          unfold B_X9_follow_18
          dsimp only
          rw [a1, Option.bind_some, if_pos (jin_val t1 t2), nat_val t1, u12']
        have hr1 : N - i - 1 = N - (i + 1) := by omega
        rw [hr1] at k4 k5
        by_cases hk' : k' = k
        · left
          refine ⟨(kk, u'), by rw [hb, if_pos (i32_eq.mpr (by rw [a2, hcell, hk', k4]))], by show kk.toInt = k; omega, gM_tr c4 a3, a4⟩
        · right
          have hk1 : (kk + 1).toInt = ((k' + 1 : Nat) : Int) := by rw [i32_add (by omega) (by omega)]; omega
          have hne := k5 k' (by omega)
          refine ⟨(kk + 1, u'), k - (k' + 1), by omega, by rw [hb, if_neg (fun z => hne (by have := i32_eq.mp z; omega))], k' + 1, by omega, rfl, hk1, gM_tr c4 a3, a4⟩) k n (0, s) (by omega) ⟨0, Nat.zero_le _, rfl, rfl, gM_rfl, g8⟩
      have jh : jin hh 48 = true := jin_val g3 (by omega)
      have nh : hh.toNatClampNeg = i := nat_val g3
      have hh1 : (hh + 1).toInt = ((i + 1 : Nat) : Int) := by rw [i32_add (by omega) (by omega)]; omega
      obtain ⟨S, hS⟩ : ∃ S, upI ek.2 14 i dd = S := ⟨_, rfl⟩
      have hSG : goerR n V told nd a z3 v l H ky ρ lo hi S := by rw [← hS]; exact goerR_r y3 (Or.inr rfl) _ _
      have hSf : fwM m S := by rw [← hS]; exact fwM_r (fwM_g g7 y2) (Or.inr rfl) _ _
      have hS13 : S.1 13 = s.1 13 := by rw [← hS, upI_1, if_neg (by decide), y2.1 13 (by decide) (by decide) (by decide)]
      have hS14 : S.1 14 = upd (s.1 14) i dd := by rw [← hS, upI_1, if_pos rfl, y2.1 14 (by decide) (by decide) (by decide)]
      -- both ends
      have fin : ∀ (S' : jS) (x : Int32) (dn wn : Int32), S'.1 14 = S.1 14 → S'.1 13 = S.1 13 → fwM m S' → goerR n V told nd a z3 v l H ky ρ lo hi S' → x.toInt = (actX L nd ex N i : Nat) → dn.toInt = ((posX L nd ex N (i + 1)).1 : Nat) → wn.toInt = ((posX L nd ex N (i + 1)).2 : Nat) → (∃ i_1 : Nat, i_1 ≤ T ∧ T - (i + 1) = T - i_1 ∧ (hh + 1).toInt = i_1 ∧ dn.toInt = ((posX L nd ex N i_1).1 : Nat) ∧ wn.toInt = ((posX L nd ex N i_1).2 : Nat) ∧ (∀ i' : Nat, i' < i_1 → ((upI S' 13 i x).1 13 i').toInt = (actX L nd ex N i' : Nat) ∧ ((upI S' 13 i x).1 14 i').toInt = ((posX L nd ex N i').1 : Nat)) ∧ fwM m (upI S' 13 i x) ∧ goerR n V told nd a z3 v l H ky ρ lo hi (upI S' 13 i x)) := by
        intro S' x dn wn b1 b2 b3 b4 b5 b6 b7
        refine ⟨i + 1, by omega, rfl, hh1, b6, b7, fun i' hi' => ?_, fwM_r b3 (Or.inl rfl) _ _, goerR_r b4 (Or.inl rfl) _ _⟩
        rw [upI_1, if_pos rfl, upI_1, if_neg (by decide), b1, b2, hS13, hS14]
        by_cases z : i' = i
        · subst z
          rw [upd_eq rfl, upd_eq rfl, hd]
          exact ⟨b5, g4⟩
        · rw [upd_ne z, upd_ne z]
          exact g6 i' (by omega)
      by_cases k0 : k = 0
      · have hek0 : ek.1 = 0 := i32_eq.mpr (by omega)
        rw [if_pos k0] at hpos1 hact
        obtain ⟨wn, hwn, hwnv⟩ : ∃ wn : Int32, (if ww = 9 then 9 else ww + 1) = wn ∧ wn.toInt = (capW w : Nat) := by
          refine ⟨_, rfl, ?_⟩
          unfold capW
          by_cases z : ww = 9
          · have : w = 9 := by rw [z, l9] at g5; omega
            rw [if_pos z, if_pos this]; rfl
          · have : ¬ w = 9 := fun y => z (i32_eq.mpr (by omega))
            rw [if_neg z, if_neg this, i32_add (by omega) (by omega)]
            omega
        have hb : B_X9_follow_7 n v1 (dd, ww, hh, s) = some (.inl (dd + 0, wn, hh + 1, upI S 13 i 0)) := by
          unfold B_X9_follow_7
          dsimp only
          rw [s02, if_neg hend, hek, Option.bind_some, if_pos jh, jl_1, nh, hS, if_pos hek0, hek0]
          unfold J_X9_follow_104
          rw [if_pos jh, jl_1, nh, if_pos (by decide)]
          unfold J_X9_follow_128
          by_cases z : ww = 9
          · rw [if_pos z] at hwn
            rw [if_pos z, if_pos (by decide), hwn]
          · rw [if_neg z] at hwn
            rw [if_neg z, if_pos (by decide), hwn]
        refine ⟨_, T - (i + 1), by omega, hb, fin S 0 (dd + 0) wn rfl rfl hSf hSG (by rw [hact]; rfl) (by rw [add0, hpos1]; exact g4) (by rw [hpos1]; exact hwnv)⟩
      · have hek0 : ¬ ek.1 = 0 := fun z => k0 (by have := i32_eq.mp z; omega)
        rw [if_neg k0] at hpos1 hact
        obtain ⟨x2, x2e, x2j, x2n⟩ := v4_i32 e1 (by have := hG.2.2.2.2.1; omega) 2 2 rfl (by omega)
        obtain ⟨hH, hH24⟩ := hSG.2.2.2.2.2.2.2.1
        have eH : (S.1 9 (4 * v + 2) + hh).toInt = ((H + i : Nat) : Int) := by rw [i32_add (by omega) (by omega)]; omega
        obtain ⟨hr, hre⟩ : ∃ hr, (S.1 9 (4 * v + 2) + hh) - (S.1 9 (4 * v + 2) + hh) / 24 * 24 = hr := ⟨_, rfl⟩
        have ehr : hr.toInt = (((H + i) % 24 : Nat) : Int) := by
          rw [← hre, i32_rest (n := 24) rfl (by omega) (by omega), eH]
          omega
        obtain ⟨g, m', a1, a2, a3, a4⟩ := leastGift_is hn hSG (v1 := v1) (v2 := dd) (v3 := hr) (v4 := ww) (v5 := ek.1) e1 g4 ehr g5 y1 (by omega) (by omega) (by omega) (by omega) k2
        have hLd : L d i w k = (if freeB a ky d = true then 0 else if (ρ d).toInt < 0 then 6 else lgV V (ρ d) l d ((H + i) % 24) w k) := by rw [← hLe]; rfl
        rw [← hLd] at a2
        have hLk := hL d i w k
        have e10 : (10 * ek.1).toInt = 10 * k := by rw [i32_mulL (n := 10) rfl (by omega) (by omega)]; omega
        have e11 : (10 * ek.1 + g).toInt = 10 * k + L d i w k := by rw [i32_add (by omega) (by omega)]; omega
        have hd1 : (dd + 1).toInt = ((d + 1 : Nat) : Int) := by rw [i32_add (by omega) (by omega)]; omega
        have hpos0 : ¬ ek.1 ≤ 0 := fun z => by have := i32_le.mp z; omega
        have hb : B_X9_follow_7 n v1 (dd, ww, hh, s) = some (.inl (dd + 1, 0, hh + 1, upI m' 13 i (10 * ek.1 + g))) := by
          unfold B_X9_follow_7
          dsimp only
          rw [s02, if_neg hend, hek, Option.bind_some, if_pos jh, jl_1, nh, hS, if_neg hek0, x2e, if_pos x2j, x2n, hre, a1, Option.bind_some]
          unfold J_X9_follow_104
          rw [if_pos jh, jl_1, nh, if_neg hpos0]
          unfold J_X9_follow_128
          rw [if_neg hpos0]
        refine ⟨_, T - (i + 1), by omega, hb, fin m' (10 * ek.1 + g) (dd + 1) 0 (a3.1 14 (by decide) (by decide) (by decide)) (a3.1 13 (by decide) (by decide) (by decide)) (fwM_g hSf a3) a4 (by rw [hact, e11]; omega) (by rw [hpos1]; exact hd1) (by rw [hpos1]; rfl)⟩) T n (0, 0, 0, m) (by omega) ⟨0, Nat.zero_le _, rfl, rfl, rfl, rfl, fun i' hi' => absurd hi' (Nat.not_lt_zero i'), ⟨fun _ _ _ _ _ _ => rfl, fun _ _ => rfl⟩, hG⟩
  refine ⟨upI e.2.2.2 0 31 e.2.2.1, ?_, ?_, fun i hi => ?_, ⟨fun k a1 a2 a3 a4 a5 a6 a7 => ?_, fun j a1 => ?_, q3.2⟩, ?_⟩
  · unfold F_X9_follow
    rw [he, Option.bind_some, jl_1]
  · rw [upI_1, if_pos rfl, upd_eq rfl]; exact q1
  · rw [upI_1, if_neg (by decide), upI_1, if_neg (by decide)]; exact q2 i hi
  · rw [upI_1, if_neg a1]; exact q3.1 k a2 a3 a4 a6 a7
  · rw [upI_1, if_pos rfl, upd_ne a1, q3.1 0 (by decide) (by decide) (by decide) (by decide) (by decide)]
  · obtain ⟨h1, h2, h3, h4, h5, h6, h7, h8, h9, h10, h11⟩ := q4
    refine ⟨h1, ?_, ?_, ?_, h5, ?_, ?_, ?_, ?_, h10, ?_⟩
    · rw [upI_1, if_neg (by decide)]; exact h2
    · rw [upI_1, if_neg (by decide)]; exact h3
    · rw [upI_1, if_pos rfl, upd_ne (by decide)]; exact h4
    · rw [upI_1, if_neg (by decide)]; exact h6
    · rw [upI_1, if_neg (by decide)]; exact h7
    · rw [upI_1, if_neg (by decide)]; exact h8
    · rw [upI_1, if_neg (by decide)]; exact h9
    · exact cOK_s h11 (by rw [upI_1, if_neg (by decide)]) (by rw [upI_1, if_neg (by decide)])
end
