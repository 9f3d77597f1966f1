/-! the search of the least gifts -/
theorem i64_nat {x : Int64} {X : Nat} (h : x.toInt = X) : x.toBitVec.toNat = X := by
  have e : x.toBitVec.toInt = x.toInt := rfl
  rw [BitVec.toInt_eq_toNat_cond] at e
  have := x.toBitVec.isLt
  split at e <;> omega
theorem six_sh : ∀ w : Fin 10, ((((Int32.ofNat w.val * 6) : Int32).toInt64 &&& 63).toBitVec.smod 64).toNat = 6 * w.val := by decide
theorem pow64 (w : Nat) : 64 ^ w = 2 ^ (6 * w) := by rw [Nat.pow_mul]
theorem pack_or {y : Int64} {Y e w : Nat} (hy : y.toInt = Y) (hY : Y < 64 ^ w) (hw : w ≤ 9) (he : e < 64) : (y ||| ((Int32.toInt64 (Int32.ofNat e)) <<< (((Int32.ofNat w * 6) : Int32).toInt64 &&& 63))).toInt = ((Y + e * 64 ^ w : Nat) : Int) ∧ Y + e * 64 ^ w < 64 ^ (w + 1) := by
  have hlt : Y + e * 64 ^ w < 64 ^ (w + 1) := by
    have : e * 64 ^ w ≤ 63 * 64 ^ w := Nat.mul_le_mul_right _ (by omega)
    rw [Nat.pow_succ]
    omega
  have hbig : 64 ^ (w + 1) ≤ 64 ^ 10 := Nat.pow_le_pow_right (by decide) (by omega)
  have h10 : 64 ^ 10 = 1152921504606846976 := by decide
  have hs := six_sh ⟨w, by omega⟩
  simp only at hs
  have heI : (Int32.toInt64 (Int32.ofNat e)).toInt = (e : Nat) := by rw [Int32.toInt_toInt64]; exact ofNat_int (by omega)
  have heN := i64_nat heI
  have hyN := i64_nat hy
  have e1 : (y ||| ((Int32.toInt64 (Int32.ofNat e)) <<< (((Int32.ofNat w * 6) : Int32).toInt64 &&& 63))).toBitVec.toNat = Y + e * 64 ^ w := by
    rw [Int64.toBitVec_or, Int64.toBitVec_shiftLeft, BitVec.toNat_or, BitVec.shiftLeft_eq', BitVec.toNat_shiftLeft, hyN, heN, hs]
    rw [Nat.shiftLeft_eq, ← pow64, Nat.mod_eq_of_lt (by omega), Nat.or_comm, pow64, ← Nat.shiftLeft_eq, ← Nat.shiftLeft_add_eq_or_of_lt (by rw [← pow64]; exact hY), Nat.add_comm]
  refine ⟨?_, hlt⟩
  show (y ||| ((Int32.toInt64 (Int32.ofNat e)) <<< (((Int32.ofNat w * 6) : Int32).toInt64 &&& 63))).toBitVec.toInt = _
  rw [BitVec.toInt_eq_toNat_of_lt (by rw [e1]; omega), e1]
theorem pack_get {y : Int64} {Y w : Nat} (hy : y.toInt = Y) (hY : Y < 64 ^ 10) (hw : w ≤ 9) : (exI y (Int32.ofNat w)).toInt.toNat = Y / 64 ^ w % 64 := by
  have h10 : 64 ^ 10 = 1152921504606846976 := by decide
  have hs := six_sh ⟨w, by omega⟩
  simp only at hs
  have hyN := i64_nat hy
  have hr := and63 (Int64.toInt32 (y >>> (((Int32.ofNat w * 6) : Int32).toInt64 &&& 63)))
  have hm : y.toBitVec.msb = false := by rw [BitVec.msb_eq_false_iff_two_mul_lt]; omega
  have e1 : (exI y (Int32.ofNat w)).toBitVec.toNat = Y / 64 ^ w % 64 := by
    unfold exI
    rw [Int32.toBitVec_and, Int64.toBitVec_toInt32, Int64.toBitVec_shiftRight]
    unfold BitVec.sshiftRight'
    rw [hs, BitVec.sshiftRight_eq_of_msb_false hm, BitVec.signExtend_eq_setWidth_of_le _ (by decide), BitVec.toNat_and, BitVec.toNat_setWidth, BitVec.toNat_ushiftRight, hyN, Nat.shiftRight_eq_div_pow, ← pow64]
    rw [show (63 : Int32).toBitVec.toNat = 2 ^ 6 - 1 from rfl, Nat.and_two_pow_sub_one_eq_mod]
    omega
  have e2 : (exI y (Int32.ofNat w)).toInt = ((exI y (Int32.ofNat w)).toBitVec.toNat : Int) := BitVec.toInt_eq_toNat_of_lt (by omega)
  rw [e2, e1]
  omega
theorem lgF_none {p : Nat → Bool} (h : ∀ g : Nat, g ≤ 5 → p g = false) : lgF p = 6 := lgF_is p 6 (Nat.le_refl _) (fun i hi => by rw [h i (by omega)]; exact fun z => by cases z) (fun z => absurd z (Nat.lt_irrefl _))
theorem ent_none {T : Nat → Nat → Bool} {mg mk : Nat} (hmg : mg = 5 ∨ (mg = 0 ∧ ∀ g k : Nat, g ≤ 5 → 1 ≤ k → k ≤ 7 → T g k = T 0 k)) (hmk : mk = 7 ∨ (mk = 1 ∧ ∀ g k : Nat, g ≤ 5 → 1 ≤ k → k ≤ 7 → T g k = T g 1)) (h : ∀ g k : Nat, g ≤ mg → 1 ≤ k → k ≤ mk → T g k = false) : entP (fun k => lgF (fun g => T g k)) 8 := by
  refine Or.inl ⟨rfl, fun k k1 k8 => lgF_none (fun g hg => ?_)⟩
  have h1 : ∀ g : Nat, g ≤ mg → g ≤ 5 → T g k = false := by
    intro g hg hg5
    rcases hmk with q | ⟨q, q'⟩
    · exact h g k hg k1 (by omega)
    · rw [q' g k hg5 k1 (by omega)]
      exact h g 1 hg (Nat.le_refl _) (by omega)
  rcases hmg with q | ⟨q, q'⟩
  · exact h1 g (by omega) hg
  · rw [q' g k hg k1 (by omega)]
    exact h1 0 (by omega) (by omega)
theorem ent_found {T : Nat → Nat → Bool} {mg mk G K : Nat} (hmg : mg = 5 ∨ (mg = 0 ∧ ∀ g k : Nat, g ≤ 5 → 1 ≤ k → k ≤ 7 → T g k = T 0 k)) (hmk : mk = 7 ∨ (mk = 1 ∧ ∀ g k : Nat, g ≤ 5 → 1 ≤ k → k ≤ 7 → T g k = T g 1)) (hG : G ≤ mg) (hK : 1 ≤ K) (hK2 : K ≤ mk) (hT : T G K = true) (h : ∀ g k : Nat, g < G → 1 ≤ k → k ≤ mk → T g k = false) (h2 : ∀ k : Nat, 1 ≤ k → k < K → T G k = false) : entP (fun k => lgF (fun g => T g k)) (8 * G + K) := by
  have hG5 : G ≤ 5 := by rcases hmg with q | ⟨q, _⟩ <;> omega
  have hK7 : K ≤ 7 := by rcases hmk with q | ⟨q, _⟩ <;> omega
  have h1 : ∀ g k : Nat, g < G → 1 ≤ k → k ≤ 7 → T g k = false := by
    intro g k hg k1 k7
    rcases hmk with q | ⟨q, q'⟩
    · exact h g k hg k1 (by omega)
    · rw [q' g k (by omega) k1 k7]
      exact h g 1 hg (Nat.le_refl _) (by omega)
  refine Or.inr ⟨G, K, rfl, hG5, hK, by omega, ?_, fun k' c1 c2 => ?_, fun k' c1 c2 z => ?_⟩
  · exact lgF_is _ G (by omega) (fun i hi => by
      show ¬ T i K = true
      rw [h1 i K hi hK hK7]
      exact fun z => by cases z) (fun _ => hT)
  · have ha := (lgF_at (fun g => T g k')).2
    by_cases z : G ≤ lgF (fun g => T g k')
    · exact z
    · have := ha (by omega)
      rw [h1 _ k' (by omega) c1 (by omega)] at this
      cases this
  · have ha := (lgF_at (fun g => T g k')).2
    change lgF (fun g => T g k') = G at z
    rw [z] at ha
    have := ha (by omega)
    rw [h2 k' c1 c2] at this
    cases this
/-- asked at door, hour, load: all names but gift, knocks, waited stand -/
def nmS (c : jS) (d h l : Int32) (s : jS) : Prop := (∀ k : Nat, ¬ k = 30 → ¬ k = 31 → s.1 k = c.1 k) ∧ ∀ j : Nat, j < 8 → ¬ j = 4 → ¬ j = 5 → ¬ j = 6 → s.1 30 j = nmV c d h 0 0 0 l j
theorem nmS_up {c : jS} {d h l : Int32} {s : jS} (hs : nmS c d h l s) {j : Nat} (hj : j = 4 ∨ j = 5 ∨ j = 6) (x : Int32) : nmS c d h l (upI s 30 j x) := ⟨fun k a1 a2 => by rw [upI_1, if_neg a1]; exact hs.1 k a1 a2, fun i a1 a2 a3 a4 => by rw [upI_1, if_pos rfl, upd_ne (by omega)]; exact hs.2 i a1 a2 a3 a4⟩
theorem nmS_31 {c : jS} {d h l : Int32} {s s' : jS} (hs : nmS c d h l s) (h' : onlyRow 31 s s') : nmS c d h l s' := ⟨fun k a1 a2 => by rw [h'.1 k a2]; exact hs.1 k a1 a2, fun i a1 a2 a3 a4 => by rw [h'.1 30 (by decide)]; exact hs.2 i a1 a2 a3 a4⟩
section
variable {n : Nat} {c m : jS} {t dN hN lN : Nat}
/-- the search's question -/
def srT (n : Nat) (c m : jS) (t dN hN lN w g k : Nat) : Bool := opV n (c.1 19) (c.1 20) (m.1 3) (Int32.ofNat t) (Int32.ofNat dN) (Int32.ofNat hN) (Int32.ofNat k) (Int32.ofNat g) (Int32.ofNat w) (Int32.ofNat lN)
theorem sr_args {told : Int32} {w g k : Nat} (ht : t < 4) (htold : (t : Int) < told.toInt) (hd : dN < 8) (hh : hN < 24) (hl : lN ≤ 9) (hw : w ≤ 9) (hg : g ≤ 5) (hk : k ≤ 7) : inArgs told (Int32.ofNat t) (Int32.ofNat dN) (Int32.ofNat hN) (Int32.ofNat k) (Int32.ofNat g) (Int32.ofNat w) (Int32.ofNat lN) := by
  unfold inArgs
  rw [ofNat_int (by omega), ofNat_int (by omega), ofNat_int (by omega), ofNat_int (by omega), ofNat_int (by omega), ofNat_int (by omega), ofNat_int (by omega)]
  omega
/-- a rule asked with its names set -/
theorem ask_set (hn : 400000 ≤ n) (h : asksR c m) (ht : t < 4) (htold : (t : Int) < (c.1 18 7).toInt) (hop : jz (c.1 (2 + 4 * t) 6) = true) (hd : dN < 8) (hh : hN < 24) (hl : lN ≤ 9) {w g k : Nat} (hw : w ≤ 9) (hg : g ≤ 5) (hk : k ≤ 7) {s : jS} (hs : nmS c (Int32.ofNat dN) (Int32.ofNat hN) (Int32.ofNat lN) s) (s4 : s.1 30 4 = Int32.ofNat g) (s5 : s.1 30 5 = Int32.ofNat k) (s6 : s.1 30 6 = Int32.ofNat w) :
    ∃ s', F_X3_holds_T n t s = some (srT n c m t dN hN lN w g k, s') ∧ onlyRow 31 s s' :=
  holds_is hn h ht htold hop (sr_args ht htold hd hh hl hw hg hk) (fun j => by rw [hs.1 _ (by omega) (by omega)]) (fun j => by rw [hs.1 _ (by omega) (by omega)]) (fun j hj _ => by
    by_cases j4 : j = 4
    · subst j4; exact s4
    · by_cases j5 : j = 5
      · subst j5; exact s5
      · by_cases j6 : j = 6
        · subst j6; exact s6
        · rw [hs.2 j hj j4 j5 j6]
          have : j = 0 ∨ j = 1 ∨ j = 2 ∨ j = 3 ∨ j = 7 := by omega
          rcases this with rfl | rfl | rfl | rfl | rfl <;> rfl)
theorem srchK (hn : 400000 ≤ n) (h : asksR c m) (ht : t < 4) (htold : (t : Int) < (c.1 18 7).toInt) (hop : jz (c.1 (2 + 4 * t) 6) = true) (hd : dN < 8) (hh : hN < 24) (hl : lN ≤ 9) {w g mk : Nat} (hw : w ≤ 9) (hg : g ≤ 5) (hmk : mk ≤ 7) {s : jS} (hs : nmS c (Int32.ofNat dN) (Int32.ofNat hN) (Int32.ofNat lN) s) (s4 : s.1 30 4 = Int32.ofNat g) (s6 : s.1 30 6 = Int32.ofNat w) {v2 : Int64} {v4 v5 v6 v7 : Int32} (e6 : v6.toInt = mk) :
    ∃ e, lp (B_X3_searched_T_106 n t v2 v4 v5 v6 v7 (Int32.ofNat g)) n (8, 1, s) = some e ∧ nmS c (Int32.ofNat dN) (Int32.ofNat hN) (Int32.ofNat lN) e.2.2 ∧ e.2.2.1 30 6 = Int32.ofNat w ∧ e.2.2.2 = s.2 ∧
      ((e.1 = 8 ∧ ∀ k : Nat, 1 ≤ k → k ≤ mk → srT n c m t dN hN lN w g k = false) ∨ ∃ K : Nat, 1 ≤ K ∧ K ≤ mk ∧ e.1 = Int32.ofNat (8 * g + K) ∧ srT n c m t dN hN lN w g K = true ∧ ∀ k : Nat, 1 ≤ k → k < K → srT n c m t dN hN lN w g k = false) := by
  have l1 : (1 : Int32).toInt = 1 := rfl
  obtain ⟨e, he, q1, q2, q3, q4⟩ := lp_rule (body := B_X3_searched_T_106 n t v2 v4 v5 v6 v7 (Int32.ofNat g))
    (I := fun q j => ∃ k : Nat, 1 ≤ k ∧ k ≤ mk + 1 ∧ j = 10 - k ∧ q.2.1 = Int32.ofNat k ∧ nmS c (Int32.ofNat dN) (Int32.ofNat hN) (Int32.ofNat lN) q.2.2 ∧ q.2.2.1 30 4 = Int32.ofNat g ∧ q.2.2.1 30 6 = Int32.ofNat w ∧ q.2.2.2 = s.2 ∧
      ((q.1 = 8 ∧ ∀ k' : Nat, 1 ≤ k' → k' < k → srT n c m t dN hN lN w g k' = false) ∨ ∃ K : Nat, 1 ≤ K ∧ K ≤ mk ∧ q.1 = Int32.ofNat (8 * g + K) ∧ srT n c m t dN hN lN w g K = true ∧ ∀ k : Nat, 1 ≤ k → k < K → srT n c m t dN hN lN w g k = false))
    (Q := fun e => nmS c (Int32.ofNat dN) (Int32.ofNat hN) (Int32.ofNat lN) e.2.2 ∧ e.2.2.1 30 6 = Int32.ofNat w ∧ e.2.2.2 = s.2 ∧
      ((e.1 = 8 ∧ ∀ k : Nat, 1 ≤ k → k ≤ mk → srT n c m t dN hN lN w g k = false) ∨ ∃ K : Nat, 1 ≤ K ∧ K ≤ mk ∧ e.1 = Int32.ofNat (8 * g + K) ∧ srT n c m t dN hN lN w g K = true ∧ ∀ k : Nat, 1 ≤ k → k < K → srT n c m t dN hN lN w g k = false)) (by
    rintro ⟨x, kq, s1⟩ j ⟨k, k1, k2, hj, g1, g2, g3, g4, g5, g6⟩
    simp only at g1 g2 g3 g4 g5 g6
    subst g1
    have hkv : (Int32.ofNat k).toInt = k := ofNat_int (by omega)
    by_cases c1 : v6 < Int32.ofNat k
    · left
      have c1' := i32_lt.mp c1
      refine ⟨(x, Int32.ofNat k, s1), by unfold B_X3_searched_T_106; dsimp only; rw [if_pos c1], g2, g4, g5, ?_⟩
      rcases g6 with ⟨z1, z2⟩ | z
      · exact Or.inl ⟨z1, fun k' a1 a2 => z2 k' a1 (by omega)⟩
      · exact Or.inr z
    · have c1' : ¬ v6.toInt < (Int32.ofNat k).toInt := fun z => c1 (i32_lt.mpr z)
      by_cases c2 : x = 8
      · right
        have hold : ∀ k' : Nat, 1 ≤ k' → k' < k → srT n c m t dN hN lN w g k' = false := by
          rcases g6 with ⟨z1, z2⟩ | ⟨K, y1, y2, y3, _⟩
          · exact z2
          · exfalso
            rw [y3] at c2
            have := congrArg Int32.toInt c2
            rw [ofNat_int (by omega)] at this
            change ((8 * g + K : Nat) : Int) = 8 at this
            omega
        have hnext : Int32.ofNat k + 1 = Int32.ofNat (k + 1) := i32_eq.mpr (by rw [i32_add (by omega) (by omega), ofNat_int (by omega), ofNat_int (by omega)]; omega)
        obtain ⟨s2, r1, r2⟩ := ask_set hn h ht htold hop hd hh hl hw hg (k := k) (by omega) (s := upI s1 30 5 (Int32.ofNat k)) (nmS_up g2 (Or.inr (Or.inl rfl)) _) (by rw [upI_1, if_pos rfl, upd_ne (by decide)]; exact g3) (by rw [upI_1, if_pos rfl, upd_eq rfl]) (by rw [upI_1, if_pos rfl, upd_ne (by decide)]; exact g4)
        have f2 := nmS_31 (nmS_up g2 (Or.inr (Or.inl rfl)) (Int32.ofNat k)) r2
        have f4 : s2.1 30 4 = Int32.ofNat g := by rw [r2.1 30 (by decide), upI_1, if_pos rfl, upd_ne (by decide)]; exact g3
        have f6 : s2.1 30 6 = Int32.ofNat w := by rw [r2.1 30 (by decide), upI_1, if_pos rfl, upd_ne (by decide)]; exact g4
        have f5 : s2.2 = s.2 := by rw [r2.2]; exact g5
        cases hb : srT n c m t dN hN lN w g k with
        | true =>
          rw [hb] at r1
          refine ⟨(Int32.ofNat (8 * g + k), Int32.ofNat (k + 1), s2), 10 - (k + 1), by omega, ?_, k + 1, by omega, by omega, rfl, rfl, f2, f4, f6, f5, Or.inr ⟨k, k1, by omega, rfl, hb, hold⟩⟩
          unfold B_X3_searched_T_106
          dsimp only
          rw [if_neg c1, if_pos c2, jl_1, show (Int32.toNatClampNeg 5) = 5 from rfl, r1, Option.bind_some, if_pos rfl]
          have hsh : ∀ i : Fin 6, (Int32.ofNat i.val <<< ((3 : Int32) &&& 31)) = Int32.ofNat (8 * i.val) := by decide
          have hshg := hsh ⟨g, by omega⟩
          simp only at hshg
          rw [hshg, hnext]
          have : Int32.ofNat (8 * g) + Int32.ofNat k = Int32.ofNat (8 * g + k) := i32_eq.mpr (by rw [i32_add (by rw [ofNat_int (by omega)]; omega) (by rw [ofNat_int (by omega)]; omega), ofNat_int (by omega), ofNat_int (by omega), ofNat_int (by omega)]; omega)
          rw [this]
        | false =>
          rw [hb] at r1
          refine ⟨(8, Int32.ofNat (k + 1), s2), 10 - (k + 1), by omega, ?_, k + 1, by omega, by omega, rfl, rfl, f2, f4, f6, f5, Or.inl ⟨rfl, fun k' a1 a2 => ?_⟩⟩
          · unfold B_X3_searched_T_106
            dsimp only
            rw [if_neg c1, if_pos c2, jl_1, show (Int32.toNatClampNeg 5) = 5 from rfl, r1, Option.bind_some, if_neg (fun z => by cases z), hnext]
          · by_cases z : k' = k
            · rw [z]; exact hb
            · exact hold k' a1 (by omega)
      · left
        refine ⟨(x, Int32.ofNat k, s1), by unfold B_X3_searched_T_106; dsimp only; rw [if_neg c1, if_neg c2], g2, g4, g5, ?_⟩
        rcases g6 with ⟨z1, z2⟩ | z
        · exact absurd z1 c2
        · exact Or.inr z) 9 n (8, 1, s) (by omega) ⟨1, by omega, by omega, rfl, rfl, hs, s4, s6, rfl, Or.inl ⟨rfl, fun k' a1 a2 => by omega⟩⟩
  exact ⟨e, he, q1, q2, q3, q4⟩
end
