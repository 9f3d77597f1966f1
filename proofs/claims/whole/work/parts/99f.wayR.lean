/-! doors a way is asked for -/
def cpD (s : jS) (nd : Nat) (free : Nat → Bool) (ρ : Nat → Int32) (l : Nat) (x38 x39 : Int32) (d : Nat) : Prop := (free d = true ∧ x38 = -1 ∧ x39 = 0) ∨ (free d = false ∧ ∃ t : Nat, t < 4 ∧ (t : Int) < (s.1 18 7).toInt ∧ (ρ d).toInt = t ∧ jz (s.1 (2 + 4 * t) 6) = true ∧ x38.toInt = (plI nd (s.1 (2 + 4 * t) 5) t d l : Nat) ∧ ((x39 = 9 ∧ lk (s.1 (2 + 4 * t) 5) 6) ∨ (x39 = 0 ∧ ¬ lk (s.1 (2 + 4 * t) 5) 6)))
/-- the doors' rows alone change -/
def cpM (s s' : jS) : Prop := (∀ k : Nat, ¬ k = 38 → ¬ k = 39 → s'.1 k = s.1 k) ∧ s'.2 = s.2
theorem cpM_rfl {s : jS} : cpM s s := ⟨fun _ _ _ => rfl, rfl⟩
theorem cpM_2 {s s' : jS} (h : cpM s s') (j : Nat) (x y : Int32) : cpM s (upI (upI s' 38 j x) 39 j y) := ⟨fun k a1 a2 => by rw [upI_1, if_neg a2, upI_1, if_neg a1]; exact h.1 k a1 a2, h.2⟩
theorem lkW_is {v1 : Int32} {s : jS} {t : Nat} (e1 : v1.toInt = t) (ht : t < 4) : F_X3_looksAtWaited v1 s = some (if ((s.1 (2 + 4 * t) 5) &&& (64 : Int32)) = 0 then false else true) := by
  have l0 : (0 : Int32).toInt = 0 := rfl
  have l4 : (4 : Int32).toInt = 4 := rfl
  unfold F_X3_looksAtWaited
  rw [if_neg (fun z => by have := i32_lt.mp z; omega), if_neg (fun z => by have := i32_le.mp z; omega), if_pos (jin_val e1 ht), nat_val e1]
  by_cases z : ((s.1 (2 + 4 * t) 5) &&& (64 : Int32)) = 0
  · rw [if_pos z, if_pos z]
  · rw [if_neg z, if_neg z]
/-- a rule that never opens -/
theorem shut_is {n : Nat} (hn : 400000 ≤ n) {c m : jS} (h : asksR c m) {v1 : Int32} (hv : -1 ≤ v1.toInt ∧ v1.toInt < (c.1 18 7).toInt) (hno : ∀ t : Nat, v1.toInt = t → ¬ jz (c.1 (2 + 4 * t) 6) = true) {l d hh w k : Nat} (a1 : d < 8) (a2 : hh < 24) (a3 : l ≤ 9) (a4 : w ≤ 9) (a6 : k ≤ 7) : lgV (opV n (c.1 19) (c.1 20) (m.1 3)) v1 l d hh w k = 6 := by
  have l0 : (0 : Int32).toInt = 0 := rfl
  refine lgF_none (fun g hg => ?_)
  obtain ⟨c', m', q1, _, _, _⟩ := op_is hn h (v1 := v1) (v2 := Int32.ofNat d) (v3 := Int32.ofNat hh) (v4 := Int32.ofNat k) (v5 := Int32.ofNat g) (v6 := Int32.ofNat w) (v7 := Int32.ofNat l) (by
    unfold inArgs
    rw [ofNat_int (by omega), ofNat_int (by omega), ofNat_int (by omega), ofNat_int (by omega), ofNat_int (by omega), ofNat_int (by omega)]
    omega)
  have hop : F_X3_isOpening v1 c = some false := by
    by_cases z : v1.toInt < 0
    · unfold F_X3_isOpening
      rw [if_pos (i32_lt.mpr (by omega))]
    · obtain ⟨t, ht⟩ : ∃ t : Nat, v1.toInt = t := ⟨v1.toInt.toNat, by omega⟩
      rw [opening_is ht (by have := h.2.1; omega) (by omega)]
      cases q : jz (c.1 (2 + 4 * t) 6) with
      | false => rfl
      | true => exact absurd q (hno t ht)
  unfold F_X3_opensBy at q1
  rw [hop, Option.bind_some, if_neg (fun z => by cases z)] at q1
  exact (congrArg Prod.fst (Option.some.inj q1)).symm
theorem ent_free : entP (fun _ => 0) 1 := Or.inr ⟨0, 1, rfl, by decide, by decide, by decide, rfl, fun _ _ _ => Nat.le_refl _, fun k a1 a2 => by omega⟩
theorem exI_free : (exI 1 (Int32.ofNat 0)).toInt.toNat = 1 := by decide
/-- from the doors' rows to the table's hypotheses -/
theorem cls_of {n : Nat} (hn : 400000 ≤ n) {s m s' : jS} (h : asksR s m) {nd l H : Nat} {free : Nat → Bool} {ρ : Nat → Int32} (hnd : nd ≤ 8) (hl : l ≤ 9) (hH : H < 24) (hr : ∀ d : Nat, d < nd → -1 ≤ (ρ d).toInt ∧ (ρ d).toInt < (s.1 18 7).toInt) (hst : ∀ d : Nat, d < nd → free d = false → 0 ≤ (ρ d).toInt → tabOK (opV n (s.1 19) (s.1 20) (m.1 3)) s (s.2 32) nd (s.1 18 7)) (hln : ∀ d : Nat, d < nd → free d = false → ∀ t : Nat, (ρ d).toInt = t → jz (s.1 (2 + 4 * t) 6) = true → ¬ s.2 32 (plI nd (s.1 (2 + 4 * t) 5) t d l) = 0) (h4 : (s'.1 33 4).toInt = nd) (h11 : (s'.1 33 11).toInt = H) (h2 : s'.2 = s.2) (hcp : ∀ d : Nat, d < nd → cpD s nd free ρ l (s'.1 38 d) (s'.1 39 d) d) :
    clsE (sL (opV n (s.1 19) (s.1 20) (m.1 3)) free ρ l H) (fun d => (s'.1 39 d).toInt.toNat) nd H s' := by
  have l0 : (0 : Int32).toInt = 0 := rfl
  have lm : (-1 : Int32).toInt = -1 := rfl
  have l9 : (9 : Int32).toInt = 9 := rfl
  refine ⟨h4, h11, hH, hnd, fun d hd => ?_⟩
  dsimp only
  rcases hcp d hd with ⟨c1, c2, c3⟩ | ⟨c1, t, t1, t2, t3, t4, t5, t6⟩
  · have hL : ∀ h w k : Nat, sL (opV n (s.1 19) (s.1 20) (m.1 3)) free ρ l H d h w k = 0 := fun h w k => if_pos c1
    refine ⟨by rw [c3]; rfl, Or.inr ⟨by rw [c3]; rfl, fun h w k _ _ _ => by rw [hL, hL]⟩, fun hh => ⟨1, fun x hx => ?_, fun w hw => ?_⟩⟩
    · unfold F_X3_leastsAt
      rw [c2, if_pos (by decide)]
    · have hw0 : w = 0 := by
        simp only [c3] at hw
        change w ≤ (0 : Int).toNat at hw
        exact Nat.le_zero.mp hw
      subst hw0
      rw [exI_free, show sL (opV n (s.1 19) (s.1 20) (m.1 3)) free ρ l H d hh 0 = fun _ => 0 from funext (fun k => hL hh 0 k)]
      exact ent_free
  · have hρ : ρ d = Int32.ofNat t := i32_eq.mpr (by rw [ofNat_int (by omega)]; exact t3)
    have hL : ∀ h w k : Nat, sL (opV n (s.1 19) (s.1 20) (m.1 3)) free ρ l H d h w k = lgV (opV n (s.1 19) (s.1 20) (m.1 3)) (Int32.ofNat t) l d ((H + h) % 24) w k := by
      intro h w k
      unfold sL
      rw [if_neg (by rw [c1]; exact fun z => by cases z), if_neg (by omega), hρ]
    have hmod : ∀ hh : Nat, (H + hh) % 24 < 24 := fun hh => Nat.mod_lt _ (by decide)
    have hpl := plI_rng (nd := nd) (x5 := s.1 (2 + 4 * t) 5) (r := t) hd hl
    have hplt : plI nd (s.1 (2 + 4 * t) 5) t d l + 23 < 960 * nd := pI_lt t1 hpl.1 hpl.2
    have hne := hln d hd c1 t t3 t4
    refine ⟨?_, ?_, fun hh => ⟨s.2 32 (plI nd (s.1 (2 + 4 * t) 5) t d l + (H + hh) % 24), fun x hx => ?_, fun w hw => ?_⟩⟩
    · rcases t6 with ⟨q, _⟩ | ⟨q, _⟩ <;> rw [q] <;> rfl
    · rcases t6 with ⟨q, _⟩ | ⟨q, q'⟩
      · left; rw [q]; rfl
      · right
        refine ⟨by rw [q]; rfl, fun h' w k w9 k1 k8 => ?_⟩
        rw [hL, hL]
        exact lgF_congr (fun g hg => sr_same hn h t1 t2 t4 (by omega) (hmod _) hl w9 hg (by omega) (by omega) (hmod _) hl (by omega) hg (by omega) (Or.inl rfl) (Or.inl rfl) (Or.inl rfl) (Or.inl rfl) (Or.inr q') (Or.inl rfl))
    · have hx24 := hmod hh
      have hsz : (Int32.ofNat (960 * nd)).toInt = ((960 * nd : Nat) : Int) := ofNat_int (by omega)
      have hsum : ((s'.1 38 d) + x).toInt = ((plI nd (s.1 (2 + 4 * t) 5) t d l + (H + hh) % 24 : Nat) : Int) := by rw [i32_add (by omega) (by omega)]; omega
      unfold F_X3_leastsAt
      rw [if_neg (fun z => by have := i32_lt.mp z; omega), if_neg (fun z => by have := i32_lt.mp z; omega), if_neg (fun z => by have := i32_le.mp z; omega), if_pos (jin_val hsum (by omega)), nat_val hsum, h2]
    · have hw9 : w ≤ 9 ∧ (w = 0 ∨ lk (s.1 (2 + 4 * t) 5) 6) := by
        rcases t6 with ⟨q, q'⟩ | ⟨q, q'⟩
        · simp only [q] at hw
          exact ⟨hw, Or.inr q'⟩
        · simp only [q] at hw
          have : w = 0 := Nat.le_zero.mp hw
          exact ⟨by omega, Or.inl this⟩
      have he := hst d hd c1 (by omega) t _ _ t2 hpl.1 hpl.2 t4 hne ((H + hh) % 24) w (hmod hh) hw9.1 hw9.2
      refine entP_congr (fun k k1 k8 => ?_) he
      rw [hL]
      refine lgV_same hn h t1 t2 t4 (by omega) (hmod _) hpl.2 hw9.1 (by omega) (by omega) (hmod _) hl ?_ (Or.inl rfl) ?_
      · by_cases z : (s.1 (2 + 4 * t) 5 &&& (9 : Int32)) = 0
        · exact Or.inr ((m9 _).mp z)
        · exact Or.inl (if_neg z)
      · by_cases z : (s.1 (2 + 4 * t) 5 &&& (128 : Int32)) = 0
        · exact Or.inr ((m128 _).mp z)
        · exact Or.inl (if_neg z)
theorem canPass21_is {n : Nat} (hn : 400000 ≤ n) {s : jS} {nd l : Nat} {v2 v3 : Int32} {free : Nat → Bool} {ρ : Nat → Int32} (hnd : nd ≤ 8) (hN : s.1 29 0 = Int32.ofNat nd) (h4 : s.1 33 4 = Int32.ofNat nd) (hl : l ≤ 9) (e2 : v2.toInt = l) (htold : (s.1 18 7).toInt ≤ 4) (hρ : ∀ d : Nat, d < nd → s.1 21 d = ρ d) (hr : ∀ d : Nat, d < nd → -1 ≤ (ρ d).toInt ∧ (ρ d).toInt < (s.1 18 7).toInt) (hf : ∀ d : Nat, d < nd → (free d = true ↔ (jz (s.1 22 d) = true ∨ F_X8_hasKey v3 (Int32.ofNat d) = true))) :
    ∃ b s', F_X7_canPass_21 n v2 v3 s = some (b, s') ∧ cpM s s' ∧ ((b = true ∧ ∀ d : Nat, d < nd → cpD s nd free ρ l (s'.1 38 d) (s'.1 39 d) d) ∨ (b = false ∧ ∃ d0 : Nat, d0 < nd ∧ free d0 = false ∧ ∀ t : Nat, (ρ d0).toInt = t → ¬ jz (s.1 (2 + 4 * t) 6) = true)) := by
  have l0 : (0 : Int32).toInt = 0 := rfl
  have l1 : (1 : Int32).toInt = 1 := rfl
  have l8 : (8 : Int32).toInt = 8 := rfl
  have hndI : (Int32.ofNat nd).toInt = nd := ofNat_int (by omega)
  obtain ⟨e, he, hq⟩ := lp_rule (body := B_X7_canPass_21_3 n v2 v3)
    (I := fun q k => ∃ j : Nat, k = nd - j ∧ j ≤ nd ∧ q.1 = Int32.ofNat j ∧ cpM s q.2 ∧ ∀ d : Nat, d < j → cpD s nd free ρ l (q.2.1 38 d) (q.2.1 39 d) d)
    (Q := fun e => (∃ q, e = .inl q ∧ cpM s q.2 ∧ ∀ d : Nat, d < nd → cpD s nd free ρ l (q.2.1 38 d) (q.2.1 39 d) d) ∨ (∃ s', e = .inr (false, s') ∧ cpM s s' ∧ ∃ d0 : Nat, d0 < nd ∧ free d0 = false ∧ ∀ t : Nat, (ρ d0).toInt = t → ¬ jz (s.1 (2 + 4 * t) 6) = true)) (by
    rintro ⟨jI, s1⟩ k ⟨j, g0, g1, g2, g3, g4⟩
    simp only at g2 g3 g4
    subst g2
    have hjI : (Int32.ofNat j).toInt = j := ofNat_int (by omega)
    have s33 : s1.1 33 4 = Int32.ofNat nd := by rw [g3.1 33 (by decide) (by decide)]; exact h4
    by_cases c1 : (s1.1 33 4) ≤ Int32.ofNat j
    · left
      have c1' := i32_le.mp c1
      rw [s33] at c1'
      have : j = nd := by omega
      subst this
      exact ⟨.inl (Int32.ofNat j, s1), by unfold B_X7_canPass_21_3; dsimp only; rw [if_pos c1], Or.inl ⟨_, rfl, g3, g4⟩⟩
    · have c1' : ¬ (s1.1 33 4).toInt ≤ (Int32.ofNat j).toInt := fun z => c1 (i32_le.mpr z)
      rw [s33] at c1'
      have hj : j < nd := by omega
      have jj : jin (Int32.ofNat j) 8 = true := jin_val hjI (by omega)
      have nj : (Int32.ofNat j).toNatClampNeg = j := nat_val hjI
      have hnext : Int32.ofNat j + 1 = Int32.ofNat (j + 1) := i32_eq.mpr (by rw [i32_add (by omega) (by omega), ofNat_int (by omega), ofNat_int (by omega)]; omega)
      have s22 : s1.1 22 = s.1 22 := g3.1 22 (by decide) (by decide)
      have sru : s1.1 21 j = ρ j := by rw [g3.1 21 (by decide) (by decide)]; exact hρ j hj
      have c2 : ¬ (8 : Int32) ≤ Int32.ofNat j := fun z => by have := i32_le.mp z; omega
      have hup : ∀ x y : Int32, (∀ d : Nat, d < j → cpD s nd free ρ l ((upI (upI s1 38 j x) 39 j y).1 38 d) ((upI (upI s1 38 j x) 39 j y).1 39 d) d) ∧ (upI (upI s1 38 j x) 39 j y).1 38 j = x ∧ (upI (upI s1 38 j x) 39 j y).1 39 j = y := by
        intro x y
        refine ⟨fun d hd => ?_, ?_, ?_⟩
        · rw [upI_1, if_neg (by decide), upI_1, if_pos rfl, upI_1, if_pos rfl, upI_1, if_neg (by decide), upd_ne (by omega), upd_ne (by omega)]
          exact g4 d hd
        · rw [upI_1, if_neg (by decide), upI_1, if_pos rfl, upd_eq rfl]
        · rw [upI_1, if_pos rfl, upd_eq rfl]
      have hstep : ∀ x y : Int32, cpD s nd free ρ l x y j → ∀ d : Nat, d < j + 1 → cpD s nd free ρ l ((upI (upI s1 38 j x) 39 j y).1 38 d) ((upI (upI s1 38 j x) 39 j y).1 39 d) d := by
        intro x y hxy d hd
        obtain ⟨u1, u2, u3⟩ := hup x y
        by_cases z : d = j
        · rw [z, u2, u3]; exact hxy
        · exact u1 d (by omega)
      by_cases hfj : free j = true
      · right
        refine ⟨(Int32.ofNat (j + 1), upI (upI s1 38 j (-1)) 39 j 0), nd - (j + 1), by omega, ?_, j + 1, rfl, by omega, rfl, cpM_2 g3 _ _ _, hstep _ _ (Or.inl ⟨hfj, rfl, rfl⟩)⟩
        have h41 : J_X7_canPass_21_41 n v2 v3 (Int32.ofNat j) s1 = some (.inl (Int32.ofNat (j + 1), upI (upI s1 38 j (-1)) 39 j 0)) := by
          unfold J_X7_canPass_21_41 J_X7_canPass_21_46 J_X7_canPass_21_69 J_X7_canPass_21_98
          rw [if_pos rfl, if_pos rfl, if_pos jj, jl_1, if_pos rfl, if_pos jj, jl_1, nj, hnext]
        unfold B_X7_canPass_21_3
        dsimp only
        rw [if_neg c1, if_neg c2, if_pos jj, nj, s22]
        rcases (hf j hj).mp hfj with q | q
        · rw [if_pos q, h41]
        · by_cases z : jz (s.1 22 j) = true
          · rw [if_pos z, h41]
          · rw [if_neg z, if_pos q, h41]
      · have hnf : ¬ jz (s.1 22 j) = true ∧ ¬ F_X8_hasKey v3 (Int32.ofNat j) = true := ⟨fun z => hfj ((hf j hj).mpr (Or.inl z)), fun z => hfj ((hf j hj).mpr (Or.inr z))⟩
        have hff : free j = false := by
          cases q : free j with
          | false => rfl
          | true => exact absurd q hfj
        have hbody : B_X7_canPass_21_3 n v2 v3 (Int32.ofNat j, s1) = ((F_X3_isOpening (ρ j) s1).bind fun p61 => (if p61 = true then J_X7_canPass_21_69 n v2 v3 (Int32.ofNat j) false s1 else some (.inr (.inr (false, s1))))) := by
          unfold B_X7_canPass_21_3
          dsimp only
          rw [if_neg c1, if_neg c2, if_pos jj, nj, s22, if_neg hnf.1, if_neg hnf.2]
          unfold J_X7_canPass_21_46
          rw [if_neg (fun z => by cases z), if_pos jj, nj, sru]
        have hrj := hr j hj
        have s18 : s1.1 18 = s.1 18 := g3.1 18 (by decide) (by decide)
        by_cases hneg : (ρ j).toInt < 0
        · left
          have hop : F_X3_isOpening (ρ j) s1 = some false := by
            unfold F_X3_isOpening
            rw [if_pos (i32_lt.mpr (by omega))]
          exact ⟨.inr (false, s1), by rw [hbody, hop, Option.bind_some, if_neg (fun z => by cases z)], Or.inr ⟨s1, rfl, g3, j, hj, hff, fun t ht => by omega⟩⟩
        · obtain ⟨t, ht⟩ : ∃ t : Nat, (ρ j).toInt = t := ⟨(ρ j).toInt.toNat, by omega⟩
          have ht4 : t < 4 := by omega
          have hop := opening_is (c := s1) ht ht4 (by rw [s18]; omega)
          have sT : s1.1 (2 + 4 * t) = s.1 (2 + 4 * t) := g3.1 _ (by omega) (by omega)
          rw [sT] at hop
          by_cases hz : jz (s.1 (2 + 4 * t) 6) = true
          · right
            rw [hz] at hop
            obtain ⟨p, hp1, hp2⟩ := placeOf_is (s := s1) (v1 := ρ j) (v2 := Int32.ofNat j) (v3 := v2) hnd (by rw [g3.1 29 (by decide) (by decide), hN]; exact hndI) ht hjI e2 ht4 hj hl
            rw [sT] at hp2
            have h98 : J_X7_canPass_21_98 n v2 v3 (Int32.ofNat j) false (Int32.ofNat j) p s1 = some (.inl (Int32.ofNat (j + 1), upI (upI s1 38 j p) 39 j (if ((s.1 (2 + 4 * t) 5) &&& (64 : Int32)) = 0 then 0 else 9))) := by
              have hlk : F_X3_looksAtWaited (ρ j) (upI s1 38 j p) = some (if ((s.1 (2 + 4 * t) 5) &&& (64 : Int32)) = 0 then false else true) := by
                rw [lkW_is ht ht4, upI_1, if_neg (by omega : ¬ 2 + 4 * t = 38), sT]
              have hru : (upI s1 38 j p).1 21 j = ρ j := sru
              unfold J_X7_canPass_21_98
              rw [if_pos jj, jl_1, if_neg (fun z => by cases z), if_pos jj, nj, hru, hlk, Option.bind_some]
              by_cases z : ((s.1 (2 + 4 * t) 5) &&& (64 : Int32)) = 0
              · rw [if_pos z, if_pos z, if_neg (fun y => by cases y), jl_1, hnext]
              · rw [if_neg z, if_neg z, if_pos rfl, jl_1, hnext]
            refine ⟨(Int32.ofNat (j + 1), upI (upI s1 38 j p) 39 j (if ((s.1 (2 + 4 * t) 5) &&& (64 : Int32)) = 0 then 0 else 9)), nd - (j + 1), by omega, ?_, j + 1, rfl, by omega, rfl, cpM_2 g3 _ _ _, hstep _ _ (Or.inr ⟨hff, t, ht4, by omega, ht, hz, hp2, ?_⟩)⟩
            · rw [hbody, hop, Option.bind_some, if_pos rfl]
              unfold J_X7_canPass_21_69
              rw [if_neg (fun z => by cases z), if_pos jj, nj, sru, hp1, Option.bind_some, h98]
            · by_cases z : ((s.1 (2 + 4 * t) 5) &&& (64 : Int32)) = 0
              · exact Or.inr ⟨if_pos z, (m64 _).mp z⟩
              · refine Or.inl ⟨if_neg z, ?_⟩
                by_cases y : lk (s.1 (2 + 4 * t) 5) 6
                · exact y
                · exact absurd ((m64 _).mpr y) z
          · left
            have hzf : jz (s.1 (2 + 4 * t) 6) = false := by
              cases q : jz (s.1 (2 + 4 * t) 6) with
              | false => rfl
              | true => exact absurd q hz
            rw [hzf] at hop
            exact ⟨.inr (false, s1), by rw [hbody, hop, Option.bind_some, if_neg (fun z => by cases z)], Or.inr ⟨s1, rfl, g3, j, hj, hff, fun t' ht' => by
              have : t' = t := by omega
              rw [this]
              exact hz⟩⟩) nd n (0, s) (by omega) ⟨0, rfl, by omega, rfl, cpM_rfl, fun d hd => absurd hd (Nat.not_lt_zero d)⟩
  rcases hq with ⟨q, q1, q2, q3⟩ | ⟨s', q1, q2, q3⟩
  · exact ⟨true, q.2, by unfold F_X7_canPass_21; rw [he, Option.bind_some, q1]; rfl, q2, Or.inl ⟨rfl, q3⟩⟩
  · exact ⟨false, s', by unfold F_X7_canPass_21; rw [he, Option.bind_some, q1]; rfl, q2, Or.inr ⟨rfl, q3⟩⟩
theorem canPass52_is {n : Nat} (hn : 400000 ≤ n) {s : jS} {nd l : Nat} {v2 v3 : Int32} {free : Nat → Bool} {ρ : Nat → Int32} (hnd : nd ≤ 8) (hN : s.1 29 0 = Int32.ofNat nd) (h4 : s.1 33 4 = Int32.ofNat nd) (hl : l ≤ 9) (e2 : v2.toInt = l) (htold : (s.1 18 7).toInt ≤ 4) (hρ : ∀ d : Nat, d < nd → s.1 52 d = ρ d) (hr : ∀ d : Nat, d < nd → -1 ≤ (ρ d).toInt ∧ (ρ d).toInt < (s.1 18 7).toInt) (hf : ∀ d : Nat, d < nd → (free d = true ↔ (jz (s.1 22 d) = true ∨ F_X8_hasKey v3 (Int32.ofNat d) = true))) :
    ∃ b s', F_X7_canPass_52 n v2 v3 s = some (b, s') ∧ cpM s s' ∧ ((b = true ∧ ∀ d : Nat, d < nd → cpD s nd free ρ l (s'.1 38 d) (s'.1 39 d) d) ∨ (b = false ∧ ∃ d0 : Nat, d0 < nd ∧ free d0 = false ∧ ∀ t : Nat, (ρ d0).toInt = t → ¬ jz (s.1 (2 + 4 * t) 6) = true)) := by
  have l0 : (0 : Int32).toInt = 0 := rfl
  have l1 : (1 : Int32).toInt = 1 := rfl
  have l8 : (8 : Int32).toInt = 8 := rfl
  have hndI : (Int32.ofNat nd).toInt = nd := ofNat_int (by omega)
  obtain ⟨e, he, hq⟩ := lp_rule (body := B_X7_canPass_52_3 n v2 v3)
    (I := fun q k => ∃ j : Nat, k = nd - j ∧ j ≤ nd ∧ q.1 = Int32.ofNat j ∧ cpM s q.2 ∧ ∀ d : Nat, d < j → cpD s nd free ρ l (q.2.1 38 d) (q.2.1 39 d) d)
    (Q := fun e => (∃ q, e = .inl q ∧ cpM s q.2 ∧ ∀ d : Nat, d < nd → cpD s nd free ρ l (q.2.1 38 d) (q.2.1 39 d) d) ∨ (∃ s', e = .inr (false, s') ∧ cpM s s' ∧ ∃ d0 : Nat, d0 < nd ∧ free d0 = false ∧ ∀ t : Nat, (ρ d0).toInt = t → ¬ jz (s.1 (2 + 4 * t) 6) = true)) (by
    rintro ⟨jI, s1⟩ k ⟨j, g0, g1, g2, g3, g4⟩
    simp only at g2 g3 g4
    subst g2
    have hjI : (Int32.ofNat j).toInt = j := ofNat_int (by omega)
    have s33 : s1.1 33 4 = Int32.ofNat nd := by rw [g3.1 33 (by decide) (by decide)]; exact h4
    by_cases c1 : (s1.1 33 4) ≤ Int32.ofNat j
    · left
      have c1' := i32_le.mp c1
      rw [s33] at c1'
      have : j = nd := by omega
      subst this
      exact ⟨.inl (Int32.ofNat j, s1), by unfold B_X7_canPass_52_3; dsimp only; rw [if_pos c1], Or.inl ⟨_, rfl, g3, g4⟩⟩
    · have c1' : ¬ (s1.1 33 4).toInt ≤ (Int32.ofNat j).toInt := fun z => c1 (i32_le.mpr z)
      rw [s33] at c1'
      have hj : j < nd := by omega
      have jj : jin (Int32.ofNat j) 8 = true := jin_val hjI (by omega)
      have nj : (Int32.ofNat j).toNatClampNeg = j := nat_val hjI
      have hnext : Int32.ofNat j + 1 = Int32.ofNat (j + 1) := i32_eq.mpr (by rw [i32_add (by omega) (by omega), ofNat_int (by omega), ofNat_int (by omega)]; omega)
      have s22 : s1.1 22 = s.1 22 := g3.1 22 (by decide) (by decide)
      have sru : s1.1 52 j = ρ j := by rw [g3.1 52 (by decide) (by decide)]; exact hρ j hj
      have c2 : ¬ (8 : Int32) ≤ Int32.ofNat j := fun z => by have := i32_le.mp z; omega
      have hup : ∀ x y : Int32, (∀ d : Nat, d < j → cpD s nd free ρ l ((upI (upI s1 38 j x) 39 j y).1 38 d) ((upI (upI s1 38 j x) 39 j y).1 39 d) d) ∧ (upI (upI s1 38 j x) 39 j y).1 38 j = x ∧ (upI (upI s1 38 j x) 39 j y).1 39 j = y := by
        intro x y
        refine ⟨fun d hd => ?_, ?_, ?_⟩
        · rw [upI_1, if_neg (by decide), upI_1, if_pos rfl, upI_1, if_pos rfl, upI_1, if_neg (by decide), upd_ne (by omega), upd_ne (by omega)]
          exact g4 d hd
        · rw [upI_1, if_neg (by decide), upI_1, if_pos rfl, upd_eq rfl]
        · rw [upI_1, if_pos rfl, upd_eq rfl]
      have hstep : ∀ x y : Int32, cpD s nd free ρ l x y j → ∀ d : Nat, d < j + 1 → cpD s nd free ρ l ((upI (upI s1 38 j x) 39 j y).1 38 d) ((upI (upI s1 38 j x) 39 j y).1 39 d) d := by
        intro x y hxy d hd
        obtain ⟨u1, u2, u3⟩ := hup x y
        by_cases z : d = j
        · rw [z, u2, u3]; exact hxy
        · exact u1 d (by omega)
      by_cases hfj : free j = true
      · right
        refine ⟨(Int32.ofNat (j + 1), upI (upI s1 38 j (-1)) 39 j 0), nd - (j + 1), by omega, ?_, j + 1, rfl, by omega, rfl, cpM_2 g3 _ _ _, hstep _ _ (Or.inl ⟨hfj, rfl, rfl⟩)⟩
        have h41 : J_X7_canPass_52_41 n v2 v3 (Int32.ofNat j) s1 = some (.inl (Int32.ofNat (j + 1), upI (upI s1 38 j (-1)) 39 j 0)) := by
          unfold J_X7_canPass_52_41 J_X7_canPass_52_46 J_X7_canPass_52_69 J_X7_canPass_52_98
          rw [if_pos rfl, if_pos rfl, if_pos jj, jl_1, if_pos rfl, if_pos jj, jl_1, nj, hnext]
        unfold B_X7_canPass_52_3
        dsimp only
        rw [if_neg c1, if_neg c2, if_pos jj, nj, s22]
        rcases (hf j hj).mp hfj with q | q
        · rw [if_pos q, h41]
        · by_cases z : jz (s.1 22 j) = true
          · rw [if_pos z, h41]
          · rw [if_neg z, if_pos q, h41]
      · have hnf : ¬ jz (s.1 22 j) = true ∧ ¬ F_X8_hasKey v3 (Int32.ofNat j) = true := ⟨fun z => hfj ((hf j hj).mpr (Or.inl z)), fun z => hfj ((hf j hj).mpr (Or.inr z))⟩
        have hff : free j = false := by
          cases q : free j with
          | false => rfl
          | true => exact absurd q hfj
        have hbody : B_X7_canPass_52_3 n v2 v3 (Int32.ofNat j, s1) = ((F_X3_isOpening (ρ j) s1).bind fun p61 => (if p61 = true then J_X7_canPass_52_69 n v2 v3 (Int32.ofNat j) false s1 else some (.inr (.inr (false, s1))))) := by
          unfold B_X7_canPass_52_3
          dsimp only
          rw [if_neg c1, if_neg c2, if_pos jj, nj, s22, if_neg hnf.1, if_neg hnf.2]
          unfold J_X7_canPass_52_46
          rw [if_neg (fun z => by cases z), if_pos jj, nj, sru]
        have hrj := hr j hj
        have s18 : s1.1 18 = s.1 18 := g3.1 18 (by decide) (by decide)
        by_cases hneg : (ρ j).toInt < 0
        · left
          have hop : F_X3_isOpening (ρ j) s1 = some false := by
            unfold F_X3_isOpening
            rw [if_pos (i32_lt.mpr (by omega))]
          exact ⟨.inr (false, s1), by rw [hbody, hop, Option.bind_some, if_neg (fun z => by cases z)], Or.inr ⟨s1, rfl, g3, j, hj, hff, fun t ht => by omega⟩⟩
        · obtain ⟨t, ht⟩ : ∃ t : Nat, (ρ j).toInt = t := ⟨(ρ j).toInt.toNat, by omega⟩
          have ht4 : t < 4 := by omega
          have hop := opening_is (c := s1) ht ht4 (by rw [s18]; omega)
          have sT : s1.1 (2 + 4 * t) = s.1 (2 + 4 * t) := g3.1 _ (by omega) (by omega)
          rw [sT] at hop
          by_cases hz : jz (s.1 (2 + 4 * t) 6) = true
          · right
            rw [hz] at hop
            obtain ⟨p, hp1, hp2⟩ := placeOf_is (s := s1) (v1 := ρ j) (v2 := Int32.ofNat j) (v3 := v2) hnd (by rw [g3.1 29 (by decide) (by decide), hN]; exact hndI) ht hjI e2 ht4 hj hl
            rw [sT] at hp2
            have h98 : J_X7_canPass_52_98 n v2 v3 (Int32.ofNat j) false (Int32.ofNat j) p s1 = some (.inl (Int32.ofNat (j + 1), upI (upI s1 38 j p) 39 j (if ((s.1 (2 + 4 * t) 5) &&& (64 : Int32)) = 0 then 0 else 9))) := by
              have hlk : F_X3_looksAtWaited (ρ j) (upI s1 38 j p) = some (if ((s.1 (2 + 4 * t) 5) &&& (64 : Int32)) = 0 then false else true) := by
                rw [lkW_is ht ht4, upI_1, if_neg (by omega : ¬ 2 + 4 * t = 38), sT]
              have hru : (upI s1 38 j p).1 52 j = ρ j := sru
              unfold J_X7_canPass_52_98
              rw [if_pos jj, jl_1, if_neg (fun z => by cases z), if_pos jj, nj, hru, hlk, Option.bind_some]
              by_cases z : ((s.1 (2 + 4 * t) 5) &&& (64 : Int32)) = 0
              · rw [if_pos z, if_pos z, if_neg (fun y => by cases y), jl_1, hnext]
              · rw [if_neg z, if_neg z, if_pos rfl, jl_1, hnext]
            refine ⟨(Int32.ofNat (j + 1), upI (upI s1 38 j p) 39 j (if ((s.1 (2 + 4 * t) 5) &&& (64 : Int32)) = 0 then 0 else 9)), nd - (j + 1), by omega, ?_, j + 1, rfl, by omega, rfl, cpM_2 g3 _ _ _, hstep _ _ (Or.inr ⟨hff, t, ht4, by omega, ht, hz, hp2, ?_⟩)⟩
            · rw [hbody, hop, Option.bind_some, if_pos rfl]
              unfold J_X7_canPass_52_69
              rw [if_neg (fun z => by cases z), if_pos jj, nj, sru, hp1, Option.bind_some, h98]
            · by_cases z : ((s.1 (2 + 4 * t) 5) &&& (64 : Int32)) = 0
              · exact Or.inr ⟨if_pos z, (m64 _).mp z⟩
              · refine Or.inl ⟨if_neg z, ?_⟩
                by_cases y : lk (s.1 (2 + 4 * t) 5) 6
                · exact y
                · exact absurd ((m64 _).mpr y) z
          · left
            have hzf : jz (s.1 (2 + 4 * t) 6) = false := by
              cases q : jz (s.1 (2 + 4 * t) 6) with
              | false => rfl
              | true => exact absurd q hz
            rw [hzf] at hop
            exact ⟨.inr (false, s1), by rw [hbody, hop, Option.bind_some, if_neg (fun z => by cases z)], Or.inr ⟨s1, rfl, g3, j, hj, hff, fun t' ht' => by
              have : t' = t := by omega
              rw [this]
              exact hz⟩⟩) nd n (0, s) (by omega) ⟨0, rfl, by omega, rfl, cpM_rfl, fun d hd => absurd hd (Nat.not_lt_zero d)⟩
  rcases hq with ⟨q, q1, q2, q3⟩ | ⟨s', q1, q2, q3⟩
  · exact ⟨true, q.2, by unfold F_X7_canPass_52; rw [he, Option.bind_some, q1]; rfl, q2, Or.inl ⟨rfl, q3⟩⟩
  · exact ⟨false, s', by unfold F_X7_canPass_52; rw [he, Option.bind_some, q1]; rfl, q2, Or.inr ⟨rfl, q3⟩⟩
