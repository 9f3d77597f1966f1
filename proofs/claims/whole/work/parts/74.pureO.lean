/-! a sum: one token, ahead of an operand -/
theorem bind_id {α : Type _} (x : Option α) : (x.bind fun p => some p) = x := by cases x <;> rfl
theorem take_6 {n : Nat} {v : Int32} {c : jS} (h : c.1 49 5 = 6) : F_X1_take n v c = F_X1_takeOne n v c := by
  unfold F_X1_take
  rw [h, if_neg (by decide), if_neg (by decide), if_neg (by decide), if_neg (by decide), if_neg (by decide), if_neg (by decide), if_pos rfl, bind_id]
theorem take_7 {n : Nat} {v : Int32} {c : jS} (h : c.1 49 5 = 7) : F_X1_take n v c = F_X1_takeBehindOne n v c := by
  unfold F_X1_take
  rw [h, if_neg (by decide), if_neg (by decide), if_neg (by decide), if_neg (by decide), if_neg (by decide), if_neg (by decide), if_neg (by decide), bind_id]
theorem tokA_M {c m m' : jS} (h : tokA c m) (h8 : m'.1 0 8 = m.1 0 8) (h9 : m'.1 0 9 = m.1 0 9) (h10 : m'.1 0 10 = m.1 0 10) (h11 : m'.1 0 11 = m.1 0 11) (h2 : m'.2 0 12 = m.2 0 12) : tokA c m' := by
  unfold tokA tokB
  rw [h8, h9, h10, h11, h2]
  exact h
theorem tokA_pM {t : Nat} {c m m' : jS} (h : tokA c m) (p : pM t m m') : tokA c m' := tokA_M h (p.2.1 8 (by decide) (by decide) (by decide)) (p.2.1 9 (by decide) (by decide) (by decide)) (p.2.1 10 (by decide) (by decide) (by decide)) (p.2.1 11 (by decide) (by decide) (by decide)) (by rw [p.2.2.2])
theorem tape_pM {t : Nat} {c m m' : jS} (h : rTape (c.1 27) (c.1 28) (m.1 0) (m.1 4)) (p : pM t m m') : rTape (c.1 27) (c.1 28) (m'.1 0) (m'.1 4) := by
  obtain ⟨t1, t2, t3⟩ := h
  unfold rTape
  rw [p.2.1 5 (by decide) (by decide) (by decide), p.1 4 (by decide) (by decide) (by decide)]
  exact ⟨t1, t2, t3⟩
theorem sum_len {pl : List (Fin 6)} {nb : Nat} (h : okP pl) (h8 : deep pl + nb ≤ 8) : pl.length ≤ 26 ∧ bins pl ≤ 26 := by
  have := (len_le pl h).1
  have := len_eq pl
  omega
theorem notEnd {c m : jS} (hT : rTape (c.1 27) (c.1 28) (m.1 0) (m.1 4)) (hk : tokA c m) : (c.1 27 4).toInt ≤ 300 ∧ (¬ c.1 27 2 = 1 → (c.1 27 4).toInt < 300) := by
  obtain ⟨⟨k1, k2, k3, k4, k5, k6⟩, _⟩ := hk
  have := hT.2.1.2
  exact ⟨by omega, fun z => by have := k6 z; omega⟩
theorem lev_neg : F_X1_levelOf 24 = 7 := by decide
theorem lev_all : ∀ p : Fin 6, (¬ p = 0 → F_X1_levelOf (oC p) < 7) ∧ (p = 5 → F_X1_levelOf (oC p) < 5) ∧ (1 ≤ p.val ∧ p.val ≤ 4 → ¬ F_X1_levelOf (oC p) < 5) ∧ (3 ≤ p.val ∧ p.val ≤ 4 → ¬ F_X1_levelOf (oC p) < 6) ∧ (p = 5 ∨ p = 1 ∨ p = 2 → F_X1_levelOf (oC p) < 6) := by decide
theorem ref_all : ∀ p : Fin 6, (oR p = 2 ↔ p = 0) ∧ (1 ≤ p.val ∧ p.val ≤ 4 → ¬ 40 ≤ oR p ∧ ¬ oR p < 3) ∧ (3 ≤ p.val ∧ p.val ≤ 4 → ¬ oR p < 5) ∧ (p = 5 → 40 ≤ oR p) ∧ (p = 5 ∨ p = 1 ∨ p = 2 → 40 ≤ oR p ∨ oR p < 5) := by decide
theorem lt_tr {a : Int32} {x y : Int32} (h : a < x) (hxy : x.toInt ≤ y.toInt) : a < y := i32_lt.mpr (by have := i32_lt.mp h; omega)
/-- heads of the class's pile behind R -/
theorem headC {R : List (Fin 6)} {base : List Int32} {v : Int32} (hR : ∀ q r, R = q :: r → F_X1_levelOf (oC q) < v) (hb : ∀ p r, base = p :: r → F_X1_levelOf p < 5) (hv : (5 : Int32).toInt ≤ v.toInt) : ∀ p r, R.map oC ++ base = p :: r → F_X1_levelOf p < v := by
  intro p r h
  cases R with
  | nil => exact lt_tr (hb p r h) hv
  | cons q R' =>
    obtain ⟨e, _⟩ := List.cons.inj h
    rw [← e]
    exact hR q R' rfl
theorem headM {R : List (Fin 6)} {Q : Int32 → Prop} (hR : ∀ q r, R = q :: r → Q (oR q)) : ∀ p r, R.map oR = p :: r → Q p := by
  intro p r h
  cases R with
  | nil => cases h
  | cons q R' =>
    obtain ⟨e, _⟩ := List.cons.inj h
    rw [← e]
    exact hR q R' rfl
theorem memMap {f : Fin 6 → Int32} {P : List (Fin 6)} {Q : Int32 → Prop} (h : ∀ p ∈ P, Q (f p)) : ∀ x ∈ P.map f, Q x := by
  intro x hx
  obtain ⟨p, hp, rfl⟩ := List.mem_map.mp hx
  exact h p hp
/-- an operand taken -/
theorem operand {n t : Nat} (hn : 400000 ≤ n) (ht : t < 4) {ws : List (Int32 × Int32 × Int32)} {pl : List (Fin 6)} {base : List Int32} {nb a0 b : Nat} (hB : baseOK base nb a0 b) {c m : jS} (h : sumR t ws pl base nb a0 b false c m) (hne : ¬ c.1 27 2 = 1) {w o v : Int32}
    (hc : ∃ c1, F_X1_take n (c.1 27 2) c = F_X1_endOne n c1 ∧ cE t (w :: w1 ws) (pl.map oC ++ base) (deep pl + nb) c1 ∧ wC t c c1 ∧ c1.1 27 = c.1 27 ∧ (∀ j : Nat, ¬ j = 6 → ¬ j = 7 → c1.1 49 j = c.1 49 j) ∧ nmB (c1.1 (2 + 4 * t) 5) ((w, o, v) :: ws))
    (hm : F_X9_beginOne n m = (F_X9_emit o v m).bind fun p26 => ((F_X9_nextToken n p26).bind fun p30 => ((F_X9_whole n p30).bind fun p34 => some (0, p34))))
    (hst : ∀ a b : Nat, a + b < 64 → opStep w o v a b (a + 1) b) :
    ∃ m' c' ws' pl', F_X9_beginOne n m = some (0, m') ∧ stp n c c' ∧ sumR t ws' pl' base nb a0 b true c' m' ∧ wC t c c' ∧ wM t m m' ∧ c'.1 49 9 = c.1 49 9 := by
  obtain ⟨hB1, hB2, hB3, hB4, hB5⟩ := hB
  obtain ⟨s1, s2, ⟨s3, s4, s5, s6, s7⟩, ⟨s8, s9, s10, s11, s12⟩, s13, s14⟩ := h
  obtain ⟨c1, a1, a2, a3, a4, a5, a6⟩ := hc
  obtain ⟨b1, b2⟩ := sum_len s4 s6
  obtain ⟨e1, e2⟩ := notEnd s13 s14
  have e2' := e2 hne
  obtain ⟨P, R, hpl, hP, hR⟩ := split_neg pl
  subst hpl
  obtain ⟨q1, q2, q3, q4⟩ := cnt_neg P hP
  rw [deep_app] at s1 s2 s6 a2
  rw [bins_app] at s3 b2
  rw [pars_app] at s8
  have hlen : (P ++ R).length = P.length + R.length := List.length_append
  rw [hlen] at b1 s7
  -- the class ends the operand
  have a2' : cE t (w :: w1 ws) (P.map oC ++ (R.map oC ++ base)) (nests (P.map oC) + (deep R + nb)) c1 := by
    rw [q4, ← List.append_assoc, ← List.map_append, show P.length + (deep R + nb) = deep P + deep R + nb from by omega]
    exact a2
  have hwl : (w :: w1 ws).length = ws.length + 1 := by show (w1 ws).length + 1 = _; rw [w1_len]
  have hml : (P.map oC).length = P.length := List.length_map ..
  have hml2 : (R.map oC ++ base).length = R.length + base.length := by rw [List.length_append, List.length_map]
  obtain ⟨c2, d1, d2, d3⟩ := join_c (n := n) (v := 7) hn ht (headC (v := 7) (fun q r hq => (lev_all q).1 (hR q r hq)) hB1 (by decide)) (memMap (Q := fun x => ¬ F_X1_levelOf x < 7) (fun p hp => by rw [hP p hp]; decide)) a2' (by omega) (by omega) (by omega)
  have hend : F_X1_endOne n c1 = some (upI c2 49 5 7) := by
    unfold F_X1_endOne
    rw [d1, Option.bind_some, jl_1]
  -- the reference's word
  obtain ⟨m1, g1, g2, g3⟩ := emit_m ht s2 (by rw [w2_len]; omega) o v
  have hc3 : wC t c (upI c2 49 5 7) := wC_49 ht (wC_tr a3 (wC_p ht d3)) (by decide) _
  obtain ⟨c4, m2, k1, k2, k3, k4, k5, k6, k7⟩ := advance hn ht (c1 := upI c2 49 5 7) (m1 := m1) s13 s14 hne hc3 (by rw [upI_1, if_neg (by decide), d3.1 27 (by omega) (by omega) (by decide) (by decide)]; exact a4) (wM_p g3) (g3.2.1 8 (by decide) (by decide) (by decide))
  have g2' : mE t ((o, v) :: w2 ws) (P.map oR ++ R.map oR) ((P.map oR).length + (deep R + nb)) m2 := by
    rw [List.length_map, ← List.map_append, show P.length + (deep R + nb) = deep P + deep R + nb from by omega]
    exact mE_fr g2 k4
  have hol : ((o, v) :: w2 ws).length = ws.length + 1 := by show (w2 ws).length + 1 = _; rw [w2_len]
  have hmr : (P.map oR).length = P.length := List.length_map ..
  have hmr2 : (R.map oR).length = R.length := List.length_map ..
  obtain ⟨m3, f1, f2, f3⟩ := wholeAll (n := n) hn ht (headM (Q := fun x => ¬ x = 2) (fun q r hq z => hR q r hq ((ref_all q).1.mp z))) (memMap (Q := fun x => x = 2) (fun p hp => by rw [hP p hp]; rfl)) g2' (by omega) (by omega) (by omega)
  have h27 : c4.1 (2 + 4 * t) = c2.1 (2 + 4 * t) := by rw [k3.1 _ (by omega), upI_1, if_neg (by omega)]
  have h49 : ∀ j : Nat, ¬ j = 5 → ¬ j = 6 → ¬ j = 7 → c4.1 49 j = c.1 49 j := fun j j1 j2 j3 => by
    rw [k3.1 49 (by decide), upI_1, if_pos rfl, upd_ne j1, d3.2.2.1 j j2 j3, a5 j j2 j3]
  have k5' : tokA c4 (upI m2 0 20 (jb true)) := tokA_M k5 rfl rfl rfl rfl rfl
  have k6' : rTape (c4.1 27) (c4.1 28) ((upI m2 0 20 (jb true)).1 0) ((upI m2 0 20 (jb true)).1 4) := k6
  have hcode : codeL (app3 P ((w, o, v) :: ws)) (a0 + bins R + 1) b := by
    have hs := hst (a0 + (bins P + bins R)) b (by omega)
    have s3' : codeL ws (a0 + (bins P + bins R)) b := s3
    have : codeL ((w, o, v) :: ws) (a0 + (bins P + bins R) + 1) b := ⟨a0 + (bins P + bins R), b, s3', by omega, hs⟩
    rw [q2, Nat.zero_add] at this
    exact codeL_neg (by omega) (by omega) P _ hP this
  refine ⟨m3, c4, app3 P ((w, o, v) :: ws), R, ?_, ⟨fun z => hne z.2, k7, h49 1 (by decide) (by decide) (by decide), _, a1.trans hend, ?_, k1⟩, ⟨?_, ?_, ⟨hcode, okP_tail s4, fun _ r z => hR 0 r z rfl, by omega, ?_⟩, ⟨?_, ?_, ?_, ?_, ?_⟩, tape_pM k6' f3, tokA_pM k5' f3⟩, wC_tr hc3 (wC_fr ht k3), wM_tr (wM_tr (wM_p g3) (wM_fr k4)) (wM_tr (wM_0 wM_rfl (by decide) _) (wM_p f3)), h49 9 (by decide) (by decide) (by decide)⟩
  · rw [hm, g1, Option.bind_some, k2, Option.bind_some, f1, Option.bind_some]
  · rw [upI_1, if_pos rfl, upd_ne (by decide), d3.2.2.1 0 (by decide) (by decide), a5 0 (by decide) (by decide)]; exact s11
  · rw [app3_1]
    exact cE_fr ht (cE_49 ht d2 (by decide) (by decide) (by decide) 7) k3
  · rw [app3_2]
    exact f2
  · rw [app3_len]
    show ((P.length + (ws.length + 1) + R.length + base.length : Nat) : Int) ≤ _
    omega
  · rw [h49 8 (by decide) (by decide) (by decide), s8, q3, Nat.zero_add]
  · rw [f3.2.1 20 (by decide) (by decide) (by decide)]; rfl
  · rw [k3.1 49 (by decide), upI_1, if_pos rfl, upd_eq rfl]; rfl
  · rw [h49 0 (by decide) (by decide) (by decide)]; exact s11
  · rw [h27, d3.2.1 5 (by decide)]
    exact nmB_app P _ a6
