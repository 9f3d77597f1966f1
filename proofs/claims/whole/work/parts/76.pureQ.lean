/-! a sum: one token behind an operand -/
theorem behind_is {n : Nat} {v : Int32} {c : jS} : ∃ k0, F_X1_takeBehindOne n v c = J_X1_takeBehindOne_24 n v (F_X1_levelOf v) k0 c ∧ (k0 = true ↔ jz (c.1 49 9) = true ∧ c.1 49 8 = 0) := by
  unfold F_X1_takeBehindOne J_X1_takeBehindOne_23
  by_cases h1 : jz (c.1 49 9) = true
  · by_cases h2 : c.1 49 8 = 0
    · exact ⟨true, by rw [if_pos h1, if_pos h2], fun _ => ⟨h1, h2⟩, fun _ => rfl⟩
    · exact ⟨false, by rw [if_pos h1, if_neg h2], fun z => (by cases z), fun z => absurd z.2 h2⟩
  · exact ⟨false, by rw [if_neg h1], fun z => (by cases z), fun z => absurd z.1 h1⟩
/-- an operator behind an operand -/
theorem binStep {n t : Nat} (hn : 400000 ≤ n) (ht : t < 4) {ws : List (Int32 × Int32 × Int32)} {P R : List (Fin 6)} {base : List Int32} {nb a0 b : Nat} (hB : baseOK base nb a0 b) {c m : jS} (h : sumR t ws (P ++ R) base nb a0 b true c m) (hne : ¬ c.1 27 2 = 1) {p : Fin 6} {v v' : Int32}
    (hp : 1 ≤ p.val ∧ p.val ≤ 4) (hP : ∀ q ∈ P, 1 ≤ q.val ∧ q.val ≤ 4) (hPc : ∀ q ∈ P, ¬ F_X1_levelOf (oC q) < v) (hPm : ∀ q ∈ P, ¬ 40 ≤ oR q ∧ ¬ oR q < v') (hRc : ∀ q r, R = q :: r → F_X1_levelOf (oC q) < v) (hRm : ∀ q r, R = q :: r → 40 ≤ oR q ∨ oR q < v') (hv : (5 : Int32).toInt ≤ v.toInt)
    (hok : okP (p :: R))
    (hc : F_X1_take n (c.1 27 2) c = F_X1_join n (oC p) v c) (hm : F_X9_behindOne n m = (F_X9_settle n v' m).bind fun q => (F_X9_push (oR p) q).bind fun q1 => (F_X9_nextToken n (upI q1 0 20 (jb false))).bind fun q3 => some (0, q3)) :
    ∃ m' c' ws' pl', F_X9_behindOne n m = some (0, m') ∧ stp n c c' ∧ sumR t ws' pl' base nb a0 b false c' m' ∧ wC t c c' ∧ wM t m m' ∧ c'.1 49 9 = c.1 49 9 ∧ ¬ pl' = [] := by
  obtain ⟨hB1, hB2, hB3, hB4, hB5⟩ := hB
  obtain ⟨s1, s2, ⟨s3, s4, s5, s6, s7⟩, ⟨s8, s9, s10, s11, s12⟩, s13, s14⟩ := h
  obtain ⟨b1, b2⟩ := sum_len s4 s6
  obtain ⟨e1, e2⟩ := notEnd s13 s14
  obtain ⟨q1, q2, q3, q4⟩ := cnt_bin P hP
  rw [deep_app, q1, Nat.zero_add] at s1 s2 s6
  rw [bins_app, q2] at s3 b2
  rw [pars_app, q3, Nat.zero_add] at s8
  have hlen : (P ++ R).length = P.length + R.length := List.length_append
  rw [hlen] at b1 s7
  have s1' : cE t (w1 ws) (P.map oC ++ (R.map oC ++ base)) (nests (P.map oC) + (deep R + nb)) c := by
    rw [q4, Nat.zero_add, ← List.append_assoc, ← List.map_append]
    exact s1
  have hwl : (w1 ws).length = ws.length := w1_len ws
  have hml : (P.map oC).length = P.length := List.length_map ..
  have hml2 : (R.map oC ++ base).length = R.length + base.length := by rw [List.length_append, List.length_map]
  obtain ⟨c1, d1, d2, d3⟩ := join_c (n := n) hn ht (headC hRc hB1 hv) (memMap (Q := fun x => ¬ F_X1_levelOf x < v) hPc) s1' (by omega) (by omega) (by omega)
  obtain ⟨c2, f1, f2, f3⟩ := put_c ht d2 (by omega) (oC p)
  have hjoin : F_X1_join n (oC p) v c = some (upI c2 49 5 6) := by
    unfold F_X1_join
    rw [d1, Option.bind_some, f1, Option.bind_some, jl_1]
  have s2' : mE t (w2 ws) (P.map oR ++ R.map oR) (deep R + nb) m := by
    rw [← List.map_append]
    exact s2
  have hol : (w2 ws).length = ws.length := w2_len ws
  have hmr : (P.map oR).length = P.length := List.length_map ..
  have hmr2 : (R.map oR).length = R.length := List.length_map ..
  obtain ⟨m1, g1, g2, g3⟩ := settleAll (n := n) hn ht (headM (Q := fun x => 40 ≤ x ∨ x < v') hRm) (memMap (Q := fun x => ¬ 40 ≤ x ∧ ¬ x < v') hPm) s2' (by omega) (by omega)
  obtain ⟨m2, i1, i2, i3⟩ := push_m g2 (by omega) (oR p)
  have hc3 : wC t c (upI c2 49 5 6) := wC_49 ht (wC_tr (wC_p ht d3) (wC_p ht f3)) (by decide) _
  have hpm : pM t m m2 := pM_tr g3 i3
  have hm3 : wM t m (upI m2 0 20 (jb false)) := wM_0 (wM_p hpm) (by decide) _
  obtain ⟨c4, m4, k1, k2, k3, k4, k5, k6, k7⟩ := advance hn ht (c1 := upI c2 49 5 6) (m1 := upI m2 0 20 (jb false)) s13 s14 hne hc3 (by rw [upI_1, if_neg (by decide), f3.1 27 (by omega) (by omega) (by decide) (by decide), d3.1 27 (by omega) (by omega) (by decide) (by decide)]) hm3 (by rw [upI_1, if_pos rfl, upd_ne (by decide)]; exact hpm.2.1 8 (by decide) (by decide) (by decide))
  have h49 : ∀ j : Nat, ¬ j = 5 → ¬ j = 6 → ¬ j = 7 → c4.1 49 j = c.1 49 j := fun j j1 j2 j3 => by
    rw [k3.1 49 (by decide), upI_1, if_pos rfl, upd_ne j1, f3.2.2.1 j j2 j3, d3.2.2.1 j j2 j3]
  have hp0 : ¬ (p = 0 ∨ p = 5) ∧ ¬ p = 5 := ⟨(f6_e p hp).1, (f6_e p hp).2.1⟩
  have hdp : deep (p :: R) = deep R := by
    show (if p = 0 ∨ p = 5 then 1 else 0) + deep R = _
    rw [if_neg hp0.1]; omega
  have hbp : bins (p :: R) = bins R + 1 := by
    show (if p = 0 ∨ p = 5 then 0 else 1) + bins R = _
    rw [if_neg hp0.1]; omega
  have hpp : pars (p :: R) = pars R := by
    show (if p = 5 then 1 else 0) + pars R = _
    rw [if_neg hp0.2]; omega
  refine ⟨m4, c4, app3 P ws, p :: R, ?_, ⟨fun z => hne z.2, k7, h49 1 (by decide) (by decide) (by decide), _, hc.trans hjoin, ?_, k1⟩, ⟨?_, ?_, ⟨?_, hok, fun z => (by cases z), by omega, ?_⟩, ⟨?_, ?_, ?_, ?_, ?_⟩, k6, k5⟩, wC_tr hc3 (wC_fr ht k3), wM_tr hm3 (wM_fr k4), h49 9 (by decide) (by decide) (by decide), fun z => (by cases z)⟩
  · rw [hm, g1, Option.bind_some, i1, Option.bind_some, k2, Option.bind_some]
  · rw [upI_1, if_pos rfl, upd_ne (by decide), f3.2.2.1 0 (by decide) (by decide), d3.2.2.1 0 (by decide) (by decide)]; exact s11
  · rw [app3_1, hdp]
    exact cE_fr ht (cE_49 ht f2 (by decide) (by decide) (by decide) 6) k3
  · rw [app3_2, hdp]
    exact mE_fr (mE_0 i2 (by decide) (by decide) (by decide) (by decide) _) k4
  · rw [hbp]
    show codeL (app3 P ws) (a0 + (bins R + 1)) b
    refine codeL_bin (by omega) P ws hP ?_ (by omega)
    have s3' : codeL ws (a0 + (P.length + bins R) + 1) b := s3
    rw [show a0 + (bins R + 1) + P.length = a0 + (P.length + bins R) + 1 from by omega]
    exact s3'
  · rw [app3_len]
    show ((P.length + ws.length + (R.length + 1) + base.length : Nat) : Int) ≤ _
    omega
  · rw [h49 8 (by decide) (by decide) (by decide), s8, hpp]
  · rw [k4.2.1 20 (by decide) (by decide) (by decide) (by decide)]; rfl
  · rw [k3.1 49 (by decide), upI_1, if_pos rfl, upd_eq rfl]; rfl
  · rw [h49 0 (by decide) (by decide) (by decide)]; exact s11
  · rw [k3.1 _ (by omega), upI_1, if_neg (by omega), f3.2.1 5 (by decide), d3.2.1 5 (by decide)]
    exact nmB_app P _ s12
/-- a ) behind an operand -/
theorem closeStep {n t : Nat} (hn : 400000 ≤ n) (ht : t < 4) {ws : List (Int32 × Int32 × Int32)} {P R : List (Fin 6)} {base : List Int32} {nb a0 b : Nat} (hB : baseOK base nb a0 b) {c m : jS} (h : sumR t ws (P ++ 5 :: R) base nb a0 b true c m) (hne : ¬ c.1 27 2 = 1)
    (hP : ∀ q ∈ P, 1 ≤ q.val ∧ q.val ≤ 4)
    (hc : F_X1_take n (c.1 27 2) c = F_X1_close n c) (hm : F_X9_behindOne n m = ((F_X9_settle n 3 m).bind fun p88 => (jl (upI p88 0 18 ((p88.1 0 18) - 1)) fun s98_5 => (jl (upI s98_5 0 19 ((s98_5.1 0 19) - 1)) fun s108_6 => ((F_X9_whole n s108_6).bind fun p112 => ((F_X9_nextToken n p112).bind fun p116 => some (0, p116))))))) :
    ∃ m' c' ws' pl', F_X9_behindOne n m = some (0, m') ∧ stp n c c' ∧ sumR t ws' pl' base nb a0 b true c' m' ∧ wC t c c' ∧ wM t m m' ∧ c'.1 49 9 = c.1 49 9 := by
  obtain ⟨hB1, hB2, hB3, hB4, hB5⟩ := hB
  obtain ⟨s1, s2, ⟨s3, s4, s5, s6, s7⟩, ⟨s8, s9, s10, s11, s12⟩, s13, s14⟩ := h
  have l1 : (1 : Int32).toInt = 1 := rfl
  obtain ⟨b1, b2⟩ := sum_len s4 s6
  obtain ⟨e1, e2⟩ := notEnd s13 s14
  obtain ⟨q1, q2, q3, q4⟩ := cnt_bin P hP
  obtain ⟨N, R', hN, hN0, hR'⟩ := split_neg R
  subst hN
  obtain ⟨r1, r2, r3, r4⟩ := cnt_neg N hN0
  have hd5 : deep (5 :: (N ++ R')) = 1 + (N.length + deep R') := by
    show 1 + deep (N ++ R') = _
    rw [deep_app, r1]
  have hb5 : bins (5 :: (N ++ R')) = bins R' := by
    show 0 + bins (N ++ R') = _
    rw [bins_app, r2]; omega
  have hp5 : pars (5 :: (N ++ R')) = 1 + pars R' := by
    show 1 + pars (N ++ R') = _
    rw [pars_app, r3]; omega
  rw [deep_app, q1, hd5] at s1 s2 s6
  rw [bins_app, q2, hb5] at s3 b2
  rw [pars_app, q3, hp5] at s8
  have hlen : (P ++ 5 :: (N ++ R')).length = P.length + 1 + N.length + R'.length := by
    rw [List.length_append]
    show _ + ((N ++ R').length + 1) = _
    rw [List.length_append]; omega
  rw [hlen] at b1 s7
  have hok' : okP R' := okP_tail (okP_tail s4).1
  -- the class
  have s1' : cE t (w1 ws) (P.map oC ++ (9 :: ((N ++ R').map oC ++ base))) (nests (P.map oC) + (1 + (N.length + deep R') + nb)) c := by
    have e : (P ++ 5 :: (N ++ R')).map oC ++ base = P.map oC ++ (9 :: ((N ++ R').map oC ++ base)) := by
      rw [List.map_append, List.append_assoc]; rfl
    rw [e] at s1
    rw [q4, Nat.zero_add]
    rw [Nat.zero_add] at s1
    exact s1
  have hwl : (w1 ws).length = ws.length := w1_len ws
  have hml : (P.map oC).length = P.length := List.length_map ..
  have hmN : (N.map oC).length = N.length := List.length_map ..
  have hml2 : ((N ++ R').map oC ++ base).length = N.length + R'.length + base.length := by rw [List.length_append, List.length_map, List.length_append]
  have hml3 : (9 :: ((N ++ R').map oC ++ base)).length = N.length + R'.length + base.length + 1 := by show ((N ++ R').map oC ++ base).length + 1 = _; rw [hml2]
  have hml4 : (R'.map oC ++ base).length = R'.length + base.length := by rw [List.length_append, List.length_map]
  obtain ⟨c1, d1, d2, d3⟩ := join_c (n := n) (v := 5) hn ht (fun p r z => by obtain ⟨rfl, _⟩ := List.cons.inj z; decide) (memMap (Q := fun x => ¬ F_X1_levelOf x < 5) (fun q hq => (lev_all q).2.2.1 (hP q hq))) s1' (by omega) (by omega) (by omega)
  obtain ⟨g1, g2, g3, g4, g5, g6⟩ := d2
  obtain ⟨x6, hx6⟩ : ∃ x6, (c1.1 49 6) - 1 = x6 := ⟨_, rfl⟩
  obtain ⟨x7, hx7⟩ : ∃ x7, (c1.1 49 7) - 1 = x7 := ⟨_, rfl⟩
  obtain ⟨x8, hx8⟩ : ∃ x8, (c1.1 49 8) - 1 = x8 := ⟨_, rfl⟩
  have g8 : (c1.1 49 8).toInt = (c.1 49 8).toInt := by rw [d3.2.2.1 8 (by decide) (by decide)]
  have hpar := pars_le R'
  have v6 : x6.toInt = ((N ++ R').map oC ++ base).length := by rw [← hx6, i32_sub (by omega) (by omega)]; omega
  have v7 : x7.toInt = ((N.length + deep R' + nb : Nat) : Int) := by rw [← hx7, i32_sub (by omega) (by omega)]; omega
  have v8 : x8.toInt = (pars R' : Nat) := by rw [← hx8, i32_sub (by omega) (by omega)]; omega
  obtain ⟨C, hC⟩ : ∃ C, upI (upI (upI c1 49 6 x6) 49 7 x7) 49 8 x8 = C := ⟨_, rfl⟩
  have hC2 : cE t (app (P.map oC) (w1 ws)) (N.map oC ++ (R'.map oC ++ base)) (nests (N.map oC) + (deep R' + nb)) C := by
    rw [← hC, r4, ← List.append_assoc, ← List.map_append]
    refine ⟨?_, ?_, ?_, ?_, ?_, ?_⟩
    · rw [upI_1, if_neg (by omega), upI_1, if_neg (by omega), upI_1, if_neg (by omega)]; exact g1
    · rw [upI_1, if_neg (by omega), upI_1, if_neg (by omega), upI_1, if_neg (by omega)]; exact g2
    · rw [upI_1, if_pos rfl, upd_ne (by decide), upI_1, if_pos rfl, upd_ne (by decide), upI_1, if_pos rfl, upd_eq rfl]; exact v6
    · rw [upI_1, if_neg (by decide), upI_1, if_neg (by decide), upI_1, if_neg (by decide)]; exact g4.2
    · rw [upI_1, if_pos rfl, upd_ne (by decide), upI_1, if_pos rfl, upd_eq rfl, v7]; omega
    · rw [upI_1, if_pos rfl, upd_ne (by decide), upI_1, if_pos rfl, upd_ne (by decide), upI_1, if_pos rfl, upd_ne (by decide)]; exact g6
  have hCw : wC t c C := by rw [← hC]; exact wC_49 ht (wC_49 ht (wC_49 ht (wC_p ht d3) (by decide) _) (by decide) _) (by decide) _
  have hC49 : ∀ j : Nat, ¬ j = 6 → ¬ j = 7 → ¬ j = 8 → C.1 49 j = c.1 49 j := fun j j1 j2 j3 => by
    rw [← hC, upI_1, if_pos rfl, upd_ne j3, upI_1, if_pos rfl, upd_ne j2, upI_1, if_pos rfl, upd_ne j1, d3.2.2.1 j j1 j2]
  have hCn : C.1 (2 + 4 * t) = c1.1 (2 + 4 * t) := by rw [← hC, upI_1, if_neg (by omega), upI_1, if_neg (by omega), upI_1, if_neg (by omega)]
  have hC8 : C.1 49 8 = x8 := by rw [← hC]; rfl
  have hC27 : C.1 27 = c.1 27 := by rw [← hC, upI_1, if_neg (by decide), upI_1, if_neg (by decide), upI_1, if_neg (by decide), d3.1 27 (by omega) (by omega) (by decide) (by decide)]
  have hal : (app (P.map oC) (w1 ws)).length = P.length + ws.length := by rw [← app3_1, w1_len, app3_len]
  obtain ⟨c2, f1, f2, f3⟩ := join_c (n := n) (v := 7) hn ht (headC (v := 7) (fun q r hq => (lev_all q).1 (hR' q r hq)) hB1 (by decide)) (memMap (Q := fun x => ¬ F_X1_levelOf x < 7) (fun q hq => by rw [hN0 q hq]; decide)) hC2 (by omega) (by omega) (by omega)
  have hclose : F_X1_close n c = some c2 := by
    unfold F_X1_close
    rw [d1, Option.bind_some, jl_1, hx6, jl_1, show (upI c1 49 6 x6).1 49 7 = c1.1 49 7 from rfl, hx7, jl_1, show (upI (upI c1 49 6 x6) 49 7 x7).1 49 8 = c1.1 49 8 from rfl, hx8, hC, f1, Option.bind_some]
  -- the reference
  have s2' : mE t (w2 ws) (P.map oR ++ (40 :: (N ++ R').map oR)) (1 + (N.length + deep R') + nb) m := by
    have e : (P ++ 5 :: (N ++ R')).map oR = P.map oR ++ (40 :: (N ++ R').map oR) := by rw [List.map_append]; rfl
    rw [e] at s2
    rw [Nat.zero_add] at s2
    exact s2
  have hol : (w2 ws).length = ws.length := w2_len ws
  have hmr : (P.map oR).length = P.length := List.length_map ..
  have hmrN : (N.map oR).length = N.length := List.length_map ..
  have hmrR : (R'.map oR).length = R'.length := List.length_map ..
  have hmr2 : ((N ++ R').map oR).length = N.length + R'.length := by rw [List.length_map, List.length_append]
  have hmr3 : (40 :: (N ++ R').map oR).length = N.length + R'.length + 1 := by show ((N ++ R').map oR).length + 1 = _; rw [hmr2]
  obtain ⟨m1, i1, i2, i3⟩ := settleAll (n := n) (v := 3) hn ht (fun p r z => by obtain ⟨rfl, _⟩ := List.cons.inj z; exact Or.inl (by decide)) (memMap (Q := fun x => ¬ 40 ≤ x ∧ ¬ x < 3) (fun q hq => (ref_all q).2.1 (hP q hq))) s2' (by omega) (by omega)
  obtain ⟨j1, j2, j3, j4, j5, j6⟩ := i2
  obtain ⟨y18, hy18⟩ : ∃ y, (m1.1 0 18) - 1 = y := ⟨_, rfl⟩
  obtain ⟨y19, hy19⟩ : ∃ y, (m1.1 0 19) - 1 = y := ⟨_, rfl⟩
  have u18 : y18.toInt = ((N ++ R').map oR).length := by rw [← hy18, i32_sub (by omega) (by omega)]; omega
  have u19 : y19.toInt = ((N.length + (deep R' + nb) : Nat) : Int) := by rw [← hy19, i32_sub (by omega) (by omega)]; omega
  obtain ⟨M, hM⟩ : ∃ M, upI (upI m1 0 18 y18) 0 19 y19 = M := ⟨_, rfl⟩
  have hM2 : mE t (appM (P.map oR) (w2 ws)) (N.map oR ++ R'.map oR) ((N.map oR).length + (deep R' + nb)) M := by
    rw [← hM, hmrN, ← List.map_append]
    refine ⟨?_, ?_, ?_, ?_, ?_, ?_⟩
    · rw [upI_1, if_pos rfl, upd_ne (by decide), upI_1, if_pos rfl, upd_ne (by decide)]; exact j1
    · rw [upI_1, if_neg (by decide), upI_1, if_neg (by decide)]; exact j2
    · rw [upI_1, if_pos rfl, upd_ne (by decide), upI_1, if_pos rfl, upd_eq rfl]; exact u18
    · rw [upI_1, if_neg (by decide), upI_1, if_neg (by decide)]; exact j4.2
    · rw [upI_1, if_pos rfl, upd_eq rfl]; exact u19
    · rw [upI_1, if_pos rfl, upd_ne (by decide), upI_1, if_pos rfl, upd_ne (by decide)]; exact j6
  have hMp : pM t m M := by rw [← hM]; exact pM_0 (pM_0 i3 (by decide) _) (by decide) _
  have hal2 : (appM (P.map oR) (w2 ws)).length = P.length + ws.length := by rw [← app3_2, w2_len, app3_len]
  obtain ⟨m2, o1, o2, o3⟩ := wholeAll (n := n) hn ht (headM (Q := fun x => ¬ x = 2) (fun q r hq z => hR' q r hq ((ref_all q).1.mp z))) (memMap (Q := fun x => x = 2) (fun q hq => by rw [hN0 q hq]; rfl)) hM2 (by omega) (by omega) (by omega)
  have hcw : wC t c c2 := wC_tr hCw (wC_p ht f3)
  have hmw : wM t m m2 := wM_tr (wM_p hMp) (wM_tr (wM_0 wM_rfl (by decide) _) (wM_p o3))
  obtain ⟨c4, m4, k1, k2, k3, k4, k5, k6, k7⟩ := advance hn ht (c1 := c2) (m1 := m2) s13 s14 hne hcw (by rw [f3.1 27 (by omega) (by omega) (by decide) (by decide)]; exact hC27) hmw (by rw [o3.2.1 8 (by decide) (by decide) (by decide), upI_1, if_pos rfl, upd_ne (by decide)]; exact hMp.2.1 8 (by decide) (by decide) (by decide))
  have h49 : ∀ j : Nat, ¬ j = 6 → ¬ j = 7 → ¬ j = 8 → c4.1 49 j = c.1 49 j := fun j j1 j2 j3 => by
    rw [k3.1 49 (by decide), f3.2.2.1 j j1 j2, hC49 j j1 j2 j3]
  refine ⟨m4, c4, app3 N (app3 P ws), R', ?_, ⟨fun z => hne z.2, k7, h49 1 (by decide) (by decide) (by decide), c2, hc.trans hclose, ?_, k1⟩, ⟨?_, ?_, ⟨?_, hok', fun _ r z => hR' 0 r z rfl, by omega, ?_⟩, ⟨?_, ?_, ?_, ?_, ?_⟩, k6, k5⟩, wC_tr hcw (wC_fr ht k3), wM_tr hmw (wM_fr k4), h49 9 (by decide) (by decide) (by decide)⟩
  · rw [hm, i1, Option.bind_some, jl_1, hy18, jl_1, show (upI m1 0 18 y18).1 0 19 = m1.1 0 19 from rfl, hy19, hM, o1, Option.bind_some, k2, Option.bind_some]
  · rw [f3.2.2.1 0 (by decide) (by decide), hC49 0 (by decide) (by decide) (by decide)]; exact s11
  · rw [app3_1, app3_1]
    exact cE_fr ht f2 k3
  · rw [app3_2, app3_2]
    exact mE_fr o2 k4
  · show codeL (app3 N (app3 P ws)) (a0 + bins R' + 1) b
    refine codeL_neg (by omega) (by omega) N _ hN0 ?_
    refine codeL_bin (by omega) P ws hP ?_ (by omega)
    have s3' : codeL ws (a0 + (P.length + bins R') + 1) b := s3
    rw [show a0 + bins R' + 1 + P.length = a0 + (P.length + bins R') + 1 from by omega]
    exact s3'
  · rw [app3_len, app3_len]
    omega
  · rw [k3.1 49 (by decide), f3.2.2.1 8 (by decide) (by decide), hC8, v8]
  · rw [k4.2.1 20 (by decide) (by decide) (by decide) (by decide), o3.2.1 20 (by decide) (by decide) (by decide)]; rfl
  · rw [h49 5 (by decide) (by decide) (by decide)]; exact s10
  · rw [h49 0 (by decide) (by decide) (by decide)]; exact s11
  · rw [k3.1 _ (by omega), f3.2.1 5 (by decide), hCn, d3.2.1 5 (by decide)]
    exact nmB_app N _ (nmB_app P _ s12)
theorem par_in : ∀ pl : List (Fin 6), ((40 : Int32) ∈ pl.map oR ↔ (5 : Fin 6) ∈ pl) := by
  intro pl
  rw [List.mem_map]
  constructor
  · rintro ⟨p, hp, e⟩
    have : ∀ p : Fin 6, oR p = 40 → p = 5 := by decide
    rw [← this p e]; exact hp
  · intro h
    exact ⟨5, h, rfl⟩
/-- does the sum go on behind an operand -/
theorem goesOn_is {n t : Nat} (hn : 400000 ≤ n) {ws : List (Int32 × Int32 × Int32)} {pl : List (Fin 6)} {base : List Int32} {nb a0 b : Nat} {wh : Bool} {c m : jS} (h : sumR t ws pl base nb a0 b wh c m) : F_X9_goesOn n m = some (decide (c.1 27 2 = 20 ∨ c.1 27 2 = 21 ∨ c.1 27 2 = 22 ∨ c.1 27 2 = 23 ∨ (c.1 27 2 = 10 ∧ 0 < pars pl))) := by
  obtain ⟨s1, s2, ⟨s3, s4, s5, s6, s7⟩, ⟨s8, s9, s10, s11, s12⟩, s13, s14⟩ := h
  obtain ⟨b1, b2⟩ := sum_len s4 s6
  obtain ⟨tw, tn⟩ := s14.2
  obtain ⟨w0, w1', w2', w3, w4, w5, w6, w7, w8, ⟨u1, u2, u3, u4, u5, u6, u7⟩, w10⟩ := tw
  have hp := paren_m (n := n) hn s2 (by rw [List.length_map]; omega)
  unfold F_X9_goesOn
  by_cases k1 : c.1 27 2 = 20
  · rw [if_pos (u4.mpr k1), decide_eq_true (Or.inl k1)]
  · rw [if_neg (fun z => k1 (u4.mp z))]
    by_cases k2 : c.1 27 2 = 21
    · rw [if_pos (u5.mpr k2), decide_eq_true (Or.inr (Or.inl k2))]
    · rw [if_neg (fun z => k2 (u5.mp z))]
      by_cases k3 : c.1 27 2 = 22
      · rw [if_pos (u6.mpr k3), decide_eq_true (Or.inr (Or.inr (Or.inl k3)))]
      · rw [if_neg (fun z => k3 (u6.mp z))]
        by_cases k4 : c.1 27 2 = 23
        · rw [if_pos (u7.mpr k4), decide_eq_true (Or.inr (Or.inr (Or.inr (Or.inl k4))))]
        · rw [if_neg (fun z => k4 (u7.mp z))]
          by_cases k5 : c.1 27 2 = 10
          · rw [if_pos (u3.mpr k5), hp, Option.bind_some]
            by_cases k6 : 0 < pars pl
            · have : (40 : Int32) ∈ pl.map oR := (par_in pl).mpr ((pars_mem pl).mp k6)
              rw [decide_eq_true this, if_pos rfl, decide_eq_true (Or.inr (Or.inr (Or.inr (Or.inr ⟨k5, k6⟩))))]
            · have : ¬ (40 : Int32) ∈ pl.map oR := fun z => k6 ((pars_mem pl).mpr ((par_in pl).mp z))
              rw [decide_eq_false this, if_neg (fun z => by cases z), decide_eq_false (fun z => by
                rcases z with z | z | z | z | z
                · exact k1 z
                · exact k2 z
                · exact k3 z
                · exact k4 z
                · exact k6 z.2)]
          · rw [if_neg (fun z => k5 (u3.mp z)), decide_eq_false (fun z => by
                rcases z with z | z | z | z | z
                · exact k1 z
                · exact k2 z
                · exact k3 z
                · exact k4 z
                · exact k5 z.1)]
