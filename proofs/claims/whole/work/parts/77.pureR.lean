/-! a sum, whole -/
theorem behindStep {n t : Nat} (hn : 400000 ≤ n) (ht : t < 4) {ws : List (Int32 × Int32 × Int32)} {pl : List (Fin 6)} {base : List Int32} {nb a0 b : Nat} (hB : baseOK base nb a0 b) {c m : jS} (h : sumR t ws pl base nb a0 b true c m) (hg : c.1 27 2 = 20 ∨ c.1 27 2 = 21 ∨ c.1 27 2 = 22 ∨ c.1 27 2 = 23 ∨ (c.1 27 2 = 10 ∧ 0 < pars pl)) :
    ∃ m' c' ws' pl' wh, F_X9_behindOne n m = some (0, m') ∧ stp n c c' ∧ sumR t ws' pl' base nb a0 b wh c' m' ∧ wC t c c' ∧ wM t m m' ∧ c'.1 49 9 = c.1 49 9 ∧ (wh = true ∨ ¬ pl' = []) := by
  have h0 := h
  obtain ⟨s1, s2, ⟨s3, s4, s5, s6, s7⟩, ⟨s8, s9, s10, s11, s12⟩, s13, s14⟩ := h
  have h7 : c.1 49 5 = 7 := s10
  have htk := take_7 (n := n) (v := c.1 27 2) h7
  obtain ⟨k0, hb1, _⟩ := behind_is (n := n) (v := c.1 27 2) (c := c)
  rw [hb1] at htk
  obtain ⟨tw, tn⟩ := s14.2
  obtain ⟨_, _, _, _, _, _, _, _, _, ⟨u1, u2, u3, u4, u5, u6, u7⟩, _⟩ := tw
  have fin : (∃ m' c' ws' pl', F_X9_behindOne n m = some (0, m') ∧ stp n c c' ∧ sumR t ws' pl' base nb a0 b false c' m' ∧ wC t c c' ∧ wM t m m' ∧ c'.1 49 9 = c.1 49 9 ∧ ¬ pl' = []) → ∃ m' c' ws' pl' wh, F_X9_behindOne n m = some (0, m') ∧ stp n c c' ∧ sumR t ws' pl' base nb a0 b wh c' m' ∧ wC t c c' ∧ wM t m m' ∧ c'.1 49 9 = c.1 49 9 ∧ (wh = true ∨ ¬ pl' = []) := by
    rintro ⟨m', c', ws', pl', q1, q2, q3, q4, q5, q6, q7⟩
    exact ⟨m', c', ws', pl', false, q1, q2, q3, q4, q5, q6, Or.inr q7⟩
  have l5 : (5 : Int32).toInt = 5 := rfl
  have l6 : (6 : Int32).toInt = 6 := rfl
  have plus : ∀ p : Fin 6, (p = 1 ∨ p = 2) → c.1 27 2 = oC p → F_X1_levelOf (c.1 27 2) = 5 → m.1 0 10 = (if p = 1 then 43 else 45) → ∃ m' c' ws' pl' wh, F_X9_behindOne n m = some (0, m') ∧ stp n c c' ∧ sumR t ws' pl' base nb a0 b wh c' m' ∧ wC t c c' ∧ wM t m m' ∧ c'.1 49 9 = c.1 49 9 ∧ (wh = true ∨ ¬ pl' = []) := by
    intro p hp hcs hlv hms
    obtain ⟨P, R, hpl, hP, hR⟩ := split_par pl s4 (s5 rfl)
    have hc : F_X1_take n (c.1 27 2) c = F_X1_join n (oC p) 5 c := by
      rw [htk]
      unfold J_X1_takeBehindOne_24
      rw [hlv, if_pos rfl, bind_id, hcs]
    have hm : F_X9_behindOne n m = (F_X9_settle n 3 m).bind fun q => (F_X9_push (oR p) q).bind fun q1 => (F_X9_nextToken n (upI q1 0 20 (jb false))).bind fun q3 => some (0, q3) := by
      unfold F_X9_behindOne
      rw [hms]
      rcases hp with rfl | rfl
      · rw [if_pos rfl, if_pos rfl]
        unfold J_X9_behindOne_17
        refine congrArg (Option.bind (F_X9_settle n 3 m)) (funext fun q => ?_)
        rw [if_pos rfl]
        rfl
      · rw [if_neg (show ¬ (2 : Fin 6) = 1 from by decide), if_neg (by decide), if_pos rfl]
        unfold J_X9_behindOne_17
        refine congrArg (Option.bind (F_X9_settle n 3 m)) (funext fun q => ?_)
        rw [if_neg (by decide)]
        rfl
    subst hpl
    refine fin (binStep hn ht hB h0 (by rw [hcs]; rcases hp with rfl | rfl <;> decide) (by rcases hp with rfl | rfl <;> decide) hP (fun q hq => (lev_all q).2.2.1 (hP q hq)) (fun q hq => (ref_all q).2.1 (hP q hq)) (fun q r e => (lev_all q).2.1 (hR q r e)) (fun q r e => Or.inl ((ref_all q).2.2.2.1 (hR q r e))) (by decide) ⟨okP_tail s4, fun _ q r e => hR q r e, fun z => ?_⟩ hc hm)
    rcases hp with rfl | rfl <;> exact absurd z (by decide)
  have times : ∀ p : Fin 6, (p = 3 ∨ p = 4) → c.1 27 2 = oC p → F_X1_levelOf (c.1 27 2) = 6 → m.1 0 10 = (if p = 3 then 42 else 47) → ∃ m' c' ws' pl' wh, F_X9_behindOne n m = some (0, m') ∧ stp n c c' ∧ sumR t ws' pl' base nb a0 b wh c' m' ∧ wC t c c' ∧ wM t m m' ∧ c'.1 49 9 = c.1 49 9 ∧ (wh = true ∨ ¬ pl' = []) := by
    intro p hp hcs hlv hms
    obtain ⟨P, R, hpl, hP, hR⟩ := split_mul pl s4 (s5 rfl)
    have hc : F_X1_take n (c.1 27 2) c = F_X1_join n (oC p) 6 c := by
      rw [htk]
      unfold J_X1_takeBehindOne_24
      rw [hlv, if_neg (by decide), if_pos rfl, bind_id, hcs]
    have hm : F_X9_behindOne n m = (F_X9_settle n 5 m).bind fun q => (F_X9_push (oR p) q).bind fun q1 => (F_X9_nextToken n (upI q1 0 20 (jb false))).bind fun q3 => some (0, q3) := by
      unfold F_X9_behindOne
      rw [hms]
      rcases hp with rfl | rfl
      · rw [if_pos rfl, if_neg (by decide), if_neg (by decide), if_pos rfl]
        unfold J_X9_behindOne_57
        refine congrArg (Option.bind (F_X9_settle n 5 m)) (funext fun q => ?_)
        rw [if_pos rfl]
        rfl
      · rw [if_neg (show ¬ (4 : Fin 6) = 3 from by decide), if_neg (by decide), if_neg (by decide), if_neg (by decide), if_pos rfl]
        unfold J_X9_behindOne_57
        refine congrArg (Option.bind (F_X9_settle n 5 m)) (funext fun q => ?_)
        rw [if_neg (by decide)]
        rfl
    subst hpl
    refine fin (binStep hn ht hB h0 (by rw [hcs]; rcases hp with rfl | rfl <;> decide) (by rcases hp with rfl | rfl <;> decide) (fun q hq => by have := hP q hq; omega) (fun q hq => (lev_all q).2.2.2.1 (hP q hq)) (fun q hq => ⟨((ref_all q).2.1 (by have := hP q hq; omega)).1, (ref_all q).2.2.1 (hP q hq)⟩) (fun q r e => (lev_all q).2.2.2.2 (hR q r e)) (fun q r e => (ref_all q).2.2.2.2 (hR q r e)) (by decide) ⟨okP_tail s4, fun z => ?_, fun _ q r e => hR q r e⟩ hc hm)
    rcases hp with rfl | rfl <;> exact absurd z (by decide)
  rcases hg with k | k | k | k | ⟨k, kp⟩
  · exact plus 1 (Or.inl rfl) k (by rw [k]; decide) (by rw [if_pos rfl]; exact u4.mpr k)
  · exact plus 2 (Or.inr rfl) k (by rw [k]; decide) (by rw [if_neg (by decide)]; exact u5.mpr k)
  · exact times 3 (Or.inl rfl) k (by rw [k]; decide) (by rw [if_pos rfl]; exact u6.mpr k)
  · exact times 4 (Or.inr rfl) k (by rw [k]; decide) (by rw [if_neg (by decide)]; exact u7.mpr k)
  · obtain ⟨P, R, hpl, hP, hR⟩ := split_par pl s4 (s5 rfl)
    have hRne : ∃ R', R = 5 :: R' := by
      cases hRR : R with
      | nil =>
        exfalso
        rw [hpl, hRR, List.append_nil, (cnt_bin P hP).2.2.1] at kp
        omega
      | cons q r =>
        exact ⟨r, by rw [hR q r hRR]⟩
    obtain ⟨R', rfl⟩ := hRne
    subst hpl
    have h8 : ¬ c.1 49 8 ≤ 0 := fun z => by
      have := i32_le.mp z
      have : (0 : Int32).toInt = 0 := rfl
      omega
    have hc : F_X1_take n (c.1 27 2) c = F_X1_close n c := by
      rw [htk]
      unfold J_X1_takeBehindOne_24
      rw [if_neg (by rw [k]; decide), if_neg (by rw [k]; decide), if_pos k, if_neg h8, bind_id]
    have hms : m.1 0 10 = 41 := u3.mpr k
    have hm : F_X9_behindOne n m = ((F_X9_settle n 3 m).bind fun p88 => (jl (upI p88 0 18 ((p88.1 0 18) - 1)) fun s98_5 => (jl (upI s98_5 0 19 ((s98_5.1 0 19) - 1)) fun s108_6 => ((F_X9_whole n s108_6).bind fun p112 => ((F_X9_nextToken n p112).bind fun p116 => some (0, p116)))))) := by
      unfold F_X9_behindOne
      rw [hms, if_neg (by decide), if_neg (by decide), if_neg (by decide), if_neg (by decide)]
    obtain ⟨m', c', ws', pl', q1, q2, q3, q4, q5, q6⟩ := closeStep hn ht hB h0 (by rw [k]; decide) hP hc hm
    exact ⟨m', c', ws', pl', true, q1, q2, q3, q4, q5, q6, Or.inl rfl⟩
theorem lev_list : ∀ v ∈ ([11, 12, 13, 14, 15, 16, 17, 18, 19, 20, 21, 22, 23, 24] : List Int32), (F_X1_levelOf v = 5 → v = 20 ∨ v = 21) ∧ (F_X1_levelOf v = 6 → v = 22 ∨ v = 23) ∧ (F_X1_levelOf v = 1 → v = 11) ∧ (F_X1_levelOf v = 2 → v = 12) ∧ (F_X1_levelOf v = 4 → v = 14 ∨ v = 15 ∨ v = 16 ∨ v = 17 ∨ v = 18 ∨ v = 19) := by decide +kernel
theorem lev_is (v : Int32) : (F_X1_levelOf v = 5 → v = 20 ∨ v = 21) ∧ (F_X1_levelOf v = 6 → v = 22 ∨ v = 23) ∧ (F_X1_levelOf v = 1 → v = 11) ∧ (F_X1_levelOf v = 2 → v = 12) ∧ (F_X1_levelOf v = 4 → v = 14 ∨ v = 15 ∨ v = 16 ∨ v = 17 ∨ v = 18 ∨ v = 19) := by
  by_cases h : v ∈ ([11, 12, 13, 14, 15, 16, 17, 18, 19, 20, 21, 22, 23, 24] : List Int32)
  · exact lev_list v h
  · have e : F_X1_levelOf v = 0 := by
      simp only [List.mem_cons, List.not_mem_nil, or_false, not_or] at h
      obtain ⟨h1, h2, h3, h4, h5, h6, h7, h8, h9, ha, hb, hc, hd, he⟩ := h
      unfold F_X1_levelOf
      rw [if_neg h1, if_neg h2, if_neg h3, if_neg h4, if_neg h5, if_neg h6, if_neg h7, if_neg h8, if_neg h9, if_neg ha, if_neg hb, if_neg hc, if_neg hd, if_neg he]
    rw [e]
    exact ⟨fun z => absurd z (by decide), fun z => absurd z (by decide), fun z => absurd z (by decide), fun z => absurd z (by decide), fun z => absurd z (by decide)⟩
/-- behind an operand, what cannot stand there -/
theorem behind_no {n : Nat} {c : jS} (h7 : c.1 49 5 = 7) (hop : ¬ (c.1 27 2 = 20 ∨ c.1 27 2 = 21 ∨ c.1 27 2 = 22 ∨ c.1 27 2 = 23)) (h10 : c.1 27 2 = 10 → c.1 49 8 ≤ 0) (h4 : F_X1_levelOf (c.1 27 2) = 4 → jz (c.1 49 9) = true ∨ ¬ c.1 49 8 = 0) (hk : jz (c.1 49 9) = true → c.1 49 8 = 0 → ¬ (c.1 27 2 = 11 ∨ c.1 27 2 = 12 ∨ c.1 27 2 = 8)) : F_X1_take n (c.1 27 2) c = some (upI (upI c 49 0 1) 49 1 (c.1 27 4)) := by
  obtain ⟨l5, l6, l1, l2, _⟩ := lev_is (c.1 27 2)
  rw [take_7 h7]
  obtain ⟨k0, e, hk0⟩ := behind_is (n := n) (v := c.1 27 2) (c := c)
  rw [e]
  have h126 : ¬ (k0 = true ∧ c.1 27 2 = 8) → J_X1_takeBehindOne_126 n (c.1 27 2) k0 c = some (upI (upI c 49 0 1) 49 1 (c.1 27 4)) := by
    intro z
    unfold J_X1_takeBehindOne_126
    rw [refuse_is, Option.bind_some]
    by_cases k8 : c.1 27 2 = 8
    · rw [if_pos k8, if_neg (fun y => z ⟨y, k8⟩)]
    · rw [if_neg k8]
  have hz : ¬ (k0 = true ∧ (c.1 27 2 = 11 ∨ c.1 27 2 = 12 ∨ c.1 27 2 = 8)) := fun z => hk (hk0.mp z.1).1 (hk0.mp z.1).2 z.2
  have h108 : (c.1 27 2 = 11 ∨ c.1 27 2 = 12) → J_X1_takeBehindOne_108 n (c.1 27 2) (F_X1_levelOf (c.1 27 2)) k0 c = some (upI (upI c 49 0 1) 49 1 (c.1 27 4)) := by
    intro z
    unfold J_X1_takeBehindOne_108
    rw [if_neg (fun y => hz ⟨y, by rcases z with z | z; exact Or.inl z; exact Or.inr (Or.inl z)⟩)]
    exact h126 (fun y => hz ⟨y.1, Or.inr (Or.inr y.2)⟩)
  have h98 : J_X1_takeBehindOne_98 n (c.1 27 2) (F_X1_levelOf (c.1 27 2)) k0 c = some (upI (upI c 49 0 1) 49 1 (c.1 27 4)) := by
    unfold J_X1_takeBehindOne_98
    by_cases z1 : F_X1_levelOf (c.1 27 2) = 1
    · rw [if_pos z1]; exact h108 (Or.inl (l1 z1))
    · rw [if_neg z1]
      by_cases z2 : F_X1_levelOf (c.1 27 2) = 2
      · rw [if_pos z2]; exact h108 (Or.inr (l2 z2))
      · rw [if_neg z2]
        exact h126 (fun y => hz ⟨y.1, Or.inr (Or.inr y.2)⟩)
  have h65 : J_X1_takeBehindOne_65 n (c.1 27 2) (F_X1_levelOf (c.1 27 2)) k0 c = some (upI (upI c 49 0 1) 49 1 (c.1 27 4)) := by
    unfold J_X1_takeBehindOne_65
    by_cases z4 : F_X1_levelOf (c.1 27 2) = 4
    · rw [if_pos z4]
      by_cases z9 : jz (c.1 49 9) = true
      · rw [if_pos z9]; exact h98
      · rw [if_neg z9, if_neg (fun y => by rcases h4 z4 with q | q; exact z9 q; exact q y)]; exact h98
    · rw [if_neg z4]; exact h98
  unfold J_X1_takeBehindOne_24
  rw [if_neg (fun z => hop (by rcases l5 z with q | q; exact Or.inl q; exact Or.inr (Or.inl q))), if_neg (fun z => hop (by rcases l6 z with q | q; exact Or.inr (Or.inr (Or.inl q)); exact Or.inr (Or.inr (Or.inr q))))]
  by_cases z10 : c.1 27 2 = 10
  · rw [if_pos z10, if_pos (h10 z10)]; exact h65
  · rw [if_neg z10]; exact h65
/-- behind a sum: the class still holds its operators, the reference has settled them -/
def sumE (t : Nat) (ws : List (Int32 × Int32 × Int32)) (pl : List (Fin 6)) (base : List Int32) (nb a0 b : Nat) (c m : jS) : Prop :=
  cE t (w1 ws) (pl.map oC ++ base) nb c ∧ mE t (w2 (app3 pl ws)) [] nb m ∧
  (codeL (app3 pl ws) (a0 + 1) b ∧ (∀ p ∈ pl, 1 ≤ p.val ∧ p.val ≤ 4) ∧ pl.length ≤ 26 ∧ ((ws.length + pl.length + base.length : Nat) : Int) ≤ (c.1 27 4).toInt) ∧
  (c.1 49 8 = 0 ∧ c.1 49 5 = 7 ∧ c.1 49 0 = 0 ∧ nmB (c.1 (2 + 4 * t) 5) ws) ∧
  rTape (c.1 27) (c.1 28) (m.1 0) (m.1 4) ∧ tokA c m ∧ ¬ (c.1 27 2 = 20 ∨ c.1 27 2 = 21 ∨ c.1 27 2 = 22 ∨ c.1 27 2 = 23)
theorem par_or : ∀ pl : List (Fin 6), okP pl → (∀ r, ¬ pl = 0 :: r) → pars pl = 0 → ∀ p ∈ pl, 1 ≤ p.val ∧ p.val ≤ 4 := by
  intro pl h1 h2 h3
  obtain ⟨P, R, e, hP, hR⟩ := split_par pl h1 h2
  cases hRR : R with
  | nil => rw [e, hRR, List.append_nil]; exact hP
  | cons q r =>
    exfalso
    rw [e, hRR, pars_app, hR q r hRR] at h3
    change _ + (1 + pars r) = 0 at h3
    omega
theorem summed_rel {n t : Nat} (hn : 400000 ≤ n) (ht : t < 4) {ws : List (Int32 × Int32 × Int32)} {base : List Int32} {nb a0 b : Nat} (hB : baseOK base nb a0 b) {c m : jS} (h : sumR t ws [] base nb a0 b false c (upI (upI m 0 18 0) 0 20 (jb false))) (hnot : askTop base → ¬ c.1 27 2 = 13) :
    ∃ r, F_X9_summed n m = some r ∧ (bothNo n t c m r.1 r.2 ∨ (r.1 = 0 ∧ ∃ c' ws' pl, rch n c c' ∧ sumE t ws' pl base nb a0 b c' r.2 ∧ wC t c c' ∧ wM t m r.2 ∧ c'.1 49 9 = c.1 49 9)) := by
  obtain ⟨M, hM⟩ : ∃ M, upI (upI m 0 18 0) 0 20 (jb false) = M := ⟨_, rfl⟩
  rw [hM] at h
  have hMm : wM t m M := by rw [← hM]; exact wM_0 (wM_0 wM_rfl (by decide) _) (by decide) _
  have start : ∀ {c' y : jS}, rTape (c'.1 27) (c'.1 28) (y.1 0) (y.1 4) → tokA c' y → (c'.1 27 4).toInt ≤ 300 ∧ 0 ≤ (c'.1 27 4).toInt := fun hT hk => ⟨(notEnd hT hk).1, hk.1.2.2.1⟩
  obtain ⟨e, he, hq⟩ := lp_rule (body := B_X9_summed_10 n)
    (I := fun y k => ∃ c' ws pl wh, rch n c c' ∧ sumR t ws pl base nb a0 b wh c' y ∧ wC t c c' ∧ wM t M y ∧ c'.1 49 9 = c.1 49 9 ∧ (wh = false → pl = [] → askTop base → ¬ c'.1 27 2 = 13) ∧ k = 300 - (c'.1 27 4).toInt.toNat)
    (Q := fun e => (∃ f y, e = .inr (f, y) ∧ bothNo n t c M f y) ∨ (∃ y, e = .inl y ∧ ∃ c' ws pl, rch n c c' ∧ sumR t ws pl base nb a0 b true c' y ∧ wC t c c' ∧ wM t M y ∧ c'.1 49 9 = c.1 49 9 ∧ ¬ (c'.1 27 2 = 20 ∨ c'.1 27 2 = 21 ∨ c'.1 27 2 = 22 ∨ c'.1 27 2 = 23 ∨ (c'.1 27 2 = 10 ∧ 0 < pars pl)))) (by
    rintro y k ⟨c', ws, pl, wh, g1, g2, g3, g4, g5, g6, g7⟩
    have h20 : y.1 0 20 = jb wh := g2.2.2.2.1.2.1
    obtain ⟨st1, st2⟩ := start g2.2.2.2.2.1 g2.2.2.2.2.2
    cases wh with
    | false =>
      have hnz : ¬ jz (y.1 0 20) = true := by rw [h20]; exact jz_f
      have hbody : B_X9_summed_10 n y = (F_X9_beginOne n y).bind fun p39 => J_X9_summed_42 n p39.1 p39.2 := by
        unfold B_X9_summed_10
        rw [if_neg hnz]
        unfold J_X9_summed_24
        rw [if_neg hnz]
      rcases beginStep hn ht hB g2 (g6 rfl) with ⟨f, q1, q2⟩ | ⟨m', c2, ws', pl', wh', q1, q2, q3, q4, q5, q6, q7⟩
      · left
        refine ⟨.inr (f, y), ?_, Or.inl ⟨f, y, rfl, bothNo_tr g1 g3 g4 q2⟩⟩
        rw [hbody, q1, Option.bind_some]
        unfold J_X9_summed_42
        rw [if_neg q2.1]
      · right
        obtain ⟨st3, st4⟩ := start q3.2.2.2.2.1 q3.2.2.2.2.2
        have := q2.2.1
        refine ⟨m', 300 - (c2.1 27 4).toInt.toNat, by omega, ?_, c2, ws', pl', wh', rch_tr g1 (rch_one q2), q3, wC_tr g3 q4, wM_tr g4 q5, q6.trans g5, fun z1 z2 => ?_, rfl⟩
        · rw [hbody, q1, Option.bind_some]
          unfold J_X9_summed_42
          rw [if_pos rfl]
        · rcases q7 with z | z
          · rw [z1] at z; cases z
          · exact absurd z2 z
    | true =>
      have hnz : jz (y.1 0 20) = true := by rw [h20]; exact jz_t
      have hgo := goesOn_is hn g2
      have hbody : B_X9_summed_10 n y = if decide (c'.1 27 2 = 20 ∨ c'.1 27 2 = 21 ∨ c'.1 27 2 = 22 ∨ c'.1 27 2 = 23 ∨ (c'.1 27 2 = 10 ∧ 0 < pars pl)) = true then (F_X9_behindOne n y).bind (fun p32 => J_X9_summed_42 n p32.1 p32.2) else some (.inr (.inl y)) := by
        unfold B_X9_summed_10
        rw [if_pos hnz, hgo, Option.bind_some]
        unfold J_X9_summed_24
        rw [if_pos hnz]
      by_cases hg : c'.1 27 2 = 20 ∨ c'.1 27 2 = 21 ∨ c'.1 27 2 = 22 ∨ c'.1 27 2 = 23 ∨ (c'.1 27 2 = 10 ∧ 0 < pars pl)
      · right
        obtain ⟨m', c2, ws', pl', wh', q1, q2, q3, q4, q5, q6, q7⟩ := behindStep hn ht hB g2 hg
        obtain ⟨st3, st4⟩ := start q3.2.2.2.2.1 q3.2.2.2.2.2
        have := q2.2.1
        refine ⟨m', 300 - (c2.1 27 4).toInt.toNat, by omega, ?_, c2, ws', pl', wh', rch_tr g1 (rch_one q2), q3, wC_tr g3 q4, wM_tr g4 q5, q6.trans g5, fun z1 z2 => ?_, rfl⟩
        · rw [hbody, if_pos (decide_eq_true hg), q1, Option.bind_some]
          unfold J_X9_summed_42
          rw [if_pos rfl]
        · rcases q7 with z | z
          · rw [z1] at z; cases z
          · exact absurd z2 z
      · left
        exact ⟨.inl y, by rw [hbody, if_neg (fun z => hg (of_decide_eq_true z))], Or.inr ⟨y, rfl, c', ws, pl, g1, g2, g3, g4, g5, hg⟩⟩) (300 - (c.1 27 4).toInt.toNat) n M (by omega) ⟨c, ws, [], false, rch_rfl, h, wC_rfl, wM_rfl, rfl, fun _ _ => hnot, rfl⟩
  have hsum : F_X9_summed n m = Sum.elim (fun e10 => ((F_X9_settle n 3 e10).bind fun p54 => (if (p54.1 0 18) ≤ 0 then some (0, p54) else some (1, p54)))) (fun r10 => some r10) e := by
    unfold F_X9_summed
    rw [jl_1, jl_1, hM, he, Option.bind_some]
  rcases hq with ⟨f, y, rfl, q⟩ | ⟨y, rfl, c', ws', pl, q1, q2, q3, q4, q5, q6⟩
  · exact ⟨(f, y), hsum, Or.inl (bothNo_tr rch_rfl wC_rfl hMm q)⟩
  · change F_X9_summed n m = (F_X9_settle n 3 y).bind (fun p54 => (if (p54.1 0 18) ≤ 0 then some (0, p54) else some (1, p54))) at hsum
    obtain ⟨s1, s2, ⟨s3, s4, s5, s6, s7⟩, ⟨s8, s9, s10, s11, s12⟩, s13, s14⟩ := q2
    obtain ⟨b1, b2⟩ := sum_len s4 s6
    obtain ⟨e1, e2⟩ := notEnd s13 s14
    have l0 : (0 : Int32).toInt = 0 := rfl
    obtain ⟨P, R, hpl, hP, hR⟩ := split_par pl s4 (s5 rfl)
    have hPR : pl.length = P.length + R.length := by rw [hpl, List.length_append]
    have hpr : pars pl = pars R := by rw [hpl, pars_app, (cnt_bin P hP).2.2.1, Nat.zero_add]
    have hdr : deep pl = deep R := by rw [hpl, deep_app, (cnt_bin P hP).1, Nat.zero_add]
    have hbr : bins pl = P.length + bins R := by rw [hpl, bins_app, (cnt_bin P hP).2.1]
    have s2' : mE t (w2 ws') (P.map oR ++ R.map oR) (deep R + nb) y := by
      rw [← List.map_append, ← hpl, ← hdr]
      exact s2
    have hol : (w2 ws').length = ws'.length := w2_len ws'
    have hmr : (P.map oR).length = P.length := List.length_map ..
    have hmr2 : (R.map oR).length = R.length := List.length_map ..
    obtain ⟨m1, i1, i2, i3⟩ := settleAll (n := n) (v := 3) hn ht (headM (Q := fun x => 40 ≤ x ∨ x < 3) (fun q r e => Or.inl ((ref_all q).2.2.2.1 (hR q r e)))) (memMap (Q := fun x => ¬ 40 ≤ x ∧ ¬ x < 3) (fun q hq => (ref_all q).2.1 (hP q hq))) s2' (by omega) (by omega)
    rw [i1, Option.bind_some] at hsum
    have h18 := i2.2.2.1
    rw [hmr2] at h18
    by_cases hp0 : pars pl = 0
    · have hRn : R = [] := by
        cases hRR : R with
        | nil => rfl
        | cons q r =>
          exfalso
          rw [hpr, hRR, hR q r hRR] at hp0
          change 1 + pars r = 0 at hp0
          omega
      subst hRn
      have hplP : pl = P := by rw [hpl, List.append_nil]
      subst hplP
      change (m1.1 0 18).toInt = 0 at h18
      rw [if_pos (i32_le.mpr (by omega))] at hsum
      have hd0 : deep pl = 0 := (cnt_bin pl hP).1
      rw [hd0, Nat.zero_add] at s1
      refine ⟨(0, m1), hsum, Or.inr ⟨rfl, c', ws', pl, q1, ⟨s1, ?_, ⟨?_, hP, b1, s7⟩, ⟨?_, s10, s11, s12⟩, tape_pM s13 i3, tokA_pM s14 i3, fun z => q6 ?_⟩, q3, wM_tr hMm (wM_tr q4 (wM_p i3)), q5⟩⟩
      · rw [app3_2]
        have : mE t (appM (pl.map oR) (w2 ws')) ([].map oR) (deep [] + nb) m1 := i2
        change mE t _ [] (0 + nb) m1 at this
        rw [Nat.zero_add] at this
        exact this
      · have := hB.2.2.1
        have := hB.2.2.2.1
        refine codeL_bin (by omega) pl ws' hP ?_ (by omega)
        have s3' : codeL ws' (a0 + bins pl + 1) b := s3
        change bins pl = pl.length + 0 at hbr
        rw [show a0 + 1 + pl.length = a0 + bins pl + 1 from by omega]
        exact s3'
      · exact i32_eq.mpr (by rw [s8, hp0]; rfl)
      · rcases z with z | z | z | z
        · exact Or.inl z
        · exact Or.inr (Or.inl z)
        · exact Or.inr (Or.inr (Or.inl z))
        · exact Or.inr (Or.inr (Or.inr (Or.inl z)))
    · have hRn : 0 < R.length := by
        cases hRR : R with
        | nil =>
          exfalso
          rw [hpr, hRR] at hp0
          exact hp0 rfl
        | cons q r => exact Nat.succ_pos _
      rw [if_neg (fun z => by have := i32_le.mp z; omega)] at hsum
      have h8 : ¬ c'.1 49 8 = 0 := fun z => by
        rw [z] at s8
        omega
      refine ⟨(1, m1), hsum, Or.inl ?_⟩
      have hno : F_X1_take n (c'.1 27 2) c' = some (upI (upI c' 49 0 1) 49 1 (c'.1 27 4)) := behind_no s10 (fun z => q6 (by
        rcases z with z | z | z | z
        · exact Or.inl z
        · exact Or.inr (Or.inl z)
        · exact Or.inr (Or.inr (Or.inl z))
        · exact Or.inr (Or.inr (Or.inr (Or.inl z))))) (fun z => absurd ⟨z, by omega⟩ (fun y => q6 (Or.inr (Or.inr (Or.inr (Or.inr y)))))) (fun _ => Or.inr h8) (fun _ z => absurd z h8)
      have h7 : c'.1 49 5 = 7 := s10
      exact bothNo_tr q1 q3 (wM_tr hMm (wM_tr q4 (wM_p i3))) (no_here (f := 1) ht (show ¬ (1 : Int32) = 0 from by decide) (tape_pM s13 i3) (tokA_pM s14 i3) (fun z => by rw [h7] at z; exact absurd z.1 (by decide)) s11 hno)
