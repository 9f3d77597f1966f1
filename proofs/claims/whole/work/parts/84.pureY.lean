/-! an opens clause -/
theorem rowM_low {z : Nat → Int32} {B j : Nat} {x : Int32} (hj : j < B) : ∀ r : List (Int32 × Int32), rowM z B r → rowM (upd z j x) B r := by
  intro r
  induction r with
  | nil => intro _; trivial
  | cons w r ih =>
    intro h
    refine ⟨⟨?_, ?_⟩, ih h.2⟩
    · rw [upd_ne (by omega)]; exact h.1.1
    · rw [upd_ne (by omega)]; exact h.1.2
theorem cl_idx {t cc : Nat} (ht : t < 4) (hc : cc < 24) {y x : Int32} (hy : y.toInt = (680 * t : Nat)) (hx : x.toInt = cc) : ∃ v3 a b, y + 1 + 3 * x = v3 ∧ v3 + 1 = a ∧ v3 + 2 = b ∧ jin v3 2720 = true ∧ v3.toNatClampNeg = 680 * t + 1 + 3 * cc ∧ jin a 2720 = true ∧ a.toNatClampNeg = 680 * t + 2 + 3 * cc ∧ jin b 2720 = true ∧ b.toNatClampNeg = 680 * t + 3 + 3 * cc := by
  have l1 : (1 : Int32).toInt = 1 := rfl
  have l2 : (2 : Int32).toInt = 2 := rfl
  have e1 : (y + 1).toInt = y.toInt + 1 := i32_add (by omega) (by omega)
  have e2 : (3 * x).toInt = 3 * x.toInt := i32_mulL rfl (by omega) (by omega)
  have e3 : (y + 1 + 3 * x).toInt = y.toInt + 1 + 3 * x.toInt := by rw [i32_add (by omega) (by omega), e1, e2]
  obtain ⟨v3, hv3⟩ : ∃ v3, y + 1 + 3 * x = v3 := ⟨_, rfl⟩
  rw [hv3] at e3
  have e4 : (v3 + 1).toInt = v3.toInt + 1 := i32_add (by omega) (by omega)
  have e5 : (v3 + 2).toInt = v3.toInt + 2 := i32_add (by omega) (by omega)
  obtain ⟨a, ha⟩ : ∃ a, v3 + 1 = a := ⟨_, rfl⟩
  obtain ⟨b, hb⟩ : ∃ b, v3 + 2 = b := ⟨_, rfl⟩
  rw [ha] at e4
  rw [hb] at e5
  exact ⟨v3, a, b, hv3, ha, hb, jin_of (by omega) (by omega), by rw [i32_nat]; omega, jin_of (by omega) (by omega), by rw [i32_nat]; omega, jin_of (by omega) (by omega), by rw [i32_nat]; omega⟩
theorem lev8 : F_X1_levelOf 8 = 0 := by decide
/-- the ; behind an opens clause, class -/
theorem class_semi {n t : Nat} (hn : 400000 ≤ n) (ht : t < 4) {Ws P : List Int32} {c : jS} (hcs : c.1 27 2 = 8) (h : cE t Ws P (nests P) c) (hP : ∀ p ∈ P, ¬ F_X1_levelOf p < 1) (h9 : jz (c.1 49 9) = true) (h8 : c.1 49 8 = 0) (h5 : c.1 49 5 = 7) (hw : Ws.length + P.length ≤ 300) (hl : P.length ≤ 64) (hn8 : nests P ≤ 8) :
    ∃ d, F_X1_take n (c.1 27 2) c = some (upI d 49 5 0) ∧ cE t (app P Ws) [] 0 d ∧ pC t c d := by
  have h' : cE t Ws (P ++ []) (nests P + 0) c := by rw [List.append_nil]; exact h
  obtain ⟨d, d1, d2, d3⟩ := join_c (n := n) (v := 1) hn ht (fun p r e => by cases e) hP h' hw (by show P.length + 0 ≤ 64; omega) (by omega)
  refine ⟨d, ?_, d2, d3⟩
  rw [take_7 h5]
  obtain ⟨k0, e, hk0⟩ := behind_is (n := n) (v := c.1 27 2) (c := c)
  have hk : k0 = true := hk0.mpr ⟨h9, h8⟩
  rw [e, hk, hcs, lev8]
  unfold J_X1_takeBehindOne_24
  rw [if_neg (by decide), if_neg (by decide), if_neg (by decide)]
  unfold J_X1_takeBehindOne_65
  rw [if_neg (by decide)]
  unfold J_X1_takeBehindOne_98
  rw [if_neg (by decide), if_neg (by decide)]
  unfold J_X1_takeBehindOne_126
  rw [if_pos rfl, if_pos rfl, d1, Option.bind_some, jl_1]
theorem clause_open {n t cc : Nat} (hn : 400000 ≤ n) (ht : t < 4) {Wf : List (Int32 × Int32 × Int32)} {c m : jS} (h : textR t Wf c m) (hcs : c.1 27 2 = 4) (ho : ¬ jz (c.1 (2 + 4 * t) 6) = true) (hcc : (c.1 (2 + 4 * t) 4).toInt = cc) (h24 : cc < 24) :
    ∃ r, J_X9_clause_59 n 0 (m.1 3 (680 * t)) true m = some r ∧ (tNo n t c m r.1 r.2 ∨ (r.1 = 0 ∧ ∃ c' Wf', rch n c c' ∧ (c.1 27 4).toInt + 1 ≤ (c'.1 27 4).toInt ∧ textR t Wf' c' r.2 ∧ fC t c c' ∧ fM t m r.2)) := by
  obtain ⟨⟨s1, s2, s3⟩, hT, hK, hcl, hop, ⟨p1, p2, p3, p4, p5, p6, p7, p8⟩, u1, u2⟩ := h
  have hWf := p8 ho
  subst hWf
  have hx4 : c.1 (2 + 4 * t) 4 = m.1 3 (680 * t) := hcl.1.1
  obtain ⟨x1, htk, hx1, hx1v⟩ := takeClause_open ht s1 hcc h24 ho
  obtain ⟨C, hC⟩ : ∃ C, upI (upI (upI (upI (upI (upI (upI (upI (upI c (2 + 4 * t + 2) cc (-1)) (2 + 4 * t + 3) cc 0) (2 + 4 * t) 4 x1) (2 + 4 * t) 6 (jb true)) 49 6 0) 49 7 0) 49 8 0) 49 9 (jb false)) 49 5 6 = C := ⟨_, rfl⟩
  rw [hC] at htk
  have C2 : C.1 (2 + 4 * t + 2) = upd (c.1 (2 + 4 * t + 2)) cc (-1) := by
    rw [← hC, upI_1, if_neg (by omega), upI_1, if_neg (by omega), upI_1, if_neg (by omega), upI_1, if_neg (by omega), upI_1, if_neg (by omega), upI_1, if_neg (by omega), upI_1, if_neg (by omega), upI_1, if_neg (by omega), upI_1, if_pos rfl]
  have C3 : C.1 (2 + 4 * t + 3) = upd (c.1 (2 + 4 * t + 3)) cc 0 := by
    rw [← hC, upI_1, if_neg (by omega), upI_1, if_neg (by omega), upI_1, if_neg (by omega), upI_1, if_neg (by omega), upI_1, if_neg (by omega), upI_1, if_neg (by omega), upI_1, if_neg (by omega), upI_1, if_pos rfl, upI_1, if_neg (by omega)]
  have C0 : C.1 (2 + 4 * t) = upd (upd (c.1 (2 + 4 * t)) 4 x1) 6 (jb true) := by
    rw [← hC, upI_1, if_neg (by omega), upI_1, if_neg (by omega), upI_1, if_neg (by omega), upI_1, if_neg (by omega), upI_1, if_neg (by omega), upI_1, if_pos rfl, upI_1, if_pos rfl, upI_1, if_neg (by omega), upI_1, if_neg (by omega)]
  have Ck : ∀ k : Nat, ¬ k = 2 + 4 * t → ¬ k = 2 + 4 * t + 2 → ¬ k = 2 + 4 * t + 3 → ¬ k = 49 → C.1 k = c.1 k := fun k a1 a2 a3 a4 => by
    rw [← hC, upI_1, if_neg a4, upI_1, if_neg a4, upI_1, if_neg a4, upI_1, if_neg a4, upI_1, if_neg a4, upI_1, if_neg a1, upI_1, if_neg a1, upI_1, if_neg a3, upI_1, if_neg a2]
  have C49 : C.1 49 = upd (upd (upd (upd (upd (c.1 49) 6 0) 7 0) 8 0) 9 (jb false)) 5 6 := by
    rw [← hC, upI_1, if_pos rfl, upI_1, if_pos rfl, upI_1, if_pos rfl, upI_1, if_pos rfl, upI_1, if_pos rfl, upI_1, if_neg (by omega), upI_1, if_neg (by omega), upI_1, if_neg (by omega), upI_1, if_neg (by omega)]
  have CL : C.2 = c.2 := by rw [← hC]; rfl
  have C49j : ∀ j : Nat, ¬ j = 5 → ¬ j = 6 → ¬ j = 7 → ¬ j = 8 → ¬ j = 9 → C.1 49 j = c.1 49 j := fun j a1 a2 a3 a4 a5 => by
    rw [C49, upd_ne a1, upd_ne a5, upd_ne a4, upd_ne a3, upd_ne a2]
  have fcC : fC t c C := ⟨fun k a1 a2 a3 a4 => Ck k (by omega) (by omega) (by omega) a3, by rw [Ck 27 (by omega) (by omega) (by omega) (by decide)], C49j 4 (by decide) (by decide) (by decide) (by decide) (by decide), CL⟩
  have hne : ¬ c.1 27 2 = 1 := by rw [hcs]; decide
  obtain ⟨c2, m2, k1, k2, k3, k4, k5, k6, k7⟩ := advance2 hn (c1 := C) (m1 := upI m 0 21 (jb true)) hT hK hne (Ck 27 (by omega) (by omega) (by omega) (by decide)) (Ck 28 (by omega) (by omega) (by omega) (by decide)) rfl rfl rfl
  have hstp : stp n c c2 := ⟨fun z => hne z.2, k7, by rw [k3.1 49 (by decide), C49j 1 (by decide) (by decide) (by decide) (by decide) (by decide)], C, by rw [take_0 s2, hcs]; exact htk, (C49j 0 (by decide) (by decide) (by decide) (by decide) (by decide)).trans s3, k1⟩
  have m20 : ∀ j : Nat, ¬ j = 8 → ¬ j = 9 → ¬ j = 10 → ¬ j = 11 → ¬ j = 21 → m2.1 0 j = m.1 0 j := fun j a1 a2 a3 a4 a5 => by
    rw [k4.2.1 j a1 a2 a3 a4, upI_1, if_pos rfl, upd_ne a5]
  have m23 : m2.1 3 = m.1 3 := by rw [k4.1 3 (by decide), upI_1, if_neg (by decide)]
  have h13 : (m2.1 0 13).toInt = (680 * t : Nat) := by rw [m20 13 (by decide) (by decide) (by decide) (by decide) (by decide)]; exact u2
  obtain ⟨v3, a, b, i1, i2, i3, i4, i5, i6, i7, i8, i9⟩ := cl_idx ht h24 h13 (show (m.1 3 (680 * t)).toInt = cc from by rw [← hx4]; exact hcc)
  obtain ⟨m3, hm3⟩ : ∃ m3, upI m2 3 (680 * t + 1 + 3 * cc) 0 = m3 := ⟨_, rfl⟩
  have hbody : J_X9_clause_59 n 0 (m.1 3 (680 * t)) true m = (F_X9_either n m3).bind fun p95 => J_X9_clause_124 n 0 v3 (m3.1 0 15) p95.1 p95.2 := by
    unfold J_X9_clause_59
    rw [jl_1, k2, Option.bind_some, i1, if_pos i4, jl_1, i5, hm3, if_pos rfl]
  have m30 : m3.1 0 = m2.1 0 := by rw [← hm3, upI_1, if_neg (by decide)]
  have m34 : ∀ k : Nat, ¬ k = 3 → m3.1 k = m2.1 k := fun k hk => by rw [← hm3, upI_1, if_neg hk]
  have m3L : m3.2 = m2.2 := by rw [← hm3]; rfl
  have hT3 : rTape (c2.1 27) (c2.1 28) (m3.1 0) (m3.1 4) := by rw [m30, m34 4 (by decide)]; exact k6
  have hK3 : tokA c2 m3 := tokA_M k5 (by rw [m30]) (by rw [m30]) (by rw [m30]) (by rw [m30]) (by rw [m3L])
  have c2k : ∀ k : Nat, ¬ k = 27 → c2.1 k = C.1 k := fun k hk => k3.1 k hk
  have p3' : (m.1 0 15).toInt = ((0 : Nat) : Int) := p3
  have p1' : (c.1 (2 + 4 * t) 3).toInt = ((0 : Nat) : Int) := p1
  have hask : askR t [] [] 0 0 c2 m3 := by
    refine ⟨⟨⟨?_, trivial, ?_, trivial, ?_, ?_⟩, mE_reset ?_ trivial ?_ ?_, ⟨⟨rfl, rfl⟩, trivial, fun z => (by cases z), Nat.zero_le _, ?_⟩, ⟨?_, rfl, ?_, ?_, ?_⟩, hT3, hK3⟩, ?_⟩
    · rw [c2k _ (by omega), C0, upd_ne (by decide), upd_ne (by decide)]; exact p1'
    · rw [c2k 49 (by decide), C49, upd_ne (by decide), upd_ne (by decide), upd_ne (by decide), upd_ne (by decide), upd_eq rfl]; rfl
    · rw [c2k 49 (by decide), C49, upd_ne (by decide), upd_ne (by decide), upd_ne (by decide), upd_eq rfl]; rfl
    · rw [c2k 49 (by decide), C49j 4 (by decide) (by decide) (by decide) (by decide) (by decide)]; exact s1
    · rw [m30, m20 15 (by decide) (by decide) (by decide) (by decide) (by decide)]; exact p3'
    · rw [m30, m20 19 (by decide) (by decide) (by decide) (by decide) (by decide)]; exact u1
    · rw [m30]; exact h13
    · exact hK3.1.2.2.1
    · rw [c2k 49 (by decide), C49, upd_ne (by decide), upd_ne (by decide), upd_eq rfl]; rfl
    · rw [c2k 49 (by decide), C49, upd_eq rfl]; rfl
    · rw [c2k 49 (by decide), C49j 0 (by decide) (by decide) (by decide) (by decide) (by decide)]; exact s3
    · rw [c2k _ (by omega), C0, upd_ne (by decide), upd_ne (by decide)]; exact p5
    · rw [c2k 49 (by decide), C49, upd_ne (by decide), upd_eq rfl]; exact jz_f
  have hc2f : fC t c c2 := fC_tr fcC (fC_fr k3)
  have hm3f : fM t m m3 := by
    rw [← hm3]
    exact fM_3 (fM_tr (fM_0 fM_rfl (by decide) _) (fM_fr k4)) (by omega) _
  obtain ⟨r, e1, e2⟩ := either_rel hn ht hask
  rw [e1, Option.bind_some] at hbody
  rcases e2 with e2 | ⟨e0, c5, Ws, P, W, g1, g2, g3, g4⟩
  · have : J_X9_clause_124 n 0 v3 (m3.1 0 15) r.1 r.2 = some (r.1, r.2) := by
      unfold J_X9_clause_124
      rw [if_neg e2.1]
    rw [this] at hbody
    exact ⟨_, hbody, Or.inl (tNo_tr (rch_one hstp) hc2f hm3f (tNo_of e2))⟩
  · obtain ⟨y, hy⟩ : ∃ y, r.2 = y := ⟨_, rfl⟩
    rw [hy, e0] at hbody
    rw [hy] at g2 g4
    obtain ⟨q1, q2, q3, q4, ⟨q5, q6, q7, q8, q9⟩, ⟨w1', w2', w3', w4', w5'⟩, w6, w7, w8, w9, w10⟩ := g2
    have y13 : (y.1 0 13).toInt = (680 * t : Nat) := q3.2.2.2.2.2
    have yn13 : (y.1 0 13).toNatClampNeg = 680 * t := nat_val y13
    have yj13 : jin (y.1 0 13) 2720 = true := jin_of (by omega) (by omega)
    have ylow : ∀ j : Nat, j < 680 * t + 75 → y.1 3 j = m3.1 3 j := fun j hj => g4.2.2.1 j hj
    have m3z : m3.1 3 = upd (m.1 3) (680 * t + 1 + 3 * cc) 0 := by rw [← hm3, upI_1, if_pos rfl, m23]
    obtain ⟨M4, hM4⟩ : ∃ M4, upI (upI (upI y 3 (680 * t + 2 + 3 * cc) (m3.1 0 15)) 3 (680 * t + 3 + 3 * cc) (y.1 0 15)) 3 (680 * t) (y.1 3 (680 * t) + 1) = M4 := ⟨_, rfl⟩
    have M40 : M4.1 0 = y.1 0 := by rw [← hM4, upI_1, if_neg (by decide), upI_1, if_neg (by decide), upI_1, if_neg (by decide)]
    have M4k : ∀ k : Nat, ¬ k = 3 → M4.1 k = y.1 k := fun k hk => by rw [← hM4, upI_1, if_neg hk, upI_1, if_neg hk, upI_1, if_neg hk]
    have M4L : M4.2 = y.2 := by rw [← hM4]; rfl
    have M43 : M4.1 3 = upd (upd (upd (y.1 3) (680 * t + 2 + 3 * cc) (m3.1 0 15)) (680 * t + 3 + 3 * cc) (y.1 0 15)) (680 * t) (y.1 3 (680 * t) + 1) := by
      rw [← hM4, upI_1, if_pos rfl, upI_1, if_pos rfl, upI_1, if_pos rfl]
    have h124 : J_X9_clause_124 n 0 v3 (m3.1 0 15) 0 y = (if (M4.1 0 10) = 59 then ((F_X9_nextToken n M4).bind fun p185 => some (0, p185)) else some (1, M4)) := by
      unfold J_X9_clause_124
      rw [if_pos rfl, if_pos rfl, i2, if_pos i6, jl_1, i3, if_pos i8, jl_1, i7, i9]
      rw [show (upI y 3 (680 * t + 2 + 3 * cc) (m3.1 0 15)).1 0 15 = y.1 0 15 from by rw [upI_1, if_neg (by decide)]]
      unfold J_X9_clause_160
      rw [show (upI (upI y 3 (680 * t + 2 + 3 * cc) (m3.1 0 15)) 3 (680 * t + 3 + 3 * cc) (y.1 0 15)).1 0 13 = y.1 0 13 from by rw [upI_1, if_neg (by decide), upI_1, if_neg (by decide)], if_pos yj13, jl_1, yn13]
      rw [show (upI (upI y 3 (680 * t + 2 + 3 * cc) (m3.1 0 15)) 3 (680 * t + 3 + 3 * cc) (y.1 0 15)).1 3 (680 * t) = y.1 3 (680 * t) from by rw [upI_1, if_pos rfl, upd_ne (by omega), upI_1, if_pos rfl, upd_ne (by omega)], hM4]
    rw [h124] at hbody
    have hfy : fM t y M4 := by rw [← hM4]; exact fM_3 (fM_3 (fM_3 fM_rfl (by omega) _) (by omega) _) (by omega) _
    have hfm : fM t m M4 := fM_tr hm3f (fM_tr (fM_w g4) hfy)
    have hT4 : rTape (c5.1 27) (c5.1 28) (M4.1 0) (M4.1 4) := by rw [M40, M4k 4 (by decide)]; exact w6
    have hK4 : tokA c5 M4 := tokA_M w7 (by rw [M40]) (by rw [M40]) (by rw [M40]) (by rw [M40]) (by rw [M4L])
    have hr5 : rch n c c5 := rch_tr (rch_one hstp) g1
    have hf5 : fC t c c5 := fC_tr hc2f (fC_w g3)
    obtain ⟨en1, en2⟩ := notEnd w6 w7
    have hsemi := hK4.2.1.2.2.2.2.2.2.2.2.2.1.1
    by_cases k8 : c5.1 27 2 = 8
    · rw [if_pos (hsemi.mpr k8)] at hbody
      obtain ⟨d, d1, d2, d3⟩ := class_semi hn ht k8 q1 q5 w5' w1' w2' (by omega) q6 q7
      have hne5 : ¬ c5.1 27 2 = 1 := by rw [k8]; decide
      obtain ⟨c6, m6, l1, l2, l3, l4, l5, l6, l7⟩ := advance2 hn (c1 := upI d 49 5 0) (m1 := M4) hT4 hK4 hne5 (by rw [upI_1, if_neg (by decide)]; exact d3.1 27 (by omega) (by omega) (by decide) (by decide)) (by rw [upI_1, if_neg (by decide)]; exact d3.1 28 (by omega) (by omega) (by decide) (by decide)) rfl rfl rfl
      rw [l2, Option.bind_some] at hbody
      have hst2 : stp n c5 c6 := by
        refine ⟨fun z => hne5 z.2, l7, by rw [l3.1 49 (by decide), upI_1, if_pos rfl, upd_ne (by decide), d3.2.2.1 1 (by decide) (by decide)], _, d1, ?_, l1⟩
        rw [upI_1, if_pos rfl, upd_ne (by decide), d3.2.2.1 0 (by decide) (by decide)]; exact w3'
      have hle := rch_le g1
      have hx6 : ∀ j : Nat, ¬ j = 3 → ¬ j = 5 → c6.1 (2 + 4 * t) j = C.1 (2 + 4 * t) j := fun j a1 a2 => by
        rw [l3.1 _ (by omega), upI_1, if_neg (by omega), d3.2.1 j a1, g3.2.1 j a1 a2, c2k _ (by omega)]
      have hrow : ∀ k : Nat, k = 2 + 4 * t + 2 ∨ k = 2 + 4 * t + 3 → c6.1 k = C.1 k := fun k hk => by
        rw [l3.1 k (by omega), upI_1, if_neg (by omega), d3.1 k (by omega) (by omega) (by omega) (by omega), g3.1 k (by omega) (by omega) (by omega) (by omega) (by omega), c2k k (by omega)]
      have m6z : m6.1 3 = M4.1 3 := l4.1 3 (by decide)
      have m60 : ∀ j : Nat, ¬ j = 8 → ¬ j = 9 → ¬ j = 10 → ¬ j = 11 → m6.1 0 j = y.1 0 j := fun j a1 a2 a3 a4 => by rw [l4.2.1 j a1 a2 a3 a4, M40]
      have zz : ∀ j : Nat, j < 680 * t + 75 → ¬ j = 680 * t → ¬ j = 680 * t + 1 + 3 * cc → ¬ j = 680 * t + 2 + 3 * cc → ¬ j = 680 * t + 3 + 3 * cc → m6.1 3 j = m.1 3 j := fun j a0 a1 a2 a3 a4 => by
        rw [m6z, M43, upd_ne a1, upd_ne a4, upd_ne a3, ylow j a0, m3z, upd_ne a2]
      have hw1l : (w1 W).length = W.length := w1_len W
      have hWle : W.length ≤ 300 := by omega
      have d2w : cE t (w1 W) [] 0 d := by rw [q2]; exact d2
      have hx3 : (c6.1 (2 + 4 * t) 3).toInt = W.length := by
        rw [l3.1 _ (by omega), upI_1, if_neg (by omega), d2w.1, w1_len]
      have hy15 : (y.1 0 15).toInt = W.length := by rw [q3.1, w2_len]
      refine ⟨(0, m6), hbody, Or.inr ⟨rfl, c6, W, rch_tr hr5 (rch_one hst2), by omega, ⟨⟨?_, ?_, ?_⟩, l6, l5, ?_, ?_, ⟨hx3, ?_, ?_, ?_, ?_, hWle, fun _ => q4, fun z => ?_⟩, ?_, ?_⟩, ?_, fM_tr hfm (fM_fr l4)⟩⟩
      · rw [l3.1 49 (by decide), upI_1, if_pos rfl, upd_ne (by decide), d3.2.2.1 4 (by decide) (by decide), g3.2.2.2.1, c2k 49 (by decide), C49j 4 (by decide) (by decide) (by decide) (by decide) (by decide)]; exact s1
      · rw [l3.1 49 (by decide), upI_1, if_pos rfl, upd_eq rfl]
      · rw [l3.1 49 (by decide), upI_1, if_pos rfl, upd_ne (by decide), d3.2.2.1 0 (by decide) (by decide)]; exact w3'
      · refine clauses_open hcl ho hcc h24 ?_ ?_ ?_ (fun k hk => ?_) ?_ ?_ ?_ ?_
        · rw [hx6 4 (by decide) (by decide), C0, upd_ne (by decide), upd_eq rfl, m6z, M43, upd_eq rfl, ylow _ (by omega), m3z, upd_ne (by omega), hx1, hx4]
        · rw [hx6 4 (by decide) (by decide), C0, upd_ne (by decide), upd_eq rfl]; exact hx1v
        · rw [hx6 6 (by decide) (by decide), C0, upd_eq rfl]; exact jz_t
        · refine ⟨?_, ?_, zz _ (by omega) (by omega) (by omega) (by omega) (by omega), zz _ (by omega) (by omega) (by omega) (by omega) (by omega), zz _ (by omega) (by omega) (by omega) (by omega) (by omega)⟩
          · rw [hrow _ (Or.inl rfl), C2, upd_ne (by omega)]
          · rw [hrow _ (Or.inr rfl), C3, upd_ne (by omega)]
        · rw [hrow _ (Or.inl rfl), C2, upd_eq rfl]
        · rw [m6z, M43, upd_ne (by omega), upd_ne (by omega), upd_ne (by omega), ylow _ (by omega), m3z, upd_eq rfl]
        · rw [m6z, M43, upd_ne (by omega), upd_ne (by omega), upd_eq rfl, m30, m20 15 (by decide) (by decide) (by decide) (by decide) (by decide)]
          exact i32_eq.mpr (by rw [p3']; rfl)
        · rw [m6z, M43, upd_ne (by omega), upd_eq rfl]
          exact i32_eq.mpr (by rw [hy15, hx3])
      · rw [hx6 6 (by decide) (by decide), C0, upd_eq rfl, m60 21 (by decide) (by decide) (by decide) (by decide), g4.2.1 21 (by decide) (by decide) (by decide) (by decide) (by decide) (by decide) (by decide) (by decide), m30, k4.2.1 21 (by decide) (by decide) (by decide) (by decide), upI_1, if_pos rfl, upd_eq rfl]
      · rw [l3.1 _ (by omega), upI_1, if_neg (by omega)]; exact d2w.2.1
      · rw [m60 15 (by decide) (by decide) (by decide) (by decide)]; exact hy15
      · rw [m6z, M43]
        exact rowM_low (by omega) _ (rowM_low (by omega) _ (rowM_low (by omega) _ q3.2.1))
      · rw [l3.1 _ (by omega), upI_1, if_neg (by omega), d3.2.1 5 (by decide)]; exact w4'
      · exfalso
        apply z
        rw [hx6 6 (by decide) (by decide), C0, upd_eq rfl]; exact jz_t
      · rw [m60 19 (by decide) (by decide) (by decide) (by decide)]; exact q3.2.2.2.2.1
      · rw [m60 13 (by decide) (by decide) (by decide) (by decide)]; exact y13
      · exact fC_tr hf5 (fC_tr (fC_49 (fC_w (wC_p ht d3)) (by decide) _) (fC_fr l3))
    · rw [if_neg (fun z => k8 (hsemi.mp z))] at hbody
      refine ⟨(1, M4), hbody, Or.inl (tNo_tr hr5 hf5 hfm (tNo_here (f := 1) (show ¬ (1 : Int32) = 0 from by decide) hT4 hK4 (fun z => by rw [w2'] at z; exact absurd z.1 (by decide)) w3' (behind_no w2' w8 (fun _ => by rw [w1']; exact i32_le.mpr (Int.le_refl _)) (fun _ => Or.inl w5') (fun _ _ z => ?_)) ?_ ?_ (fC_49 (fC_49 fC_rfl (by decide) _) (by decide) _)))⟩
      · rcases z with z | z | z
        · exact w9 z
        · exact w10 z
        · exact k8 z
      · rfl
      · rfl
