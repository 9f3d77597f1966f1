/-! knock and wait clauses -/
theorem rowM_ext {z z' : Nat → Int32} {B : Nat} (h : ∀ j : Nat, B ≤ j → z' j = z j) : ∀ r : List (Int32 × Int32), rowM z B r → rowM z' B r := by
  intro r
  induction r with
  | nil => intro _; trivial
  | cons w r ih =>
    intro q
    exact ⟨⟨by rw [h _ (by omega)]; exact q.1.1, by rw [h _ (by omega)]; exact q.1.2⟩, ih q.2⟩
theorem clause_fin {n t cc : Nat} (hn : 400000 ≤ n) (ht : t < 4) {Wf : List (Int32 × Int32 × Int32)} {c m c5 m6 : jS} {x1 : Int32} (h : textR t Wf c m) (hcc : (c.1 (2 + 4 * t) 4).toInt = cc) (h24 : cc < 24) (hx1 : x1 = c.1 (2 + 4 * t) 4 + 1) (hx1v : x1.toInt = (cc : Int) + 1)
    (hT : rTape (c5.1 27) (c5.1 28) (m6.1 0) (m6.1 4)) (hK : tokA c5 m6) (h5 : c5.1 49 5 = 5) (h0 : c5.1 49 0 = 0) (h4 : c5.1 49 4 = Int32.ofNat t) (hr0 : c5.1 (2 + 4 * t) = upd (c.1 (2 + 4 * t)) 4 x1) (hr1 : c5.1 (2 + 4 * t + 1) = c.1 (2 + 4 * t + 1))
    (hr2 : ∀ k : Nat, k < cc → c5.1 (2 + 4 * t + 2) k = c.1 (2 + 4 * t + 2) k ∧ c5.1 (2 + 4 * t + 3) k = c.1 (2 + 4 * t + 3) k) (hm0 : m6.1 0 13 = m.1 0 13 ∧ m6.1 0 15 = m.1 0 15 ∧ m6.1 0 19 = m.1 0 19 ∧ (jz (m6.1 0 21) = true ↔ jz (m.1 0 21) = true))
    (hz : ∀ j : Nat, ¬ j = 680 * t + 1 + 3 * cc → ¬ j = 680 * t + 2 + 3 * cc → ¬ j = 680 * t + 3 + 3 * cc → m6.1 3 j = m.1 3 j)
    (hnew : (c5.1 (2 + 4 * t + 2) cc = 0 ∧ m6.1 3 (680 * t + 1 + 3 * cc) = 2 ∧ c5.1 (2 + 4 * t + 3) cc = m6.1 3 (680 * t + 2 + 3 * cc) ∧ 0 ≤ (c5.1 (2 + 4 * t + 3) cc).toInt ∧ (c5.1 (2 + 4 * t + 3) cc).toInt ≤ 24) ∨ (1 ≤ (c5.1 (2 + 4 * t + 2) cc).toInt ∧ (c5.1 (2 + 4 * t + 2) cc).toInt ≤ 7 ∧ m6.1 3 (680 * t + 1 + 3 * cc) = 1 ∧ m6.1 3 (680 * t + 2 + 3 * cc) = c5.1 (2 + 4 * t + 2) cc ∧ m6.1 3 (680 * t + 3 + 3 * cc) = c5.1 (2 + 4 * t + 3) cc ∧ 0 ≤ (c5.1 (2 + 4 * t + 3) cc).toInt ∧ (c5.1 (2 + 4 * t + 3) cc).toInt ≤ 5)) :
    ∃ r, J_X9_clause_160 n m6 = some r ∧ (tNo n t c5 m6 r.1 r.2 ∨ (r.1 = 0 ∧ ∃ c', rch n c5 c' ∧ (c5.1 27 4).toInt + 1 ≤ (c'.1 27 4).toInt ∧ textR t Wf c' r.2 ∧ fC t c5 c' ∧ fM t m6 r.2)) := by
  obtain ⟨⟨s1, s2, s3⟩, _, _, hcl, hop, ⟨p1, p2, p3, p4, p5, p6, p7, p8⟩, u1, u2⟩ := h
  have hx4 : c.1 (2 + 4 * t) 4 = m.1 3 (680 * t) := hcl.1.1
  have y13 : (m6.1 0 13).toInt = (680 * t : Nat) := by rw [hm0.1]; exact u2
  have yn13 : (m6.1 0 13).toNatClampNeg = 680 * t := nat_val y13
  have yj13 : jin (m6.1 0 13) 2720 = true := jin_of (by omega) (by omega)
  obtain ⟨M7, hM7⟩ : ∃ M7, upI m6 3 (680 * t) (m6.1 3 (680 * t) + 1) = M7 := ⟨_, rfl⟩
  have M70 : M7.1 0 = m6.1 0 := by rw [← hM7, upI_1, if_neg (by decide)]
  have M74 : M7.1 4 = m6.1 4 := by rw [← hM7, upI_1, if_neg (by decide)]
  have M73 : M7.1 3 = upd (m6.1 3) (680 * t) (m6.1 3 (680 * t) + 1) := by rw [← hM7, upI_1, if_pos rfl]
  have M7L : M7.2 = m6.2 := by rw [← hM7]; rfl
  have h160 : J_X9_clause_160 n m6 = (if (M7.1 0 10) = 59 then ((F_X9_nextToken n M7).bind fun p185 => some (0, p185)) else some (1, M7)) := by
    unfold J_X9_clause_160
    rw [if_pos yj13, jl_1, yn13, hM7]
  have hT7 : rTape (c5.1 27) (c5.1 28) (M7.1 0) (M7.1 4) := by rw [M70, M74]; exact hT
  have hK7 : tokA c5 M7 := tokA_M hK (by rw [M70]) (by rw [M70]) (by rw [M70]) (by rw [M70]) (by rw [M7L])
  have hf7 : fM t m6 M7 := by rw [← hM7]; exact fM_3 fM_rfl (by omega) _
  have hsemi := hK7.2.1.2.2.2.2.2.2.2.2.2.1.1
  rcases signStep hn ht hT7 hK7 h0 h5 (Or.inr ⟨rfl, rfl, rfl⟩) with ⟨k8, no⟩ | ⟨k8, m8, c6, a1, a2, a3, a4, a5, a6, a7⟩
  · rw [if_neg (fun z => k8 (hsemi.mp z))] at h160
    exact ⟨(1, M7), h160, Or.inl (tNo_tr rch_rfl fC_rfl hf7 no)⟩
  · rw [if_pos (hsemi.mpr k8), a1, Option.bind_some] at h160
    have c6k : ∀ k : Nat, ¬ k = 27 → ¬ k = 49 → c6.1 k = c5.1 k := fun k b1 b2 => a3.1 k b1 b2 b1
    have m83 : m8.1 3 = M7.1 3 := a5.1 3 (by decide)
    have m80 : ∀ j : Nat, ¬ j = 8 → ¬ j = 9 → ¬ j = 10 → ¬ j = 11 → m8.1 0 j = m6.1 0 j := fun j b1 b2 b3 b4 => by rw [a5.2.1 j b1 b2 b3 b4, M70]
    have e0 : c6.1 (2 + 4 * t) = upd (c.1 (2 + 4 * t)) 4 x1 := by rw [c6k _ (by omega) (by omega)]; exact hr0
    refine ⟨(0, m8), h160, Or.inr ⟨rfl, c6, rch_one a2, a2.2.1, ⟨⟨?_, a4, ?_⟩, a6, a7, ?_, ?_, ⟨?_, ?_, ?_, ?_, ?_, p6, ?_, ?_⟩, ?_, ?_⟩, ⟨fun k b1 b2 b3 b4 => c6k k b2 b3, a3.2.2.1, a3.2.1 4 (by decide), a3.2.2.2⟩, fM_tr hf7 (fM_fr a5)⟩⟩
    · rw [a3.2.1 4 (by decide)]; exact h4
    · rw [a3.2.1 0 (by decide)]; exact h0
    · rw [e0, c6k (2 + 4 * t + 2) (by omega) (by omega), c6k (2 + 4 * t + 3) (by omega) (by omega), m83, M73]
      refine clauses_more hcl hcc h24 ?_ ?_ ?_ ?_ (fun k hk => ?_) ?_
      · rw [upd_eq rfl, upd_eq rfl, hz _ (by omega) (by omega) (by omega), hx1, hx4]
      · rw [upd_eq rfl]; exact hx1v
      · rw [upd_ne (by decide)]
      · rw [upd_ne (by decide)]
      · refine ⟨(hr2 k hk).1, (hr2 k hk).2, ?_, ?_, ?_⟩
        · rw [upd_ne (by omega), hz _ (by omega) (by omega) (by omega)]
        · rw [upd_ne (by omega), hz _ (by omega) (by omega) (by omega)]
        · rw [upd_ne (by omega), hz _ (by omega) (by omega) (by omega)]
      · rw [upd_ne (by omega), upd_ne (by omega), upd_ne (by omega)]
        exact hnew
    · rw [e0, upd_ne (by decide), m80 21 (by decide) (by decide) (by decide) (by decide), hop]
      exact hm0.2.2.2.symm
    · rw [e0, upd_ne (by decide)]; exact p1
    · rw [c6k _ (by omega) (by omega), hr1]; exact p2
    · rw [m80 15 (by decide) (by decide) (by decide) (by decide), hm0.2.1]; exact p3
    · rw [m83, M73]
      exact rowM_low (by omega) _ (rowM_ext (fun j hj => hz j (by omega) (by omega) (by omega)) _ p4)
    · rw [e0, upd_ne (by decide)]; exact p5
    · rw [e0, upd_ne (by decide)]; exact p7
    · rw [e0, upd_ne (by decide)]; exact p8
    · rw [m80 19 (by decide) (by decide) (by decide) (by decide), hm0.2.2.1]; exact u1
    · rw [m80 13 (by decide) (by decide) (by decide) (by decide)]; exact y13
theorem clause_other {n t cc : Nat} (hn : 400000 ≤ n) (ht : t < 4) {Wf : List (Int32 × Int32 × Int32)} {c m : jS} (h : textR t Wf c m) {cs v1 : Int32} {k1 : Bool} (hcs : c.1 27 2 = cs) (hv : (cs = 5 ∧ v1 = 1) ∨ (cs = 7 ∧ v1 = 2)) (hcc : (c.1 (2 + 4 * t) 4).toInt = cc) (h24 : cc < 24) (hk1 : k1 = true ↔ jz (m.1 0 21) = true) :
    ∃ r, J_X9_clause_59 n v1 (m.1 3 (680 * t)) k1 m = some r ∧ (tNo n t c m r.1 r.2 ∨ (r.1 = 0 ∧ ∃ c' Wf', rch n c c' ∧ (c.1 27 4).toInt + 1 ≤ (c'.1 27 4).toInt ∧ textR t Wf' c' r.2 ∧ fC t c c' ∧ fM t m r.2)) := by
  have h' := h
  obtain ⟨⟨s1, s2, s3⟩, hT, hK, hcl, hop, _, u1, u2⟩ := h
  have hx4 : c.1 (2 + 4 * t) 4 = m.1 3 (680 * t) := hcl.1.1
  obtain ⟨x1, htk, hx1, hx1v⟩ := takeClause_yes (v := cs) ht s1 hcc h24 (by rcases hv with z | z; exact Or.inl z.1; exact Or.inr z.1)
  obtain ⟨st, hst⟩ : ∃ st : Int32, (if cs = 5 then 1 else 4 : Int32) = st := ⟨_, rfl⟩
  rw [hst] at htk
  obtain ⟨C, hC⟩ : ∃ C, upI (upI (upI (upI c (2 + 4 * t + 2) cc 0) (2 + 4 * t + 3) cc 0) (2 + 4 * t) 4 x1) 49 5 st = C := ⟨_, rfl⟩
  rw [hC] at htk
  have C2 : C.1 (2 + 4 * t + 2) = upd (c.1 (2 + 4 * t + 2)) cc 0 := by
    rw [← hC, upI_1, if_neg (by omega), upI_1, if_neg (by omega), upI_1, if_neg (by omega), upI_1, if_pos rfl]
  have C3 : C.1 (2 + 4 * t + 3) = upd (c.1 (2 + 4 * t + 3)) cc 0 := by
    rw [← hC, upI_1, if_neg (by omega), upI_1, if_neg (by omega), upI_1, if_pos rfl, upI_1, if_neg (by omega)]
  have C0 : C.1 (2 + 4 * t) = upd (c.1 (2 + 4 * t)) 4 x1 := by
    rw [← hC, upI_1, if_neg (by omega), upI_1, if_pos rfl, upI_1, if_neg (by omega), upI_1, if_neg (by omega)]
  have Ck : ∀ k : Nat, ¬ k = 2 + 4 * t → ¬ k = 2 + 4 * t + 2 → ¬ k = 2 + 4 * t + 3 → ¬ k = 49 → C.1 k = c.1 k := fun k a1 a2 a3 a4 => by
    rw [← hC, upI_1, if_neg a4, upI_1, if_neg a1, upI_1, if_neg a3, upI_1, if_neg a2]
  have C49 : C.1 49 = upd (c.1 49) 5 st := by
    rw [← hC, upI_1, if_pos rfl, upI_1, if_neg (by omega), upI_1, if_neg (by omega), upI_1, if_neg (by omega)]
  have CL : C.2 = c.2 := by rw [← hC]; rfl
  have fcC : fC t c C := ⟨fun k a1 a2 a3 a4 => Ck k (by omega) (by omega) (by omega) a3, by rw [Ck 27 (by omega) (by omega) (by omega) (by decide)], by rw [C49, upd_ne (by decide)], CL⟩
  have hne : ¬ c.1 27 2 = 1 := by rw [hcs]; rcases hv with z | z <;> (rw [z.1]; decide)
  obtain ⟨c2, m2, k1', k2, k3, k4, k5, k6, k7⟩ := advance2 hn (c1 := C) (m1 := upI m 0 21 (jb k1)) hT hK hne (Ck 27 (by omega) (by omega) (by omega) (by decide)) (Ck 28 (by omega) (by omega) (by omega) (by decide)) rfl rfl rfl
  have hstp : stp n c c2 := ⟨fun z => hne z.2, k7, by rw [k3.1 49 (by decide), C49, upd_ne (by decide)], C, by rw [take_0 s2, hcs]; exact htk, by rw [C49, upd_ne (by decide)]; exact s3, k1'⟩
  have m20 : ∀ j : Nat, ¬ j = 8 → ¬ j = 9 → ¬ j = 10 → ¬ j = 11 → ¬ j = 21 → m2.1 0 j = m.1 0 j := fun j a1 a2 a3 a4 a5 => by
    rw [k4.2.1 j a1 a2 a3 a4, upI_1, if_pos rfl, upd_ne a5]
  have m221 : m2.1 0 21 = jb k1 := by rw [k4.2.1 21 (by decide) (by decide) (by decide) (by decide), upI_1, if_pos rfl, upd_eq rfl]
  have m23 : m2.1 3 = m.1 3 := by rw [k4.1 3 (by decide), upI_1, if_neg (by decide)]
  have h13 : (m2.1 0 13).toInt = (680 * t : Nat) := by rw [m20 13 (by decide) (by decide) (by decide) (by decide) (by decide)]; exact u2
  obtain ⟨v3, a, b, i1, i2, i3, i4, i5, i6, i7, i8, i9⟩ := cl_idx ht h24 h13 (show (m.1 3 (680 * t)).toInt = cc from by rw [← hx4]; exact hcc)
  obtain ⟨m3, hm3⟩ : ∃ m3, upI m2 3 (680 * t + 1 + 3 * cc) v1 = m3 := ⟨_, rfl⟩
  have m30 : m3.1 0 = m2.1 0 := by rw [← hm3, upI_1, if_neg (by decide)]
  have m34 : ∀ k : Nat, ¬ k = 3 → m3.1 k = m2.1 k := fun k hk => by rw [← hm3, upI_1, if_neg hk]
  have m33 : m3.1 3 = upd (m.1 3) (680 * t + 1 + 3 * cc) v1 := by rw [← hm3, upI_1, if_pos rfl, m23]
  have m3L : m3.2 = m2.2 := by rw [← hm3]; rfl
  have hT3 : rTape (c2.1 27) (c2.1 28) (m3.1 0) (m3.1 4) := by rw [m30, m34 4 (by decide)]; exact k6
  have hK3 : tokA c2 m3 := tokA_M k5 (by rw [m30]) (by rw [m30]) (by rw [m30]) (by rw [m30]) (by rw [m3L])
  have c2k : ∀ k : Nat, ¬ k = 27 → c2.1 k = C.1 k := fun k hk => k3.1 k hk
  have hc2f : fC t c c2 := fC_tr fcC (fC_fr k3)
  have hm3f : fM t m m3 := by
    rw [← hm3]
    exact fM_3 (fM_tr (fM_0 fM_rfl (by decide) _) (fM_fr k4)) (by omega) _
  have n0 : c2.1 49 0 = 0 := by rw [c2k 49 (by decide), C49, upd_ne (by decide)]; exact s3
  have n4 : c2.1 49 4 = Int32.ofNat t := by rw [c2k 49 (by decide), C49, upd_ne (by decide)]; exact s1
  have n5 : c2.1 49 5 = st := by rw [c2k 49 (by decide), C49, upd_eq rfl]
  have n24 : (c2.1 (2 + 4 * t) 4).toInt = (cc : Int) + 1 := by rw [c2k _ (by omega), C0, upd_eq rfl]; exact hx1v
  have hv0 : ¬ v1 = 0 := by rcases hv with z | z <;> (rw [z.2]; decide)
  have h124 : ∀ (f : Int32) (s : jS), ¬ f = 0 → J_X9_clause_124 n v1 v3 (m3.1 0 15) f s = some (f, s) := fun f s hf => by
    unfold J_X9_clause_124
    rw [if_neg hf]
  have h124' : ∀ s : jS, J_X9_clause_124 n v1 v3 (m3.1 0 15) 0 s = J_X9_clause_160 n s := fun s => by
    unfold J_X9_clause_124
    rw [if_pos rfl, if_neg hv0]
  have hr1 : rch n c c2 := rch_one hstp
  have hq21 : jz (m3.1 0 21) = true ↔ jz (m.1 0 21) = true := by
    rw [m30, m221, ← hk1]
    cases k1 with
    | true => exact ⟨fun _ => rfl, fun _ => jz_t⟩
    | false => exact ⟨fun z => absurd z jz_f, fun z => by cases z⟩
  rcases hv with ⟨rfl, rfl⟩ | ⟨rfl, rfl⟩
  · -- knock
    have hst1 : st = 1 := by rw [← hst]; rfl
    subst hst1
    have hbody : J_X9_clause_59 n 1 (m.1 3 (680 * t)) k1 m = (F_X9_knocked n v3 m3).bind fun p108 => J_X9_clause_124 n 1 v3 (m3.1 0 15) p108.1 p108.2 := by
      unfold J_X9_clause_59
      rw [jl_1, k2, Option.bind_some, i1, if_pos i4, jl_1, i5, hm3, if_neg (by decide), if_pos rfl]
    have hkn : F_X9_knocked n v3 m3 = (F_X9_figure n a 1 7 m3).bind fun p7 => (if p7.1 = 0 then (if (F_X9_isWord (F_X9_w4 119 105 116 104) p7.2) = true then ((F_X9_nextToken n p7.2).bind fun p38 => ((F_X9_figure n b 0 5 p38).bind fun p47 => some (p47.1, p47.2))) else some (1, p7.2)) else some (p7.1, p7.2)) := by
      unfold F_X9_knocked
      rw [i2, i3]
    rcases figStep (cc := cc) hn ht hT3 hK3 n0 n4 n5 (Or.inl ⟨rfl, rfl, rfl, rfl, rfl⟩) n24 h24 i6 (by rw [i7]; omega) with ⟨f, g1, g2⟩ | ⟨m4, c3, x, g1, g2, g3, g4, g5, g6, g7, g8, g9, g10⟩
    · rw [hkn, g1, Option.bind_some, if_neg g2.1, Option.bind_some, h124 f m3 g2.1] at hbody
      exact ⟨_, hbody, Or.inl (tNo_tr hr1 hc2f hm3f g2)⟩
    · rw [hkn, g1, Option.bind_some, if_pos rfl] at hbody
      have h3f : fC t c2 c3 := ⟨fun k b1 b2 b3 b4 => g5.1 k b2 b3 (by omega), g5.2.2.1, g5.2.1 4 (by decide), g5.2.2.2⟩
      have h4f : fM t m3 m4 := ⟨fun k b1 b2 b3 => g8.1 k b1 b2, fun j b1 b2 b3 b4 b5 b6 b7 b8 b9 => g8.2.1 j b1 b2 b3 b4, fun j hj => by rw [g7, i7, upd_ne (by omega)], g8.2.2.1, g8.2.2.2⟩
      have hwith : (F_X9_isWord (F_X9_w4 119 105 116 104) m4 = true ↔ c3.1 27 2 = 6) := by
        rw [isWord_D, d10]
        exact g10.2.1.2.2.2.1
      have o0 : c3.1 49 0 = 0 := by rw [g5.2.1 0 (by decide)]; exact n0
      have o4 : c3.1 49 4 = Int32.ofNat t := by rw [g5.2.1 4 (by decide)]; exact n4
      rcases signStep hn ht g9 g10 o0 g6 (Or.inl ⟨rfl, rfl, rfl⟩) with ⟨k6', no⟩ | ⟨k6', m5, c4, b1, b2, b3, b4, b5, b6, b7⟩
      · rw [if_neg (fun z => k6' (hwith.mp z)), Option.bind_some, h124 1 m4 (by decide)] at hbody
        exact ⟨_, hbody, Or.inl (tNo_tr (rch_tr hr1 (rch_one g2)) (fC_tr hc2f h3f) (fM_tr hm3f h4f) no)⟩
      · rw [if_pos (hwith.mpr k6'), b1, Option.bind_some] at hbody
        have c4k : ∀ k : Nat, ¬ k = 27 → ¬ k = 49 → c4.1 k = c3.1 k := fun k q1 q2 => b3.1 k q1 q2 q1
        have h4c : fC t c3 c4 := ⟨fun k q1 q2 q3 q4 => c4k k q2 q3, b3.2.2.1, b3.2.1 4 (by decide), b3.2.2.2⟩
        have q0 : c4.1 49 0 = 0 := by rw [b3.2.1 0 (by decide)]; exact o0
        have q4 : c4.1 49 4 = Int32.ofNat t := by rw [b3.2.1 4 (by decide)]; exact o4
        have q24 : (c4.1 (2 + 4 * t) 4).toInt = (cc : Int) + 1 := by rw [c4k _ (by omega) (by omega), g5.1 _ (by omega) (by omega) (by omega)]; exact n24
        rcases figStep (cc := cc) hn ht b6 b7 q0 q4 b4 (Or.inr (Or.inl ⟨rfl, rfl, rfl, rfl, rfl⟩)) q24 h24 i8 (by rw [i9]; omega) with ⟨f, e1, e2⟩ | ⟨m6, c5, x2, e1, e2, e3, e4, e5, e6, e7, e8, e9, e10⟩
        · rw [e1, Option.bind_some, Option.bind_some, h124 f m5 e2.1] at hbody
          exact ⟨_, hbody, Or.inl (tNo_tr (rch_tr hr1 (rch_tr (rch_one g2) (rch_one b2))) (fC_tr hc2f (fC_tr h3f h4c)) (fM_tr hm3f (fM_tr h4f (fM_fr b5))) e2)⟩
        · rw [e1, Option.bind_some, Option.bind_some, h124' m6] at hbody
          have h5f : fC t c4 c5 := ⟨fun k q1 q2 q3 q4 => e5.1 k q2 q3 (by omega), e5.2.2.1, e5.2.1 4 (by decide), e5.2.2.2⟩
          have h6f : fM t m5 m6 := ⟨fun k q1 q2 q3 => e8.1 k q1 q2, fun j q1 q2 q3 q4 q5 q6 q7 q8 q9 => e8.2.1 j q1 q2 q3 q4, fun j hj => by rw [e7, i9, upd_ne (by omega)], e8.2.2.1, e8.2.2.2⟩
          have z6 : m6.1 3 = upd (upd (upd (m.1 3) (680 * t + 1 + 3 * cc) 1) (680 * t + 2 + 3 * cc) x) (680 * t + 3 + 3 * cc) x2 := by
            rw [e7, i9, b5.1 3 (by decide), g7, i7, m33]
          have j6 : ∀ j : Nat, ¬ j = 8 → ¬ j = 9 → ¬ j = 10 → ¬ j = 11 → m6.1 0 j = m3.1 0 j := fun j q1 q2 q3 q4 => by
            rw [e8.2.1 j q1 q2 q3 q4, b5.2.1 j q1 q2 q3 q4, g8.2.1 j q1 q2 q3 q4]
          have row2 : c5.1 (2 + 4 * t + 2) = upd (upd (c.1 (2 + 4 * t + 2)) cc 0) cc x := by
            rw [e5.1 _ (by omega) (by omega) (by omega), c4k _ (by omega) (by omega), g4, c2k _ (by omega), C2]
          have row3 : c5.1 (2 + 4 * t + 3) = upd (upd (c.1 (2 + 4 * t + 3)) cc 0) cc x2 := by
            rw [e4, c4k _ (by omega) (by omega), g5.1 _ (by omega) (by omega) (by omega), c2k _ (by omega), C3]
          obtain ⟨r, f1, f2⟩ := clause_fin (cc := cc) (c5 := c5) (m6 := m6) hn ht h' hcc h24 hx1 hx1v e9 e10 e6 (by rw [e5.2.1 0 (by decide)]; exact q0) (by rw [e5.2.1 4 (by decide)]; exact q4)
            (by rw [e5.1 _ (by omega) (by omega) (by omega), c4k _ (by omega) (by omega), g5.1 _ (by omega) (by omega) (by omega), c2k _ (by omega), C0])
            (by rw [e5.1 _ (by omega) (by omega) (by omega), c4k _ (by omega) (by omega), g5.1 _ (by omega) (by omega) (by omega), c2k _ (by omega), Ck _ (by omega) (by omega) (by omega) (by omega)])
            (fun k hk => ⟨by rw [row2, upd_ne (by omega), upd_ne (by omega)], by rw [row3, upd_ne (by omega), upd_ne (by omega)]⟩)
            ⟨by rw [j6 13 (by decide) (by decide) (by decide) (by decide), m30, m20 13 (by decide) (by decide) (by decide) (by decide) (by decide)], by rw [j6 15 (by decide) (by decide) (by decide) (by decide), m30, m20 15 (by decide) (by decide) (by decide) (by decide) (by decide)], by rw [j6 19 (by decide) (by decide) (by decide) (by decide), m30, m20 19 (by decide) (by decide) (by decide) (by decide) (by decide)], by rw [j6 21 (by decide) (by decide) (by decide) (by decide)]; exact hq21⟩
            (fun j q1 q2 q3 => by rw [z6, upd_ne q3, upd_ne q2, upd_ne q1])
            (Or.inr ⟨by rw [row2, upd_eq rfl]; exact g3.1, by rw [row2, upd_eq rfl]; exact g3.2, by rw [z6, upd_ne (by omega), upd_ne (by omega), upd_eq rfl], by rw [z6, upd_ne (by omega), upd_eq rfl, row2, upd_eq rfl], by rw [z6, upd_eq rfl, row3, upd_eq rfl], by rw [row3, upd_eq rfl]; exact e3.1, by rw [row3, upd_eq rfl]; exact e3.2⟩)
          rw [f1] at hbody
          have hR : rch n c c5 := rch_tr hr1 (rch_tr (rch_one g2) (rch_tr (rch_one b2) (rch_one e2)))
          have hF : fC t c c5 := fC_tr hc2f (fC_tr h3f (fC_tr h4c h5f))
          have hM : fM t m m6 := fM_tr hm3f (fM_tr h4f (fM_tr (fM_fr b5) h6f))
          rcases f2 with f2 | ⟨f0, c', q1, q2, q3, q4, q5⟩
          · exact ⟨r, hbody, Or.inl (tNo_tr hR hF hM f2)⟩
          · have := rch_le hR
            exact ⟨r, hbody, Or.inr ⟨f0, c', Wf, rch_tr hR q1, by omega, q3, fC_tr hF q4, fM_tr hM q5⟩⟩
  · -- wait
    have hst4 : st = 4 := by rw [← hst]; rfl
    subst hst4
    have hbody : J_X9_clause_59 n 2 (m.1 3 (680 * t)) k1 m = (F_X9_figure n a 0 24 m3).bind fun p121 => J_X9_clause_124 n 2 v3 (m3.1 0 15) p121.1 p121.2 := by
      unfold J_X9_clause_59
      rw [jl_1, k2, Option.bind_some, i1, if_pos i4, jl_1, i5, hm3, if_neg (by decide), if_neg (by decide), i2]
    rcases figStep (cc := cc) hn ht hT3 hK3 n0 n4 n5 (Or.inr (Or.inr ⟨rfl, rfl, rfl, rfl, rfl⟩)) n24 h24 i6 (by rw [i7]; omega) with ⟨f, g1, g2⟩ | ⟨m4, c3, x, g1, g2, g3, g4, g5, g6, g7, g8, g9, g10⟩
    · rw [g1, Option.bind_some, h124 f m3 g2.1] at hbody
      exact ⟨_, hbody, Or.inl (tNo_tr hr1 hc2f hm3f g2)⟩
    · rw [g1, Option.bind_some, h124' m4] at hbody
      have h3f : fC t c2 c3 := ⟨fun k b1 b2 b3 b4 => g5.1 k b2 b3 (by omega), g5.2.2.1, g5.2.1 4 (by decide), g5.2.2.2⟩
      have h4f : fM t m3 m4 := ⟨fun k b1 b2 b3 => g8.1 k b1 b2, fun j b1 b2 b3 b4 b5 b6 b7 b8 b9 => g8.2.1 j b1 b2 b3 b4, fun j hj => by rw [g7, i7, upd_ne (by omega)], g8.2.2.1, g8.2.2.2⟩
      have z4 : m4.1 3 = upd (upd (m.1 3) (680 * t + 1 + 3 * cc) 2) (680 * t + 2 + 3 * cc) x := by rw [g7, i7, m33]
      have row2 : c3.1 (2 + 4 * t + 2) = upd (c.1 (2 + 4 * t + 2)) cc 0 := by rw [g5.1 _ (by omega) (by omega) (by omega), c2k _ (by omega), C2]
      have row3 : c3.1 (2 + 4 * t + 3) = upd (upd (c.1 (2 + 4 * t + 3)) cc 0) cc x := by rw [g4, c2k _ (by omega), C3]
      obtain ⟨r, f1, f2⟩ := clause_fin (cc := cc) (c5 := c3) (m6 := m4) hn ht h' hcc h24 hx1 hx1v g9 g10 g6 (by rw [g5.2.1 0 (by decide)]; exact n0) (by rw [g5.2.1 4 (by decide)]; exact n4)
        (by rw [g5.1 _ (by omega) (by omega) (by omega), c2k _ (by omega), C0])
        (by rw [g5.1 _ (by omega) (by omega) (by omega), c2k _ (by omega), Ck _ (by omega) (by omega) (by omega) (by omega)])
        (fun k hk => ⟨by rw [row2, upd_ne (by omega)], by rw [row3, upd_ne (by omega), upd_ne (by omega)]⟩)
        ⟨by rw [g8.2.1 13 (by decide) (by decide) (by decide) (by decide), m30, m20 13 (by decide) (by decide) (by decide) (by decide) (by decide)], by rw [g8.2.1 15 (by decide) (by decide) (by decide) (by decide), m30, m20 15 (by decide) (by decide) (by decide) (by decide) (by decide)], by rw [g8.2.1 19 (by decide) (by decide) (by decide) (by decide), m30, m20 19 (by decide) (by decide) (by decide) (by decide) (by decide)], by rw [g8.2.1 21 (by decide) (by decide) (by decide) (by decide)]; exact hq21⟩
        (fun j q1 q2 q3 => by rw [z4, upd_ne q2, upd_ne q1])
        (Or.inl ⟨by rw [row2, upd_eq rfl], by rw [z4, upd_ne (by omega), upd_eq rfl], by rw [z4, upd_eq rfl, row3, upd_eq rfl], by rw [row3, upd_eq rfl]; exact g3.1, by rw [row3, upd_eq rfl]; exact g3.2⟩)
      rw [f1] at hbody
      have hR : rch n c c3 := rch_tr hr1 (rch_one g2)
      have hF : fC t c c3 := fC_tr hc2f h3f
      have hM : fM t m m4 := fM_tr hm3f h4f
      rcases f2 with f2 | ⟨f0, c', q1, q2, q3, q4, q5⟩
      · exact ⟨r, hbody, Or.inl (tNo_tr hR hF hM f2)⟩
      · have := rch_le hR
        exact ⟨r, hbody, Or.inr ⟨f0, c', Wf, rch_tr hR q1, by omega, q3, fC_tr hF q4, fM_tr hM q5⟩⟩
