/-! an ask: nots, a sum, a comparing sign, a sum -/
def notsW : Nat → List (Int32 × Int32 × Int32) → List (Int32 × Int32 × Int32)
  | 0, W => W
  | k + 1, W => notsW k ((-13, 20, 0) :: W)
theorem notsW_len : ∀ (k : Nat) (W : List (Int32 × Int32 × Int32)), (notsW k W).length = k + W.length := by
  intro k
  induction k with
  | zero => intro W; exact (Nat.zero_add _).symm
  | succ k ih =>
    intro W
    show (notsW k ((-13, 20, 0) :: W)).length = _
    rw [ih]
    show k + (W.length + 1) = _
    omega
theorem notsW_1 : ∀ (k : Nat) (W : List (Int32 × Int32 × Int32)), w1 (notsW k W) = app (List.replicate k 13) (w1 W) := by
  intro k
  induction k with
  | zero => intro W; rfl
  | succ k ih =>
    intro W
    show w1 (notsW k ((-13, 20, 0) :: W)) = _
    rw [ih]
    rfl
theorem notsW_nm {x : Int32} : ∀ (k : Nat) (W : List (Int32 × Int32 × Int32)), nmB x W → nmB x (notsW k W) := by
  intro k
  induction k with
  | zero => intro W h; exact h
  | succ k ih =>
    intro W h
    refine ih _ (nmB_skip h ?_)
    decide +kernel
theorem notsW_code {b : Nat} (hb : 1 ≤ b) (h64 : b ≤ 64) : ∀ (k : Nat) (W : List (Int32 × Int32 × Int32)), codeL W 0 b → codeL (notsW k W) 0 b := by
  intro k
  induction k with
  | zero => intro W h; exact h
  | succ k ih =>
    intro W h
    exact ih _ ⟨0, b, h, by omega, Or.inr (Or.inr (Or.inr (Or.inr (Or.inr (Or.inl ⟨rfl, rfl, rfl, hb, rfl, rfl⟩)))))⟩
/-- ahead of an ask, k nots taken -/
def B0ok (B0 : List Int32) : Prop := B0.length ≤ 2 ∧ ∀ p ∈ B0, p = 11 ∨ p = 12
def askR (t : Nat) (ws : List (Int32 × Int32 × Int32)) (B0 : List Int32) (b k : Nat) (c m : jS) : Prop :=
  sumR t ws [] (List.replicate k 13 ++ B0) k 0 b false c (upI (upI m 0 18 0) 0 20 (jb false)) ∧ ¬ jz (c.1 49 9) = true
theorem base_lev {k : Nat} {B0 : List Int32} (h : B0ok B0) : ∀ p r, List.replicate k (13 : Int32) ++ B0 = p :: r → F_X1_levelOf p < 4 ∧ (p = 11 ∨ p = 12 ∨ p = 13) := by
  intro p r e
  cases k with
  | zero =>
    change B0 = p :: r at e
    have := h.2 p (by rw [e]; exact List.mem_cons_self ..)
    rcases this with rfl | rfl
    · exact ⟨by decide, Or.inl rfl⟩
    · exact ⟨by decide, Or.inr (Or.inl rfl)⟩
  | succ k =>
    obtain ⟨rfl, _⟩ := List.cons.inj (show (13 : Int32) :: (List.replicate k 13 ++ B0) = p :: r from e)
    exact ⟨by decide, Or.inr (Or.inr rfl)⟩
/-- behind an ask: the class still holds its operators -/
def askE (t : Nat) (ws : List (Int32 × Int32 × Int32)) (pl : List (Fin 6)) (v o : Int32) (k : Nat) (B0 : List Int32) (b : Nat) (c m : jS) : Prop :=
  cE t (w1 ws) (pl.map oC ++ (v :: (List.replicate k 13 ++ B0))) k c ∧ mE t (w2 (notsW k ((-v, o, 0) :: app3 pl ws))) [] 0 m ∧
  (codeL (notsW k ((-v, o, 0) :: app3 pl ws)) 0 (b + 1) ∧ (∀ p ∈ pl, 1 ≤ p.val ∧ p.val ≤ 4) ∧ pl.length ≤ 26 ∧ k ≤ 8 ∧ F_X1_levelOf v = 4 ∧ ((ws.length + pl.length + 1 + k + B0.length : Nat) : Int) ≤ (c.1 27 4).toInt) ∧
  (c.1 49 8 = 0 ∧ c.1 49 5 = 7 ∧ c.1 49 0 = 0 ∧ nmB (c.1 (2 + 4 * t) 5) (notsW k ((-v, o, 0) :: app3 pl ws)) ∧ jz (c.1 49 9) = true) ∧
  rTape (c.1 27) (c.1 28) (m.1 0) (m.1 4) ∧ tokA c m ∧ ¬ (c.1 27 2 = 20 ∨ c.1 27 2 = 21 ∨ c.1 27 2 = 22 ∨ c.1 27 2 = 23)
theorem comp_all : ∀ v ∈ ([14, 15, 16, 17, 18, 19] : List Int32), F_X1_levelOf v = 4 ∧ ¬ (v = 11 ∨ v = 12 ∨ v = 13) ∧ (∃ k : Nat, 10 ≤ k ∧ k ≤ 15 ∧ (if v = 14 then 10 else if v = 15 then 11 else if v = 16 then 12 else if v = 17 then 13 else if v = 18 then 14 else if v = 19 then 15 else (-1 : Int32)) = Int32.ofNat k ∧ -v = -Int32.ofNat (k + 4)) ∧ (∀ j : Nat, j < 8 → ¬ -v = 10000 + Int32.ofNat j) ∧ ¬ v = 1 ∧ ¬ v = 10 := by
  intro v hv
  simp only [List.mem_cons, List.not_mem_nil, or_false] at hv
  rcases hv with rfl | rfl | rfl | rfl | rfl | rfl
  · exact ⟨by decide, by decide, ⟨10, by decide, by decide, by decide, by decide⟩, by decide +kernel, by decide, by decide⟩
  · exact ⟨by decide, by decide, ⟨11, by decide, by decide, by decide, by decide⟩, by decide +kernel, by decide, by decide⟩
  · exact ⟨by decide, by decide, ⟨12, by decide, by decide, by decide, by decide⟩, by decide +kernel, by decide, by decide⟩
  · exact ⟨by decide, by decide, ⟨13, by decide, by decide, by decide, by decide⟩, by decide +kernel, by decide, by decide⟩
  · exact ⟨by decide, by decide, ⟨14, by decide, by decide, by decide, by decide⟩, by decide +kernel, by decide, by decide⟩
  · exact ⟨by decide, by decide, ⟨15, by decide, by decide, by decide, by decide⟩, by decide +kernel, by decide, by decide⟩
theorem sumR_m {t : Nat} {ws : List (Int32 × Int32 × Int32)} {base : List Int32} {nb a0 b : Nat} {c m : jS} (h : sumR t ws [] base nb a0 b false c (upI (upI m 0 18 0) 0 20 (jb false))) : rTape (c.1 27) (c.1 28) (m.1 0) (m.1 4) ∧ tokA c m ∧ (m.1 0 15).toInt = ws.length ∧ rowM (m.1 3) (680 * t + 75) (w2 ws) ∧ (m.1 0 19).toInt = nb ∧ (m.1 0 13).toInt = (680 * t : Nat) := by
  obtain ⟨s1, ⟨g1, g2, g3, g4, g5, g6⟩, _, _, s13, s14⟩ := h
  rw [w2_len] at g1
  have g5' : (m.1 0 19).toInt = ((0 + nb : Nat) : Int) := g5
  rw [Nat.zero_add] at g5'
  exact ⟨s13, s14, g1, g2, g5', g6⟩
theorem mE_reset {t : Nat} {Ts : List (Int32 × Int32)} {ne : Nat} {m : jS} (h1 : (m.1 0 15).toInt = Ts.length) (h2 : rowM (m.1 3) (680 * t + 75) Ts) (h5 : (m.1 0 19).toInt = ne) (h6 : (m.1 0 13).toInt = (680 * t : Nat)) : mE t Ts [] ne (upI (upI m 0 18 0) 0 20 (jb false)) := ⟨h1, h2, rfl, trivial, h5, h6⟩
/-- the nots ahead of an ask -/
theorem nots_rel {n t : Nat} (hn : 400000 ≤ n) (ht : t < 4) {ws : List (Int32 × Int32 × Int32)} {B0 : List Int32} {b : Nat} (hB : B0ok B0) (hb : b ≤ 2) {c m : jS} (h : askR t ws B0 b 0 c m) :
    ∃ e, lp (B_X9_asks_2 n) n (0, m) = some e ∧ ((∃ f y, e = .inr (f, y) ∧ bothNo n t c m f y) ∨ ∃ (x : Int32) (y : jS) (c' : jS) (k : Nat), e = .inl (x, y) ∧ x.toInt = k ∧ k ≤ 8 ∧ rch n c c' ∧ askR t ws B0 b k c' y ∧ wC t c c' ∧ wM t m y ∧ ¬ c'.1 27 2 = 13) := by
  have l1 : (1 : Int32).toInt = 1 := rfl
  have l8 : (8 : Int32).toInt = 8 := rfl
  obtain ⟨e, he, hq⟩ := lp_rule (body := B_X9_asks_2 n)
    (I := fun q j => ∃ (c' : jS) (k : Nat), q.1.toInt = k ∧ k ≤ 8 ∧ rch n c c' ∧ askR t ws B0 b k c' q.2 ∧ wC t c c' ∧ wM t m q.2 ∧ j = 8 - k)
    (Q := fun e => (∃ f y, e = .inr (f, y) ∧ bothNo n t c m f y) ∨ ∃ (x : Int32) (y : jS) (c' : jS) (k : Nat), e = .inl (x, y) ∧ x.toInt = k ∧ k ≤ 8 ∧ rch n c c' ∧ askR t ws B0 b k c' y ∧ wC t c c' ∧ wM t m y ∧ ¬ c'.1 27 2 = 13) (by
    rintro ⟨x, y⟩ j ⟨c', k, g1, g2, g3, g4, g5, g6, g7⟩
    simp only at g1 g4 g6
    have g4' := g4
    obtain ⟨hs, h9⟩ := g4
    obtain ⟨hT, hK, i1, i2, i3, i4⟩ := sumR_m hs
    obtain ⟨s1, s2, ⟨s3, s4, s5, s6, s7⟩, ⟨s8, s9, s10, s11, s12⟩, s13, s14⟩ := hs
    obtain ⟨tw, tn⟩ := hK.2
    obtain ⟨_, _, _, _, _, w5, _⟩ := tw
    have hnot : (F_X9_isWord (F_X9_w3 110 111 116) y = true ↔ c'.1 27 2 = 13) := by rw [isWord_D, d14]; exact w5
    by_cases h13 : c'.1 27 2 = 13
    · have hne : ¬ c'.1 27 2 = 1 := by rw [h13]; decide
      have h6 : c'.1 49 5 = 6 := s10
      have hlr : (List.replicate k (13 : Int32) ++ B0).length = k + B0.length := by rw [List.length_append, List.length_replicate]
      have hBl := hB.1
      have s1' : cE t (w1 ws) (List.replicate k 13 ++ B0) (0 + k) c' := s1
      rw [Nat.zero_add] at s1'
      have htake : F_X1_take n (c'.1 27 2) c' = F_X1_nest 13 c' := by
        rw [take_6 h6, h13]
        obtain ⟨q, q1, q2⟩ := atAsk_c s1' (by omega)
        have : q = true := q2.mpr (fun p r e => (base_lev hB p r e).2)
        unfold F_X1_takeOne
        rw [if_neg (by decide), if_neg (by decide), if_pos rfl, q1, Option.bind_some, if_pos this, bind_id]
      by_cases hk8 : k = 8
      · left
        refine ⟨.inr (3, y), ?_, Or.inl ⟨3, y, rfl, ?_⟩⟩
        · unfold B_X9_asks_2
          dsimp only
          rw [if_pos (hnot.mpr h13), if_pos (i32_eq.mpr (by rw [i3, hk8]; rfl))]
        · refine bothNo_tr g3 g5 g6 (no_here ht (by decide) hT hK (fun z => hne z.2) s11 ?_)
          rw [htake]
          exact nest_no (by rw [s1'.2.2.2.2.1, hk8]; rfl)
      · right
        obtain ⟨c1, a1, a2, a3, a4, a5, a6, a7⟩ := nest_c ht s1' (by omega) (by omega) 13 (Or.inr (Or.inr rfl)) (by rw [s8]; exact ⟨by decide, by decide⟩)
        obtain ⟨y19, hy19⟩ : ∃ z, y.1 0 19 + 1 = z := ⟨_, rfl⟩
        have hy19v : y19.toInt = k + 1 := by rw [← hy19, i32_add (by omega) (by omega)]; omega
        obtain ⟨c2, m2, k1, k2, k3, k4, k5, k6, k7⟩ := advance hn ht (m1 := upI y 0 19 y19) hT hK hne a3 a4 (wM_0 wM_rfl (by decide) _) rfl
        have hx1 : (x + 1).toInt = x.toInt + 1 := i32_add (by omega) (by omega)
        have ms : ∀ i : Nat, ¬ i = 8 → ¬ i = 9 → ¬ i = 10 → ¬ i = 11 → ¬ i = 19 → m2.1 0 i = y.1 0 i := fun i e1 e2 e3 e4 e5 => by
          rw [k4.2.1 i e1 e2 e3 e4, upI_1, if_pos rfl, upd_ne e5]
        refine ⟨(x + 1, m2), 8 - (k + 1), by omega, ?_, c2, k + 1, (show (x + 1).toInt = ((k + 1 : Nat) : Int) from by omega), by omega, rch_tr g3 (rch_one ⟨fun z => hne z.2, k7, by rw [k3.1 49 (by decide), a5 1 (by decide) (by decide) (by decide)], c1, htake.trans a1, (a5 0 (by decide) (by decide) (by decide)).trans s11, k1⟩), ⟨⟨?_, ?_, ⟨s3, trivial, fun z => (by cases z), by show 0 + (k + 1) ≤ 8; omega, ?_⟩, ⟨?_, rfl, ?_, ?_, ?_⟩, k6, k5⟩, ?_⟩, wC_tr g5 (wC_tr a3 (wC_fr ht k3)), wM_tr g6 (wM_tr (wM_0 wM_rfl (by decide) _) (wM_fr k4)), rfl⟩
        · unfold B_X9_asks_2
          dsimp only
          rw [if_pos (hnot.mpr h13), if_neg (fun z => by have := i32_eq.mp z; omega), hy19, jl_1, k2, Option.bind_some]
        · show cE t (w1 ws) (13 :: (List.replicate k 13 ++ B0)) (0 + (k + 1)) c2
          rw [Nat.zero_add]
          exact cE_fr ht a2 k3
        · show mE t (w2 ws) [] (0 + (k + 1)) _
          rw [Nat.zero_add]
          refine mE_reset ?_ ?_ ?_ ?_
          · rw [ms 15 (by decide) (by decide) (by decide) (by decide) (by decide), w2_len]; exact i1
          · rw [k4.1 3 (by decide), upI_1, if_neg (by decide)]; exact i2
          · rw [k4.2.1 19 (by decide) (by decide) (by decide) (by decide), upI_1, if_pos rfl, upd_eq rfl]; omega
          · rw [ms 13 (by decide) (by decide) (by decide) (by decide) (by decide)]; exact i4
        · have hl : (List.replicate (k + 1) (13 : Int32) ++ B0).length = k + 1 + B0.length := by rw [List.length_append, List.length_replicate]
          rw [hl]
          rw [hlr] at s7
          show ((ws.length + 0 + (k + 1 + B0.length) : Nat) : Int) ≤ _
          change ((ws.length + 0 + (k + B0.length) : Nat) : Int) ≤ _ at s7
          omega
        · rw [k3.1 49 (by decide), a6, if_neg (by decide), s8]; rfl
        · rw [k3.1 49 (by decide), a5 5 (by decide) (by decide) (by decide)]; exact s10
        · rw [k3.1 49 (by decide), a5 0 (by decide) (by decide) (by decide)]; exact s11
        · rw [k3.1 _ (by omega), a7]; exact s12
        · rw [k3.1 49 (by decide), a5 9 (by decide) (by decide) (by decide)]; exact h9
    · left
      refine ⟨.inl (x, y), ?_, Or.inr ⟨x, y, c', k, rfl, g1, g2, g3, g4', g5, g6, h13⟩⟩
      unfold B_X9_asks_2
      dsimp only
      rw [if_neg (fun z => h13 (hnot.mp z))]) 8 n (0, m) (by omega) ⟨c, 0, rfl, by decide, rch_rfl, h, wC_rfl, wM_rfl, rfl⟩
  exact ⟨e, he, hq⟩
/-- the nots' words -/
theorem nots_m {n t : Nat} (hn : 400000 ≤ n) (ht : t < 4) {v : Int32} {k : Nat} (hv : v.toInt = k) (hk : k ≤ 8) {W : List (Int32 × Int32 × Int32)} {ne : Nat} {m : jS} (h : mE t (w2 W) [] ne m) (hl : W.length + k ≤ 300) :
    ∃ e, lp (B_X9_asks_105 n v) n (0, m) = some e ∧ mE t (w2 (notsW k W)) [] ne e.2 ∧ pM t m e.2 := by
  have l1 : (1 : Int32).toInt = 1 := rfl
  have l0 : (0 : Int32).toInt = 0 := rfl
  obtain ⟨e, he, hq⟩ := lp_rule (body := B_X9_asks_105 n v)
    (I := fun q j => ∃ V, q.1.toInt = (k : Int) - j ∧ j ≤ k ∧ mE t (w2 V) [] ne q.2 ∧ pM t m q.2 ∧ V.length + j ≤ 300 ∧ notsW j V = notsW k W)
    (Q := fun e => mE t (w2 (notsW k W)) [] ne e.2 ∧ pM t m e.2) (by
    rintro ⟨x, y⟩ j ⟨V, g1, g2, g3, g4, g5, g6⟩
    simp only at g1 g3 g4
    by_cases hc : v ≤ x
    · left
      have hc' := i32_le.mp hc
      have hj : j = 0 := by omega
      subst hj
      refine ⟨(x, y), by unfold B_X9_asks_105; dsimp only; rw [if_pos hc], ?_, g4⟩
      rw [← g6]; exact g3
    · right
      have hc' : ¬ v.toInt ≤ x.toInt := fun z => hc (i32_le.mpr z)
      obtain ⟨j, rfl⟩ : ∃ j', j = j' + 1 := ⟨j - 1, by omega⟩
      obtain ⟨m2, a1, a2, a3⟩ := emit_m ht g3 (by rw [w2_len]; omega) 20 0
      have hx1 : (x + 1).toInt = x.toInt + 1 := i32_add (by omega) (by omega)
      exact ⟨(x + 1, m2), j, by omega, by unfold B_X9_asks_105; dsimp only; rw [if_neg hc, a1, Option.bind_some], (-13, 20, 0) :: V, (show (x + 1).toInt = (k : Int) - (j : Nat) from by omega), by omega, a2, pM_tr g4 a3, by show V.length + 1 + j ≤ 300; omega, g6⟩) k n (0, m) (by omega) ⟨W, by rw [l0]; omega, Nat.le_refl _, h, pM_rfl, by omega, rfl⟩
  exact ⟨e, he, hq⟩
