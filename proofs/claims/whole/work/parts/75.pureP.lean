/-! a sum: ( and -, and the whole step ahead of an operand -/
theorem nest_c {t : Nat} (ht : t < 4) {Ws L : List Int32} {ne : Nat} {c : jS} (h : cE t Ws L ne c) (h8 : ne < 8) (hl : L.length < 64) (v : Int32) (hv : v = 9 ∨ v = 24 ∨ v = 13) (hu : 0 ≤ (c.1 49 8).toInt ∧ (c.1 49 8).toInt ≤ 8) :
    ∃ c', F_X1_nest v c = some c' ∧ cE t Ws (v :: L) (ne + 1) c' ∧ wC t c c' ∧ c'.1 27 = c.1 27 ∧ (∀ j : Nat, ¬ j = 6 → ¬ j = 7 → ¬ j = 8 → c'.1 49 j = c.1 49 j) ∧ (c'.1 49 8).toInt = (c.1 49 8).toInt + (if v = 9 then 1 else 0) ∧ c'.1 (2 + 4 * t) = c.1 (2 + 4 * t) := by
  have l1 : (1 : Int32).toInt = 1 := rfl
  have l8 : (8 : Int32).toInt = 8 := rfl
  have h5 : (c.1 49 7).toInt = (ne : Nat) := h.2.2.2.2.1
  obtain ⟨x, hx⟩ : ∃ x, c.1 49 7 = x := ⟨_, rfl⟩
  rw [hx] at h5
  have hx1 : (x + 1).toInt = x.toInt + 1 := i32_add (by omega) (by omega)
  obtain ⟨x1, hq⟩ : ∃ x1, x + 1 = x1 := ⟨_, rfl⟩
  rw [hq] at hx1
  obtain ⟨u, hu'⟩ : ∃ u, c.1 49 8 = u := ⟨_, rfl⟩
  rw [hu'] at hu
  obtain ⟨k, hk⟩ : ∃ k : Int32, (if v = 9 then 1 else 0 : Int32) = k := ⟨_, rfl⟩
  have hkv : k.toInt = if v = 9 then 1 else 0 := by
    rw [← hk]
    by_cases z : v = 9
    · rw [if_pos z, if_pos z]; rfl
    · rw [if_neg z, if_neg z]; rfl
  have hu1 : (u + k).toInt = u.toInt + (if v = 9 then 1 else 0) := by
    rw [i32_add (by rw [hkv]; split <;> omega) (by rw [hkv]; split <;> omega), hkv]
  obtain ⟨u1, hu1'⟩ : ∃ u1, u + k = u1 := ⟨_, rfl⟩
  rw [hu1'] at hu1
  have hm : cE t Ws L (ne + 1) (upI (upI c 49 7 x1) 49 8 u1) := by
    obtain ⟨b1, b2, b3, b4, b5, b6⟩ := h
    refine ⟨?_, ?_, ?_, ?_, ?_, ?_⟩
    · rw [upI_1, if_neg (by omega), upI_1, if_neg (by omega)]; exact b1
    · rw [upI_1, if_neg (by omega), upI_1, if_neg (by omega)]; exact b2
    · rw [upI_1, if_pos rfl, upd_ne (by decide), upI_1, if_pos rfl, upd_ne (by decide)]; exact b3
    · rw [upI_1, if_neg (by decide), upI_1, if_neg (by decide)]; exact b4
    · rw [upI_1, if_pos rfl, upd_ne (by decide), upI_1, if_pos rfl, upd_eq rfl, hx1, h5]; rfl
    · rw [upI_1, if_pos rfl, upd_ne (by decide), upI_1, if_pos rfl, upd_ne (by decide)]; exact b6
  obtain ⟨c', a1, a2, a3⟩ := put_c ht hm hl v
  have hw : wC t c c' := wC_tr (wC_49 ht (wC_49 ht wC_rfl (by decide) _) (by decide) _) (wC_p ht a3)
  refine ⟨c', ?_, a2, hw, ?_, fun j j1 j2 j3 => ?_, ?_, ?_⟩
  · unfold F_X1_nest
    rw [hx, if_pos (i32_lt.mpr (by omega)), hq, jl_1, show (upI c 49 7 x1).1 49 8 = c.1 49 8 from rfl, hu']
    by_cases z : v = 9
    · rw [if_pos z] at hk
      rw [if_pos z, hk, hu1', jl_1, a1, Option.bind_some]
    · rw [if_neg z] at hk
      rw [if_neg z, hk, hu1', jl_1, a1, Option.bind_some]
  · rw [a3.1 27 (by omega) (by omega) (by decide) (by decide), upI_1, if_neg (by decide), upI_1, if_neg (by decide)]
  · rw [a3.2.2.1 j j1 j2, upI_1, if_pos rfl, upd_ne j3, upI_1, if_pos rfl, upd_ne j2]
  · rw [a3.2.2.1 8 (by decide) (by decide), upI_1, if_pos rfl, upd_eq rfl, hu1, hu']
  · rw [← hx] at hq
    have : c'.1 (2 + 4 * t) = (upI (upI c 49 7 x1) 49 8 u1).1 (2 + 4 * t) := by
      have e3 : c'.1 (2 + 4 * t) 3 = (upI (upI c 49 7 x1) 49 8 u1).1 (2 + 4 * t) 3 := i32_eq.mpr (by rw [a2.1, hm.1])
      funext j
      by_cases j3 : j = 3
      · rw [j3]; exact e3
      · exact a3.2.1 j j3
    rw [this, upI_1, if_neg (by omega), upI_1, if_neg (by omega)]
theorem nest_no {v : Int32} {c : jS} (h : (c.1 49 7).toInt = 8) : F_X1_nest v c = some (upI (upI c 49 0 3) 49 1 (c.1 27 4)) := by
  have l8 : (8 : Int32).toInt = 8 := rfl
  unfold F_X1_nest
  rw [if_neg (fun z => by have := i32_lt.mp z; omega), refuse_is, Option.bind_some]
theorem pars_le : ∀ pl : List (Fin 6), pars pl ≤ deep pl := by
  intro pl
  induction pl with
  | nil => exact Nat.le_refl _
  | cons p r ih =>
    show (if p = 5 then 1 else 0) + pars r ≤ (if p = 0 ∨ p = 5 then 1 else 0) + deep r
    by_cases h : p = 5
    · rw [if_pos h, if_pos (Or.inr h)]; omega
    · rw [if_neg h]
      omega
theorem J93_yes {n t : Nat} {Ts : List (Int32 × Int32)} {Pm : List Int32} {ne : Nat} {k0 : Int32} {m : jS} (h : mE t Ts Pm ne m) (h8 : ne < 8) (hl : Pm.length < 160) (hk : ¬ k0 = 0) : ∃ m1, J_X9_beginOne_93 n k0 m = (F_X9_nextToken n m1).bind (fun p127 => some (0, p127)) ∧ mE t Ts (k0 :: Pm) (ne + 1) m1 ∧ pM t m m1 := by
  have l1 : (1 : Int32).toInt = 1 := rfl
  have h5 : (m.1 0 19).toInt = (ne : Nat) := h.2.2.2.2.1
  obtain ⟨x, hx⟩ : ∃ x, m.1 0 19 = x := ⟨_, rfl⟩
  rw [hx] at h5
  have hx1 : (x + 1).toInt = x.toInt + 1 := i32_add (by omega) (by omega)
  obtain ⟨x1, hq⟩ : ∃ x1, x + 1 = x1 := ⟨_, rfl⟩
  rw [hq] at hx1
  have hm : mE t Ts Pm (ne + 1) (upI m 0 19 x1) := by
    obtain ⟨b1, b2, b3, b4, b5, b6⟩ := h
    refine ⟨?_, ?_, ?_, ?_, ?_, ?_⟩
    · rw [upI_1, if_pos rfl, upd_ne (by decide)]; exact b1
    · rw [upI_1, if_neg (by decide)]; exact b2
    · rw [upI_1, if_pos rfl, upd_ne (by decide)]; exact b3
    · rw [upI_1, if_neg (by decide)]; exact b4
    · rw [upI_1, if_pos rfl, upd_eq rfl, hx1, h5]; rfl
    · rw [upI_1, if_pos rfl, upd_ne (by decide)]; exact b6
  obtain ⟨m1, a1, a2, a3⟩ := push_m hm hl k0
  refine ⟨m1, ?_, a2, pM_tr (pM_0 pM_rfl (by decide) _) a3⟩
  unfold J_X9_beginOne_93
  rw [if_neg hk, hx, if_neg (fun z => by rw [z] at h5; have : (8 : Int32).toInt = 8 := rfl; omega), hq, jl_1, a1, Option.bind_some]
theorem J93_no {n : Nat} {k0 : Int32} {m : jS} (h : (m.1 0 19).toInt = 8) (hk : ¬ k0 = 0) : J_X9_beginOne_93 n k0 m = some (3, m) := by
  unfold J_X9_beginOne_93
  rw [if_neg hk, if_pos (i32_eq.mpr h)]
/-- ( or - taken -/
theorem nestStep {n t : Nat} (hn : 400000 ≤ n) (ht : t < 4) {ws : List (Int32 × Int32 × Int32)} {pl : List (Fin 6)} {base : List Int32} {nb a0 b : Nat} (hB : baseOK base nb a0 b) {c m : jS} (h : sumR t ws pl base nb a0 b false c m) (hne : ¬ c.1 27 2 = 1) {p : Fin 6} (hp : p = 0 ∨ p = 5)
    (hc : F_X1_take n (c.1 27 2) c = F_X1_nest (oC p) c) (hm : F_X9_beginOne n m = J_X9_beginOne_93 n (oR p) m) :
    (∃ f, F_X9_beginOne n m = some (f, m) ∧ bothNo n t c m f m) ∨
    ∃ m' c' pl', F_X9_beginOne n m = some (0, m') ∧ stp n c c' ∧ sumR t ws pl' base nb a0 b false c' m' ∧ wC t c c' ∧ wM t m m' ∧ c'.1 49 9 = c.1 49 9 ∧ ¬ pl' = [] := by
  obtain ⟨hB1, hB2, hB3, hB4, hB5⟩ := hB
  obtain ⟨s1, s2, ⟨s3, s4, s5, s6, s7⟩, ⟨s8, s9, s10, s11, s12⟩, s13, s14⟩ := h
  obtain ⟨b1, b2⟩ := sum_len s4 s6
  have hoR : ¬ oR p = 0 := by rcases hp with rfl | rfl <;> decide
  by_cases h8 : deep pl + nb = 8
  · left
    have hc' := hc.trans (nest_no (by rw [s1.2.2.2.2.1, h8]; rfl))
    exact ⟨3, hm.trans (J93_no (by rw [s2.2.2.2.2.1, h8]; rfl) hoR), no_here ht (by decide) s13 s14 (fun z => hne z.2) s11 hc'⟩
  · right
    have hpl := pars_le pl
    have hml : (pl.map oC ++ base).length = pl.length + base.length := by rw [List.length_append, List.length_map]
    have hmr : (pl.map oR).length = pl.length := List.length_map ..
    have hv : oC p = 9 ∨ oC p = 24 ∨ oC p = 13 := by rcases hp with rfl | rfl <;> decide
    obtain ⟨c1, a1, a2, a3, a4, a5, a6, a7⟩ := nest_c ht s1 (by omega) (by omega) (oC p) hv (by omega)
    obtain ⟨m1, d1, d2, d3⟩ := J93_yes (n := n) s2 (by omega) (by omega) hoR
    obtain ⟨c2, m2, k1, k2, k3, k4, k5, k6, k7⟩ := advance hn ht s13 s14 hne a3 a4 (wM_p d3) (d3.2.1 8 (by decide) (by decide) (by decide))
    have hdp : deep (p :: pl) = 1 + deep pl := by
      show (if p = 0 ∨ p = 5 then 1 else 0) + deep pl = _
      rw [if_pos hp]
    have hbp : bins (p :: pl) = bins pl := by
      show (if p = 0 ∨ p = 5 then 0 else 1) + bins pl = _
      rw [if_pos hp]; omega
    have hpp : (pars (p :: pl) : Int) = (if oC p = 9 then 1 else 0) + pars pl := by
      rcases hp with rfl | rfl
      · show ((0 + pars pl : Nat) : Int) = 0 + _
        omega
      · show ((1 + pars pl : Nat) : Int) = 1 + _
        omega
    refine ⟨m2, c2, p :: pl, ?_, ⟨fun z => hne z.2, k7, by rw [k3.1 49 (by decide), a5 1 (by decide) (by decide) (by decide)], c1, hc.trans a1, (a5 0 (by decide) (by decide) (by decide)).trans s11, k1⟩, ⟨?_, ?_, ⟨?_, ?_, fun z => (by cases z), by omega, ?_⟩, ⟨?_, ?_, ?_, ?_, ?_⟩, k6, k5⟩, wC_tr a3 (wC_fr ht k3), wM_tr (wM_p d3) (wM_fr k4), ?_, fun z => (by cases z)⟩
    · rw [hm, d1, k2, Option.bind_some]
    · rw [hdp, show 1 + deep pl + nb = deep pl + nb + 1 from by omega]
      exact cE_fr ht a2 k3
    · rw [hdp, show 1 + deep pl + nb = deep pl + nb + 1 from by omega]
      exact mE_fr d2 k4
    · rw [hbp]; exact s3
    · refine ⟨s4, fun z => ?_, fun z => ?_⟩
      · rcases hp with rfl | rfl <;> exact absurd z (by decide)
      · rcases hp with rfl | rfl <;> exact absurd z (by decide)
    · show ((ws.length + (pl.length + 1) + base.length : Nat) : Int) ≤ _
      omega
    · rw [k3.1 49 (by decide), a6, s8, hpp]; omega
    · rw [k4.2.1 20 (by decide) (by decide) (by decide) (by decide), d3.2.1 20 (by decide) (by decide) (by decide)]; exact s9
    · rw [k3.1 49 (by decide), a5 5 (by decide) (by decide) (by decide)]; exact s10
    · rw [k3.1 49 (by decide), a5 0 (by decide) (by decide) (by decide)]; exact s11
    · rw [k3.1 _ (by omega), a7]; exact s12
    · rw [k3.1 49 (by decide), a5 9 (by decide) (by decide) (by decide)]
/-- where a not can be taken -/
def askTop (L : List Int32) : Prop := ∀ p r, L = p :: r → p = 11 ∨ p = 12 ∨ p = 13
theorem atAsk_c {t : Nat} {Ws L : List Int32} {ne : Nat} {c : jS} (h : cE t Ws L ne c) (hl : L.length ≤ 64) : ∃ q, F_X1_atAsk c = some q ∧ (q = true ↔ askTop L) := by
  have l0 : (0 : Int32).toInt = 0 := rfl
  have l1 : (1 : Int32).toInt = 1 := rfl
  have h3 := h.2.2.1
  unfold F_X1_atAsk
  cases L with
  | nil =>
    have h3' : (c.1 49 6).toInt = 0 := h3
    rw [if_pos (i32_le.mpr (by omega))]
    exact ⟨true, by unfold J_X1_atAsk_22; rw [if_pos rfl], fun _ p r z => (by cases z), fun _ => rfl⟩
  | cons p r =>
    have h3' : (c.1 49 6).toInt = ((r.length + 1 : Nat) : Int) := h3
    have hl' : r.length + 1 ≤ 64 := hl
    have e : (c.1 49 6 - 1).toInt = r.length := by rw [i32_sub (by omega) (by omega)]; omega
    rw [if_neg (fun z => by have := i32_le.mp z; omega), pileAt_c h e (by omega), Option.bind_some]
    unfold J_X1_atAsk_22
    by_cases p11 : p = 11
    · exact ⟨true, by rw [if_pos p11], fun _ p' r' z => by obtain ⟨rfl, _⟩ := List.cons.inj z; exact Or.inl p11, fun _ => rfl⟩
    · by_cases p12 : p = 12
      · exact ⟨true, by rw [if_neg p11, if_pos p12], fun _ p' r' z => by obtain ⟨rfl, _⟩ := List.cons.inj z; exact Or.inr (Or.inl p12), fun _ => rfl⟩
      · by_cases p13 : p = 13
        · exact ⟨true, by rw [if_neg p11, if_neg p12, if_pos p13], fun _ p' r' z => by obtain ⟨rfl, _⟩ := List.cons.inj z; exact Or.inr (Or.inr p13), fun _ => rfl⟩
        · refine ⟨false, by rw [if_neg p11, if_neg p12, if_neg p13], fun z => (by cases z), fun z => ?_⟩
          rcases z p r rfl with y | y | y
          · exact absurd y p11
          · exact absurd y p12
          · exact absurd y p13
theorem oC_ask : ∀ p : Fin 6, ¬ (oC p = 11 ∨ oC p = 12 ∨ oC p = 13) := by decide
theorem beginStep {n t : Nat} (hn : 400000 ≤ n) (ht : t < 4) {ws : List (Int32 × Int32 × Int32)} {pl : List (Fin 6)} {base : List Int32} {nb a0 b : Nat} (hB : baseOK base nb a0 b) {c m : jS} (h : sumR t ws pl base nb a0 b false c m) (hnot : pl = [] → askTop base → ¬ c.1 27 2 = 13) :
    (∃ f, F_X9_beginOne n m = some (f, m) ∧ bothNo n t c m f m) ∨
    ∃ m' c' ws' pl' wh, F_X9_beginOne n m = some (0, m') ∧ stp n c c' ∧ sumR t ws' pl' base nb a0 b wh c' m' ∧ wC t c c' ∧ wM t m m' ∧ c'.1 49 9 = c.1 49 9 ∧ (wh = true ∨ ¬ pl' = []) := by
  have h0 := h
  obtain ⟨s1, s2, ⟨s3, s4, s5, s6, s7⟩, ⟨s8, s9, s10, s11, s12⟩, s13, s14⟩ := h
  obtain ⟨⟨b1, b2⟩, e1, e2⟩ := And.intro (sum_len s4 s6) (notEnd s13 s14)
  have l9 : (9999 : Int32).toInt = 9999 := rfl
  obtain ⟨tw, tn⟩ := s14.2
  obtain ⟨w0, w1', w2', w3, w4, w5, w6, w7, w8, ⟨u1, u2, u3, u4, u5, u6, u7⟩, w10⟩ := tw
  have h10 : c.1 49 5 = 6 := s10
  have htk := take_6 (n := n) (v := c.1 27 2) h10
  obtain ⟨tt1, tt2⟩ := textNo ht s1.2.2.2.2.2
  have hnd : (m.1 0 10 = 1 ↔ c.1 27 2 = 2) := w1'.symm
  have hname : F_X9_nameOf m = (if c.1 27 2 = 3 then c.1 27 3 else -1) := (nameOf_D m).trans w7
  -- what both do with each kind of token
  have href : F_X9_beginOne n m = (if c.1 27 2 = 2 then (if (m.1 0 11) ≤ 9999 then ((F_X9_emit 0 (m.1 0 11) m).bind fun p26 => ((F_X9_nextToken n p26).bind fun p30 => ((F_X9_whole n p30).bind fun p34 => some (0, p34)))) else some (2, m)) else (if c.1 27 2 = 3 then ((F_X9_emit 1 (c.1 27 3) m).bind fun p52 => ((F_X9_nextToken n p52).bind fun p56 => ((F_X9_whole n p56).bind fun p60 => some (0, p60)))) else (if c.1 27 2 = 9 then J_X9_beginOne_93 n 40 m else (if c.1 27 2 = 21 then J_X9_beginOne_93 n 2 m else some (1, m))))) := by
    unfold F_X9_beginOne
    rw [hname]
    by_cases k2 : c.1 27 2 = 2
    · rw [if_pos (hnd.mpr k2), if_pos k2]
    · rw [if_neg (fun z => k2 (hnd.mp z)), if_neg k2]
      by_cases k3 : c.1 27 2 = 3
      · rw [if_pos k3, if_neg (fun z => by have := i32_lt.mp z; have := (w8 k3).1; have : (0 : Int32).toInt = 0 := rfl; omega), if_pos k3]
      · rw [if_neg k3, if_pos (by decide), if_neg k3]
        by_cases k9 : c.1 27 2 = 9
        · rw [if_pos (u2.mpr k9), if_pos k9]
        · rw [if_neg (fun z => k9 (u2.mp z)), if_neg k9]
          by_cases k21 : c.1 27 2 = 21
          · rw [if_pos (u5.mpr k21), if_pos k21]
          · rw [if_neg (fun z => k21 (u5.mp z)), if_neg k21]
            unfold J_X9_beginOne_93
            rw [if_pos rfl]
  have hcls52 : ¬ c.1 27 2 = 9 → ¬ c.1 27 2 = 21 → F_X1_take n (c.1 27 2) c = J_X1_takeOne_52 n (c.1 27 2) c := by
    intro k9 k21
    rw [htk]
    unfold F_X1_takeOne
    rw [if_neg k9, if_neg k21]
    by_cases k13 : c.1 27 2 = 13
    · have hml : (pl.map oC ++ base).length = pl.length + base.length := by rw [List.length_append, List.length_map]
      have hbb := hB.2.1
      obtain ⟨q, q1, q2⟩ := atAsk_c s1 (by omega)
      have hq : ¬ q = true := fun z => by
        have z' := q2.mp z
        cases hpl : pl with
        | nil =>
          rw [hpl] at z'
          exact hnot hpl z' k13
        | cons p r =>
          rw [hpl] at z'
          exact oC_ask p (z' (oC p) _ rfl)
      rw [if_pos k13, q1, Option.bind_some, if_neg hq]
    · rw [if_neg k13]
  have tail : (∃ m' c' ws' pl', F_X9_beginOne n m = some (0, m') ∧ stp n c c' ∧ sumR t ws' pl' base nb a0 b true c' m' ∧ wC t c c' ∧ wM t m m' ∧ c'.1 49 9 = c.1 49 9) → ((∃ f, F_X9_beginOne n m = some (f, m) ∧ bothNo n t c m f m) ∨ ∃ m' c' ws' pl' wh, F_X9_beginOne n m = some (0, m') ∧ stp n c c' ∧ sumR t ws' pl' base nb a0 b wh c' m' ∧ wC t c c' ∧ wM t m m' ∧ c'.1 49 9 = c.1 49 9 ∧ (wh = true ∨ ¬ pl' = [])) := by
    rintro ⟨m', c', ws', pl', q1, q2, q3, q4, q5, q6⟩
    exact Or.inr ⟨m', c', ws', pl', true, q1, q2, q3, q4, q5, q6, Or.inl rfl⟩
  have tail2 : ((∃ f, F_X9_beginOne n m = some (f, m) ∧ bothNo n t c m f m) ∨ ∃ m' c' pl', F_X9_beginOne n m = some (0, m') ∧ stp n c c' ∧ sumR t ws pl' base nb a0 b false c' m' ∧ wC t c c' ∧ wM t m m' ∧ c'.1 49 9 = c.1 49 9 ∧ ¬ pl' = []) → ((∃ f, F_X9_beginOne n m = some (f, m) ∧ bothNo n t c m f m) ∨ ∃ m' c' ws' pl' wh, F_X9_beginOne n m = some (0, m') ∧ stp n c c' ∧ sumR t ws' pl' base nb a0 b wh c' m' ∧ wC t c c' ∧ wM t m m' ∧ c'.1 49 9 = c.1 49 9 ∧ (wh = true ∨ ¬ pl' = [])) := by
    rintro (q | ⟨m', c', pl', q1, q2, q3, q4, q5, q6, q7⟩)
    · exact Or.inl q
    · exact Or.inr ⟨m', c', ws, pl', false, q1, q2, q3, q4, q5, q6, Or.inr q7⟩
  by_cases k9 : c.1 27 2 = 9
  · refine tail2 (nestStep hn ht hB h0 (by rw [k9]; decide) (p := 5) (Or.inr rfl) ?_ ?_)
    · rw [htk]
      unfold F_X1_takeOne
      rw [if_pos k9, bind_id]
      rfl
    · rw [href, if_neg (by rw [k9]; decide), if_neg (by rw [k9]; decide), if_pos k9]
      rfl
  · by_cases k21 : c.1 27 2 = 21
    · refine tail2 (nestStep hn ht hB h0 (by rw [k21]; decide) (p := 0) (Or.inl rfl) ?_ ?_)
      · rw [htk]
        unfold F_X1_takeOne
        rw [if_neg k9, if_pos k21, bind_id]
        rfl
      · rw [href, if_neg (by rw [k21]; decide), if_neg (by rw [k21]; decide), if_neg k9, if_pos k21]
        rfl
    · have h52 := hcls52 k9 k21
      by_cases k3 : c.1 27 2 = 3
      · have k2 : ¬ c.1 27 2 = 2 := by rw [k3]; decide
        have hne : ¬ c.1 27 2 = 1 := by rw [k3]; decide
        obtain ⟨v0, v1⟩ := w8 k3
        have e2' := e2 hne
        obtain ⟨c1, a1, a2, a3⟩ := addWord_c ht s1 (by rw [w1_len]; omega) (10000 + c.1 27 3)
        refine tail (operand hn ht hB h0 hne (w := 10000 + c.1 27 3) (o := 1) (v := c.1 27 3) ⟨upI c1 (2 + 4 * t) 5 ((c1.1 (2 + 4 * t) 5) ||| ((1 : Int32) <<< ((c.1 27 3) &&& 31))), ?_, ?_, wC_5 ht (wC_p ht a3) _, ?_, ?_, ?_⟩ ?_ ?_)
        · rw [h52]
          unfold J_X1_takeOne_52
          rw [if_pos k3, if_pos tt1, tt2]
          have : F_X5_addName t (c.1 27 3) c = some (upI c1 (2 + 4 * t) 5 ((c1.1 (2 + 4 * t) 5) ||| ((1 : Int32) <<< ((c.1 27 3) &&& 31)))) := by
            unfold F_X5_addName
            rw [a1, Option.bind_some, jl_1]
          rw [this, Option.bind_some, bind_id]
        · obtain ⟨g1, g2, g3, g4, g5, g6⟩ := a2
          refine ⟨?_, ?_, ?_, ?_, ?_, ?_⟩
          · rw [upI_1, if_pos rfl, upd_ne (by decide)]; exact g1
          · rw [upI_1, if_neg (by omega)]; exact g2
          · rw [upI_1, if_neg (by omega)]; exact g3
          · rw [upI_1, if_neg (by omega)]; exact g4
          · rw [upI_1, if_neg (by omega)]; exact g5
          · rw [upI_1, if_neg (by omega)]; exact g6
        · rw [upI_1, if_neg (by omega)]; exact a3.1 27 (by omega) (by omega) (by decide) (by decide)
        · intro j j1 j2
          rw [upI_1, if_neg (by omega)]; exact a3.2.2.1 j j1 j2
        · rw [upI_1, if_pos rfl, upd_eq rfl, a3.2.1 5 (by decide)]
          exact nmB_name s12 v0 v1 _ _
        · rw [href, if_neg k2, if_pos k3]
        · intro a b hab
          exact Or.inr (Or.inl ⟨rfl, rfl, v0, v1, rfl, rfl, hab⟩)
      · by_cases k2 : c.1 27 2 = 2
        · have hne : ¬ c.1 27 2 = 1 := by rw [k2]; decide
          obtain ⟨n0, n1, n2⟩ := tn k2
          by_cases k99 : m.1 0 11 ≤ 9999
          · have k99' := i32_le.mp k99
            have hv : c.1 27 3 = m.1 0 11 := by
              rcases n2 with ⟨_, z⟩ | ⟨z, _⟩
              · exact z
              · omega
            have e2' := e2 hne
            obtain ⟨c1, a1, a2, a3⟩ := addWord_c ht s1 (by rw [w1_len]; omega) (m.1 0 11)
            refine tail (operand hn ht hB h0 hne (w := m.1 0 11) (o := 0) (v := m.1 0 11) ⟨c1, ?_, a2, wC_p ht a3, a3.1 27 (by omega) (by omega) (by decide) (by decide), fun j j1 j2 => a3.2.2.1 j j1 j2, ?_⟩ ?_ ?_)
            · rw [h52]
              unfold J_X1_takeOne_52
              rw [if_neg k3, if_pos k2, hv, if_pos k99, if_pos tt1, tt2, a1, Option.bind_some, bind_id]
            · rw [a3.2.1 5 (by decide)]
              refine nmB_skip s12 (fun j hj z => ?_)
              have e : (m.1 0 11).toInt = (10000 + Int32.ofNat j).toInt := by rw [show m.1 0 11 = 10000 + Int32.ofNat j from z]
              have hj' : (Int32.ofNat j).toInt = j := ofNat_int (by omega)
              have l10 : (10000 : Int32).toInt = 10000 := rfl
              rw [i32_add (by omega) (by omega), hj', l10] at e
              omega
            · rw [href, if_pos k2, if_pos k99]
            · intro a b hab
              exact Or.inl ⟨rfl, rfl, n0, by omega, rfl, rfl, hab⟩
          · left
            have k99' : ¬ (m.1 0 11).toInt ≤ (9999 : Int32).toInt := fun z => k99 (i32_le.mpr z)
            have hv : ¬ c.1 27 3 ≤ 9999 := fun z => by
              have := i32_le.mp z
              rcases n2 with ⟨_, y⟩ | ⟨_, y⟩
              · rw [y] at this; omega
              · rw [y] at z; exact absurd z (by decide)
            refine ⟨2, by rw [href, if_pos k2, if_neg k99], no_here ht (by decide) s13 s14 (fun z => hne z.2) s11 ?_⟩
            rw [h52]
            unfold J_X1_takeOne_52
            rw [if_neg k3, if_pos k2, if_neg hv, refuse_is, Option.bind_some]
        · left
          refine ⟨1, by rw [href, if_neg k2, if_neg k3, if_neg k9, if_neg k21], no_here ht (by decide) s13 s14 (fun z => by rw [h10] at z; exact absurd z.1 (by decide)) s11 ?_⟩
          rw [h52]
          unfold J_X1_takeOne_52
          rw [if_neg k3, if_neg k2, refuse_is, Option.bind_some]
