/-! the two readers in step: frames, a step of the one side, the relation within a sum -/
def wC (t : Nat) (c c' : jS) : Prop := (∀ k : Nat, ¬ k = 2 + 4 * t → ¬ k = 2 + 4 * t + 1 → ¬ k = 27 → ¬ k = 49 → ¬ k = 50 → c'.1 k = c.1 k) ∧ (∀ j : Nat, ¬ j = 3 → ¬ j = 5 → c'.1 (2 + 4 * t) j = c.1 (2 + 4 * t) j) ∧ c'.1 27 1 = c.1 27 1 ∧ c'.1 49 4 = c.1 49 4 ∧ c'.2 = c.2
def wM (t : Nat) (m m' : jS) : Prop := (∀ k : Nat, ¬ k = 0 → ¬ k = 3 → ¬ k = 5 → m'.1 k = m.1 k) ∧ (∀ j : Nat, ¬ j = 8 → ¬ j = 9 → ¬ j = 10 → ¬ j = 11 → ¬ j = 15 → ¬ j = 18 → ¬ j = 19 → ¬ j = 20 → m'.1 0 j = m.1 0 j) ∧ (∀ j : Nat, j < 680 * t + 75 → m'.1 3 j = m.1 3 j) ∧ (∀ k : Nat, ¬ k = 0 → m'.2 k = m.2 k) ∧ ∀ j : Nat, ¬ j = 12 → m'.2 0 j = m.2 0 j
theorem wC_rfl {t : Nat} {c : jS} : wC t c c := ⟨fun _ _ _ _ _ _ => rfl, fun _ _ _ => rfl, rfl, rfl, rfl⟩
theorem wC_tr {t : Nat} {a b c : jS} (h1 : wC t a b) (h2 : wC t b c) : wC t a c := ⟨fun k a1 a2 a3 a4 a5 => (h2.1 k a1 a2 a3 a4 a5).trans (h1.1 k a1 a2 a3 a4 a5), fun j a1 a2 => (h2.2.1 j a1 a2).trans (h1.2.1 j a1 a2), h2.2.2.1.trans h1.2.2.1, h2.2.2.2.1.trans h1.2.2.2.1, h2.2.2.2.2.trans h1.2.2.2.2⟩
theorem wM_rfl {t : Nat} {m : jS} : wM t m m := ⟨fun _ _ _ _ => rfl, fun _ _ _ _ _ _ _ _ _ => rfl, fun _ _ => rfl, fun _ _ => rfl, fun _ _ => rfl⟩
theorem wM_tr {t : Nat} {a b c : jS} (h1 : wM t a b) (h2 : wM t b c) : wM t a c := ⟨fun k a1 a2 a3 => (h2.1 k a1 a2 a3).trans (h1.1 k a1 a2 a3), fun j a1 a2 a3 a4 a5 a6 a7 a8 => (h2.2.1 j a1 a2 a3 a4 a5 a6 a7 a8).trans (h1.2.1 j a1 a2 a3 a4 a5 a6 a7 a8), fun j a1 => (h2.2.2.1 j a1).trans (h1.2.2.1 j a1), fun k hk => (h2.2.2.2.1 k hk).trans (h1.2.2.2.1 k hk), fun j hj => (h2.2.2.2.2 j hj).trans (h1.2.2.2.2 j hj)⟩
theorem wC_p {t : Nat} (ht : t < 4) {c c' : jS} (h : pC t c c') : wC t c c' := ⟨fun k a1 a2 a3 a4 a5 => h.1 k a1 a2 a4 a5, fun j a1 a2 => h.2.1 j a1, by rw [h.1 27 (by omega) (by omega) (by decide) (by decide)], h.2.2.1 4 (by decide) (by decide), h.2.2.2⟩
theorem wC_fr {t : Nat} (ht : t < 4) {c c' : jS} (h : frC c c') : wC t c c' := ⟨fun k a1 a2 a3 a4 a5 => h.1 k a3, fun j a1 a2 => by rw [h.1 _ (by omega)], h.2.1, by rw [h.1 49 (by decide)], h.2.2⟩
theorem wC_49 {t : Nat} (ht : t < 4) {c c' : jS} (h : wC t c c') {j : Nat} (hj : ¬ j = 4) (x : Int32) : wC t c (upI c' 49 j x) := by
  refine ⟨fun k a1 a2 a3 a4 a5 => ?_, fun i a1 a2 => ?_, ?_, ?_, h.2.2.2.2⟩
  · rw [upI_1, if_neg a4]; exact h.1 k a1 a2 a3 a4 a5
  · rw [upI_1, if_neg (by omega)]; exact h.2.1 i a1 a2
  · rw [upI_1, if_neg (by decide)]; exact h.2.2.1
  · rw [upI_1, if_pos rfl, upd_ne (fun z => hj z.symm)]; exact h.2.2.2.1
theorem wC_5 {t : Nat} (ht : t < 4) {c c' : jS} (h : wC t c c') (x : Int32) : wC t c (upI c' (2 + 4 * t) 5 x) := by
  refine ⟨fun k a1 a2 a3 a4 a5 => ?_, fun i a1 a2 => ?_, ?_, ?_, h.2.2.2.2⟩
  · rw [upI_1, if_neg a1]; exact h.1 k a1 a2 a3 a4 a5
  · rw [upI_1, if_pos rfl, upd_ne a2]; exact h.2.1 i a1 a2
  · rw [upI_1, if_neg (by omega)]; exact h.2.2.1
  · rw [upI_1, if_neg (by omega)]; exact h.2.2.2.1
theorem wM_p {t : Nat} {m m' : jS} (h : pM t m m') : wM t m m' := ⟨fun k a1 a2 a3 => h.1 k a1 a2 a3, fun j a1 a2 a3 a4 a5 a6 a7 a8 => h.2.1 j a5 a6 a7, h.2.2.1, fun k hk => by rw [h.2.2.2], fun j hj => by rw [h.2.2.2]⟩
theorem wM_fr {t : Nat} {m m' : jS} (h : frM m m') : wM t m m' := ⟨fun k a1 a2 a3 => h.1 k a1, fun j a1 a2 a3 a4 a5 a6 a7 a8 => h.2.1 j a1 a2 a3 a4, fun j hj => by rw [h.1 3 (by decide)], h.2.2.1, h.2.2.2⟩
theorem wM_0 {t : Nat} {m m' : jS} (h : wM t m m') {j : Nat} (hj : j = 15 ∨ j = 18 ∨ j = 19 ∨ j = 20) (x : Int32) : wM t m (upI m' 0 j x) := by
  refine ⟨fun k a1 a2 a3 => ?_, fun i a1 a2 a3 a4 a5 a6 a7 a8 => ?_, fun i a1 => ?_, h.2.2.2⟩
  · rw [upI_1, if_neg a1]; exact h.1 k a1 a2 a3
  · rw [upI_1, if_pos rfl, upd_ne (by omega)]; exact h.2.1 i a1 a2 a3 a4 a5 a6 a7 a8
  · rw [upI_1, if_neg (by decide)]; exact h.2.2.1 i a1
theorem cE_fr {t : Nat} (ht : t < 4) {Ws L : List Int32} {ne : Nat} {c c' : jS} (h : cE t Ws L ne c) (f : frC c c') : cE t Ws L ne c' := by
  unfold cE
  rw [f.1 _ (by omega), f.1 (2 + 4 * t + 1) (by omega), f.1 49 (by decide), f.1 50 (by decide)]
  exact h
theorem mE_fr {t : Nat} {Ts : List (Int32 × Int32)} {Pm : List Int32} {ne : Nat} {m m' : jS} (h : mE t Ts Pm ne m) (f : frM m m') : mE t Ts Pm ne m' := by
  unfold mE
  rw [f.2.1 15 (by decide) (by decide) (by decide) (by decide), f.2.1 18 (by decide) (by decide) (by decide) (by decide), f.2.1 19 (by decide) (by decide) (by decide) (by decide), f.2.1 13 (by decide) (by decide) (by decide) (by decide), f.1 3 (by decide), f.1 5 (by decide)]
  exact h
theorem cE_49 {t : Nat} (ht : t < 4) {Ws L : List Int32} {ne : Nat} {c : jS} (h : cE t Ws L ne c) {j : Nat} (h4 : ¬ j = 4) (h6 : ¬ j = 6) (h7 : ¬ j = 7) (x : Int32) : cE t Ws L ne (upI c 49 j x) := by
  obtain ⟨b1, b2, b3, b4, b5, b6⟩ := h
  refine ⟨?_, ?_, ?_, ?_, ?_, ?_⟩
  · rw [upI_1, if_neg (by omega)]; exact b1
  · rw [upI_1, if_neg (by omega)]; exact b2
  · rw [upI_1, if_pos rfl, upd_ne (fun z => h6 z.symm)]; exact b3
  · rw [upI_1, if_neg (by decide)]; exact b4
  · rw [upI_1, if_pos rfl, upd_ne (fun z => h7 z.symm)]; exact b5
  · rw [upI_1, if_pos rfl, upd_ne (fun z => h4 z.symm)]; exact b6
theorem mE_0 {t : Nat} {Ts : List (Int32 × Int32)} {Pm : List Int32} {ne : Nat} {m : jS} (h : mE t Ts Pm ne m) {j : Nat} (h1 : ¬ j = 15) (h2 : ¬ j = 18) (h3 : ¬ j = 19) (h4 : ¬ j = 13) (x : Int32) : mE t Ts Pm ne (upI m 0 j x) := by
  obtain ⟨b1, b2, b3, b4, b5, b6⟩ := h
  refine ⟨?_, ?_, ?_, ?_, ?_, ?_⟩
  · rw [upI_1, if_pos rfl, upd_ne (fun z => h1 z.symm)]; exact b1
  · rw [upI_1, if_neg (by decide)]; exact b2
  · rw [upI_1, if_pos rfl, upd_ne (fun z => h2 z.symm)]; exact b3
  · rw [upI_1, if_neg (by decide)]; exact b4
  · rw [upI_1, if_pos rfl, upd_ne (fun z => h3 z.symm)]; exact b5
  · rw [upI_1, if_pos rfl, upd_ne (fun z => h4 z.symm)]; exact b6
/-- one token taken by the class, the next read -/
def stp (n : Nat) (c c' : jS) : Prop := ¬ (c.1 49 5 = 0 ∧ c.1 27 2 = 1) ∧ (c.1 27 4).toInt + 1 ≤ (c'.1 27 4).toInt ∧ c'.1 49 1 = c.1 49 1 ∧ ∃ c1, F_X1_take n (c.1 27 2) c = some c1 ∧ c1.1 49 0 = 0 ∧ F_X4_nextToken n c1 = some c'
def rchK (n : Nat) : Nat → jS → jS → Prop
  | 0, c, c' => c = c'
  | k + 1, c, c'' => ∃ c', stp n c c' ∧ rchK n k c' c''
def rch (n : Nat) (c c' : jS) : Prop := ∃ k, rchK n k c c'
theorem rch_rfl {n : Nat} {c : jS} : rch n c c := ⟨0, rfl⟩
theorem rch_tr {n : Nat} {a b c : jS} (h1 : rch n a b) (h2 : rch n b c) : rch n a c := by
  obtain ⟨k, h1⟩ := h1
  induction k generalizing a with
  | zero => have e : a = b := h1; rw [e]; exact h2
  | succ k ih =>
    obtain ⟨x, s, r⟩ := h1
    obtain ⟨q, hq⟩ := ih r
    exact ⟨q + 1, x, s, hq⟩
theorem rch_one {n : Nat} {a b : jS} (h : stp n a b) : rch n a b := ⟨1, b, h, rfl⟩
theorem rch_le {n : Nat} {a b : jS} (h : rch n a b) : (a.1 27 4).toInt ≤ (b.1 27 4).toInt := by
  obtain ⟨k, h1⟩ := h
  induction k generalizing a with
  | zero => have e : a = b := h1; rw [e]; exact Int.le_refl _
  | succ k ih =>
    obtain ⟨x, s, r⟩ := h1
    have := ih r
    have := s.2.1
    omega
theorem rch_49 {n : Nat} {a b : jS} (h : rch n a b) : b.1 49 1 = a.1 49 1 := by
  obtain ⟨k, h1⟩ := h
  induction k generalizing a with
  | zero => have e : a = b := h1; rw [e]
  | succ k ih =>
    obtain ⟨x, s, r⟩ := h1
    rw [ih r, s.2.2.1]
/-- the next token on both sides -/
theorem advance {n t : Nat} (hn : 400000 ≤ n) (ht4 : t < 4) {c m c1 m1 : jS} (ht : rTape (c.1 27) (c.1 28) (m.1 0) (m.1 4)) (hk : tokA c m) (h1 : ¬ c.1 27 2 = 1) (hc : wC t c c1) (hc27 : c1.1 27 = c.1 27) (hm : wM t m m1) (h8 : m1.1 0 8 = m.1 0 8) :
    ∃ c2 m2, F_X4_nextToken n c1 = some c2 ∧ F_X9_nextToken n m1 = some m2 ∧ frC c1 c2 ∧ frM m1 m2 ∧ tokA c2 m2 ∧ rTape (c2.1 27) (c2.1 28) (m2.1 0) (m2.1 4) ∧ (c.1 27 4).toInt + 1 ≤ (c2.1 27 4).toInt := by
  obtain ⟨⟨k1, k2, k3, k4, k5, k6⟩, _⟩ := hk
  have ht1 : rTape (c1.1 27) (c1.1 28) (m1.1 0) (m1.1 4) := by
    obtain ⟨t1, t2, t3⟩ := ht
    unfold rTape
    rw [hc27, hc.1 28 (by omega) (by omega) (by decide) (by decide) (by decide), hm.2.1 5 (by decide) (by decide) (by decide) (by decide) (by decide) (by decide) (by decide) (by decide), hm.1 4 (by decide) (by decide) (by decide)]
    exact ⟨t1, t2, t3⟩
  have := k6 h1
  obtain ⟨c2, m2, a1, a2, a3, a4, a5, a6⟩ := nextToken_rel hn ht1 (by rw [hc27, h8]; exact k2) (by rw [hc27]; omega) (by rw [hc27]; exact k5)
  rw [hc27] at a6
  exact ⟨c2, m2, a1, a2, a3, a4, a5, tape_fr ht1 a3 a4, by omega⟩
/-- what holds ahead of a sum and does not change within it -/
def baseOK (base : List Int32) (nb a0 b : Nat) : Prop := (∀ p r, base = p :: r → F_X1_levelOf p < 5) ∧ base.length ≤ 12 ∧ a0 ≤ 1 ∧ b ≤ 3 ∧ nb ≤ 8
def sumR (t : Nat) (ws : List (Int32 × Int32 × Int32)) (pl : List (Fin 6)) (base : List Int32) (nb a0 b : Nat) (wh : Bool) (c m : jS) : Prop :=
  cE t (w1 ws) (pl.map oC ++ base) (deep pl + nb) c ∧ mE t (w2 ws) (pl.map oR) (deep pl + nb) m ∧
  (codeL ws (a0 + bins pl + (if wh = true then 1 else 0)) b ∧ okP pl ∧ (wh = true → ∀ r, ¬ pl = 0 :: r) ∧ deep pl + nb ≤ 8 ∧ ((ws.length + pl.length + base.length : Nat) : Int) ≤ (c.1 27 4).toInt) ∧
  ((c.1 49 8).toInt = pars pl ∧ m.1 0 20 = jb wh ∧ c.1 49 5 = (if wh = true then 7 else 6) ∧ c.1 49 0 = 0 ∧ nmB (c.1 (2 + 4 * t) 5) ws) ∧
  rTape (c.1 27) (c.1 28) (m.1 0) (m.1 4) ∧ tokA c m
/-- both refuse: class at c1 (its take ends in c2), reference with m' -/
def bothNo (n t : Nat) (c m : jS) (f : Int32) (m' : jS) : Prop := ¬ f = 0 ∧ ∃ c1 c2, rch n c c1 ∧ ¬ (c1.1 49 5 = 0 ∧ c1.1 27 2 = 1) ∧ c1.1 49 0 = 0 ∧ (c1.1 27 4).toInt ≤ 300 ∧ F_X1_take n (c1.1 27 2) c1 = some c2 ∧ c2.1 49 0 = f ∧ c2.1 49 1 = m'.1 0 9 ∧ wC t c c2 ∧ wM t m m'
theorem bothNo_tr {n t : Nat} {c m c' m' m2 : jS} {f : Int32} (h1 : rch n c c') (h2 : wC t c c') (h3 : wM t m m') (h : bothNo n t c' m' f m2) : bothNo n t c m f m2 := by
  obtain ⟨f0, c1, c2, r, q1, q2, q3, q4, q5, q6, q7, q8⟩ := h
  exact ⟨f0, c1, c2, rch_tr h1 r, q1, q2, q3, q4, q5, q6, wC_tr h2 q7, wM_tr h3 q8⟩
theorem refuse_is (f : Int32) (c : jS) : F_X1_refuse f c = some (upI (upI c 49 0 f) 49 1 (c.1 27 4)) := rfl
theorem no_here {n t : Nat} (ht : t < 4) {c m : jS} {f : Int32} (hf : ¬ f = 0) (hT : rTape (c.1 27) (c.1 28) (m.1 0) (m.1 4)) (hk : tokA c m) (h5 : ¬ (c.1 49 5 = 0 ∧ c.1 27 2 = 1)) (h0 : c.1 49 0 = 0) (hq : F_X1_take n (c.1 27 2) c = some (upI (upI c 49 0 f) 49 1 (c.1 27 4))) : bothNo n t c m f m := by
  refine ⟨hf, c, _, rch_rfl, h5, h0, ?_, hq, ?_, ?_, wC_49 ht (wC_49 ht wC_rfl (by decide) _) (by decide) _, wM_rfl⟩
  · have := hk.1.2.2.2.1
    have := hk.1.2.2.2.2.1
    have := hT.2.1.2
    omega
  · rw [upI_1, if_pos rfl, upd_ne (by decide), upI_1, if_pos rfl, upd_eq rfl]
  · rw [upI_1, if_pos rfl, upd_eq rfl]; exact hk.1.1
