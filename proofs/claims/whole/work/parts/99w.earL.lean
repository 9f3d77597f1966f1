section
variable {nd n : Nat} {EO : jEO} {c m : jS}
/-- the class's rounds -/
theorem roundsC_is (hn : 400000 ≤ n) (hI : Inv nd jText (LOw nd n) EO c m) (hset : ¬ jz (c.1 51 7) = true) :
    ∃ c', F_X0_roundsChanged nd n c = some (c'.1 51 6, c') ∧ tsC n nd c m (fun d r => true = true ∨ (c.1 21 d).toInt = r) c' ∧ setOK (eE (opV n (c.1 19) (c.1 20) (m.1 3)) (m.1 1) (c.1 23) nd (c.1 18 8).toInt.toNat) (c.1 18 7).toInt.toNat nd (c.1 21) (c'.1 51 6) (c'.1 52) := by
  have l20 : (20 : Int32).toInt = 20 := rfl
  have l1 : (1 : Int32).toInt = 1 := rfl
  obtain ⟨hnd1, hnd⟩ := I_nd hI
  have h4 := (I_asks hI).2.1
  have ht0 := (I_told hI).2.1
  have h51 : c.1 51 1 = Int32.ofNat nd := hI.1.1.2.2.2.2.1
  have hrr : inR (c.1 18 7) (c.1 21) := fun d hd => (rule_is hI hd).2
  obtain ⟨c1, s, p1, p2, p3, p4, p5⟩ := startTrial_is hn hI true
  obtain ⟨t1, t2⟩ := ts_of hI p2 p4 p5
  obtain ⟨tn, htn⟩ : ∃ tn : Nat, (c.1 18 7).toInt = tn := ⟨(c.1 18 7).toInt.toNat, by omega⟩
  have htn2 : (c.1 18 7).toInt.toNat = tn := by omega
  have hin : ∀ {ρ : Nat → Int32} {s1 : jS} {v2 : Int32}, tsC n nd c m (fun d r => true = true ∨ (c.1 21 d).toInt = r) s1 → (∀ d : Nat, d < 8 → s1.1 52 d = ρ d) → inR (c.1 18 7) ρ → ∃ e, lp (B_X0_roundsChanged_59 nd n v2) n (false, 0, s1) = some e ∧ e.1 = (rdI (eE (opV n (c.1 19) (c.1 20) (m.1 3)) (m.1 1) (c.1 23) nd (c.1 18 8).toInt.toNat) (c.1 18 7).toInt.toNat ρ nd).2 ∧ bkM s1 e.2.2 ∧ ∀ d : Nat, d < 8 → e.2.2.1 52 d = (rdI (eE (opV n (c.1 19) (c.1 20) (m.1 3)) (m.1 1) (c.1 23) nd (c.1 18 8).toInt.toNat) (c.1 18 7).toInt.toNat ρ nd).1 d :=
    fun h1 h2 h3 => innerC hn hI (fun _ _ => Or.inl rfl) h1 h2 h3
  obtain ⟨E, hE⟩ : ∃ E, eE (opV n (c.1 19) (c.1 20) (m.1 3)) (m.1 1) (c.1 23) nd (c.1 18 8).toInt.toNat = E := ⟨_, rfl⟩
  rw [hE, htn2] at hin ⊢
  have hsr := seq_rng (E := E) (nd := nd) htn (by omega) hnd hrr
  have ts20 := ts_r hI t1 (rkM_51 s (-2))
  obtain ⟨e, he, q1, q2⟩ := lp_rule (body := B_X0_roundsChanged_27 nd n)
    (I := fun q k => ∃ i : Nat, k = 21 - i ∧ i ≤ 21 ∧ q.2.1 = Int32.ofNat i ∧ rkM s q.2.2 ∧ ((q.1 = true ∧ (∀ j : Nat, j < i → ¬ stbF E tn nd (c.1 21) j) ∧ (∀ d : Nat, d < 8 → q.2.2.1 52 d = seqF E tn nd (c.1 21) i d) ∧ (∀ j : Nat, j < i → (q.2.2.1 53 j).toInt = (numF (seqF E tn nd (c.1 21) j) nd : Nat)) ∧ q.2.2.1 51 6 = -2) ∨ (q.1 = false ∧ setOK E tn nd (c.1 21) (q.2.2.1 51 6) (q.2.2.1 52))))
    (Q := fun e => rkM s e.2.2 ∧ setOK E tn nd (c.1 21) (e.2.2.1 51 6) (e.2.2.1 52)) (by
    rintro ⟨ag, iI, s1⟩ k ⟨i, g0, g1, g2, g3, g4⟩
    simp only at g2 g3 g4
    subst g2
    have hiI : (Int32.ofNat i).toInt = i := ofNat_int (by omega)
    by_cases c1' : (20 : Int32) < Int32.ofNat i
    · left
      have c1'' := i32_lt.mp c1'
      refine ⟨(ag, Int32.ofNat i, s1), by unfold B_X0_roundsChanged_27; dsimp only; rw [if_pos c1'], g3, ?_⟩
      rcases g4 with ⟨_, a2, _, _, a5⟩ | ⟨_, a2⟩
      · exact Or.inr ⟨fun j hj => a2 j (by omega), a5⟩
      · exact a2
    · have c1'' : ¬ (20 : Int32).toInt < (Int32.ofNat i).toInt := fun z => c1' (i32_lt.mpr z)
      have hnext : Int32.ofNat i + 1 = Int32.ofNat (i + 1) := i32_eq.mpr (by rw [i32_add (by omega) (by omega), ofNat_int (by omega), ofNat_int (by omega)]; omega)
      rcases g4 with ⟨a1, a2, a3, a4, a5⟩ | ⟨a1, a2⟩
      · right
        have ts1 := ts_r hI t1 g3
        obtain ⟨x, w1, w2⟩ := trialNumber_is hn hnd (by rw [ts1.1.2.2.2]; exact h51) a3 (hsr i) h4
        have hk3 : rkM s (upI s1 53 i x) := rkM_tr g3 (rkM_53 _ _ _)
        have h53 : (upI s1 53 i x).1 53 i = x := by rw [upI_1, if_pos rfl, upd_eq rfl]
        have h53o : ∀ j : Nat, ¬ j = i → (upI s1 53 i x).1 53 j = s1.1 53 j := fun j hj => by rw [upI_1, if_pos rfl, upd_ne hj]
        have h516 : (upI s1 53 i x).1 51 6 = -2 := by rw [upI_1, if_neg (by decide)]; exact a5
        have h52 : ∀ d : Nat, d < 8 → (upI s1 53 i x).1 52 d = seqF E tn nd (c.1 21) i d := fun d hd => by rw [upI_1, if_neg (by decide)]; exact a3 d hd
        obtain ⟨b, r1, r2⟩ := isPast_is hn (s := upI s1 53 i x) hiI (by omega)
        have hall53 : ∀ j : Nat, j ≤ i → ((upI s1 53 i x).1 53 j).toInt = (numF (seqF E tn nd (c.1 21) j) nd : Nat) := by
          intro j hj
          by_cases z : j = i
          · rw [z, h53]; exact w2
          · rw [h53o j z]; exact a4 j (by omega)
        have hbody : B_X0_roundsChanged_27 nd n (ag, Int32.ofNat i, s1) = (if b = true then some (.inl (false, Int32.ofNat (i + 1), upI s1 53 i x)) else ((lp (B_X0_roundsChanged_59 nd n (Int32.ofNat i)) n (false, 0, upI s1 53 i x)).bind fun e59 => (if e59.1 = true then some (.inl (e59.1, Int32.ofNat (i + 1), upI e59.2.2 51 6 (-2))) else some (.inl (e59.1, Int32.ofNat (i + 1), upI e59.2.2 51 6 (Int32.ofNat i)))))) := by
          unfold B_X0_roundsChanged_27
          dsimp only
          rw [if_neg c1', if_pos a1, w1, Option.bind_some, if_pos (jin_val hiI (by omega)), jl_1, nat_val hiI, r1, Option.bind_some, hnext]
          rfl
        rcases r2 with ⟨hb, j, hj, hjj⟩ | ⟨hb, _⟩
        · refine ⟨(false, Int32.ofNat (i + 1), upI s1 53 i x), 21 - (i + 1), by omega, by rw [hbody, if_pos hb], i + 1, rfl, by omega, rfl, hk3, Or.inr ⟨rfl, ?_⟩⟩
          have hnum : numF (seqF E tn nd (c.1 21) j) nd = numF (seqF E tn nd (c.1 21) i) nd := by
            have e1 := hall53 j (by omega)
            have e2 := hall53 i (Nat.le_refl _)
            rw [hjj] at e1
            omega
          have hseq : seqF E tn nd (c.1 21) j = seqF E tn nd (c.1 21) i := by
            funext d
            by_cases z : d < nd
            · exact num_inj (hsr j) (hsr i) h4 nd hnd hnum d z
            · rw [seq_out j d (by omega), seq_out i d (by omega)]
          exact Or.inr ⟨fun i' _ => seq_cycle hj hseq a2 i', h516⟩
        · obtain ⟨e, v1, v2, v3, v4⟩ := hin (v2 := Int32.ofNat i) (ts_r hI t1 hk3) h52 (hsr i)
          have hk5 : rkM s e.2.2 := rkM_tr hk3 (rkM_b v3)
          by_cases z : e.1 = true
          · refine ⟨(e.1, Int32.ofNat (i + 1), upI e.2.2 51 6 (-2)), 21 - (i + 1), by omega, by rw [hbody, if_neg (by rw [hb]; exact fun y => by cases y), v1, Option.bind_some, if_pos z], i + 1, rfl, by omega, rfl, rkM_tr hk5 (rkM_51 _ _), Or.inl ⟨z, fun j hj => ?_, fun d hd => ?_, fun j hj => ?_, ?_⟩⟩
            · by_cases y : j = i
              · subst y
                unfold stbF
                rw [← v2, z]
                exact fun q => by cases q
              · exact a2 j (by omega)
            · show (upI e.2.2 51 6 (-2)).1 52 d = _
              rw [upI_1, if_neg (by decide)]
              exact v4 d hd
            · show ((upI e.2.2 51 6 (-2)).1 53 j).toInt = _
              rw [upI_1, if_neg (by decide), v3.1 53 (by decide) (by decide)]
              exact hall53 j (by omega)
            · show (upI e.2.2 51 6 (-2)).1 51 6 = -2
              rw [upI_1, if_pos rfl, upd_eq rfl]
          · have hst : stbF E tn nd (c.1 21) i := by
              unfold stbF
              rw [← v2]
              cases q : e.1 with
              | false => rfl
              | true => exact absurd q z
            refine ⟨(e.1, Int32.ofNat (i + 1), upI e.2.2 51 6 (Int32.ofNat i)), 21 - (i + 1), by omega, by rw [hbody, if_neg (by rw [hb]; exact fun y => by cases y), v1, Option.bind_some, if_neg z], i + 1, rfl, by omega, rfl, rkM_tr hk5 (rkM_51 _ _), Or.inr ⟨?_, Or.inl ⟨i, by omega, hst, a2, ?_, fun d hd => ?_⟩⟩⟩
            · show e.1 = false
              cases q : e.1 with
              | false => rfl
              | true => exact absurd q z
            · show ((upI e.2.2 51 6 (Int32.ofNat i)).1 51 6).toInt = i
              rw [upI_1, if_pos rfl, upd_eq rfl]
              exact hiI
            · show (upI e.2.2 51 6 (Int32.ofNat i)).1 52 d = _
              rw [upI_1, if_neg (by decide), v4 d (by omega), rd_same nd hst]
      · left
        exact ⟨(ag, Int32.ofNat i, s1), by unfold B_X0_roundsChanged_27; dsimp only; rw [if_neg c1', if_neg (by rw [a1]; exact fun z => by cases z)], g3, a2⟩) 21 n (true, 0, upI s 51 6 (-2)) (by omega) ⟨0, rfl, by omega, rfl, rkM_51 _ _, Or.inl ⟨rfl, fun j hj => absurd hj (Nat.not_lt_zero j), fun d hd => by show (upI s 51 6 (-2)).1 52 d = c.1 21 d; rw [upI_1, if_neg (by decide)]; exact t2 d hd, fun j hj => absurd hj (Nat.not_lt_zero j), by show (upI s 51 6 (-2)).1 51 6 = -2; rw [upI_1, if_pos rfl, upd_eq rfl]⟩⟩
  have tse := ts_r hI t1 q1
  have tsf : tsC n nd c m (fun d r => true = true ∨ (c.1 21 d).toInt = r) (upI e.2.2 51 7 (jb true)) := ts_w hI tse ⟨fun k hk => by rw [upI_1, if_neg (by omega)], by rw [upI_1, if_neg (by decide)], by rw [upI_1, if_neg (by decide)], by rw [upI_1, if_pos rfl, upd_ne (by decide)]⟩ (by rw [upI_1, if_neg (by decide)]) rfl
  refine ⟨upI e.2.2 51 7 (jb true), ?_, tsf, ?_⟩
  · unfold F_X0_roundsChanged
    rw [if_neg hset, p1, Option.bind_some, jl_1, he, Option.bind_some, jl_1]
  · rw [upI_1, if_pos rfl, upd_ne (by decide), upI_1, if_neg (by decide)]
    exact q2
end
/-- hinges as the reference's row has them -/
def aU (un : Nat → Int32) : Nat → Int32 := fun j => if jz (un (j - 20)) = true then 0 else 1
theorem aU_is {un a : Nat → Int32} {nd : Nat} (hnd : nd ≤ 8) (h : rHinge un a) (ky : Int32) {d : Nat} (hd : d < nd) : freeB (aU un) ky d = freeB a ky d := by
  have hh := h d (by omega)
  unfold freeB
  congr 1
  have e : aU un (20 + d) = if jz (un d) = true then 0 else 1 := by
    show (if jz (un (20 + d - 20)) = true then (0 : Int32) else 1) = _
    rw [show 20 + d - 20 = d from by omega]
  rw [e]
  by_cases z : jz (un d) = true
  · rw [if_pos z, decide_eq_true rfl, decide_eq_true (hh.mp z)]
  · rw [if_neg z, decide_eq_false (by decide), decide_eq_false (fun y => z (hh.mpr y))]
/-- what is kept of the rounds, between calls -/
def EOw (nd n : Nat) : jEO := fun x6 x52 cnt gu ru un ra mo z3 told => ∃ c : jS, asksR c (canM ra mo z3) ∧ c.1 18 7 = told ∧ c.1 19 = ra ∧ c.1 20 = mo ∧ setOK (eE (opV n ra mo z3) (aU un) gu nd cnt.toInt.toNat) told.toInt.toNat nd ru x6 x52 ∧ inR told ru ∧ 0 ≤ told.toInt ∧ ∀ g : Nat, (g : Int) < cnt.toInt → (gu (4 * g)).toInt ≤ 9
theorem stay_e {nd n : Nat} (hn : 400000 ≤ n) (hnd : nd ≤ 8) : stayE (EOw nd n) := by
  intro x6 x52 cnt gu ru un ra mo z3 z3' told hz h
  obtain ⟨c, h1, h2, h3, h4, h5, h6, h7, h8⟩ := h
  subst h2 h3 h4
  have h1' : asksR c (canM (c.1 19) (c.1 20) z3') := ⟨fun t ht => jText_z (fun j j1 j2 => hz j (by omega)) (h1.1 t ht), h1.2.1, can_rain h1.2.2.1, can_mood h1.2.2.2⟩
  refine ⟨c, h1', rfl, rfl, rfl, ?_, h6, h7, h8⟩
  refine set_cg (told := c.1 18 7) (by omega) (by have := h1.2.1; omega) hnd h6 (fun ρ v hv hr => ?_) h5
  exact eS_cg (told := c.1 18 7) hnd (fun v1 v2 v3 v4 v5 v6 v7 g => opV_same hn h1 h1' g) hr _ (fun g hg => ⟨fun d hd => rfl, h8 g (by omega)⟩)
