/-! asks joined by and, or: the loop -/
theorem class_join {n t : Nat} (hn : 400000 ≤ n) (ht : t < 4) {Ws P R : List Int32} {lv : Int32} {c : jS} (hlv : F_X1_levelOf (c.1 27 2) = lv) (h12 : lv = 1 ∨ lv = 2) (h : cE t Ws (P ++ R) (nests P) c) (hP : ∀ p ∈ P, ¬ F_X1_levelOf p < lv) (hR : ∀ p r, R = p :: r → F_X1_levelOf p < lv) (h9 : jz (c.1 49 9) = true) (h8 : c.1 49 8 = 0) (h5 : c.1 49 5 = 7) (h0 : c.1 49 0 = 0) (hw : Ws.length + P.length ≤ 300) (hl : P.length + R.length < 64) (hn8 : nests P ≤ 8) :
    ∃ c2, F_X1_take n (c.1 27 2) c = some c2 ∧ c2.1 49 0 = 0 ∧ cE t (app P Ws) (c.1 27 2 :: R) 0 c2 ∧ wC t c c2 ∧ c2.1 27 = c.1 27 ∧ c2.1 49 5 = 6 ∧ c2.1 49 8 = 0 ∧ ¬ jz (c2.1 49 9) = true ∧ c2.1 (2 + 4 * t) 5 = c.1 (2 + 4 * t) 5 ∧ c2.1 49 1 = c.1 49 1 := by
  have h' : cE t Ws (P ++ R) (nests P + 0) c := h
  obtain ⟨c1, d1, d2, d3⟩ := join_c (n := n) hn ht hR hP h' hw (by omega) (by omega)
  obtain ⟨c3, f1, f2, f3⟩ := put_c ht d2 (by omega) (c.1 27 2)
  refine ⟨upI (upI c3 49 5 6) 49 9 (jb false), ?_, ?_, cE_49 ht (cE_49 ht f2 (by decide) (by decide) (by decide) 6) (by decide) (by decide) (by decide) _, wC_49 ht (wC_49 ht (wC_tr (wC_p ht d3) (wC_p ht f3)) (by decide) _) (by decide) _, ?_, ?_, ?_, ?_, ?_, by rw [upI_1, if_pos rfl, upd_ne (by decide), upI_1, if_pos rfl, upd_ne (by decide), f3.2.2.1 1 (by decide) (by decide), d3.2.2.1 1 (by decide) (by decide)]⟩
  · rw [take_7 h5]
    obtain ⟨k0, e, hk0⟩ := behind_is (n := n) (v := c.1 27 2) (c := c)
    have hk : k0 = true := hk0.mpr ⟨h9, h8⟩
    rw [e, hk, hlv]
    have h10 : ¬ c.1 27 2 = 10 := fun z => by
      rw [z] at hlv
      rcases h12 with y | y <;> (rw [y] at hlv; exact absurd hlv (by decide))
    have h108 : J_X1_takeBehindOne_108 n (c.1 27 2) lv true c = some (upI (upI c3 49 5 6) 49 9 (jb false)) := by
      unfold J_X1_takeBehindOne_108
      rw [if_pos rfl]
      unfold F_X1_join
      rw [d1, Option.bind_some, f1, Option.bind_some, jl_1, Option.bind_some, jl_1]
    have h98 : J_X1_takeBehindOne_98 n (c.1 27 2) lv true c = some (upI (upI c3 49 5 6) 49 9 (jb false)) := by
      unfold J_X1_takeBehindOne_98
      rcases h12 with y | y
      · rw [if_pos y, h108]
      · rw [y] at h108 ⊢
        rw [if_neg (by decide), if_pos rfl, h108]
    have h65 : J_X1_takeBehindOne_65 n (c.1 27 2) lv true c = some (upI (upI c3 49 5 6) 49 9 (jb false)) := by
      unfold J_X1_takeBehindOne_65
      rw [if_neg (fun z => by rcases h12 with y | y <;> (rw [y] at z; exact absurd z (by decide))), h98]
    unfold J_X1_takeBehindOne_24
    rw [if_neg (fun z => by rcases h12 with y | y <;> (rw [y] at z; exact absurd z (by decide))), if_neg (fun z => by rcases h12 with y | y <;> (rw [y] at z; exact absurd z (by decide))), if_neg h10, h65]
  · rw [upI_1, if_pos rfl, upd_ne (by decide), upI_1, if_pos rfl, upd_ne (by decide), f3.2.2.1 0 (by decide) (by decide), d3.2.2.1 0 (by decide) (by decide)]; exact h0
  · rw [upI_1, if_neg (by decide), upI_1, if_neg (by decide), f3.1 27 (by omega) (by omega) (by decide) (by decide), d3.1 27 (by omega) (by omega) (by decide) (by decide)]
  · rw [upI_1, if_pos rfl, upd_ne (by decide), upI_1, if_pos rfl, upd_eq rfl]
  · rw [upI_1, if_pos rfl, upd_ne (by decide), upI_1, if_pos rfl, upd_ne (by decide), f3.2.2.1 8 (by decide) (by decide), d3.2.2.1 8 (by decide) (by decide)]; exact h8
  · rw [upI_1, if_pos rfl, upd_eq rfl]; exact jz_f
  · rw [upI_1, if_neg (by omega), upI_1, if_neg (by omega), f3.2.1 5 (by decide), d3.2.1 5 (by decide)]
/-- ahead of the next ask -/
theorem next_ask {n t : Nat} (hn : 400000 ≤ n) (ht : t < 4) {W : List (Int32 × Int32 × Int32)} {B0 : List Int32} {b : Nat} {c c2 m m' : jS} (hT : rTape (c.1 27) (c.1 28) (m.1 0) (m.1 4)) (hK : tokA c m) (hne : ¬ c.1 27 2 = 1)
    (h1 : F_X1_take n (c.1 27 2) c = some c2) (h2 : c2.1 49 0 = 0) (h3 : cE t (w1 W) B0 0 c2) (h4 : wC t c c2) (h5 : c2.1 27 = c.1 27) (h6 : c2.1 49 5 = 6) (h7 : c2.1 49 8 = 0) (h8 : ¬ jz (c2.1 49 9) = true) (h9 : nmB (c2.1 (2 + 4 * t) 5) W) (h10 : c2.1 49 1 = c.1 49 1) (hs : c.1 49 5 = 7)
    (hm : mE t (w2 W) [] 0 m') (hp : pM t m m') (hcode : codeL W 0 b) (hlen : ((W.length + B0.length : Nat) : Int) ≤ (c.1 27 4).toInt + 1) :
    ∃ c' m2, F_X9_nextToken n m' = some m2 ∧ rch n c c' ∧ askR t W B0 b 0 c' m2 ∧ wC t c c' ∧ wM t m m2 ∧ (c.1 27 4).toInt + 1 ≤ (c'.1 27 4).toInt ∧ (c'.1 27 4).toInt ≤ 300 := by
  obtain ⟨c5, m5, k1, k2, k3, k4, k5, k6, k7⟩ := advance hn ht (m1 := m') hT hK hne h4 h5 (wM_p hp) (hp.2.1 8 (by decide) (by decide) (by decide))
  obtain ⟨p1, p2, p3, p4, p5, p6⟩ := hm
  refine ⟨c5, m5, k2, rch_one ⟨fun z => by rw [hs] at z; exact absurd z.1 (by decide), k7, by rw [k3.1 49 (by decide)]; exact h10, c2, h1, h2, k1⟩, ⟨⟨?_, ?_, ⟨hcode, trivial, fun z => (by cases z), Nat.zero_le _, ?_⟩, ⟨?_, rfl, ?_, ?_, ?_⟩, k6, k5⟩, ?_⟩, wC_tr h4 (wC_fr ht k3), wM_tr (wM_p hp) (wM_fr k4), k7, (notEnd k6 k5).1⟩
  · exact cE_fr ht h3 k3
  · refine mE_reset ?_ ?_ ?_ ?_
    · rw [k4.2.1 15 (by decide) (by decide) (by decide) (by decide)]; exact p1
    · rw [k4.1 3 (by decide)]; exact p2
    · rw [k4.2.1 19 (by decide) (by decide) (by decide) (by decide)]; exact p5
    · rw [k4.2.1 13 (by decide) (by decide) (by decide) (by decide)]; exact p6
  · show ((W.length + 0 + B0.length : Nat) : Int) ≤ _
    omega
  · rw [k3.1 49 (by decide), h7]; rfl
  · rw [k3.1 49 (by decide)]; exact h6
  · rw [k3.1 49 (by decide)]; exact h2
  · rw [k3.1 _ (by omega)]; exact h9
  · rw [k3.1 49 (by decide)]; exact h8
theorem either_rel {n t : Nat} (hn : 400000 ≤ n) (ht : t < 4) {c m : jS} (h : askR t [] [] 0 0 c m) :
    ∃ r, F_X9_either n m = some r ∧ (bothNo n t c m r.1 r.2 ∨ (r.1 = 0 ∧ ∃ c' Ws P Wf, rch n c c' ∧ eithE t Ws P Wf c' r.2 ∧ wC t c c' ∧ wM t m r.2)) := by
  have start : ∀ {c' y : jS}, rTape (c'.1 27) (c'.1 28) (y.1 0) (y.1 4) → tokA c' y → (c'.1 27 4).toInt ≤ 300 ∧ 0 ≤ (c'.1 27 4).toInt := fun hT hk => ⟨(notEnd hT hk).1, hk.1.2.2.1⟩
  obtain ⟨e, he, hq⟩ := lp_rule (body := B_X9_either_6 n)
    (I := fun q j => (q.2.2.1 = true ∧ ∃ c' ws, rch n c c' ∧ askR t ws (pendB q.1 q.2.1) (pendN q.1 q.2.1) 0 c' q.2.2.2 ∧ wC t c c' ∧ wM t m q.2.2.2 ∧ j = (300 - (c'.1 27 4).toInt.toNat) + 1) ∨ (q.2.2.1 = false ∧ j = 0 ∧ ∃ c' Ws P Wf, rch n c c' ∧ eithE t Ws P Wf c' q.2.2.2 ∧ wC t c c' ∧ wM t m q.2.2.2))
    (Q := fun e => (∃ f y, e = .inr (f, y) ∧ bothNo n t c m f y) ∨ ∃ q, e = .inl q ∧ ∃ c' Ws P Wf, rch n c c' ∧ eithE t Ws P Wf c' q.2.2.2 ∧ wC t c c' ∧ wM t m q.2.2.2) (by
    rintro ⟨andp, orp, more, y⟩ j hI
    simp only at hI
    rcases hI with ⟨rfl, c', ws, g1, g2, g3, g4, g5⟩ | ⟨rfl, g0, g⟩
    · obtain ⟨o1, o2, o3, o4⟩ := pend_ok andp orp
      obtain ⟨r, a1, a2⟩ := asks_rel hn ht o1 o2 g2
      have hbody : B_X9_either_6 n (andp, orp, true, y) = (if r.1 = 0 then (if andp = true then (F_X9_emit 21 0 r.2).bind (fun p32 => J_X9_either_35 n orp p32) else J_X9_either_35 n orp r.2) else some (.inr (.inr (r.1, r.2)))) := by
        unfold B_X9_either_6
        dsimp only
        rw [if_pos rfl, a1, Option.bind_some]
      rcases a2 with a2 | ⟨a0, c2, ws2, pl, v, o, k, i1, i2, i3, i4⟩
      · left
        exact ⟨.inr (r.1, r.2), by rw [hbody, if_neg a2.1], Or.inl ⟨r.1, r.2, rfl, bothNo_tr g1 g3 g4 a2⟩⟩
      · rw [if_pos a0] at hbody
        obtain ⟨z, hz⟩ : ∃ z, r.2 = z := ⟨_, rfl⟩
        rw [hz] at hbody i2 i4
        obtain ⟨s1, s2, ⟨s3, s4, s5, s6, s7, s8⟩, ⟨t1, t2, t3, t4, t5⟩, t6, t7, t8⟩ := i2
        obtain ⟨st1, st2⟩ := start g2.1.2.2.2.2.1 g2.1.2.2.2.2.2
        have hle := rch_le i1
        obtain ⟨e1, e2⟩ := notEnd t6 t7
        obtain ⟨A1, A2, A3⟩ := ask_A (k := k) s4 s7
        obtain ⟨Wk, hWk⟩ : ∃ Wk, notsW k ((-v, o, 0) :: app3 pl ws2) = Wk := ⟨_, rfl⟩
        have hW1 : w1 Wk = app (pl.map oC ++ (v :: List.replicate k 13)) (w1 ws2) := by rw [← hWk]; exact ask_W
        rw [hWk] at s2 s3 t4
        have hWl : Wk.length = k + (pl.length + ws2.length + 1) := by
          rw [← hWk, notsW_len]
          show k + ((app3 pl ws2).length + 1) = _
          rw [app3_len]
        obtain ⟨A, hA⟩ : ∃ A, pl.map oC ++ (v :: List.replicate k 13) = A := ⟨_, rfl⟩
        rw [hA] at A1 A2 A3 hW1
        have s1' : cE t (w1 ws2) (A ++ pendB andp orp) k c2 := by
          rw [← hA, List.append_assoc]
          exact s1
        have hwl : (w1 ws2).length = ws2.length := w1_len ws2
        have hpl : (pendB andp orp).length = (if andp = true then 1 else 0) + (if orp = true then 1 else 0) := o4
        have ba : (if andp = true then 1 else 0) ≤ 1 := by cases andp <;> decide
        have bo : (if orp = true then 1 else 0) ≤ 1 := by cases orp <;> decide
        rw [hpl] at s8
        -- the and's word
        obtain ⟨z1, b1, b2, b3⟩ := emit_and ht (q := andp) s2 (by omega) (J_X9_either_35 n orp)
        rw [b1] at hbody
        have hcA : codeL (andW andp Wk) 0 ((if orp = true then 1 else 0) + 1) := andW_code (by omega) (by omega) (by rw [← Nat.add_assoc]; exact s3)
        have hlA : (andW andp Wk).length = (if andp = true then 1 else 0) + Wk.length := andW_len
        have ht10 : z1.1 0 10 = z.1 0 10 := b3.2.1 10 (by decide) (by decide) (by decide)
        have ht12 : z1.2 0 12 = z.2 0 12 := by rw [b3.2.2.2]
        obtain ⟨tw, tn⟩ := t7.2
        obtain ⟨_, _, _, _, tAnd, _, tOr, _⟩ := tw
        have hAnd : (wordD (jdig 13) (z1.1 0 10) (z1.2 0 12) = true ↔ c2.1 27 2 = 12) := by rw [ht10, ht12]; exact tAnd
        have hOr : (wordD (jdig 12) (z1.1 0 10) (z1.2 0 12) = true ↔ c2.1 27 2 = 11) := by rw [ht10, ht12]; exact tOr
        by_cases k12 : c2.1 27 2 = 12
        · right
          rw [J35_and (hAnd.mpr k12) (fun x => by have := hOr.mp x; rw [k12] at this; exact absurd this (by decide))] at hbody
          have hlv : F_X1_levelOf (c2.1 27 2) = 2 := by rw [k12]; decide
          obtain ⟨c3, f1, f2, f3, f4, f5, f6, f7, f8, f9, f10⟩ := class_join (n := n) (P := A ++ (if andp = true then [12] else [])) (R := if orp = true then [11] else []) (Ws := w1 ws2) hn ht hlv (Or.inr rfl) (by
            rw [List.append_assoc, nests_app, A2, show nests (if andp = true then [12] else []) = 0 from by cases andp <;> decide]
            exact s1') (fun p hp => by
              rcases List.mem_append.mp hp with q | q
              · exact fun x => A1 p q (lt_tr x (by decide))
              · cases andp with
                | false => exact absurd q (by simp)
                | true =>
                  have : p = 12 := by simpa using q
                  rw [this]; decide) (fun p r e => by
              cases orp with
              | false => cases e
              | true =>
                obtain ⟨rfl, _⟩ := List.cons.inj (show [(11 : Int32)] = p :: r from e)
                decide) t5 t1 t2 t3 (by rw [List.length_append, A3, hwl, show (if andp = true then [(12 : Int32)] else []).length = (if andp = true then 1 else 0) from by cases andp <;> rfl]; omega) (by rw [List.length_append, A3, show (if andp = true then [(12 : Int32)] else []).length = (if andp = true then 1 else 0) from by cases andp <;> rfl, show (if orp = true then [(11 : Int32)] else []).length = (if orp = true then 1 else 0) from by cases orp <;> rfl]; omega) (by rw [nests_app, A2, show nests (if andp = true then [12] else []) = 0 from by cases andp <;> decide]; omega)
          rw [app_app, ← hW1, ← andW_1, k12] at f3
          obtain ⟨c4, m4, q1, q2, q3, q4, q5, q6, q7⟩ := next_ask hn ht (W := andW andp Wk) (B0 := pendB true orp) (b := pendN true orp) t6 t7 (by rw [k12]; decide) f1 f2 f3 f4 f5 f6 f7 f8 (by rw [f9]; exact andW_nm t4) f10 t2 b2 b3 (by rw [show pendN true orp = (if orp = true then 1 else 0) + 1 from Nat.add_comm _ _]; exact hcA) (by
            rw [hlA, (pend_ok true orp).2.2.2, show pendN true orp = (if orp = true then 1 else 0) + 1 from Nat.add_comm _ _]
            omega)
          refine ⟨(true, orp, true, m4), (300 - (c4.1 27 4).toInt.toNat) + 1, by omega, ?_, Or.inl ⟨rfl, c4, _, rch_tr g1 (rch_tr i1 q2), q3, wC_tr g3 (wC_tr i3 q4), wM_tr g4 (wM_tr i4 q5), rfl⟩⟩
          rw [hbody, q1, Option.bind_some]
        · by_cases k11 : c2.1 27 2 = 11
          · right
            rw [J35_or (fun x => k12 (hAnd.mp x)) (hOr.mpr k11)] at hbody
            obtain ⟨z2, d1, d2, d3⟩ := emit_or ht (q := orp) b2 (by omega) (fun p => (F_X9_nextToken n p).bind fun p113 => (some (.inl (false, true, true, p113)) : Option ((Bool × Bool × Bool × jS) ⊕ ((Bool × Bool × Bool × jS) ⊕ ((Int32 × jS))))))
            rw [d1] at hbody
            have hcO : codeL (orW orp (andW andp Wk)) 0 1 := orW_code (by omega) (by omega) hcA
            have hlO : (orW orp (andW andp Wk)).length = (if orp = true then 1 else 0) + (andW andp Wk).length := orW_len
            have hlv : F_X1_levelOf (c2.1 27 2) = 1 := by rw [k11]; decide
            have hpn : nests (pendB andp orp) = 0 := o3
            obtain ⟨c3, f1, f2, f3, f4, f5, f6, f7, f8, f9, f10⟩ := class_join (n := n) (P := A ++ pendB andp orp) (R := []) (Ws := w1 ws2) hn ht hlv (Or.inl rfl) (by
              rw [List.append_nil, nests_app, A2, hpn]
              exact s1') (fun p hp => by
                rcases List.mem_append.mp hp with q | q
                · exact fun x => A1 p q (lt_tr x (by decide))
                · rcases o1.2 p q with x | x <;> (rw [x]; decide)) (fun p r e => by cases e) t5 t1 t2 t3 (by rw [List.length_append, A3, hwl, hpl]; omega) (by rw [List.length_append, A3, hpl]; show _ + 0 < 64; omega) (by rw [nests_app, A2, hpn]; omega)
            have hws : app (A ++ pendB andp orp) (w1 ws2) = w1 (orW orp (andW andp Wk)) := by
              rw [app_app, ← hW1, orW_1, andW_1, ← app_app]
              rfl
            rw [hws, k11] at f3
            obtain ⟨c4, m4, q1, q2, q3, q4, q5, q6, q7⟩ := next_ask hn ht (W := orW orp (andW andp Wk)) (B0 := pendB false true) (b := pendN false true) t6 t7 (by rw [k11]; decide) f1 f2 f3 f4 f5 f6 f7 f8 (by rw [f9]; exact orW_nm (andW_nm t4)) f10 t2 d2 (pM_tr b3 d3) hcO (by
              rw [hlO, hlA]
              show (((if orp = true then 1 else 0) + ((if andp = true then 1 else 0) + Wk.length) + 1 : Nat) : Int) ≤ _
              omega)
            refine ⟨(false, true, true, m4), (300 - (c4.1 27 4).toInt.toNat) + 1, by omega, ?_, Or.inl ⟨rfl, c4, _, rch_tr g1 (rch_tr i1 q2), q3, wC_tr g3 (wC_tr i3 q4), wM_tr g4 (wM_tr i4 q5), rfl⟩⟩
            rw [hbody, q1, Option.bind_some]
          · right
            rw [J35_end (fun x => k12 (hAnd.mp x)) (fun x => k11 (hOr.mp x))] at hbody
            obtain ⟨z2, d1, d2, d3⟩ := emit_or ht (q := orp) b2 (by omega) (fun p => (some (.inl (false, false, false, p)) : Option ((Bool × Bool × Bool × jS) ⊕ ((Bool × Bool × Bool × jS) ⊕ ((Int32 × jS))))))
            rw [d1] at hbody
            have hcO : codeL (orW orp (andW andp Wk)) 0 1 := orW_code (by omega) (by omega) hcA
            have hlO : (orW orp (andW andp Wk)).length = (if orp = true then 1 else 0) + (andW andp Wk).length := orW_len
            have hws : app (A ++ pendB andp orp) (w1 ws2) = w1 (orW orp (andW andp Wk)) := by
              rw [app_app, ← hW1, orW_1, andW_1, ← app_app]
              rfl
            have hpp : pM t z z2 := pM_tr b3 d3
            have hnP : nests (A ++ pendB andp orp) = k := by rw [nests_app, A2, o3]; rfl
            have hlP : (A ++ pendB andp orp).length = pl.length + 1 + k + ((if andp = true then 1 else 0) + (if orp = true then 1 else 0)) := by rw [List.length_append, A3, hpl]
            refine ⟨(false, false, false, z2), 0, by omega, hbody, Or.inr ⟨rfl, rfl, c2, w1 ws2, A ++ pendB andp orp, orW orp (andW andp Wk), rch_tr g1 i1, ⟨by rw [hnP]; exact s1', hws.symm, d2, hcO, ⟨fun p hp => ?_, by rw [hlP]; omega, by rw [hnP]; exact s6, by rw [hlO, hlA, hWl, hlP, hwl]; omega, by rw [hlP, hwl]; omega⟩, ⟨t1, t2, t3, orW_nm (andW_nm t4), t5⟩, tape_pM t6 hpp, tokA_pM t7 hpp, t8, k11, k12⟩, wC_tr g3 i3, wM_tr g4 (wM_tr i4 (wM_p hpp))⟩⟩
            rcases List.mem_append.mp hp with q | q
            · exact fun x => A1 p q (lt_tr x (by decide))
            · rcases o1.2 p q with x | x <;> (rw [x]; decide)
    · left
      refine ⟨.inl (andp, orp, false, y), ?_, Or.inr ⟨_, rfl, g⟩⟩
      unfold B_X9_either_6
      dsimp only
      rw [if_neg (fun z => by cases z)]) ((300 - (c.1 27 4).toInt.toNat) + 1) n (false, false, true, m) (by omega) (Or.inl ⟨rfl, c, [], rch_rfl, h, wC_rfl, wM_rfl, rfl⟩)
  have hei : F_X9_either n m = Sum.elim (fun e6 => some (0, e6.2.2.2)) (fun r6 => some r6) e := by
    unfold F_X9_either
    rw [he, Option.bind_some]
  rcases hq with ⟨f, y, rfl, q⟩ | ⟨q, rfl, g⟩
  · exact ⟨(f, y), hei, Or.inl q⟩
  · exact ⟨(0, q.2.2.2), hei, Or.inr ⟨rfl, g⟩⟩
