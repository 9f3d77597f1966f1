/-! an ask, whole -/
theorem w2_cons (x : Int32 × Int32 × Int32) (W : List (Int32 × Int32 × Int32)) : w2 (x :: W) = x.2 :: w2 W := rfl
theorem asks_rel {n t : Nat} (hn : 400000 ≤ n) (ht : t < 4) {ws : List (Int32 × Int32 × Int32)} {B0 : List Int32} {b : Nat} (hB : B0ok B0) (hb : b ≤ 2) {c m : jS} (h : askR t ws B0 b 0 c m) :
    ∃ r, F_X9_asks n m = some r ∧ (bothNo n t c m r.1 r.2 ∨ (r.1 = 0 ∧ ∃ c' ws' pl v o k, rch n c c' ∧ askE t ws' pl v o k B0 b c' r.2 ∧ wC t c c' ∧ wM t m r.2)) := by
  obtain ⟨e, he, hq⟩ := nots_rel hn ht hB hb h
  rcases hq with ⟨f, y, rfl, q⟩ | ⟨x, y, c1, k, rfl, x1, x2, x3, x4, x5, x6, x7⟩
  · refine ⟨(f, y), ?_, Or.inl q⟩
    unfold F_X9_asks
    rw [he, Option.bind_some]
    rfl
  · have hlr : (List.replicate k (13 : Int32) ++ B0).length = k + B0.length := by rw [List.length_append, List.length_replicate]
    have hBl := hB.1
    have hok : baseOK (List.replicate k 13 ++ B0) k 0 b := ⟨fun p r e => lt_tr (base_lev hB p r e).1 (by decide), by omega, by omega, by omega, x2⟩
    obtain ⟨r1, a1, a2⟩ := summed_rel hn ht hok x4.1 (fun _ => x7)
    have hasks : F_X9_asks n m = (F_X9_summed n y).bind fun p50 => (if p50.1 = 0 then (if 0 ≤ (F_X9_compareOf p50.2) then ((F_X9_nextToken n p50.2).bind fun p72 => ((F_X9_summed n p72).bind fun p76 => (if p76.1 = 0 then ((F_X9_emit (F_X9_compareOf p50.2) 0 p76.2).bind fun p89 => (jl (upI p89 0 19 ((p89.1 0 19) - x)) fun s99_2 => ((lp (B_X9_asks_105 n x) n (0, s99_2)).bind fun e105 => some (0, e105.2)))) else some (p76.1, p76.2)))) else some (1, p50.2)) else some (p50.1, p50.2)) := by
      unfold F_X9_asks
      rw [he, Option.bind_some]
      rfl
    rw [a1, Option.bind_some] at hasks
    rcases a2 with a2 | ⟨a0, c2, ws2, pl2, g1, g2, g3, g4, g5⟩
    · rw [if_neg a2.1] at hasks
      exact ⟨_, hasks, Or.inl (bothNo_tr x3 x5 x6 a2)⟩
    · rw [if_pos a0] at hasks
      obtain ⟨z, hz⟩ : ∃ z, r1.2 = z := ⟨_, rfl⟩
      rw [hz] at hasks g2 g4
      obtain ⟨s1, s2, ⟨s3, s4, s5, s6⟩, ⟨s7, s8, s9, s10⟩, s11, s12, s13⟩ := g2
      have h9 : ¬ jz (c2.1 49 9) = true := by rw [g5]; exact x4.2
      obtain ⟨tw, tn⟩ := s12.2
      obtain ⟨_, _, _, _, _, _, _, _, _, _, wcmp⟩ := tw
      have hcmp : F_X9_compareOf z = (if c2.1 27 2 = 14 then 10 else if c2.1 27 2 = 15 then 11 else if c2.1 27 2 = 16 then 12 else if c2.1 27 2 = 17 then 13 else if c2.1 27 2 = 18 then 14 else if c2.1 27 2 = 19 then 15 else -1) := (compOf_D z).trans wcmp
      by_cases hv : c2.1 27 2 ∈ ([14, 15, 16, 17, 18, 19] : List Int32)
      · obtain ⟨v1, v2, ⟨o, o1, o2, o3, o4⟩, v4, v5, v6⟩ := comp_all _ hv
        rw [o3] at hcmp
        have ho : (Int32.ofNat o).toInt = o := ofNat_int (by omega)
        have l0 : (0 : Int32).toInt = 0 := rfl
        rw [hcmp, if_pos (i32_le.mpr (by omega))] at hasks
        obtain ⟨v, hvv⟩ : ∃ v, c2.1 27 2 = v := ⟨_, rfl⟩
        rw [hvv] at v1 v2 o4 v4 v5 v6
        -- the class takes the comparing sign
        have hml : (pl2.map oC).length = pl2.length := List.length_map ..
        have hwl : (w1 ws2).length = ws2.length := w1_len ws2
        obtain ⟨q1, q2, q3, q4⟩ := cnt_bin pl2 s4
        obtain ⟨e1, e2⟩ := notEnd s11 s12
        have s1' : cE t (w1 ws2) (pl2.map oC ++ (List.replicate k 13 ++ B0)) (nests (pl2.map oC) + k) c2 := by
          rw [q4, Nat.zero_add]; exact s1
        rw [hlr] at s6
        obtain ⟨c3, d1, d2, d3⟩ := join_c (n := n) (v := 4) hn ht (fun p r e => (base_lev hB p r e).1) (memMap (Q := fun x => ¬ F_X1_levelOf x < 4) (fun p hp z => (lev_all p).2.2.1 (s4 p hp) (lt_tr z (by decide)))) s1' (by omega) (by omega) (by omega)
        obtain ⟨c4, f1, f2, f3⟩ := put_c ht d2 (by omega) v
        have htake : F_X1_take n (c2.1 27 2) c2 = some (upI (upI c4 49 5 6) 49 9 (jb true)) := by
          rw [take_7 s8, hvv]
          obtain ⟨k0, e, hk0⟩ := behind_is (n := n) (v := v) (c := c2)
          rw [e, v1]
          unfold J_X1_takeBehindOne_24
          rw [if_neg (by decide), if_neg (by decide), if_neg v6]
          unfold J_X1_takeBehindOne_65
          rw [if_pos rfl, if_neg h9, if_pos s7]
          unfold F_X1_join
          rw [d1, Option.bind_some, f1, Option.bind_some, jl_1, Option.bind_some, jl_1]
        have hcw : wC t c2 (upI (upI c4 49 5 6) 49 9 (jb true)) := wC_49 ht (wC_49 ht (wC_tr (wC_p ht d3) (wC_p ht f3)) (by decide) _) (by decide) _
        obtain ⟨c5, m5, k1, k2, k3, k4, k5, k6, k7⟩ := advance hn ht (c1 := upI (upI c4 49 5 6) 49 9 (jb true)) (m1 := z) s11 s12 (by rw [hvv]; exact v5) hcw (by rw [upI_1, if_neg (by decide), upI_1, if_neg (by decide), f3.1 27 (by omega) (by omega) (by decide) (by decide), d3.1 27 (by omega) (by omega) (by decide) (by decide)]) wM_rfl rfl
        have hstp : stp n c2 c5 := by
          refine ⟨fun z => v5 (by rw [← hvv]; exact z.2), k7, by rw [k3.1 49 (by decide), upI_1, if_pos rfl, upd_ne (by decide), upI_1, if_pos rfl, upd_ne (by decide), f3.2.2.1 1 (by decide) (by decide), d3.2.2.1 1 (by decide) (by decide)], _, htake, ?_, k1⟩
          rw [upI_1, if_pos rfl, upd_ne (by decide), upI_1, if_pos rfl, upd_ne (by decide), f3.2.2.1 0 (by decide) (by decide), d3.2.2.1 0 (by decide) (by decide)]; exact s9
        have h49 : ∀ j : Nat, ¬ j = 5 → ¬ j = 6 → ¬ j = 7 → ¬ j = 9 → c5.1 49 j = c2.1 49 j := fun j j1 j2 j3 j4 => by
          rw [k3.1 49 (by decide), upI_1, if_pos rfl, upd_ne j4, upI_1, if_pos rfl, upd_ne j1, f3.2.2.1 j j2 j3, d3.2.2.1 j j2 j3]
        have hal : (app3 pl2 ws2).length = pl2.length + ws2.length := app3_len pl2 ws2
        rw [k2, Option.bind_some] at hasks
        obtain ⟨z1, z2, z3, z4, z5, z6⟩ := s2
        have hsum2 : sumR t (app3 pl2 ws2) [] (v :: (List.replicate k 13 ++ B0)) k 1 b false c5 (upI (upI m5 0 18 0) 0 20 (jb false)) := by
          refine ⟨?_, ?_, ⟨s3, trivial, fun z => (by cases z), by show 0 + k ≤ 8; omega, ?_⟩, ⟨?_, rfl, ?_, ?_, ?_⟩, k6, k5⟩
          · rw [app3_1]
            show cE t _ (v :: (List.replicate k 13 ++ B0)) (0 + k) c5
            rw [Nat.zero_add]
            exact cE_fr ht (cE_49 ht (cE_49 ht f2 (by decide) (by decide) (by decide) 6) (by decide) (by decide) (by decide) _) k3
          · show mE t _ [] (0 + k) _
            rw [Nat.zero_add]
            refine mE_reset ?_ ?_ ?_ ?_
            · rw [k4.2.1 15 (by decide) (by decide) (by decide) (by decide)]; exact z1
            · rw [k4.1 3 (by decide)]; exact z2
            · rw [k4.2.1 19 (by decide) (by decide) (by decide) (by decide)]; exact z5
            · rw [k4.2.1 13 (by decide) (by decide) (by decide) (by decide)]; exact z6
          · rw [hal]
            show ((pl2.length + ws2.length + 0 + ((List.replicate k 13 ++ B0).length + 1) : Nat) : Int) ≤ _
            omega
          · rw [h49 8 (by decide) (by decide) (by decide) (by decide), s7]; rfl
          · rw [k3.1 49 (by decide), upI_1, if_pos rfl, upd_ne (by decide), upI_1, if_pos rfl, upd_eq rfl]; rfl
          · rw [h49 0 (by decide) (by decide) (by decide) (by decide)]; exact s9
          · rw [k3.1 _ (by omega), upI_1, if_neg (by omega), upI_1, if_neg (by omega), f3.2.1 5 (by decide), d3.2.1 5 (by decide)]
            exact nmB_app pl2 _ s10
        have hok2 : baseOK (v :: (List.replicate k 13 ++ B0)) k 1 b := ⟨fun p r e => by obtain ⟨rfl, _⟩ := List.cons.inj e; rw [v1]; decide, by show (List.replicate k 13 ++ B0).length + 1 ≤ 12; omega, by omega, by omega, x2⟩
        obtain ⟨r2, b1, b2⟩ := summed_rel hn ht hok2 hsum2 (fun y => absurd (y v _ rfl) v2)
        rw [b1, Option.bind_some] at hasks
        have hr5 : rch n c c5 := rch_tr x3 (rch_tr g1 (rch_one hstp))
        have hw5 : wC t c c5 := wC_tr x5 (wC_tr g3 (wC_tr hcw (wC_fr ht k3)))
        have hm5 : wM t m m5 := wM_tr x6 (wM_tr g4 (wM_fr k4))
        rcases b2 with b2 | ⟨b0, c6, ws6, pl6, i1, i2, i3, i4, i5⟩
        · rw [if_neg b2.1] at hasks
          exact ⟨_, hasks, Or.inl (bothNo_tr hr5 hw5 hm5 b2)⟩
        · rw [if_pos b0] at hasks
          obtain ⟨y6, hy6⟩ : ∃ z, r2.2 = z := ⟨_, rfl⟩
          rw [hy6] at hasks i2 i4
          obtain ⟨t1, t2, ⟨t3, t4, t5, t6⟩, ⟨t7, t8, t9, t10⟩, t11, t12, t13⟩ := i2
          obtain ⟨e3, e4⟩ := notEnd t11 t12
          have hlv : (v :: (List.replicate k (13 : Int32) ++ B0)).length = k + B0.length + 1 := by show (List.replicate k 13 ++ B0).length + 1 = _; rw [hlr]
          rw [hlv] at t6
          have hal6 : (app3 pl6 ws6).length = pl6.length + ws6.length := app3_len pl6 ws6
          obtain ⟨m7, j1, j2, j3⟩ := emit_m ht t2 (by rw [w2_len]; omega) (Int32.ofNat o) 0
          rw [j1, Option.bind_some] at hasks
          obtain ⟨y19, hy19⟩ : ∃ u, (m7.1 0 19) - x = u := ⟨_, rfl⟩
          have hy19v : y19.toInt = ((0 : Nat) : Int) := by
            have : (m7.1 0 19).toInt = (k : Nat) := j2.2.2.2.2.1
            rw [← hy19, i32_sub (by omega) (by omega)]; omega
          rw [hy19, jl_1] at hasks
          have hm8 : mE t (w2 ((-v, Int32.ofNat o, 0) :: app3 pl6 ws6)) [] 0 (upI m7 0 19 y19) := by
            obtain ⟨p1, p2, p3, p4, p5, p6⟩ := j2
            exact ⟨p1, p2, p3, p4, hy19v, p6⟩
          obtain ⟨e9, n1, n2, n3⟩ := nots_m (n := n) hn ht x1 x2 hm8 (by show (app3 pl6 ws6).length + 1 + k ≤ 300; omega)
          rw [n1, Option.bind_some] at hasks
          have hp9 : pM t y6 e9.2 := pM_tr j3 (pM_tr (pM_0 pM_rfl (by decide) _) n3)
          refine ⟨(0, e9.2), hasks, Or.inr ⟨rfl, c6, ws6, pl6, v, Int32.ofNat o, k, rch_tr hr5 i1, ⟨t1, n2, ⟨?_, t4, t5, x2, v1, ?_⟩, ⟨t7, t8, t9, ?_, ?_⟩, tape_pM t11 hp9, tokA_pM t12 hp9, t13⟩, wC_tr hw5 i3, wM_tr hm5 (wM_tr i4 (wM_p hp9))⟩⟩
          · refine notsW_code (by omega) (by omega) k _ ⟨2, b, t3, by omega, ?_⟩
            exact Or.inr (Or.inr (Or.inr (Or.inr (Or.inl ⟨o, o1, o2, rfl, o4, rfl, rfl, rfl⟩))))
          · omega
          · exact notsW_nm k _ (nmB_skip (nmB_app pl6 _ t10) v4)
          · rw [i5, k3.1 49 (by decide), upI_1, if_pos rfl, upd_eq rfl]; exact jz_t
      · -- no comparing sign: both refuse
        have hnc : F_X9_compareOf z = -1 := by
          rw [hcmp]
          simp only [List.mem_cons, List.not_mem_nil, or_false, not_or] at hv
          obtain ⟨y1, y2, y3, y4, y5, y6⟩ := hv
          rw [if_neg y1, if_neg y2, if_neg y3, if_neg y4, if_neg y5, if_neg y6]
        rw [hnc, if_neg (by decide)] at hasks
        refine ⟨(1, z), hasks, Or.inl (bothNo_tr (rch_tr x3 g1) (wC_tr x5 g3) (wM_tr x6 g4) (no_here (f := 1) ht (show ¬ (1 : Int32) = 0 from by decide) s11 s12 (fun y => by rw [s8] at y; exact absurd y.1 (by decide)) s9 ?_))⟩
        refine behind_no s8 s13 (fun _ => by rw [s7]; exact i32_le.mpr (Int.le_refl _)) (fun y => ?_) (fun y => absurd y h9)
        exfalso
        apply hv
        rcases (lev_is (c2.1 27 2)).2.2.2.2 y with q | q | q | q | q | q
        · rw [q]; decide
        · rw [q]; decide
        · rw [q]; decide
        · rw [q]; decide
        · rw [q]; decide
        · rw [q]; decide
