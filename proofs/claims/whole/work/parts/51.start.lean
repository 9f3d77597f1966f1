-- ===== end of PART A; then your names; then what follows =====
/-! THE CLAIM OUT OF ONE WALK OF THE LAW'S BODY. Your part is whole_start (and what it stands on); all else here is the same for every law, but numbers. -/
def R_law : String := "RoadOfDoorsLaw"
def lw_P (b : Addr) (xs : List Int32) (args : Array Value) (s : State) : Prop := args = #[.ref b] ∧ s.IntsAt b xs ∧ xs.length ≤ 4097 ∧ (Jvm.Cond.and given_1 narrow_1).before args s = true
def lw_Q (_ : Array Value) (s : State) (o : Outcome) (t : State) : Prop := o = .returned (some (.int 1)) ∧ Framed s o t [] 600000 7302250
def lw_Z (below : List Frame) (a : Array Value) (s : State) : State → Prop := fun t => ∃ o, t.status = .running ∧ Ended t below o ∧ lw_Q a s o t
/-- the law's own end, with 1 on the stack, nothing written that was there before, its room as the claim has it -/
theorem lw_ret {p : Program} {l : Launch} {e : Env} {s : State} {m : MethodId} {below : List Frame} {meth : Method} {c : Code} {b : Nat} (hx : p.tables.exec = Jvm.exec) (hb : c.code = code) (hr : meth.sig.returnType = ret) (hlocks : meth.locks = false) {pc : Nat} {H : Heap} {ls : Array Slot} (hdg : decode code pc = .ok (.ireturn, 1)) : W p l e room_1 s m #[Value.ref b] below meth c H [] 600000 7302250 (lw_Z below #[Value.ref b] s) (F0 m pc ls [.int 1]) := by
  intro T hT X
  obtain ⟨fs, hret, hrun, hended, hW, hframe⟩ := X.leave (v := some (.int 1)) (hlocks := hlocks) (fun h => by rw [hr] at h; cases h)
  have hmeth' : T.vm.method? m = some meth := X.method'
  refine ⟨T.setFrames fs, ?_, .returned (some (.int 1)), hrun, hended, rfl, ⟨_, rfl⟩, hW, hframe⟩
  jvm_step X.here [X.here.top, hx, hb, hdg, hmeth', hr, ret, narrow_b1]
  (try refine ⟨rfl, ?_⟩); (try refine ⟨rfl, ?_⟩)
  first | (intro acts; rw [hret _ acts rfl rfl rfl]) | rw [hret _ _ rfl rfl rfl]
  exact Steps.refl _
/-- what holds at the law's entry: the machine, the code, the tables' words (any of lw_tbl by 'hts w (by decide +kernel)'), the script of L ints xs at the cell b, what the Statement gives of the start (any of its parts by flat_of_before) -/
def lw_At (p : Program) (s : State) (m : MethodId) (meth : Method) (c : Code) (b L : Nat) (xs : Nat → Int32) : Prop :=
  p.tables.exec = Jvm.exec ∧ c.code = code ∧ meth.sig.returnType = ret ∧ c.maxLocals = 4 ∧ s.vm.findClass R_law = some m.cls ∧ (∀ w ∈ lw_tbl, w.before #[Value.ref b] s = true) ∧ va_X b L xs s s.heap ∧ b < s.heap.size ∧ meth.locks = false ∧ (Jvm.Cond.and given_1 narrow_1).before #[Value.ref b] s = true
def jPure : Prop := ∃ n : Nat, ∀ nd : Nat, 1 ≤ nd → nd ≤ 8 → ∃ (p : jS) (Inv : jS → jS → Prop), F_X9_copy_1_2 n (sM0 nd) = some p ∧ Inv (sC0 nd) p ∧ ok_rain nd n Inv ∧ ok_mood nd n Inv ∧ ok_moods nd n Inv ∧ ok_hinge nd n Inv ∧ ok_feed nd n Inv ∧ ok_end nd n Inv ∧ ok_text nd n Inv ∧ ok_fault nd n Inv ∧ ok_keep nd n Inv ∧ ok_opens nd n Inv ∧ ok_sets nd n Inv ∧ ok_knock nd n Inv ∧ ok_later nd n Inv ∧ ok_played nd n Inv ∧ ok_undo nd n Inv ∧ ok_traveller nd n Inv ∧ ok_way nd n Inv ∧ ok_guest nd n Inv ∧ ok_clear nd n Inv ∧ ok_earns nd n Inv ∧ ok_even nd n Inv ∧ ok_rounds nd n Inv ∧ ok_seen nd n Inv ∧ ok_kept nd n Inv ∧ ok_image nd n Inv ∧ ok_back nd n Inv ∧ ok_about nd n Inv
theorem nest_tbl : ∀ w ∈ nestW, w ∈ lw_tbl ∧ w.onTables = true := by
  intro w hw
  unfold nestW at hw
  simp only [List.mem_cons, List.not_mem_nil, or_false] at hw
  rcases hw with rfl | rfl | rfl | rfl | rfl | rfl | rfl | rfl | rfl | rfl
  · exact ⟨(List.mem_append_right _ (List.mem_of_getElem? (i := 35) (by decide +kernel))), rfl⟩
  · exact ⟨(List.mem_append_right _ (List.mem_of_getElem? (i := 79) (by decide +kernel))), rfl⟩
  · exact ⟨(List.mem_append_right _ (List.mem_of_getElem? (i := 167) (by decide +kernel))), rfl⟩
  · exact ⟨(List.mem_append_right _ (List.mem_of_getElem? (i := 451) (by decide +kernel))), rfl⟩
  · exact ⟨(List.mem_append_right _ (List.mem_of_getElem? (i := 564) (by decide +kernel))), rfl⟩
  · exact ⟨(List.mem_append_right _ (List.mem_of_getElem? (i := 569) (by decide +kernel))), rfl⟩
  · exact ⟨(List.mem_append_right _ (List.mem_of_getElem? (i := 740) (by decide +kernel))), rfl⟩
  · exact ⟨(List.mem_append_right _ (List.mem_of_getElem? (i := 776) (by decide +kernel))), rfl⟩
  · exact ⟨(List.mem_append_right _ (List.mem_of_getElem? (i := 819) (by decide +kernel))), rfl⟩
  · exact ⟨(List.mem_append_right _ (List.mem_of_getElem? (i := 837) (by decide +kernel))), rfl⟩
theorem str_tbl : ∀ i : Nat, i < 15 → Cond.stringRef "RoadOfDoors$Tape" (jidx.getD i 0) (jtxt.getD i "") ∈ lw_tbl := by
  intro i hi
  match i, hi with
  | 0, _ => exact (List.mem_append_right _ (List.mem_of_getElem? (i := 460) (by decide +kernel)))
  | 1, _ => exact (List.mem_append_right _ (List.mem_of_getElem? (i := 513) (by decide +kernel)))
  | 2, _ => exact (List.mem_append_right _ (List.mem_of_getElem? (i := 514) (by decide +kernel)))
  | 3, _ => exact (List.mem_append_right _ (List.mem_of_getElem? (i := 515) (by decide +kernel)))
  | 4, _ => exact (List.mem_append_right _ (List.mem_of_getElem? (i := 516) (by decide +kernel)))
  | 5, _ => exact (List.mem_append_right _ (List.mem_of_getElem? (i := 517) (by decide +kernel)))
  | 6, _ => exact (List.mem_append_right _ (List.mem_of_getElem? (i := 518) (by decide +kernel)))
  | 7, _ => exact (List.mem_append_right _ (List.mem_of_getElem? (i := 519) (by decide +kernel)))
  | 8, _ => exact (List.mem_append_right _ (List.mem_of_getElem? (i := 524) (by decide +kernel)))
  | 9, _ => exact (List.mem_append_right _ (List.mem_of_getElem? (i := 525) (by decide +kernel)))
  | 10, _ => exact (List.mem_append_right _ (List.mem_of_getElem? (i := 526) (by decide +kernel)))
  | 11, _ => exact (List.mem_append_right _ (List.mem_of_getElem? (i := 527) (by decide +kernel)))
  | 12, _ => exact (List.mem_append_right _ (List.mem_of_getElem? (i := 528) (by decide +kernel)))
  | 13, _ => exact (List.mem_append_right _ (List.mem_of_getElem? (i := 529) (by decide +kernel)))
  | 14, _ => exact (List.mem_append_right _ (List.mem_of_getElem? (i := 530) (by decide +kernel)))
def jtm (i : Nat) : Term := .string "RoadOfDoors$Tape" (jidx.getD i 0)
def jflat : List Cond := flatC (Jvm.Cond.and given_1 narrow_1)
theorem sf_ex : ∀ i : Nat, i < 15 → Cond.exactly (jtm i) "java/lang/String" ∈ jflat := by decide +kernel
theorem sf_co : ∀ i : Nat, i < 15 → Cond.eq (.field (jtm i) "java/lang/String" "coder" "B") (.int 0) ∈ jflat := by decide +kernel
theorem sf_ar : ∀ i : Nat, i < 15 → Cond.arrayOf (.field (jtm i) "java/lang/String" "value" "[B") .byte ∈ jflat := by decide +kernel
theorem sf_le : ∀ i : Nat, i < 15 → Cond.eq (.length (.field (jtm i) "java/lang/String" "value" "[B")) (.int (Int32.ofNat (jlen.getD i 0))) ∈ jflat := by decide +kernel
theorem sf_el : ∀ i : Nat, i < 15 → ∀ j : Nat, j < jlen.getD i 0 → Cond.eq (.elem (.field (jtm i) "java/lang/String" "value" "[B") (.int (Int32.ofNat j))) (.int ((jbyt.getD i []).getD j 0)) ∈ jflat := by decide +kernel
theorem sf_n1 : ∀ j : Nat, j < 1 → Cond.not (Cond.eq (jtm j) (jtm 1)) ∈ jflat := by decide +kernel
theorem sf_n2 : ∀ j : Nat, j < 2 → Cond.not (Cond.eq (jtm j) (jtm 2)) ∈ jflat := by decide +kernel
theorem sf_n3 : ∀ j : Nat, j < 3 → Cond.not (Cond.eq (jtm j) (jtm 3)) ∈ jflat := by decide +kernel
theorem sf_n4 : ∀ j : Nat, j < 4 → Cond.not (Cond.eq (jtm j) (jtm 4)) ∈ jflat := by decide +kernel
theorem sf_n5 : ∀ j : Nat, j < 5 → Cond.not (Cond.eq (jtm j) (jtm 5)) ∈ jflat := by decide +kernel
theorem sf_n6 : ∀ j : Nat, j < 6 → Cond.not (Cond.eq (jtm j) (jtm 6)) ∈ jflat := by decide +kernel
theorem sf_n7 : ∀ j : Nat, j < 7 → Cond.not (Cond.eq (jtm j) (jtm 7)) ∈ jflat := by decide +kernel
theorem sf_n8 : ∀ j : Nat, j < 8 → Cond.not (Cond.eq (jtm j) (jtm 8)) ∈ jflat := by decide +kernel
theorem sf_n9 : ∀ j : Nat, j < 9 → Cond.not (Cond.eq (jtm j) (jtm 9)) ∈ jflat := by decide +kernel
theorem sf_n10 : ∀ j : Nat, j < 10 → Cond.not (Cond.eq (jtm j) (jtm 10)) ∈ jflat := by decide +kernel
theorem sf_n11 : ∀ j : Nat, j < 11 → Cond.not (Cond.eq (jtm j) (jtm 11)) ∈ jflat := by decide +kernel
theorem sf_n12 : ∀ j : Nat, j < 12 → Cond.not (Cond.eq (jtm j) (jtm 12)) ∈ jflat := by decide +kernel
theorem sf_n13 : ∀ j : Nat, j < 13 → Cond.not (Cond.eq (jtm j) (jtm 13)) ∈ jflat := by decide +kernel
theorem sf_n14 : ∀ j : Nat, j < 14 → Cond.not (Cond.eq (jtm j) (jtm 14)) ∈ jflat := by decide +kernel
theorem sf_lt : ∀ i : Nat, i < 15 → ∀ j : Nat, j < i → Cond.not (Cond.eq (jtm j) (jtm i)) ∈ jflat := by
  intro i hi
  match i, hi with
  | 0, _ => exact fun j h => absurd h (Nat.not_lt_zero j)
  | 1, _ => exact sf_n1
  | 2, _ => exact sf_n2
  | 3, _ => exact sf_n3
  | 4, _ => exact sf_n4
  | 5, _ => exact sf_n5
  | 6, _ => exact sf_n6
  | 7, _ => exact sf_n7
  | 8, _ => exact sf_n8
  | 9, _ => exact sf_n9
  | 10, _ => exact sf_n10
  | 11, _ => exact sf_n11
  | 12, _ => exact sf_n12
  | 13, _ => exact sf_n13
  | 14, _ => exact sf_n14
theorem sf_ne : ∀ i : Nat, i < 15 → ∀ j : Nat, j < 15 → i ≠ j → Cond.not (Cond.eq (jtm i) (jtm j)) ∈ jflat ∨ Cond.not (Cond.eq (jtm j) (jtm i)) ∈ jflat := by
  intro i hi j hj h
  rcases Nat.lt_or_gt_of_ne h with q | q
  · exact Or.inl (sf_lt j hj i q)
  · exact Or.inr (sf_lt i hi j q)
theorem sf_cs : Cond.eq (.static "java/lang/String" "COMPACT_STRINGS" "Z") (.int 1) ∈ jflat := by decide +kernel
theorem sf_si : Cond.isRef (.static "jdk/internal/util/Preconditions" "SIOOBE_FORMATTER" "Ljava/util/function/BiFunction;") ∈ jflat := by decide +kernel
theorem sf_ln : ∀ i : Nat, i < 15 → jlen.getD i 0 < 2 ^ 31 := by decide +kernel
set_option maxHeartbeats 4000000 in
set_option maxRecDepth 100000 in
theorem whole_start0 (hpure : jPure) {p : Program} {e : Env} {s : State} {m : MethodId} {below : List Frame} {meth : Method} {c : Code} (l : Launch) {b L : Nat} {xs : Nat → Int32} (hL : L ≤ 4097) (C0 : lw_At p s m meth c b L xs) : W p l e room_1 s m #[Value.ref b] below meth c s.heap [] 0 0 (lw_Z below #[Value.ref b] s) (entryFrame m ([Value.ref b] : List Value).toArray 4) := by
  obtain ⟨hx, hb, hr, hml, hown, hts, hX, hbl, hlocks, hgv⟩ := id C0
  have htW := tW_hts hts
  have hs := flat_of_before _ hgv
  have hA : ∀ q : Nat, s.heap.size ≤ q → (fun q : Nat => s.heap.size ≤ q) q := fun _ h => h
  have hnA : ∀ a : Nat, a < s.heap.size → ¬ (fun q : Nat => s.heap.size ≤ q) a := fun a h => Nat.not_le.mpr h
  obtain ⟨c0, i0, hKn0⟩ := u_known (C := RX0) (T := TX0) (N := 8) (n := 8) htW inX0 (htW _ (tW_t (w := Cond.instantiable "RoadOfDoors$Earnings" 8) (i := 311) (by decide +kernel) rfl))
  obtain ⟨c1, i1, hKn1⟩ := u_known (C := RX1) (T := TX1) (N := 10) (n := 10) htW inX1 (htW _ (tW_t (w := Cond.instantiable "RoadOfDoors$Reader" 10) (i := 272) (by decide +kernel) rfl))
  obtain ⟨c2, i2, hKn2⟩ := u_known (C := RX2) (T := TX2) (N := 10) (n := 10) htW inX2 (htW _ (tW_t (w := Cond.instantiable "RoadOfDoors$Road" 10) (i := 72) (by decide +kernel) rfl))
  obtain ⟨c3, i3, hKn3⟩ := u_known (C := RX3) (T := TX3) (N := 7) (n := 7) htW inX3 (htW _ (tW_t (w := Cond.instantiable "RoadOfDoors$Rules" 7) (i := 196) (by decide +kernel) rfl))
  obtain ⟨c4, i4, hKn4⟩ := u_known (C := RX4) (T := TX4) (N := 6) (n := 6) htW inX4 (htW _ (tW_t (w := Cond.instantiable "RoadOfDoors$Tape" 6) (i := 166) (by decide +kernel) rfl))
  obtain ⟨c5, i5, hKn5⟩ := u_known (C := RX5) (T := TX5) (N := 7) (n := 7) htW inX5 (htW _ (tW_t (w := Cond.instantiable "RoadOfDoors$Text" 7) (i := 34) (by decide +kernel) rfl))
  obtain ⟨c6, i6, hKn6⟩ := u_known (C := RX6) (T := TX6) (N := 8) (n := 8) htW inX6 (htW _ (tW_t (w := Cond.instantiable "RoadOfDoors$Traveller" 8) (i := 78) (by decide +kernel) rfl))
  obtain ⟨c7, i7, hKn7⟩ := u_known (C := RX7) (T := TX7) (N := 12) (n := 12) htW inX7 (htW _ (tW_t (w := Cond.instantiable "RoadOfDoors$Ways" 12) (i := 225) (by decide +kernel) rfl))
  obtain ⟨c8, i8, hKn8⟩ := u_known (C := RX8) (T := TX8) (N := 9) (n := 9) htW inX8 (htW _ (tW_t (w := Cond.instantiable "RoadOfDoors" 9) (i := 19) (by decide +kernel) rfl))
  obtain ⟨c9, i9, hKn9⟩ := u_known (C := RX9) (T := TX9) (N := 32) (n := 32) htW inX9 (htW _ (tW_t (w := Cond.instantiable "RoadOfDoorsModel" 32) (i := 914) (by decide +kernel) rfl))
  have hcl : ∀ k : Nat, ∃ ci : ClassId × (Nat → Nat), ∀ q : vw_C, classes[k]? = some q → u_Kn s q.1 q.2.1 q.2.2 ci.1 ci.2 := by
    intro k
    match k with
    | 0 => exact ⟨(c0, i0), fun q hq => by cases hq; exact hKn0⟩
    | 1 => exact ⟨(c1, i1), fun q hq => by cases hq; exact hKn1⟩
    | 2 => exact ⟨(c2, i2), fun q hq => by cases hq; exact hKn2⟩
    | 3 => exact ⟨(c3, i3), fun q hq => by cases hq; exact hKn3⟩
    | 4 => exact ⟨(c4, i4), fun q hq => by cases hq; exact hKn4⟩
    | 5 => exact ⟨(c5, i5), fun q hq => by cases hq; exact hKn5⟩
    | 6 => exact ⟨(c6, i6), fun q hq => by cases hq; exact hKn6⟩
    | 7 => exact ⟨(c7, i7), fun q hq => by cases hq; exact hKn7⟩
    | 8 => exact ⟨(c8, i8), fun q hq => by cases hq; exact hKn8⟩
    | 9 => exact ⟨(c9, i9), fun q hq => by cases hq; exact hKn9⟩
    | k + 10 => exact ⟨(c0, i0), fun q hq => by simp [classes] at hq⟩
  obtain ⟨f, hf⟩ := Classical.axiomOfChoice hcl
  obtain ⟨g0, kg0, cg0, a0, b0, d0⟩ := Cond.arrayClass_spec (hts (Cond.arrayClass .int) (List.mem_append_right _ (List.mem_of_getElem? (i := 70) (by decide +kernel))))
  obtain ⟨g1, kg1, cg1, a1, b1, d1⟩ := Cond.arrayClass_spec (hts (Cond.arrayClass .long) (List.mem_append_right _ (List.mem_of_getElem? (i := 223) (by decide +kernel))))
  obtain ⟨g2, kg2, cg2, a2, b2, d2⟩ := Cond.arrayClass_spec (hts (Cond.arrayClass .boolean) (List.mem_append_right _ (List.mem_of_getElem? (i := 115) (by decide +kernel))))
  obtain ⟨g3, kg3, cg3, a3, b3, d3⟩ := Cond.arrayClass_spec (hts (Cond.arrayClass .byte) (List.mem_append_right _ (List.mem_of_getElem? (i := 194) (by decide +kernel))))
  have hAO : va_AO "RoadOfDoors$Text" s := va_AO.of (hts (Cond.arrayOver (.object "RoadOfDoors$Text")) (List.mem_append_right _ (List.mem_of_getElem? (i := 33) (by decide +kernel))))
  obtain ⟨comp, g4, kg4, e1, e2, e3, e4, e5⟩ := Cond.arrayOver_spec hAO
  obtain ⟨G, hG⟩ : ∃ G : Nat → ClassId, G = fun k => match k with | 0 => g0 | 1 => g1 | 2 => g2 | 3 => g3 | _ => g4 := ⟨_, rfl⟩
  have hK : va_K ((fun k => (f k).1, fun k => (f k).2)) classes (jtys G) s := by
    refine ⟨fun k q hq => hf k q hq, fun k q hq => ?_⟩
    subst hG
    match k, hq with
    | 0, hq => cases hq; exact ⟨fun N z => ⟨(fun k h => by cases h), kg0, b0, cg0, d0⟩, a0⟩
    | 1, hq => cases hq; exact ⟨fun N z => ⟨(fun k h => by cases h), kg1, b1, cg1, d1⟩, a1⟩
    | 2, hq => cases hq; exact ⟨fun N z => ⟨(fun k h => by cases h), kg2, b2, cg2, d2⟩, a2⟩
    | 3, hq => cases hq; exact ⟨fun N z => ⟨(fun k h => by cases h), kg3, b3, cg3, d3⟩, a3⟩
    | 4, hq => cases hq; exact ⟨fun N z => ⟨(fun k h => by cases h), kg4, e3, comp, e4⟩, kg4, comp, e3, e4, e1, e5⟩
    | k + 5, hq => simp [jtys] at hq
  obtain ⟨adK, adV, hSt, hEv⟩ := vk_Sof (tm := jtm) (len := jlen) (byt := jbyt) (A := fun q : Nat => s.heap.size ≤ q) sf_ln (fun i hi => hs _ (sf_ex i hi)) (fun i hi => hs _ (sf_co i hi)) (fun i hi => hs _ (sf_ar i hi)) (fun i hi => hs _ (sf_le i hi)) (fun i hi j hj => hs _ (sf_el i hi j hj)) (fun i j hi hj hij => (sf_ne i hi j hj hij).imp (hs _) (hs _)) hnA
  obtain ⟨KV, hKV⟩ : ∃ KV : jV, KV = ((adK, adV), (b, L, xs)) := ⟨_, rfl⟩
  have hE : jE KV (fun q : Nat => s.heap.size ≤ q) s := by
    subst hKV
    refine ⟨fun w hw => va_Nw.of (nest_tbl w hw).2 (hts w (nest_tbl w hw).1), hSt, fun i hi => vk_R.of (hts _ (str_tbl i hi)) (hEv i hi), ?_, ?_, hX, hbl, hnA b hbl, hAO⟩
    · exact va_Zof (hts (Cond.laysStatic "java/lang/String" "COMPACT_STRINGS" "Z") (List.mem_append_right _ (List.mem_of_getElem? (i := 474) (by decide +kernel)))) (hts (Cond.initialized "java/lang/String") (List.mem_append_right _ (List.mem_of_getElem? (i := 12) (by decide +kernel)))) (va_eqi (hs _ sf_cs)) hnA
    · exact va_Zqof (hts (Cond.laysStatic "jdk/internal/util/Preconditions" "SIOOBE_FORMATTER" "Ljava/util/function/BiFunction;") (List.mem_append_right _ (List.mem_of_getElem? (i := 490) (by decide +kernel)))) (hts (Cond.initialized "jdk/internal/util/Preconditions") (List.mem_append_right _ (List.mem_of_getElem? (i := 14) (by decide +kernel)))) (hs _ sf_si) hnA
  obtain ⟨n, hn⟩ := hpure
  obtain ⟨pm, Inv, hp, hI, h_rain, h_mood, h_moods, h_hinge, h_feed, h_end, h_text, h_fault, h_keep, h_opens, h_sets, h_knock, h_later, h_played, h_undo, h_traveller, h_way, h_guest, h_clear, h_earns, h_even, h_rounds, h_seen, h_kept, h_image, h_back, h_about⟩ := hn (jnd (jcell KV)) (jnd_in _).1 (jnd_in _).2
  obtain ⟨Kx, hKx⟩ : ∃ K : Nat → Nat → va_W → Nat → List (Nat × Value) → List Value → Prop, K = (fun cells slots ws pc L st => ∀ (H : Heap) (locs : List Loc) (ls : Array Slot), va_P ((fun k => (f k).1, fun k => (f k).2)) classes ws H → va_D (fun q : Nat => s.heap.size ≤ q) ws → va_S (fun q : Nat => s.heap.size ≤ q) s.heap H locs → lv_has ls 4 L → W p l e room_1 s m #[Value.ref b] below meth c H locs cells slots (MQ below (fun _ _ o _ => o = .returned (some (.int 1))) #[Value.ref b] s 600000 7302250 (fun q : Nat => s.heap.size ≤ q)) (F0 m pc ls st)) := ⟨_, rfl⟩
  have C : jK l ((fun k => (f k).1, fun k => (f k).2)) G KV RL code 4 (some .boolean) room_1 600000 7302250 meth.name (fun v _ => v = some (.int 1)) Kx :=
    ⟨p, e, s, m, #[Value.ref b], below, meth, c, _, _, hx, hb, hml, hown, htW, hr, hlocks, rfl, hK, hE, hA, fun v ws H locs t _ _ _ hpp _ _ => by rw [hpp], hKx⟩
  have hLK : KV.2.2.1 ≤ 4097 := by rw [hKV]; exact hL
  have hbK : KV.2.1 = b := by rw [hKV]
  have hbody := law_body C (Inv := Inv) rfl hLK hp hI h_rain h_mood h_moods h_hinge h_feed h_end h_text h_fault h_keep h_opens h_sets h_knock h_later h_played h_undo h_traveller h_way h_guest h_clear h_earns h_even h_rounds h_seen h_kept h_image h_back h_about
  rw [hbK, hKx] at hbody
  have hP : va_P ((fun k => (f k).1, fun k => (f k).2)) classes [] s.heap := fun k q h => by simp at h
  have hD : va_D (fun q : Nat => s.heap.size ≤ q) [] := ⟨fun i j p q h => by simp at h, fun k q h => by simp at h⟩
  have hl := lv_entry ([.ref b]) (n := 4) (Nat.le_of_ble_eq_true rfl)
  have hw := hbody s.heap [] _ hP hD va_S.rf hl
  rw [lg_entry_eq]
  intro T hT X
  obtain ⟨t, a1, o, q1, q2, q3, Lx, q4, q5⟩ := hw T hT X
  refine ⟨t, a1, o, q1, q2, q3, q4.1, q4.2.1, ?_⟩
  exact q4.2.2.weaken (fun y hy hlt => absurd hlt (Nat.not_lt.mpr (q5 y hy))) (Nat.le_refl _) (Nat.le_refl _)
