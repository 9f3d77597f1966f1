section JA
variable {l : Launch} {D : va_G} {G : Nat → ClassId} {KV : jV} {own : String} {cc : ByteArray} {nL : Nat} {ret : Option FieldType} {R : Room} {mc ms : Nat} {nm : String} {PP : Option Value → va_W → Prop} {K : Nat → Nat → va_W → Nat → List (Nat × Value) → List Value → Prop}
variable {cs sl pc : Nat} {ws w1 w2 : va_W} {L : List (Nat × Value)} {rest : List Value}
theorem j_new (C : jK l D G KV own cc nL ret R mc ms nm PP K) {Cn : String} {T : u_T} {N ci idx : Nat} (hdg : decode cc pc = .ok (.new idx, 3)) (hin : ∀ w ∈ u_ws Cn T N, w ∈ tW) (ty0 : Nat → FieldType) (hty : ∀ k, k < N → parseFieldDescriptor (T k).2.2.1 = some (ty0 k)) (hcl : Cond.classLink own idx Cn ∈ tW) (hinst : Cond.instantiable Cn N ∈ tW) (hini : Cond.initialized Cn ∈ tW) (hc : classes[ci]? = some (Cn, T, N)) {fs : List Value} (hfs : ∀ j, j < N → defaultValue (ty0 j) = vp_V fs j) (hcells : cs + 1 ≤ R.cells) (hslots : sl + N ≤ R.slots) (k : ∀ q, K (cs + 1) (sl + N) (ws ++ [(q, .inr (ci, fs))]) (pc + 3) L (.ref q :: rest)) : K cs sl ws pc L rest := by
  obtain ⟨p, e, s, m, args, below, meth, c, A, Qc, hx, hb, hml, hown, hts, hr, hlk, hnm, hK, hE, hA, hend, rfl⟩ := C
  exact fun H locs ls hP hD hS hL => va_new hx hb hts hin ty0 hty hown (hts _ hcl) (hts _ hinst) (hts _ hini) hK hP hD hS hA hc hfs hcells hslots hdg (fun q H1 hP hD hS => k q H1 locs ls hP hD hS hL)
theorem j_newa (C : jK l D G KV own cc nL ret R mc ms nm PP K) {atype : ArrayType} {t : Nat} {ty : FieldType} (hdg : decode cc pc = .ok (.newarray atype, 2)) (hty : newarray.typeOf atype = ty) (ht : (jtys G)[t]? = some (G t, ty)) (hprim : ∀ (U : State) (c : ClassId), va_RA U c ty → U.vm.findClass ("[" ++ ty.toString) = some c) (harr : Cond.arrayClass ty ∈ tW) {n : Int32} {N' : Nat} {a0 : vp_A} (ha : ∀ cA : ClassId, vp_cell cA a0 = arrV cA N' (fun _ => defaultValue ty)) (hn : ¬ n < 0) (hN : n.toNatClampNeg = N') (hbytes : N' * componentBytes ty ≤ 536870912) (hcells : cs + 1 ≤ R.cells) (hslots : sl + N' ≤ R.slots) (k : ∀ q, K (cs + 1) (sl + N') (ws ++ [(q, .inl (G t, a0))]) (pc + 2) L (.ref q :: rest)) : K cs sl ws pc L (.int n :: rest) := by
  obtain ⟨p, e, s, m, args, below, meth, c, A, Qc, hx, hb, hml, hown, hts, hr, hlk, hnm, hK, hE, hA, hend, rfl⟩ := C
  intro H locs ls hP hD hS hL
  refine va_newa hx hb (by rw [hty]; exact hts _ harr) hty hK hP hD hS hA ha hn hN hbytes hcells hslots hdg (fun q cA H1 hK2 hP hD hS => ?_)
  have h1 := hprim _ _ (hK2.2 5 (cA, ty) rfl).2
  have h2 := hprim _ _ (hK.2 t (G t, ty) ht).2
  have e : cA = G t := Option.some.inj (h1.symm.trans h2)
  subst e
  exact k q H1 locs ls hP hD hS hL
theorem j_newq (C : jK l D G KV own cc nL ret R mc ms nm PP K) {idx : Nat} (hdg : decode cc pc = .ok (.anewarray idx, 3)) (hcl : Cond.classLink own idx "RoadOfDoors$Text" ∈ tW) {n : Int32} {N' : Nat} (hn : ¬ n < 0) (hN : n.toNatClampNeg = N') (hbytes : N' * 4 ≤ 536870912) (hcells : cs + 1 ≤ R.cells) (hslots : sl + N' ≤ R.slots) (k : ∀ q, K (cs + 1) (sl + N') (ws ++ [(q, .inl (G 4, N', .inr (.inr (.inr (.inr (fun _ => none))))))]) (pc + 3) L (.ref q :: rest)) : K cs sl ws pc L (.int n :: rest) := by
  obtain ⟨p, e, s, m, args, below, meth, c, A, Qc, hx, hb, hml, hown, hts, hr, hlk, hnm, hK, hE, hA, hend, rfl⟩ := C
  intro H locs ls hP hD hS hL
  refine va_newq hx hb hown (hts _ hcl) hE.2.2.2.2.2.2.2.2 hK hP hD hS hA hn hN hbytes hcells hslots hdg (fun q cA H1 hK2 hP hD hS => ?_)
  obtain ⟨kA, comp, -, -, -, h1⟩ := (hK2.2 5 (cA, .object "RoadOfDoors$Text") rfl).2
  obtain ⟨kA2, comp2, -, -, -, h2⟩ := (hK.2 4 (G 4, .object "RoadOfDoors$Text") rfl).2
  have e : cA = G 4 := Option.some.inj (h1.symm.trans h2)
  subst e
  exact k q H1 locs ls hP hD hS hL
theorem j_aast (C : jK l D G KV own cc nL ret R mc ms nm PP K) {a n v : Nat} {vs : List Value} {f : Nat → Option Nat} {i : Int32} (hdg : decode cc pc = .ok (.aastore, 1)) (q0 qk : Nat) (he : ws[q0]? = some (a, .inl (G 4, n, .inr (.inr (.inr (.inr f)))))) (hv : ws[qk]? = some (v, .inr (5, vs))) (hi : vp_in i n) (k : K cs sl (ws.set q0 (a, .inl (G 4, n, .inr (.inr (.inr (.inr (va_up f i.toNatClampNeg (some v)))))))) (pc + 1) L rest) : K cs sl ws pc L (.ref v :: .int i :: .ref a :: rest) := by
  obtain ⟨p, e, s, m, args, below, meth, c, A, Qc, hx, hb, hml, hown, hts, hr, hlk, hnm, hK, hE, hA, hend, rfl⟩ := C
  exact fun H locs ls hP hD hS hL => va_astq hx hb hK hP hD hS q0 4 qk 5 (r := (RX5, TX5, 7)) he rfl hv rfl hi hdg (fun H1 locs1 hP hD hS => k H1 locs1 ls hP hD hS hL)
/-- behind a call over a part of the world: the other part is as it was -/
theorem jr_part {A : Nat → Prop} {wa wc u : va_W} {H H1 : Heap} (hPa : va_P D classes wa H) (hPc : va_P D classes wc H) (hDa : va_D A wa) (hap : ∀ (i j : Nat) (p q : Nat × va_E), wa[i]? = some p → wc[j]? = some q → p.1 ≠ q.1) (hk : ∀ q : Nat, q < H.size → ¬ va_A wc H.size q → H1[q]? = H[q]?) (hu : va_P D classes u H1) (hDu : va_D (va_A wc H.size) u) (hF : ∀ q, va_A wc H.size q → A q) :
    va_P D classes wa H1 ∧ va_D A u ∧ ∀ (i j : Nat) (p q : Nat × va_E), wa[i]? = some p → u[j]? = some q → p.1 ≠ q.1 := by
  have out : ∀ (i : Nat) (p : Nat × va_E), wa[i]? = some p → p.1 < H.size ∧ ¬ va_A wc H.size p.1 := by
    intro i p hp
    have hl := (hPa i p hp).lt
    refine ⟨hl, fun h => ?_⟩
    rcases h with ⟨j, e, h⟩ | h
    · exact hap i j p (p.1, e) hp h rfl
    · omega
  refine ⟨fun i p hp => (hPa i p hp).kept (hk p.1 (out i p hp).1 (out i p hp).2), hDu.weaken (fun _ q _ h => hF q.1 h), fun i j p q hp hq hpq => ?_⟩
  exact (out i p hp).2 (by rw [hpq]; exact hDu.2 j q hq)
theorem jr_split1 {A : Nat → Prop} {H : Heap} (hP : va_P D classes (w1 ++ w2) H) (hD : va_D A (w1 ++ w2)) : va_P D classes w1 H ∧ va_P D classes w2 H ∧ va_D A w1 ∧ va_D A w2 ∧ ∀ (i j : Nat) (p q : Nat × va_E), w1[i]? = some p → w2[j]? = some q → p.1 ≠ q.1 := by
  have l1 : ∀ (i : Nat) (p : Nat × va_E), w1[i]? = some p → (w1 ++ w2)[i]? = some p := fun i p h => by
    rw [List.getElem?_append_left (List.getElem?_eq_some_iff.mp h).1]; exact h
  have l2 : ∀ (i : Nat) (p : Nat × va_E), w2[i]? = some p → (w1 ++ w2)[w1.length + i]? = some p := fun i p h => by
    rw [List.getElem?_append_right (by omega), Nat.add_sub_cancel_left]; exact h
  refine ⟨fun i p h => hP i p (l1 i p h), fun i p h => hP _ p (l2 i p h), ⟨fun i j p q hp hq e => hD.1 i j p q (l1 i p hp) (l1 j q hq) e, fun i p h => hD.2 i p (l1 i p h)⟩, ⟨fun i j p q hp hq e => ?_, fun i p h => hD.2 _ p (l2 i p h)⟩, fun i j p q hp hq e => ?_⟩
  · have := hD.1 _ _ p q (l2 i p hp) (l2 j q hq) e
    omega
  · have h1 := hD.1 _ _ p q (l1 i p hp) (l2 j q hq) e
    have h2 := (List.getElem?_eq_some_iff.mp hp).1
    omega
/-- the run of a call over a part of the world -/
theorem jr_callF {p : Program} {e : Env} {s : State} {m : MethodId} {args : Array Value} {below : List Frame} {meth : Method} {c : Code} {A : Nat → Prop} {Q : State → Prop} {H : Heap} {locs : List Loc} {mc' ms' sz : Nat} {PP' : Option Value → va_W → Prop} {st0 : List Value} {ls : Array Slot} {av : Array Value} {wa wc : va_W}
    (hsz : sz = H.size) (hr : va_Run p l e R s m args below meth c H locs cs sl mc' ms' (F0 m pc ls st0) rest (jQ D G PP' (va_A wc sz) av) (va_A wc sz)) (hS : va_S A s.heap H locs) (hA : ∀ q, va_A wc sz q → A q)
    (hPa : va_P D classes wa H) (hPc : va_P D classes wc H) (hDa : va_D A wa) (hap : ∀ (i j : Nat) (p q : Nat × va_E), wa[i]? = some p → wc[j]? = some q → p.1 ≠ q.1)
    (kk : ∀ (v : Option Value) (u : va_W) (H1 : Heap) (locs1 : List Loc), PP' v u → va_P D classes wa H1 → va_P D classes u H1 → va_D A u → (∀ (i j : Nat) (p q : Nat × va_E), wa[i]? = some p → u[j]? = some q → p.1 ≠ q.1) → va_S A s.heap H1 locs1 → W p l e R s m args below meth c H1 locs1 (cs + mc') (sl + ms') Q (F0 m (pc + 3) ls (v.toList ++ rest))) : W p l e R s m args below meth c H locs cs sl Q (F0 m pc ls st0) := by
  intro T hT X
  subst hsz
  obtain ⟨v, st₀, t, T', L, h0, X', hL, e1, e2, ⟨⟨v2, u, hv, hp, hb1, hb2, hb3⟩, hz, hk⟩, st⟩ := hr T hT X
  cases hv
  rw [h0] at hz hk
  obtain ⟨g1, g2, g3⟩ := jr_part hPa hPc hDa hap hk hb1 hb3 hA
  obtain ⟨t2, a1, b1⟩ := kk v u T'.heap (locs ++ L) hp (by rw [e1]; exact g1) (by rw [e1]; exact hb1) g2 g3
    ⟨Nat.le_trans hS.1 (by rw [e1]; exact hz), fun q h1 h2 => by rw [e1, hk q (Nat.lt_of_lt_of_le h1 hS.1) (fun z => h2 (hA q z))]; exact hS.2.1 q h1 h2, fun q hq => by
      rcases List.mem_append.mp hq with h | h
      · exact hS.2.2 q h
      · exact hA _ (hL q h)⟩ T' rfl X'
  exact ⟨t2, st t2 a1, b1⟩
theorem j_fV1 (C : jK l D G KV own cc nL ret R mc ms nm PP K) {y : MethodName} {b : ByteArray} {nL' : Nat} {ret' : Option FieldType} {rm : Room} {av st : List Value} {mc' ms' idx a : Nat} {PP' : Option Value → va_W → Prop} {q0 ci : Nat} {fs : List Value} {r : vw_C} (hdg : decode cc pc = .ok (.invokevirtual idx, 3)) (hM : jM l D G KV y b nL' ret' rm (.ref a :: av) w1 mc' ms' PP') (hcode : Cond.code y b nL' ret' ∈ tW) (hlink : Cond.methodLink own idx y ∈ tW) (hin : Cond.instanceMethod y ∈ tW) (hini : Cond.initialized y.cls ∈ tW) (hsel : Cond.selects y.cls y y ∈ tW) (he : w1[q0]? = some (a, .inr (ci, fs))) (hc : classes[ci]? = some r) (hrc : r.1 = y.cls) (hy : jyes y av.length) (hf : jfit R rm nL' mc' ms' cs sl) (hw : (rest.map fun v => v.category).sum ≤ 8) (hs : st = av.reverse ++ .ref a :: rest)
    (k : ∀ (v : Option Value) (u : va_W), PP' v u → K (cs + mc') (sl + ms') (u ++ w2) (pc + 3) L (v.toList ++ rest)) : K cs sl (w1 ++ w2) pc L st := by
  obtain ⟨p, e, s, m, args, below, meth, c, A, Qc, hx, hb, hml, hown, hts, hr, hlk, hnm, hK, hE, hA, hend, rfl⟩ := C
  intro H locs ls hP hD hS hL
  obtain ⟨hP1, hP2, hD1, hD2, hap⟩ := jr_split1 hP hD
  have hrecv := va_recv hK hP1 hc he
  rw [hrc] at hrecv
  refine jr_callF (sz := H.size) (wa := w2) (wc := w1) (av := (Value.ref a :: av).toArray) rfl (va_runV (As := av) (b := a) (C := y.cls) (rest := rest) (n := av.length) ⟨hx, hb, hml, hown, hts⟩ (hM H.size) ⟨callB_of av.length hts (tW_goodIn hcode) rfl hf.2.1.1 hf.2.1.2 (hts _ hini) (hts _ hlink) hy hf.1, hts _ hin, hts _ hsel⟩ ⟨jr_blind, hrecv, fun U hU hW => jr_pre hK hE hA hP1 hD1 hS hU hW⟩ rfl rfl hL.1 hs (lv_room hw) hdg hf.2.2) hS (jr_A hD1 hS hA) hP2 hP1 hD2 (fun i j p q h1 h2 e => hap j i q p h2 h1 e.symm) (fun v u H1 locs1 hp hPa hPu hDu ha2 hS => k v u hp H1 locs1 ls (hPu.app hPa) (va_D.app hDu hD2 (fun i j p q h1 h2 e => ha2 j i q p h2 h1 e.symm)) hS hL)
theorem j_fV2 (C : jK l D G KV own cc nL ret R mc ms nm PP K) {y : MethodName} {b : ByteArray} {nL' : Nat} {ret' : Option FieldType} {rm : Room} {av st : List Value} {mc' ms' idx a : Nat} {PP' : Option Value → va_W → Prop} {q0 ci : Nat} {fs : List Value} {r : vw_C} (hdg : decode cc pc = .ok (.invokevirtual idx, 3)) (hM : jM l D G KV y b nL' ret' rm (.ref a :: av) w2 mc' ms' PP') (hcode : Cond.code y b nL' ret' ∈ tW) (hlink : Cond.methodLink own idx y ∈ tW) (hin : Cond.instanceMethod y ∈ tW) (hini : Cond.initialized y.cls ∈ tW) (hsel : Cond.selects y.cls y y ∈ tW) (he : w2[q0]? = some (a, .inr (ci, fs))) (hc : classes[ci]? = some r) (hrc : r.1 = y.cls) (hy : jyes y av.length) (hf : jfit R rm nL' mc' ms' cs sl) (hw : (rest.map fun v => v.category).sum ≤ 8) (hs : st = av.reverse ++ .ref a :: rest)
    (k : ∀ (v : Option Value) (u : va_W), PP' v u → K (cs + mc') (sl + ms') (w1 ++ u) (pc + 3) L (v.toList ++ rest)) : K cs sl (w1 ++ w2) pc L st := by
  obtain ⟨p, e, s, m, args, below, meth, c, A, Qc, hx, hb, hml, hown, hts, hr, hlk, hnm, hK, hE, hA, hend, rfl⟩ := C
  intro H locs ls hP hD hS hL
  obtain ⟨hP1, hP2, hD1, hD2, hap⟩ := jr_split1 hP hD
  have hrecv := va_recv hK hP2 hc he
  rw [hrc] at hrecv
  refine jr_callF (sz := H.size) (wa := w1) (wc := w2) (av := (Value.ref a :: av).toArray) rfl (va_runV (As := av) (b := a) (C := y.cls) (rest := rest) (n := av.length) ⟨hx, hb, hml, hown, hts⟩ (hM H.size) ⟨callB_of av.length hts (tW_goodIn hcode) rfl hf.2.1.1 hf.2.1.2 (hts _ hini) (hts _ hlink) hy hf.1, hts _ hin, hts _ hsel⟩ ⟨jr_blind, hrecv, fun U hU hW => jr_pre hK hE hA hP2 hD2 hS hU hW⟩ rfl rfl hL.1 hs (lv_room hw) hdg hf.2.2) hS (jr_A hD2 hS hA) hP1 hP2 hD1 hap (fun v u H1 locs1 hp hPa hPu hDu ha2 hS => k v u hp H1 locs1 ls (hPa.app hPu) (va_D.app hD1 hDu ha2) hS hL)
theorem j_fI2 (C : jK l D G KV own cc nL ret R mc ms nm PP K) {y : MethodName} {b : ByteArray} {nL' : Nat} {rm : Room} {av st : List Value} {mc' ms' idx a : Nat} {PP' : Option Value → va_W → Prop} (hdg : decode cc pc = .ok (.invokespecial idx, 3)) (hM : jM l D G KV y b nL' none rm (.ref a :: av) w2 mc' ms' PP') (hcode : Cond.code y b nL' none ∈ tW) (hlink : Cond.methodLink own idx y ∈ tW) (hin : Cond.instanceMethod y ∈ tW) (hini : Cond.initialized y.cls ∈ tW) (hyn : y.name = "<init>") (hy : jyes y av.length) (hf : jfit R rm nL' mc' ms' cs sl) (hw : (rest.map fun v => v.category).sum ≤ 8) (hs : st = av.reverse ++ .ref a :: rest)
    (k : ∀ (v : Option Value) (u : va_W), PP' v u → K (cs + mc') (sl + ms') (w1 ++ u) (pc + 3) L (v.toList ++ rest)) : K cs sl (w1 ++ w2) pc L st := by
  obtain ⟨p, e, s, m, args, below, meth, c, A, Qc, hx, hb, hml, hown, hts, hr, hlk, hnm, hK, hE, hA, hend, rfl⟩ := C
  intro H locs ls hP hD hS hL
  obtain ⟨hP1, hP2, hD1, hD2, hap⟩ := jr_split1 hP hD
  refine jr_callF (sz := H.size) (wa := w1) (wc := w2) (av := (Value.ref a :: av).toArray) rfl (va_runI (As := av) (b := a) (rest := rest) (n := av.length) ⟨hx, hb, hml, hown, hts⟩ (hM H.size) ⟨callB_of av.length hts (tW_goodIn hcode) rfl hf.2.1.1 hf.2.1.2 (hts _ hini) (hts _ hlink) hy hf.1, hyn, hts _ hin⟩ ⟨jr_blind, fun U hU hW => jr_pre hK hE hA hP2 hD2 hS hU hW⟩ rfl rfl hL.1 hs (lv_room hw) hdg hf.2.2) hS (jr_A hD2 hS hA) hP1 hP2 hD1 hap (fun v u H1 locs1 hp hPa hPu hDu ha2 hS => k v u hp H1 locs1 ls (hPa.app hPu) (va_D.app hD1 hDu ha2) hS hL)
theorem j_fIN2 (C : jK l D G KV own cc nL ret R mc ms nm PP K) {y : MethodName} {b : ByteArray} {nL' : Nat} {rm : Room} {av st : List Value} {mc' ms' idx a : Nat} {host : String} {PP' : Option Value → va_W → Prop} (hdg : decode cc pc = .ok (.invokespecial idx, 3)) (hM : jM l D G KV y b nL' none rm (.ref a :: av) w2 mc' ms' PP') (hcode : Cond.code y b nL' none ∈ tW) (hlink : Cond.methodLinkNest own idx y host ∈ nestW) (hin : Cond.instanceMethod y ∈ tW) (hini : Cond.initialized y.cls ∈ tW) (hyn : y.name = "<init>") (hy : jyes y av.length) (hf : jfit R rm nL' mc' ms' cs sl) (hw : (rest.map fun v => v.category).sum ≤ 8) (hs : st = av.reverse ++ .ref a :: rest)
    (k : ∀ (v : Option Value) (u : va_W), PP' v u → K (cs + mc') (sl + ms') (w1 ++ u) (pc + 3) L (v.toList ++ rest)) : K cs sl (w1 ++ w2) pc L st := by
  obtain ⟨p, e, s, m, args, below, meth, c, A, Qc, hx, hb, hml, hown, hts, hr, hlk, hnm, hK, hE, hA, hend, rfl⟩ := C
  intro H locs ls hP hD hS hL
  obtain ⟨hP1, hP2, hD1, hD2, hap⟩ := jr_split1 hP hD
  refine jr_callF (sz := H.size) (wa := w1) (wc := w2) (av := (Value.ref a :: av).toArray) rfl (va_runIN (As := av) (b := a) (rest := rest) (n := av.length) (host := host) ⟨hx, hb, hml, hown, hts⟩ (hM H.size) ⟨va_cnB av.length hts (tW_goodIn hcode) rfl hf.2.1.1 hf.2.1.2 (hE.1 _ hlink) (hts _ hini) hy hf.1, hyn, hts _ hin⟩ ⟨jr_blind, fun U hU hW => jr_pre hK hE hA hP2 hD2 hS hU hW⟩ rfl rfl hL.1 hs (lv_room hw) hdg hf.2.2) hS (jr_A hD2 hS hA) hP1 hP2 hD1 hap (fun v u H1 locs1 hp hPa hPu hDu ha2 hS => k v u hp H1 locs1 ls (hPa.app hPu) (va_D.app hD1 hDu ha2) hS hL)
end JA
