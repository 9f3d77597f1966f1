/-! The judgement of this proof: a predicate K over (new cells, new slots, world, pc, locals, stack) of one method's run; the kit's rows as rules over it. -/
abbrev jS : Type := (Nat → Nat → Int32) × (Nat → Nat → Int64)
abbrev jC : Type := (Nat → Nat) → Nat → (Nat → Int32) → (Nat → Int64) → va_E
/-- a world of N cells at the addresses ad, each told by its own row of the state -/
def jw (N : Nat) (cell : jC) (ad : Nat → Nat) (s : jS) : va_W := (List.range N).map (fun k => (ad k, cell ad k (s.1 k) (s.2 k)))
def upR (s : jS) (k : Nat) (f : Nat → Int32) : jS := (va_up s.1 k f, s.2)
def upI (s : jS) (k j : Nat) (x : Int32) : jS := (va_up s.1 k (upd (s.1 k) j x), s.2)
def upL (s : jS) (k j : Nat) (x : Int64) : jS := (s.1, va_up s.2 k (vp_updL (s.2 k) j x))
theorem jw_at {N : Nat} {cell : jC} {ad : Nat → Nat} {s : jS} {k : Nat} (h : k < N) : (jw N cell ad s)[k]? = some (ad k, cell ad k (s.1 k) (s.2 k)) := by
  simp [jw, h]
theorem jw_set {N : Nat} {cell : jC} {ad : Nat → Nat} {s s' : jS} {k : Nat} (h : k < N) (h1 : ∀ i : Nat, i ≠ k → s'.1 i = s.1 i) (h2 : ∀ i : Nat, i ≠ k → s'.2 i = s.2 i) : (jw N cell ad s).set k (ad k, cell ad k (s'.1 k) (s'.2 k)) = jw N cell ad s' := by
  apply List.ext_getElem?
  intro i
  by_cases hik : i = k
  · subst hik
    rw [List.getElem?_set_self (by simpa [jw] using h), jw_at h]
  · rw [List.getElem?_set_ne (Ne.symm hik)]
    by_cases hi : i < N
    · rw [jw_at hi, jw_at hi, h1 i hik, h2 i hik]
    · rw [List.getElem?_eq_none (by simpa [jw] using hi), List.getElem?_eq_none (by simpa [jw] using hi)]
theorem va_up_at {α : Type} (f : Nat → α) (k : Nat) (v : α) : va_up f k v k = v := by simp [va_up]
theorem va_up_off {α : Type} (f : Nat → α) {k i : Nat} (v : α) (h : i ≠ k) : va_up f k v i = f i := by simp [va_up, h]
abbrev jV : Type := ((Nat → Nat) × (Nat → Nat)) × (Nat × Nat × (Nat → Int32))
abbrev classes : List vw_C := [(RX0, TX0, 8), (RX1, TX1, 10), (RX2, TX2, 10), (RX3, TX3, 7), (RX4, TX4, 6), (RX5, TX5, 7), (RX6, TX6, 8), (RX7, TX7, 12), (RX8, TX8, 9), (RX9, TX9, 32)]
abbrev jtys (G : Nat → ClassId) : List (ClassId × FieldType) := [(G 0, .int), (G 1, .long), (G 2, .boolean), (G 3, .byte), (G 4, .object "RoadOfDoors$Text")]

def nestW : List Cond := [(Jvm.Cond.methodLinkNest "RoadOfDoors" (20 : Nat) ({ cls := "RoadOfDoors$Text", name := "<init>", desc := "()V" } : Jvm.MethodName) "RoadOfDoors"), (Jvm.Cond.methodLinkNest "RoadOfDoors$Road" (33 : Nat) ({ cls := "RoadOfDoors$Traveller", name := "<init>", desc := "()V" } : Jvm.MethodName) "RoadOfDoors"), (Jvm.Cond.methodLinkNest "RoadOfDoors" (26 : Nat) ({ cls := "RoadOfDoors$Tape", name := "<init>", desc := "()V" } : Jvm.MethodName) "RoadOfDoors"), (Jvm.Cond.methodLinkNest "RoadOfDoors$Tape" (61 : Nat) ({ cls := "RoadOfDoors", name := "within", desc := "(III)Z" } : Jvm.MethodName) "RoadOfDoors"), (Jvm.Cond.methodLinkNest "RoadOfDoors$Reader" (107 : Nat) ({ cls := "RoadOfDoors", name := "within", desc := "(III)Z" } : Jvm.MethodName) "RoadOfDoors"), (Jvm.Cond.methodLinkNest "RoadOfDoors$Text" (39 : Nat) ({ cls := "RoadOfDoors", name := "within", desc := "(III)Z" } : Jvm.MethodName) "RoadOfDoors"), (Jvm.Cond.methodLinkNest "RoadOfDoors$Traveller" (49 : Nat) ({ cls := "RoadOfDoors", name := "within", desc := "(III)Z" } : Jvm.MethodName) "RoadOfDoors"), (Jvm.Cond.methodLinkNest "RoadOfDoors$Ways" (68 : Nat) ({ cls := "RoadOfDoors", name := "hasKey", desc := "(II)Z" } : Jvm.MethodName) "RoadOfDoors"), (Jvm.Cond.methodLinkNest "RoadOfDoors$Road" (42 : Nat) ({ cls := "RoadOfDoors", name := "within", desc := "(III)Z" } : Jvm.MethodName) "RoadOfDoors"), (Jvm.Cond.methodLinkNest "RoadOfDoors$Earnings" (81 : Nat) ({ cls := "RoadOfDoors", name := "hasKey", desc := "(II)Z" } : Jvm.MethodName) "RoadOfDoors")]
def jidx : List Nat := [83, 89, 91, 93, 95, 97, 99, 101, 103, 105, 107, 109, 111, 113, 115]
def jtxt : List String := ["door", "hour", "rain", "mood", "gift", "knocks", "waited", "load", "opens", "knock", "with", "wait", "or", "and", "not"]
def jlen : List Nat := [4, 4, 4, 4, 4, 6, 6, 4, 5, 5, 4, 4, 2, 3, 3]
def jbyt : List (List Int32) := [[100, 111, 111, 114], [104, 111, 117, 114], [114, 97, 105, 110], [109, 111, 111, 100], [103, 105, 102, 116], [107, 110, 111, 99, 107, 115], [119, 97, 105, 116, 101, 100], [108, 111, 97, 100], [111, 112, 101, 110, 115], [107, 110, 111, 99, 107], [119, 105, 116, 104], [119, 97, 105, 116], [111, 114], [97, 110, 100], [110, 111, 116]]
/-- what lies around every method's world and stays: words of nest mates, String constants, a static of String -/
def jE (KV : jV) (A : Nat → Prop) (U : State) : Prop :=
  (∀ w ∈ nestW, va_Nw w U) ∧ vk_S 15 jlen jbyt KV.1.1 KV.1.2 A U U.heap ∧ (∀ i : Nat, i < 15 → vk_R "RoadOfDoors$Tape" (jidx.getD i 0) (jtxt.getD i "") (KV.1.1 i) U) ∧ va_Z "java/lang/String" "COMPACT_STRINGS" "Z" (.int 1) A U U.heap ∧ va_Zq "jdk/internal/util/Preconditions" "SIOOBE_FORMATTER" "Ljava/util/function/BiFunction;" A U U.heap ∧ va_X KV.2.1 KV.2.2.1 KV.2.2.2 U U.heap ∧ KV.2.1 < U.heap.size ∧ ¬ A KV.2.1 ∧ va_AO "RoadOfDoors$Text" U
theorem nest_warm {s U : State} (hW : s.WarmedH U.vm) (h : ∀ w ∈ nestW, va_Nw w s) : ∀ w ∈ nestW, va_Nw w U := by
  intro w hw
  have h1 := h w hw
  unfold nestW at hw
  simp only [List.mem_cons, List.not_mem_nil, or_false] at hw
  rcases hw with rfl | rfl | rfl | rfl | rfl | rfl | rfl | rfl | rfl | rfl <;> exact va_Nw.warmM hW h1
theorem jE.call {KV : jV} {A B : Nat → Prop} {s U : State} {H : Heap} {locs : List Loc} (h : jE KV A s) (hS : va_S A s.heap H locs) (hU : U.heap = H) (hW : s.WarmedH U.vm) (hAB : ∀ q, B q → A q) : jE KV B U := by
  obtain ⟨h1, h2, h3, h4, h5, h6, h7, h8, h9⟩ := h
  refine ⟨nest_warm hW h1, ?_, fun i hi => vk_R.warm hW (h3 i hi), ?_, ?_, ?_, by rw [hU]; exact Nat.lt_of_lt_of_le h7 hS.1, fun q => h8 (hAB _ q), h9.moved hW.alike⟩
  · rw [hU]; exact ((h2.kept hS.2.1).moved hW.alike).narrow hAB
  · rw [hU]; exact ((h4.kept hS.2.1).moved hW.alike).narrow hAB
  · rw [hU]; exact ((h5.kept hS.2.1).moved hW.alike).narrow hAB
  · rw [hU]; exact (h6.kept (hS.2.1 _ h7 h8)).moved hW.alike
theorem nest_same {U : State} {g : JFrame} {mk : MethodId} {a : Array Value} (h : ∀ w ∈ nestW, va_Nw w U) : ∀ w ∈ nestW, va_Nw w (U.calling g mk a) := by
  intro w hw
  have h1 := h w hw
  unfold nestW at hw
  simp only [List.mem_cons, List.not_mem_nil, or_false] at hw
  rcases hw with rfl | rfl | rfl | rfl | rfl | rfl | rfl | rfl | rfl | rfl <;> exact va_Nw.same (u := U) (U := U.calling g mk a) rfl rfl h1
theorem jE.calling {KV : jV} {A : Nat → Prop} {U : State} {g : JFrame} {mk : MethodId} {a : Array Value} (h : jE KV A U) : jE KV A (U.calling g mk a) := by
  obtain ⟨h1, h2, h3, h4, h5, h6, h7, h8, h9⟩ := h
  exact ⟨nest_same h1, h2.moved (u := U) (U := U.calling g mk a) (Vm.Alike.refl U.vm), fun i hi => vk_R.same (u := U) (U := U.calling g mk a) rfl (h3 i hi), h4.moved (u := U) (U := U.calling g mk a) (Vm.Alike.refl U.vm), h5.moved (u := U) (U := U.calling g mk a) (Vm.Alike.refl U.vm), h6.moved (u := U) (U := U.calling g mk a) (Vm.Alike.refl U.vm), h7, h8, h9.moved (U := U.calling g mk a) (Vm.Alike.refl U.vm)⟩
/-- K is the judgement of a run of a method -/
def jK (l : Launch) (D : va_G) (G : Nat → ClassId) (KV : jV) (own : String) (cc : ByteArray) (nL : Nat) (ret : Option FieldType) (R : Room) (mc ms : Nat) (nm : String) (PP : Option Value → va_W → Prop) (K : Nat → Nat → va_W → Nat → List (Nat × Value) → List Value → Prop) : Prop :=
  ∃ (p : Program) (e : Env) (s : State) (m : MethodId) (args : Array Value) (below : List Frame) (meth : Method) (c : Code) (A : Nat → Prop) (Qc : Array Value → State → Outcome → State → Prop),
    p.tables.exec = Jvm.exec ∧ c.code = cc ∧ c.maxLocals = nL ∧ s.vm.findClass own = some m.cls ∧ (∀ w ∈ tW, w.before args s = true) ∧ meth.sig.returnType = ret ∧ meth.locks = false ∧ meth.name = nm ∧ va_K D classes (jtys G) s ∧ jE KV A s ∧ (∀ q, s.heap.size ≤ q → A q) ∧
    (∀ (v : Option Value) (ws : va_W) (H : Heap) (locs : List Loc) (t : State), va_P D classes ws H → va_D A ws → va_S A s.heap H locs → PP v ws → t.heap = H → s.WarmedH t.vm → Qc args s (.returned v) t) ∧
    K = (fun cells slots ws pc L st => ∀ (H : Heap) (locs : List Loc) (ls : Array Slot), va_P D classes ws H → va_D A ws → va_S A s.heap H locs → lv_has ls nL L → W p l e R s m args below meth c H locs cells slots (MQ below Qc args s mc ms A) (F0 m pc ls st))
def jws (y : MethodName) (b : ByteArray) (nL : Nat) (ret : Option FieldType) : List Cond := Cond.code y b nL ret :: tW
def jQ (D : va_G) (G : Nat → ClassId) (PP : Option Value → va_W → Prop) (A : Nat → Prop) : Array Value → State → Outcome → State → Prop := fun _ st oc t =>
  (∃ (v : Option Value) (u : va_W), oc = .returned v ∧ PP v u ∧ va_P D classes u t.heap ∧ va_K D classes (jtys G) t ∧ va_D A u) ∧ va_F A st t
/-- a method's contract: from the world ws with the arguments av it ends with an answer and a world of PP -/
def jM (l : Launch) (D : va_G) (G : Nat → ClassId) (KV : jV) (y : MethodName) (b : ByteArray) (nL : Nat) (ret : Option FieldType) (rm : Room) (av : List Value) (ws : va_W) (mc ms : Nat) (PP : Option Value → va_W → Prop) : Prop :=
  ∀ sz : Nat, Met l y (jws y b nL ret) rm (va_Pc av (fun U => U.heap.size = sz ∧ va_P D classes ws U.heap ∧ va_K D classes (jtys G) U ∧ va_D (fun _ => True) ws ∧ jE KV (va_A ws sz) U)) (jQ D G PP (va_A ws sz)) mc ms (va_A ws sz)
theorem jM.of {l : Launch} {D : va_G} {G : Nat → ClassId} {KV : jV} {y : MethodName} {b : ByteArray} {nL : Nat} {ret : Option FieldType} {rm : Room} {av : List Value} {ws : va_W} {mc ms : Nat} {PP : Option Value → va_W → Prop}
    (hy : plainName y.cls = true) (hent : (lg_sl av).length ≤ nL)
    (body : ∀ K, jK l D G KV y.cls b nL ret rm mc ms y.name PP K → K 0 0 ws 0 (lv_args 0 av) []) : jM l D G KV y b nL ret rm av ws mc ms PP := by
  intro sz
  refine Met.ofW (cc := b) (maxL := nL) (ret := ret) hy rfl ?_
  intro p e s m args below meth c s₁ B hml hv
  obtain ⟨rfl, hsz, hP, hK, hD0, hE⟩ := hv
  have hts0 := atoms_spec (ws := jws y b nL ret) B.pre
  have hts : ∀ w ∈ tW, w.before av.toArray s = true := fun w hw => hts0 w (List.mem_cons_of_mem _ hw)
  subst hsz
  have hD := hD0.self (sz := s.heap.size)
  have h := body _ ⟨p, e, s, m, av.toArray, below, meth, c, va_A ws s.heap.size, jQ D G PP (va_A ws s.heap.size), B.exec, B.bytes, hml, findClass_of_methodNamed B.named, hts, B.returns, B.notSynchronized, (name_of_methodNamed B.named B.method).1, hK, hE, fun q h => Or.inr h,
    fun v u H locs t hP hD hS hpp ht hW => ⟨⟨v, u, rfl, hpp, by rw [ht]; exact hP, va_K.moved hW.alike hK, hD⟩, hS.F ht⟩, rfl⟩
  rw [lg_entry_eq]
  exact h s.heap [] _ hP hD va_S.rf (lv_entry av hent)
theorem tW_goodIn {y : MethodName} {b : ByteArray} {nL : Nat} {ret : Option FieldType} (h : Cond.code y b nL ret ∈ tW) : GoodIn tW (jws y b nL ret) := by
  intro w hw
  have hw2 : w ∈ tW := by
    rcases List.mem_cons.mp hw with e | h2
    · rw [e]; exact h
    · exact h2
  exact ⟨hw2, tW_good hw2⟩
section JR
variable {l : Launch} {D : va_G} {G : Nat → ClassId} {KV : jV} {own : String} {cc : ByteArray} {nL : Nat} {ret : Option FieldType} {R : Room} {mc ms : Nat} {nm : String} {PP : Option Value → va_W → Prop} {K : Nat → Nat → va_W → Nat → List (Nat × Value) → List Value → Prop}
variable {cs sl pc : Nat} {ws : va_W} {L : List (Nat × Value)} {rest : List Value}
theorem j_iconst (C : jK l D G KV own cc nL ret R mc ms nm PP K) {n : Int} {v : Int32} (hdg : decode cc pc = .ok (.iconst n, 1)) (hv : Int32.ofInt n = v) (k : K cs sl ws (pc + 1) L (.int v :: rest)) : K cs sl ws pc L (rest) := by
  obtain ⟨p, e, s, m, args, below, meth, c, A, Qc, hx, hb, hml, hown, hts, hr, hlk, hnm, hK, hE, hA, hend, rfl⟩ := C
  exact fun H locs ls hP hD hS hL => lv_iconst hx hb hdg hv (k H locs ls hP hD hS hL)
theorem j_bipush (C : jK l D G KV own cc nL ret R mc ms nm PP K) {n : Int} {v : Int32} (hdg : decode cc pc = .ok (.bipush n, 2)) (hv : (Int8.ofInt n).toInt32 = v) (k : K cs sl ws (pc + 2) L (.int v :: rest)) : K cs sl ws pc L (rest) := by
  obtain ⟨p, e, s, m, args, below, meth, c, A, Qc, hx, hb, hml, hown, hts, hr, hlk, hnm, hK, hE, hA, hend, rfl⟩ := C
  exact fun H locs ls hP hD hS hL => lv_bipush hx hb hdg hv (k H locs ls hP hD hS hL)
theorem j_sipush (C : jK l D G KV own cc nL ret R mc ms nm PP K) {n : Int} {v : Int32} (hdg : decode cc pc = .ok (.sipush n, 3)) (hv : (Int16.ofInt n).toInt32 = v) (k : K cs sl ws (pc + 3) L (.int v :: rest)) : K cs sl ws pc L (rest) := by
  obtain ⟨p, e, s, m, args, below, meth, c, A, Qc, hx, hb, hml, hown, hts, hr, hlk, hnm, hK, hE, hA, hend, rfl⟩ := C
  exact fun H locs ls hP hD hS hL => lv_sipush hx hb hdg hv (k H locs ls hP hD hS hL)
theorem j_lconst (C : jK l D G KV own cc nL ret R mc ms nm PP K) {n : Fin 2} {v : Int64} (hdg : decode cc pc = .ok (.lconst n, 1)) (hv : Int64.ofNat (n : Nat) = v) (k : K cs sl ws (pc + 1) L (.long v :: rest)) : K cs sl ws pc L (rest) := by
  obtain ⟨p, e, s, m, args, below, meth, c, A, Qc, hx, hb, hml, hown, hts, hr, hlk, hnm, hK, hE, hA, hend, rfl⟩ := C
  exact fun H locs ls hP hD hS hL => lv_lconst hx hb hdg hv (k H locs ls hP hD hS hL)
theorem j_iload_n (C : jK l D G KV own cc nL ret R mc ms nm PP K) {k0 : Fin 4} {x : Int32} (hdg : decode cc pc = .ok (.iload_n k0, 1)) (q : Nat) (hl : L[q]? = some ((k0 : Nat), .int x)) (k : K cs sl ws (pc + 1) L (.int x :: rest)) : K cs sl ws pc L (rest) := by
  obtain ⟨p, e, s, m, args, below, meth, c, A, Qc, hx, hb, hml, hown, hts, hr, hlk, hnm, hK, hE, hA, hend, rfl⟩ := C
  exact fun H locs ls hP hD hS hL => lv_iload_n hx hb hdg rfl (lv_at hL q hl) (k H locs ls hP hD hS hL)
theorem j_iload (C : jK l D G KV own cc nL ret R mc ms nm PP K) {i : Nat} {x : Int32} (hdg : decode cc pc = .ok (.iload i, 2)) (q : Nat) (hl : L[q]? = some (i, .int x)) (k : K cs sl ws (pc + 2) L (.int x :: rest)) : K cs sl ws pc L (rest) := by
  obtain ⟨p, e, s, m, args, below, meth, c, A, Qc, hx, hb, hml, hown, hts, hr, hlk, hnm, hK, hE, hA, hend, rfl⟩ := C
  exact fun H locs ls hP hD hS hL => lv_iload hx hb hdg (lv_at hL q hl) (k H locs ls hP hD hS hL)
theorem j_lload_n (C : jK l D G KV own cc nL ret R mc ms nm PP K) {k0 : Fin 4} {x : Int64} (hdg : decode cc pc = .ok (.lload_n k0, 1)) (q : Nat) (hl : L[q]? = some ((k0 : Nat), .long x)) (k : K cs sl ws (pc + 1) L (.long x :: rest)) : K cs sl ws pc L (rest) := by
  obtain ⟨p, e, s, m, args, below, meth, c, A, Qc, hx, hb, hml, hown, hts, hr, hlk, hnm, hK, hE, hA, hend, rfl⟩ := C
  exact fun H locs ls hP hD hS hL => lv_lload_n hx hb hdg rfl (lv_at hL q hl) (k H locs ls hP hD hS hL)
theorem j_lload (C : jK l D G KV own cc nL ret R mc ms nm PP K) {i : Nat} {x : Int64} (hdg : decode cc pc = .ok (.lload i, 2)) (q : Nat) (hl : L[q]? = some (i, .long x)) (k : K cs sl ws (pc + 2) L (.long x :: rest)) : K cs sl ws pc L (rest) := by
  obtain ⟨p, e, s, m, args, below, meth, c, A, Qc, hx, hb, hml, hown, hts, hr, hlk, hnm, hK, hE, hA, hend, rfl⟩ := C
  exact fun H locs ls hP hD hS hL => lv_lload hx hb hdg (lv_at hL q hl) (k H locs ls hP hD hS hL)
theorem j_aload_n (C : jK l D G KV own cc nL ret R mc ms nm PP K) {k0 : Fin 4} {x : Nat} (hdg : decode cc pc = .ok (.aload_n k0, 1)) (q : Nat) (hl : L[q]? = some ((k0 : Nat), .ref x)) (k : K cs sl ws (pc + 1) L (.ref x :: rest)) : K cs sl ws pc L (rest) := by
  obtain ⟨p, e, s, m, args, below, meth, c, A, Qc, hx, hb, hml, hown, hts, hr, hlk, hnm, hK, hE, hA, hend, rfl⟩ := C
  exact fun H locs ls hP hD hS hL => lv_aload_n hx hb hdg rfl (lv_at hL q hl) (k H locs ls hP hD hS hL)
theorem j_aload (C : jK l D G KV own cc nL ret R mc ms nm PP K) {i : Nat} {x : Nat} (hdg : decode cc pc = .ok (.aload i, 2)) (q : Nat) (hl : L[q]? = some (i, .ref x)) (k : K cs sl ws (pc + 2) L (.ref x :: rest)) : K cs sl ws pc L (rest) := by
  obtain ⟨p, e, s, m, args, below, meth, c, A, Qc, hx, hb, hml, hown, hts, hr, hlk, hnm, hK, hE, hA, hend, rfl⟩ := C
  exact fun H locs ls hP hD hS hL => lv_aload hx hb hdg (lv_at hL q hl) (k H locs ls hP hD hS hL)
theorem j_istore_n (C : jK l D G KV own cc nL ret R mc ms nm PP K) {k0 : Fin 4} {x : Int32} {L' : List (Nat × Value)} (hdg : decode cc pc = .ok (.istore_n k0, 1)) (hn : (k0 : Nat) < nL) (hl : ((k0 : Nat), Value.int x) :: L.filter (fun q => !(q.1 == (k0 : Nat)) && !(q.1 + 1 == (k0 : Nat) && q.2.category == 2)) = L') (k : K cs sl ws (pc + 1) L' rest) : K cs sl ws pc L (.int x :: rest) := by
  obtain ⟨p, e, s, m, args, below, meth, c, A, Qc, hx, hb, hml, hown, hts, hr, hlk, hnm, hK, hE, hA, hend, rfl⟩ := C
  exact fun H locs ls hP hD hS hL => lv_istore_n hx hb hdg rfl hL hn hl (fun ls' hl' => k H locs ls' hP hD hS hl')
theorem j_istore (C : jK l D G KV own cc nL ret R mc ms nm PP K) {i : Nat} {x : Int32} {L' : List (Nat × Value)} (hdg : decode cc pc = .ok (.istore i, 2)) (hn : i < nL) (hl : (i, Value.int x) :: L.filter (fun q => !(q.1 == i) && !(q.1 + 1 == i && q.2.category == 2)) = L') (k : K cs sl ws (pc + 2) L' rest) : K cs sl ws pc L (.int x :: rest) := by
  obtain ⟨p, e, s, m, args, below, meth, c, A, Qc, hx, hb, hml, hown, hts, hr, hlk, hnm, hK, hE, hA, hend, rfl⟩ := C
  exact fun H locs ls hP hD hS hL => lv_istore hx hb hdg hL hn hl (fun ls' hl' => k H locs ls' hP hD hS hl')
theorem j_lstore_n (C : jK l D G KV own cc nL ret R mc ms nm PP K) {k0 : Fin 4} {x : Int64} {L' : List (Nat × Value)} (hdg : decode cc pc = .ok (.lstore_n k0, 1)) (hn : (k0 : Nat) + 1 < nL) (hl : ((k0 : Nat), Value.long x) :: L.filter (fun q => !(q.1 == (k0 : Nat)) && (!(q.1 == (k0 : Nat) + 1) && !(q.1 + 1 == (k0 : Nat) && q.2.category == 2))) = L') (k : K cs sl ws (pc + 1) L' rest) : K cs sl ws pc L (.long x :: rest) := by
  obtain ⟨p, e, s, m, args, below, meth, c, A, Qc, hx, hb, hml, hown, hts, hr, hlk, hnm, hK, hE, hA, hend, rfl⟩ := C
  exact fun H locs ls hP hD hS hL => lv_lstore_n hx hb hdg rfl hL hn hl (fun ls' hl' => k H locs ls' hP hD hS hl')
theorem j_lstore (C : jK l D G KV own cc nL ret R mc ms nm PP K) {i : Nat} {x : Int64} {L' : List (Nat × Value)} (hdg : decode cc pc = .ok (.lstore i, 2)) (hn : i + 1 < nL) (hl : (i, Value.long x) :: L.filter (fun q => !(q.1 == i) && (!(q.1 == i + 1) && !(q.1 + 1 == i && q.2.category == 2))) = L') (k : K cs sl ws (pc + 2) L' rest) : K cs sl ws pc L (.long x :: rest) := by
  obtain ⟨p, e, s, m, args, below, meth, c, A, Qc, hx, hb, hml, hown, hts, hr, hlk, hnm, hK, hE, hA, hend, rfl⟩ := C
  exact fun H locs ls hP hD hS hL => lv_lstore hx hb hdg hL hn hl (fun ls' hl' => k H locs ls' hP hD hS hl')
theorem j_astore_n (C : jK l D G KV own cc nL ret R mc ms nm PP K) {k0 : Fin 4} {x : Nat} {L' : List (Nat × Value)} (hdg : decode cc pc = .ok (.astore_n k0, 1)) (hn : (k0 : Nat) < nL) (hl : ((k0 : Nat), Value.ref x) :: L.filter (fun q => !(q.1 == (k0 : Nat)) && !(q.1 + 1 == (k0 : Nat) && q.2.category == 2)) = L') (k : K cs sl ws (pc + 1) L' rest) : K cs sl ws pc L (.ref x :: rest) := by
  obtain ⟨p, e, s, m, args, below, meth, c, A, Qc, hx, hb, hml, hown, hts, hr, hlk, hnm, hK, hE, hA, hend, rfl⟩ := C
  exact fun H locs ls hP hD hS hL => lv_astore_n hx hb hdg rfl hL hn hl (fun ls' hl' => k H locs ls' hP hD hS hl')
theorem j_astore (C : jK l D G KV own cc nL ret R mc ms nm PP K) {i : Nat} {x : Nat} {L' : List (Nat × Value)} (hdg : decode cc pc = .ok (.astore i, 2)) (hn : i < nL) (hl : (i, Value.ref x) :: L.filter (fun q => !(q.1 == i) && !(q.1 + 1 == i && q.2.category == 2)) = L') (k : K cs sl ws (pc + 2) L' rest) : K cs sl ws pc L (.ref x :: rest) := by
  obtain ⟨p, e, s, m, args, below, meth, c, A, Qc, hx, hb, hml, hown, hts, hr, hlk, hnm, hK, hE, hA, hend, rfl⟩ := C
  exact fun H locs ls hP hD hS hL => lv_astore hx hb hdg hL hn hl (fun ls' hl' => k H locs ls' hP hD hS hl')
theorem j_iinc (C : jK l D G KV own cc nL ret R mc ms nm PP K) {i : Nat} {n : Int} {x v : Int32} {L' : List (Nat × Value)} (hdg : decode cc pc = .ok (.iinc i n, 3)) (q : Nat) (hk : L[q]? = some (i, .int x)) (hv : x + Int32.ofInt n = v) (hn : i < nL) (hl : (i, Value.int v) :: L.filter (fun q => !(q.1 == i) && !(q.1 + 1 == i && q.2.category == 2)) = L') (k : K cs sl ws (pc + 3) L' rest) : K cs sl ws pc L rest := by
  obtain ⟨p, e, s, m, args, below, meth, c, A, Qc, hx, hb, hml, hown, hts, hr, hlk, hnm, hK, hE, hA, hend, rfl⟩ := C
  exact fun H locs ls hP hD hS hL => lv_iinc hx hb hdg hL hk hv hn hl (fun ls' hl' => k H locs ls' hP hD hS hl')
theorem j_iadd (C : jK l D G KV own cc nL ret R mc ms nm PP K) {x y : Int32} (hdg : decode cc pc = .ok (.iadd, 1))  (k : K cs sl ws (pc + 1) L (.int (x + y) :: rest)) : K cs sl ws pc L (.int y :: .int x :: rest) := by
  obtain ⟨p, e, s, m, args, below, meth, c, A, Qc, hx, hb, hml, hown, hts, hr, hlk, hnm, hK, hE, hA, hend, rfl⟩ := C
  exact fun H locs ls hP hD hS hL => lv_iadd hx hb hdg (k H locs ls hP hD hS hL)
theorem j_isub (C : jK l D G KV own cc nL ret R mc ms nm PP K) {x y : Int32} (hdg : decode cc pc = .ok (.isub, 1))  (k : K cs sl ws (pc + 1) L (.int (x - y) :: rest)) : K cs sl ws pc L (.int y :: .int x :: rest) := by
  obtain ⟨p, e, s, m, args, below, meth, c, A, Qc, hx, hb, hml, hown, hts, hr, hlk, hnm, hK, hE, hA, hend, rfl⟩ := C
  exact fun H locs ls hP hD hS hL => lv_isub hx hb hdg (k H locs ls hP hD hS hL)
theorem j_imul (C : jK l D G KV own cc nL ret R mc ms nm PP K) {x y : Int32} (hdg : decode cc pc = .ok (.imul, 1))  (k : K cs sl ws (pc + 1) L (.int (x * y) :: rest)) : K cs sl ws pc L (.int y :: .int x :: rest) := by
  obtain ⟨p, e, s, m, args, below, meth, c, A, Qc, hx, hb, hml, hown, hts, hr, hlk, hnm, hK, hE, hA, hend, rfl⟩ := C
  exact fun H locs ls hP hD hS hL => lv_imul hx hb hdg (k H locs ls hP hD hS hL)
theorem j_iand (C : jK l D G KV own cc nL ret R mc ms nm PP K) {x y : Int32} (hdg : decode cc pc = .ok (.iand, 1))  (k : K cs sl ws (pc + 1) L (.int (x &&& y) :: rest)) : K cs sl ws pc L (.int y :: .int x :: rest) := by
  obtain ⟨p, e, s, m, args, below, meth, c, A, Qc, hx, hb, hml, hown, hts, hr, hlk, hnm, hK, hE, hA, hend, rfl⟩ := C
  exact fun H locs ls hP hD hS hL => lv_iand hx hb hdg (k H locs ls hP hD hS hL)
theorem j_ior (C : jK l D G KV own cc nL ret R mc ms nm PP K) {x y : Int32} (hdg : decode cc pc = .ok (.ior, 1))  (k : K cs sl ws (pc + 1) L (.int (x ||| y) :: rest)) : K cs sl ws pc L (.int y :: .int x :: rest) := by
  obtain ⟨p, e, s, m, args, below, meth, c, A, Qc, hx, hb, hml, hown, hts, hr, hlk, hnm, hK, hE, hA, hend, rfl⟩ := C
  exact fun H locs ls hP hD hS hL => lv_ior hx hb hdg (k H locs ls hP hD hS hL)
theorem j_ixor (C : jK l D G KV own cc nL ret R mc ms nm PP K) {x y : Int32} (hdg : decode cc pc = .ok (.ixor, 1))  (k : K cs sl ws (pc + 1) L (.int (x ^^^ y) :: rest)) : K cs sl ws pc L (.int y :: .int x :: rest) := by
  obtain ⟨p, e, s, m, args, below, meth, c, A, Qc, hx, hb, hml, hown, hts, hr, hlk, hnm, hK, hE, hA, hend, rfl⟩ := C
  exact fun H locs ls hP hD hS hL => lv_ixor hx hb hdg (k H locs ls hP hD hS hL)
theorem j_ishl (C : jK l D G KV own cc nL ret R mc ms nm PP K) {x y : Int32} (hdg : decode cc pc = .ok (.ishl, 1))  (k : K cs sl ws (pc + 1) L (.int (x <<< (y &&& 31)) :: rest)) : K cs sl ws pc L (.int y :: .int x :: rest) := by
  obtain ⟨p, e, s, m, args, below, meth, c, A, Qc, hx, hb, hml, hown, hts, hr, hlk, hnm, hK, hE, hA, hend, rfl⟩ := C
  exact fun H locs ls hP hD hS hL => lv_ishl hx hb hdg (k H locs ls hP hD hS hL)
theorem j_ishr (C : jK l D G KV own cc nL ret R mc ms nm PP K) {x y : Int32} (hdg : decode cc pc = .ok (.ishr, 1))  (k : K cs sl ws (pc + 1) L (.int (x >>> (y &&& 31)) :: rest)) : K cs sl ws pc L (.int y :: .int x :: rest) := by
  obtain ⟨p, e, s, m, args, below, meth, c, A, Qc, hx, hb, hml, hown, hts, hr, hlk, hnm, hK, hE, hA, hend, rfl⟩ := C
  exact fun H locs ls hP hD hS hL => lv_ishr hx hb hdg (k H locs ls hP hD hS hL)
theorem j_idiv (C : jK l D G KV own cc nL ret R mc ms nm PP K) {x y : Int32} (hdg : decode cc pc = .ok (.idiv, 1)) (hne : ¬ y = 0) (k : K cs sl ws (pc + 1) L (.int (x / y) :: rest)) : K cs sl ws pc L (.int y :: .int x :: rest) := by
  obtain ⟨p, e, s, m, args, below, meth, c, A, Qc, hx, hb, hml, hown, hts, hr, hlk, hnm, hK, hE, hA, hend, rfl⟩ := C
  exact fun H locs ls hP hD hS hL => lv_idiv hx hb hdg hne (k H locs ls hP hD hS hL)
theorem j_irem (C : jK l D G KV own cc nL ret R mc ms nm PP K) {x y : Int32} (hdg : decode cc pc = .ok (.irem, 1)) (hne : ¬ y = 0) (k : K cs sl ws (pc + 1) L (.int (x - x / y * y) :: rest)) : K cs sl ws pc L (.int y :: .int x :: rest) := by
  obtain ⟨p, e, s, m, args, below, meth, c, A, Qc, hx, hb, hml, hown, hts, hr, hlk, hnm, hK, hE, hA, hend, rfl⟩ := C
  exact fun H locs ls hP hD hS hL => lv_irem hx hb hdg hne (k H locs ls hP hD hS hL)
theorem j_ineg (C : jK l D G KV own cc nL ret R mc ms nm PP K) {x : Int32} (hdg : decode cc pc = .ok (.ineg, 1))  (k : K cs sl ws (pc + 1) L (.int (-x) :: rest)) : K cs sl ws pc L (.int x :: rest) := by
  obtain ⟨p, e, s, m, args, below, meth, c, A, Qc, hx, hb, hml, hown, hts, hr, hlk, hnm, hK, hE, hA, hend, rfl⟩ := C
  exact fun H locs ls hP hD hS hL => lv_ineg hx hb hdg (k H locs ls hP hD hS hL)
theorem j_iushr (C : jK l D G KV own cc nL ret R mc ms nm PP K) {x y : Int32} (hdg : decode cc pc = .ok (.iushr, 1))  (k : K cs sl ws (pc + 1) L (.int ((x.toUInt32 >>> (y.toUInt32 &&& Int32.toUInt32 31)).toInt32) :: rest)) : K cs sl ws pc L (.int y :: .int x :: rest) := by
  obtain ⟨p, e, s, m, args, below, meth, c, A, Qc, hx, hb, hml, hown, hts, hr, hlk, hnm, hK, hE, hA, hend, rfl⟩ := C
  exact fun H locs ls hP hD hS hL => lv_iushr hx hb hdg rfl (k H locs ls hP hD hS hL)
theorem j_ladd (C : jK l D G KV own cc nL ret R mc ms nm PP K) {x y : Int64} (hdg : decode cc pc = .ok (.ladd, 1))  (k : K cs sl ws (pc + 1) L (.long (x + y) :: rest)) : K cs sl ws pc L (.long y :: .long x :: rest) := by
  obtain ⟨p, e, s, m, args, below, meth, c, A, Qc, hx, hb, hml, hown, hts, hr, hlk, hnm, hK, hE, hA, hend, rfl⟩ := C
  exact fun H locs ls hP hD hS hL => lv_ladd hx hb hdg (k H locs ls hP hD hS hL)
theorem j_lsub (C : jK l D G KV own cc nL ret R mc ms nm PP K) {x y : Int64} (hdg : decode cc pc = .ok (.lsub, 1))  (k : K cs sl ws (pc + 1) L (.long (x - y) :: rest)) : K cs sl ws pc L (.long y :: .long x :: rest) := by
  obtain ⟨p, e, s, m, args, below, meth, c, A, Qc, hx, hb, hml, hown, hts, hr, hlk, hnm, hK, hE, hA, hend, rfl⟩ := C
  exact fun H locs ls hP hD hS hL => lv_lsub hx hb hdg (k H locs ls hP hD hS hL)
theorem j_lmul (C : jK l D G KV own cc nL ret R mc ms nm PP K) {x y : Int64} (hdg : decode cc pc = .ok (.lmul, 1))  (k : K cs sl ws (pc + 1) L (.long (x * y) :: rest)) : K cs sl ws pc L (.long y :: .long x :: rest) := by
  obtain ⟨p, e, s, m, args, below, meth, c, A, Qc, hx, hb, hml, hown, hts, hr, hlk, hnm, hK, hE, hA, hend, rfl⟩ := C
  exact fun H locs ls hP hD hS hL => lv_lmul hx hb hdg (k H locs ls hP hD hS hL)
theorem j_land (C : jK l D G KV own cc nL ret R mc ms nm PP K) {x y : Int64} (hdg : decode cc pc = .ok (.land, 1))  (k : K cs sl ws (pc + 1) L (.long (x &&& y) :: rest)) : K cs sl ws pc L (.long y :: .long x :: rest) := by
  obtain ⟨p, e, s, m, args, below, meth, c, A, Qc, hx, hb, hml, hown, hts, hr, hlk, hnm, hK, hE, hA, hend, rfl⟩ := C
  exact fun H locs ls hP hD hS hL => lv_land hx hb hdg (k H locs ls hP hD hS hL)
theorem j_lor (C : jK l D G KV own cc nL ret R mc ms nm PP K) {x y : Int64} (hdg : decode cc pc = .ok (.lor, 1))  (k : K cs sl ws (pc + 1) L (.long (x ||| y) :: rest)) : K cs sl ws pc L (.long y :: .long x :: rest) := by
  obtain ⟨p, e, s, m, args, below, meth, c, A, Qc, hx, hb, hml, hown, hts, hr, hlk, hnm, hK, hE, hA, hend, rfl⟩ := C
  exact fun H locs ls hP hD hS hL => lv_lor hx hb hdg (k H locs ls hP hD hS hL)
theorem j_ldiv (C : jK l D G KV own cc nL ret R mc ms nm PP K) {x y : Int64} (hdg : decode cc pc = .ok (.ldiv, 1)) (hne : ¬ y = 0) (k : K cs sl ws (pc + 1) L (.long (x / y) :: rest)) : K cs sl ws pc L (.long y :: .long x :: rest) := by
  obtain ⟨p, e, s, m, args, below, meth, c, A, Qc, hx, hb, hml, hown, hts, hr, hlk, hnm, hK, hE, hA, hend, rfl⟩ := C
  exact fun H locs ls hP hD hS hL => lv_ldiv hx hb hdg hne (k H locs ls hP hD hS hL)
theorem j_lneg (C : jK l D G KV own cc nL ret R mc ms nm PP K) {x : Int64} (hdg : decode cc pc = .ok (.lneg, 1))  (k : K cs sl ws (pc + 1) L (.long (-x) :: rest)) : K cs sl ws pc L (.long x :: rest) := by
  obtain ⟨p, e, s, m, args, below, meth, c, A, Qc, hx, hb, hml, hown, hts, hr, hlk, hnm, hK, hE, hA, hend, rfl⟩ := C
  exact fun H locs ls hP hD hS hL => lv_lneg hx hb hdg (k H locs ls hP hD hS hL)
theorem j_lcmp (C : jK l D G KV own cc nL ret R mc ms nm PP K) {x y : Int64} (hdg : decode cc pc = .ok (.lcmp, 1))  (k : K cs sl ws (pc + 1) L (.int (lg_cmp x y) :: rest)) : K cs sl ws pc L (.long y :: .long x :: rest) := by
  obtain ⟨p, e, s, m, args, below, meth, c, A, Qc, hx, hb, hml, hown, hts, hr, hlk, hnm, hK, hE, hA, hend, rfl⟩ := C
  exact fun H locs ls hP hD hS hL => W.lcmp hx hb hdg (k H locs ls hP hD hS hL)
theorem j_lshl (C : jK l D G KV own cc nL ret R mc ms nm PP K) {x : Int64} {y : Int32} (hdg : decode cc pc = .ok (.lshl, 1))  (k : K cs sl ws (pc + 1) L (.long (x <<< (y.toInt64 &&& 63)) :: rest)) : K cs sl ws pc L (.int y :: .long x :: rest) := by
  obtain ⟨p, e, s, m, args, below, meth, c, A, Qc, hx, hb, hml, hown, hts, hr, hlk, hnm, hK, hE, hA, hend, rfl⟩ := C
  exact fun H locs ls hP hD hS hL => lv_lshl hx hb hdg rfl (k H locs ls hP hD hS hL)
theorem j_lshr (C : jK l D G KV own cc nL ret R mc ms nm PP K) {x : Int64} {y : Int32} (hdg : decode cc pc = .ok (.lshr, 1))  (k : K cs sl ws (pc + 1) L (.long (x >>> (y.toInt64 &&& 63)) :: rest)) : K cs sl ws pc L (.int y :: .long x :: rest) := by
  obtain ⟨p, e, s, m, args, below, meth, c, A, Qc, hx, hb, hml, hown, hts, hr, hlk, hnm, hK, hE, hA, hend, rfl⟩ := C
  exact fun H locs ls hP hD hS hL => lv_lshr hx hb hdg rfl (k H locs ls hP hD hS hL)
theorem j_i2l (C : jK l D G KV own cc nL ret R mc ms nm PP K) {x : Int32} (hdg : decode cc pc = .ok (.i2l, 1))  (k : K cs sl ws (pc + 1) L (.long x.toInt64 :: rest)) : K cs sl ws pc L (.int x :: rest) := by
  obtain ⟨p, e, s, m, args, below, meth, c, A, Qc, hx, hb, hml, hown, hts, hr, hlk, hnm, hK, hE, hA, hend, rfl⟩ := C
  exact fun H locs ls hP hD hS hL => lv_i2l hx hb hdg rfl (k H locs ls hP hD hS hL)
theorem j_l2i (C : jK l D G KV own cc nL ret R mc ms nm PP K) {x : Int64} (hdg : decode cc pc = .ok (.l2i, 1))  (k : K cs sl ws (pc + 1) L (.int x.toInt32 :: rest)) : K cs sl ws pc L (.long x :: rest) := by
  obtain ⟨p, e, s, m, args, below, meth, c, A, Qc, hx, hb, hml, hown, hts, hr, hlk, hnm, hK, hE, hA, hend, rfl⟩ := C
  exact fun H locs ls hP hD hS hL => lv_l2i hx hb hdg rfl (k H locs ls hP hD hS hL)
theorem j_i2b (C : jK l D G KV own cc nL ret R mc ms nm PP K) {x : Int32} (hdg : decode cc pc = .ok (.i2b, 1))  (k : K cs sl ws (pc + 1) L (.int x.toInt8.toInt32 :: rest)) : K cs sl ws pc L (.int x :: rest) := by
  obtain ⟨p, e, s, m, args, below, meth, c, A, Qc, hx, hb, hml, hown, hts, hr, hlk, hnm, hK, hE, hA, hend, rfl⟩ := C
  exact fun H locs ls hP hD hS hL => lv_i2b hx hb hdg rfl (k H locs ls hP hD hS hL)
theorem j_i2c (C : jK l D G KV own cc nL ret R mc ms nm PP K) {x : Int32} (hdg : decode cc pc = .ok (.i2c, 1))  (k : K cs sl ws (pc + 1) L (.int (x.toUInt32 % 65536).toInt32 :: rest)) : K cs sl ws pc L (.int x :: rest) := by
  obtain ⟨p, e, s, m, args, below, meth, c, A, Qc, hx, hb, hml, hown, hts, hr, hlk, hnm, hK, hE, hA, hend, rfl⟩ := C
  exact fun H locs ls hP hD hS hL => lv_i2c hx hb hdg rfl (k H locs ls hP hD hS hL)
theorem j_dup (C : jK l D G KV own cc nL ret R mc ms nm PP K) {va : Value} (hdg : decode cc pc = .ok (.dup, 1)) (hva : va.category = 1) (k : K cs sl ws (pc + 1) L (va :: va :: rest)) : K cs sl ws pc L (va :: rest) := by
  obtain ⟨p, e, s, m, args, below, meth, c, A, Qc, hx, hb, hml, hown, hts, hr, hlk, hnm, hK, hE, hA, hend, rfl⟩ := C
  exact fun H locs ls hP hD hS hL => lv_dup hx hb hdg hva (k H locs ls hP hD hS hL)
theorem j_pop (C : jK l D G KV own cc nL ret R mc ms nm PP K) {va : Value} (hdg : decode cc pc = .ok (.pop, 1)) (hva : va.category = 1) (k : K cs sl ws (pc + 1) L (rest)) : K cs sl ws pc L (va :: rest) := by
  obtain ⟨p, e, s, m, args, below, meth, c, A, Qc, hx, hb, hml, hown, hts, hr, hlk, hnm, hK, hE, hA, hend, rfl⟩ := C
  exact fun H locs ls hP hD hS hL => lv_pop hx hb hdg hva (k H locs ls hP hD hS hL)
theorem j_dup2 (C : jK l D G KV own cc nL ret R mc ms nm PP K) {va vb : Value} (hdg : decode cc pc = .ok (.dup2, 1)) (hva : va.category = 1) (hvb : vb.category = 1) (k : K cs sl ws (pc + 1) L (va :: vb :: va :: vb :: rest)) : K cs sl ws pc L (va :: vb :: rest) := by
  obtain ⟨p, e, s, m, args, below, meth, c, A, Qc, hx, hb, hml, hown, hts, hr, hlk, hnm, hK, hE, hA, hend, rfl⟩ := C
  exact fun H locs ls hP hD hS hL => lv_dup2_11 hx hb hdg hva hvb (k H locs ls hP hD hS hL)
theorem j_ldc (C : jK l D G KV own cc nL ret R mc ms nm PP K) {idx : Nat} {v : Int32} (hdg : decode cc pc = .ok (.ldc idx, 2)) (hc : Cond.constant own idx v ∈ tW) (k : K cs sl ws (pc + 2) L (.int v :: rest)) : K cs sl ws pc L (rest) := by
  obtain ⟨p, e, s, m, args, below, meth, c, A, Qc, hx, hb, hml, hown, hts, hr, hlk, hnm, hK, hE, hA, hend, rfl⟩ := C
  exact fun H locs ls hP hD hS hL => lv_ldc hx hb hown (hts _ hc) hdg (k H locs ls hP hD hS hL)
theorem j_ldcw (C : jK l D G KV own cc nL ret R mc ms nm PP K) {idx : Nat} {v : Int32} (hdg : decode cc pc = .ok (.ldc_w idx, 3)) (hc : Cond.constant own idx v ∈ tW) (k : K cs sl ws (pc + 3) L (.int v :: rest)) : K cs sl ws pc L (rest) := by
  obtain ⟨p, e, s, m, args, below, meth, c, A, Qc, hx, hb, hml, hown, hts, hr, hlk, hnm, hK, hE, hA, hend, rfl⟩ := C
  exact fun H locs ls hP hD hS hL => lv_ldcw hx hb hown (hts _ hc) hdg (k H locs ls hP hD hS hL)
theorem j_ldc2 (C : jK l D G KV own cc nL ret R mc ms nm PP K) {idx : Nat} {v : Int64} (hdg : decode cc pc = .ok (.ldc2_w idx, 3)) (hc : Cond.constantLong own idx v ∈ tW) (k : K cs sl ws (pc + 3) L (.long v :: rest)) : K cs sl ws pc L (rest) := by
  obtain ⟨p, e, s, m, args, below, meth, c, A, Qc, hx, hb, hml, hown, hts, hr, hlk, hnm, hK, hE, hA, hend, rfl⟩ := C
  exact fun H locs ls hP hD hS hL => lv_ldc2 hx hb hown (hts _ hc) hdg (k H locs ls hP hD hS hL)
theorem j_goto (C : jK l D G KV own cc nL ret R mc ms nm PP K) {off : Int} {tgt : Nat} (hdg : decode cc pc = .ok (.goto off, 3)) (ht : (pc : Int) + off = (tgt : Int)) (k : K cs sl ws tgt L rest) : K cs sl ws pc L rest := by
  obtain ⟨p, e, s, m, args, below, meth, c, A, Qc, hx, hb, hml, hown, hts, hr, hlk, hnm, hK, hE, hA, hend, rfl⟩ := C
  exact fun H locs ls hP hD hS hL => lv_goto hx hb hdg ht (k H locs ls hP hD hS hL)
theorem j_if_eq (C : jK l D G KV own cc nL ret R mc ms nm PP K) {x : Int32} {off : Int} {tgt : Nat} (hdg : decode cc pc = .ok (.ifCond .eq off, 3)) (ht : (pc : Int) + off = (tgt : Int)) (kt : x = 0 → K cs sl ws tgt L rest) (kf : ¬ (x = 0) → K cs sl ws (pc + 3) L rest) : K cs sl ws pc L (.int x :: rest) := by
  obtain ⟨p, e, s, m, args, below, meth, c, A, Qc, hx, hb, hml, hown, hts, hr, hlk, hnm, hK, hE, hA, hend, rfl⟩ := C
  exact fun H locs ls hP hD hS hL => lv_if_eq hx hb hdg ht (fun h => kt h H locs ls hP hD hS hL) (fun h => kf h H locs ls hP hD hS hL)
theorem j_if_ne (C : jK l D G KV own cc nL ret R mc ms nm PP K) {x : Int32} {off : Int} {tgt : Nat} (hdg : decode cc pc = .ok (.ifCond .ne off, 3)) (ht : (pc : Int) + off = (tgt : Int)) (kt : ¬ x = 0 → K cs sl ws tgt L rest) (kf : x = 0 → K cs sl ws (pc + 3) L rest) : K cs sl ws pc L (.int x :: rest) := by
  obtain ⟨p, e, s, m, args, below, meth, c, A, Qc, hx, hb, hml, hown, hts, hr, hlk, hnm, hK, hE, hA, hend, rfl⟩ := C
  exact fun H locs ls hP hD hS hL => lv_if_ne hx hb hdg ht (fun h => kt h H locs ls hP hD hS hL) (fun h => kf h H locs ls hP hD hS hL)
theorem j_if_lt (C : jK l D G KV own cc nL ret R mc ms nm PP K) {x : Int32} {off : Int} {tgt : Nat} (hdg : decode cc pc = .ok (.ifCond .lt off, 3)) (ht : (pc : Int) + off = (tgt : Int)) (kt : x < 0 → K cs sl ws tgt L rest) (kf : ¬ (x < 0) → K cs sl ws (pc + 3) L rest) : K cs sl ws pc L (.int x :: rest) := by
  obtain ⟨p, e, s, m, args, below, meth, c, A, Qc, hx, hb, hml, hown, hts, hr, hlk, hnm, hK, hE, hA, hend, rfl⟩ := C
  exact fun H locs ls hP hD hS hL => lv_if_lt hx hb hdg ht (fun h => kt h H locs ls hP hD hS hL) (fun h => kf h H locs ls hP hD hS hL)
theorem j_if_ge (C : jK l D G KV own cc nL ret R mc ms nm PP K) {x : Int32} {off : Int} {tgt : Nat} (hdg : decode cc pc = .ok (.ifCond .ge off, 3)) (ht : (pc : Int) + off = (tgt : Int)) (kt : 0 ≤ x → K cs sl ws tgt L rest) (kf : ¬ (0 ≤ x) → K cs sl ws (pc + 3) L rest) : K cs sl ws pc L (.int x :: rest) := by
  obtain ⟨p, e, s, m, args, below, meth, c, A, Qc, hx, hb, hml, hown, hts, hr, hlk, hnm, hK, hE, hA, hend, rfl⟩ := C
  exact fun H locs ls hP hD hS hL => lv_if_ge hx hb hdg ht (fun h => kt h H locs ls hP hD hS hL) (fun h => kf h H locs ls hP hD hS hL)
theorem j_if_gt (C : jK l D G KV own cc nL ret R mc ms nm PP K) {x : Int32} {off : Int} {tgt : Nat} (hdg : decode cc pc = .ok (.ifCond .gt off, 3)) (ht : (pc : Int) + off = (tgt : Int)) (kt : 0 < x → K cs sl ws tgt L rest) (kf : ¬ (0 < x) → K cs sl ws (pc + 3) L rest) : K cs sl ws pc L (.int x :: rest) := by
  obtain ⟨p, e, s, m, args, below, meth, c, A, Qc, hx, hb, hml, hown, hts, hr, hlk, hnm, hK, hE, hA, hend, rfl⟩ := C
  exact fun H locs ls hP hD hS hL => lv_if_gt hx hb hdg ht (fun h => kt h H locs ls hP hD hS hL) (fun h => kf h H locs ls hP hD hS hL)
theorem j_if_le (C : jK l D G KV own cc nL ret R mc ms nm PP K) {x : Int32} {off : Int} {tgt : Nat} (hdg : decode cc pc = .ok (.ifCond .le off, 3)) (ht : (pc : Int) + off = (tgt : Int)) (kt : x ≤ 0 → K cs sl ws tgt L rest) (kf : ¬ (x ≤ 0) → K cs sl ws (pc + 3) L rest) : K cs sl ws pc L (.int x :: rest) := by
  obtain ⟨p, e, s, m, args, below, meth, c, A, Qc, hx, hb, hml, hown, hts, hr, hlk, hnm, hK, hE, hA, hend, rfl⟩ := C
  exact fun H locs ls hP hD hS hL => lv_if_le hx hb hdg ht (fun h => kt h H locs ls hP hD hS hL) (fun h => kf h H locs ls hP hD hS hL)
theorem j_icmp_eq (C : jK l D G KV own cc nL ret R mc ms nm PP K) {x y : Int32} {off : Int} {tgt : Nat} (hdg : decode cc pc = .ok (.if_icmp .eq off, 3)) (ht : (pc : Int) + off = (tgt : Int)) (kt : x = y → K cs sl ws tgt L rest) (kf : ¬ (x = y) → K cs sl ws (pc + 3) L rest) : K cs sl ws pc L (.int y :: .int x :: rest) := by
  obtain ⟨p, e, s, m, args, below, meth, c, A, Qc, hx, hb, hml, hown, hts, hr, hlk, hnm, hK, hE, hA, hend, rfl⟩ := C
  exact fun H locs ls hP hD hS hL => lv_icmp_eq hx hb hdg ht (fun h => kt h H locs ls hP hD hS hL) (fun h => kf h H locs ls hP hD hS hL)
theorem j_icmp_ne (C : jK l D G KV own cc nL ret R mc ms nm PP K) {x y : Int32} {off : Int} {tgt : Nat} (hdg : decode cc pc = .ok (.if_icmp .ne off, 3)) (ht : (pc : Int) + off = (tgt : Int)) (kt : ¬ x = y → K cs sl ws tgt L rest) (kf : x = y → K cs sl ws (pc + 3) L rest) : K cs sl ws pc L (.int y :: .int x :: rest) := by
  obtain ⟨p, e, s, m, args, below, meth, c, A, Qc, hx, hb, hml, hown, hts, hr, hlk, hnm, hK, hE, hA, hend, rfl⟩ := C
  exact fun H locs ls hP hD hS hL => lv_icmp_ne hx hb hdg ht (fun h => kt h H locs ls hP hD hS hL) (fun h => kf h H locs ls hP hD hS hL)
theorem j_icmp_lt (C : jK l D G KV own cc nL ret R mc ms nm PP K) {x y : Int32} {off : Int} {tgt : Nat} (hdg : decode cc pc = .ok (.if_icmp .lt off, 3)) (ht : (pc : Int) + off = (tgt : Int)) (kt : x < y → K cs sl ws tgt L rest) (kf : ¬ (x < y) → K cs sl ws (pc + 3) L rest) : K cs sl ws pc L (.int y :: .int x :: rest) := by
  obtain ⟨p, e, s, m, args, below, meth, c, A, Qc, hx, hb, hml, hown, hts, hr, hlk, hnm, hK, hE, hA, hend, rfl⟩ := C
  exact fun H locs ls hP hD hS hL => lv_icmp_lt hx hb hdg ht (fun h => kt h H locs ls hP hD hS hL) (fun h => kf h H locs ls hP hD hS hL)
theorem j_icmp_ge (C : jK l D G KV own cc nL ret R mc ms nm PP K) {x y : Int32} {off : Int} {tgt : Nat} (hdg : decode cc pc = .ok (.if_icmp .ge off, 3)) (ht : (pc : Int) + off = (tgt : Int)) (kt : y ≤ x → K cs sl ws tgt L rest) (kf : ¬ (y ≤ x) → K cs sl ws (pc + 3) L rest) : K cs sl ws pc L (.int y :: .int x :: rest) := by
  obtain ⟨p, e, s, m, args, below, meth, c, A, Qc, hx, hb, hml, hown, hts, hr, hlk, hnm, hK, hE, hA, hend, rfl⟩ := C
  exact fun H locs ls hP hD hS hL => lv_icmp_ge hx hb hdg ht (fun h => kt h H locs ls hP hD hS hL) (fun h => kf h H locs ls hP hD hS hL)
theorem j_icmp_gt (C : jK l D G KV own cc nL ret R mc ms nm PP K) {x y : Int32} {off : Int} {tgt : Nat} (hdg : decode cc pc = .ok (.if_icmp .gt off, 3)) (ht : (pc : Int) + off = (tgt : Int)) (kt : y < x → K cs sl ws tgt L rest) (kf : ¬ (y < x) → K cs sl ws (pc + 3) L rest) : K cs sl ws pc L (.int y :: .int x :: rest) := by
  obtain ⟨p, e, s, m, args, below, meth, c, A, Qc, hx, hb, hml, hown, hts, hr, hlk, hnm, hK, hE, hA, hend, rfl⟩ := C
  exact fun H locs ls hP hD hS hL => lv_icmp_gt hx hb hdg ht (fun h => kt h H locs ls hP hD hS hL) (fun h => kf h H locs ls hP hD hS hL)
theorem j_icmp_le (C : jK l D G KV own cc nL ret R mc ms nm PP K) {x y : Int32} {off : Int} {tgt : Nat} (hdg : decode cc pc = .ok (.if_icmp .le off, 3)) (ht : (pc : Int) + off = (tgt : Int)) (kt : x ≤ y → K cs sl ws tgt L rest) (kf : ¬ (x ≤ y) → K cs sl ws (pc + 3) L rest) : K cs sl ws pc L (.int y :: .int x :: rest) := by
  obtain ⟨p, e, s, m, args, below, meth, c, A, Qc, hx, hb, hml, hown, hts, hr, hlk, hnm, hK, hE, hA, hend, rfl⟩ := C
  exact fun H locs ls hP hD hS hL => lv_icmp_le hx hb hdg ht (fun h => kt h H locs ls hP hD hS hL) (fun h => kf h H locs ls hP hD hS hL)
theorem j_tin (C : jK l D G KV own cc nL ret R mc ms nm PP K) {dflt lo hi : Int} {offs : Array Int} {len : Nat} {x : Int32} {off : Int} {tgt : Nat} (hdg : decode cc pc = .ok (.tableswitch dflt lo hi offs, len)) (h1 : ¬ x.toInt < lo) (h2 : ¬ hi < x.toInt) (ho : offs[(x.toInt - lo).toNat]? = some off) (ht : (pc : Int) + off = (tgt : Int)) (k : K cs sl ws tgt L rest) : K cs sl ws pc L (.int x :: rest) := by
  obtain ⟨p, e, s, m, args, below, meth, c, A, Qc, hx, hb, hml, hown, hts, hr, hlk, hnm, hK, hE, hA, hend, rfl⟩ := C
  exact fun H locs ls hP hD hS hL => lv_tableIn hx hb hdg h1 h2 ho ht (k H locs ls hP hD hS hL)
theorem j_tout (C : jK l D G KV own cc nL ret R mc ms nm PP K) {dflt lo hi : Int} {offs : Array Int} {len : Nat} {x : Int32} {tgt : Nat} (hdg : decode cc pc = .ok (.tableswitch dflt lo hi offs, len)) (h : x.toInt < lo ∨ hi < x.toInt) (ht : (pc : Int) + dflt = (tgt : Int)) (k : K cs sl ws tgt L rest) : K cs sl ws pc L (.int x :: rest) := by
  obtain ⟨p, e, s, m, args, below, meth, c, A, Qc, hx, hb, hml, hown, hts, hr, hlk, hnm, hK, hE, hA, hend, rfl⟩ := C
  exact fun H locs ls hP hD hS hL => lv_tableOut hx hb hdg h ht (k H locs ls hP hD hS hL)
theorem j_loc (C : jK l D G KV own cc nL ret R mc ms nm PP K) {L' : List (Nat × Value)} (qs : List Nat) (hl : lv_pick L qs = L') (k : K cs sl ws pc L' rest) : K cs sl ws pc L rest := by
  obtain ⟨p, e, s, m, args, below, meth, c, A, Qc, hx, hb, hml, hown, hts, hr, hlk, hnm, hK, hE, hA, hend, rfl⟩ := C
  exact fun H locs ls hP hD hS hL => k H locs ls hP hD hS (lv_sub hL qs hl)
theorem j_get (C : jK l D G KV own cc nL ret R mc ms nm PP K) {ref Cn : String} {T : u_T} {N ci idx a : Nat} (hdg : decode cc pc = .ok (.getfield idx, 3)) (hin : ∀ w ∈ u_ws Cn T N, w ∈ tW) (hc : classes[ci]? = some (Cn, T, N)) (q0 : Nat) {fs : List Value} (he : ws[q0]? = some (a, .inr (ci, fs))) (j : Nat) (hj : j < N) (hlink : Cond.fieldLink own idx ref (T j).2.1 (T j).2.2.1 ∈ tW) (hsame : (T j).1 = ref) {v : Value} (hv : fs[j]? = some v) (k : K cs sl ws (pc + 3) L (v :: rest)) : K cs sl ws pc L (.ref a :: rest) := by
  obtain ⟨p, e, s, m, args, below, meth, c, A, Qc, hx, hb, hml, hown, hts, hr, hlk, hnm, hK, hE, hA, hend, rfl⟩ := C
  exact fun H locs ls hP hD hS hL => va_get (D := D) (ci := ci) (C := Cn) (T := T) (N := N) hx hb hts hin hown hK hP q0 he hc j hj (hts _ hlink) (fun _ h => by rw [← hsame]; exact h) hv hdg (k H locs ls hP hD hS hL)
theorem j_put (C : jK l D G KV own cc nL ret R mc ms nm PP K) {ref Cn : String} {T : u_T} {N ci idx a : Nat} (hdg : decode cc pc = .ok (.putfield idx, 3)) (hin : ∀ w ∈ u_ws Cn T N, w ∈ tW) (ty0 : Nat → FieldType) (hty : ∀ k, k < N → parseFieldDescriptor (T k).2.2.1 = some (ty0 k)) (hnm0 : ∀ a, a < N → ∀ b, b < N → a ≠ b → (T a).2.1 ≠ (T b).2.1) (hc : classes[ci]? = some (Cn, T, N)) (q0 : Nat) {fs : List Value} (he : ws[q0]? = some (a, .inr (ci, fs))) (j : Nat) (hj : j < N) (hlink : Cond.fieldLink own idx ref (T j).2.1 (T j).2.2.1 ∈ tW) (hsame : (T j).1 = ref) (hfin : (T j).2.2.2 = false) {v : Value} (hn : narrow (ty0 j) v = v) (hfit : fits (ty0 j) v = true) (hlen : j < fs.length) (k : K cs sl (ws.set q0 (a, .inr (ci, fs.set j v))) (pc + 3) L rest) : K cs sl ws pc L (v :: .ref a :: rest) := by
  obtain ⟨p, e, s, m, args, below, meth, c, A, Qc, hx, hb, hml, hown, hts, hr, hlk, hnm, hK, hE, hA, hend, rfl⟩ := C
  exact fun H locs ls hP hD hS hL => va_put (D := D) (ci := ci) (C := Cn) (T := T) (N := N) hx hb hts hin ty0 hty hnm0 hown hK hP hD hS q0 he hc j hj (hts _ hlink) (fun _ h => by rw [← hsame]; exact h) hfin (hty j hj) hn hfit hlen hdg (fun H1 locs1 hP hD hS => k H1 locs1 ls hP hD hS hL)
theorem j_putF (C : jK l D G KV own cc nL ret R mc ms nm PP K) {ref Cn : String} {T : u_T} {N ci idx a : Nat} (hdg : decode cc pc = .ok (.putfield idx, 3)) (hin : ∀ w ∈ u_ws Cn T N, w ∈ tW) (ty0 : Nat → FieldType) (hty : ∀ k, k < N → parseFieldDescriptor (T k).2.2.1 = some (ty0 k)) (hnm0 : ∀ a, a < N → ∀ b, b < N → a ≠ b → (T a).2.1 ≠ (T b).2.1) (hc : classes[ci]? = some (Cn, T, N)) (q0 : Nat) {fs : List Value} (he : ws[q0]? = some (a, .inr (ci, fs))) (j : Nat) (hj : j < N) (hlink : Cond.fieldLink own idx ref (T j).2.1 (T j).2.2.1 ∈ tW) (hsame : (T j).1 = ref) (hfin : (T j).2.2.2 = true) (hini : nm = "<init>") (hdecl : (T j).1 = own) {v : Value} (hn : narrow (ty0 j) v = v) (hfit : fits (ty0 j) v = true) (hlen : j < fs.length) (k : K cs sl (ws.set q0 (a, .inr (ci, fs.set j v))) (pc + 3) L rest) : K cs sl ws pc L (v :: .ref a :: rest) := by
  obtain ⟨p, e, s, m, args, below, meth, c, A, Qc, hx, hb, hml, hown, hts, hr, hlk, hnm, hK, hE, hA, hend, rfl⟩ := C
  exact fun H locs ls hP hD hS hL => va_putF (D := D) (ci := ci) (C := Cn) (T := T) (N := N) hx hb hts hin ty0 hty hnm0 hown hK hP hD hS q0 he hc j hj (hts _ hlink) (fun _ h => by rw [← hsame]; exact h) hfin (hnm.trans hini) hdecl (hty j hj) hn hfit hlen hdg (fun H1 locs1 hP hD hS => k H1 locs1 ls hP hD hS hL)
theorem j_putI (C : jK l D G KV own cc nL ret R mc ms nm PP K) {ref Cn : String} {T : u_T} {N ci idx : Nat} {Nw : Nat} {cell : jC} {ad : Nat → Nat} {s0 : jS} {q0 : Nat} (hdg : decode cc pc = .ok (.putfield idx, 3)) (hin : ∀ w ∈ u_ws Cn T N, w ∈ tW) (ty0 : Nat → FieldType) (hty : ∀ k, k < N → parseFieldDescriptor (T k).2.2.1 = some (ty0 k)) (hnm : ∀ a, a < N → ∀ b, b < N → a ≠ b → (T a).2.1 ≠ (T b).2.1) (hc : classes[ci]? = some (Cn, T, N)) (hq : q0 < Nw) {fs : List Value} (j : Nat) {x : Int32} (he : cell ad q0 (s0.1 q0) (s0.2 q0) = .inr (ci, fs)) (he2 : cell ad q0 (upd (s0.1 q0) j x) (s0.2 q0) = .inr (ci, fs.set j (.int x))) (hj : j < N) (hlink : Cond.fieldLink own idx ref (T j).2.1 (T j).2.2.1 ∈ tW) (hsame : (T j).1 = ref) (hfin : (T j).2.2.2 = false) (hn : narrow (ty0 j) (.int x) = .int x) (hfit : fits (ty0 j) (.int x) = true) (hlen : j < fs.length) (k : ∀ z : jS, z = upI s0 q0 j x → K cs sl (jw Nw cell ad z) (pc + 3) L rest) : K cs sl (jw Nw cell ad s0) pc L (.int x :: .ref (ad q0) :: rest) := by
  refine j_put C hdg hin ty0 hty hnm hc q0 (by rw [jw_at hq, he]) j hj hlink hsame hfin hn hfit hlen ?_
  have h := jw_set (cell := cell) (ad := ad) (s := s0) (s' := upI s0 q0 j x) hq (fun i hi => va_up_off _ _ hi) (fun _ _ => rfl)
  rw [show (upI s0 q0 j x).1 q0 = upd (s0.1 q0) j x from va_up_at _ _ _, show (upI s0 q0 j x).2 q0 = s0.2 q0 from rfl, he2] at h
  rw [h]
  exact k _ rfl
theorem j_putL (C : jK l D G KV own cc nL ret R mc ms nm PP K) {ref Cn : String} {T : u_T} {N ci idx : Nat} {Nw : Nat} {cell : jC} {ad : Nat → Nat} {s0 : jS} {q0 : Nat} (hdg : decode cc pc = .ok (.putfield idx, 3)) (hin : ∀ w ∈ u_ws Cn T N, w ∈ tW) (ty0 : Nat → FieldType) (hty : ∀ k, k < N → parseFieldDescriptor (T k).2.2.1 = some (ty0 k)) (hnm : ∀ a, a < N → ∀ b, b < N → a ≠ b → (T a).2.1 ≠ (T b).2.1) (hc : classes[ci]? = some (Cn, T, N)) (hq : q0 < Nw) {fs : List Value} (j : Nat) {x : Int64} (he : cell ad q0 (s0.1 q0) (s0.2 q0) = .inr (ci, fs)) (he2 : cell ad q0 (s0.1 q0) (vp_updL (s0.2 q0) j x) = .inr (ci, fs.set j (.long x))) (hj : j < N) (hlink : Cond.fieldLink own idx ref (T j).2.1 (T j).2.2.1 ∈ tW) (hsame : (T j).1 = ref) (hfin : (T j).2.2.2 = false) (hn : narrow (ty0 j) (.long x) = .long x) (hfit : fits (ty0 j) (.long x) = true) (hlen : j < fs.length) (k : ∀ z : jS, z = upL s0 q0 j x → K cs sl (jw Nw cell ad z) (pc + 3) L rest) : K cs sl (jw Nw cell ad s0) pc L (.long x :: .ref (ad q0) :: rest) := by
  refine j_put C hdg hin ty0 hty hnm hc q0 (by rw [jw_at hq, he]) j hj hlink hsame hfin hn hfit hlen ?_
  have h := jw_set (cell := cell) (ad := ad) (s := s0) (s' := upL s0 q0 j x) hq (fun _ _ => rfl) (fun i hi => va_up_off _ _ hi)
  rw [show (upL s0 q0 j x).1 q0 = s0.1 q0 from rfl, show (upL s0 q0 j x).2 q0 = vp_updL (s0.2 q0) j x from va_up_at _ _ _, he2] at h
  rw [h]
  exact k _ rfl
theorem j_iald (C : jK l D G KV own cc nL ret R mc ms nm PP K) {a n : Nat} {f : Nat → Int32} {i : Int32} (hdg : decode cc pc = .ok (.iaload, 1)) (q0 : Nat) (he : ws[q0]? = some (a, .inl (G 0, n, .inl f))) (hi : vp_in i n) (k : K cs sl ws (pc + 1) L (.int (f i.toNatClampNeg) :: rest)) : K cs sl ws pc L (.int i :: .ref a :: rest) := by
  obtain ⟨p, e, s, m, args, below, meth, c, A, Qc, hx, hb, hml, hown, hts, hr, hlk, hnm, hK, hE, hA, hend, rfl⟩ := C
  exact fun H locs ls hP hD hS hL => va_iald hx hb hK hP q0 0 he rfl hi hdg (k H locs ls hP hD hS hL)
theorem j_bald (C : jK l D G KV own cc nL ret R mc ms nm PP K) {a n : Nat} {f : Nat → Int32} {i : Int32} (hdg : decode cc pc = .ok (.baload, 1)) (q0 : Nat) (he : ws[q0]? = some (a, .inl (G 3, n, .inl f))) (hi : vp_in i n) (k : K cs sl ws (pc + 1) L (.int (f i.toNatClampNeg) :: rest)) : K cs sl ws pc L (.int i :: .ref a :: rest) := by
  obtain ⟨p, e, s, m, args, below, meth, c, A, Qc, hx, hb, hml, hown, hts, hr, hlk, hnm, hK, hE, hA, hend, rfl⟩ := C
  exact fun H locs ls hP hD hS hL => va_bald hx hb hK hP q0 3 he rfl hi hdg (k H locs ls hP hD hS hL)
theorem j_zald (C : jK l D G KV own cc nL ret R mc ms nm PP K) {a n : Nat} {f : Nat → Int32} {i : Int32} (hdg : decode cc pc = .ok (.baload, 1)) (q0 : Nat) (he : ws[q0]? = some (a, .inl (G 2, n, .inl f))) (hi : vp_in i n) (k : K cs sl ws (pc + 1) L (.int (f i.toNatClampNeg) :: rest)) : K cs sl ws pc L (.int i :: .ref a :: rest) := by
  obtain ⟨p, e, s, m, args, below, meth, c, A, Qc, hx, hb, hml, hown, hts, hr, hlk, hnm, hK, hE, hA, hend, rfl⟩ := C
  exact fun H locs ls hP hD hS hL => va_zald hx hb hK hP q0 2 he rfl hi hdg (k H locs ls hP hD hS hL)
theorem j_lald (C : jK l D G KV own cc nL ret R mc ms nm PP K) {a n : Nat} {f : Nat → Int64} {i : Int32} (hdg : decode cc pc = .ok (.laload, 1)) (q0 : Nat) (he : ws[q0]? = some (a, .inl (G 1, n, .inr (.inl f)))) (hi : vp_in i n) (k : K cs sl ws (pc + 1) L (.long (f i.toNatClampNeg) :: rest)) : K cs sl ws pc L (.int i :: .ref a :: rest) := by
  obtain ⟨p, e, s, m, args, below, meth, c, A, Qc, hx, hb, hml, hown, hts, hr, hlk, hnm, hK, hE, hA, hend, rfl⟩ := C
  exact fun H locs ls hP hD hS hL => va_lald hx hb hK hP q0 1 he rfl hi hdg (k H locs ls hP hD hS hL)
theorem j_aald (C : jK l D G KV own cc nL ret R mc ms nm PP K) {a n : Nat} {f : Nat → Option Nat} {i : Int32} (hdg : decode cc pc = .ok (.aaload, 1)) (q0 : Nat) (he : ws[q0]? = some (a, .inl (G 4, n, .inr (.inr (.inr (.inr f)))))) (hi : vp_in i n) (k : K cs sl ws (pc + 1) L (va_rf (f i.toNatClampNeg) :: rest)) : K cs sl ws pc L (.int i :: .ref a :: rest) := by
  obtain ⟨p, e, s, m, args, below, meth, c, A, Qc, hx, hb, hml, hown, hts, hr, hlk, hnm, hK, hE, hA, hend, rfl⟩ := C
  exact fun H locs ls hP hD hS hL => va_aldq hx hb hK hP q0 4 he rfl hi hdg (k H locs ls hP hD hS hL)
theorem j_iast (C : jK l D G KV own cc nL ret R mc ms nm PP K) {a n : Nat} {f : Nat → Int32} {i : Int32} {x : Int32} (hdg : decode cc pc = .ok (.iastore, 1)) (q0 : Nat) (he : ws[q0]? = some (a, .inl (G 0, n, .inl  f))) (hi : vp_in i n) (k : K cs sl (ws.set q0 (a, .inl (G 0, n, .inl  (upd f i.toNatClampNeg x)))) (pc + 1) L rest) : K cs sl ws pc L (.int x :: .int i :: .ref a :: rest) := by
  obtain ⟨p, e, s, m, args, below, meth, c, A, Qc, hx, hb, hml, hown, hts, hr, hlk, hnm, hK, hE, hA, hend, rfl⟩ := C
  exact fun H locs ls hP hD hS hL => va_iast hx hb hK hP hD hS q0 0 he rfl hi hdg (fun H1 locs1 hP hD hS => k H1 locs1 ls hP hD hS hL)
theorem j_iastW (C : jK l D G KV own cc nL ret R mc ms nm PP K) {n Nw : Nat} {cell : jC} {ad : Nat → Nat} {s0 : jS} {q0 : Nat} {i : Int32} {x : Int32} (hdg : decode cc pc = .ok (.iastore, 1)) (hq : q0 < Nw) (he : ∀ r : Nat → Int32, cell ad q0 r (s0.2 q0) = .inl (G 0, n, .inl r)) (hi : vp_in i n) (k : ∀ z : jS, z = upI s0 q0 i.toNatClampNeg x → K cs sl (jw Nw cell ad z) (pc + 1) L rest) : K cs sl (jw Nw cell ad s0) pc L (.int x :: .int i :: .ref (ad q0) :: rest) := by
  refine j_iast C hdg q0 (by rw [jw_at hq, he]) hi ?_
  have h := jw_set (cell := cell) (ad := ad) (s := s0) (s' := upI s0 q0 i.toNatClampNeg x) hq (fun i hi => va_up_off _ _ hi) (fun _ _ => rfl)
  rw [show (upI s0 q0 i.toNatClampNeg x).1 q0 = upd (s0.1 q0) i.toNatClampNeg x from va_up_at _ _ _, show (upI s0 q0 i.toNatClampNeg x).2 q0 = s0.2 q0 from rfl, he] at h
  rw [h]
  exact k _ rfl
theorem j_bast (C : jK l D G KV own cc nL ret R mc ms nm PP K) {a n : Nat} {f : Nat → Int32} {i : Int32} {x : Int32} (hdg : decode cc pc = .ok (.bastore, 1)) (q0 : Nat) (he : ws[q0]? = some (a, .inl (G 3, n, .inl  f))) (hi : vp_in i n) (k : K cs sl (ws.set q0 (a, .inl (G 3, n, .inl  (upd f i.toNatClampNeg (vp_nar .byte x))))) (pc + 1) L rest) : K cs sl ws pc L (.int x :: .int i :: .ref a :: rest) := by
  obtain ⟨p, e, s, m, args, below, meth, c, A, Qc, hx, hb, hml, hown, hts, hr, hlk, hnm, hK, hE, hA, hend, rfl⟩ := C
  exact fun H locs ls hP hD hS hL => va_bast hx hb hK hP hD hS q0 3 he rfl hi hdg (fun H1 locs1 hP hD hS => k H1 locs1 ls hP hD hS hL)
theorem j_bastW (C : jK l D G KV own cc nL ret R mc ms nm PP K) {n Nw : Nat} {cell : jC} {ad : Nat → Nat} {s0 : jS} {q0 : Nat} {i : Int32} {x : Int32} (hdg : decode cc pc = .ok (.bastore, 1)) (hq : q0 < Nw) (he : ∀ r : Nat → Int32, cell ad q0 r (s0.2 q0) = .inl (G 3, n, .inl r)) (hi : vp_in i n) (k : ∀ z : jS, z = upI s0 q0 i.toNatClampNeg (vp_nar .byte x) → K cs sl (jw Nw cell ad z) (pc + 1) L rest) : K cs sl (jw Nw cell ad s0) pc L (.int x :: .int i :: .ref (ad q0) :: rest) := by
  refine j_bast C hdg q0 (by rw [jw_at hq, he]) hi ?_
  have h := jw_set (cell := cell) (ad := ad) (s := s0) (s' := upI s0 q0 i.toNatClampNeg (vp_nar .byte x)) hq (fun i hi => va_up_off _ _ hi) (fun _ _ => rfl)
  rw [show (upI s0 q0 i.toNatClampNeg (vp_nar .byte x)).1 q0 = upd (s0.1 q0) i.toNatClampNeg (vp_nar .byte x) from va_up_at _ _ _, show (upI s0 q0 i.toNatClampNeg (vp_nar .byte x)).2 q0 = s0.2 q0 from rfl, he] at h
  rw [h]
  exact k _ rfl
theorem j_zast (C : jK l D G KV own cc nL ret R mc ms nm PP K) {a n : Nat} {f : Nat → Int32} {i : Int32} {x : Int32} (hdg : decode cc pc = .ok (.bastore, 1)) (q0 : Nat) (he : ws[q0]? = some (a, .inl (G 2, n, .inl  f))) (hi : vp_in i n) (k : K cs sl (ws.set q0 (a, .inl (G 2, n, .inl  (upd f i.toNatClampNeg (vp_nar .boolean x))))) (pc + 1) L rest) : K cs sl ws pc L (.int x :: .int i :: .ref a :: rest) := by
  obtain ⟨p, e, s, m, args, below, meth, c, A, Qc, hx, hb, hml, hown, hts, hr, hlk, hnm, hK, hE, hA, hend, rfl⟩ := C
  exact fun H locs ls hP hD hS hL => va_zast hx hb hK hP hD hS q0 2 he rfl hi hdg (fun H1 locs1 hP hD hS => k H1 locs1 ls hP hD hS hL)
theorem j_zastW (C : jK l D G KV own cc nL ret R mc ms nm PP K) {n Nw : Nat} {cell : jC} {ad : Nat → Nat} {s0 : jS} {q0 : Nat} {i : Int32} {x : Int32} (hdg : decode cc pc = .ok (.bastore, 1)) (hq : q0 < Nw) (he : ∀ r : Nat → Int32, cell ad q0 r (s0.2 q0) = .inl (G 2, n, .inl r)) (hi : vp_in i n) (k : ∀ z : jS, z = upI s0 q0 i.toNatClampNeg (vp_nar .boolean x) → K cs sl (jw Nw cell ad z) (pc + 1) L rest) : K cs sl (jw Nw cell ad s0) pc L (.int x :: .int i :: .ref (ad q0) :: rest) := by
  refine j_zast C hdg q0 (by rw [jw_at hq, he]) hi ?_
  have h := jw_set (cell := cell) (ad := ad) (s := s0) (s' := upI s0 q0 i.toNatClampNeg (vp_nar .boolean x)) hq (fun i hi => va_up_off _ _ hi) (fun _ _ => rfl)
  rw [show (upI s0 q0 i.toNatClampNeg (vp_nar .boolean x)).1 q0 = upd (s0.1 q0) i.toNatClampNeg (vp_nar .boolean x) from va_up_at _ _ _, show (upI s0 q0 i.toNatClampNeg (vp_nar .boolean x)).2 q0 = s0.2 q0 from rfl, he] at h
  rw [h]
  exact k _ rfl
theorem j_last (C : jK l D G KV own cc nL ret R mc ms nm PP K) {a n : Nat} {f : Nat → Int64} {i : Int32} {x : Int64} (hdg : decode cc pc = .ok (.lastore, 1)) (q0 : Nat) (he : ws[q0]? = some (a, .inl (G 1, n, .inr (.inl f)))) (hi : vp_in i n) (k : K cs sl (ws.set q0 (a, .inl (G 1, n, .inr (.inl (vp_updL f i.toNatClampNeg x))))) (pc + 1) L rest) : K cs sl ws pc L (.long x :: .int i :: .ref a :: rest) := by
  obtain ⟨p, e, s, m, args, below, meth, c, A, Qc, hx, hb, hml, hown, hts, hr, hlk, hnm, hK, hE, hA, hend, rfl⟩ := C
  exact fun H locs ls hP hD hS hL => va_last hx hb hK hP hD hS q0 1 he rfl hi hdg (fun H1 locs1 hP hD hS => k H1 locs1 ls hP hD hS hL)
theorem j_lastW (C : jK l D G KV own cc nL ret R mc ms nm PP K) {n Nw : Nat} {cell : jC} {ad : Nat → Nat} {s0 : jS} {q0 : Nat} {i : Int32} {x : Int64} (hdg : decode cc pc = .ok (.lastore, 1)) (hq : q0 < Nw) (he : ∀ r : Nat → Int64, cell ad q0 (s0.1 q0) r = .inl (G 1, n, .inr (.inl r))) (hi : vp_in i n) (k : ∀ z : jS, z = upL s0 q0 i.toNatClampNeg x → K cs sl (jw Nw cell ad z) (pc + 1) L rest) : K cs sl (jw Nw cell ad s0) pc L (.long x :: .int i :: .ref (ad q0) :: rest) := by
  refine j_last C hdg q0 (by rw [jw_at hq, he]) hi ?_
  have h := jw_set (cell := cell) (ad := ad) (s := s0) (s' := upL s0 q0 i.toNatClampNeg x) hq (fun _ _ => rfl) (fun i hi => va_up_off _ _ hi)
  rw [show (upL s0 q0 i.toNatClampNeg x).1 q0 = s0.1 q0 from rfl, show (upL s0 q0 i.toNatClampNeg x).2 q0 = vp_updL (s0.2 q0) i.toNatClampNeg x from va_up_at _ _ _, he] at h
  rw [h]
  exact k _ rfl
theorem j_alen (C : jK l D G KV own cc nL ret R mc ms nm PP K) {a t : Nat} {ar : vp_A} (hdg : decode cc pc = .ok (.arraylength, 1)) (q0 : Nat) (he : ws[q0]? = some (a, .inl (G t, ar))) (ht : t < 5) {v : Int32} (hv : Int32.ofNat ar.1 = v) (k : K cs sl ws (pc + 1) L (.int v :: rest)) : K cs sl ws pc L (.ref a :: rest) := by
  obtain ⟨p, e, s, m, args, below, meth, c, A, Qc, hx, hb, hml, hown, hts, hr, hlk, hnm, hK, hE, hA, hend, rfl⟩ := C
  intro H locs ls hP hD hS hL
  have h : ∃ ty, (jtys G)[t]? = some (G t, ty) := by
    match t, ht with
    | 0, _ => exact ⟨_, rfl⟩
    | 1, _ => exact ⟨_, rfl⟩
    | 2, _ => exact ⟨_, rfl⟩
    | 3, _ => exact ⟨_, rfl⟩
    | 4, _ => exact ⟨_, rfl⟩
  obtain ⟨ty, ht2⟩ := h
  exact va_alen hx hb hK hP q0 t he ht2 hv hdg (k H locs ls hP hD hS hL)
theorem j_iret (C : jK l D G KV own cc nL ret R mc ms nm PP K) {v : Int32} (hdg : decode cc pc = .ok (.ireturn, 1)) {ty : FieldType} (hret : ret = some ty) (hn : narrow ty (.int v) = .int v) (h1 : cs ≤ mc) (h2 : sl ≤ ms) (hp : PP (some (.int v)) ws) : K cs sl ws pc L [.int v] := by
  obtain ⟨p, e, s, m, args, below, meth, c, A, Qc, hx, hb, hml, hown, hts, hr, hlk, hnm, hK, hE, hA, hend, rfl⟩ := C
  exact fun H locs ls hP hD hS hL => W.widen h1 h2 (W.zret hx hb (hr.trans hret) hn (fun t ht hW => hend _ ws H locs t hP hD hS hp ht hW) hS.2.2 hdg hlk)
theorem j_lret (C : jK l D G KV own cc nL ret R mc ms nm PP K) {v : Int64} (hdg : decode cc pc = .ok (.lreturn, 1)) (hret : ret = some .long) (h1 : cs ≤ mc) (h2 : sl ≤ ms) (hp : PP (some (.long v)) ws) : K cs sl ws pc L [.long v] := by
  obtain ⟨p, e, s, m, args, below, meth, c, A, Qc, hx, hb, hml, hown, hts, hr, hlk, hnm, hK, hE, hA, hend, rfl⟩ := C
  exact fun H locs ls hP hD hS hL => W.widen h1 h2 (W.lret hx hb (hr.trans hret) (fun t ht hW => hend _ ws H locs t hP hD hS hp ht hW) hS.2.2 hdg hlk)
theorem j_vret (C : jK l D G KV own cc nL ret R mc ms nm PP K) (hdg : decode cc pc = .ok (.return_, 1)) (hret : ret = none) (h1 : cs ≤ mc) (h2 : sl ≤ ms) (hp : PP none ws) : K cs sl ws pc L [] := by
  obtain ⟨p, e, s, m, args, below, meth, c, A, Qc, hx, hb, hml, hown, hts, hr, hlk, hnm, hK, hE, hA, hend, rfl⟩ := C
  exact fun H locs ls hP hD hS hL => W.widen h1 h2 (W.vret hx hb (hr.trans hret) (fun t ht hW => hend _ ws H locs t hP hD hS hp ht hW) hS.2.2 hdg hlk)
theorem jr_call {p : Program} {e : Env} {s : State} {m : MethodId} {args : Array Value} {below : List Frame} {meth : Method} {c : Code} {A : Nat → Prop} {Q : State → Prop} {H : Heap} {locs : List Loc} {mc' ms' sz : Nat} {PP' : Option Value → va_W → Prop} {st0 : List Value} {ls : Array Slot} {av : Array Value}
    (hsz : sz = H.size) (hr : va_Run p l e R s m args below meth c H locs cs sl mc' ms' (F0 m pc ls st0) rest (jQ D G PP' (va_A ws sz) av) (va_A ws sz)) (hS : va_S A s.heap H locs) (hA : ∀ q, va_A ws sz q → A q)
    (kk : ∀ (v : Option Value) (u : va_W) (H1 : Heap) (locs1 : List Loc), PP' v u → va_P D classes u H1 → va_D A u → va_S A s.heap H1 locs1 → W p l e R s m args below meth c H1 locs1 (cs + mc') (sl + ms') Q (F0 m (pc + 3) ls (v.toList ++ rest))) : W p l e R s m args below meth c H locs cs sl Q (F0 m pc ls st0) := by
  intro T hT X
  obtain ⟨v, st₀, t, T', L, h0, X', hL, e1, e2, ⟨⟨v2, u, hv, hp, hb1, hb2, hb3⟩, hz, hk⟩, st⟩ := hr T hT X
  cases hv
  rw [h0] at hz hk
  obtain ⟨t2, a1, b1⟩ := kk v u T'.heap (locs ++ L) hp (by rw [e1]; exact hb1) (hb3.weaken (fun _ q _ h => hA q.1 h))
    ⟨Nat.le_trans hS.1 (by rw [e1]; exact hz), fun q h1 h2 => by rw [e1, hk q (Nat.lt_of_lt_of_le h1 hS.1) (fun z => h2 (hA q z))]; exact hS.2.1 q h1 h2, fun q hq => by
      rcases List.mem_append.mp hq with h | h
      · exact hS.2.2 q h
      · exact hA _ (hL q h)⟩ T' rfl X'
  exact ⟨t2, st t2 a1, b1⟩
theorem jr_A {A : Nat → Prop} {s : State} {H : Heap} {locs : List Loc} (hD : va_D A ws) (hS : va_S A s.heap H locs) (hA : ∀ q, s.heap.size ≤ q → A q) : ∀ q, va_A ws H.size q → A q := by
  intro q h
  rcases h with ⟨k, e, h⟩ | h
  · exact hD.2 k (q, e) h
  · exact hA q (Nat.le_trans hS.1 h)
theorem jr_blind {av : List Value} {sz : Nat} {A : Nat → Prop} : FrameBlind (va_Pc av (fun U => U.heap.size = sz ∧ va_P D classes ws U.heap ∧ va_K D classes (jtys G) U ∧ va_D (fun _ => True) ws ∧ jE KV A U)) := by
  intro a U g mk q
  obtain ⟨q0, q1, qP, qK, qD, qE⟩ := q
  exact ⟨q0, q1, qP, va_K.moved (u := U) (U := U.calling g mk a) (Vm.Alike.refl U.vm) qK, qD, qE.calling⟩
theorem jr_pre {av : List Value} {s U : State} {A : Nat → Prop} {H : Heap} {locs : List Loc} (hK : va_K D classes (jtys G) s) (hE : jE KV A s) (hA : ∀ q, s.heap.size ≤ q → A q) (hP : va_P D classes ws H) (hD : va_D A ws) (hS : va_S A s.heap H locs) (hU : U.heap = H) (hW : s.WarmedH U.vm) :
    va_Pc av (fun U => U.heap.size = H.size ∧ va_P D classes ws U.heap ∧ va_K D classes (jtys G) U ∧ va_D (fun _ => True) ws ∧ jE KV (va_A ws H.size) U) av.toArray U :=
  ⟨rfl, by rw [hU], by rw [hU]; exact hP, va_K.moved hW.alike hK, hD.weaken (fun _ _ _ _ => trivial), hE.call hS hU hW (jr_A hD hS hA)⟩
/-- what a call's word and room must be: the callee's frames, locals and new cells fit -/
abbrev jfit (R rm : Room) (nL' mc' ms' cs sl : Nat) : Prop := (rm.frames + 1 ≤ R.frames ∧ 8 + (nL' + 11) + rm.locals ≤ R.locals) ∧ (rm.cells = mc' ∧ rm.slots = ms') ∧ (cs + mc' ≤ R.cells ∧ sl + ms' ≤ R.slots)
abbrev jyes (y : MethodName) (n : Nat) : Prop := y.cls ≠ "java/lang/invoke/MethodHandle" ∧ y.cls ≠ "java/lang/invoke/VarHandle" ∧ (parseMethodDescriptor y.desc).map (fun d => d.parameters.length) = some n
theorem j_callS (C : jK l D G KV own cc nL ret R mc ms nm PP K) {y : MethodName} {b : ByteArray} {nL' : Nat} {ret' : Option FieldType} {rm : Room} {av st : List Value} {mc' ms' idx : Nat} {PP' : Option Value → va_W → Prop} (hdg : decode cc pc = .ok (.invokestatic idx, 3)) (hM : jM l D G KV y b nL' ret' rm av ws mc' ms' PP') (hcode : Cond.code y b nL' ret' ∈ tW) (hlink : Cond.methodLink own idx y ∈ tW) (hst : Cond.static y ∈ tW) (hini : Cond.initialized y.cls ∈ tW) (hy : jyes y av.length) (hf : jfit R rm nL' mc' ms' cs sl) (hw : (rest.map fun v => v.category).sum ≤ 8) (hs : st = av.reverse ++ rest)
    (k : ∀ (v : Option Value) (u : va_W), PP' v u → K (cs + mc') (sl + ms') u (pc + 3) L (v.toList ++ rest)) : K cs sl ws pc L st := by
  obtain ⟨p, e, s, m, args, below, meth, c, A, Qc, hx, hb, hml, hown, hts, hr, hlk, hnm, hK, hE, hA, hend, rfl⟩ := C
  intro H locs ls hP hD hS hL
  refine jr_call (sz := H.size) (ws := ws) (av := av.toArray) rfl (va_runS (As := av) (rest := rest) (n := av.length) ⟨hx, hb, hml, hown, hts⟩ (hM H.size) ⟨callB_of av.length hts (tW_goodIn hcode) rfl hf.2.1.1 hf.2.1.2 (hts _ hini) (hts _ hlink) hy hf.1, hts _ hst⟩ ⟨jr_blind, fun U hU hW => jr_pre hK hE hA hP hD hS hU hW⟩ rfl rfl hL.1 hs (lv_room hw) hdg hf.2.2) hS (jr_A hD hS hA) (fun v u H1 locs1 hp hP hD hS => k v u hp H1 locs1 ls hP hD hS hL)
theorem j_callSN (C : jK l D G KV own cc nL ret R mc ms nm PP K) {y : MethodName} {b : ByteArray} {nL' : Nat} {ret' : Option FieldType} {rm : Room} {av st : List Value} {mc' ms' idx : Nat} {PP' : Option Value → va_W → Prop} {host : String} (hdg : decode cc pc = .ok (.invokestatic idx, 3)) (hM : jM l D G KV y b nL' ret' rm av ws mc' ms' PP') (hcode : Cond.code y b nL' ret' ∈ tW) (hlink : Cond.methodLinkNest own idx y host ∈ nestW) (hst : Cond.static y ∈ tW) (hini : Cond.initialized y.cls ∈ tW) (hy : jyes y av.length) (hf : jfit R rm nL' mc' ms' cs sl) (hw : (rest.map fun v => v.category).sum ≤ 8) (hs : st = av.reverse ++ rest)
    (k : ∀ (v : Option Value) (u : va_W), PP' v u → K (cs + mc') (sl + ms') u (pc + 3) L (v.toList ++ rest)) : K cs sl ws pc L st := by
  obtain ⟨p, e, s, m, args, below, meth, c, A, Qc, hx, hb, hml, hown, hts, hr, hlk, hnm, hK, hE, hA, hend, rfl⟩ := C
  intro H locs ls hP hD hS hL
  refine jr_call (sz := H.size) (ws := ws) (av := av.toArray) rfl (va_runSN (As := av) (rest := rest) (n := av.length) (host := host) ⟨hx, hb, hml, hown, hts⟩ (hM H.size) ⟨va_cnB av.length hts (tW_goodIn hcode) rfl hf.2.1.1 hf.2.1.2 (hE.1 _ hlink) (hts _ hini) hy hf.1, hts _ hst, trivial⟩ ⟨jr_blind, fun U hU hW => jr_pre hK hE hA hP hD hS hU hW⟩ rfl rfl hL.1 hs (lv_room hw) hdg hf.2.2) hS (jr_A hD hS hA) (fun v u H1 locs1 hp hP hD hS => k v u hp H1 locs1 ls hP hD hS hL)
theorem j_callV (C : jK l D G KV own cc nL ret R mc ms nm PP K) {y : MethodName} {b : ByteArray} {nL' : Nat} {ret' : Option FieldType} {rm : Room} {av st : List Value} {mc' ms' idx a q0 ci : Nat} {fs : List Value} {r : vw_C} {PP' : Option Value → va_W → Prop} (hdg : decode cc pc = .ok (.invokevirtual idx, 3)) (hM : jM l D G KV y b nL' ret' rm (.ref a :: av) ws mc' ms' PP') (hcode : Cond.code y b nL' ret' ∈ tW) (hlink : Cond.methodLink own idx y ∈ tW) (hin : Cond.instanceMethod y ∈ tW) (hsel : Cond.selects y.cls y y ∈ tW) (hini : Cond.initialized y.cls ∈ tW) (hy : jyes y av.length) (hf : jfit R rm nL' mc' ms' cs sl) (hw : (rest.map fun v => v.category).sum ≤ 8) (he : ws[q0]? = some (a, .inr (ci, fs))) (hc : classes[ci]? = some r) (hrc : r.1 = y.cls) (hs : st = av.reverse ++ .ref a :: rest)
    (k : ∀ (v : Option Value) (u : va_W), PP' v u → K (cs + mc') (sl + ms') u (pc + 3) L (v.toList ++ rest)) : K cs sl ws pc L st := by
  obtain ⟨p, e, s, m, args, below, meth, c, A, Qc, hx, hb, hml, hown, hts, hr, hlk, hnm, hK, hE, hA, hend, rfl⟩ := C
  intro H locs ls hP hD hS hL
  have hrecv := va_recv hK hP hc he
  rw [hrc] at hrecv
  refine jr_call (sz := H.size) (ws := ws) (av := (Value.ref a :: av).toArray) rfl (va_runV (As := av) (b := a) (C := y.cls) (rest := rest) (n := av.length) ⟨hx, hb, hml, hown, hts⟩ (hM H.size) ⟨callB_of av.length hts (tW_goodIn hcode) rfl hf.2.1.1 hf.2.1.2 (hts _ hini) (hts _ hlink) hy hf.1, hts _ hin, hts _ hsel⟩ ⟨jr_blind, hrecv, fun U hU hW => jr_pre hK hE hA hP hD hS hU hW⟩ rfl rfl hL.1 hs (lv_room hw) hdg hf.2.2) hS (jr_A hD hS hA) (fun v u H1 locs1 hp hP hD hS => k v u hp H1 locs1 ls hP hD hS hL)
theorem j_callI (C : jK l D G KV own cc nL ret R mc ms nm PP K) {y : MethodName} {b : ByteArray} {nL' : Nat} {rm : Room} {av st : List Value} {mc' ms' idx a : Nat} {PP' : Option Value → va_W → Prop} (hdg : decode cc pc = .ok (.invokespecial idx, 3)) (hM : jM l D G KV y b nL' none rm (.ref a :: av) ws mc' ms' PP') (hcode : Cond.code y b nL' none ∈ tW) (hlink : Cond.methodLink own idx y ∈ tW) (hin : Cond.instanceMethod y ∈ tW) (hini : Cond.initialized y.cls ∈ tW) (hyn : y.name = "<init>") (hy : jyes y av.length) (hf : jfit R rm nL' mc' ms' cs sl) (hw : (rest.map fun v => v.category).sum ≤ 8) (hs : st = av.reverse ++ .ref a :: rest)
    (k : ∀ (v : Option Value) (u : va_W), PP' v u → K (cs + mc') (sl + ms') u (pc + 3) L (v.toList ++ rest)) : K cs sl ws pc L st := by
  obtain ⟨p, e, s, m, args, below, meth, c, A, Qc, hx, hb, hml, hown, hts, hr, hlk, hnm, hK, hE, hA, hend, rfl⟩ := C
  intro H locs ls hP hD hS hL
  refine jr_call (sz := H.size) (ws := ws) (av := (Value.ref a :: av).toArray) rfl (va_runI (As := av) (b := a) (rest := rest) (n := av.length) ⟨hx, hb, hml, hown, hts⟩ (hM H.size) ⟨callB_of av.length hts (tW_goodIn hcode) rfl hf.2.1.1 hf.2.1.2 (hts _ hini) (hts _ hlink) hy hf.1, hyn, hts _ hin⟩ ⟨jr_blind, fun U hU hW => jr_pre hK hE hA hP hD hS hU hW⟩ rfl rfl hL.1 hs (lv_room hw) hdg hf.2.2) hS (jr_A hD hS hA) (fun v u H1 locs1 hp hP hD hS => k v u hp H1 locs1 ls hP hD hS hL)
theorem j_callIN (C : jK l D G KV own cc nL ret R mc ms nm PP K) {y : MethodName} {b : ByteArray} {nL' : Nat} {rm : Room} {av st : List Value} {mc' ms' idx a : Nat} {PP' : Option Value → va_W → Prop} {host : String} (hdg : decode cc pc = .ok (.invokespecial idx, 3)) (hM : jM l D G KV y b nL' none rm (.ref a :: av) ws mc' ms' PP') (hcode : Cond.code y b nL' none ∈ tW) (hlink : Cond.methodLinkNest own idx y host ∈ nestW) (hin : Cond.instanceMethod y ∈ tW) (hini : Cond.initialized y.cls ∈ tW) (hyn : y.name = "<init>") (hy : jyes y av.length) (hf : jfit R rm nL' mc' ms' cs sl) (hw : (rest.map fun v => v.category).sum ≤ 8) (hs : st = av.reverse ++ .ref a :: rest)
    (k : ∀ (v : Option Value) (u : va_W), PP' v u → K (cs + mc') (sl + ms') u (pc + 3) L (v.toList ++ rest)) : K cs sl ws pc L st := by
  obtain ⟨p, e, s, m, args, below, meth, c, A, Qc, hx, hb, hml, hown, hts, hr, hlk, hnm, hK, hE, hA, hend, rfl⟩ := C
  intro H locs ls hP hD hS hL
  refine jr_call (sz := H.size) (ws := ws) (av := (Value.ref a :: av).toArray) rfl (va_runIN (As := av) (b := a) (rest := rest) (n := av.length) (host := host) ⟨hx, hb, hml, hown, hts⟩ (hM H.size) ⟨va_cnB av.length hts (tW_goodIn hcode) rfl hf.2.1.1 hf.2.1.2 (hE.1 _ hlink) (hts _ hini) hy hf.1, hyn, hts _ hin⟩ ⟨jr_blind, fun U hU hW => jr_pre hK hE hA hP hD hS hU hW⟩ rfl rfl hL.1 hs (lv_room hw) hdg hf.2.2) hS (jr_A hD hS hA) (fun v u H1 locs1 hp hP hD hS => k v u hp H1 locs1 ls hP hD hS hL)
theorem j_objInit (C : jK l D G KV own cc nL ret R mc ms nm PP K) {idx a : Nat} (hdg : decode cc pc = .ok (.invokespecial idx, 3)) (hlink : Cond.methodLink own idx objectInit ∈ tW) (hin : Cond.instanceMethod objectInit ∈ tW) (hcode : Cond.code objectInit ⟨#[0xb1]⟩ 1 none ∈ tW) (hR : 1 ≤ R.frames) (hlo : (rest.map fun v => v.category).sum + 12 ≤ R.locals) (k : K cs sl ws (pc + 3) L rest) : K cs sl ws pc L (.ref a :: rest) := by
  obtain ⟨p, e, s, m, args, below, meth, c, A, Qc, hx, hb, hml, hown, hts, hr, hlk, hnm, hK, hE, hA, hend, rfl⟩ := C
  intro H locs ls hP hD hS hL
  refine W.objInit hx hb hown (hts _ hlink) (hts _ hin) (hts _ hcode) rfl (by rw [hml]; exact hL.1) rfl hdg hR (by show 2 * 0 + _ + 12 ≤ _; omega) ?_
  exact k H locs ls hP hD hS hL
theorem j_mmax (C : jK l D G KV own cc nL ret R mc ms nm PP K) {idx : Nat} {x y : Int32} (hdg : decode cc pc = .ok (.invokestatic idx, 3)) (hlink : Cond.methodLink own idx Lib.Math.max.name ∈ tW) (hst : Cond.static Lib.Math.max.name ∈ tW) (hini : Cond.initialized "java/lang/Math" ∈ tW) (hcode : Cond.code Lib.Math.max.name Lib.Math.max.code 2 (some .int) ∈ tW) (hR : 1 ≤ R.frames) (hlo : (rest.map fun v => v.category).sum + 13 ≤ R.locals) (hc : cs ≤ R.cells) (hs : sl ≤ R.slots) (k : K cs sl ws (pc + 3) L (.int (if x < y then y else x) :: rest)) : K cs sl ws pc L (.int y :: .int x :: rest) := by
  obtain ⟨p, e, s, m, args, below, meth, c, A, Qc, hx, hb, hml, hown, hts, hr, hlk, hnm, hK, hE, hA, hend, rfl⟩ := C
  exact fun H locs ls hP hD hS hL => va_mmax hx hb (by rw [hml]; exact hL.1.symm) hown (hts _ hlink) (hts _ hst) (hts _ hini) (hts _ hcode) hR hlo hc hs hdg (k H locs ls hP hD hS hL)
theorem j_mmin (C : jK l D G KV own cc nL ret R mc ms nm PP K) {idx : Nat} {x y : Int32} (hdg : decode cc pc = .ok (.invokestatic idx, 3)) (hlink : Cond.methodLink own idx Lib.Math.min.name ∈ tW) (hst : Cond.static Lib.Math.min.name ∈ tW) (hini : Cond.initialized "java/lang/Math" ∈ tW) (hcode : Cond.code Lib.Math.min.name Lib.Math.min.code 2 (some .int) ∈ tW) (hR : 1 ≤ R.frames) (hlo : (rest.map fun v => v.category).sum + 13 ≤ R.locals) (hc : cs ≤ R.cells) (hs : sl ≤ R.slots) (k : K cs sl ws (pc + 3) L (.int (if y < x then y else x) :: rest)) : K cs sl ws pc L (.int y :: .int x :: rest) := by
  obtain ⟨p, e, s, m, args, below, meth, c, A, Qc, hx, hb, hml, hown, hts, hr, hlk, hnm, hK, hE, hA, hend, rfl⟩ := C
  exact fun H locs ls hP hD hS hL => va_mmin hx hb (by rw [hml]; exact hL.1.symm) hown (hts _ hlink) (hts _ hst) (hts _ hini) (hts _ hcode) hR hlo hc hs hdg (k H locs ls hP hD hS hL)
theorem j_copy (C : jK l D G KV own cc nL ret R mc ms nm PP K) {idx q0 q1 n0 n1 t : Nat} {Nw : Nat} {cell : jC} {ad : Nat → Nat} {s0 : jS} {ty : FieldType} (hdg : decode cc pc = .ok (.invokestatic idx, 3)) (hlink : Cond.methodLink own idx arraycopyName ∈ tW) (hnat : Cond.native arraycopyName ∈ tW) (hst : Cond.static arraycopyName ∈ tW) (hini : Cond.initialized "java/lang/System" ∈ tW) (hq0 : q0 < Nw) (hq1 : q1 < Nw) (he0 : cell ad q0 (s0.1 q0) (s0.2 q0) = .inl (G t, n0, .inl (s0.1 q0))) (he1 : ∀ r : Nat → Int32, cell ad q1 r (s0.2 q1) = .inl (G t, n1, .inl r)) (ht : (jtys G)[t]? = some (G t, ty)) (hprim : refKind ty = false) {sp dp n : Int32} (h1 : ¬ sp < 0) (h2 : ¬ dp < 0) (h3 : ¬ n < 0) (h4 : sp.toNatClampNeg + n.toNatClampNeg ≤ n0) (h5 : dp.toNatClampNeg + n.toNatClampNeg ≤ n1) (hfit : ∀ i, i < n.toNatClampNeg → fits ty (.int (s0.1 q0 (sp.toNatClampNeg + i))) = true) (hR : 1 ≤ R.frames) (hlo : (rest.map fun v => v.category).sum + 18 ≤ R.locals)
    (k : K cs sl (jw Nw cell ad (upR s0 q1 (va_cpy (s0.1 q0) (s0.1 q1) sp.toNatClampNeg dp.toNatClampNeg n.toNatClampNeg))) (pc + 3) L rest) : K cs sl (jw Nw cell ad s0) pc L (.int n :: .int dp :: .ref (ad q1) :: .int sp :: .ref (ad q0) :: rest) := by
  obtain ⟨p, e, s, m, args, below, meth, c, A, Qc, hx, hb, hml, hown, hts, hr, hlk, hnm, hK, hE, hA, hend, rfl⟩ := C
  intro H locs ls hP hD hS hL
  refine va_copyi hx hb (by rw [hml]; exact hL.1.symm) hown (hts _ hlink) (hts _ hnat) (hts _ hst) (hts _ hini) hK hP hD hS q0 q1 t t (by rw [jw_at hq0, he0]) (by rw [jw_at hq1, he1]) ht ht hprim h1 h2 h3 h4 h5 hfit hR hlo hdg (fun H1 locs1 hP hD hS => ?_)
  have h := jw_set (cell := cell) (ad := ad) (s := s0) (s' := upR s0 q1 (va_cpy (s0.1 q0) (s0.1 q1) sp.toNatClampNeg dp.toNatClampNeg n.toNatClampNeg)) hq1 (fun i hi => va_up_off _ _ hi) (fun _ _ => rfl)
  rw [show (upR s0 q1 (va_cpy (s0.1 q0) (s0.1 q1) sp.toNatClampNeg dp.toNatClampNeg n.toNatClampNeg)).1 q1 = _ from va_up_at _ _ _, show (upR s0 q1 (va_cpy (s0.1 q0) (s0.1 q1) sp.toNatClampNeg dp.toNatClampNeg n.toNatClampNeg)).2 q1 = s0.2 q1 from rfl, he1] at h
  rw [h] at hP hD
  exact k H1 locs1 ls hP hD hS hL
end JR
