def jb (b : Bool) : Int32 := match b with | true => 1 | false => 0
def jz (x : Int32) : Bool := decide (¬ x = 0)
def jtx (ad : Nat → Nat) : Nat → Option Nat := fun j => if j < 4 then some (ad (2 + 4 * j)) else none
def jin (i : Int32) (n : Nat) : Bool := decide (0 ≤ i.toInt ∧ i.toInt < (n : Int))
theorem jz_jb (b : Bool) : jz (jb b) = b := by cases b <;> decide
theorem jin_iff {i : Int32} {n : Nat} : jin i n = true ↔ 0 ≤ i.toInt ∧ i.toInt < (n : Int) := by simp [jin]
theorem jin_vp {i : Int32} {n : Nat} (c : jin i n = true) : vp_in i n := vp_in_iff.mpr (jin_iff.mp c)
theorem jin_lt {i : Int32} {n : Nat} (c : jin i n = true) : i.toNatClampNeg < n := by
  have h := jin_iff.mp c
  show i.toInt.toNat < n
  omega
theorem jb_nar (b : Bool) : narrow .boolean (.int (jb b)) = .int (jb b) := by cases b <;> rfl
theorem jb_vp (b : Bool) : vp_nar .boolean (jb b) = jb b := by cases b <;> rfl
theorem jb_fit (b : Bool) : fits .boolean (.int (jb b)) = true := by cases b <;> rfl
theorem jb_t {b : Bool} (h : ¬ jb b = 0) : b = true := by
  cases b
  · exact absurd rfl h
  · rfl
theorem jb_f {b : Bool} (h : jb b = 0) : ¬ b = true := by
  cases b
  · exact Bool.false_ne_true
  · exact absurd h (by decide)
theorem jb_or (a b : Bool) : jb a ||| jb b = jb (a || b) := by cases a <;> cases b <;> decide
theorem jb_and (a b : Bool) : jb a &&& jb b = jb (a && b) := by cases a <;> cases b <;> decide
theorem jite_t {α : Sort _} {c : Prop} [Decidable c] {A B r : α} (h : (if c then A else B) = r) (hc : c) : A = r := by rw [if_pos hc] at h; exact h
theorem jite_f {α : Sort _} {c : Prop} [Decidable c] {A B r : α} (h : (if c then A else B) = r) (hc : ¬ c) : B = r := by rw [if_neg hc] at h; exact h
theorem jchk {α : Type _} {c : Prop} [Decidable c] {A : Option α} {r : α} (h : (if c then A else none) = some r) : c ∧ A = some r := by
  by_cases hc : c
  · rw [if_pos hc] at h; exact ⟨hc, h⟩
  · rw [if_neg hc] at h; cases h
theorem jbind {α β : Type _} {x : Option α} {f : α → Option β} {r : β} (h : x.bind f = some r) : ∃ a, x = some a ∧ f a = some r := by
  cases x with
  | none => cases h
  | some a => exact ⟨a, rfl, h⟩
/-- a value with a name -/
def jl {α : Type _} {β : Type _} (a : α) (f : α → β) : β := f a
theorem jlet {α : Type _} {β : Type _} {a z : α} {f : α → β} {r : β} (h : jl a f = r) (hz : z = a) : f z = r := by subst hz; exact h
/-- a loop: k rounds at most -/
def lp {V E : Type} (body : V → Option (V ⊕ E)) : Nat → V → Option E
  | 0, _ => none
  | k + 1, v => (body v).bind (fun o => Sum.elim (fun v' => lp body k v') (fun e => some e) o)
theorem jlp {V E : Type} {body : V → Option (V ⊕ E)} {KH : V → Prop} {KE : E → Prop} (hb : ∀ (v : V) (o : V ⊕ E), body v = some o → (∀ v', o = .inl v' → KH v') → (∀ e, o = .inr e → KE e) → KH v) : ∀ (k : Nat) (v : V) (e : E), lp body k v = some e → KE e → KH v := by
  intro k
  induction k with
  | zero => intro v e h; cases h
  | succ k ih =>
    intro v e h hE
    obtain ⟨o, ho, h⟩ := jbind h
    refine hb v o ho (fun v' e' => ?_) (fun e2 e' => ?_)
    · subst e'; exact ih v' e h hE
    · subst e'; cases h; exact hE
theorem jinl {V E : Type} {v : V} {o : V ⊕ E} (h : some (Sum.inl v) = some o) : o = .inl v := (Option.some.inj h).symm
theorem jinr {V E : Type} {v : E} {o : V ⊕ E} (h : some (Sum.inr v) = some o) : o = .inr v := (Option.some.inj h).symm
theorem jretL {V X Y : Type} {PK : X → Prop} {r p : Y} {o : V ⊕ (X ⊕ Y)} (hb : some (Sum.inr (Sum.inr r)) = some o) (hout : ∀ e, o = .inr e → Sum.elim PK (fun r => some r = some p) e) : some r = some p := hout _ (jinr hb)
section JRET
variable {Nw : Nat} {cell : jC} {ad : Nat → Nat} {s s' : jS}
theorem jretWI {a : Int32} {p : Int32 × jS} (h : some (a, s) = some p) : some (Value.int a) = some (.int p.1) ∧ jw Nw cell ad s = jw Nw cell ad p.2 := by cases h; exact ⟨rfl, rfl⟩
theorem jretWB {a : Bool} {p : Bool × jS} (h : some (a, s) = some p) : some (Value.int (jb a)) = some (.int (jb p.1)) ∧ jw Nw cell ad s = jw Nw cell ad p.2 := by cases h; exact ⟨rfl, rfl⟩
theorem jretWL {a : Int64} {p : Int64 × jS} (h : some (a, s) = some p) : some (Value.long a) = some (.long p.1) ∧ jw Nw cell ad s = jw Nw cell ad p.2 := by cases h; exact ⟨rfl, rfl⟩
theorem jretWV {p : jS} (h : some s = some p) : (none : Option Value) = none ∧ jw Nw cell ad s = jw Nw cell ad p := by cases h; exact ⟨rfl, rfl⟩
theorem jretPI {a p : Int32} (h : some a = some p) : some (Value.int a) = some (.int p) ∧ jw Nw cell ad s = jw Nw cell ad s := by cases h; exact ⟨rfl, rfl⟩
theorem jretPB {a p : Bool} (h : some a = some p) : some (Value.int (jb a)) = some (.int (jb p)) ∧ jw Nw cell ad s = jw Nw cell ad s := by cases h; exact ⟨rfl, rfl⟩
theorem jretPL {a p : Int64} (h : some a = some p) : some (Value.long a) = some (.long p) ∧ jw Nw cell ad s = jw Nw cell ad s := by cases h; exact ⟨rfl, rfl⟩
theorem jretTI {a p : Int32} (h : a = p) : some (Value.int a) = some (.int p) ∧ jw Nw cell ad s = jw Nw cell ad s := by cases h; exact ⟨rfl, rfl⟩
theorem jretTB {a p : Bool} (h : a = p) : some (Value.int (jb a)) = some (.int (jb p)) ∧ jw Nw cell ad s = jw Nw cell ad s := by cases h; exact ⟨rfl, rfl⟩
theorem jretTL {a p : Int64} (h : a = p) : some (Value.long a) = some (.long p) ∧ jw Nw cell ad s = jw Nw cell ad s := by cases h; exact ⟨rfl, rfl⟩
end JRET
def cellC (G : Nat → ClassId) (nd : Nat) : jC := fun ad k r1 r2 => match k with
  | 0 => .inr (8, [.int (r1 0), .ref (ad 18), .ref (ad 40), .ref (ad 1), .ref (ad 27), .ref (ad 49), .ref (ad 29), .ref (ad 33), .ref (ad 51)])
  | 1 => .inl (G 4, 4, .inr (.inr (.inr (.inr (jtx ad)))))
  | 2 => .inr (5, [.ref (ad 3), .ref (ad 4), .ref (ad 5), .int (r1 3), .int (r1 4), .int (r1 5), .int (jb (jz (r1 6)))])
  | 3 => .inl (G 0, 300, .inl r1)
  | 4 => .inl (G 0, 24, .inl r1)
  | 5 => .inl (G 0, 24, .inl r1)
  | 6 => .inr (5, [.ref (ad 7), .ref (ad 8), .ref (ad 9), .int (r1 3), .int (r1 4), .int (r1 5), .int (jb (jz (r1 6)))])
  | 7 => .inl (G 0, 300, .inl r1)
  | 8 => .inl (G 0, 24, .inl r1)
  | 9 => .inl (G 0, 24, .inl r1)
  | 10 => .inr (5, [.ref (ad 11), .ref (ad 12), .ref (ad 13), .int (r1 3), .int (r1 4), .int (r1 5), .int (jb (jz (r1 6)))])
  | 11 => .inl (G 0, 300, .inl r1)
  | 12 => .inl (G 0, 24, .inl r1)
  | 13 => .inl (G 0, 24, .inl r1)
  | 14 => .inr (5, [.ref (ad 15), .ref (ad 16), .ref (ad 17), .int (r1 3), .int (r1 4), .int (r1 5), .int (jb (jz (r1 6)))])
  | 15 => .inl (G 0, 300, .inl r1)
  | 16 => .inl (G 0, 24, .inl r1)
  | 17 => .inl (G 0, 24, .inl r1)
  | 18 => .inr (2, [.ref (ad 19), .ref (ad 20), .ref (ad 21), .ref (ad 22), .ref (ad 23), .ref (ad 24), .ref (ad 25), .int (r1 7), .int (r1 8), .int (r1 9)])
  | 19 => .inl (G 0, 24, .inl r1)
  | 20 => .inl (G 0, 8, .inl r1)
  | 21 => .inl (G 0, 8, .inl r1)
  | 22 => .inl (G 2, 8, .inl (fun j => jb (jz (r1 j))))
  | 23 => .inl (G 0, 24, .inl r1)
  | 24 => .inl (G 0, 120, .inl r1)
  | 25 => .inr (6, [.int (r1 0), .int (r1 1), .int (r1 2), .int (r1 3), .int (r1 4), .int (r1 5), .int (r1 6), .ref (ad 26)])
  | 26 => .inl (G 0, 30, .inl r1)
  | 27 => .inr (4, [.ref (ad 28), .int (r1 1), .int (r1 2), .int (r1 3), .int (r1 4), .int (r1 5)])
  | 28 => .inl (G 3, 300, .inl r1)
  | 29 => .inr (3, [.int (r1 0), .ref (ad 18), .ref (ad 1), .ref (ad 30), .ref (ad 31), .ref (ad 32), .int (jb (jz (r1 6)))])
  | 30 => .inl (G 0, 8, .inl r1)
  | 31 => .inl (G 0, 64, .inl r1)
  | 32 => .inl (G 1, (960 * nd), .inr (.inl r2))
  | 33 => .inr (7, [.int (r1 0), .int (r1 1), .ref (ad 34), .ref (ad 35), .int (r1 4), .ref (ad 18), .ref (ad 29), .ref (ad 36), .ref (ad 37), .ref (ad 38), .ref (ad 39), .int (r1 11)])
  | 34 => .inl (G 0, 48, .inl r1)
  | 35 => .inl (G 0, 8, .inl r1)
  | 36 => .inl (G 0, 180, .inl r1)
  | 37 => .inl (G 0, 384, .inl r1)
  | 38 => .inl (G 0, 8, .inl r1)
  | 39 => .inl (G 0, 8, .inl r1)
  | 40 => .inr (2, [.ref (ad 41), .ref (ad 42), .ref (ad 43), .ref (ad 44), .ref (ad 45), .ref (ad 46), .ref (ad 47), .int (r1 7), .int (r1 8), .int (r1 9)])
  | 41 => .inl (G 0, 24, .inl r1)
  | 42 => .inl (G 0, 8, .inl r1)
  | 43 => .inl (G 0, 8, .inl r1)
  | 44 => .inl (G 2, 8, .inl (fun j => jb (jz (r1 j))))
  | 45 => .inl (G 0, 24, .inl r1)
  | 46 => .inl (G 0, 120, .inl r1)
  | 47 => .inr (6, [.int (r1 0), .int (r1 1), .int (r1 2), .int (r1 3), .int (r1 4), .int (r1 5), .int (r1 6), .ref (ad 48)])
  | 48 => .inl (G 0, 30, .inl r1)
  | 49 => .inr (1, [.int (r1 0), .int (r1 1), .ref (ad 27), .ref (ad 50), .ref (ad (2 + 4 * (r1 4).toNatClampNeg)), .int (r1 5), .int (r1 6), .int (r1 7), .int (r1 8), .int (jb (jz (r1 9)))])
  | 50 => .inl (G 0, 64, .inl r1)
  | 51 => .inr (0, [.ref (ad 52), .int (r1 1), .ref (ad 18), .ref (ad 29), .ref (ad 33), .ref (ad 53), .int (r1 6), .int (jb (jz (r1 7)))])
  | 52 => .inl (G 0, 8, .inl r1)
  | _ => .inl (G 0, 21, .inl r1)
def cellM (G : Nat → ClassId) : jC := fun ad k r1 r2 => match k with
  | 0 => .inr (9, [.ref (ad 1), .ref (ad 2), .int (r1 2), .ref (ad 3), .ref (ad 4), .int (r1 5), .int (r1 6), .int (r1 7), .int (r1 8), .int (r1 9), .int (r1 10), .int (r1 11), .long (r2 12), .int (r1 13), .int (r1 14), .int (r1 15), .int (r1 16), .ref (ad 5), .int (r1 18), .int (r1 19), .int (jb (jz (r1 20))), .int (jb (jz (r1 21))), .ref (ad 6), .ref (ad 7), .ref (ad 8), .ref (ad 9), .ref (ad 10), .ref (ad 11), .ref (ad 12), .ref (ad 13), .ref (ad 14), .int (r1 31)])
  | 1 => .inl (G 0, 324, .inl r1)
  | 2 => .inl (G 0, 324, .inl r1)
  | 3 => .inl (G 0, 2720, .inl r1)
  | 4 => .inl (G 0, 300, .inl r1)
  | 5 => .inl (G 0, 160, .inl r1)
  | 6 => .inl (G 0, 8, .inl r1)
  | 7 => .inl (G 1, 330, .inr (.inl r2))
  | 8 => .inl (G 2, 330, .inl (fun j => jb (jz (r1 j))))
  | 9 => .inl (G 0, 28, .inl r1)
  | 10 => .inl (G 0, 8, .inl r1)
  | 11 => .inl (G 0, 376320, .inl r1)
  | 12 => .inl (G 0, 4410, .inl r1)
  | 13 => .inl (G 0, 48, .inl r1)
  | _ => .inl (G 0, 48, .inl r1)
theorem cT0 {G : Nat → ClassId} {nd : Nat} {ad : Nat → Nat} {t : Nat} {r1 : Nat → Int32} {r2 : Nat → Int64} (ht : t < 4) : cellC G nd ad (2 + 4 * t) r1 r2 = .inr (5, [.ref (ad (2 + 4 * t + 1)), .ref (ad (2 + 4 * t + 2)), .ref (ad (2 + 4 * t + 3)), .int (r1 3), .int (r1 4), .int (r1 5), .int (jb (jz (r1 6)))]) := by
  match t, ht with
  | 0, _ => rfl
  | 1, _ => rfl
  | 2, _ => rfl
  | 3, _ => rfl
theorem cT1 {G : Nat → ClassId} {nd : Nat} {ad : Nat → Nat} {t : Nat} {r1 : Nat → Int32} {r2 : Nat → Int64} (ht : t < 4) : cellC G nd ad (2 + 4 * t + 1) r1 r2 = .inl (G 0, 300, .inl r1) := by
  match t, ht with
  | 0, _ => rfl
  | 1, _ => rfl
  | 2, _ => rfl
  | 3, _ => rfl
theorem cT2 {G : Nat → ClassId} {nd : Nat} {ad : Nat → Nat} {t : Nat} {r1 : Nat → Int32} {r2 : Nat → Int64} (ht : t < 4) : cellC G nd ad (2 + 4 * t + 2) r1 r2 = .inl (G 0, 24, .inl r1) := by
  match t, ht with
  | 0, _ => rfl
  | 1, _ => rfl
  | 2, _ => rfl
  | 3, _ => rfl
theorem cT3 {G : Nat → ClassId} {nd : Nat} {ad : Nat → Nat} {t : Nat} {r1 : Nat → Int32} {r2 : Nat → Int64} (ht : t < 4) : cellC G nd ad (2 + 4 * t + 3) r1 r2 = .inl (G 0, 24, .inl r1) := by
  match t, ht with
  | 0, _ => rfl
  | 1, _ => rfl
  | 2, _ => rfl
  | 3, _ => rfl
theorem cTq0 {t : Nat} (ht : t < 4) : 2 + 4 * t < 54 := by omega
theorem cTq1 {t : Nat} (ht : t < 4) : 2 + 4 * t + 1 < 54 := by omega
theorem cTq2 {t : Nat} (ht : t < 4) : 2 + 4 * t + 2 < 54 := by omega
theorem cTq3 {t : Nat} (ht : t < 4) : 2 + 4 * t + 3 < 54 := by omega
theorem inX0 : ∀ w ∈ u_ws RX0 TX0 8, w ∈ tW := by decide +kernel
theorem inX1 : ∀ w ∈ u_ws RX1 TX1 10, w ∈ tW := by decide +kernel
theorem inX2 : ∀ w ∈ u_ws RX2 TX2 10, w ∈ tW := by decide +kernel
theorem inX3 : ∀ w ∈ u_ws RX3 TX3 7, w ∈ tW := by decide +kernel
theorem inX4 : ∀ w ∈ u_ws RX4 TX4 6, w ∈ tW := by decide +kernel
theorem inX5 : ∀ w ∈ u_ws RX5 TX5 7, w ∈ tW := by decide +kernel
theorem inX6 : ∀ w ∈ u_ws RX6 TX6 8, w ∈ tW := by decide +kernel
theorem inX7 : ∀ w ∈ u_ws RX7 TX7 12, w ∈ tW := by decide +kernel
theorem inX8 : ∀ w ∈ u_ws RX8 TX8 9, w ∈ tW := by decide +kernel
theorem inX9 : ∀ w ∈ u_ws RX9 TX9 32, w ∈ tW := by decide +kernel
theorem jtsw {x : Int32} {lo hi : Int} (hlo : -2147483648 ≤ lo) (hhi : hi < 2147483648) (h : ∀ z : Int, lo ≤ z → z ≤ hi → ¬ x = Int32.ofInt z) : x.toInt < lo ∨ hi < x.toInt := by
  rcases Int.lt_or_le x.toInt lo with q | q
  · exact Or.inl q
  · rcases Int.lt_or_le hi x.toInt with q2 | q2
    · exact Or.inr q2
    · exact absurd (Int32.ofInt_toInt x).symm (h x.toInt q q2)
section JR2
variable {l : Launch} {D : va_G} {G : Nat → ClassId} {KV : jV} {own : String} {cc : ByteArray} {nL : Nat} {ret : Option FieldType} {R : Room} {mc ms : Nat} {nm : String} {PP : Option Value → va_W → Prop} {K : Nat → Nat → va_W → Nat → List (Nat × Value) → List Value → Prop}
variable {cs sl pc : Nat} {ws : va_W} {L : List (Nat × Value)} {rest : List Value} {Nw : Nat} {cell : jC} {ad : Nat → Nat} {s0 : jS} {q0 : Nat}
theorem j_getW (C : jK l D G KV own cc nL ret R mc ms nm PP K) {ref Cn : String} {T : u_T} {N ci idx : Nat} (hdg : decode cc pc = .ok (.getfield idx, 3)) (hin : ∀ w ∈ u_ws Cn T N, w ∈ tW) (hc : classes[ci]? = some (Cn, T, N)) (hq : q0 < Nw) {fs : List Value} (he : cell ad q0 (s0.1 q0) (s0.2 q0) = .inr (ci, fs)) (j : Nat) (hj : j < N) (hlink : Cond.fieldLink own idx ref (T j).2.1 (T j).2.2.1 ∈ tW) (hsame : (T j).1 = ref) {v : Value} (hv : fs[j]? = some v) (k : K cs sl (jw Nw cell ad s0) (pc + 3) L (v :: rest)) : K cs sl (jw Nw cell ad s0) pc L (.ref (ad q0) :: rest) :=
  j_get C hdg hin hc q0 (by rw [jw_at hq, he]) j hj hlink hsame hv k
theorem j_ialdW (C : jK l D G KV own cc nL ret R mc ms nm PP K) {n : Nat} {f : Nat → Int32} {i : Int32} (hdg : decode cc pc = .ok (.iaload, 1)) (hq : q0 < Nw) (he : cell ad q0 (s0.1 q0) (s0.2 q0) = .inl (G 0, n, .inl f)) (hi : vp_in i n) (k : K cs sl (jw Nw cell ad s0) (pc + 1) L (.int (f i.toNatClampNeg) :: rest)) : K cs sl (jw Nw cell ad s0) pc L (.int i :: .ref (ad q0) :: rest) := j_iald C hdg q0 (by rw [jw_at hq, he]) hi k
theorem j_baldW (C : jK l D G KV own cc nL ret R mc ms nm PP K) {n : Nat} {f : Nat → Int32} {i : Int32} (hdg : decode cc pc = .ok (.baload, 1)) (hq : q0 < Nw) (he : cell ad q0 (s0.1 q0) (s0.2 q0) = .inl (G 3, n, .inl f)) (hi : vp_in i n) (k : K cs sl (jw Nw cell ad s0) (pc + 1) L (.int (f i.toNatClampNeg) :: rest)) : K cs sl (jw Nw cell ad s0) pc L (.int i :: .ref (ad q0) :: rest) := j_bald C hdg q0 (by rw [jw_at hq, he]) hi k
theorem j_zaldW (C : jK l D G KV own cc nL ret R mc ms nm PP K) {n : Nat} {f : Nat → Int32} {i : Int32} (hdg : decode cc pc = .ok (.baload, 1)) (hq : q0 < Nw) (he : cell ad q0 (s0.1 q0) (s0.2 q0) = .inl (G 2, n, .inl f)) (hi : vp_in i n) (k : K cs sl (jw Nw cell ad s0) (pc + 1) L (.int (f i.toNatClampNeg) :: rest)) : K cs sl (jw Nw cell ad s0) pc L (.int i :: .ref (ad q0) :: rest) := j_zald C hdg q0 (by rw [jw_at hq, he]) hi k
theorem j_laldW (C : jK l D G KV own cc nL ret R mc ms nm PP K) {n : Nat} {f : Nat → Int64} {i : Int32} (hdg : decode cc pc = .ok (.laload, 1)) (hq : q0 < Nw) (he : cell ad q0 (s0.1 q0) (s0.2 q0) = .inl (G 1, n, .inr (.inl f))) (hi : vp_in i n) (k : K cs sl (jw Nw cell ad s0) (pc + 1) L (.long (f i.toNatClampNeg) :: rest)) : K cs sl (jw Nw cell ad s0) pc L (.int i :: .ref (ad q0) :: rest) := j_lald C hdg q0 (by rw [jw_at hq, he]) hi k
theorem j_aaldT (C : jK l D G KV own cc nL ret R mc ms nm PP K) {i : Int32} (hdg : decode cc pc = .ok (.aaload, 1)) (hq : q0 < Nw) (he : cell ad q0 (s0.1 q0) (s0.2 q0) = .inl (G 4, 4, .inr (.inr (.inr (.inr (jtx ad)))))) (hi : jin i 4 = true) (k : K cs sl (jw Nw cell ad s0) (pc + 1) L (.ref (ad (2 + 4 * i.toNatClampNeg)) :: rest)) : K cs sl (jw Nw cell ad s0) pc L (.int i :: .ref (ad q0) :: rest) := by
  refine j_aald C hdg q0 (by rw [jw_at hq, he]) (jin_vp hi) ?_
  have h : jtx ad i.toNatClampNeg = some (ad (2 + 4 * i.toNatClampNeg)) := if_pos (jin_lt hi)
  rw [h]
  exact k
theorem j_alenW (C : jK l D G KV own cc nL ret R mc ms nm PP K) {tt : Nat} {ar : vp_A} (hdg : decode cc pc = .ok (.arraylength, 1)) (hq : q0 < Nw) (he : cell ad q0 (s0.1 q0) (s0.2 q0) = .inl (G tt, ar)) (ht : tt < 5) {v : Int32} (hv : Int32.ofNat ar.1 = v) (k : K cs sl (jw Nw cell ad s0) (pc + 1) L (.int v :: rest)) : K cs sl (jw Nw cell ad s0) pc L (.ref (ad q0) :: rest) := j_alen C hdg q0 (by rw [jw_at hq, he]) ht hv k
theorem j_zastB (C : jK l D G KV own cc nL ret R mc ms nm PP K) {n : Nat} {i : Int32} {b : Bool} (hdg : decode cc pc = .ok (.bastore, 1)) (hq : q0 < Nw) (he : ∀ r : Nat → Int32, cell ad q0 r (s0.2 q0) = .inl (G 2, n, .inl (fun j => jb (jz (r j))))) (hi : vp_in i n) (k : ∀ z : jS, z = upI s0 q0 i.toNatClampNeg (jb b) → K cs sl (jw Nw cell ad z) (pc + 1) L rest) : K cs sl (jw Nw cell ad s0) pc L (.int (jb b) :: .int i :: .ref (ad q0) :: rest) := by
  refine j_zast C hdg q0 (by rw [jw_at hq, he]) hi ?_
  have h := jw_set (cell := cell) (ad := ad) (s := s0) (s' := upI s0 q0 i.toNatClampNeg (jb b)) hq (fun i hi => va_up_off _ _ hi) (fun _ _ => rfl)
  rw [show (upI s0 q0 i.toNatClampNeg (jb b)).1 q0 = upd (s0.1 q0) i.toNatClampNeg (jb b) from va_up_at _ _ _, show (upI s0 q0 i.toNatClampNeg (jb b)).2 q0 = s0.2 q0 from rfl, he] at h
  have e1 : (fun j => jb (jz (upd (s0.1 q0) i.toNatClampNeg (jb b) j))) = upd (fun j => jb (jz (s0.1 q0 j))) i.toNatClampNeg (vp_nar .boolean (jb b)) := by
    funext j
    unfold upd
    by_cases hj : j = i.toNatClampNeg
    · rw [if_pos hj, if_pos hj, jz_jb, jb_vp]
    · rw [if_neg hj, if_neg hj]
  rw [e1] at h
  rw [h]
  exact k _ rfl
theorem j_copyI (C : jK l D G KV own cc nL ret R mc ms nm PP K) {idx q1 n0 n1 : Nat} (hdg : decode cc pc = .ok (.invokestatic idx, 3)) (hlink : Cond.methodLink own idx arraycopyName ∈ tW) (hnat : Cond.native arraycopyName ∈ tW) (hst : Cond.static arraycopyName ∈ tW) (hini : Cond.initialized "java/lang/System" ∈ tW) (hq0 : q0 < Nw) (hq1 : q1 < Nw) (he0 : ∀ r : Nat → Int32, cell ad q0 r (s0.2 q0) = .inl (G 0, n0, .inl r)) (he1 : ∀ r : Nat → Int32, cell ad q1 r (s0.2 q1) = .inl (G 0, n1, .inl r)) {sp dp n : Int32} (h1 : ¬ sp < 0) (h2 : ¬ dp < 0) (h3 : ¬ n < 0) (h4 : sp.toNatClampNeg + n.toNatClampNeg ≤ n0) (h5 : dp.toNatClampNeg + n.toNatClampNeg ≤ n1) (hR : 1 ≤ R.frames) (hlo : (rest.map fun v => v.category).sum + 18 ≤ R.locals)
    (k : ∀ z : jS, z = upR s0 q1 (va_cpy (s0.1 q0) (s0.1 q1) sp.toNatClampNeg dp.toNatClampNeg n.toNatClampNeg) → K cs sl (jw Nw cell ad z) (pc + 3) L rest) : K cs sl (jw Nw cell ad s0) pc L (.int n :: .int dp :: .ref (ad q1) :: .int sp :: .ref (ad q0) :: rest) :=
  j_copy C (t := 0) hdg hlink hnat hst hini hq0 hq1 (he0 _) he1 rfl rfl h1 h2 h3 h4 h5 (fun _ _ => rfl) hR hlo (k _ rfl)
theorem j_copyZ (C : jK l D G KV own cc nL ret R mc ms nm PP K) {idx q1 n0 n1 : Nat} (hdg : decode cc pc = .ok (.invokestatic idx, 3)) (hlink : Cond.methodLink own idx arraycopyName ∈ tW) (hnat : Cond.native arraycopyName ∈ tW) (hst : Cond.static arraycopyName ∈ tW) (hini : Cond.initialized "java/lang/System" ∈ tW) (hq0 : q0 < Nw) (hq1 : q1 < Nw) (he0 : ∀ r : Nat → Int32, cell ad q0 r (s0.2 q0) = .inl (G 2, n0, .inl (fun j => jb (jz (r j))))) (he1 : ∀ r : Nat → Int32, cell ad q1 r (s0.2 q1) = .inl (G 2, n1, .inl (fun j => jb (jz (r j))))) {sp dp n : Int32} (h1 : ¬ sp < 0) (h2 : ¬ dp < 0) (h3 : ¬ n < 0) (h4 : sp.toNatClampNeg + n.toNatClampNeg ≤ n0) (h5 : dp.toNatClampNeg + n.toNatClampNeg ≤ n1) (hR : 1 ≤ R.frames) (hlo : (rest.map fun v => v.category).sum + 18 ≤ R.locals)
    (k : ∀ z : jS, z = upR s0 q1 (va_cpy (s0.1 q0) (s0.1 q1) sp.toNatClampNeg dp.toNatClampNeg n.toNatClampNeg) → K cs sl (jw Nw cell ad z) (pc + 3) L rest) : K cs sl (jw Nw cell ad s0) pc L (.int n :: .int dp :: .ref (ad q1) :: .int sp :: .ref (ad q0) :: rest) := by
  obtain ⟨p, e, s, m, args, below, meth, c, A, Qc, hx, hb, hml, hown, hts, hr, hlk, hnm, hK, hE, hA, hend, rfl⟩ := C
  intro H locs ls hP hD hS hL
  refine va_copyi hx hb (by rw [hml]; exact hL.1.symm) hown (hts _ hlink) (hts _ hnat) (hts _ hst) (hts _ hini) hK hP hD hS q0 q1 2 2 (f := fun j => jb (jz (s0.1 q0 j))) (g := fun j => jb (jz (s0.1 q1 j))) (by rw [jw_at hq0, he0]) (by rw [jw_at hq1, he1]) rfl rfl rfl h1 h2 h3 h4 h5 (fun _ _ => jb_fit _) hR hlo hdg (fun H1 locs1 hP hD hS => ?_)
  have h := jw_set (cell := cell) (ad := ad) (s := s0) (s' := upR s0 q1 (va_cpy (s0.1 q0) (s0.1 q1) sp.toNatClampNeg dp.toNatClampNeg n.toNatClampNeg)) hq1 (fun i hi => va_up_off _ _ hi) (fun _ _ => rfl)
  rw [show (upR s0 q1 (va_cpy (s0.1 q0) (s0.1 q1) sp.toNatClampNeg dp.toNatClampNeg n.toNatClampNeg)).1 q1 = _ from va_up_at _ _ _, show (upR s0 q1 (va_cpy (s0.1 q0) (s0.1 q1) sp.toNatClampNeg dp.toNatClampNeg n.toNatClampNeg)).2 q1 = s0.2 q1 from rfl, he1] at h
  have e1 : (fun j => jb (jz (va_cpy (s0.1 q0) (s0.1 q1) sp.toNatClampNeg dp.toNatClampNeg n.toNatClampNeg j))) = va_cpy (fun j => jb (jz (s0.1 q0 j))) (fun j => jb (jz (s0.1 q1 j))) sp.toNatClampNeg dp.toNatClampNeg n.toNatClampNeg := by
    funext j
    unfold va_cpy
    split <;> rfl
  rw [e1] at h
  rw [h] at hP hD
  exact k _ rfl H1 locs1 ls hP hD hS hL
theorem j_putT (C : jK l D G KV own cc nL ret R mc ms nm PP K) {nd idx t : Nat} (hdg : decode cc pc = .ok (.putfield idx, 3)) (hlink : Cond.fieldLink own idx "RoadOfDoors$Reader" "text" "LRoadOfDoors$Text;" ∈ tW) (ht : t < 4) (k : ∀ z : jS, z = upI s0 49 4 (Int32.ofNat t) → K cs sl (jw 54 (cellC G nd) ad z) (pc + 3) L rest) : K cs sl (jw 54 (cellC G nd) ad s0) pc L (.ref (ad (2 + 4 * t)) :: .ref (ad 49) :: rest) := by
  refine j_put C hdg inX1 tyX1 tyX1_ok nmX1 rfl 49 (jw_at (by decide)) 4 (by decide) hlink rfl rfl rfl rfl (Nat.le_of_ble_eq_true rfl) ?_
  have h := jw_set (cell := cellC G nd) (ad := ad) (s := s0) (s' := upI s0 49 4 (Int32.ofNat t)) (show 49 < 54 by decide) (fun i hi => va_up_off _ _ hi) (fun _ _ => rfl)
  have e2 : (upd (s0.1 49) 4 (Int32.ofNat t) 4).toNatClampNeg = t := by
    show (Int32.ofNat t).toNatClampNeg = t
    exact nI_clamp (by omega)
  have e3 : cellC G nd ad 49 ((upI s0 49 4 (Int32.ofNat t)).1 49) ((upI s0 49 4 (Int32.ofNat t)).2 49) = .inr (1, [.int (s0.1 49 0), .int (s0.1 49 1), .ref (ad 27), .ref (ad 50), .ref (ad (2 + 4 * t)), .int (s0.1 49 5), .int (s0.1 49 6), .int (s0.1 49 7), .int (s0.1 49 8), .int (jb (jz (s0.1 49 9)))]) := by
    rw [show (upI s0 49 4 (Int32.ofNat t)).1 49 = upd (s0.1 49) 4 (Int32.ofNat t) from va_up_at s0.1 49 (upd (s0.1 49) 4 (Int32.ofNat t))]
    show (.inr (1, [.int (s0.1 49 0), .int (s0.1 49 1), .ref (ad 27), .ref (ad 50), .ref (ad (2 + 4 * (upd (s0.1 49) 4 (Int32.ofNat t) 4).toNatClampNeg)), .int (s0.1 49 5), .int (s0.1 49 6), .int (s0.1 49 7), .int (s0.1 49 8), .int (jb (jz (s0.1 49 9)))]) : va_E) = _
    rw [e2]
  rw [e3] at h
  show K cs sl ((jw 54 (cellC G nd) ad s0).set 49 (ad 49, .inr (1, [.int (s0.1 49 0), .int (s0.1 49 1), .ref (ad 27), .ref (ad 50), .ref (ad (2 + 4 * t)), .int (s0.1 49 5), .int (s0.1 49 6), .int (s0.1 49 7), .int (s0.1 49 8), .int (jb (jz (s0.1 49 9)))]))) (pc + 3) L rest
  rw [h]
  exact k _ rfl
theorem j_tinE (C : jK l D G KV own cc nL ret R mc ms nm PP K) {dflt lo hi : Int} {offs : Array Int} {len : Nat} {x z : Int32} {off : Int} {tgt : Nat} (hdg : decode cc pc = .ok (.tableswitch dflt lo hi offs, len)) (hxz : x = z) (h1 : ¬ z.toInt < lo) (h2 : ¬ hi < z.toInt) (ho : offs[(z.toInt - lo).toNat]? = some off) (ht : (pc : Int) + off = (tgt : Int)) (k : K cs sl ws tgt L rest) : K cs sl ws pc L (.int x :: rest) := by
  subst hxz
  exact j_tin C hdg h1 h2 ho ht k
theorem j_ldcS (C : jK l D G KV own cc nL ret R mc ms nm PP K) {idx i : Nat} (hdg : decode cc pc = .ok (.ldc idx, 2)) (hi : i < 15) (hix : jidx.getD i 0 = idx) (ho : own = "RoadOfDoors$Tape") (k : K cs sl ws (pc + 2) L (.ref (KV.1.1 i) :: rest)) : K cs sl ws pc L rest := by
  obtain ⟨p, e, s, m, args, below, meth, c, A, Qc, hx, hb, hml, hown, hts, hr, hlk, hnm, hK, hE, hA, hend, rfl⟩ := C
  subst ho
  subst hix
  exact fun H locs ls hP hD hS hL => va_ldcS hx hb hown (hE.2.2.1 i hi) hdg (k H locs ls hP hD hS hL)
theorem j_cS0 (C : jK l D G KV own cc nL ret R mc ms nm PP K) {y : MethodName} {b : ByteArray} {nL' : Nat} {ret' : Option FieldType} {rm : Room} {av st : List Value} {idx : Nat} {w' : va_W} {PP' : Option Value → va_W → Prop} (hdg : decode cc pc = .ok (.invokestatic idx, 3)) (hM : jM l D G KV y b nL' ret' rm av ws 0 0 PP') (hcode : Cond.code y b nL' ret' ∈ tW) (hlink : Cond.methodLink own idx y ∈ tW) (hst : Cond.static y ∈ tW) (hini : Cond.initialized y.cls ∈ tW) (hy : jyes y av.length) (hf : jfit R rm nL' 0 0 cs sl) (hw : (rest.map fun v => v.category).sum ≤ 8) (hs : st = av.reverse ++ rest) (hP : ∀ v u, PP' v u → v = none ∧ u = w') (k : K cs sl w' (pc + 3) L rest) : K cs sl ws pc L st :=
  j_callS C hdg hM hcode hlink hst hini hy hf hw hs (fun v u h => by obtain ⟨rfl, rfl⟩ := hP v u h; exact k)
theorem j_cS1 (C : jK l D G KV own cc nL ret R mc ms nm PP K) {y : MethodName} {b : ByteArray} {nL' : Nat} {ret' : Option FieldType} {rm : Room} {av st : List Value} {idx : Nat} {x : Value} {w' : va_W} {PP' : Option Value → va_W → Prop} (hdg : decode cc pc = .ok (.invokestatic idx, 3)) (hM : jM l D G KV y b nL' ret' rm av ws 0 0 PP') (hcode : Cond.code y b nL' ret' ∈ tW) (hlink : Cond.methodLink own idx y ∈ tW) (hst : Cond.static y ∈ tW) (hini : Cond.initialized y.cls ∈ tW) (hy : jyes y av.length) (hf : jfit R rm nL' 0 0 cs sl) (hw : (rest.map fun v => v.category).sum ≤ 8) (hs : st = av.reverse ++ rest) (hP : ∀ v u, PP' v u → v = some x ∧ u = w') (k : K cs sl w' (pc + 3) L (x :: rest)) : K cs sl ws pc L st :=
  j_callS C hdg hM hcode hlink hst hini hy hf hw hs (fun v u h => by obtain ⟨rfl, rfl⟩ := hP v u h; exact k)
theorem j_cSN0 (C : jK l D G KV own cc nL ret R mc ms nm PP K) {y : MethodName} {b : ByteArray} {nL' : Nat} {ret' : Option FieldType} {rm : Room} {av st : List Value} {idx : Nat} {host : String} {w' : va_W} {PP' : Option Value → va_W → Prop} (hdg : decode cc pc = .ok (.invokestatic idx, 3)) (hM : jM l D G KV y b nL' ret' rm av ws 0 0 PP') (hcode : Cond.code y b nL' ret' ∈ tW) (hlink : Cond.methodLinkNest own idx y host ∈ nestW) (hst : Cond.static y ∈ tW) (hini : Cond.initialized y.cls ∈ tW) (hy : jyes y av.length) (hf : jfit R rm nL' 0 0 cs sl) (hw : (rest.map fun v => v.category).sum ≤ 8) (hs : st = av.reverse ++ rest) (hP : ∀ v u, PP' v u → v = none ∧ u = w') (k : K cs sl w' (pc + 3) L rest) : K cs sl ws pc L st :=
  j_callSN C hdg hM hcode hlink hst hini hy hf hw hs (fun v u h => by obtain ⟨rfl, rfl⟩ := hP v u h; exact k)
theorem j_cSN1 (C : jK l D G KV own cc nL ret R mc ms nm PP K) {y : MethodName} {b : ByteArray} {nL' : Nat} {ret' : Option FieldType} {rm : Room} {av st : List Value} {idx : Nat} {host : String} {x : Value} {w' : va_W} {PP' : Option Value → va_W → Prop} (hdg : decode cc pc = .ok (.invokestatic idx, 3)) (hM : jM l D G KV y b nL' ret' rm av ws 0 0 PP') (hcode : Cond.code y b nL' ret' ∈ tW) (hlink : Cond.methodLinkNest own idx y host ∈ nestW) (hst : Cond.static y ∈ tW) (hini : Cond.initialized y.cls ∈ tW) (hy : jyes y av.length) (hf : jfit R rm nL' 0 0 cs sl) (hw : (rest.map fun v => v.category).sum ≤ 8) (hs : st = av.reverse ++ rest) (hP : ∀ v u, PP' v u → v = some x ∧ u = w') (k : K cs sl w' (pc + 3) L (x :: rest)) : K cs sl ws pc L st :=
  j_callSN C hdg hM hcode hlink hst hini hy hf hw hs (fun v u h => by obtain ⟨rfl, rfl⟩ := hP v u h; exact k)
theorem j_cV0 (C : jK l D G KV own cc nL ret R mc ms nm PP K) {y : MethodName} {b : ByteArray} {nL' : Nat} {ret' : Option FieldType} {rm : Room} {av st : List Value} {idx ci : Nat} {fs : List Value} {r : vw_C} {w' : va_W} {PP' : Option Value → va_W → Prop} (hdg : decode cc pc = .ok (.invokevirtual idx, 3)) (hM : jM l D G KV y b nL' ret' rm (.ref (ad q0) :: av) (jw Nw cell ad s0) 0 0 PP') (hcode : Cond.code y b nL' ret' ∈ tW) (hlink : Cond.methodLink own idx y ∈ tW) (hin : Cond.instanceMethod y ∈ tW) (hsel : Cond.selects y.cls y y ∈ tW) (hini : Cond.initialized y.cls ∈ tW) (hy : jyes y av.length) (hf : jfit R rm nL' 0 0 cs sl) (hw : (rest.map fun v => v.category).sum ≤ 8) (hq : q0 < Nw) (he : cell ad q0 (s0.1 q0) (s0.2 q0) = .inr (ci, fs)) (hc : classes[ci]? = some r) (hrc : r.1 = y.cls) (hs : st = av.reverse ++ .ref (ad q0) :: rest) (hP : ∀ v u, PP' v u → v = none ∧ u = w') (k : K cs sl w' (pc + 3) L rest) : K cs sl (jw Nw cell ad s0) pc L st :=
  j_callV C (q0 := q0) (ci := ci) (fs := fs) hdg hM hcode hlink hin hsel hini hy hf hw (by rw [jw_at hq, he]) hc hrc hs (fun v u h => by obtain ⟨rfl, rfl⟩ := hP v u h; exact k)
theorem j_cV1 (C : jK l D G KV own cc nL ret R mc ms nm PP K) {y : MethodName} {b : ByteArray} {nL' : Nat} {ret' : Option FieldType} {rm : Room} {av st : List Value} {idx ci : Nat} {fs : List Value} {r : vw_C} {x : Value} {w' : va_W} {PP' : Option Value → va_W → Prop} (hdg : decode cc pc = .ok (.invokevirtual idx, 3)) (hM : jM l D G KV y b nL' ret' rm (.ref (ad q0) :: av) (jw Nw cell ad s0) 0 0 PP') (hcode : Cond.code y b nL' ret' ∈ tW) (hlink : Cond.methodLink own idx y ∈ tW) (hin : Cond.instanceMethod y ∈ tW) (hsel : Cond.selects y.cls y y ∈ tW) (hini : Cond.initialized y.cls ∈ tW) (hy : jyes y av.length) (hf : jfit R rm nL' 0 0 cs sl) (hw : (rest.map fun v => v.category).sum ≤ 8) (hq : q0 < Nw) (he : cell ad q0 (s0.1 q0) (s0.2 q0) = .inr (ci, fs)) (hc : classes[ci]? = some r) (hrc : r.1 = y.cls) (hs : st = av.reverse ++ .ref (ad q0) :: rest) (hP : ∀ v u, PP' v u → v = some x ∧ u = w') (k : K cs sl w' (pc + 3) L (x :: rest)) : K cs sl (jw Nw cell ad s0) pc L st :=
  j_callV C (q0 := q0) (ci := ci) (fs := fs) hdg hM hcode hlink hin hsel hini hy hf hw (by rw [jw_at hq, he]) hc hrc hs (fun v u h => by obtain ⟨rfl, rfl⟩ := hP v u h; exact k)
theorem j_sld (C : jK l D G KV own cc nL ret R mc ms nm PP K) {i : Int32} (hdg : decode cc pc = .ok (.iaload, 1)) (hi : vp_in i KV.2.2.1) (k : K cs sl ws (pc + 1) L (.int (KV.2.2.2 i.toNatClampNeg) :: rest)) : K cs sl ws pc L (.int i :: .ref KV.2.1 :: rest) := by
  obtain ⟨p, e, s, m, args, below, meth, c, A, Qc, hx, hb, hml, hown, hts, hr, hlk, hnm, hK, hE, hA, hend, rfl⟩ := C
  obtain ⟨-, -, -, -, -, h6, h7, h8, -⟩ := hE
  exact fun H locs ls hP hD hS hL => va_sld hx hb h6 h7 h8 hS hi hdg (k H locs ls hP hD hS hL)
theorem j_slen (C : jK l D G KV own cc nL ret R mc ms nm PP K) (hdg : decode cc pc = .ok (.arraylength, 1)) (k : K cs sl ws (pc + 1) L (.int (Int32.ofNat KV.2.2.1) :: rest)) : K cs sl ws pc L (.ref KV.2.1 :: rest) := by
  obtain ⟨p, e, s, m, args, below, meth, c, A, Qc, hx, hb, hml, hown, hts, hr, hlk, hnm, hK, hE, hA, hend, rfl⟩ := C
  obtain ⟨-, -, -, -, -, h6, h7, h8, -⟩ := hE
  exact fun H locs ls hP hD hS hL => va_slen hx hb h6 h7 h8 hS hdg (k H locs ls hP hD hS hL)
end JR2
