/-! asks joined by and, or -/
theorem app_app : ∀ (A B W : List Int32), app (A ++ B) W = app B (app A W) := by
  intro A
  induction A with
  | nil => intro B W; rfl
  | cons p A ih => intro B W; exact ih B _
theorem nests_app : ∀ A B : List Int32, nests (A ++ B) = nests A + nests B := by
  intro A B
  induction A with
  | nil => exact (Nat.zero_add _).symm
  | cons p A ih =>
    show _ + nests (A ++ B) = _ + nests A + nests B
    omega
theorem nests_rep : ∀ k : Nat, nests (List.replicate k 13) = k := by
  intro k
  induction k with
  | zero => rfl
  | succ k ih =>
    show (if (13 : Int32) = 13 ∨ (13 : Int32) = 24 then 1 else 0) + nests (List.replicate k 13) = k + 1
    rw [if_pos (Or.inl rfl), ih]; omega
def pendB (andp orp : Bool) : List Int32 := (if andp = true then [12] else []) ++ (if orp = true then [11] else [])
def pendN (andp orp : Bool) : Nat := (if andp = true then 1 else 0) + (if orp = true then 1 else 0)
theorem pend_ok (andp orp : Bool) : B0ok (pendB andp orp) ∧ pendN andp orp ≤ 2 ∧ nests (pendB andp orp) = 0 ∧ (pendB andp orp).length = pendN andp orp := by
  cases andp <;> cases orp <;> exact ⟨⟨by decide, by decide⟩, by decide, by decide, by decide⟩
/-- behind the last ask -/
def eithE (t : Nat) (Ws P : List Int32) (Wf : List (Int32 × Int32 × Int32)) (c m : jS) : Prop :=
  cE t Ws P (nests P) c ∧ w1 Wf = app P Ws ∧ mE t (w2 Wf) [] 0 m ∧ codeL Wf 0 1 ∧
  ((∀ p ∈ P, ¬ F_X1_levelOf p < 1) ∧ P.length ≤ 64 ∧ nests P ≤ 8 ∧ Wf.length = Ws.length + P.length ∧ ((Ws.length + P.length : Nat) : Int) ≤ (c.1 27 4).toInt) ∧
  (c.1 49 8 = 0 ∧ c.1 49 5 = 7 ∧ c.1 49 0 = 0 ∧ nmB (c.1 (2 + 4 * t) 5) Wf ∧ jz (c.1 49 9) = true) ∧
  rTape (c.1 27) (c.1 28) (m.1 0) (m.1 4) ∧ tokA c m ∧ ¬ (c.1 27 2 = 20 ∨ c.1 27 2 = 21 ∨ c.1 27 2 = 22 ∨ c.1 27 2 = 23) ∧ ¬ c.1 27 2 = 11 ∧ ¬ c.1 27 2 = 12
def andW (q : Bool) (W : List (Int32 × Int32 × Int32)) : List (Int32 × Int32 × Int32) := if q = true then (-12, 21, 0) :: W else W
def orW (q : Bool) (W : List (Int32 × Int32 × Int32)) : List (Int32 × Int32 × Int32) := if q = true then (-11, 22, 0) :: W else W
theorem andW_code {q : Bool} {b : Nat} {W : List (Int32 × Int32 × Int32)} (hb : 1 ≤ b) (h64 : b ≤ 60) (h : codeL W 0 ((if q = true then 1 else 0) + b)) : codeL (andW q W) 0 b := by
  cases q with
  | false =>
    change codeL W 0 (0 + b) at h
    rw [Nat.zero_add] at h
    exact h
  | true => exact ⟨0, 1 + b, h, by omega, Or.inr (Or.inr (Or.inr (Or.inr (Or.inr (Or.inr (Or.inl ⟨rfl, rfl, rfl, by omega, rfl, by omega⟩))))))⟩
theorem orW_code {q : Bool} {b : Nat} {W : List (Int32 × Int32 × Int32)} (hb : 1 ≤ b) (h64 : b ≤ 60) (h : codeL W 0 ((if q = true then 1 else 0) + b)) : codeL (orW q W) 0 b := by
  cases q with
  | false =>
    change codeL W 0 (0 + b) at h
    rw [Nat.zero_add] at h
    exact h
  | true => exact ⟨0, 1 + b, h, by omega, Or.inr (Or.inr (Or.inr (Or.inr (Or.inr (Or.inr (Or.inr ⟨rfl, rfl, rfl, by omega, rfl, by omega⟩))))))⟩
theorem andW_nm {x : Int32} {q : Bool} {W : List (Int32 × Int32 × Int32)} (h : nmB x W) : nmB x (andW q W) := by
  cases q with
  | false => exact h
  | true => exact nmB_skip h (by decide +kernel)
theorem orW_nm {x : Int32} {q : Bool} {W : List (Int32 × Int32 × Int32)} (h : nmB x W) : nmB x (orW q W) := by
  cases q with
  | false => exact h
  | true => exact nmB_skip h (by decide +kernel)
theorem andW_len {q : Bool} {W : List (Int32 × Int32 × Int32)} : (andW q W).length = (if q = true then 1 else 0) + W.length := by
  cases q with
  | false => exact (Nat.zero_add _).symm
  | true => show W.length + 1 = 1 + W.length; omega
theorem orW_len {q : Bool} {W : List (Int32 × Int32 × Int32)} : (orW q W).length = (if q = true then 1 else 0) + W.length := by
  cases q with
  | false => exact (Nat.zero_add _).symm
  | true => show W.length + 1 = 1 + W.length; omega
theorem andW_1 {q : Bool} {W : List (Int32 × Int32 × Int32)} : w1 (andW q W) = app (if q = true then [12] else []) (w1 W) := by
  cases q <;> rfl
theorem orW_1 {q : Bool} {W : List (Int32 × Int32 × Int32)} : w1 (orW q W) = app (if q = true then [11] else []) (w1 W) := by
  cases q <;> rfl
theorem emit_and {t : Nat} (ht : t < 4) {q : Bool} {W : List (Int32 × Int32 × Int32)} {z : jS} (h : mE t (w2 W) [] 0 z) (hl : (if q = true then 1 else 0) + W.length ≤ 300) {α : Type} (f : jS → Option α) : ∃ z', (if q = true then (F_X9_emit 21 0 z).bind (fun p => f p) else f z) = f z' ∧ mE t (w2 (andW q W)) [] 0 z' ∧ pM t z z' := by
  cases q with
  | false => exact ⟨z, by rw [if_neg (fun y => by cases y)], h, pM_rfl⟩
  | true =>
    have hl' : 1 + W.length ≤ 300 := hl
    obtain ⟨z', a1, a2, a3⟩ := emit_m ht h (by rw [w2_len]; omega) 21 0
    exact ⟨z', by rw [if_pos rfl, a1, Option.bind_some], a2, a3⟩
theorem emit_or {t : Nat} (ht : t < 4) {q : Bool} {W : List (Int32 × Int32 × Int32)} {z : jS} (h : mE t (w2 W) [] 0 z) (hl : (if q = true then 1 else 0) + W.length ≤ 300) {α : Type} (f : jS → Option α) : ∃ z', (if q = true then (F_X9_emit 22 0 z).bind (fun p => f p) else f z) = f z' ∧ mE t (w2 (orW q W)) [] 0 z' ∧ pM t z z' := by
  cases q with
  | false => exact ⟨z, by rw [if_neg (fun y => by cases y)], h, pM_rfl⟩
  | true =>
    have hl' : 1 + W.length ≤ 300 := hl
    obtain ⟨z', a1, a2, a3⟩ := emit_m ht h (by rw [w2_len]; omega) 22 0
    exact ⟨z', by rw [if_pos rfl, a1, Option.bind_some], a2, a3⟩
/-- the reference behind an ask -/
theorem J35_and {n : Nat} {v2 : Bool} {s : jS} (h : wordD (jdig 13) (s.1 0 10) (s.2 0 12) = true) (h2 : ¬ wordD (jdig 12) (s.1 0 10) (s.2 0 12) = true) : J_X9_either_35 n v2 s = (F_X9_nextToken n s).bind fun p113 => some (.inl (true, v2, true, p113)) := by
  have h72 : J_X9_either_72 n (F_X9_isWord (F_X9_w3 97 110 100) s) v2 s = (F_X9_nextToken n s).bind fun p113 => some (.inl (true, v2, true, p113)) := by
    rw [isWord_D, d13, h]
    unfold J_X9_either_72 J_X9_either_73
    rw [if_pos rfl]
    unfold J_X9_either_93
    rw [if_pos rfl]
    unfold J_X9_either_102 J_X9_either_107
    rw [if_pos rfl]
  unfold J_X9_either_35
  by_cases k : s.1 0 10 = 2
  · rw [if_pos k]
    by_cases k2 : lg_cmp (s.2 0 12) 28530 = 0
    · exfalso
      apply h2
      unfold wordD
      rw [if_pos k, ← d12, if_pos k2]
    · rw [if_neg k2]; exact h72
  · rw [if_neg k]; exact h72
theorem J35_or {n : Nat} {v2 : Bool} {s : jS} (h : ¬ wordD (jdig 13) (s.1 0 10) (s.2 0 12) = true) (h2 : wordD (jdig 12) (s.1 0 10) (s.2 0 12) = true) : J_X9_either_35 n v2 s = (if v2 = true then (F_X9_emit 22 0 s).bind (fun p => (F_X9_nextToken n p).bind fun p113 => some (.inl (false, true, true, p113))) else (F_X9_nextToken n s).bind fun p113 => some (.inl (false, true, true, p113))) := by
  have h90 : ∀ p, J_X9_either_90 n false true p = (F_X9_nextToken n p).bind fun p113 => some (.inl (false, true, true, p113)) := fun p => by
    unfold J_X9_either_90 J_X9_either_93
    rw [if_neg (fun z => by cases z), if_pos rfl]
    unfold J_X9_either_102 J_X9_either_107
    rw [if_pos rfl]
  have hf : wordD (jdig 13) (s.1 0 10) (s.2 0 12) = false := by
    cases hh : wordD (jdig 13) (s.1 0 10) (s.2 0 12) with
    | false => rfl
    | true => exact absurd hh h
  have h73 : J_X9_either_73 n (F_X9_isWord (F_X9_w3 97 110 100) s) v2 true s = (if v2 = true then (F_X9_emit 22 0 s).bind (fun p => (F_X9_nextToken n p).bind fun p113 => some (.inl (false, true, true, p113))) else (F_X9_nextToken n s).bind fun p113 => some (.inl (false, true, true, p113))) := by
    rw [isWord_D, d13, hf]
    unfold J_X9_either_73
    rw [if_neg (fun z => by cases z), h90]
    by_cases k : v2 = true
    · rw [if_pos k, if_pos k]
      exact congrArg _ (funext fun p => h90 p)
    · rw [if_neg k, if_neg k]
  unfold J_X9_either_35
  unfold wordD at h2
  by_cases k : s.1 0 10 = 2
  · rw [if_pos k, ← d12] at h2
    by_cases k2 : lg_cmp (s.2 0 12) 28530 = 0
    · rw [if_pos k, if_pos k2]; exact h73
    · rw [if_neg k2] at h2; cases h2
  · rw [if_neg k] at h2; cases h2
theorem J35_end {n : Nat} {v2 : Bool} {s : jS} (h : ¬ wordD (jdig 13) (s.1 0 10) (s.2 0 12) = true) (h2 : ¬ wordD (jdig 12) (s.1 0 10) (s.2 0 12) = true) : J_X9_either_35 n v2 s = (if v2 = true then (F_X9_emit 22 0 s).bind (fun p => some (.inl (false, false, false, p))) else some (.inl (false, false, false, s))) := by
  have h90 : ∀ p, J_X9_either_90 n false false p = some (.inl (false, false, false, p)) := fun p => by
    unfold J_X9_either_90 J_X9_either_93
    rw [if_neg (fun z => by cases z), if_neg (fun z => by cases z)]
    unfold J_X9_either_107
    rw [if_neg (fun z => by cases z)]
  have hf : wordD (jdig 13) (s.1 0 10) (s.2 0 12) = false := by
    cases hh : wordD (jdig 13) (s.1 0 10) (s.2 0 12) with
    | false => rfl
    | true => exact absurd hh h
  have h72 : J_X9_either_72 n (F_X9_isWord (F_X9_w3 97 110 100) s) v2 s = (if v2 = true then (F_X9_emit 22 0 s).bind (fun p => some (.inl (false, false, false, p))) else some (.inl (false, false, false, s))) := by
    rw [isWord_D, d13, hf]
    unfold J_X9_either_72 J_X9_either_73
    rw [if_neg (fun z => by cases z), h90]
    by_cases k : v2 = true
    · rw [if_pos k, if_pos k]
      exact congrArg _ (funext fun p => h90 p)
    · rw [if_neg k, if_neg k]
  unfold J_X9_either_35
  by_cases k : s.1 0 10 = 2
  · rw [if_pos k]
    by_cases k2 : lg_cmp (s.2 0 12) 28530 = 0
    · exfalso
      apply h2
      unfold wordD
      rw [if_pos k, ← d12, if_pos k2]
    · rw [if_neg k2]; exact h72
  · rw [if_neg k]; exact h72
theorem ask_A {pl : List (Fin 6)} {v : Int32} {k : Nat} (h4 : ∀ p ∈ pl, 1 ≤ p.val ∧ p.val ≤ 4) (hv : F_X1_levelOf v = 4) : (∀ p ∈ pl.map oC ++ (v :: List.replicate k 13), ¬ F_X1_levelOf p < 3) ∧ nests (pl.map oC ++ (v :: List.replicate k 13)) = k ∧ (pl.map oC ++ (v :: List.replicate k 13)).length = pl.length + 1 + k := by
  refine ⟨fun p hp => ?_, ?_, ?_⟩
  · rcases List.mem_append.mp hp with z | z
    · obtain ⟨q, hq, rfl⟩ := List.mem_map.mp z
      exact fun y => (lev_all q).2.2.1 (h4 q hq) (lt_tr y (by decide))
    · rcases List.mem_cons.mp z with z | z
      · rw [z, hv]; decide
      · rw [List.eq_of_mem_replicate z]; decide
  · rw [nests_app, (cnt_bin pl h4).2.2.2]
    show 0 + ((if v = 13 ∨ v = 24 then 1 else 0) + nests (List.replicate k 13)) = k
    rw [nests_rep, if_neg (fun z => by rcases z with z | z <;> (rw [z] at hv; exact absurd hv (by decide)))]
    omega
  · rw [List.length_append, List.length_map]
    show pl.length + ((List.replicate k (13 : Int32)).length + 1) = _
    rw [List.length_replicate]; omega
theorem ask_W {ws : List (Int32 × Int32 × Int32)} {pl : List (Fin 6)} {v o : Int32} {k : Nat} : w1 (notsW k ((-v, o, 0) :: app3 pl ws)) = app (pl.map oC ++ (v :: List.replicate k 13)) (w1 ws) := by
  rw [notsW_1, app_app, ← app3_1]
  rfl
