section
variable {nd n : Nat} {c m : jS}
theorem settled_is (hn : 400000 ≤ n) (hI : Inv nd jText (LOw nd n) (EOw nd n) c m) :
    ∃ c', F_X0_roundsChanged nd n c = some (c'.1 51 6, c') ∧ setOK (eE (opV n (c.1 19) (c.1 20) (m.1 3)) (m.1 1) (c.1 23) nd (c.1 18 8).toInt.toNat) (c.1 18 7).toInt.toNat nd (c.1 21) (c'.1 51 6) (c'.1 52) ∧ ∀ m' : jS, wkM m m' → Inv nd jText (LOw nd n) (EOw nd n) c' m' := by
  obtain ⟨hnd1, hnd⟩ := I_nd hI
  have ha := I_asks hI
  have h4 := ha.2.1
  have ht0 := (I_told hI).2.1
  have hrr : inR (c.1 18 7) (c.1 21) := fun d hd => (rule_is hI hd).2
  have hcnt := (guests_is hI).2.1
  have hhin : rHinge (c.1 22) (m.1 1) := hI.1.2.1.2.2.2.2.1
  have hgl : ∀ g : Nat, (g : Int) < (c.1 18 8).toInt → (c.1 23 (4 * g)).toInt ≤ 9 := fun g hg => (guest_is hI hg).1.2
  have hE : ∀ (ρ : Nat → Int32) (v : Nat), v < nd → inR (c.1 18 7) ρ → eE (opV n (c.1 19) (c.1 20) (m.1 3)) (m.1 1) (c.1 23) nd (c.1 18 8).toInt.toNat ρ v = eE (opV n (c.1 19) (c.1 20) (m.1 3)) (aU (c.1 22)) (c.1 23) nd (c.1 18 8).toInt.toNat ρ v := fun ρ v hv hr =>
    eS_cg (told := c.1 18 7) hnd (fun _ _ _ _ _ _ _ _ => rfl) hr _ (fun g hg => ⟨fun d hd => (aU_is hnd hhin _ hd).symm, hgl g (by omega)⟩)
  by_cases hset : jz (c.1 51 7) = true
  · obtain ⟨c0, _, _, _, _, h5, _⟩ := hI.2.2 hset
    refine ⟨c, by unfold F_X0_roundsChanged; rw [if_pos hset], ?_, fun m' hm' => Inv_wk hI wkC_rfl hm' hI.2.1 hI.2.2⟩
    exact set_cg (told := c.1 18 7) (by omega) (by omega) hnd hrr (fun ρ v hv hr => (hE ρ v hv hr).symm) h5
  · obtain ⟨c', r1, r2, r3⟩ := roundsC_is hn hI hset
    refine ⟨c', r1, r3, fun m' hm' => Inv_wk hI r2.1 hm' (ts_L hI r2) (fun _ => ?_)⟩
    exact ⟨c, asks_can ha, rfl, rfl, rfl, set_cg (told := c.1 18 7) (by omega) (by omega) hnd hrr hE r3, hrr, ht0, hgl⟩
end
theorem rounds_ok {nd n : Nat} (hn : 400000 ≤ n) : ok_rounds nd n (Inv nd jText (LOw nd n) (EOw nd n)) := by
  intro v1 c m hI
  have l20 : (-2 : Int32).toInt = -2 := rfl
  obtain ⟨hnd1, hnd⟩ := I_nd hI
  have hdo := I_door hI v1
  have htold := I_told hI
  by_cases hv : v1 = -1 ∨ F_X8_isDoor v1 c = true
  · obtain ⟨c', r1, r2, r3⟩ := settled_is hn hI
    obtain ⟨m1, k1, k2, k3⟩ := begin_is hn hI
    obtain ⟨e, s, w1, w2, w3⟩ := roundsM_is hn hnd k3 htold.1.symm htold.2.1 (v1 := v1)
    have hInv := r3 s (wkM_tr k2 w2)
    have hC : F_X8_rounds nd n v1 c = J_X8_rounds_16 nd n v1 c := by
      unfold F_X8_rounds
      by_cases z : v1 = -1
      · rw [if_pos z]
      · rw [if_neg z, if_pos (hv.resolve_left z)]
    have hM : F_X9_rounds n v1 m = Sum.elim (fun e22 : Int32 × jS => (if v1 = (-1) then some (e22.1, e22.2) else (if jin v1 8 = true then some ((e22.2.1 10 (Int32.toNatClampNeg v1)), e22.2) else none))) (fun r22 => some r22) e := by
      unfold F_X9_rounds
      by_cases z : v1 = -1
      · rw [if_pos z, k1, Option.bind_some, w1, Option.bind_some]
      · rw [if_neg z, hdo, if_pos (hv.resolve_left z), k1, Option.bind_some, w1, Option.bind_some]
    have hJ : J_X8_rounds_16 nd n v1 c = (if v1 = (-1) then some (c'.1 51 6, c') else (if c'.1 51 6 = (-2) then some (c'.1 51 6, c') else (if jin v1 8 = true then some ((c'.1 52 (Int32.toNatClampNeg v1)), c') else none))) := by
      unfold J_X8_rounds_16
      rw [r1, Option.bind_some]
    rcases w3 with ⟨i, a1, a2, a3, a4, a5⟩ | ⟨a1, a2⟩
    · rcases r2 with ⟨i', b1, b2, b3, b4, b5⟩ | ⟨b1, _⟩
      · have hii : i' = i := by
          have q1 : ¬ i' < i := fun z => a3 i' z b2
          have q2 : ¬ i < i' := fun z => b3 i z a2
          omega
        subst hii
        have hx : c'.1 51 6 = Int32.ofNat i' := i32_eq.mpr (by rw [ofNat_int (by omega)]; exact b4)
        subst a4
        by_cases z : v1 = -1
        · exact ⟨Int32.ofNat i', c', s, by rw [hC, hJ, if_pos z, hx], by rw [hM]; show (if v1 = (-1) then some (Int32.ofNat i', s) else _) = _; rw [if_pos z], hInv⟩
        · have hd := I_doorI hI (hv.resolve_left z)
          have hn2 : ¬ c'.1 51 6 = -2 := fun y => by rw [y, l20] at b4; omega
          have jv : jin v1 8 = true := jin_of hd.1 (by omega)
          have hrow : s.1 10 v1.toNatClampNeg = c'.1 52 v1.toNatClampNeg := by
            rw [i32_nat, a5 _ (by omega), b5 _ (by omega)]
          exact ⟨c'.1 52 v1.toNatClampNeg, c', s, by rw [hC, hJ, if_neg z, if_neg hn2, if_pos jv], by rw [hM]; show (if v1 = (-1) then some (Int32.ofNat i', s) else (if jin v1 8 = true then some ((s.1 10 (Int32.toNatClampNeg v1)), s) else none)) = _; rw [if_neg z, if_pos jv, hrow], hInv⟩
      · exact absurd a2 (b1 i a1)
    · rcases r2 with ⟨i', b1, b2, b3, b4, b5⟩ | ⟨b1, b2⟩
      · exact absurd b2 (a1 i' b1)
      · subst a2
        refine ⟨-2, c', s, ?_, by rw [hM]; rfl, hInv⟩
        rw [hC, hJ, b2]
        by_cases z : v1 = -1
        · rw [if_pos z]
        · rw [if_neg z, if_pos rfl]
  · have h1 : ¬ v1 = -1 := fun z => hv (Or.inl z)
    have h2 : ¬ F_X8_isDoor v1 c = true := fun z => hv (Or.inr z)
    refine ⟨-2, c, m, ?_, ?_, hI⟩
    · unfold F_X8_rounds
      rw [if_neg h1, if_neg h2]
    · unfold F_X9_rounds
      rw [if_neg h1, hdo, if_neg h2]
