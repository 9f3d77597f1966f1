/-! two tables of one road: what is never looked at does not count -/
def likeL (D : Nat) (L L' : Nat → Nat → Nat → Nat → Nat) : Prop := ∀ d h w k : Nat, d < D → w ≤ 9 → 1 ≤ k → k < 8 → L d h w k = L' d h w k
section
variable {L L' : Nat → Nat → Nat → Nat → Nat} {D : Nat} {ex : Bool} {N : Nat}
theorem opt_cg {X' X'' : Nat → Nat → Nat} {h d w : Nat} (h0 : X' d (capW w) = X'' d (capW w)) (h1 : X' (d + 1) 0 = X'' (d + 1) 0) (hk : ∀ k : Nat, 1 ≤ k → k < 8 → L d h w k = L' d h w k) {k : Nat} (k8 : k < 8) : optX L X' h d w k = optX L' X'' h d w k := by
  unfold optX
  by_cases k0 : k = 0
  · rw [if_pos k0, if_pos k0, h0]
  · rw [if_neg k0, if_neg k0, hk k (by omega) k8, h1]
theorem vX_cg (hL : likeL D L L') : ∀ r h d w : Nat, d ≤ D → w ≤ 9 → vX L D ex r h d w = vX L' D ex r h d w := by
  intro r
  induction r with
  | zero => intro h d w _ _; rfl
  | succ r ih =>
    intro h d w hd hw
    by_cases e : d = D
    · show (if d = D then _ else _) = (if d = D then _ else _)
      rw [if_pos e, if_pos e]
    · rw [vX_s e, vX_s e]
      exact minTo_congr 8 (fun k hk => opt_cg (ih (h + 1) d (capW w) hd (cap9 hw)) (ih (h + 1) (d + 1) 0 (by omega) (by omega)) (fun k k1 k8 => hL d h w k (by omega) hw k1 k8) hk)
theorem kX_cg (hL : likeL D L L') {h d w : Nat} (hd : d < D) (hw : w ≤ 9) : kX L D ex N h d w = kX L' D ex N h d w := by
  unfold kX
  rw [vX_cg hL (N - h) h d w (by omega) hw]
  exact fst_same (fun k k8 => opt_cg (vX_cg hL (N - h - 1) (h + 1) d (capW w) (by omega) (cap9 hw)) (vX_cg hL (N - h - 1) (h + 1) (d + 1) 0 (by omega) (by omega)) (fun k k1 k8 => hL d h w k hd hw k1 k8) k8)
theorem way_cg (h6 : ∀ d h w k : Nat, L d h w k ≤ 6) (hL : likeL D L L') (hD : D ≤ 8) (hN : N ≤ 48) (hf : vX L D ex N 0 0 0 < 1000000) : ∀ i : Nat, i ≤ vX L D ex N 0 0 0 % 100 → posX L D ex N i = posX L' D ex N i ∧ (i < vX L D ex N 0 0 0 % 100 → actX L D ex N i = actX L' D ex N i) := by
  intro i
  induction i with
  | zero =>
    intro hi
    refine ⟨rfl, fun hlt => ?_⟩
    obtain ⟨p1, p2, p3, p3a, p3b, p4, p5, p6, p7⟩ := path_is h6 hD hN hf 0 hi
    obtain ⟨k, k1, k2, _⟩ := step_is h6 hD (p6 hlt) hN p1 p4
    have hk := kX_cg (ex := ex) (N := N) hL (h := 0) (p6 hlt) p3
    show (if kX L D ex N 0 0 0 = 0 then 0 else 10 * kX L D ex N 0 0 0 + L 0 0 0 (kX L D ex N 0 0 0)) = (if kX L' D ex N 0 0 0 = 0 then 0 else 10 * kX L' D ex N 0 0 0 + L' 0 0 0 (kX L' D ex N 0 0 0))
    change kX L D ex N 0 0 0 = kX L' D ex N 0 0 0 at hk
    change kX L D ex N 0 0 0 = k at k1
    rw [← hk]
    by_cases z : kX L D ex N 0 0 0 = 0
    · rw [if_pos z, if_pos z]
    · rw [if_neg z, if_neg z, hL 0 0 0 _ (p6 hlt) (by omega) (by omega) (by omega)]
  | succ i ih =>
    intro hi
    obtain ⟨g1, g2⟩ := ih (by omega)
    have hpos : posX L D ex N (i + 1) = posX L' D ex N (i + 1) := by
      obtain ⟨p1, p2, p3, p3a, p3b, p4, p5, p6, p7⟩ := path_is h6 hD hN hf i (by omega)
      show (if kX L D ex N i (posX L D ex N i).1 (posX L D ex N i).2 = 0 then ((posX L D ex N i).1, capW (posX L D ex N i).2) else ((posX L D ex N i).1 + 1, 0)) = (if kX L' D ex N i (posX L' D ex N i).1 (posX L' D ex N i).2 = 0 then ((posX L' D ex N i).1, capW (posX L' D ex N i).2) else ((posX L' D ex N i).1 + 1, 0))
      rw [← g1, kX_cg hL (p6 (by omega)) p3]
    refine ⟨hpos, fun hlt => ?_⟩
    obtain ⟨p1, p2, p3, p3a, p3b, p4, p5, p6, p7⟩ := path_is h6 hD hN hf (i + 1) hi
    obtain ⟨k, k1, k2, _⟩ := step_is h6 hD (p6 hlt) hN p1 p4
    unfold actX
    rw [← hpos, ← kX_cg hL (p6 hlt) p3]
    by_cases z : kX L D ex N (i + 1) (posX L D ex N (i + 1)).1 (posX L D ex N (i + 1)).2 = 0
    · rw [if_pos z, if_pos z]
    · rw [if_neg z, if_neg z, hL _ (i + 1) _ _ (p6 hlt) p3 (by omega) (by omega)]
theorem gvX_cg (h6 : ∀ d h w k : Nat, L d h w k ≤ 6) (hL : likeL D L L') (hD : D ≤ 8) (hN : N ≤ 48) (hf : vX L D ex N 0 0 0 < 1000000) (v : Nat) : ∀ i : Nat, i ≤ vX L D ex N 0 0 0 % 100 → gvX L D ex N v i = gvX L' D ex N v i := by
  intro i
  induction i with
  | zero => intro _; rfl
  | succ i ih =>
    intro hi
    obtain ⟨g1, g2⟩ := way_cg h6 hL hD hN hf i (by omega)
    show gvX L D ex N v i + (if (posX L D ex N i).1 = v then actX L D ex N i % 10 else 0) = gvX L' D ex N v i + (if (posX L' D ex N i).1 = v then actX L' D ex N i % 10 else 0)
    rw [ih (by omega), ← g1, ← g2 (by omega)]
end
/-- rules as doors may have them -/
def inR (told : Int32) (ρ : Nat → Int32) : Prop := ∀ d : Nat, d < 8 → -1 ≤ (ρ d).toInt ∧ (ρ d).toInt < told.toInt
theorem eG_cg {V V' : oV} {a a' gu : Nat → Int32} {nd : Nat} {ρ : Nat → Int32} {told : Int32} {v g : Nat} (hnd : nd ≤ 8) (hV : ∀ v1 v2 v3 v4 v5 v6 v7 : Int32, inArgs told v1 v2 v3 v4 v5 v6 v7 → V v1 v2 v3 v4 v5 v6 v7 = V' v1 v2 v3 v4 v5 v6 v7) (ha : ∀ d : Nat, d < nd → freeB a (gu (4 * g + 1)) d = freeB a' (gu (4 * g + 1)) d) (hl : (gu (4 * g)).toInt ≤ 9) (hr : inR told ρ) : eG V a gu nd ρ v g = eG V' a' gu nd ρ v g := by
  have h6 : ∀ d h w k : Nat, guL V a gu ρ g d h w k ≤ 6 := sL_le
  have hL : likeL nd (guL V a gu ρ g) (guL V' a' gu ρ g) := by
    intro d h w k hd hw k1 k8
    unfold guL sL
    rw [ha d hd]
    by_cases z : freeB a' (gu (4 * g + 1)) d = true
    · rw [if_pos z, if_pos z]
    · rw [if_neg z, if_neg z]
      by_cases y : (ρ d).toInt < 0
      · rw [if_pos y, if_pos y]
      · rw [if_neg y, if_neg y]
        refine lgF_congr (fun gg hg => hV _ _ _ _ _ _ _ ?_)
        have hrd := hr d (by omega)
        have hm : ((gu (4 * g + 2)).toInt.toNat + h) % 24 < 24 := Nat.mod_lt _ (by decide)
        unfold inArgs
        rw [ofNat_int (by omega), ofNat_int (by omega), ofNat_int (by omega), ofNat_int (by omega), ofNat_int (by omega), ofNat_int (by omega)]
        omega
  have hv := vX_cg (ex := false) hL 24 0 0 0 (Nat.zero_le _) (by omega)
  unfold eG
  rw [← hv]
  by_cases z : vX (guL V a gu ρ g) nd false 24 0 0 0 < 1000000 ∧ vX (guL V a gu ρ g) nd false 24 0 0 0 / 100 ≤ (gu (4 * g + 3)).toInt.toNat
  · rw [if_pos z, if_pos z]
    exact gvX_cg h6 hL hnd (by decide) z.1 v _ (Nat.le_refl _)
  · rw [if_neg z, if_neg z]
theorem eS_cg {V V' : oV} {a a' gu : Nat → Int32} {nd : Nat} {ρ : Nat → Int32} {told : Int32} {v : Nat} (hnd : nd ≤ 8) (hV : ∀ v1 v2 v3 v4 v5 v6 v7 : Int32, inArgs told v1 v2 v3 v4 v5 v6 v7 → V v1 v2 v3 v4 v5 v6 v7 = V' v1 v2 v3 v4 v5 v6 v7) (hr : inR told ρ) : ∀ cnt : Nat, (∀ g : Nat, g < cnt → (∀ d : Nat, d < nd → freeB a (gu (4 * g + 1)) d = freeB a' (gu (4 * g + 1)) d) ∧ (gu (4 * g)).toInt ≤ 9) → eS V a gu nd ρ v cnt = eS V' a' gu nd ρ v cnt := by
  intro cnt
  induction cnt with
  | zero => intro _; rfl
  | succ k ih =>
    intro h
    show eS V a gu nd ρ v k + eG V a gu nd ρ v k = eS V' a' gu nd ρ v k + eG V' a' gu nd ρ v k
    rw [ih (fun g hg => h g (by omega)), eG_cg hnd hV (h k (by omega)).1 (h k (by omega)).2 hr]
