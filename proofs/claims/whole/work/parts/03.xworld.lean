section
variable {lc ac : Int32} {L W A F S R B N : Nat → Int32}
theorem hx_m1 {m : Nat} (h : m < 2 ^ 31) : ¬ nI m = -1 := by
  intro z
  have q := nI_pos' h
  rw [z] at q
  exact absurd q (by decide)
/-- holds, of the class -/
theorem hx_l (hN : ta_N L A F S N 27) (post : Int32 → Prop) {w : Nat} (h1 : qu_H L A F S w → post 1) (h0 : ¬ qu_H L A F S w → post 0) : ∀ d a : Nat, a + d = 27 → (∀ b, b < a → ¬ qu_Q L A F S (qu_gx b) w 4) → wX_holds_2 post (nI w) lc ac L W A F S R B N (d + 1) (nI a) := by
  intro d
  induction d with
  | zero =>
    intro a e hb
    obtain rfl : a = 27 := e
    exact br_t (nI_le (Nat.le_refl 27) (by decide)) (h0 (fun ⟨b, hb1, hb2⟩ => hb b hb1 hb2))
  | succ d ih =>
    intro a e hb
    have ha : a < 27 := by omega
    have va : vp_in (nI a) 27 := vp_in_nI ha (by decide)
    have ca : (nI a).toNatClampNeg = a := nI_clamp (by omega)
    have next : ¬ qu_Q L A F S (qu_gx a) w 4 → wX_holds_2 post (nI w) lc ac L W A F S R B N (d + 1) (nI (a + 1)) := by
      intro q
      refine ih (a + 1) (by omega) (fun b hb1 => ?_)
      by_cases e : b = a
      · subst e; exact q
      · exact hb b (by omega)
    refine br_f (nI_ge (b := 27) ha (by decide)) ⟨va, ?_⟩
    try rw [ca]
    rcases hN a ha with ⟨e1, q⟩ | ⟨m, hm, e1, q⟩
    · exact nm_r e1 (br_t rfl (nm_r (nI_1 a) (next (q w))))
    · refine nm_r e1 (br_f (hx_m1 (by omega)) ?_)
      rw [nx_and]
      have hle : w &&& m ≤ m := Nat.and_le_right
      have iffm : nI (w &&& m) = nI m ↔ w &&& m = m := nI_eq (by omega) (by omega)
      by_cases y : w &&& m = m
      · exact br_t (iffm.mpr y) (h1 ⟨a, ha, (q w).mp y⟩)
      · exact br_f (fun z => y (iffm.mp z)) (nm_r (nI_1 a) (next (fun z => y ((q w).mpr z))))
theorem hx_x (hN : ta_N L A F S N 27) (post : Int32 → Prop) {w : Nat} (h1 : qu_H L A F S w → post 1) (h0 : ¬ qu_H L A F S w → post 0) : wpX_holds post (lc, ac, L, W, A, F, S, R, B, N) (nI w) :=
  ⟨28, hx_l hN post h1 h0 27 0 rfl (fun b hb => absurd hb (Nat.not_lt_zero b))⟩
/-- weightOfWorld -/
theorem we_l (h10 : ra_rk L 36 ≤ 10) (hR : ta_R L R 36) (post : Int64 → Prop) {w : Nat} (hw : w < 2 ^ 31) (hp : post (pr_p L W w 36)) : ∀ d k r : Nat, k + d = ra_rk L 36 → ra_rk L r = k → wX_weightOfWorld_5 post (nI w) (nI (ra_rk L 36)) ac L W A F S R B N (d + 1) (pr_p L W w r) (nI k) := by
  intro d
  induction d with
  | zero =>
    intro k r e hk
    rw [pr_eq (show ra_rk L r = ra_rk L 36 by omega)]
    exact br_t (nI_le (by omega) (by omega)) hp
  | succ d ih =>
    intro k r e hk
    obtain ⟨t, ht, hz, hrt⟩ := ra_surj L 36 k (by omega)
    have k10 : k < 10 := by omega
    have ck : (nI k).toNatClampNeg = k := nI_clamp (by omega)
    have vk : vp_in (nI k) 10 := vp_in_nI k10 (by decide)
    have eR : R k = nI t := by rw [← hrt]; exact hR t ht hz
    have ct : (nI t).toNatClampNeg = t := nI_clamp (by omega)
    have vt : vp_in (nI t) 36 := vp_in_nI ht (by decide)
    have q := ih (k + 1) (t + 1) (by omega) (by rw [ra_s hz, hrt])
    rw [pr_s hz, hrt] at q
    rw [pr_eq (hk.trans hrt.symm)]
    refine br_f (nI_ge (by omega) (by omega)) (br_f (nI_ge (b := 10) k10 (by decide)) ⟨vk, ?_⟩)
    rw [ck, eR]
    refine ⟨vt, ?_⟩
    rw [ct]
    refine nm_e ?_
    have bt := bi_t (w := w) (k := k) hw (by omega)
    by_cases y : w.testBit k = true
    · have f : pr_f W w k t = W t := if_pos y
      rw [f] at q
      refine br_t (bt.mpr y) ?_
      refine br_f (by decide) ?_
      exact nm_e (nm_r (nI_1 k) q)
    · have f : pr_f W w k t = 10 - W t := if_neg y
      rw [f] at q
      refine br_f (fun z => y (bt.mp z)) ?_
      refine br_t rfl ?_
      exact nm_e (nm_r (nI_1 k) q)
theorem we_x (h10 : ra_rk L 36 ≤ 10) (hR : ta_R L R 36) (post : Int64 → Prop) {w : Nat} (hw : w < 2 ^ 31) (hp : post (pr_p L W w 36)) : wpX_weightOfWorld post (nI (ra_rk L 36), ac, L, W, A, F, S, R, B, N) (nI w) :=
  ⟨ra_rk L 36 + 1, we_l h10 hR post hw hp (ra_rk L 36) 0 0 (Nat.zero_add _) rfl⟩
end
