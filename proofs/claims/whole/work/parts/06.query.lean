section
variable {lc ac : Int32} {L W A F S R B N T : Nat → Int32}
/-- atom: a wrong triple, the count of the asked -/
theorem an_no {p0 p1 p2 : Int32} (h : ¬ ∃ i j k : Nat, i < 4 ∧ j < 3 ∧ k < 3 ∧ p0 = nI i ∧ p1 = nI j ∧ p2 = nI k) (post : Int32 → SX → Prop) (hp : post (-1) (lc, ac, L, W, A, F, S, R, B, N)) : wpX_atom post (lc, ac, L, W, A, F, S, R, B, N) p0 p1 p2 := by
  by_cases h0 : ∃ j : Nat, j < 4 ∧ p0 = nI j
  · obtain ⟨i, hi, rfl⟩ := h0
    have a0 := nI_pos (n := i) (by omega)
    have a1 : ¬ 4 ≤ nI i := nI_ge (b := 4) hi (by decide)
    have ci : (nI i).toNatClampNeg = i := nI_clamp (by omega)
    refine br_f a0 (br_f a1 ⟨vp_in_nI hi (by decide), ?_⟩)
    try rw [ci]
    by_cases z : A i = 0
    · refine br_t z ?_
      by_cases h1 : ∃ j : Nat, j < 3 ∧ p1 = nI j
      · obtain ⟨j, hj, rfl⟩ := h1
        have b0 := nI_pos (n := j) (by omega)
        have b1 : ¬ 3 ≤ nI j := nI_ge (b := 3) hj (by decide)
        have h2 : ¬ ∃ j : Nat, j < 3 ∧ p2 = nI j := fun ⟨k, hk, e⟩ => h ⟨i, j, k, hi, hj, hk, rfl, rfl, e⟩
        rcases ix_no 3 (by decide) h2 with y | ⟨y, x⟩
        · exact br_f b0 (br_f b1 (br_t y hp))
        · exact br_f b0 (br_f b1 (br_f y (br_f (Int32.not_lt.mpr x) hp)))
      · rcases ix_no 3 (by decide) h1 with y | ⟨y, x⟩
        · exact br_t y hp
        · exact br_f y (br_t x hp)
    · exact br_f z hp
  · rcases ix_no 4 (by decide) h0 with y | ⟨y, x⟩
    · exact br_t y hp
    · exact br_f y (br_t x hp)
theorem an_l (post : Int32 → SY → Prop) (hp : post (nI (ra_rk A 4)) (L, W, T, A, F, S)) : ∀ d i : Nat, i + d = 4 → wY_atom_47 post L W T A F S (d + 1) (nI (ra_rk A i)) (nI i) := by
  intro d
  induction d with
  | zero =>
    intro i e
    obtain rfl : i = 4 := e
    exact br_t (nI_le (Nat.le_refl 4) (by decide)) hp
  | succ d ih =>
    intro i e
    have hi : i < 4 := by omega
    have ci : (nI i).toNatClampNeg = i := nI_clamp (by omega)
    refine br_f (nI_ge (b := 4) hi (by decide)) ⟨vp_in_nI hi (by decide), ?_⟩
    try rw [ci]
    have q := ih (i + 1) (by omega)
    by_cases z : A i = 0
    · rw [ra_z z] at q
      exact br_t z (nm_r (nI_1 i) q)
    · rw [ra_s z] at q
      exact br_f z (nm_r (nI_1 _) (nm_r (nI_1 i) q))
/-- clearQuery -/
theorem cq_l : ∀ (d i : Nat) (A : Nat → Int32), i + d = 4 → (∀ j, j < i → A j = 0) → ta_01 A → ∃ A' : Nat → Int32, (∀ j, j < 4 → A' j = 0) ∧ ta_01 A' ∧ (∀ post : SX → Prop, post (lc, 0, L, W, A', F, S, R, B, N) → wX_clearQuery_2 post lc ac (d + 1) (nI i) L W A F S R B N) ∧ (∀ post : SY → Prop, post (L, W, T, A', F, S) → wY_clearQuery_2 post (d + 1) (nI i) L W T A F S) := by
  intro d
  induction d with
  | zero =>
    intro i A e hA h01
    obtain rfl : i = 4 := e
    have h : nI 4 ≤ nI 4 := nI_le (Nat.le_refl 4) (by decide)
    exact ⟨A, hA, h01, fun post hp => br_t h hp, fun post hp => br_t h hp⟩
  | succ d ih =>
    intro i A e hA h01
    have hi : i < 4 := by omega
    have ci : (nI i).toNatClampNeg = i := nI_clamp (by omega)
    have vi : vp_in (nI i) 4 := vp_in_nI hi (by decide)
    have hn : ¬ nI 4 ≤ nI i := nI_ge hi (by decide)
    obtain ⟨A', h1, h2, hX, hY⟩ := ih (i + 1) (upd A i 0) (by omega) (fun j hj => by
      by_cases e : j = i
      · subst e; exact pk_us
      · rw [pk_un e]; exact hA j (by omega)) (re_01 h01 (Or.inl rfl))
    refine ⟨A', h1, h2, fun post hp => br_f hn ⟨vi, nm_e ?_⟩, fun post hp => br_f hn ⟨vi, nm_e ?_⟩⟩
    · rw [ci, ta_b0]
      exact nm_r (nI_1 i) (hX post hp)
    · rw [ci, ta_b0]
      exact nm_r (nI_1 i) (hY post hp)
theorem cq_0 {A : Nat → Int32} (h : ∀ j, j < 4 → A j = 0) : ra_rk A 4 = 0 := by
  rw [ra_z (h 3 (by decide)), ra_z (h 2 (by decide)), ra_z (h 1 (by decide)), ra_z (h 0 (by decide))]
  rfl
end
theorem i_vc_atom {k : Nat} {u : SX} {v : SY} (I : i_Rel k u v) (hk : k + 5 ≤ 2560) (v1 : Int32) (v2 : Int32) (v3 : Int32) : wpX_atom (fun r u' => wpY_atom (fun r' v' => r' = r ∧ i_Rel (k + 5) u' v') v v1 v2 v3) u v1 v2 v3 := by
  obtain ⟨L, W, A, F, S, R, B, N, T, G, rfl, rfl⟩ := I
  by_cases h : ∃ i j k : Nat, i < 4 ∧ j < 3 ∧ k < 3 ∧ v1 = nI i ∧ v2 = nI j ∧ v3 = nI k
  · obtain ⟨i, j, l, hi, hj, hl, rfl, rfl, rfl⟩ := h
    have ci : (nI i).toNatClampNeg = i := nI_clamp (by omega)
    have vi : vp_in (nI i) 4 := vp_in_nI hi (by decide)
    have n0 : ¬ nI (9 * i + 3 * j + l) < 0 := nI_pos (by omega)
    unfold wpX_atom wpY_atom
    dsimp only
    refine br_f (nI_pos (by omega)) (br_f (nI_ge (b := 4) hi (by decide)) ⟨vi, ?_⟩)
    try rw [ci]
    by_cases z : A i = 0
    · have e1 := re_up (n := 4) z hi
      refine br_t z (br_f (nI_pos (by omega)) (br_f (nI_ge (b := 3) hj (by decide)) (br_f (nI_pos (by omega)) (br_t (nI_lt (b := 3) hl (by decide)) ⟨vi, nm_e ⟨vi, nm_e ⟨vi, nm_e (nm_r (nI_1 _) ?_)⟩⟩⟩))))
      refine iy_in _ hi hj hl (br_f n0 ⟨vi, ?_⟩)
      try rw [ci]
      refine br_t z ⟨vi, nm_e ⟨vi, nm_e ⟨vi, nm_e ⟨5, ?_⟩⟩⟩⟩
      rw [ta_b1]
      refine an_l _ ?_ 4 0 rfl
      exact ⟨by rw [e1], re_e ⟨G.1, G.2.1, re_01 G.2.2.1 (Or.inr rfl), re_3 G.2.2.2.1 hj, re_3 G.2.2.2.2 hl⟩ rfl (by rw [e1])⟩
    · refine br_f z (iy_in _ hi hj hl (br_f n0 ⟨vi, ?_⟩))
      try rw [ci]
      exact br_f z ⟨rfl, re_i G⟩
  · refine an_no h _ ?_
    unfold wpY_atom
    dsimp only
    rcases ix_xy v1 v2 v3 with y | ⟨_, hY⟩
    · exact absurd y h
    · exact hY _ (br_t (by decide) ⟨rfl, re_i G⟩)
theorem i_vc_clearQuery {k : Nat} {u : SX} {v : SY} (I : i_Rel k u v) (hk : k + 5 ≤ 2560) : wpX_clearQuery (fun u' => wpY_clearQuery (fun v' => i_Rel (k + 5) u' v') v) u := by
  obtain ⟨L, W, A, F, S, R, B, N, T, G, rfl, rfl⟩ := I
  obtain ⟨A', h1, h2, hX, hY⟩ := cq_l (lc := nI (ra_rk L 36)) (ac := nI (ra_rk A 4)) (L := L) (W := W) (F := F) (S := S) (R := R) (B := B) (N := N) (T := T) 4 0 A rfl (fun j h => absurd h (Nat.not_lt_zero j)) G.2.2.1
  exact ⟨5, hX _ ⟨5, hY _ (re_e ⟨G.1, G.2.1, h2, G.2.2.2⟩ rfl (by rw [cq_0 h1]; rfl))⟩⟩
