section
variable {L W A F S R B N T : Nat → Int32}
theorem ix_2 (p0 p1 p2 : Int32) : (∃ r : Nat, r < 36 ∧ (∀ post : Int32 → Prop, post (nI r) → wpX_rowIndex post p0 p1 p2) ∧ (∀ post : Int32 → Prop, post (nI r) → wpY_number post p0 p1 p2)) ∨ ((∀ post : Int32 → Prop, post (-1) → wpX_rowIndex post p0 p1 p2) ∧ (∀ post : Int32 → Prop, post (-1) → wpY_number post p0 p1 p2)) := by
  rcases ix_xy p0 p1 p2 with ⟨i, j, k, hi, hj, hk, rfl, rfl, rfl⟩ | h
  · exact Or.inl ⟨9 * i + 3 * j + k, by omega, fun post hp => ix_in post hi hj hk hp, fun post hp => iy_in post hi hj hk hp⟩
  · exact Or.inr h
theorem re_01 {r : Nat} {x : Int32} (h : ta_01 L) (hx : x = 0 ∨ x = 1) : ta_01 (upd L r x) := by
  intro j
  by_cases e : j = r
  · subst e; rw [pk_us]; exact hx
  · rw [pk_un e]; exact h j
theorem re_3 {r q : Nat} (h : ta_3 F) (hq : q < 3) : ta_3 (upd F r (nI q)) := by
  intro j
  by_cases e : j = r
  · subst e; exact ⟨q, hq, pk_us⟩
  · rw [pk_un e]; exact h j
theorem re_n1 {x : Int32} (h : x = 0 ∨ x = 1) (z : ¬ x = 0) : x = 1 := by
  rcases h with h | h
  · exact absurd h z
  · exact h
theorem re_up {r n : Nat} (z : L r = 0) (hr : r < n) : ra_rk (upd L r 1) n = ra_rk L n + 1 := by
  rw [ra_up (by decide) z, if_pos hr]
theorem re_dn {r n : Nat} (z : ¬ L r = 0) (hr : r < n) : ra_rk (upd L r 0) n + 1 = ra_rk L n := by
  have h := ra_dn z n
  rw [if_pos hr] at h
  exact h
theorem re_L1 {r : Nat} (G : re_G L A F S) (z : L r = 0) (h : ra_rk L 36 < 10) (hr : r < 36) : re_G (upd L r 1) A F S :=
  ⟨by rw [re_up z hr]; omega, re_01 G.2.1 (Or.inr rfl), G.2.2⟩
theorem re_L0 {r : Nat} (G : re_G L A F S) (z : ¬ L r = 0) (hr : r < 36) : re_G (upd L r 0) A F S :=
  ⟨by have h := re_dn z hr; have h2 := G.1; omega, re_01 G.2.1 (Or.inl rfl), G.2.2⟩
end
def i_Rel (_ : Nat) (u : SX) (v : SY) : Prop := ∃ (L W A F S R B N T : Nat → Int32), re_G L A F S ∧ u = (nI (ra_rk L 36), nI (ra_rk A 4), L, W, A, F, S, R, B, N) ∧ v = (L, W, T, A, F, S)
theorem i_up {k : Nat} {u : SX} {v : SY} (h : i_Rel k u v) : i_Rel (k + 5) u v := h
section
variable {L W A F S R B N T : Nat → Int32}
theorem re_i {k : Nat} (G : re_G L A F S) : i_Rel k (nI (ra_rk L 36), nI (ra_rk A 4), L, W, A, F, S, R, B, N) (L, W, T, A, F, S) := ⟨L, W, A, F, S, R, B, N, T, G, rfl, rfl⟩
theorem re_e {k : Nat} {l a : Int32} (G : re_G L A F S) (hl : l = nI (ra_rk L 36)) (ha : a = nI (ra_rk A 4)) : i_Rel k (l, a, L, W, A, F, S, R, B, N) (L, W, T, A, F, S) := by
  subst hl ha
  exact re_i G
end
theorem i_vc0 : wpX_init (fun u => wpY_init (fun v => i_Rel 0 u v)) := by
  have G : re_G (fun _ => 0) (fun _ => 0) (fun _ => 0) (fun _ => 0) := ⟨by rw [ra_zero]; decide, fun _ => Or.inl rfl, fun _ => Or.inl rfl, fun _ => ⟨0, by decide, rfl⟩, fun _ => ⟨0, by decide, rfl⟩⟩
  exact re_e (k := 0) G (by rw [ra_zero]; rfl) (by rw [ra_zero]; rfl)
theorem i_vc_row {k : Nat} {u : SX} {v : SY} (I : i_Rel k u v) (hk : k + 5 ≤ 2560) (v1 : Int32) (v2 : Int32) (v3 : Int32) (v4 : Int32) : wpX_row (fun r u' => wpY_row (fun r' v' => r' = r ∧ i_Rel (k + 5) u' v') v v1 v2 v3 v4) u v1 v2 v3 v4 := by
  obtain ⟨L, W, A, F, S, R, B, N, T, G, rfl, rfl⟩ := I
  have h10 := G.1
  unfold wpX_row wpY_row
  dsimp only
  rcases ix_2 v1 v2 v3 with ⟨r, hr, hX, hY⟩ | ⟨hX, hY⟩
  · have n0 : ¬ nI r < 0 := nI_pos (by omega)
    have vr : vp_in (nI r) 36 := vp_in_nI hr (by decide)
    have cr : (nI r).toNatClampNeg = r := nI_clamp (by omega)
    by_cases w0 : v4 < 0
    · exact hX _ (br_f n0 (br_t w0 (hY _ (br_f n0 (br_t w0 ⟨rfl, re_i G⟩)))))
    by_cases w1 : v4 ≤ 10
    · by_cases z : L r = 0
      · by_cases f : ra_rk L 36 < 10
        · -- a new row
          refine hX _ (br_f n0 (br_f w0 (br_t w1 ⟨vr, ?_⟩)))
          try rw [cr]
          refine br_t z (br_t (nI_lt (b := 10) f (by decide)) ⟨vr, nm_e (nm_r (nI_1 _) ?_)⟩)
          refine And.intro vr (nm_e ?_)
          refine hY _ (br_f n0 (br_f w0 (br_t w1 ⟨vr, ?_⟩)))
          try rw [cr]
          refine br_t z (ro_y _ (br_f ?_ ?_))
          · exact fun q => absurd ((nI_eq (b := 10) (by omega) (by decide)).mp q) (by omega)
          refine And.intro vr (nm_e ⟨vr, nm_e ?_⟩)
          rw [cr, ta_b1]
          refine ro_y _ ?_
          rw [re_up z hr]
          exact ⟨rfl, re_e (re_L1 G z f hr) (by rw [re_up z hr]) rfl⟩
        · -- full
          have f10 : ra_rk L 36 = 10 := by omega
          refine hX _ (br_f n0 (br_f w0 (br_t w1 ⟨vr, ?_⟩)))
          try rw [cr]
          refine br_t z (br_f (nI_nlt (b := 10) (by omega) (by omega)) ?_)
          refine hY _ (br_f n0 (br_f w0 (br_t w1 ⟨vr, ?_⟩)))
          try rw [cr]
          refine br_t z (ro_y _ (br_t (by rw [f10]; rfl) ⟨rfl, re_i G⟩))
      · -- listed already
        have e1 : L r = 1 := re_n1 (G.2.1 r) z
        refine hX _ (br_f n0 (br_f w0 (br_t w1 ⟨vr, ?_⟩)))
        try rw [cr]
        refine br_f z ?_
        refine And.intro vr (nm_e ?_)
        refine hY _ (br_f n0 (br_f w0 (br_t w1 ⟨vr, ?_⟩)))
        try rw [cr]
        refine br_f z ?_
        refine And.intro vr (nm_e ⟨vr, nm_e ?_⟩)
        rw [cr, ta_b1, ra_id e1]
        exact ro_y _ ⟨rfl, re_i G⟩
    · exact hX _ (br_f n0 (br_f w0 (br_f w1 (hY _ (br_f n0 (br_f w0 (br_f w1 ⟨rfl, re_i G⟩)))))))
  · exact hX _ (br_t (by decide) (hY _ (br_t (by decide) ⟨rfl, re_i G⟩)))
theorem i_vc_drop {k : Nat} {u : SX} {v : SY} (I : i_Rel k u v) (hk : k + 5 ≤ 2560) (v1 : Int32) (v2 : Int32) (v3 : Int32) : wpX_drop (fun r u' => wpY_drop (fun r' v' => r' = r ∧ i_Rel (k + 5) u' v') v v1 v2 v3) u v1 v2 v3 := by
  obtain ⟨L, W, A, F, S, R, B, N, T, G, rfl, rfl⟩ := I
  unfold wpX_drop wpY_drop
  dsimp only
  rcases ix_2 v1 v2 v3 with ⟨r, hr, hX, hY⟩ | ⟨hX, hY⟩
  · have n0 : ¬ nI r < 0 := nI_pos (by omega)
    have vr : vp_in (nI r) 36 := vp_in_nI hr (by decide)
    have cr : (nI r).toNatClampNeg = r := nI_clamp (by omega)
    refine hX _ (br_f n0 ⟨vr, ?_⟩)
    try rw [cr]
    by_cases z : L r = 0
    · refine br_t z (hY _ (br_f n0 ⟨vr, ?_⟩))
      try rw [cr]
      exact br_t z ⟨rfl, re_i G⟩
    · have e1 := re_dn (n := 36) z hr
      refine br_f z ⟨vr, nm_e (nm_r (show nI (ra_rk L 36) - 1 = nI (ra_rk (upd L r 0) 36) by rw [← e1]; exact nI_pred _) (hY _ (br_f n0 ⟨vr, ?_⟩)))⟩
      try rw [cr]
      refine br_f z ⟨vr, nm_e ?_⟩
      rw [ta_b0]
      exact ro_y _ ⟨rfl, re_i (re_L0 G z hr)⟩
  · exact hX _ (br_t (by decide) (hY _ (br_t (by decide) ⟨rfl, re_i G⟩)))
