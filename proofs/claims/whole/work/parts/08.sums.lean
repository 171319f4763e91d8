section
variable {ac : Int32} {L W A F S R B N T : Nat → Int32}
/-- the sums, in lockstep: P says which worlds the question takes -/
theorem sm_l {P : Nat → Prop} {M : Nat} (hM : M ≤ 1024) (G : re_G L A F S) (hR : ta_R L R 36) (hN : ta_N L A F S N 27) {mask pat rr pres : Int32} (hX : ∀ w, w < 1024 → (nI w &&& mask = pat ↔ P w))
    (hY : (rr < 0 ∧ ∀ w, P w) ∨ (¬ rr < 0 ∧ vp_in rr 36 ∧ ∀ w T, ta_T L T w 36 → (T rr.toNatClampNeg = pres ↔ P w))) :
    ∀ (d w : Nat) (s : Int64), w + d = M → ∃ s' : Int64, (∀ post : Int64 → Prop, post s' → wX_sumOfWeights_13 post mask pat (nI M) (nI (ra_rk L 36)) ac L W A F S R B N (d + 1) s (nI w)) ∧ (∀ post : Int64 → SY → Prop, (∀ T, post s' (L, W, T, A, F, S)) → ∀ T, wY_sum_13 post rr pres (nI M) (d + 1) s (nI w) L W T A F S) := by
  obtain ⟨h10, _, _, hF, hS⟩ := G
  intro d
  induction d with
  | zero =>
    intro w s e
    obtain rfl : w = M := e
    have h : nI w ≤ nI w := Int32.le_refl _
    exact ⟨s, fun post hp => br_t h hp, fun post hp T => br_t h (hp T)⟩
  | succ d ih =>
    intro w s e
    have hw : w < 1024 := by omega
    have h : ¬ nI M ≤ nI w := nI_ge (by omega) (by omega)
    have xw := hX w hw
    by_cases p : P w
    · by_cases q : qu_H L A F S w
      · obtain ⟨s', iX, iY⟩ := ih (w + 1) (s + pr_p L W w 36) (by omega)
        refine ⟨s', fun post hp => br_f h (br_t (xw.mpr p) ?_), fun post hp T => br_f h ?_⟩
        · refine hx_x hN _ (fun _ => br_f (by decide) ?_) (fun n => absurd q n)
          exact we_x h10 hR _ (by omega) (nm_e (nm_r (nI_1 w) (iX post hp)))
        · refine la_y h10 _ (by omega) (fun T hT => ?_)
          rcases hY with ⟨r0, _⟩ | ⟨r0, vr, ht⟩
          · refine br_t r0 ?_
            refine hy_y hF hS hT _ (fun _ => br_f (by decide) ?_) (fun n => absurd q n)
            exact py_y hT _ (nm_e (nm_r (nI_1 w) (iY post hp T)))
          · refine br_f r0 ⟨vr, br_t ((ht w T hT).mpr p) ?_⟩
            refine hy_y hF hS hT _ (fun _ => br_f (by decide) ?_) (fun n => absurd q n)
            exact py_y hT _ (nm_e (nm_r (nI_1 w) (iY post hp T)))
      · obtain ⟨s', iX, iY⟩ := ih (w + 1) s (by omega)
        refine ⟨s', fun post hp => br_f h (br_t (xw.mpr p) ?_), fun post hp T => br_f h ?_⟩
        · exact hx_x hN _ (fun n => absurd n q) (fun _ => br_t rfl (nm_r (nI_1 w) (iX post hp)))
        · refine la_y h10 _ (by omega) (fun T hT => ?_)
          rcases hY with ⟨r0, _⟩ | ⟨r0, vr, ht⟩
          · refine br_t r0 ?_
            exact hy_y hF hS hT _ (fun n => absurd n q) (fun _ => br_t rfl (nm_r (nI_1 w) (iY post hp T)))
          · refine br_f r0 ⟨vr, br_t ((ht w T hT).mpr p) ?_⟩
            exact hy_y hF hS hT _ (fun n => absurd n q) (fun _ => br_t rfl (nm_r (nI_1 w) (iY post hp T)))
    · obtain ⟨s', iX, iY⟩ := ih (w + 1) s (by omega)
      refine ⟨s', fun post hp => br_f h (br_f (fun z => p (xw.mp z)) (nm_r (nI_1 w) (iX post hp))), fun post hp T => br_f h ?_⟩
      refine la_y h10 _ (by omega) (fun T hT => ?_)
      rcases hY with ⟨_, a⟩ | ⟨r0, vr, ht⟩
      · exact absurd (a w) p
      · exact br_f r0 ⟨vr, br_f (fun z => p ((ht w T hT).mp z)) (nm_r (nI_1 w) (iY post hp T))⟩
theorem sm_x {P : Nat → Prop} (G : re_G L A F S) (hR : ta_R L R 36) (hN : ta_N L A F S N 27) {mask pat rr pres : Int32} (hX : ∀ w, w < 1024 → (nI w &&& mask = pat ↔ P w))
    (hY : (rr < 0 ∧ ∀ w, P w) ∨ (¬ rr < 0 ∧ vp_in rr 36 ∧ ∀ w T, ta_T L T w 36 → (T rr.toNatClampNeg = pres ↔ P w))) :
    ∃ s : Int64, (∀ post : Int64 → Prop, post s → wpX_sumOfWeights post (nI (ra_rk L 36), ac, L, W, A, F, S, R, B, N) mask pat) ∧ (∀ post : Int64 → SY → Prop, (∀ T, post s (L, W, T, A, F, S)) → ∀ T, wpY_sum post (L, W, T, A, F, S) rr pres) := by
  have h10 := G.1
  have hb := bi_shl (k := ra_rk L 36) (by omega)
  obtain ⟨s, sX, sY⟩ := sm_l (ac := ac) (W := W) (B := B) (bi_le h10) G hR hN hX hY (2 ^ ra_rk L 36) 0 0 (Nat.zero_add _)
  refine ⟨s, fun post hp => ?_, fun post hp T => ?_⟩
  · unfold wpX_sumOfWeights
    exact nm_r hb ⟨_, sX post hp⟩
  · unfold wpY_sum
    exact ro_y _ (nm_r hb ⟨_, sY post hp T⟩)
/-- a row that is not listed is in no world -/
theorem sm_0l {M : Nat} (hM : M ≤ 1024) (h10 : ra_rk L 36 ≤ 10) {r : Nat} (hr : r < 36) (z : L r = 0) (post : Int64 → SY → Prop) (s : Int64) (hp : ∀ T, post s (L, W, T, A, F, S)) :
    ∀ (d w : Nat) (T : Nat → Int32), w + d = M → wY_sum_13 post (nI r) 1 (nI M) (d + 1) s (nI w) L W T A F S := by
  intro d
  induction d with
  | zero =>
    intro w T e
    obtain rfl : w = M := e
    exact br_t (Int32.le_refl _) (hp T)
  | succ d ih =>
    intro w T e
    refine br_f (nI_ge (by omega) (by omega)) ?_
    refine la_y h10 _ (by omega) (fun T hT => ?_)
    refine br_f (nI_pos (by omega)) ⟨vp_in_nI hr (by decide), br_f ?_ (nm_r (nI_1 w) (ih (w + 1) T (by omega)))⟩
    rw [nI_clamp (by omega), (hT r hr).2 (fun y => y.1 z)]
    decide
theorem sm_0 (h10 : ra_rk L 36 ≤ 10) {r : Nat} (hr : r < 36) (z : L r = 0) (post : Int64 → SY → Prop) (hp : ∀ T, post 0 (L, W, T, A, F, S)) : wpY_sum post (L, W, T, A, F, S) (nI r) 1 := by
  unfold wpY_sum
  exact ro_y _ (nm_r (bi_shl (k := ra_rk L 36) (by omega)) ⟨_, sm_0l (bi_le h10) h10 hr z post 0 hp (2 ^ ra_rk L 36) 0 T (Nat.zero_add _)⟩)
/-- worlds, in lockstep -/
theorem wo_l {M : Nat} (hM : M ≤ 1024) (G : re_G L A F S) (hN : ta_N L A F S N 27) :
    ∀ (d w : Nat) (s : Int32), w + d = M → ∃ s' : Int32, (∀ post : Int32 → SX → Prop, post s' (nI (ra_rk L 36), ac, L, W, A, F, S, R, B, N) → wX_worlds_15 post (nI M) (nI (ra_rk L 36)) ac L W A F S R B N (d + 1) s (nI w)) ∧ (∀ post : Int32 → SY → Prop, (∀ T, post s' (L, W, T, A, F, S)) → ∀ T, wY_worlds_11 post (nI M) (d + 1) s (nI w) L W T A F S) := by
  obtain ⟨h10, _, _, hF, hS⟩ := G
  intro d
  induction d with
  | zero =>
    intro w s e
    obtain rfl : w = M := e
    have h : nI w ≤ nI w := Int32.le_refl _
    exact ⟨s, fun post hp => br_t h hp, fun post hp T => br_t h (hp T)⟩
  | succ d ih =>
    intro w s e
    have h : ¬ nI M ≤ nI w := nI_ge (by omega) (by omega)
    by_cases q : qu_H L A F S w
    · obtain ⟨s', iX, iY⟩ := ih (w + 1) (s + 1) (by omega)
      refine ⟨s', fun post hp => br_f h ?_, fun post hp T => br_f h ?_⟩
      · exact hx_x hN _ (fun _ => br_f (by decide) (nm_e (nm_r (nI_1 w) (iX post hp)))) (fun n => absurd q n)
      · refine la_y h10 _ (by omega) (fun T hT => ?_)
        exact hy_y hF hS hT _ (fun _ => br_f (by decide) (nm_e (nm_r (nI_1 w) (iY post hp T)))) (fun n => absurd q n)
    · obtain ⟨s', iX, iY⟩ := ih (w + 1) s (by omega)
      refine ⟨s', fun post hp => br_f h ?_, fun post hp T => br_f h ?_⟩
      · exact hx_x hN _ (fun n => absurd n q) (fun _ => br_t rfl (nm_r (nI_1 w) (iX post hp)))
      · refine la_y h10 _ (by omega) (fun T hT => ?_)
        exact hy_y hF hS hT _ (fun n => absurd n q) (fun _ => br_t rfl (nm_r (nI_1 w) (iY post hp T)))
/-- heaviest, in lockstep -/
theorem he_l {M : Nat} (hM : M ≤ 1024) (G : re_G L A F S) (hR : ta_R L R 36) (hN : ta_N L A F S N 27) :
    ∀ (d w : Nat) (b : Int32) (m : Int64), w + d = M → ∃ b' : Int32, (∀ post : Int32 → SX → Prop, post b' (nI (ra_rk L 36), ac, L, W, A, F, S, R, B, N) → wX_heaviest_21 post (nI M) (nI (ra_rk L 36)) ac L W A F S R B N (d + 1) b m (nI w)) ∧ (∀ post : Int32 → SY → Prop, (∀ T, post b' (L, W, T, A, F, S)) → ∀ T, wY_heaviest_17 post (nI M) (d + 1) b m (nI w) L W T A F S) := by
  obtain ⟨h10, _, _, hF, hS⟩ := G
  intro d
  induction d with
  | zero =>
    intro w b m e
    obtain rfl : w = M := e
    have h : nI w ≤ nI w := Int32.le_refl _
    exact ⟨b, fun post hp => br_t h hp, fun post hp T => br_t h (hp T)⟩
  | succ d ih =>
    intro w b m e
    have h : ¬ nI M ≤ nI w := nI_ge (by omega) (by omega)
    by_cases q : qu_H L A F S w
    · by_cases c : pr_p L W w 36 ≤ m
      · obtain ⟨s', iX, iY⟩ := ih (w + 1) b m (by omega)
        refine ⟨s', fun post hp => br_f h ?_, fun post hp T => br_f h ?_⟩
        · refine hx_x hN _ (fun _ => br_f (by decide) ?_) (fun n => absurd q n)
          exact we_x h10 hR _ (by omega) (br_t c (nm_r (nI_1 w) (iX post hp)))
        · refine la_y h10 _ (by omega) (fun T hT => ?_)
          refine hy_y hF hS hT _ (fun _ => br_f (by decide) ?_) (fun n => absurd q n)
          exact py_y hT _ (br_t c (nm_r (nI_1 w) (iY post hp T)))
      · obtain ⟨s', iX, iY⟩ := ih (w + 1) (nI w) (pr_p L W w 36) (by omega)
        refine ⟨s', fun post hp => br_f h ?_, fun post hp T => br_f h ?_⟩
        · refine hx_x hN _ (fun _ => br_f (by decide) ?_) (fun n => absurd q n)
          exact we_x h10 hR _ (by omega) (br_f c (nm_r (nI_1 w) (iX post hp)))
        · refine la_y h10 _ (by omega) (fun T hT => ?_)
          refine hy_y hF hS hT _ (fun _ => br_f (by decide) ?_) (fun n => absurd q n)
          exact py_y hT _ (br_f c (nm_r (nI_1 w) (iY post hp T)))
    · obtain ⟨s', iX, iY⟩ := ih (w + 1) b m (by omega)
      refine ⟨s', fun post hp => br_f h ?_, fun post hp T => br_f h ?_⟩
      · exact hx_x hN _ (fun n => absurd n q) (fun _ => br_t rfl (nm_r (nI_1 w) (iX post hp)))
      · refine la_y h10 _ (by omega) (fun T hT => ?_)
        exact hy_y hF hS hT _ (fun n => absurd n q) (fun _ => br_t rfl (nm_r (nI_1 w) (iY post hp T)))
end
