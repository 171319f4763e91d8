theorem fi_z (w : Nat) : nI w &&& 0 = 0 := by
  show nI w &&& nI 0 = nI 0
  rw [nx_and, Nat.and_zero]
theorem fi_1 {w k : Nat} (hw : w < 1024) (hk : k < 10) : nI w &&& nI (2 ^ k) = nI (2 ^ k) ↔ w.testBit k = true := by
  have h := bi_lt hk
  have h2 : w &&& 2 ^ k ≤ 2 ^ k := Nat.and_le_right
  rw [nx_and, nI_eq (by omega) (by omega)]
  exact bi_one w k
theorem fi_0 {w k : Nat} (hw : w < 1024) (hk : k < 10) : nI w &&& nI (2 ^ k) = 0 ↔ ¬ w.testBit k = true := by
  have h := bi_lt hk
  have h2 : w &&& 2 ^ k ≤ 2 ^ k := Nat.and_le_right
  show _ = nI 0 ↔ _
  rw [nx_and, nI_eq (by omega) (by omega)]
  exact bi_zero w k
theorem i_vc_weight {k : Nat} {u : SX} {v : SY} (I : i_Rel k u v) (hk : k + 5 ≤ 2560) : wpX_weight (fun r u' => wpY_weight (fun r' v' => r' = r ∧ i_Rel (k + 5) u' v') v) u := by
  obtain ⟨L, W, A, F, S, R, B, N, T, G, rfl, rfl⟩ := I
  unfold wpX_weight wpY_weight
  dsimp only
  refine pp_x G _ (fun R B N hB hR hN => ?_)
  obtain ⟨s, hX, hY⟩ := sm_x (P := fun _ => True) (ac := nI (ra_rk A 4)) (W := W) (B := B) (mask := 0) (pat := 0) (rr := -1) (pres := 0) G hR hN (fun w _ => ⟨fun _ => trivial, fun _ => fi_z w⟩) (Or.inl ⟨by decide, fun _ => trivial⟩)
  refine hX _ ?_
  exact hY _ (fun T => ⟨rfl, re_i G⟩) T
theorem i_vc_weightWith {k : Nat} {u : SX} {v : SY} (I : i_Rel k u v) (hk : k + 5 ≤ 2560) (v1 : Int32) (v2 : Int32) (v3 : Int32) : wpX_weightWith (fun r u' => wpY_weightWith (fun r' v' => r' = r ∧ i_Rel (k + 5) u' v') v v1 v2 v3) u v1 v2 v3 := by
  obtain ⟨L, W, A, F, S, R, B, N, T, G, rfl, rfl⟩ := I
  have h10 := G.1
  unfold wpX_weightWith wpY_weightWith
  dsimp only
  refine pp_x G _ (fun R B N hB hR hN => ?_)
  rcases ix_xy v1 v2 v3 with ⟨i, j, l, hi, hj, hl, rfl, rfl, rfl⟩ | ⟨hX, hY⟩
  · have hr : 9 * i + 3 * j + l < 36 := by omega
    obtain ⟨b0, b1⟩ := hB _ hr
    have r0 : ¬ nI (9 * i + 3 * j + l) < 0 := nI_pos (by omega)
    have r1 : 0 ≤ nI (9 * i + 3 * j + l) := nI_pos' (by omega)
    have cr : (nI (9 * i + 3 * j + l)).toNatClampNeg = 9 * i + 3 * j + l := nI_clamp (by omega)
    refine bo_in _ hi hj hl ?_
    by_cases z : L (9 * i + 3 * j + l) = 0
    · refine br_t (b0 z) ?_
      refine iy_in _ hi hj hl (br_t r1 ?_)
      exact sm_0 h10 hr z _ (fun T => ⟨rfl, re_i G⟩)
    · have hk : ra_rk L (9 * i + 3 * j + l) < 10 := Nat.lt_of_lt_of_le (ra_lt L hr z) h10
      have hn : ¬ B (9 * i + 3 * j + l) = 0 := by
        rw [b1 z]
        exact nI_ne0 (Nat.two_pow_pos _) (Nat.lt_trans (bi_lt hk) (by decide))
      obtain ⟨s, hX, hY⟩ := sm_x (P := fun w => w.testBit (ra_rk L (9 * i + 3 * j + l)) = true) (ac := nI (ra_rk A 4)) (W := W) (B := B) (mask := B (9 * i + 3 * j + l)) (pat := B (9 * i + 3 * j + l)) (rr := nI (9 * i + 3 * j + l)) (pres := 1) G hR hN (fun w hw => by rw [b1 z]; exact fi_1 hw hk) (Or.inr ⟨r0, vp_in_nI hr (by decide), fun w T hT => by
        try rw [cr]
        obtain ⟨t1, t0⟩ := hT _ hr
        constructor
        · intro e
          by_cases y : w.testBit (ra_rk L (9 * i + 3 * j + l)) = true
          · exact y
          · rw [t0 (fun q => y q.2)] at e
            exact absurd e (by decide)
        · intro y
          exact t1 ⟨z, y⟩⟩)
      refine br_f hn (hX _ ?_)
      refine iy_in _ hi hj hl (br_t r1 ?_)
      exact hY _ (fun T => ⟨rfl, re_i G⟩) T
  · exact bo_no _ hX (br_t rfl (hY _ (br_f (by decide) ⟨rfl, re_i G⟩)))
theorem i_vc_weightWithout {k : Nat} {u : SX} {v : SY} (I : i_Rel k u v) (hk : k + 5 ≤ 2560) (v1 : Int32) (v2 : Int32) (v3 : Int32) : wpX_weightWithout (fun r u' => wpY_weightWithout (fun r' v' => r' = r ∧ i_Rel (k + 5) u' v') v v1 v2 v3) u v1 v2 v3 := by
  obtain ⟨L, W, A, F, S, R, B, N, T, G, rfl, rfl⟩ := I
  have h10 := G.1
  unfold wpX_weightWithout wpY_weightWithout
  dsimp only
  refine pp_x G _ (fun R B N hB hR hN => ?_)
  rcases ix_xy v1 v2 v3 with ⟨i, j, l, hi, hj, hl, rfl, rfl, rfl⟩ | ⟨hX, hY⟩
  · have hr : 9 * i + 3 * j + l < 36 := by omega
    obtain ⟨b0, b1⟩ := hB _ hr
    have r0 : ¬ nI (9 * i + 3 * j + l) < 0 := nI_pos (by omega)
    have cr : (nI (9 * i + 3 * j + l)).toNatClampNeg = 9 * i + 3 * j + l := nI_clamp (by omega)
    refine bo_in _ hi hj hl ?_
    by_cases z : L (9 * i + 3 * j + l) = 0
    · obtain ⟨s, hX, hY⟩ := sm_x (P := fun _ => True) (ac := nI (ra_rk A 4)) (W := W) (B := B) (mask := B (9 * i + 3 * j + l)) (pat := 0) (rr := nI (9 * i + 3 * j + l)) (pres := 0) G hR hN (fun w _ => ⟨fun _ => trivial, fun _ => by rw [b0 z]; exact fi_z w⟩) (Or.inr ⟨r0, vp_in_nI hr (by decide), fun w T hT => by
        try rw [cr]
        exact ⟨fun _ => trivial, fun _ => (hT _ hr).2 (fun y => y.1 z)⟩⟩)
      refine hX _ ?_
      refine iy_in _ hi hj hl ?_
      exact hY _ (fun T => ⟨rfl, re_i G⟩) T
    · have hk : ra_rk L (9 * i + 3 * j + l) < 10 := Nat.lt_of_lt_of_le (ra_lt L hr z) h10
      obtain ⟨s, hX, hY⟩ := sm_x (P := fun w => ¬ w.testBit (ra_rk L (9 * i + 3 * j + l)) = true) (ac := nI (ra_rk A 4)) (W := W) (B := B) (mask := B (9 * i + 3 * j + l)) (pat := 0) (rr := nI (9 * i + 3 * j + l)) (pres := 0) G hR hN (fun w hw => by rw [b1 z]; exact fi_0 hw hk) (Or.inr ⟨r0, vp_in_nI hr (by decide), fun w T hT => by
        try rw [cr]
        obtain ⟨t1, t0⟩ := hT _ hr
        constructor
        · intro e y
          rw [t1 ⟨z, y⟩] at e
          exact absurd e (by decide)
        · intro y
          exact t0 (fun q => y q.2)⟩)
      refine hX _ ?_
      refine iy_in _ hi hj hl ?_
      exact hY _ (fun T => ⟨rfl, re_i G⟩) T
  · refine bo_no _ hX ?_
    obtain ⟨s, sX, sY⟩ := sm_x (P := fun _ => True) (ac := nI (ra_rk A 4)) (W := W) (B := B) (mask := 0) (pat := 0) (rr := -1) (pres := 0) G hR hN (fun w _ => ⟨fun _ => trivial, fun _ => fi_z w⟩) (Or.inl ⟨by decide, fun _ => trivial⟩)
    refine sX _ ?_
    refine hY _ ?_
    exact sY _ (fun T => ⟨rfl, re_i G⟩) T
theorem i_vc_worlds {k : Nat} {u : SX} {v : SY} (I : i_Rel k u v) (hk : k + 5 ≤ 2560) : wpX_worlds (fun r u' => wpY_worlds (fun r' v' => r' = r ∧ i_Rel (k + 5) u' v') v) u := by
  obtain ⟨L, W, A, F, S, R, B, N, T, G, rfl, rfl⟩ := I
  have h10 := G.1
  have hb := bi_shl (k := ra_rk L 36) (by omega)
  unfold wpX_worlds wpY_worlds
  dsimp only
  refine pp_x G _ (fun R B N hB hR hN => ?_)
  obtain ⟨s, hX, hY⟩ := wo_l (ac := nI (ra_rk A 4)) (W := W) (R := R) (B := B) (bi_le h10) G hN (2 ^ ra_rk L 36) 0 0 (Nat.zero_add _)
  refine nm_r hb ⟨_, hX _ ?_⟩
  exact ro_y _ (nm_r hb ⟨_, hY _ (fun T => ⟨rfl, re_i G⟩) T⟩)
theorem i_vc_heaviest {k : Nat} {u : SX} {v : SY} (I : i_Rel k u v) (hk : k + 5 ≤ 2560) : wpX_heaviest (fun r u' => wpY_heaviest (fun r' v' => r' = r ∧ i_Rel (k + 5) u' v') v) u := by
  obtain ⟨L, W, A, F, S, R, B, N, T, G, rfl, rfl⟩ := I
  have h10 := G.1
  have hb := bi_shl (k := ra_rk L 36) (by omega)
  unfold wpX_heaviest wpY_heaviest
  dsimp only
  refine pp_x G _ (fun R B N hB hR hN => ?_)
  obtain ⟨s, hX, hY⟩ := he_l (ac := nI (ra_rk A 4)) (W := W) (B := B) (bi_le h10) G hR hN (2 ^ ra_rk L 36) 0 (-1) (-1) (Nat.zero_add _)
  refine nm_r hb ⟨_, hX _ ?_⟩
  exact ro_y _ (nm_r hb ⟨_, hY _ (fun T => ⟨rfl, re_i G⟩) T⟩)
