section
variable {L W T A F S : Nat → Int32}
/-- rows -/
theorem ro_l (post : Int32 → Prop) (hp : post (nI (ra_rk L 36))) : ∀ d i : Nat, i + d = 36 → wY_rows_4 post L W T A F S (d + 1) (nI (ra_rk L i)) (nI i) := by
  intro d
  induction d with
  | zero =>
    intro i e
    obtain rfl : i = 36 := e
    exact br_t (nI_le (Nat.le_refl 36) (by decide)) hp
  | succ d ih =>
    intro i e
    have hi : i < 36 := by omega
    have ci : (nI i).toNatClampNeg = i := nI_clamp (by omega)
    refine br_f (nI_ge (b := 36) hi (by decide)) ⟨vp_in_nI hi (by decide), ?_⟩
    try rw [ci]
    have q := ih (i + 1) (by omega)
    by_cases z : L i = 0
    · rw [ra_z z] at q
      exact br_t z (nm_r (nI_1 i) q)
    · rw [ra_s z] at q
      exact br_f z (nm_r (nI_1 _) (nm_r (nI_1 i) q))
theorem ro_y (post : Int32 → Prop) (hp : post (nI (ra_rk L 36))) : wpY_rows post (L, W, T, A, F, S) := ⟨37, ro_l post hp 36 0 rfl⟩
/-- lay -/
theorem la_l (h10 : ra_rk L 36 ≤ 10) (post : SY → Prop) {w : Nat} (hw : w < 2 ^ 31) (hp : ∀ T, ta_T L T w 36 → post (L, W, T, A, F, S)) :
    ∀ (d i : Nat) (T : Nat → Int32), i + d = 36 → ta_T L T w i → wY_lay_4 post (nI w) (d + 1) (nI (ra_rk L i)) (nI i) L W T A F S := by
  intro d
  induction d with
  | zero =>
    intro i T e hT
    obtain rfl : i = 36 := e
    exact br_t (nI_le (Nat.le_refl 36) (by decide)) (hp T hT)
  | succ d ih =>
    intro i T e hT
    have hi : i < 36 := by omega
    have ci : (nI i).toNatClampNeg = i := nI_clamp (by omega)
    have vi : vp_in (nI i) 36 := vp_in_nI hi (by decide)
    refine br_f (nI_ge (b := 36) hi (by decide)) ⟨vi, ?_⟩
    try rw [ci]
    by_cases z : L i = 0
    · have q := ih (i + 1) (upd T i 0) (by omega) (ta_T1 hT (fun y => absurd z y.1) (fun _ => rfl))
      rw [ra_z z] at q
      refine br_t z ?_
      refine And.intro vi (nm_e ⟨vi, ?_⟩)
      rw [ci, ta_b0]
      exact br_t z (nm_r (nI_1 i) q)
    · have hk : ra_rk L i < 10 := Nat.lt_of_lt_of_le (ra_lt L hi z) h10
      have bt := bi_t (w := w) (k := ra_rk L i) hw (by omega)
      by_cases y : w.testBit (ra_rk L i) = true
      · have q := ih (i + 1) (upd T i 1) (by omega) (ta_T1 hT (fun _ => rfl) (fun y' => absurd ⟨z, y⟩ y'))
        rw [ra_s z] at q
        refine br_f z (br_t (bt.mpr y) ?_)
        refine And.intro vi (nm_e ⟨vi, ?_⟩)
        rw [ci, ta_b1]
        exact br_f z (nm_r (nI_1 _) (nm_r (nI_1 i) q))
      · have q := ih (i + 1) (upd T i 0) (by omega) (ta_T1 hT (fun y' => absurd y'.2 y) (fun _ => rfl))
        rw [ra_s z] at q
        refine br_f z (br_f (fun x => y (bt.mp x)) ?_)
        refine And.intro vi (nm_e ⟨vi, ?_⟩)
        rw [ci, ta_b0]
        exact br_f z (nm_r (nI_1 _) (nm_r (nI_1 i) q))
theorem la_y (h10 : ra_rk L 36 ≤ 10) (post : SY → Prop) {w : Nat} (hw : w < 2 ^ 31) (hp : ∀ T, ta_T L T w 36 → post (L, W, T, A, F, S)) : wpY_lay post (L, W, T, A, F, S) (nI w) :=
  ⟨37, la_l h10 post hw hp 36 0 T rfl (fun r h => absurd h (Nat.not_lt_zero r))⟩
/-- value -/
theorem vy_y (post : Int32 → Prop) {a v : Nat} (ha : a < 27) (hv : v < 3) (hp : post (nI (qu_gy a v))) : wpY_value post (nI a) (nI v) := by
  have d9 : nI a / 9 = nI (a / 9) := pk_div (d := 9) (by omega) (by decide) (by decide)
  have d3 : nI a / 3 = nI (a / 3) := pk_div (d := 3) (by omega) (by decide) (by decide)
  have r3 : nI a - nI a / 3 * 3 = nI (a % 3) := pk_rem (d := 3) (by omega) (by decide) (by decide)
  have r33 : nI (a / 3) - nI (a / 3) / 3 * 3 = nI (a / 3 % 3) := pk_rem (d := 3) (by omega) (by decide) (by decide)
  rw [← d3] at r33
  match v, hv, hp with
  | 0, _, hp =>
    have hp : post (nI (a / 9)) := hp
    rw [← d9] at hp
    exact br_t rfl ⟨by decide, hp⟩
  | 1, _, hp =>
    have hp : post (nI (a / 3 % 3)) := hp
    rw [← r33] at hp
    exact br_f (by decide) (br_t rfl ⟨by decide, by decide, hp⟩)
  | 2, _, hp =>
    have hp : post (nI (a % 3)) := hp
    rw [← r3] at hp
    exact br_f (by decide) (br_f (by decide) ⟨by decide, hp⟩)
theorem vy_F (post : Int32 → Prop) {F : Nat → Int32} (h3 : ta_3 F) (q : Nat) {a : Nat} (ha : a < 27) (hp : post (nI (qu_gy a (F q).toNatClampNeg))) : wpY_value post (nI a) (F q) := by
  have h := vy_y post ha (ta_c3 h3 q) hp
  rw [← ta_n3 h3 q] at h
  exact h
/-- holds, of the reference: the atoms, then the assignments -/
theorem hy_i (hF : ta_3 F) (hS : ta_3 S) {w : Nat} (hT : ta_T L T w 36) (post : Int32 → Prop) (J : Int32 → Prop) {a : Nat} (ha : a < 27) (h1 : qu_Q L A F S (qu_gy a) w 4 → post 1) (h0 : ¬ qu_Q L A F S (qu_gy a) w 4 → J (nI (a + 1))) :
    ∀ (d q : Nat) (x : Int32), q + d = 4 → ((x = 1 ∧ qu_Q L A F S (qu_gy a) w q) ∨ (x = 0 ∧ ¬ qu_Q L A F S (qu_gy a) w q)) → wY_holds_12 post J (nI a) L W T A F S (d + 1) x (nI q) := by
  intro d
  induction d with
  | zero =>
    intro q x e hx
    obtain rfl : q = 4 := e
    refine br_t (nI_le (Nat.le_refl 4) (by decide)) ?_
    rcases hx with ⟨rfl, y⟩ | ⟨rfl, y⟩
    · exact br_f (by decide) (h1 y)
    · exact br_t rfl (nm_r (nI_1 a) (h0 y))
  | succ d ih =>
    intro q x e hx
    have hq : q < 4 := by omega
    have cq : (nI q).toNatClampNeg = q := nI_clamp (by omega)
    have vq : vp_in (nI q) 4 := vp_in_nI hq (by decide)
    refine br_f (nI_ge (b := 4) hq (by decide)) ⟨vq, ?_⟩
    try rw [cq]
    by_cases z : A q = 0
    · refine br_t z (nm_r (nI_1 q) (ih (q + 1) x (by omega) ?_))
      rw [qu_sk z]
      exact hx
    · refine br_f z ⟨vq, ?_⟩
      have g1 := qu_y3 a ha _ (ta_c3 hF q)
      have g2 := qu_y3 a ha _ (ta_c3 hS q)
      have hlt : qu_ix F S (qu_gy a) q < 36 := qu_lt hq g1 g2
      have ei : 9 * nI q + 3 * nI (qu_gy a (F q).toNatClampNeg) + nI (qu_gy a (S q).toNatClampNeg) = nI (qu_ix F S (qu_gy a) q) := by
        show nI 9 * nI q + nI 3 * nI _ + nI _ = _
        rw [pk_mul, pk_mul, nI_add, nI_add]
        rfl
      have ci : (nI (qu_ix F S (qu_gy a) q)).toNatClampNeg = qu_ix F S (qu_gy a) q := nI_clamp (by omega)
      obtain ⟨t1, t0⟩ := hT _ hlt
      refine vy_F _ hF q ha ?_
      refine ⟨vq, ?_⟩
      try rw [cq]
      refine vy_F _ hS q ha ?_
      rw [ei]
      refine ⟨vp_in_nI hlt (by decide), ?_⟩
      try rw [ci]
      by_cases y : qu_row L w (qu_ix F S (qu_gy a) q)
      · have n0 : ¬ T (qu_ix F S (qu_gy a) q) = 0 := by rw [t1 y]; decide
        refine br_f n0 (nm_r (nI_1 q) (ih (q + 1) x (by omega) ?_))
        rw [qu_st z]
        rcases hx with ⟨e1, h⟩ | ⟨e1, h⟩
        · exact Or.inl ⟨e1, h, y⟩
        · exact Or.inr ⟨e1, fun k => h k.1⟩
      · refine br_t (t0 y) (nm_r (nI_1 q) (ih (q + 1) 0 (by omega) ?_))
        rw [qu_st z]
        exact Or.inr ⟨rfl, fun k => y k.2⟩
theorem hy_l (hF : ta_3 F) (hS : ta_3 S) {w : Nat} (hT : ta_T L T w 36) (post : Int32 → Prop) (h1 : qu_H L A F S w → post 1) (h0 : ¬ qu_H L A F S w → post 0) : ∀ d a : Nat, a + d = 27 → (∀ b, b < a → ¬ qu_Q L A F S (qu_gy b) w 4) → wY_holds_2 post L W T A F S (d + 1) (nI a) := by
  have hh := qu_HY (L := L) (A := A) (F := F) (S := S) (w := w) (ta_c3 hF) (ta_c3 hS)
  intro d
  induction d with
  | zero =>
    intro a e hb
    obtain rfl : a = 27 := e
    exact br_t (nI_le (Nat.le_refl 27) (by decide)) (h0 (fun k => by
      obtain ⟨b, hb1, hb2⟩ := hh.mpr k
      exact hb b hb1 hb2))
  | succ d ih =>
    intro a e hb
    have ha : a < 27 := by omega
    refine br_f (nI_ge (b := 27) ha (by decide)) ⟨5, ?_⟩
    refine hy_i hF hS hT post _ ha (fun y => h1 (hh.mp ⟨a, ha, y⟩)) (fun y => ih (a + 1) (by omega) (fun b hb1 => ?_)) 4 0 1 rfl (Or.inl ⟨rfl, fun q hq => absurd hq (Nat.not_lt_zero q)⟩)
    by_cases e : b = a
    · subst e; exact y
    · exact hb b (by omega)
theorem hy_y (hF : ta_3 F) (hS : ta_3 S) {w : Nat} (hT : ta_T L T w 36) (post : Int32 → Prop) (h1 : qu_H L A F S w → post 1) (h0 : ¬ qu_H L A F S w → post 0) : wpY_holds post (L, W, T, A, F, S) :=
  ⟨28, hy_l hF hS hT post h1 h0 27 0 rfl (fun b hb => absurd hb (Nat.not_lt_zero b))⟩
/-- product -/
theorem py_l {w : Nat} (hT : ta_T L T w 36) (post : Int64 → Prop) (hp : post (pr_p L W w 36)) : ∀ d i : Nat, i + d = 36 → wY_product_4 post L W T A F S (d + 1) (pr_p L W w i) (nI i) := by
  intro d
  induction d with
  | zero =>
    intro i e
    obtain rfl : i = 36 := e
    exact br_t (nI_le (Nat.le_refl 36) (by decide)) hp
  | succ d ih =>
    intro i e
    have hi : i < 36 := by omega
    have ci : (nI i).toNatClampNeg = i := nI_clamp (by omega)
    have vi : vp_in (nI i) 36 := vp_in_nI hi (by decide)
    have q := ih (i + 1) (by omega)
    refine br_f (nI_ge (b := 36) hi (by decide)) ⟨vi, ?_⟩
    try rw [ci]
    by_cases z : L i = 0
    · rw [pr_z z] at q
      exact br_t z (nm_r (nI_1 i) q)
    · rw [pr_s z] at q
      refine br_f z ⟨vi, ?_⟩
      try rw [ci]
      obtain ⟨t1, t0⟩ := hT i hi
      by_cases y : w.testBit (ra_rk L i) = true
      · have f : pr_f W w (ra_rk L i) i = W i := if_pos y
        rw [f] at q
        have n0 : ¬ T i = 0 := by rw [t1 ⟨z, y⟩]; decide
        refine br_f n0 ⟨vi, ?_⟩
        try rw [ci]
        exact nm_e (nm_r (nI_1 i) q)
      · have f : pr_f W w (ra_rk L i) i = 10 - W i := if_neg y
        rw [f] at q
        refine br_t (t0 (fun k => y k.2)) ⟨vi, ?_⟩
        try rw [ci]
        exact nm_e (nm_r (nI_1 i) q)
theorem py_y {w : Nat} (hT : ta_T L T w 36) (post : Int64 → Prop) (hp : post (pr_p L W w 36)) : wpY_product post (L, W, T, A, F, S) := ⟨37, py_l hT post hp 36 0 rfl⟩
end
