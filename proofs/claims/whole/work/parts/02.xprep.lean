/-- the class's tables: the bit of each row, the row of each rank, the need of each assignment; the reference's: the rows that are there -/
def ta_B (L B : Nat → Int32) (n : Nat) : Prop := ∀ r, r < n → (L r = 0 → B r = 0) ∧ (L r ≠ 0 → B r = nI (2 ^ ra_rk L r))
def ta_R (L R : Nat → Int32) (n : Nat) : Prop := ∀ r, r < n → L r ≠ 0 → R (ra_rk L r) = nI r
def ta_N (L A F S N : Nat → Int32) (n : Nat) : Prop := ∀ a, a < n → qu_N L A F S (N a) a
def ta_T (L T : Nat → Int32) (w n : Nat) : Prop := ∀ r, r < n → (qu_row L w r → T r = 1) ∧ (¬ qu_row L w r → T r = 0)
def ta_3 (F : Nat → Int32) : Prop := ∀ j, ∃ q, q < 3 ∧ F j = nI q
def ta_01 (L : Nat → Int32) : Prop := ∀ j, L j = 0 ∨ L j = 1
def re_G (L A F S : Nat → Int32) : Prop := ra_rk L 36 ≤ 10 ∧ ta_01 L ∧ ta_01 A ∧ ta_3 F ∧ ta_3 S
theorem ta_c3 {F : Nat → Int32} (h : ta_3 F) (q : Nat) : (F q).toNatClampNeg < 3 := by
  obtain ⟨f, hf, e⟩ := h q
  rw [e, nI_clamp (by omega)]
  exact hf
theorem ta_n3 {F : Nat → Int32} (h : ta_3 F) (q : Nat) : F q = nI (F q).toNatClampNeg := by
  obtain ⟨f, hf, e⟩ := h q
  rw [e, nI_clamp (by omega)]
theorem ta_B0 {L B : Nat → Int32} {i : Nat} (h : ta_B L B i) (z : L i = 0) : ta_B L (upd B i 0) (i + 1) := by
  intro r hr
  by_cases e : r = i
  · subst e
    exact ⟨fun _ => pk_us, fun y => absurd z y⟩
  · rw [pk_un e]
    exact h r (by omega)
theorem ta_B1 {L B : Nat → Int32} {i : Nat} (h : ta_B L B i) (z : L i ≠ 0) : ta_B L (upd (upd B i 0) i (nI (2 ^ ra_rk L i))) (i + 1) := by
  intro r hr
  by_cases e : r = i
  · subst e
    exact ⟨fun y => absurd y z, fun _ => pk_us⟩
  · rw [pk_un e, pk_un e]
    exact h r (by omega)
theorem ta_R0 {L R : Nat → Int32} {i : Nat} (h : ta_R L R i) (z : L i = 0) : ta_R L R (i + 1) := by
  intro r hr y
  by_cases e : r = i
  · subst e; exact absurd z y
  · exact h r (by omega) y
theorem ta_R1 {L R : Nat → Int32} {i : Nat} (h : ta_R L R i) : ta_R L (upd R (ra_rk L i) (nI i)) (i + 1) := by
  intro r hr y
  by_cases e : r = i
  · subst e; exact pk_us
  · have q : ra_rk L r < ra_rk L i := ra_lt L (by omega) y
    rw [pk_un (Nat.ne_of_lt q)]
    exact h r (by omega) y
theorem ta_T1 {L T : Nat → Int32} {w i : Nat} {z : Int32} (h : ta_T L T w i) (h1 : qu_row L w i → z = 1) (h0 : ¬ qu_row L w i → z = 0) : ta_T L (upd T i z) w (i + 1) := by
  intro r hr
  by_cases e : r = i
  · subst e
    rw [pk_us]
    exact ⟨h1, h0⟩
  · rw [pk_un e]
    exact h r (by omega)
theorem ta_b0 : vp_nar .boolean 0 = 0 := by decide
theorem ta_b1 : vp_nar .boolean 1 = 1 := by decide
theorem ta_nb {z : Int32} (h : z = 0 ∨ z = 1) : narrow .boolean (.int z) = .int z := by
  rcases h with h | h <;> subst h <;> rfl
/-- row numbers, on both sides -/
theorem ix_in (post : Int32 → Prop) {i j k : Nat} (hi : i < 4) (hj : j < 3) (hk : k < 3) (hp : post (nI (9 * i + 3 * j + k))) : wpX_rowIndex post (nI i) (nI j) (nI k) := by
  have e : (nI i * 3 + nI j) * 3 + nI k = nI (9 * i + 3 * j + k) := by
    show (nI i * nI 3 + nI j) * nI 3 + nI k = _
    rw [pk_mul, nI_add, pk_mul, nI_add]
    exact congrArg nI (by omega)
  have a0 := nI_pos (n := i) (by omega)
  have a1 : nI i < 4 := nI_lt (b := 4) hi (by decide)
  have b0 := nI_pos (n := j) (by omega)
  have b1 : ¬ 3 ≤ nI j := nI_ge (b := 3) hj (by decide)
  have c0 := nI_pos (n := k) (by omega)
  have c1 : nI k < 3 := nI_lt (b := 3) hk (by decide)
  rw [← e] at hp
  exact br_f a0 (br_t a1 (br_f b0 (br_f b1 (br_f c0 (br_t c1 hp)))))
theorem iy_in (post : Int32 → Prop) {i j k : Nat} (hi : i < 4) (hj : j < 3) (hk : k < 3) (hp : post (nI (9 * i + 3 * j + k))) : wpY_number post (nI i) (nI j) (nI k) := by
  have e : 9 * nI i + 3 * nI j + nI k = nI (9 * i + 3 * j + k) := by
    show nI 9 * nI i + nI 3 * nI j + nI k = _
    rw [pk_mul, pk_mul, nI_add, nI_add]
  have a0 := nI_pos (n := i) (by omega)
  have a1 : ¬ 3 < nI i := nI_nlt (a := 3) (b := i) (by omega) (by decide)
  have b0 := nI_pos (n := j) (by omega)
  have b1 : ¬ 2 < nI j := nI_nlt (a := 2) (b := j) (by omega) (by decide)
  have c0 := nI_pos (n := k) (by omega)
  have c1 : nI k ≤ 2 := nI_le (b := 2) (by omega) (by decide)
  rw [← e] at hp
  exact br_f a0 (br_f a1 (br_f b0 (br_f b1 (br_f c0 (br_t c1 hp)))))
theorem ix_no (n : Nat) (hn : n < 2 ^ 31) {x : Int32} (h : ¬ ∃ j : Nat, j < n ∧ x = nI j) : x < 0 ∨ (¬ x < 0 ∧ nI n ≤ x) := by
  by_cases z : x < 0
  · exact Or.inl z
  · rcases pk_ix x hn with y | y | y
    · exact Or.inl y
    · exact Or.inr ⟨z, y⟩
    · exact absurd y h
theorem ix_xy (p0 p1 p2 : Int32) : (∃ i j k : Nat, i < 4 ∧ j < 3 ∧ k < 3 ∧ p0 = nI i ∧ p1 = nI j ∧ p2 = nI k) ∨ ((∀ post : Int32 → Prop, post (-1) → wpX_rowIndex post p0 p1 p2) ∧ (∀ post : Int32 → Prop, post (-1) → wpY_number post p0 p1 p2)) := by
  by_cases h0 : ∃ j : Nat, j < 4 ∧ p0 = nI j
  · obtain ⟨i, hi, rfl⟩ := h0
    have a0 := nI_pos (n := i) (by omega)
    have a1 : nI i < 4 := nI_lt (b := 4) hi (by decide)
    have a2 : ¬ 3 < nI i := nI_nlt (a := 3) (b := i) (by omega) (by decide)
    by_cases h1 : ∃ j : Nat, j < 3 ∧ p1 = nI j
    · obtain ⟨j, hj, rfl⟩ := h1
      have b0 := nI_pos (n := j) (by omega)
      have b1 : ¬ 3 ≤ nI j := nI_ge (b := 3) hj (by decide)
      have b2 : ¬ 2 < nI j := nI_nlt (a := 2) (b := j) (by omega) (by decide)
      by_cases h2 : ∃ j : Nat, j < 3 ∧ p2 = nI j
      · obtain ⟨k, hk, rfl⟩ := h2
        exact Or.inl ⟨i, j, k, hi, hj, hk, rfl, rfl, rfl⟩
      · refine Or.inr ?_
        rcases ix_no 3 (by decide) h2 with z | ⟨z, y⟩
        · exact ⟨fun post hp => br_f a0 (br_t a1 (br_f b0 (br_f b1 (br_t z hp)))), fun post hp => br_f a0 (br_f a2 (br_f b0 (br_f b2 (br_t z hp))))⟩
        · have y1 : ¬ p2 < 3 := Int32.not_lt.mpr y
          have y2 : ¬ p2 ≤ 2 := fun q => absurd (Int32.le_trans y q) (by decide)
          exact ⟨fun post hp => br_f a0 (br_t a1 (br_f b0 (br_f b1 (br_f z (br_f y1 hp))))), fun post hp => br_f a0 (br_f a2 (br_f b0 (br_f b2 (br_f z (br_f y2 hp)))))⟩
    · refine Or.inr ?_
      rcases ix_no 3 (by decide) h1 with z | ⟨z, y⟩
      · exact ⟨fun post hp => br_f a0 (br_t a1 (br_t z hp)), fun post hp => br_f a0 (br_f a2 (br_t z hp))⟩
      · have y2 : 2 < p1 := Int32.not_le.mp (fun q => absurd (Int32.le_trans y q) (by decide))
        exact ⟨fun post hp => br_f a0 (br_t a1 (br_f z (br_t y hp))), fun post hp => br_f a0 (br_f a2 (br_f z (br_t y2 hp)))⟩
  · refine Or.inr ?_
    rcases ix_no 4 (by decide) h0 with z | ⟨z, y⟩
    · exact ⟨fun post hp => br_t z hp, fun post hp => br_t z hp⟩
    · have y1 : ¬ p0 < 4 := Int32.not_lt.mpr y
      have y2 : 3 < p0 := Int32.not_le.mp (fun q => absurd (Int32.le_trans y q) (by decide))
      exact ⟨fun post hp => br_f z (br_f y1 hp), fun post hp => br_f z (br_t y2 hp)⟩
/-- the value of a variable in an assignment -/
theorem vl_l (post : Int32 → Prop) {v : Nat} (hv : v < 2 ^ 31) : ∀ d p rest : Nat, p + d = v → rest < 2 ^ 31 → post (nI (rest / 3 ^ d % 3)) → wX_valueIn_4 post (nI v) (d + 1) (nI rest) (nI p) := by
  intro d
  induction d with
  | zero =>
    intro p rest e hr hp
    obtain rfl : p = v := e
    refine br_t (nI_le (Nat.le_refl _) hv) ⟨by decide, ?_⟩
    have q := pk_rem (a := rest) (d := 3) hr (by decide) (by decide)
    rw [Nat.pow_zero, Nat.div_one, ← q] at hp
    exact hp
  | succ d ih =>
    intro p rest e hr hp
    refine br_f (nI_ge (show p < v by omega) hv) ⟨by decide, ?_⟩
    refine nm_r (pk_div (d := 3) hr (by decide) (by decide)) (nm_r (nI_1 p) (ih (p + 1) (rest / 3) (by omega) (by omega) ?_))
    rw [Nat.div_div_eq_div_mul, ← Nat.pow_succ']
    exact hp
theorem vl_x (post : Int32 → Prop) {a v : Nat} (ha : a < 27) (hv : v < 3) (hp : post (nI (qu_gx a v))) : wpX_valueIn post (nI a) (nI v) :=
  ⟨v + 1, vl_l post (by omega) v 0 a (by omega) (by omega) hp⟩
theorem vl_F (post : Int32 → Prop) {F : Nat → Int32} (h3 : ta_3 F) (q : Nat) {a : Nat} (ha : a < 27) (hp : post (nI (qu_gx a (F q).toNatClampNeg))) : wpX_valueIn post (nI a) (F q) := by
  have h := vl_x post ha (ta_c3 h3 q) hp
  rw [← ta_n3 h3 q] at h
  exact h
section
variable {lc ac : Int32} {L W A F S R B N : Nat → Int32}
/-- numberListedRows -/
theorem nu_l (h10 : ra_rk L 36 ≤ 10) (post : SX → Prop) (hp : ∀ R B, ta_B L B 36 → ta_R L R 36 → post (lc, ac, L, W, A, F, S, R, B, N)) :
    ∀ (d i : Nat) (R B : Nat → Int32), i + d = 36 → ta_B L B i → ta_R L R i → wX_numberListedRows_4 post lc ac (d + 1) (nI (ra_rk L i)) (nI i) L W A F S R B N := by
  intro d
  induction d with
  | zero =>
    intro i R B e hB hR
    obtain rfl : i = 36 := e
    exact br_t (nI_le (Nat.le_refl 36) (by decide)) (hp R B hB hR)
  | succ d ih =>
    intro i R B e hB hR
    have hi : i < 36 := by omega
    have ci : (nI i).toNatClampNeg = i := nI_clamp (by omega)
    have vi : vp_in (nI i) 36 := vp_in_nI hi (by decide)
    refine br_f (nI_ge (b := 36) hi (by decide)) ⟨vi, nm_e ⟨vi, ?_⟩⟩
    try rw [ci]
    by_cases z : L i = 0
    · refine br_t z (nm_r (nI_1 i) ?_)
      have q := ih (i + 1) R (upd B i 0) (by omega) (ta_B0 hB z) (ta_R0 hR z)
      rw [ra_z z] at q
      exact q
    · have hk : ra_rk L i < 10 := Nat.lt_of_lt_of_le (ra_lt L hi z) h10
      have ck : (nI (ra_rk L i)).toNatClampNeg = ra_rk L i := nI_clamp (by omega)
      refine br_f z (br_f (nI_ge (b := 10) hk (by decide)) ⟨vi, nm_e ⟨vp_in_nI hk (by decide), nm_e (nm_r (nI_1 _) (nm_r (nI_1 i) ?_))⟩⟩)
      have q := ih (i + 1) (upd R (ra_rk L i) (nI i)) (upd (upd B i 0) i (nI (2 ^ ra_rk L i))) (by omega) (ta_B1 hB z) (ta_R1 hR)
      rw [ra_s z] at q
      rw [ck, bi_shl (by omega)]
      exact q
theorem nu_x (h10 : ra_rk L 36 ≤ 10) (post : SX → Prop) (hp : ∀ R B, ta_B L B 36 → ta_R L R 36 → post (lc, ac, L, W, A, F, S, R, B, N)) : wpX_numberListedRows post (lc, ac, L, W, A, F, S, R, B, N) :=
  ⟨37, nu_l h10 post hp 36 0 R B rfl (fun r h => absurd h (Nat.not_lt_zero r)) (fun r h => absurd h (Nat.not_lt_zero r))⟩
/-- bitOf -/
theorem bo_in (post : Int32 → Prop) {i j k : Nat} (hi : i < 4) (hj : j < 3) (hk : k < 3) (hp : post (B (9 * i + 3 * j + k))) : wpX_bitOf post (lc, ac, L, W, A, F, S, R, B, N) (nI i) (nI j) (nI k) := by
  have c : (nI (9 * i + 3 * j + k)).toNatClampNeg = 9 * i + 3 * j + k := nI_clamp (by omega)
  unfold wpX_bitOf
  refine ix_in _ hi hj hk (br_t (nI_pos' (by omega)) ⟨vp_in_nI (by omega) (by decide), ?_⟩)
  rw [c]
  exact hp
theorem bo_no (post : Int32 → Prop) {p0 p1 p2 : Int32} (h : ∀ post : Int32 → Prop, post (-1) → wpX_rowIndex post p0 p1 p2) (hp : post 0) : wpX_bitOf post (lc, ac, L, W, A, F, S, R, B, N) p0 p1 p2 := by
  unfold wpX_bitOf
  exact h _ (br_f (by decide) hp)
/-- needOf -/
theorem ne_l (G : re_G L A F S) (hB : ta_B L B 36) (post : Int32 → Prop) {a : Nat} (ha : a < 27) (hp : ∀ nd, qu_N L A F S nd a → post nd) : ∀ d q m : Nat, q + d = 4 → m < 1024 → (∀ w, (w &&& m = m ↔ qu_Q L A F S (qu_gx a) w q)) → wX_needOf_4 post (nI a) lc ac L W A F S R B N (d + 1) (nI m) (nI q) := by
  intro d
  induction d with
  | zero =>
    intro q m e hm hw
    obtain rfl : q = 4 := e
    exact br_t (nI_le (Nat.le_refl 4) (by decide)) (hp _ (Or.inr ⟨m, hm, rfl, hw⟩))
  | succ d ih =>
    intro q m e hm hw
    have hq : q < 4 := by omega
    have cq : (nI q).toNatClampNeg = q := nI_clamp (by omega)
    have vq : vp_in (nI q) 4 := vp_in_nI hq (by decide)
    obtain ⟨h10, _, _, hF, hS⟩ := G
    refine br_f (nI_ge (b := 4) hq (by decide)) ⟨vq, ?_⟩
    try rw [cq]
    by_cases z : A q = 0
    · exact br_t z (nm_r (nI_1 q) (ih (q + 1) m (by omega) hm (fun w => (hw w).trans (qu_sk z).symm)))
    · refine br_f z ⟨vq, ?_⟩
      have g1 := qu_x3 a ha _ (ta_c3 hF q)
      have g2 := qu_x3 a ha _ (ta_c3 hS q)
      refine vl_F _ hF q ha ?_
      refine ⟨vq, ?_⟩
      try rw [cq]
      refine vl_F _ hS q ha ?_
      refine bo_in _ hq g1 g2 ?_
      have hlt : qu_ix F S (qu_gx a) q < 36 := qu_lt hq g1 g2
      obtain ⟨b0, b1⟩ := hB _ hlt
      by_cases l : L (qu_ix F S (qu_gx a) q) = 0
      · exact br_t (b0 l) (hp _ (Or.inl ⟨rfl, qu_no hq z l⟩))
      · have hk : ra_rk L (qu_ix F S (qu_gx a) q) < 10 := Nat.lt_of_lt_of_le (ra_lt L hlt l) h10
        have hn : B (qu_ix F S (qu_gx a) q) ≠ 0 := by
          rw [b1 l]
          exact nI_ne0 (Nat.two_pow_pos _) (Nat.lt_trans (bi_lt hk) (by decide))
        have ho : nI m ||| B (qu_ix F S (qu_gx a) q) = nI (m ||| 2 ^ ra_rk L (qu_ix F S (qu_gx a) q)) := by
          rw [b1 l]
          exact bi_orN _ _
        refine br_f hn (nm_r ho (nm_r (nI_1 q) (ih (q + 1) _ (by omega) ?_ (qu_or z l hw))))
        exact Nat.or_lt_two_pow (n := 10) hm (bi_lt hk)
theorem ne_x (G : re_G L A F S) (hB : ta_B L B 36) (post : Int32 → Prop) {a : Nat} (ha : a < 27) (hp : ∀ nd, qu_N L A F S nd a → post nd) : wpX_needOf post (lc, ac, L, W, A, F, S, R, B, N) (nI a) :=
  ⟨5, ne_l G hB post ha hp 4 0 0 rfl (by decide) (fun w => qu_0 L A F S (qu_gx a) w)⟩
/-- prepare -/
theorem pp_l (G : re_G L A F S) (hB : ta_B L B 36) (post : SX → Prop) (hp : ∀ N, ta_N L A F S N 27 → post (lc, ac, L, W, A, F, S, R, B, N)) :
    ∀ (d a : Nat) (N : Nat → Int32), a + d = 27 → ta_N L A F S N a → wX_prepare_6 post lc ac (d + 1) (nI a) L W A F S R B N := by
  intro d
  induction d with
  | zero =>
    intro a N e hN
    obtain rfl : a = 27 := e
    exact br_t (nI_le (Nat.le_refl 27) (by decide)) (hp N hN)
  | succ d ih =>
    intro a N e hN
    have ha : a < 27 := by omega
    have ca : (nI a).toNatClampNeg = a := nI_clamp (by omega)
    have va : vp_in (nI a) 27 := vp_in_nI ha (by decide)
    refine br_f (nI_ge (b := 27) ha (by decide)) ?_
    refine ne_x G hB _ ha (fun nd hnd => ⟨va, nm_e ?_⟩)
    try rw [ca]
    refine nm_r (nI_1 a) (ih (a + 1) _ (by omega) ?_)
    intro b hb
    by_cases e : b = a
    · subst e
      rw [pk_us]
      exact hnd
    · rw [pk_un e]
      exact hN b (by omega)
theorem pp_x (G : re_G L A F S) (post : SX → Prop) (hp : ∀ R B N, ta_B L B 36 → ta_R L R 36 → ta_N L A F S N 27 → post (lc, ac, L, W, A, F, S, R, B, N)) : wpX_prepare post (lc, ac, L, W, A, F, S, R, B, N) := by
  unfold wpX_prepare
  refine nu_x G.1 _ (fun R B hB hR => ⟨28, ?_⟩)
  exact pp_l G hB post (fun N hN => hp R B N hB hR hN) 27 0 N rfl (fun a ha => absurd ha (Nat.not_lt_zero a))
end
