/-- nested: two sets of bits cross -/
def nd_b (p q : Int32) : Prop := ¬ p &&& q = 0 ∧ ¬ p &&& q = p ∧ ¬ p &&& q = q
theorem nd_s {p q : Int32} (h : nd_b p q) : nd_b q p := by
  unfold nd_b
  rw [Int32.and_comm q p]
  exact ⟨h.1, h.2.2, h.2.1⟩
theorem nd_i {p : Int32} : ¬ nd_b p p := fun h => h.2.1 Int32.and_self
theorem nd_c {p q : Int32} {X1 X2 X3 Z : Prop} (bad : nd_b p q → Z) (o1 : ¬ nd_b p q → X1) (o2 : ¬ nd_b p q → X2) (o3 : ¬ nd_b p q → X3) : (p &&& q = 0 → X1) ∧ (¬ p &&& q = 0 → ((p &&& q = p → X2) ∧ (¬ p &&& q = p → ((p &&& q = q → X3) ∧ (¬ p &&& q = q → Z))))) :=
  ⟨fun a => o1 (fun h => h.1 a), fun a => ⟨fun b => o2 (fun h => h.2.1 b), fun b => ⟨fun c => o3 (fun h => h.2.2 c), fun c => bad ⟨a, b, c⟩⟩⟩⟩
section
variable {lc ac : Int32} {L W A F S R B N T : Nat → Int32}
/-- atomsWith and atomsOf give one set -/
theorem nd_l (x : Int32) : ∀ (d i : Nat) (s : Int32), i + d = 4 → ∃ r : Int32, (∀ post : Int32 → Prop, post r → wX_atomsWith_4 post x lc ac L W A F S R B N (d + 1) s (nI i)) ∧ (∀ post : Int32 → Prop, post r → wY_atomsOf_4 post x L W T A F S (d + 1) s (nI i)) := by
  intro d
  induction d with
  | zero =>
    intro i s e
    obtain rfl : i = 4 := e
    have h : nI 4 ≤ nI 4 := nI_le (Nat.le_refl 4) (by decide)
    exact ⟨s, fun post hp => br_t h hp, fun post hp => br_t h hp⟩
  | succ d ih =>
    intro i s e
    have hi : i < 4 := by omega
    have ci : (nI i).toNatClampNeg = i := nI_clamp (by omega)
    have vi : vp_in (nI i) 4 := vp_in_nI hi (by decide)
    have hn : ¬ nI 4 ≤ nI i := nI_ge hi (by decide)
    by_cases zA : A i = 0
    · obtain ⟨r, hX, hY⟩ := ih (i + 1) s (by omega)
      refine ⟨r, fun post hp => br_f hn ⟨vi, ?_⟩, fun post hp => br_f hn ⟨vi, ?_⟩⟩
      · try rw [ci]
        by_cases f : F i = x
        · refine br_t f ?_
          refine And.intro vi ?_
          try rw [ci]
          exact br_t zA (nm_r (nI_1 i) (hX post hp))
        · refine br_f f ⟨vi, ?_⟩
          try rw [ci]
          by_cases g : S i = x
          · refine br_t g ?_
            refine And.intro vi ?_
            try rw [ci]
            exact br_t zA (nm_r (nI_1 i) (hX post hp))
          · refine br_f g ?_
            refine And.intro vi ?_
            try rw [ci]
            exact br_t zA (nm_r (nI_1 i) (hX post hp))
      · try rw [ci]
        exact br_t zA (nm_r (nI_1 i) (hY post hp))
    · by_cases f : F i = x
      · obtain ⟨r, hX, hY⟩ := ih (i + 1) (s ||| (1 <<< (nI i &&& 31))) (by omega)
        refine ⟨r, fun post hp => br_f hn ⟨vi, ?_⟩, fun post hp => br_f hn ⟨vi, ?_⟩⟩
        · try rw [ci]
          refine br_t f ?_
          refine And.intro vi ?_
          try rw [ci]
          exact br_f zA (br_f (by decide) (nm_e (nm_r (nI_1 i) (hX post hp))))
        · try rw [ci]
          refine br_f zA ⟨vi, ?_⟩
          try rw [ci]
          exact br_t f (nm_e (nm_r (nI_1 i) (hY post hp)))
      · by_cases g : S i = x
        · obtain ⟨r, hX, hY⟩ := ih (i + 1) (s ||| (1 <<< (nI i &&& 31))) (by omega)
          refine ⟨r, fun post hp => br_f hn ⟨vi, ?_⟩, fun post hp => br_f hn ⟨vi, ?_⟩⟩
          · try rw [ci]
            refine br_f f ⟨vi, ?_⟩
            try rw [ci]
            refine br_t g ?_
            refine And.intro vi ?_
            try rw [ci]
            exact br_f zA (br_f (by decide) (nm_e (nm_r (nI_1 i) (hX post hp))))
          · try rw [ci]
            refine br_f zA ⟨vi, ?_⟩
            try rw [ci]
            refine br_f f ⟨vi, ?_⟩
            try rw [ci]
            exact br_t g (nm_e (nm_r (nI_1 i) (hY post hp)))
        · obtain ⟨r, hX, hY⟩ := ih (i + 1) s (by omega)
          refine ⟨r, fun post hp => br_f hn ⟨vi, ?_⟩, fun post hp => br_f hn ⟨vi, ?_⟩⟩
          · try rw [ci]
            refine br_f f ⟨vi, ?_⟩
            try rw [ci]
            refine br_f g ?_
            refine And.intro vi ?_
            try rw [ci]
            exact br_f zA (br_t rfl (nm_r (nI_1 i) (hX post hp)))
          · try rw [ci]
            refine br_f zA ⟨vi, ?_⟩
            try rw [ci]
            refine br_f f ⟨vi, ?_⟩
            try rw [ci]
            exact br_f g (nm_r (nI_1 i) (hY post hp))
theorem nd_a (x : Int32) : ∃ r : Int32, (∀ post : Int32 → Prop, post r → wpX_atomsWith post (lc, ac, L, W, A, F, S, R, B, N) x) ∧ (∀ post : Int32 → Prop, post r → wpY_atomsOf post (L, W, T, A, F, S) x) := by
  obtain ⟨r, hX, hY⟩ := nd_l (lc := lc) (ac := ac) (L := L) (W := W) (A := A) (F := F) (S := S) (R := R) (B := B) (N := N) (T := T) x 4 0 0 rfl
  exact ⟨r, fun post hp => ⟨5, hX post hp⟩, fun post hp => ⟨5, hY post hp⟩⟩
/-- the pairs, of the class: y above x -/
theorem nd_xi {r : Nat → Int32} (hr : ∀ v, v < 3 → ∀ post : Int32 → Prop, post (r v) → wpX_atomsWith post (lc, ac, L, W, A, F, S, R, B, N) (nI v)) (post J : Int32 → Prop) {x : Nat} (h0 : ∀ y, x < y → y < 3 → nd_b (r x) (r y) → post 0) (hJ : (∀ y, x < y → y < 3 → ¬ nd_b (r x) (r y)) → J (nI (x + 1))) :
    ∀ d y : Nat, y + d = 3 → x < y → (∀ z, x < z → z < y → ¬ nd_b (r x) (r z)) → wX_nested_17 post J (nI x) (r x) lc ac L W A F S R B N (d + 1) (nI y) := by
  intro d
  induction d with
  | zero =>
    intro y e hx hz
    obtain rfl : y = 3 := e
    exact br_t (nI_le (Nat.le_refl 3) (by decide)) (nm_r (nI_1 x) (hJ hz))
  | succ d ih =>
    intro y e hx hz
    have hy : y < 3 := by omega
    have nx : ¬ nd_b (r x) (r y) → wX_nested_17 post J (nI x) (r x) lc ac L W A F S R B N (d + 1) (nI (y + 1)) := by
      intro n
      refine ih (y + 1) (by omega) (by omega) (fun z h1 h2 => ?_)
      by_cases e : z = y
      · subst e; exact n
      · exact hz z h1 (by omega)
    refine br_f (nI_ge (b := 3) hy (by decide)) ?_
    refine hr y hy _ ?_
    exact nm_e (nd_c (h0 y hx hy) (fun n => nm_r (nI_1 y) (nx n)) (fun n => nm_r (nI_1 y) (nx n)) (fun n => nm_r (nI_1 y) (nx n)))
theorem nd_xo {r : Nat → Int32} (hr : ∀ v, v < 3 → ∀ post : Int32 → Prop, post (r v) → wpX_atomsWith post (lc, ac, L, W, A, F, S, R, B, N) (nI v)) (post : Int32 → Prop) (h0 : ∀ x y, x < y → y < 3 → nd_b (r x) (r y) → post 0) (h1 : (∀ x y, x < y → y < 3 → ¬ nd_b (r x) (r y)) → post 1) :
    ∀ d x : Nat, x + d = 3 → (∀ z y, z < x → z < y → y < 3 → ¬ nd_b (r z) (r y)) → wX_nested_2 post lc ac L W A F S R B N (d + 1) (nI x) := by
  intro d
  induction d with
  | zero =>
    intro x e hz
    obtain rfl : x = 3 := e
    exact br_t (nI_le (Nat.le_refl 3) (by decide)) (h1 (fun x y a b => hz x y (by omega) a b))
  | succ d ih =>
    intro x e hz
    have hx : x < 3 := by omega
    refine br_f (nI_ge (b := 3) hx (by decide)) ?_
    refine hr x hx _ ?_
    refine nm_r (nI_1 x) ⟨2 - x + 1, ?_⟩
    refine nd_xi hr post _ (h0 x) (fun n => ih (x + 1) (by omega) (fun z y a b c => ?_)) (2 - x) (x + 1) (by omega) (by omega) (fun z a b => absurd b (by omega))
    by_cases e : z = x
    · subst e; exact n y b c
    · exact hz z y (by omega) b c
/-- the pairs, of the reference: all -/
theorem nd_yi {r : Nat → Int32} (hr : ∀ v, v < 3 → ∀ post : Int32 → Prop, post (r v) → wpY_atomsOf post (L, W, T, A, F, S) (nI v)) (post J : Int32 → Prop) {x : Nat} (hx : x < 3) (h0 : ∀ y, y < 3 → nd_b (r x) (r y) → post 0) (hJ : (∀ y, y < 3 → ¬ nd_b (r x) (r y)) → J (nI (x + 1))) :
    ∀ d y : Nat, y + d = 3 → (∀ z, z < y → ¬ nd_b (r x) (r z)) → wY_nested_9 post J (nI x) L W T A F S (d + 1) (nI y) := by
  intro d
  induction d with
  | zero =>
    intro y e hz
    obtain rfl : y = 3 := e
    exact br_t (nI_le (Nat.le_refl 3) (by decide)) (nm_r (nI_1 x) (hJ hz))
  | succ d ih =>
    intro y e hz
    have hy : y < 3 := by omega
    have nx : ¬ nd_b (r x) (r y) → wY_nested_9 post J (nI x) L W T A F S (d + 1) (nI (y + 1)) := by
      intro n
      refine ih (y + 1) (by omega) (fun z h1 => ?_)
      by_cases e : z = y
      · subst e; exact n
      · exact hz z (by omega)
    refine br_f (nI_ge (b := 3) hy (by decide)) ?_
    refine hr x hx _ ?_
    refine hr y hy _ ?_
    exact nm_e (nd_c (h0 y hy) (fun n => nm_r (nI_1 y) (nx n)) (fun n => nm_r (nI_1 y) (nx n)) (fun n => nm_r (nI_1 y) (nx n)))
theorem nd_yo {r : Nat → Int32} (hr : ∀ v, v < 3 → ∀ post : Int32 → Prop, post (r v) → wpY_atomsOf post (L, W, T, A, F, S) (nI v)) (post : Int32 → Prop) (h0 : ∀ x y, x < 3 → y < 3 → nd_b (r x) (r y) → post 0) (h1 : (∀ x y, x < 3 → y < 3 → ¬ nd_b (r x) (r y)) → post 1) :
    ∀ d x : Nat, x + d = 3 → (∀ z y, z < x → y < 3 → ¬ nd_b (r z) (r y)) → wY_nested_2 post L W T A F S (d + 1) (nI x) := by
  intro d
  induction d with
  | zero =>
    intro x e hz
    obtain rfl : x = 3 := e
    exact br_t (nI_le (Nat.le_refl 3) (by decide)) (h1 (fun x y a b => hz x y a b))
  | succ d ih =>
    intro x e hz
    have hx : x < 3 := by omega
    refine br_f (nI_ge (b := 3) hx (by decide)) ⟨4, ?_⟩
    refine nd_yi hr post _ hx (fun y => h0 x y hx) (fun n => ih (x + 1) (by omega) (fun z y a b => ?_)) 3 0 (by omega) (fun z a => absurd a (Nat.not_lt_zero z))
    by_cases e : z = x
    · subst e; exact n y b
    · exact hz z y (by omega) b
end
theorem i_vc_nested {k : Nat} {u : SX} {v : SY} (I : i_Rel k u v) (hk : k + 5 ≤ 2560) : wpX_nested (fun r => wpY_nested (fun r' => r' = r ∧ i_Rel (k + 5) u v) v) u := by
  have J := i_up I
  obtain ⟨L, W, A, F, S, R, B, N, T, G, rfl, rfl⟩ := I
  obtain ⟨r0, x0, y0⟩ := nd_a (lc := nI (ra_rk L 36)) (ac := nI (ra_rk A 4)) (L := L) (W := W) (A := A) (F := F) (S := S) (R := R) (B := B) (N := N) (T := T) (nI 0)
  obtain ⟨r1, x1, y1⟩ := nd_a (lc := nI (ra_rk L 36)) (ac := nI (ra_rk A 4)) (L := L) (W := W) (A := A) (F := F) (S := S) (R := R) (B := B) (N := N) (T := T) (nI 1)
  obtain ⟨r2, x2, y2⟩ := nd_a (lc := nI (ra_rk L 36)) (ac := nI (ra_rk A 4)) (L := L) (W := W) (A := A) (F := F) (S := S) (R := R) (B := B) (N := N) (T := T) (nI 2)
  have hX : ∀ v, v < 3 → ∀ post : Int32 → Prop, post ((fun v => if v = 0 then r0 else if v = 1 then r1 else r2) v) → wpX_atomsWith post (nI (ra_rk L 36), nI (ra_rk A 4), L, W, A, F, S, R, B, N) (nI v) := by
    intro v hv
    match v, hv with
    | 0, _ => exact x0
    | 1, _ => exact x1
    | 2, _ => exact x2
  have hY : ∀ v, v < 3 → ∀ post : Int32 → Prop, post ((fun v => if v = 0 then r0 else if v = 1 then r1 else r2) v) → wpY_atomsOf post (L, W, T, A, F, S) (nI v) := by
    intro v hv
    match v, hv with
    | 0, _ => exact y0
    | 1, _ => exact y1
    | 2, _ => exact y2
  revert hX hY
  generalize (fun v : Nat => if v = 0 then r0 else if v = 1 then r1 else r2) = r
  intro hX hY
  have hlt : (∃ x y, x < 3 ∧ y < 3 ∧ nd_b (r x) (r y)) → ∃ x y, x < y ∧ y < 3 ∧ nd_b (r x) (r y) := by
    intro ⟨x, y, a, b, c⟩
    rcases Nat.lt_trichotomy x y with h | h | h
    · exact ⟨x, y, h, b, c⟩
    · subst h; exact absurd c nd_i
    · exact ⟨y, x, h, a, nd_s c⟩
  refine ⟨4, nd_xo hX _ (fun x y a b c => ?_) (fun n => ?_) 3 0 rfl (fun z y a => absurd a (Nat.not_lt_zero z))⟩
  · exact ⟨4, nd_yo hY _ (fun _ _ _ _ _ => ⟨rfl, J⟩) (fun n => absurd c (n x y (by omega) b)) 3 0 rfl (fun z y a => absurd a (Nat.not_lt_zero z))⟩
  · refine ⟨4, nd_yo hY _ (fun x y a b c => ?_) (fun _ => ⟨rfl, J⟩) 3 0 rfl (fun z y a => absurd a (Nat.not_lt_zero z))⟩
    obtain ⟨x, y, d, e, f⟩ := hlt ⟨x, y, a, b, c⟩
    exact absurd f (n x y d e)
