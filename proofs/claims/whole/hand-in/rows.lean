section
theorem pk_us {f : Nat → Int32} {k : Nat} {x : Int32} : upd f k x k = x := if_pos rfl
theorem pk_un {f : Nat → Int32} {k j : Nat} {x : Int32} (h : j ≠ k) : upd f k x j = f j := if_neg h
theorem pk_sub {a b : Nat} (h : b ≤ a) : nI a - nI b = nI (a - b) := by
  obtain ⟨c, rfl⟩ : ∃ c, a = c + b := ⟨a - b, by omega⟩
  rw [← nI_add, Int32.add_sub_cancel, Nat.add_sub_cancel]
theorem pk_m1 (n : Nat) : nI (n + 1) + (-1) = nI n := by
  rw [← nI_1, Int32.add_assoc, show (1 : Int32) + (-1) = 0 from rfl, Int32.add_zero]
theorem pk_mul (a b : Nat) : nI a * nI b = nI (a * b) := (Int32.ofNat_mul a b).symm
theorem pk_div {a d : Nat} (ha : a < 2 ^ 31) (h0 : 0 < d) (hd : d < 2 ^ 31) : nI a / nI d = nI (a / d) := by
  apply Int32.toInt_inj.mp
  rw [lg_idiv_nonneg (by rw [nI_toInt ha]; omega) (by rw [nI_toInt hd]; omega), nI_toInt ha, nI_toInt hd, nI_toInt (Nat.lt_of_le_of_lt (Nat.div_le_self a d) ha)]
  first | rfl | exact (Int.natCast_ediv _ _).symm
theorem pk_rem {a d : Nat} (ha : a < 2 ^ 31) (h0 : 0 < d) (hd : d < 2 ^ 31) : nI a - nI a / nI d * nI d = nI (a % d) := by
  rw [pk_div ha h0 hd, pk_mul, pk_sub (Nat.div_mul_le_self a d)]
  exact congrArg nI (by have := Nat.div_add_mod' a d; omega)
theorem pk_ix (x : Int32) {n : Nat} (hn : n < 2 ^ 31) : x < 0 ∨ nI n ≤ x ∨ ∃ j : Nat, j < n ∧ x = nI j := by
  by_cases h : x < 0
  · exact Or.inl h
  · obtain ⟨j, hj, rfl⟩ := nI_of h
    by_cases h2 : j < n
    · exact Or.inr (Or.inr ⟨j, h2, rfl⟩)
    · exact Or.inr (Or.inl (nI_le (by omega) hj))
theorem pk_le {x y : Int32} {A B : Prop} (a b : Nat) (f : a ≤ b → A) (g : b < a → B) (hx : x = nI a := by rfl) (hy : y = nI b := by rfl) (ha : a < 2 ^ 31 := by omega) (hb : b < 2 ^ 31 := by omega) : (x ≤ y → A) ∧ (¬ x ≤ y → B) := by
  subst hx hy
  rw [nI_leI ha hb]
  exact ⟨f, fun z => g (by omega)⟩
theorem pk_lt {x y : Int32} {A B : Prop} (a b : Nat) (f : a < b → A) (g : b ≤ a → B) (hx : x = nI a := by rfl) (hy : y = nI b := by rfl) (ha : a < 2 ^ 31 := by omega) (hb : b < 2 ^ 31 := by omega) : (x < y → A) ∧ (¬ x < y → B) := by
  subst hx hy
  rw [nI_ltI ha hb]
  exact ⟨f, fun z => g (by omega)⟩
theorem pk_eq {x y : Int32} {A B : Prop} (a b : Nat) (f : a = b → A) (g : a ≠ b → B) (hx : x = nI a := by rfl) (hy : y = nI b := by rfl) (ha : a < 2 ^ 31 := by omega) (hb : b < 2 ^ 31 := by omega) : (x = y → A) ∧ (¬ x = y → B) := by
  subst hx hy
  rw [nI_eq ha hb]
  exact ⟨f, g⟩
theorem pk_in {x : Int32} (n N : Nat) (h : n < N) (hx : x = nI n := by rfl) (hN : N < 2 ^ 31 := by omega) : vp_in x N := by
  subst hx
  exact vp_in_nI h hN
theorem pk_cl {x : Int32} (n : Nat) (hx : x = nI n := by rfl) (h : n < 2 ^ 31 := by omega) : x.toNatClampNeg = n := by
  subst hx
  exact nI_clamp h
theorem pk_tn {n : Nat} (h : n < 2 ^ 32) : (nI n).toBitVec.toNat = n := Nat.mod_eq_of_lt h
theorem pk_and (x : Int32) {m : Int32} (k : Nat) (hm : m.toBitVec.toNat = 2 ^ k - 1) : x &&& m = nI (x.toBitVec.toNat % 2 ^ k) := by
  apply Int32.toBitVec_inj.mp
  apply BitVec.eq_of_toNat_eq
  rw [Int32.toBitVec_and, BitVec.toNat_and, hm, Nat.and_two_pow_sub_one_eq_mod]
  show _ = (BitVec.ofNat 32 _).toNat
  rw [BitVec.toNat_ofNat]
  exact (Nat.mod_eq_of_lt (Nat.lt_of_le_of_lt (Nat.mod_le _ _) x.toBitVec.isLt)).symm
theorem pk_andN {n : Nat} (h : n < 2 ^ 32) {m : Int32} (k : Nat) (hm : m.toBitVec.toNat = 2 ^ k - 1) : nI n &&& m = nI (n % 2 ^ k) := by
  rw [pk_and _ k hm, pk_tn h]
theorem pk_shl (a s : Int32) (k : Nat) (hs : (s.toBitVec.smod 32).toNat = k) : (a <<< s).toBitVec.toNat = a.toBitVec.toNat * 2 ^ k % 2 ^ 32 := by
  show (a.toBitVec <<< (s.toBitVec.smod 32).toNat).toNat = _
  rw [hs, BitVec.toNat_shiftLeft, Nat.shiftLeft_eq]
theorem pk_shlN {n : Nat} (s : Int32) (k : Nat) (hs : (s.toBitVec.smod 32).toNat = k) (h : n * 2 ^ k < 2 ^ 32) : nI n <<< s = nI (n * 2 ^ k) := by
  apply Int32.toBitVec_inj.mp
  apply BitVec.eq_of_toNat_eq
  have hn : n < 2 ^ 32 := Nat.lt_of_le_of_lt (Nat.le_mul_of_pos_right n (Nat.two_pow_pos k)) h
  rw [pk_shl _ _ k hs, pk_tn hn, pk_tn h, Nat.mod_eq_of_lt h]
theorem pk_shr (a s : Int32) (k : Nat) (hs : (s.toBitVec.smod 32).toNat = k) : (a >>> s).toInt = a.toInt >>> k := by
  show (a.toBitVec.sshiftRight (s.toBitVec.smod 32).toNat).toInt = _
  rw [hs, BitVec.toInt_sshiftRight]
  rfl
theorem pk_shrN {n : Nat} (h : n < 2 ^ 31) (s : Int32) (k : Nat) (hs : (s.toBitVec.smod 32).toNat = k) : nI n >>> s = nI (n / 2 ^ k) := by
  apply Int32.toInt_inj.mp
  have h2 : n / 2 ^ k ≤ n := Nat.div_le_self _ _
  rw [pk_shr _ _ k hs, nI_toInt h, nI_toInt (by omega), Int.shiftRight_eq_div_pow]
  rfl
theorem s_l : ∀ n, n < 32 → ((nI n &&& 31).toBitVec.smod 32).toNat = n := by decide +kernel
theorem nx_and (a b : Nat) : nI a &&& nI b = nI (a &&& b) := by
  apply Int32.toBitVec_inj.1
  show BitVec.ofNat 32 a &&& BitVec.ofNat 32 b = BitVec.ofNat 32 (a &&& b)
  apply BitVec.eq_of_getLsbD_eq
  intro i hi
  simp [hi]
/-- how many of the first n are not 0: the rank of n -/
def ra_rk (L : Nat → Int32) : Nat → Nat
  | 0 => 0
  | n + 1 => ra_rk L n + (if L n = 0 then 0 else 1)
theorem ra_z {L : Nat → Int32} {n : Nat} (h : L n = 0) : ra_rk L (n + 1) = ra_rk L n := by
  show ra_rk L n + (if L n = 0 then 0 else 1) = _
  rw [if_pos h] <;> rfl
theorem ra_s {L : Nat → Int32} {n : Nat} (h : L n ≠ 0) : ra_rk L (n + 1) = ra_rk L n + 1 := by
  show ra_rk L n + (if L n = 0 then 0 else 1) = _
  rw [if_neg h]
theorem ra_le (L : Nat → Int32) (n : Nat) : ra_rk L n ≤ n := by
  induction n with
  | zero => exact Nat.le_refl _
  | succ n ih =>
    by_cases h : L n = 0
    · rw [ra_z h]; omega
    · rw [ra_s h]; omega
theorem ra_mono (L : Nat → Int32) {m n : Nat} (h : m ≤ n) : ra_rk L m ≤ ra_rk L n := by
  induction h with
  | refl => exact Nat.le_refl _
  | step _ ih => exact Nat.le_trans ih (Nat.le_add_right _ _)
theorem ra_lt (L : Nat → Int32) {m n : Nat} (h : m < n) (z : L m ≠ 0) : ra_rk L m < ra_rk L n := by
  have q := ra_mono L (show m + 1 ≤ n from h)
  rw [ra_s z] at q
  omega
theorem ra_surj (L : Nat → Int32) : ∀ n k : Nat, k < ra_rk L n → ∃ r, r < n ∧ L r ≠ 0 ∧ ra_rk L r = k := by
  intro n
  induction n with
  | zero => intro k h; exact absurd h (Nat.not_lt_zero _)
  | succ n ih =>
    intro k h
    by_cases z : L n = 0
    · rw [ra_z z] at h
      obtain ⟨r, a, b, c⟩ := ih k h
      exact ⟨r, by omega, b, c⟩
    · rw [ra_s z] at h
      by_cases e : k = ra_rk L n
      · exact ⟨n, by omega, z, e.symm⟩
      · obtain ⟨r, a, b, c⟩ := ih k (by omega)
        exact ⟨r, by omega, b, c⟩
theorem ra_if {i n : Nat} (e : n ≠ i) : (if i < n + 1 then 1 else 0 : Nat) = if i < n then 1 else 0 := by
  by_cases t : i < n
  · rw [if_pos t, if_pos (by omega)]
  · rw [if_neg t, if_neg (by omega)]
theorem ra_up {L : Nat → Int32} {i : Nat} {x : Int32} (hx : x ≠ 0) (z : L i = 0) : ∀ n, ra_rk (upd L i x) n = ra_rk L n + (if i < n then 1 else 0) := by
  intro n
  induction n with
  | zero => rw [if_neg (Nat.not_lt_zero i)] <;> rfl
  | succ n ih =>
    by_cases e : n = i
    · subst e
      rw [ra_s (show upd L n x n ≠ 0 by rw [pk_us]; exact hx), ih, ra_z z, if_neg (Nat.lt_irrefl n), if_pos (Nat.lt_succ_self n)]
    · have q : upd L i x n = L n := pk_un e
      rw [ra_if e]
      by_cases y : L n = 0
      · rw [ra_z (q.trans y), ih, ra_z y]
      · rw [ra_s (show upd L i x n ≠ 0 by rw [q]; exact y), ih, ra_s y]; omega
theorem ra_dn {L : Nat → Int32} {i : Nat} (z : L i ≠ 0) : ∀ n, ra_rk (upd L i 0) n + (if i < n then 1 else 0) = ra_rk L n := by
  intro n
  induction n with
  | zero => rw [if_neg (Nat.not_lt_zero i)] <;> rfl
  | succ n ih =>
    by_cases e : n = i
    · subst e
      rw [if_neg (Nat.lt_irrefl n)] at ih
      rw [ra_z (show upd L n 0 n = 0 from pk_us), ra_s z, if_pos (Nat.lt_succ_self n), ← ih] <;> rfl
    · have q : upd L i 0 n = L n := pk_un e
      rw [ra_if e]
      by_cases y : L n = 0
      · rw [ra_z (q.trans y), ih, ra_z y]
      · rw [ra_s (show upd L i 0 n ≠ 0 by rw [q]; exact y), ra_s y, ← ih]; omega
theorem ra_zero : ∀ n, ra_rk (fun _ => 0) n = 0 := by
  intro n
  induction n with
  | zero => rfl
  | succ n ih => rw [ra_z rfl, ih]
theorem ra_id {L : Nat → Int32} {i : Nat} {x : Int32} (h : L i = x) : upd L i x = L := by
  funext j
  by_cases e : j = i
  · subst e; rw [pk_us, h]
  · exact pk_un e
/-- the factor of row r, the k-th listed one, in world w; the product over the listed rows below n -/
def pr_f (W : Nat → Int32) (w k r : Nat) : Int32 := if w.testBit k = true then W r else 10 - W r
def pr_p (L W : Nat → Int32) (w : Nat) : Nat → Int64
  | 0 => 1
  | n + 1 => if L n = 0 then pr_p L W w n else pr_p L W w n * (pr_f W w (ra_rk L n) n).toInt64
theorem pr_z {L W : Nat → Int32} {w n : Nat} (h : L n = 0) : pr_p L W w (n + 1) = pr_p L W w n := if_pos h
theorem pr_s {L W : Nat → Int32} {w n : Nat} (h : L n ≠ 0) : pr_p L W w (n + 1) = pr_p L W w n * (pr_f W w (ra_rk L n) n).toInt64 := if_neg h
theorem pr_le {L W : Nat → Int32} {w m n : Nat} (h : m ≤ n) : ra_rk L m = ra_rk L n → pr_p L W w m = pr_p L W w n := by
  induction h with
  | refl => intro _; rfl
  | @step n h ih =>
    intro e
    have a := ra_mono L h
    by_cases z : L n = 0
    · have e2 : ra_rk L m = ra_rk L n := e.trans (ra_z z)
      exact (ih e2).trans (pr_z z).symm
    · have e2 : ra_rk L m = ra_rk L n + 1 := e.trans (ra_s z)
      omega
theorem pr_eq {L W : Nat → Int32} {w m n : Nat} (e : ra_rk L m = ra_rk L n) : pr_p L W w m = pr_p L W w n := by
  rcases Nat.le_total m n with h | h
  · exact pr_le h e
  · exact (pr_le h e.symm).symm
/-- bits -/
theorem bi_sub (w m : Nat) : w &&& m = m ↔ ∀ i, m.testBit i = true → w.testBit i = true := by
  constructor
  · intro h i hi
    have q : (w &&& m).testBit i = true := by rw [h]; exact hi
    rw [Nat.testBit_and, hi, Bool.and_true] at q
    exact q
  · intro h
    apply Nat.eq_of_testBit_eq
    intro i
    rw [Nat.testBit_and]
    cases e : m.testBit i
    · exact Bool.and_false _
    · rw [h i e] <;> rfl
theorem bi_or (w m k : Nat) : w &&& (m ||| 2 ^ k) = m ||| 2 ^ k ↔ (w &&& m = m ∧ w.testBit k = true) := by
  rw [bi_sub, bi_sub]
  constructor
  · intro h
    exact ⟨fun i hi => h i (by rw [Nat.testBit_or, hi] <;> rfl), h k (by rw [Nat.testBit_or, Nat.testBit_two_pow_self, Bool.or_true])⟩
  · intro h i hi
    rw [Nat.testBit_or, Nat.testBit_two_pow] at hi
    by_cases e : k = i
    · subst e; exact h.2
    · rw [decide_eq_false e, Bool.or_false] at hi
      exact h.1 i hi
theorem bi_one (w k : Nat) : w &&& 2 ^ k = 2 ^ k ↔ w.testBit k = true := by
  rw [bi_sub]
  constructor
  · intro h; exact h k Nat.testBit_two_pow_self
  · intro h i hi
    rw [Nat.testBit_two_pow] at hi
    rw [← of_decide_eq_true hi]; exact h
theorem bi_zero (w k : Nat) : w &&& 2 ^ k = 0 ↔ ¬ w.testBit k = true := by
  constructor
  · intro h e
    have q := (bi_one w k).mpr e
    rw [h] at q
    exact absurd q (Nat.ne_of_lt (Nat.two_pow_pos k))
  · intro h
    apply Nat.eq_of_testBit_eq
    intro i
    rw [Nat.testBit_and, Nat.testBit_two_pow, Nat.zero_testBit]
    by_cases e : k = i
    · subst e
      rw [Bool.eq_false_iff.mpr h] <;> rfl
    · rw [decide_eq_false e, Bool.and_false]
theorem bi_t {w k : Nat} (hw : w < 2 ^ 31) (hk : k < 32) : (nI w >>> (nI k &&& 31) &&& 1 = 1) ↔ w.testBit k = true := by
  have hq : w / 2 ^ k < 2 ^ 32 := Nat.lt_of_le_of_lt (Nat.div_le_self w (2 ^ k)) (by omega)
  have hm : w / 2 ^ k % 2 ^ 1 < 2 ^ 31 := Nat.lt_trans (Nat.mod_lt _ (by decide)) (by decide)
  rw [pk_shrN hw _ k (s_l k hk), pk_andN (m := 1) hq 1 (by decide)]
  show nI (w / 2 ^ k % 2 ^ 1) = nI 1 ↔ _
  rw [nI_eq hm (by decide), Nat.testBit_eq_decide_div_mod_eq, decide_eq_true_eq]
  first | done | exact Iff.rfl
theorem bi_shl {k : Nat} (hk : k < 31) : (1 : Int32) <<< (nI k &&& 31) = nI (2 ^ k) := by
  have h := pk_shlN (n := 1) (nI k &&& 31) k (s_l k (by omega)) (by rw [Nat.one_mul]; exact Nat.pow_lt_pow_right (by decide) (by omega))
  rw [Nat.one_mul] at h
  exact h
theorem bi_lt {k : Nat} (hk : k < 10) : 2 ^ k < 1024 := Nat.pow_lt_pow_right (n := 10) (by decide) hk
theorem bi_le {k : Nat} (hk : k ≤ 10) : 2 ^ k ≤ 1024 := Nat.pow_le_pow_right (j := 10) (by decide) hk
theorem bi_orN (a b : Nat) : nI a ||| nI b = nI (a ||| b) := by
  apply Int32.toBitVec_inj.1
  show BitVec.ofNat 32 a ||| BitVec.ofNat 32 b = BitVec.ofNat 32 (a ||| b)
  apply BitVec.eq_of_getLsbD_eq
  intro i hi
  simp [hi]
/-- the query: the row that relation q's atom asks for under values g; row r there in world w; all atoms' rows there; some assignment -/
def qu_ix (F S : Nat → Int32) (g : Nat → Nat) (q : Nat) : Nat := 9 * q + 3 * g (F q).toNatClampNeg + g (S q).toNatClampNeg
def qu_row (L : Nat → Int32) (w r : Nat) : Prop := L r ≠ 0 ∧ w.testBit (ra_rk L r) = true
def qu_Q (L A F S : Nat → Int32) (g : Nat → Nat) (w n : Nat) : Prop := ∀ q, q < n → A q ≠ 0 → qu_row L w (qu_ix F S g q)
def qu_gx (a v : Nat) : Nat := a / 3 ^ v % 3
def qu_gy (a v : Nat) : Nat := if v = 0 then a / 9 else if v = 1 then a / 3 % 3 else a % 3
def qu_rev (a : Nat) : Nat := a % 3 * 9 + a / 3 % 3 * 3 + a / 9
theorem qu_gxy : ∀ a, a < 27 → ∀ v, v < 3 → qu_gy (qu_rev a) v = qu_gx a v := by decide +kernel
theorem qu_gyx : ∀ a, a < 27 → ∀ v, v < 3 → qu_gx (qu_rev a) v = qu_gy a v := by decide +kernel
theorem qu_rlt : ∀ a, a < 27 → qu_rev a < 27 := by decide +kernel
theorem qu_x3 : ∀ a, a < 27 → ∀ v, v < 3 → qu_gx a v < 3 := by decide +kernel
theorem qu_y3 : ∀ a, a < 27 → ∀ v, v < 3 → qu_gy a v < 3 := by decide +kernel
def qu_H (L A F S : Nat → Int32) (w : Nat) : Prop := ∃ a, a < 27 ∧ qu_Q L A F S (qu_gx a) w 4
theorem qu_c {L A F S : Nat → Int32} {g g' : Nat → Nat} {w n : Nat} (hF : ∀ q, (F q).toNatClampNeg < 3) (hS : ∀ q, (S q).toNatClampNeg < 3) (e : ∀ v, v < 3 → g v = g' v) (h : qu_Q L A F S g w n) : qu_Q L A F S g' w n := by
  intro q hq hA
  have z := h q hq hA
  unfold qu_ix at z
  rw [e _ (hF q), e _ (hS q)] at z
  exact z
theorem qu_HY {L A F S : Nat → Int32} {w : Nat} (hF : ∀ q, (F q).toNatClampNeg < 3) (hS : ∀ q, (S q).toNatClampNeg < 3) : (∃ a, a < 27 ∧ qu_Q L A F S (qu_gy a) w 4) ↔ qu_H L A F S w := by
  constructor
  · intro ⟨a, ha, h⟩
    exact ⟨qu_rev a, qu_rlt a ha, qu_c hF hS (fun v hv => (qu_gyx a ha v hv).symm) h⟩
  · intro h
    obtain ⟨a, ha, h⟩ := h
    exact ⟨qu_rev a, qu_rlt a ha, qu_c hF hS (fun v hv => (qu_gxy a ha v hv).symm) h⟩
/-- the need of an assignment, as the class keeps it: -1 where a row is not listed, else a set of bits -/
def qu_N (L A F S : Nat → Int32) (nd : Int32) (a : Nat) : Prop :=
  (nd = -1 ∧ ∀ w, ¬ qu_Q L A F S (qu_gx a) w 4) ∨ ∃ m, m < 1024 ∧ nd = nI m ∧ ∀ w, (w &&& m = m ↔ qu_Q L A F S (qu_gx a) w 4)
theorem qu_0 (L A F S : Nat → Int32) (g : Nat → Nat) (w : Nat) : w &&& 0 = 0 ↔ qu_Q L A F S g w 0 :=
  ⟨fun _ q hq => absurd hq (Nat.not_lt_zero q), fun _ => Nat.and_zero w⟩
theorem qu_sk {L A F S : Nat → Int32} {g : Nat → Nat} {w q : Nat} (z : A q = 0) : qu_Q L A F S g w (q + 1) ↔ qu_Q L A F S g w q := by
  constructor
  · intro h p hp
    exact h p (by omega)
  · intro h p hp hA
    by_cases e : p = q
    · subst e; exact absurd z hA
    · exact h p (by omega) hA
theorem qu_st {L A F S : Nat → Int32} {g : Nat → Nat} {w q : Nat} (z : A q ≠ 0) : qu_Q L A F S g w (q + 1) ↔ (qu_Q L A F S g w q ∧ qu_row L w (qu_ix F S g q)) := by
  constructor
  · intro h
    exact ⟨fun p hp => h p (by omega), h q (by omega) z⟩
  · intro h p hp hA
    by_cases e : p = q
    · subst e; exact h.2
    · exact h.1 p (by omega) hA
theorem qu_or {L A F S : Nat → Int32} {g : Nat → Nat} {m q : Nat} (z : A q ≠ 0) (l : L (qu_ix F S g q) ≠ 0) (h : ∀ w, (w &&& m = m ↔ qu_Q L A F S g w q)) : ∀ w, (w &&& (m ||| 2 ^ ra_rk L (qu_ix F S g q)) = m ||| 2 ^ ra_rk L (qu_ix F S g q) ↔ qu_Q L A F S g w (q + 1)) := by
  intro w
  rw [bi_or, h w, qu_st z]
  exact ⟨fun y => ⟨y.1, l, y.2⟩, fun y => ⟨y.1, y.2.2⟩⟩
theorem qu_no {L A F S : Nat → Int32} {g : Nat → Nat} {q : Nat} (hq : q < 4) (z : A q ≠ 0) (l : L (qu_ix F S g q) = 0) : ∀ w, ¬ qu_Q L A F S g w 4 := fun w h => (h q hq z).1 l
theorem qu_lt {F S : Nat → Int32} {g : Nat → Nat} {q : Nat} (hq : q < 4) (h1 : g (F q).toNatClampNeg < 3) (h2 : g (S q).toNatClampNeg < 3) : qu_ix F S g q < 36 := by
  unfold qu_ix
  omega
end
section
/-- the class's tables: the bit of each row, the row of each rank, the need of each assignment; the reference's: the rows that are there -/
def ta_B (L B : Nat → Int32) (n : Nat) : Prop := ∀ r, r < n → (L r = 0 → B r = 0) ∧ (L r ≠ 0 → B r = nI (2 ^ ra_rk L r))
def ta_R (L R : Nat → Int32) (n : Nat) : Prop := ∀ r, r < n → L r ≠ 0 → R (ra_rk L r) = nI r
def ta_N (L A F S N : Nat → Int32) (n : Nat) : Prop := ∀ a, a < n → qu_N L A F S (N a) a
def ta_T (L T : Nat → Int32) (w n : Nat) : Prop := ∀ r, r < n → (qu_row L w r → T r = 1) ∧ (¬ qu_row L w r → T r = 0)
def ta_3 (F : Nat → Int32) : Prop := ∀ j, ∃ q, q < 3 ∧ F j = nI q
def ta_01 (L : Nat → Int32) : Prop := ∀ j, L j = 0 ∨ L j = 1
def re_G (L A F S : Nat → Int32) : Prop := ra_rk L 36 ≤ 10 ∧ ta_01 L ∧ ta_01 A ∧ ta_3 F ∧ ta_3 S
theorem ta_c3 {F : Nat → Int32} (h : ta_3 F) (q : Nat) : (F q).toNatClampNeg < 3 := by
  obtain ⟨f, hf, e⟩ := h q
  rw [e, nI_clamp (by omega)]
  exact hf
theorem ta_n3 {F : Nat → Int32} (h : ta_3 F) (q : Nat) : F q = nI (F q).toNatClampNeg := by
  obtain ⟨f, hf, e⟩ := h q
  rw [e, nI_clamp (by omega)]
theorem ta_B0 {L B : Nat → Int32} {i : Nat} (h : ta_B L B i) (z : L i = 0) : ta_B L (upd B i 0) (i + 1) := by
  intro r hr
  by_cases e : r = i
  · subst e
    exact ⟨fun _ => pk_us, fun y => absurd z y⟩
  · rw [pk_un e]
    exact h r (by omega)
theorem ta_B1 {L B : Nat → Int32} {i : Nat} (h : ta_B L B i) (z : L i ≠ 0) : ta_B L (upd (upd B i 0) i (nI (2 ^ ra_rk L i))) (i + 1) := by
  intro r hr
  by_cases e : r = i
  · subst e
    exact ⟨fun y => absurd y z, fun _ => pk_us⟩
  · rw [pk_un e, pk_un e]
    exact h r (by omega)
theorem ta_R0 {L R : Nat → Int32} {i : Nat} (h : ta_R L R i) (z : L i = 0) : ta_R L R (i + 1) := by
  intro r hr y
  by_cases e : r = i
  · subst e; exact absurd z y
  · exact h r (by omega) y
theorem ta_R1 {L R : Nat → Int32} {i : Nat} (h : ta_R L R i) : ta_R L (upd R (ra_rk L i) (nI i)) (i + 1) := by
  intro r hr y
  by_cases e : r = i
  · subst e; exact pk_us
  · have q : ra_rk L r < ra_rk L i := ra_lt L (by omega) y
    rw [pk_un (Nat.ne_of_lt q)]
    exact h r (by omega) y
theorem ta_T1 {L T : Nat → Int32} {w i : Nat} {z : Int32} (h : ta_T L T w i) (h1 : qu_row L w i → z = 1) (h0 : ¬ qu_row L w i → z = 0) : ta_T L (upd T i z) w (i + 1) := by
  intro r hr
  by_cases e : r = i
  · subst e
    rw [pk_us]
    exact ⟨h1, h0⟩
  · rw [pk_un e]
    exact h r (by omega)
theorem ta_b0 : vp_nar .boolean 0 = 0 := by decide
theorem ta_b1 : vp_nar .boolean 1 = 1 := by decide
theorem ta_nb {z : Int32} (h : z = 0 ∨ z = 1) : narrow .boolean (.int z) = .int z := by
  rcases h with h | h <;> subst h <;> rfl
/-- row numbers, on both sides -/
theorem ix_in (post : Int32 → Prop) {i j k : Nat} (hi : i < 4) (hj : j < 3) (hk : k < 3) (hp : post (nI (9 * i + 3 * j + k))) : wpX_rowIndex post (nI i) (nI j) (nI k) := by
  have e : (nI i * 3 + nI j) * 3 + nI k = nI (9 * i + 3 * j + k) := by
    show (nI i * nI 3 + nI j) * nI 3 + nI k = _
    rw [pk_mul, nI_add, pk_mul, nI_add]
    exact congrArg nI (by omega)
  have a0 := nI_pos (n := i) (by omega)
  have a1 : nI i < 4 := nI_lt (b := 4) hi (by decide)
  have b0 := nI_pos (n := j) (by omega)
  have b1 : ¬ 3 ≤ nI j := nI_ge (b := 3) hj (by decide)
  have c0 := nI_pos (n := k) (by omega)
  have c1 : nI k < 3 := nI_lt (b := 3) hk (by decide)
  rw [← e] at hp
  exact br_f a0 (br_t a1 (br_f b0 (br_f b1 (br_f c0 (br_t c1 hp)))))
theorem iy_in (post : Int32 → Prop) {i j k : Nat} (hi : i < 4) (hj : j < 3) (hk : k < 3) (hp : post (nI (9 * i + 3 * j + k))) : wpY_number post (nI i) (nI j) (nI k) := by
  have e : 9 * nI i + 3 * nI j + nI k = nI (9 * i + 3 * j + k) := by
    show nI 9 * nI i + nI 3 * nI j + nI k = _
    rw [pk_mul, pk_mul, nI_add, nI_add]
  have a0 := nI_pos (n := i) (by omega)
  have a1 : ¬ 3 < nI i := nI_nlt (a := 3) (b := i) (by omega) (by decide)
  have b0 := nI_pos (n := j) (by omega)
  have b1 : ¬ 2 < nI j := nI_nlt (a := 2) (b := j) (by omega) (by decide)
  have c0 := nI_pos (n := k) (by omega)
  have c1 : nI k ≤ 2 := nI_le (b := 2) (by omega) (by decide)
  rw [← e] at hp
  exact br_f a0 (br_f a1 (br_f b0 (br_f b1 (br_f c0 (br_t c1 hp)))))
theorem ix_no (n : Nat) (hn : n < 2 ^ 31) {x : Int32} (h : ¬ ∃ j : Nat, j < n ∧ x = nI j) : x < 0 ∨ (¬ x < 0 ∧ nI n ≤ x) := by
  by_cases z : x < 0
  · exact Or.inl z
  · rcases pk_ix x hn with y | y | y
    · exact Or.inl y
    · exact Or.inr ⟨z, y⟩
    · exact absurd y h
theorem ix_xy (p0 p1 p2 : Int32) : (∃ i j k : Nat, i < 4 ∧ j < 3 ∧ k < 3 ∧ p0 = nI i ∧ p1 = nI j ∧ p2 = nI k) ∨ ((∀ post : Int32 → Prop, post (-1) → wpX_rowIndex post p0 p1 p2) ∧ (∀ post : Int32 → Prop, post (-1) → wpY_number post p0 p1 p2)) := by
  by_cases h0 : ∃ j : Nat, j < 4 ∧ p0 = nI j
  · obtain ⟨i, hi, rfl⟩ := h0
    have a0 := nI_pos (n := i) (by omega)
    have a1 : nI i < 4 := nI_lt (b := 4) hi (by decide)
    have a2 : ¬ 3 < nI i := nI_nlt (a := 3) (b := i) (by omega) (by decide)
    by_cases h1 : ∃ j : Nat, j < 3 ∧ p1 = nI j
    · obtain ⟨j, hj, rfl⟩ := h1
      have b0 := nI_pos (n := j) (by omega)
      have b1 : ¬ 3 ≤ nI j := nI_ge (b := 3) hj (by decide)
      have b2 : ¬ 2 < nI j := nI_nlt (a := 2) (b := j) (by omega) (by decide)
      by_cases h2 : ∃ j : Nat, j < 3 ∧ p2 = nI j
      · obtain ⟨k, hk, rfl⟩ := h2
        exact Or.inl ⟨i, j, k, hi, hj, hk, rfl, rfl, rfl⟩
      · refine Or.inr ?_
        rcases ix_no 3 (by decide) h2 with z | ⟨z, y⟩
        · exact ⟨fun post hp => br_f a0 (br_t a1 (br_f b0 (br_f b1 (br_t z hp)))), fun post hp => br_f a0 (br_f a2 (br_f b0 (br_f b2 (br_t z hp))))⟩
        · have y1 : ¬ p2 < 3 := Int32.not_lt.mpr y
          have y2 : ¬ p2 ≤ 2 := fun q => absurd (Int32.le_trans y q) (by decide)
          exact ⟨fun post hp => br_f a0 (br_t a1 (br_f b0 (br_f b1 (br_f z (br_f y1 hp))))), fun post hp => br_f a0 (br_f a2 (br_f b0 (br_f b2 (br_f z (br_f y2 hp)))))⟩
    · refine Or.inr ?_
      rcases ix_no 3 (by decide) h1 with z | ⟨z, y⟩
      · exact ⟨fun post hp => br_f a0 (br_t a1 (br_t z hp)), fun post hp => br_f a0 (br_f a2 (br_t z hp))⟩
      · have y2 : 2 < p1 := Int32.not_le.mp (fun q => absurd (Int32.le_trans y q) (by decide))
        exact ⟨fun post hp => br_f a0 (br_t a1 (br_f z (br_t y hp))), fun post hp => br_f a0 (br_f a2 (br_f z (br_t y2 hp)))⟩
  · refine Or.inr ?_
    rcases ix_no 4 (by decide) h0 with z | ⟨z, y⟩
    · exact ⟨fun post hp => br_t z hp, fun post hp => br_t z hp⟩
    · have y1 : ¬ p0 < 4 := Int32.not_lt.mpr y
      have y2 : 3 < p0 := Int32.not_le.mp (fun q => absurd (Int32.le_trans y q) (by decide))
      exact ⟨fun post hp => br_f z (br_f y1 hp), fun post hp => br_f z (br_t y2 hp)⟩
/-- the value of a variable in an assignment -/
theorem vl_l (post : Int32 → Prop) {v : Nat} (hv : v < 2 ^ 31) : ∀ d p rest : Nat, p + d = v → rest < 2 ^ 31 → post (nI (rest / 3 ^ d % 3)) → wX_valueIn_4 post (nI v) (d + 1) (nI rest) (nI p) := by
  intro d
  induction d with
  | zero =>
    intro p rest e hr hp
    obtain rfl : p = v := e
    refine br_t (nI_le (Nat.le_refl _) hv) ⟨by decide, ?_⟩
    have q := pk_rem (a := rest) (d := 3) hr (by decide) (by decide)
    rw [Nat.pow_zero, Nat.div_one, ← q] at hp
    exact hp
  | succ d ih =>
    intro p rest e hr hp
    refine br_f (nI_ge (show p < v by omega) hv) ⟨by decide, ?_⟩
    refine nm_r (pk_div (d := 3) hr (by decide) (by decide)) (nm_r (nI_1 p) (ih (p + 1) (rest / 3) (by omega) (by omega) ?_))
    rw [Nat.div_div_eq_div_mul, ← Nat.pow_succ']
    exact hp
theorem vl_x (post : Int32 → Prop) {a v : Nat} (ha : a < 27) (hv : v < 3) (hp : post (nI (qu_gx a v))) : wpX_valueIn post (nI a) (nI v) :=
  ⟨v + 1, vl_l post (by omega) v 0 a (by omega) (by omega) hp⟩
theorem vl_F (post : Int32 → Prop) {F : Nat → Int32} (h3 : ta_3 F) (q : Nat) {a : Nat} (ha : a < 27) (hp : post (nI (qu_gx a (F q).toNatClampNeg))) : wpX_valueIn post (nI a) (F q) := by
  have h := vl_x post ha (ta_c3 h3 q) hp
  rw [← ta_n3 h3 q] at h
  exact h
section
variable {lc ac : Int32} {L W A F S R B N : Nat → Int32}
/-- numberListedRows -/
theorem nu_l (h10 : ra_rk L 36 ≤ 10) (post : SX → Prop) (hp : ∀ R B, ta_B L B 36 → ta_R L R 36 → post (lc, ac, L, W, A, F, S, R, B, N)) :
    ∀ (d i : Nat) (R B : Nat → Int32), i + d = 36 → ta_B L B i → ta_R L R i → wX_numberListedRows_4 post lc ac (d + 1) (nI (ra_rk L i)) (nI i) L W A F S R B N := by
  intro d
  induction d with
  | zero =>
    intro i R B e hB hR
    obtain rfl : i = 36 := e
    exact br_t (nI_le (Nat.le_refl 36) (by decide)) (hp R B hB hR)
  | succ d ih =>
    intro i R B e hB hR
    have hi : i < 36 := by omega
    have ci : (nI i).toNatClampNeg = i := nI_clamp (by omega)
    have vi : vp_in (nI i) 36 := vp_in_nI hi (by decide)
    refine br_f (nI_ge (b := 36) hi (by decide)) ⟨vi, nm_e ⟨vi, ?_⟩⟩
    try rw [ci]
    by_cases z : L i = 0
    · refine br_t z (nm_r (nI_1 i) ?_)
      have q := ih (i + 1) R (upd B i 0) (by omega) (ta_B0 hB z) (ta_R0 hR z)
      rw [ra_z z] at q
      exact q
    · have hk : ra_rk L i < 10 := Nat.lt_of_lt_of_le (ra_lt L hi z) h10
      have ck : (nI (ra_rk L i)).toNatClampNeg = ra_rk L i := nI_clamp (by omega)
      refine br_f z (br_f (nI_ge (b := 10) hk (by decide)) ⟨vi, nm_e ⟨vp_in_nI hk (by decide), nm_e (nm_r (nI_1 _) (nm_r (nI_1 i) ?_))⟩⟩)
      have q := ih (i + 1) (upd R (ra_rk L i) (nI i)) (upd (upd B i 0) i (nI (2 ^ ra_rk L i))) (by omega) (ta_B1 hB z) (ta_R1 hR)
      rw [ra_s z] at q
      rw [ck, bi_shl (by omega)]
      exact q
theorem nu_x (h10 : ra_rk L 36 ≤ 10) (post : SX → Prop) (hp : ∀ R B, ta_B L B 36 → ta_R L R 36 → post (lc, ac, L, W, A, F, S, R, B, N)) : wpX_numberListedRows post (lc, ac, L, W, A, F, S, R, B, N) :=
  ⟨37, nu_l h10 post hp 36 0 R B rfl (fun r h => absurd h (Nat.not_lt_zero r)) (fun r h => absurd h (Nat.not_lt_zero r))⟩
/-- bitOf -/
theorem bo_in (post : Int32 → Prop) {i j k : Nat} (hi : i < 4) (hj : j < 3) (hk : k < 3) (hp : post (B (9 * i + 3 * j + k))) : wpX_bitOf post (lc, ac, L, W, A, F, S, R, B, N) (nI i) (nI j) (nI k) := by
  have c : (nI (9 * i + 3 * j + k)).toNatClampNeg = 9 * i + 3 * j + k := nI_clamp (by omega)
  unfold wpX_bitOf
  refine ix_in _ hi hj hk (br_t (nI_pos' (by omega)) ⟨vp_in_nI (by omega) (by decide), ?_⟩)
  rw [c]
  exact hp
theorem bo_no (post : Int32 → Prop) {p0 p1 p2 : Int32} (h : ∀ post : Int32 → Prop, post (-1) → wpX_rowIndex post p0 p1 p2) (hp : post 0) : wpX_bitOf post (lc, ac, L, W, A, F, S, R, B, N) p0 p1 p2 := by
  unfold wpX_bitOf
  exact h _ (br_f (by decide) hp)
/-- needOf -/
theorem ne_l (G : re_G L A F S) (hB : ta_B L B 36) (post : Int32 → Prop) {a : Nat} (ha : a < 27) (hp : ∀ nd, qu_N L A F S nd a → post nd) : ∀ d q m : Nat, q + d = 4 → m < 1024 → (∀ w, (w &&& m = m ↔ qu_Q L A F S (qu_gx a) w q)) → wX_needOf_4 post (nI a) lc ac L W A F S R B N (d + 1) (nI m) (nI q) := by
  intro d
  induction d with
  | zero =>
    intro q m e hm hw
    obtain rfl : q = 4 := e
    exact br_t (nI_le (Nat.le_refl 4) (by decide)) (hp _ (Or.inr ⟨m, hm, rfl, hw⟩))
  | succ d ih =>
    intro q m e hm hw
    have hq : q < 4 := by omega
    have cq : (nI q).toNatClampNeg = q := nI_clamp (by omega)
    have vq : vp_in (nI q) 4 := vp_in_nI hq (by decide)
    obtain ⟨h10, _, _, hF, hS⟩ := G
    refine br_f (nI_ge (b := 4) hq (by decide)) ⟨vq, ?_⟩
    try rw [cq]
    by_cases z : A q = 0
    · exact br_t z (nm_r (nI_1 q) (ih (q + 1) m (by omega) hm (fun w => (hw w).trans (qu_sk z).symm)))
    · refine br_f z ⟨vq, ?_⟩
      have g1 := qu_x3 a ha _ (ta_c3 hF q)
      have g2 := qu_x3 a ha _ (ta_c3 hS q)
      refine vl_F _ hF q ha ?_
      refine ⟨vq, ?_⟩
      try rw [cq]
      refine vl_F _ hS q ha ?_
      refine bo_in _ hq g1 g2 ?_
      have hlt : qu_ix F S (qu_gx a) q < 36 := qu_lt hq g1 g2
      obtain ⟨b0, b1⟩ := hB _ hlt
      by_cases l : L (qu_ix F S (qu_gx a) q) = 0
      · exact br_t (b0 l) (hp _ (Or.inl ⟨rfl, qu_no hq z l⟩))
      · have hk : ra_rk L (qu_ix F S (qu_gx a) q) < 10 := Nat.lt_of_lt_of_le (ra_lt L hlt l) h10
        have hn : B (qu_ix F S (qu_gx a) q) ≠ 0 := by
          rw [b1 l]
          exact nI_ne0 (Nat.two_pow_pos _) (Nat.lt_trans (bi_lt hk) (by decide))
        have ho : nI m ||| B (qu_ix F S (qu_gx a) q) = nI (m ||| 2 ^ ra_rk L (qu_ix F S (qu_gx a) q)) := by
          rw [b1 l]
          exact bi_orN _ _
        refine br_f hn (nm_r ho (nm_r (nI_1 q) (ih (q + 1) _ (by omega) ?_ (qu_or z l hw))))
        exact Nat.or_lt_two_pow (n := 10) hm (bi_lt hk)
theorem ne_x (G : re_G L A F S) (hB : ta_B L B 36) (post : Int32 → Prop) {a : Nat} (ha : a < 27) (hp : ∀ nd, qu_N L A F S nd a → post nd) : wpX_needOf post (lc, ac, L, W, A, F, S, R, B, N) (nI a) :=
  ⟨5, ne_l G hB post ha hp 4 0 0 rfl (by decide) (fun w => qu_0 L A F S (qu_gx a) w)⟩
/-- prepare -/
theorem pp_l (G : re_G L A F S) (hB : ta_B L B 36) (post : SX → Prop) (hp : ∀ N, ta_N L A F S N 27 → post (lc, ac, L, W, A, F, S, R, B, N)) :
    ∀ (d a : Nat) (N : Nat → Int32), a + d = 27 → ta_N L A F S N a → wX_prepare_6 post lc ac (d + 1) (nI a) L W A F S R B N := by
  intro d
  induction d with
  | zero =>
    intro a N e hN
    obtain rfl : a = 27 := e
    exact br_t (nI_le (Nat.le_refl 27) (by decide)) (hp N hN)
  | succ d ih =>
    intro a N e hN
    have ha : a < 27 := by omega
    have ca : (nI a).toNatClampNeg = a := nI_clamp (by omega)
    have va : vp_in (nI a) 27 := vp_in_nI ha (by decide)
    refine br_f (nI_ge (b := 27) ha (by decide)) ?_
    refine ne_x G hB _ ha (fun nd hnd => ⟨va, nm_e ?_⟩)
    try rw [ca]
    refine nm_r (nI_1 a) (ih (a + 1) _ (by omega) ?_)
    intro b hb
    by_cases e : b = a
    · subst e
      rw [pk_us]
      exact hnd
    · rw [pk_un e]
      exact hN b (by omega)
theorem pp_x (G : re_G L A F S) (post : SX → Prop) (hp : ∀ R B N, ta_B L B 36 → ta_R L R 36 → ta_N L A F S N 27 → post (lc, ac, L, W, A, F, S, R, B, N)) : wpX_prepare post (lc, ac, L, W, A, F, S, R, B, N) := by
  unfold wpX_prepare
  refine nu_x G.1 _ (fun R B hB hR => ⟨28, ?_⟩)
  exact pp_l G hB post (fun N hN => hp R B N hB hR hN) 27 0 N rfl (fun a ha => absurd ha (Nat.not_lt_zero a))
end
end
section
section
variable {lc ac : Int32} {L W A F S R B N : Nat → Int32}
theorem hx_m1 {m : Nat} (h : m < 2 ^ 31) : ¬ nI m = -1 := by
  intro z
  have q := nI_pos' h
  rw [z] at q
  exact absurd q (by decide)
/-- holds, of the class -/
theorem hx_l (hN : ta_N L A F S N 27) (post : Int32 → Prop) {w : Nat} (h1 : qu_H L A F S w → post 1) (h0 : ¬ qu_H L A F S w → post 0) : ∀ d a : Nat, a + d = 27 → (∀ b, b < a → ¬ qu_Q L A F S (qu_gx b) w 4) → wX_holds_2 post (nI w) lc ac L W A F S R B N (d + 1) (nI a) := by
  intro d
  induction d with
  | zero =>
    intro a e hb
    obtain rfl : a = 27 := e
    exact br_t (nI_le (Nat.le_refl 27) (by decide)) (h0 (fun ⟨b, hb1, hb2⟩ => hb b hb1 hb2))
  | succ d ih =>
    intro a e hb
    have ha : a < 27 := by omega
    have va : vp_in (nI a) 27 := vp_in_nI ha (by decide)
    have ca : (nI a).toNatClampNeg = a := nI_clamp (by omega)
    have next : ¬ qu_Q L A F S (qu_gx a) w 4 → wX_holds_2 post (nI w) lc ac L W A F S R B N (d + 1) (nI (a + 1)) := by
      intro q
      refine ih (a + 1) (by omega) (fun b hb1 => ?_)
      by_cases e : b = a
      · subst e; exact q
      · exact hb b (by omega)
    refine br_f (nI_ge (b := 27) ha (by decide)) ⟨va, ?_⟩
    try rw [ca]
    rcases hN a ha with ⟨e1, q⟩ | ⟨m, hm, e1, q⟩
    · exact nm_r e1 (br_t rfl (nm_r (nI_1 a) (next (q w))))
    · refine nm_r e1 (br_f (hx_m1 (by omega)) ?_)
      rw [nx_and]
      have hle : w &&& m ≤ m := Nat.and_le_right
      have iffm : nI (w &&& m) = nI m ↔ w &&& m = m := nI_eq (by omega) (by omega)
      by_cases y : w &&& m = m
      · exact br_t (iffm.mpr y) (h1 ⟨a, ha, (q w).mp y⟩)
      · exact br_f (fun z => y (iffm.mp z)) (nm_r (nI_1 a) (next (fun z => y ((q w).mpr z))))
theorem hx_x (hN : ta_N L A F S N 27) (post : Int32 → Prop) {w : Nat} (h1 : qu_H L A F S w → post 1) (h0 : ¬ qu_H L A F S w → post 0) : wpX_holds post (lc, ac, L, W, A, F, S, R, B, N) (nI w) :=
  ⟨28, hx_l hN post h1 h0 27 0 rfl (fun b hb => absurd hb (Nat.not_lt_zero b))⟩
/-- weightOfWorld -/
theorem we_l (h10 : ra_rk L 36 ≤ 10) (hR : ta_R L R 36) (post : Int64 → Prop) {w : Nat} (hw : w < 2 ^ 31) (hp : post (pr_p L W w 36)) : ∀ d k r : Nat, k + d = ra_rk L 36 → ra_rk L r = k → wX_weightOfWorld_5 post (nI w) (nI (ra_rk L 36)) ac L W A F S R B N (d + 1) (pr_p L W w r) (nI k) := by
  intro d
  induction d with
  | zero =>
    intro k r e hk
    rw [pr_eq (show ra_rk L r = ra_rk L 36 by omega)]
    exact br_t (nI_le (by omega) (by omega)) hp
  | succ d ih =>
    intro k r e hk
    obtain ⟨t, ht, hz, hrt⟩ := ra_surj L 36 k (by omega)
    have k10 : k < 10 := by omega
    have ck : (nI k).toNatClampNeg = k := nI_clamp (by omega)
    have vk : vp_in (nI k) 10 := vp_in_nI k10 (by decide)
    have eR : R k = nI t := by rw [← hrt]; exact hR t ht hz
    have ct : (nI t).toNatClampNeg = t := nI_clamp (by omega)
    have vt : vp_in (nI t) 36 := vp_in_nI ht (by decide)
    have q := ih (k + 1) (t + 1) (by omega) (by rw [ra_s hz, hrt])
    rw [pr_s hz, hrt] at q
    rw [pr_eq (hk.trans hrt.symm)]
    refine br_f (nI_ge (by omega) (by omega)) (br_f (nI_ge (b := 10) k10 (by decide)) ⟨vk, ?_⟩)
    rw [ck, eR]
    refine ⟨vt, ?_⟩
    rw [ct]
    refine nm_e ?_
    have bt := bi_t (w := w) (k := k) hw (by omega)
    by_cases y : w.testBit k = true
    · have f : pr_f W w k t = W t := if_pos y
      rw [f] at q
      refine br_t (bt.mpr y) ?_
      refine br_f (by decide) ?_
      exact nm_e (nm_r (nI_1 k) q)
    · have f : pr_f W w k t = 10 - W t := if_neg y
      rw [f] at q
      refine br_f (fun z => y (bt.mp z)) ?_
      refine br_t rfl ?_
      exact nm_e (nm_r (nI_1 k) q)
theorem we_x (h10 : ra_rk L 36 ≤ 10) (hR : ta_R L R 36) (post : Int64 → Prop) {w : Nat} (hw : w < 2 ^ 31) (hp : post (pr_p L W w 36)) : wpX_weightOfWorld post (nI (ra_rk L 36), ac, L, W, A, F, S, R, B, N) (nI w) :=
  ⟨ra_rk L 36 + 1, we_l h10 hR post hw hp (ra_rk L 36) 0 0 (Nat.zero_add _) rfl⟩
end
end
section
section
variable {L W T A F S : Nat → Int32}
/-- rows -/
theorem ro_l (post : Int32 → Prop) (hp : post (nI (ra_rk L 36))) : ∀ d i : Nat, i + d = 36 → wY_rows_4 post L W T A F S (d + 1) (nI (ra_rk L i)) (nI i) := by
  intro d
  induction d with
  | zero =>
    intro i e
    obtain rfl : i = 36 := e
    exact br_t (nI_le (Nat.le_refl 36) (by decide)) hp
  | succ d ih =>
    intro i e
    have hi : i < 36 := by omega
    have ci : (nI i).toNatClampNeg = i := nI_clamp (by omega)
    refine br_f (nI_ge (b := 36) hi (by decide)) ⟨vp_in_nI hi (by decide), ?_⟩
    try rw [ci]
    have q := ih (i + 1) (by omega)
    by_cases z : L i = 0
    · rw [ra_z z] at q
      exact br_t z (nm_r (nI_1 i) q)
    · rw [ra_s z] at q
      exact br_f z (nm_r (nI_1 _) (nm_r (nI_1 i) q))
theorem ro_y (post : Int32 → Prop) (hp : post (nI (ra_rk L 36))) : wpY_rows post (L, W, T, A, F, S) := ⟨37, ro_l post hp 36 0 rfl⟩
/-- lay -/
theorem la_l (h10 : ra_rk L 36 ≤ 10) (post : SY → Prop) {w : Nat} (hw : w < 2 ^ 31) (hp : ∀ T, ta_T L T w 36 → post (L, W, T, A, F, S)) :
    ∀ (d i : Nat) (T : Nat → Int32), i + d = 36 → ta_T L T w i → wY_lay_4 post (nI w) (d + 1) (nI (ra_rk L i)) (nI i) L W T A F S := by
  intro d
  induction d with
  | zero =>
    intro i T e hT
    obtain rfl : i = 36 := e
    exact br_t (nI_le (Nat.le_refl 36) (by decide)) (hp T hT)
  | succ d ih =>
    intro i T e hT
    have hi : i < 36 := by omega
    have ci : (nI i).toNatClampNeg = i := nI_clamp (by omega)
    have vi : vp_in (nI i) 36 := vp_in_nI hi (by decide)
    refine br_f (nI_ge (b := 36) hi (by decide)) ⟨vi, ?_⟩
    try rw [ci]
    by_cases z : L i = 0
    · have q := ih (i + 1) (upd T i 0) (by omega) (ta_T1 hT (fun y => absurd z y.1) (fun _ => rfl))
      rw [ra_z z] at q
      refine br_t z ?_
      refine And.intro vi (nm_e ⟨vi, ?_⟩)
      rw [ci, ta_b0]
      exact br_t z (nm_r (nI_1 i) q)
    · have hk : ra_rk L i < 10 := Nat.lt_of_lt_of_le (ra_lt L hi z) h10
      have bt := bi_t (w := w) (k := ra_rk L i) hw (by omega)
      by_cases y : w.testBit (ra_rk L i) = true
      · have q := ih (i + 1) (upd T i 1) (by omega) (ta_T1 hT (fun _ => rfl) (fun y' => absurd ⟨z, y⟩ y'))
        rw [ra_s z] at q
        refine br_f z (br_t (bt.mpr y) ?_)
        refine And.intro vi (nm_e ⟨vi, ?_⟩)
        rw [ci, ta_b1]
        exact br_f z (nm_r (nI_1 _) (nm_r (nI_1 i) q))
      · have q := ih (i + 1) (upd T i 0) (by omega) (ta_T1 hT (fun y' => absurd y'.2 y) (fun _ => rfl))
        rw [ra_s z] at q
        refine br_f z (br_f (fun x => y (bt.mp x)) ?_)
        refine And.intro vi (nm_e ⟨vi, ?_⟩)
        rw [ci, ta_b0]
        exact br_f z (nm_r (nI_1 _) (nm_r (nI_1 i) q))
theorem la_y (h10 : ra_rk L 36 ≤ 10) (post : SY → Prop) {w : Nat} (hw : w < 2 ^ 31) (hp : ∀ T, ta_T L T w 36 → post (L, W, T, A, F, S)) : wpY_lay post (L, W, T, A, F, S) (nI w) :=
  ⟨37, la_l h10 post hw hp 36 0 T rfl (fun r h => absurd h (Nat.not_lt_zero r))⟩
/-- value -/
theorem vy_y (post : Int32 → Prop) {a v : Nat} (ha : a < 27) (hv : v < 3) (hp : post (nI (qu_gy a v))) : wpY_value post (nI a) (nI v) := by
  have d9 : nI a / 9 = nI (a / 9) := pk_div (d := 9) (by omega) (by decide) (by decide)
  have d3 : nI a / 3 = nI (a / 3) := pk_div (d := 3) (by omega) (by decide) (by decide)
  have r3 : nI a - nI a / 3 * 3 = nI (a % 3) := pk_rem (d := 3) (by omega) (by decide) (by decide)
  have r33 : nI (a / 3) - nI (a / 3) / 3 * 3 = nI (a / 3 % 3) := pk_rem (d := 3) (by omega) (by decide) (by decide)
  rw [← d3] at r33
  match v, hv, hp with
  | 0, _, hp =>
    have hp : post (nI (a / 9)) := hp
    rw [← d9] at hp
    exact br_t rfl ⟨by decide, hp⟩
  | 1, _, hp =>
    have hp : post (nI (a / 3 % 3)) := hp
    rw [← r33] at hp
    exact br_f (by decide) (br_t rfl ⟨by decide, by decide, hp⟩)
  | 2, _, hp =>
    have hp : post (nI (a % 3)) := hp
    rw [← r3] at hp
    exact br_f (by decide) (br_f (by decide) ⟨by decide, hp⟩)
theorem vy_F (post : Int32 → Prop) {F : Nat → Int32} (h3 : ta_3 F) (q : Nat) {a : Nat} (ha : a < 27) (hp : post (nI (qu_gy a (F q).toNatClampNeg))) : wpY_value post (nI a) (F q) := by
  have h := vy_y post ha (ta_c3 h3 q) hp
  rw [← ta_n3 h3 q] at h
  exact h
/-- holds, of the reference: the atoms, then the assignments -/
theorem hy_i (hF : ta_3 F) (hS : ta_3 S) {w : Nat} (hT : ta_T L T w 36) (post : Int32 → Prop) (J : Int32 → Prop) {a : Nat} (ha : a < 27) (h1 : qu_Q L A F S (qu_gy a) w 4 → post 1) (h0 : ¬ qu_Q L A F S (qu_gy a) w 4 → J (nI (a + 1))) :
    ∀ (d q : Nat) (x : Int32), q + d = 4 → ((x = 1 ∧ qu_Q L A F S (qu_gy a) w q) ∨ (x = 0 ∧ ¬ qu_Q L A F S (qu_gy a) w q)) → wY_holds_12 post J (nI a) L W T A F S (d + 1) x (nI q) := by
  intro d
  induction d with
  | zero =>
    intro q x e hx
    obtain rfl : q = 4 := e
    refine br_t (nI_le (Nat.le_refl 4) (by decide)) ?_
    rcases hx with ⟨rfl, y⟩ | ⟨rfl, y⟩
    · exact br_f (by decide) (h1 y)
    · exact br_t rfl (nm_r (nI_1 a) (h0 y))
  | succ d ih =>
    intro q x e hx
    have hq : q < 4 := by omega
    have cq : (nI q).toNatClampNeg = q := nI_clamp (by omega)
    have vq : vp_in (nI q) 4 := vp_in_nI hq (by decide)
    refine br_f (nI_ge (b := 4) hq (by decide)) ⟨vq, ?_⟩
    try rw [cq]
    by_cases z : A q = 0
    · refine br_t z (nm_r (nI_1 q) (ih (q + 1) x (by omega) ?_))
      rw [qu_sk z]
      exact hx
    · refine br_f z ⟨vq, ?_⟩
      have g1 := qu_y3 a ha _ (ta_c3 hF q)
      have g2 := qu_y3 a ha _ (ta_c3 hS q)
      have hlt : qu_ix F S (qu_gy a) q < 36 := qu_lt hq g1 g2
      have ei : 9 * nI q + 3 * nI (qu_gy a (F q).toNatClampNeg) + nI (qu_gy a (S q).toNatClampNeg) = nI (qu_ix F S (qu_gy a) q) := by
        show nI 9 * nI q + nI 3 * nI _ + nI _ = _
        rw [pk_mul, pk_mul, nI_add, nI_add]
        rfl
      have ci : (nI (qu_ix F S (qu_gy a) q)).toNatClampNeg = qu_ix F S (qu_gy a) q := nI_clamp (by omega)
      obtain ⟨t1, t0⟩ := hT _ hlt
      refine vy_F _ hF q ha ?_
      refine ⟨vq, ?_⟩
      try rw [cq]
      refine vy_F _ hS q ha ?_
      rw [ei]
      refine ⟨vp_in_nI hlt (by decide), ?_⟩
      try rw [ci]
      by_cases y : qu_row L w (qu_ix F S (qu_gy a) q)
      · have n0 : ¬ T (qu_ix F S (qu_gy a) q) = 0 := by rw [t1 y]; decide
        refine br_f n0 (nm_r (nI_1 q) (ih (q + 1) x (by omega) ?_))
        rw [qu_st z]
        rcases hx with ⟨e1, h⟩ | ⟨e1, h⟩
        · exact Or.inl ⟨e1, h, y⟩
        · exact Or.inr ⟨e1, fun k => h k.1⟩
      · refine br_t (t0 y) (nm_r (nI_1 q) (ih (q + 1) 0 (by omega) ?_))
        rw [qu_st z]
        exact Or.inr ⟨rfl, fun k => y k.2⟩
theorem hy_l (hF : ta_3 F) (hS : ta_3 S) {w : Nat} (hT : ta_T L T w 36) (post : Int32 → Prop) (h1 : qu_H L A F S w → post 1) (h0 : ¬ qu_H L A F S w → post 0) : ∀ d a : Nat, a + d = 27 → (∀ b, b < a → ¬ qu_Q L A F S (qu_gy b) w 4) → wY_holds_2 post L W T A F S (d + 1) (nI a) := by
  have hh := qu_HY (L := L) (A := A) (F := F) (S := S) (w := w) (ta_c3 hF) (ta_c3 hS)
  intro d
  induction d with
  | zero =>
    intro a e hb
    obtain rfl : a = 27 := e
    exact br_t (nI_le (Nat.le_refl 27) (by decide)) (h0 (fun k => by
      obtain ⟨b, hb1, hb2⟩ := hh.mpr k
      exact hb b hb1 hb2))
  | succ d ih =>
    intro a e hb
    have ha : a < 27 := by omega
    refine br_f (nI_ge (b := 27) ha (by decide)) ⟨5, ?_⟩
    refine hy_i hF hS hT post _ ha (fun y => h1 (hh.mp ⟨a, ha, y⟩)) (fun y => ih (a + 1) (by omega) (fun b hb1 => ?_)) 4 0 1 rfl (Or.inl ⟨rfl, fun q hq => absurd hq (Nat.not_lt_zero q)⟩)
    by_cases e : b = a
    · subst e; exact y
    · exact hb b (by omega)
theorem hy_y (hF : ta_3 F) (hS : ta_3 S) {w : Nat} (hT : ta_T L T w 36) (post : Int32 → Prop) (h1 : qu_H L A F S w → post 1) (h0 : ¬ qu_H L A F S w → post 0) : wpY_holds post (L, W, T, A, F, S) :=
  ⟨28, hy_l hF hS hT post h1 h0 27 0 rfl (fun b hb => absurd hb (Nat.not_lt_zero b))⟩
/-- product -/
theorem py_l {w : Nat} (hT : ta_T L T w 36) (post : Int64 → Prop) (hp : post (pr_p L W w 36)) : ∀ d i : Nat, i + d = 36 → wY_product_4 post L W T A F S (d + 1) (pr_p L W w i) (nI i) := by
  intro d
  induction d with
  | zero =>
    intro i e
    obtain rfl : i = 36 := e
    exact br_t (nI_le (Nat.le_refl 36) (by decide)) hp
  | succ d ih =>
    intro i e
    have hi : i < 36 := by omega
    have ci : (nI i).toNatClampNeg = i := nI_clamp (by omega)
    have vi : vp_in (nI i) 36 := vp_in_nI hi (by decide)
    have q := ih (i + 1) (by omega)
    refine br_f (nI_ge (b := 36) hi (by decide)) ⟨vi, ?_⟩
    try rw [ci]
    by_cases z : L i = 0
    · rw [pr_z z] at q
      exact br_t z (nm_r (nI_1 i) q)
    · rw [pr_s z] at q
      refine br_f z ⟨vi, ?_⟩
      try rw [ci]
      obtain ⟨t1, t0⟩ := hT i hi
      by_cases y : w.testBit (ra_rk L i) = true
      · have f : pr_f W w (ra_rk L i) i = W i := if_pos y
        rw [f] at q
        have n0 : ¬ T i = 0 := by rw [t1 ⟨z, y⟩]; decide
        refine br_f n0 ⟨vi, ?_⟩
        try rw [ci]
        exact nm_e (nm_r (nI_1 i) q)
      · have f : pr_f W w (ra_rk L i) i = 10 - W i := if_neg y
        rw [f] at q
        refine br_t (t0 (fun k => y k.2)) ⟨vi, ?_⟩
        try rw [ci]
        exact nm_e (nm_r (nI_1 i) q)
theorem py_y {w : Nat} (hT : ta_T L T w 36) (post : Int64 → Prop) (hp : post (pr_p L W w 36)) : wpY_product post (L, W, T, A, F, S) := ⟨37, py_l hT post hp 36 0 rfl⟩
end
end
section
section
variable {L W A F S R B N T : Nat → Int32}
theorem ix_2 (p0 p1 p2 : Int32) : (∃ r : Nat, r < 36 ∧ (∀ post : Int32 → Prop, post (nI r) → wpX_rowIndex post p0 p1 p2) ∧ (∀ post : Int32 → Prop, post (nI r) → wpY_number post p0 p1 p2)) ∨ ((∀ post : Int32 → Prop, post (-1) → wpX_rowIndex post p0 p1 p2) ∧ (∀ post : Int32 → Prop, post (-1) → wpY_number post p0 p1 p2)) := by
  rcases ix_xy p0 p1 p2 with ⟨i, j, k, hi, hj, hk, rfl, rfl, rfl⟩ | h
  · exact Or.inl ⟨9 * i + 3 * j + k, by omega, fun post hp => ix_in post hi hj hk hp, fun post hp => iy_in post hi hj hk hp⟩
  · exact Or.inr h
theorem re_01 {r : Nat} {x : Int32} (h : ta_01 L) (hx : x = 0 ∨ x = 1) : ta_01 (upd L r x) := by
  intro j
  by_cases e : j = r
  · subst e; rw [pk_us]; exact hx
  · rw [pk_un e]; exact h j
theorem re_3 {r q : Nat} (h : ta_3 F) (hq : q < 3) : ta_3 (upd F r (nI q)) := by
  intro j
  by_cases e : j = r
  · subst e; exact ⟨q, hq, pk_us⟩
  · rw [pk_un e]; exact h j
theorem re_n1 {x : Int32} (h : x = 0 ∨ x = 1) (z : ¬ x = 0) : x = 1 := by
  rcases h with h | h
  · exact absurd h z
  · exact h
theorem re_up {r n : Nat} (z : L r = 0) (hr : r < n) : ra_rk (upd L r 1) n = ra_rk L n + 1 := by
  rw [ra_up (by decide) z, if_pos hr]
theorem re_dn {r n : Nat} (z : ¬ L r = 0) (hr : r < n) : ra_rk (upd L r 0) n + 1 = ra_rk L n := by
  have h := ra_dn z n
  rw [if_pos hr] at h
  exact h
theorem re_L1 {r : Nat} (G : re_G L A F S) (z : L r = 0) (h : ra_rk L 36 < 10) (hr : r < 36) : re_G (upd L r 1) A F S :=
  ⟨by rw [re_up z hr]; omega, re_01 G.2.1 (Or.inr rfl), G.2.2⟩
theorem re_L0 {r : Nat} (G : re_G L A F S) (z : ¬ L r = 0) (hr : r < 36) : re_G (upd L r 0) A F S :=
  ⟨by have h := re_dn z hr; have h2 := G.1; omega, re_01 G.2.1 (Or.inl rfl), G.2.2⟩
end
def i_Rel (_ : Nat) (u : SX) (v : SY) : Prop := ∃ (L W A F S R B N T : Nat → Int32), re_G L A F S ∧ u = (nI (ra_rk L 36), nI (ra_rk A 4), L, W, A, F, S, R, B, N) ∧ v = (L, W, T, A, F, S)
theorem i_up {k : Nat} {u : SX} {v : SY} (h : i_Rel k u v) : i_Rel (k + 5) u v := h
section
variable {L W A F S R B N T : Nat → Int32}
theorem re_i {k : Nat} (G : re_G L A F S) : i_Rel k (nI (ra_rk L 36), nI (ra_rk A 4), L, W, A, F, S, R, B, N) (L, W, T, A, F, S) := ⟨L, W, A, F, S, R, B, N, T, G, rfl, rfl⟩
theorem re_e {k : Nat} {l a : Int32} (G : re_G L A F S) (hl : l = nI (ra_rk L 36)) (ha : a = nI (ra_rk A 4)) : i_Rel k (l, a, L, W, A, F, S, R, B, N) (L, W, T, A, F, S) := by
  subst hl ha
  exact re_i G
end
theorem i_vc0 : wpX_init (fun u => wpY_init (fun v => i_Rel 0 u v)) := by
  have G : re_G (fun _ => 0) (fun _ => 0) (fun _ => 0) (fun _ => 0) := ⟨by rw [ra_zero]; decide, fun _ => Or.inl rfl, fun _ => Or.inl rfl, fun _ => ⟨0, by decide, rfl⟩, fun _ => ⟨0, by decide, rfl⟩⟩
  exact re_e (k := 0) G (by rw [ra_zero]; rfl) (by rw [ra_zero]; rfl)
theorem i_vc_row {k : Nat} {u : SX} {v : SY} (I : i_Rel k u v) (hk : k + 5 ≤ 2560) (v1 : Int32) (v2 : Int32) (v3 : Int32) (v4 : Int32) : wpX_row (fun r u' => wpY_row (fun r' v' => r' = r ∧ i_Rel (k + 5) u' v') v v1 v2 v3 v4) u v1 v2 v3 v4 := by
  obtain ⟨L, W, A, F, S, R, B, N, T, G, rfl, rfl⟩ := I
  have h10 := G.1
  unfold wpX_row wpY_row
  dsimp only
  rcases ix_2 v1 v2 v3 with ⟨r, hr, hX, hY⟩ | ⟨hX, hY⟩
  · have n0 : ¬ nI r < 0 := nI_pos (by omega)
    have vr : vp_in (nI r) 36 := vp_in_nI hr (by decide)
    have cr : (nI r).toNatClampNeg = r := nI_clamp (by omega)
    by_cases w0 : v4 < 0
    · exact hX _ (br_f n0 (br_t w0 (hY _ (br_f n0 (br_t w0 ⟨rfl, re_i G⟩)))))
    by_cases w1 : v4 ≤ 10
    · by_cases z : L r = 0
      · by_cases f : ra_rk L 36 < 10
        · -- a new row
          refine hX _ (br_f n0 (br_f w0 (br_t w1 ⟨vr, ?_⟩)))
          try rw [cr]
          refine br_t z (br_t (nI_lt (b := 10) f (by decide)) ⟨vr, nm_e (nm_r (nI_1 _) ?_)⟩)
          refine And.intro vr (nm_e ?_)
          refine hY _ (br_f n0 (br_f w0 (br_t w1 ⟨vr, ?_⟩)))
          try rw [cr]
          refine br_t z (ro_y _ (br_f ?_ ?_))
          · exact fun q => absurd ((nI_eq (b := 10) (by omega) (by decide)).mp q) (by omega)
          refine And.intro vr (nm_e ⟨vr, nm_e ?_⟩)
          rw [cr, ta_b1]
          refine ro_y _ ?_
          rw [re_up z hr]
          exact ⟨rfl, re_e (re_L1 G z f hr) (by rw [re_up z hr]) rfl⟩
        · -- full
          have f10 : ra_rk L 36 = 10 := by omega
          refine hX _ (br_f n0 (br_f w0 (br_t w1 ⟨vr, ?_⟩)))
          try rw [cr]
          refine br_t z (br_f (nI_nlt (b := 10) (by omega) (by omega)) ?_)
          refine hY _ (br_f n0 (br_f w0 (br_t w1 ⟨vr, ?_⟩)))
          try rw [cr]
          refine br_t z (ro_y _ (br_t (by rw [f10]; rfl) ⟨rfl, re_i G⟩))
      · -- listed already
        have e1 : L r = 1 := re_n1 (G.2.1 r) z
        refine hX _ (br_f n0 (br_f w0 (br_t w1 ⟨vr, ?_⟩)))
        try rw [cr]
        refine br_f z ?_
        refine And.intro vr (nm_e ?_)
        refine hY _ (br_f n0 (br_f w0 (br_t w1 ⟨vr, ?_⟩)))
        try rw [cr]
        refine br_f z ?_
        refine And.intro vr (nm_e ⟨vr, nm_e ?_⟩)
        rw [cr, ta_b1, ra_id e1]
        exact ro_y _ ⟨rfl, re_i G⟩
    · exact hX _ (br_f n0 (br_f w0 (br_f w1 (hY _ (br_f n0 (br_f w0 (br_f w1 ⟨rfl, re_i G⟩)))))))
  · exact hX _ (br_t (by decide) (hY _ (br_t (by decide) ⟨rfl, re_i G⟩)))
theorem i_vc_drop {k : Nat} {u : SX} {v : SY} (I : i_Rel k u v) (hk : k + 5 ≤ 2560) (v1 : Int32) (v2 : Int32) (v3 : Int32) : wpX_drop (fun r u' => wpY_drop (fun r' v' => r' = r ∧ i_Rel (k + 5) u' v') v v1 v2 v3) u v1 v2 v3 := by
  obtain ⟨L, W, A, F, S, R, B, N, T, G, rfl, rfl⟩ := I
  unfold wpX_drop wpY_drop
  dsimp only
  rcases ix_2 v1 v2 v3 with ⟨r, hr, hX, hY⟩ | ⟨hX, hY⟩
  · have n0 : ¬ nI r < 0 := nI_pos (by omega)
    have vr : vp_in (nI r) 36 := vp_in_nI hr (by decide)
    have cr : (nI r).toNatClampNeg = r := nI_clamp (by omega)
    refine hX _ (br_f n0 ⟨vr, ?_⟩)
    try rw [cr]
    by_cases z : L r = 0
    · refine br_t z (hY _ (br_f n0 ⟨vr, ?_⟩))
      try rw [cr]
      exact br_t z ⟨rfl, re_i G⟩
    · have e1 := re_dn (n := 36) z hr
      refine br_f z ⟨vr, nm_e (nm_r (show nI (ra_rk L 36) - 1 = nI (ra_rk (upd L r 0) 36) by rw [← e1]; exact nI_pred _) (hY _ (br_f n0 ⟨vr, ?_⟩)))⟩
      try rw [cr]
      refine br_f z ⟨vr, nm_e ?_⟩
      rw [ta_b0]
      exact ro_y _ ⟨rfl, re_i (re_L0 G z hr)⟩
  · exact hX _ (br_t (by decide) (hY _ (br_t (by decide) ⟨rfl, re_i G⟩)))
end
section
section
variable {lc ac : Int32} {L W A F S R B N T : Nat → Int32}
/-- atom: a wrong triple, the count of the asked -/
theorem an_no {p0 p1 p2 : Int32} (h : ¬ ∃ i j k : Nat, i < 4 ∧ j < 3 ∧ k < 3 ∧ p0 = nI i ∧ p1 = nI j ∧ p2 = nI k) (post : Int32 → SX → Prop) (hp : post (-1) (lc, ac, L, W, A, F, S, R, B, N)) : wpX_atom post (lc, ac, L, W, A, F, S, R, B, N) p0 p1 p2 := by
  by_cases h0 : ∃ j : Nat, j < 4 ∧ p0 = nI j
  · obtain ⟨i, hi, rfl⟩ := h0
    have a0 := nI_pos (n := i) (by omega)
    have a1 : ¬ 4 ≤ nI i := nI_ge (b := 4) hi (by decide)
    have ci : (nI i).toNatClampNeg = i := nI_clamp (by omega)
    refine br_f a0 (br_f a1 ⟨vp_in_nI hi (by decide), ?_⟩)
    try rw [ci]
    by_cases z : A i = 0
    · refine br_t z ?_
      by_cases h1 : ∃ j : Nat, j < 3 ∧ p1 = nI j
      · obtain ⟨j, hj, rfl⟩ := h1
        have b0 := nI_pos (n := j) (by omega)
        have b1 : ¬ 3 ≤ nI j := nI_ge (b := 3) hj (by decide)
        have h2 : ¬ ∃ j : Nat, j < 3 ∧ p2 = nI j := fun ⟨k, hk, e⟩ => h ⟨i, j, k, hi, hj, hk, rfl, rfl, e⟩
        rcases ix_no 3 (by decide) h2 with y | ⟨y, x⟩
        · exact br_f b0 (br_f b1 (br_t y hp))
        · exact br_f b0 (br_f b1 (br_f y (br_f (Int32.not_lt.mpr x) hp)))
      · rcases ix_no 3 (by decide) h1 with y | ⟨y, x⟩
        · exact br_t y hp
        · exact br_f y (br_t x hp)
    · exact br_f z hp
  · rcases ix_no 4 (by decide) h0 with y | ⟨y, x⟩
    · exact br_t y hp
    · exact br_f y (br_t x hp)
theorem an_l (post : Int32 → SY → Prop) (hp : post (nI (ra_rk A 4)) (L, W, T, A, F, S)) : ∀ d i : Nat, i + d = 4 → wY_atom_47 post L W T A F S (d + 1) (nI (ra_rk A i)) (nI i) := by
  intro d
  induction d with
  | zero =>
    intro i e
    obtain rfl : i = 4 := e
    exact br_t (nI_le (Nat.le_refl 4) (by decide)) hp
  | succ d ih =>
    intro i e
    have hi : i < 4 := by omega
    have ci : (nI i).toNatClampNeg = i := nI_clamp (by omega)
    refine br_f (nI_ge (b := 4) hi (by decide)) ⟨vp_in_nI hi (by decide), ?_⟩
    try rw [ci]
    have q := ih (i + 1) (by omega)
    by_cases z : A i = 0
    · rw [ra_z z] at q
      exact br_t z (nm_r (nI_1 i) q)
    · rw [ra_s z] at q
      exact br_f z (nm_r (nI_1 _) (nm_r (nI_1 i) q))
/-- clearQuery -/
theorem cq_l : ∀ (d i : Nat) (A : Nat → Int32), i + d = 4 → (∀ j, j < i → A j = 0) → ta_01 A → ∃ A' : Nat → Int32, (∀ j, j < 4 → A' j = 0) ∧ ta_01 A' ∧ (∀ post : SX → Prop, post (lc, 0, L, W, A', F, S, R, B, N) → wX_clearQuery_2 post lc ac (d + 1) (nI i) L W A F S R B N) ∧ (∀ post : SY → Prop, post (L, W, T, A', F, S) → wY_clearQuery_2 post (d + 1) (nI i) L W T A F S) := by
  intro d
  induction d with
  | zero =>
    intro i A e hA h01
    obtain rfl : i = 4 := e
    have h : nI 4 ≤ nI 4 := nI_le (Nat.le_refl 4) (by decide)
    exact ⟨A, hA, h01, fun post hp => br_t h hp, fun post hp => br_t h hp⟩
  | succ d ih =>
    intro i A e hA h01
    have hi : i < 4 := by omega
    have ci : (nI i).toNatClampNeg = i := nI_clamp (by omega)
    have vi : vp_in (nI i) 4 := vp_in_nI hi (by decide)
    have hn : ¬ nI 4 ≤ nI i := nI_ge hi (by decide)
    obtain ⟨A', h1, h2, hX, hY⟩ := ih (i + 1) (upd A i 0) (by omega) (fun j hj => by
      by_cases e : j = i
      · subst e; exact pk_us
      · rw [pk_un e]; exact hA j (by omega)) (re_01 h01 (Or.inl rfl))
    refine ⟨A', h1, h2, fun post hp => br_f hn ⟨vi, nm_e ?_⟩, fun post hp => br_f hn ⟨vi, nm_e ?_⟩⟩
    · rw [ci, ta_b0]
      exact nm_r (nI_1 i) (hX post hp)
    · rw [ci, ta_b0]
      exact nm_r (nI_1 i) (hY post hp)
theorem cq_0 {A : Nat → Int32} (h : ∀ j, j < 4 → A j = 0) : ra_rk A 4 = 0 := by
  rw [ra_z (h 3 (by decide)), ra_z (h 2 (by decide)), ra_z (h 1 (by decide)), ra_z (h 0 (by decide))]
  rfl
end
theorem i_vc_atom {k : Nat} {u : SX} {v : SY} (I : i_Rel k u v) (hk : k + 5 ≤ 2560) (v1 : Int32) (v2 : Int32) (v3 : Int32) : wpX_atom (fun r u' => wpY_atom (fun r' v' => r' = r ∧ i_Rel (k + 5) u' v') v v1 v2 v3) u v1 v2 v3 := by
  obtain ⟨L, W, A, F, S, R, B, N, T, G, rfl, rfl⟩ := I
  by_cases h : ∃ i j k : Nat, i < 4 ∧ j < 3 ∧ k < 3 ∧ v1 = nI i ∧ v2 = nI j ∧ v3 = nI k
  · obtain ⟨i, j, l, hi, hj, hl, rfl, rfl, rfl⟩ := h
    have ci : (nI i).toNatClampNeg = i := nI_clamp (by omega)
    have vi : vp_in (nI i) 4 := vp_in_nI hi (by decide)
    have n0 : ¬ nI (9 * i + 3 * j + l) < 0 := nI_pos (by omega)
    unfold wpX_atom wpY_atom
    dsimp only
    refine br_f (nI_pos (by omega)) (br_f (nI_ge (b := 4) hi (by decide)) ⟨vi, ?_⟩)
    try rw [ci]
    by_cases z : A i = 0
    · have e1 := re_up (n := 4) z hi
      refine br_t z (br_f (nI_pos (by omega)) (br_f (nI_ge (b := 3) hj (by decide)) (br_f (nI_pos (by omega)) (br_t (nI_lt (b := 3) hl (by decide)) ⟨vi, nm_e ⟨vi, nm_e ⟨vi, nm_e (nm_r (nI_1 _) ?_)⟩⟩⟩))))
      refine iy_in _ hi hj hl (br_f n0 ⟨vi, ?_⟩)
      try rw [ci]
      refine br_t z ⟨vi, nm_e ⟨vi, nm_e ⟨vi, nm_e ⟨5, ?_⟩⟩⟩⟩
      rw [ta_b1]
      refine an_l _ ?_ 4 0 rfl
      exact ⟨by rw [e1], re_e ⟨G.1, G.2.1, re_01 G.2.2.1 (Or.inr rfl), re_3 G.2.2.2.1 hj, re_3 G.2.2.2.2 hl⟩ rfl (by rw [e1])⟩
    · refine br_f z (iy_in _ hi hj hl (br_f n0 ⟨vi, ?_⟩))
      try rw [ci]
      exact br_f z ⟨rfl, re_i G⟩
  · refine an_no h _ ?_
    unfold wpY_atom
    dsimp only
    rcases ix_xy v1 v2 v3 with y | ⟨_, hY⟩
    · exact absurd y h
    · exact hY _ (br_t (by decide) ⟨rfl, re_i G⟩)
theorem i_vc_clearQuery {k : Nat} {u : SX} {v : SY} (I : i_Rel k u v) (hk : k + 5 ≤ 2560) : wpX_clearQuery (fun u' => wpY_clearQuery (fun v' => i_Rel (k + 5) u' v') v) u := by
  obtain ⟨L, W, A, F, S, R, B, N, T, G, rfl, rfl⟩ := I
  obtain ⟨A', h1, h2, hX, hY⟩ := cq_l (lc := nI (ra_rk L 36)) (ac := nI (ra_rk A 4)) (L := L) (W := W) (F := F) (S := S) (R := R) (B := B) (N := N) (T := T) 4 0 A rfl (fun j h => absurd h (Nat.not_lt_zero j)) G.2.2.1
  exact ⟨5, hX _ ⟨5, hY _ (re_e ⟨G.1, G.2.1, h2, G.2.2.2⟩ rfl (by rw [cq_0 h1]; rfl))⟩⟩
end
section
/-- nested: two sets of bits cross -/
def nd_b (p q : Int32) : Prop := ¬ p &&& q = 0 ∧ ¬ p &&& q = p ∧ ¬ p &&& q = q
theorem nd_s {p q : Int32} (h : nd_b p q) : nd_b q p := by
  unfold nd_b
  rw [Int32.and_comm q p]
  exact ⟨h.1, h.2.2, h.2.1⟩
theorem nd_i {p : Int32} : ¬ nd_b p p := fun h => h.2.1 Int32.and_self
theorem nd_c {p q : Int32} {X1 X2 X3 Z : Prop} (bad : nd_b p q → Z) (o1 : ¬ nd_b p q → X1) (o2 : ¬ nd_b p q → X2) (o3 : ¬ nd_b p q → X3) : (p &&& q = 0 → X1) ∧ (¬ p &&& q = 0 → ((p &&& q = p → X2) ∧ (¬ p &&& q = p → ((p &&& q = q → X3) ∧ (¬ p &&& q = q → Z))))) :=
  ⟨fun a => o1 (fun h => h.1 a), fun a => ⟨fun b => o2 (fun h => h.2.1 b), fun b => ⟨fun c => o3 (fun h => h.2.2 c), fun c => bad ⟨a, b, c⟩⟩⟩⟩
section
variable {lc ac : Int32} {L W A F S R B N T : Nat → Int32}
/-- atomsWith and atomsOf give one set -/
theorem nd_l (x : Int32) : ∀ (d i : Nat) (s : Int32), i + d = 4 → ∃ r : Int32, (∀ post : Int32 → Prop, post r → wX_atomsWith_4 post x lc ac L W A F S R B N (d + 1) s (nI i)) ∧ (∀ post : Int32 → Prop, post r → wY_atomsOf_4 post x L W T A F S (d + 1) s (nI i)) := by
  intro d
  induction d with
  | zero =>
    intro i s e
    obtain rfl : i = 4 := e
    have h : nI 4 ≤ nI 4 := nI_le (Nat.le_refl 4) (by decide)
    exact ⟨s, fun post hp => br_t h hp, fun post hp => br_t h hp⟩
  | succ d ih =>
    intro i s e
    have hi : i < 4 := by omega
    have ci : (nI i).toNatClampNeg = i := nI_clamp (by omega)
    have vi : vp_in (nI i) 4 := vp_in_nI hi (by decide)
    have hn : ¬ nI 4 ≤ nI i := nI_ge hi (by decide)
    by_cases zA : A i = 0
    · obtain ⟨r, hX, hY⟩ := ih (i + 1) s (by omega)
      refine ⟨r, fun post hp => br_f hn ⟨vi, ?_⟩, fun post hp => br_f hn ⟨vi, ?_⟩⟩
      · try rw [ci]
        by_cases f : F i = x
        · refine br_t f ?_
          refine And.intro vi ?_
          try rw [ci]
          exact br_t zA (nm_r (nI_1 i) (hX post hp))
        · refine br_f f ⟨vi, ?_⟩
          try rw [ci]
          by_cases g : S i = x
          · refine br_t g ?_
            refine And.intro vi ?_
            try rw [ci]
            exact br_t zA (nm_r (nI_1 i) (hX post hp))
          · refine br_f g ?_
            refine And.intro vi ?_
            try rw [ci]
            exact br_t zA (nm_r (nI_1 i) (hX post hp))
      · try rw [ci]
        exact br_t zA (nm_r (nI_1 i) (hY post hp))
    · by_cases f : F i = x
      · obtain ⟨r, hX, hY⟩ := ih (i + 1) (s ||| (1 <<< (nI i &&& 31))) (by omega)
        refine ⟨r, fun post hp => br_f hn ⟨vi, ?_⟩, fun post hp => br_f hn ⟨vi, ?_⟩⟩
        · try rw [ci]
          refine br_t f ?_
          refine And.intro vi ?_
          try rw [ci]
          exact br_f zA (br_f (by decide) (nm_e (nm_r (nI_1 i) (hX post hp))))
        · try rw [ci]
          refine br_f zA ⟨vi, ?_⟩
          try rw [ci]
          exact br_t f (nm_e (nm_r (nI_1 i) (hY post hp)))
      · by_cases g : S i = x
        · obtain ⟨r, hX, hY⟩ := ih (i + 1) (s ||| (1 <<< (nI i &&& 31))) (by omega)
          refine ⟨r, fun post hp => br_f hn ⟨vi, ?_⟩, fun post hp => br_f hn ⟨vi, ?_⟩⟩
          · try rw [ci]
            refine br_f f ⟨vi, ?_⟩
            try rw [ci]
            refine br_t g ?_
            refine And.intro vi ?_
            try rw [ci]
            exact br_f zA (br_f (by decide) (nm_e (nm_r (nI_1 i) (hX post hp))))
          · try rw [ci]
            refine br_f zA ⟨vi, ?_⟩
            try rw [ci]
            refine br_f f ⟨vi, ?_⟩
            try rw [ci]
            exact br_t g (nm_e (nm_r (nI_1 i) (hY post hp)))
        · obtain ⟨r, hX, hY⟩ := ih (i + 1) s (by omega)
          refine ⟨r, fun post hp => br_f hn ⟨vi, ?_⟩, fun post hp => br_f hn ⟨vi, ?_⟩⟩
          · try rw [ci]
            refine br_f f ⟨vi, ?_⟩
            try rw [ci]
            refine br_f g ?_
            refine And.intro vi ?_
            try rw [ci]
            exact br_f zA (br_t rfl (nm_r (nI_1 i) (hX post hp)))
          · try rw [ci]
            refine br_f zA ⟨vi, ?_⟩
            try rw [ci]
            refine br_f f ⟨vi, ?_⟩
            try rw [ci]
            exact br_f g (nm_r (nI_1 i) (hY post hp))
theorem nd_a (x : Int32) : ∃ r : Int32, (∀ post : Int32 → Prop, post r → wpX_atomsWith post (lc, ac, L, W, A, F, S, R, B, N) x) ∧ (∀ post : Int32 → Prop, post r → wpY_atomsOf post (L, W, T, A, F, S) x) := by
  obtain ⟨r, hX, hY⟩ := nd_l (lc := lc) (ac := ac) (L := L) (W := W) (A := A) (F := F) (S := S) (R := R) (B := B) (N := N) (T := T) x 4 0 0 rfl
  exact ⟨r, fun post hp => ⟨5, hX post hp⟩, fun post hp => ⟨5, hY post hp⟩⟩
/-- the pairs, of the class: y above x -/
theorem nd_xi {r : Nat → Int32} (hr : ∀ v, v < 3 → ∀ post : Int32 → Prop, post (r v) → wpX_atomsWith post (lc, ac, L, W, A, F, S, R, B, N) (nI v)) (post J : Int32 → Prop) {x : Nat} (h0 : ∀ y, x < y → y < 3 → nd_b (r x) (r y) → post 0) (hJ : (∀ y, x < y → y < 3 → ¬ nd_b (r x) (r y)) → J (nI (x + 1))) :
    ∀ d y : Nat, y + d = 3 → x < y → (∀ z, x < z → z < y → ¬ nd_b (r x) (r z)) → wX_nested_17 post J (nI x) (r x) lc ac L W A F S R B N (d + 1) (nI y) := by
  intro d
  induction d with
  | zero =>
    intro y e hx hz
    obtain rfl : y = 3 := e
    exact br_t (nI_le (Nat.le_refl 3) (by decide)) (nm_r (nI_1 x) (hJ hz))
  | succ d ih =>
    intro y e hx hz
    have hy : y < 3 := by omega
    have nx : ¬ nd_b (r x) (r y) → wX_nested_17 post J (nI x) (r x) lc ac L W A F S R B N (d + 1) (nI (y + 1)) := by
      intro n
      refine ih (y + 1) (by omega) (by omega) (fun z h1 h2 => ?_)
      by_cases e : z = y
      · subst e; exact n
      · exact hz z h1 (by omega)
    refine br_f (nI_ge (b := 3) hy (by decide)) ?_
    refine hr y hy _ ?_
    exact nm_e (nd_c (h0 y hx hy) (fun n => nm_r (nI_1 y) (nx n)) (fun n => nm_r (nI_1 y) (nx n)) (fun n => nm_r (nI_1 y) (nx n)))
theorem nd_xo {r : Nat → Int32} (hr : ∀ v, v < 3 → ∀ post : Int32 → Prop, post (r v) → wpX_atomsWith post (lc, ac, L, W, A, F, S, R, B, N) (nI v)) (post : Int32 → Prop) (h0 : ∀ x y, x < y → y < 3 → nd_b (r x) (r y) → post 0) (h1 : (∀ x y, x < y → y < 3 → ¬ nd_b (r x) (r y)) → post 1) :
    ∀ d x : Nat, x + d = 3 → (∀ z y, z < x → z < y → y < 3 → ¬ nd_b (r z) (r y)) → wX_nested_2 post lc ac L W A F S R B N (d + 1) (nI x) := by
  intro d
  induction d with
  | zero =>
    intro x e hz
    obtain rfl : x = 3 := e
    exact br_t (nI_le (Nat.le_refl 3) (by decide)) (h1 (fun x y a b => hz x y (by omega) a b))
  | succ d ih =>
    intro x e hz
    have hx : x < 3 := by omega
    refine br_f (nI_ge (b := 3) hx (by decide)) ?_
    refine hr x hx _ ?_
    refine nm_r (nI_1 x) ⟨2 - x + 1, ?_⟩
    refine nd_xi hr post _ (h0 x) (fun n => ih (x + 1) (by omega) (fun z y a b c => ?_)) (2 - x) (x + 1) (by omega) (by omega) (fun z a b => absurd b (by omega))
    by_cases e : z = x
    · subst e; exact n y b c
    · exact hz z y (by omega) b c
/-- the pairs, of the reference: all -/
theorem nd_yi {r : Nat → Int32} (hr : ∀ v, v < 3 → ∀ post : Int32 → Prop, post (r v) → wpY_atomsOf post (L, W, T, A, F, S) (nI v)) (post J : Int32 → Prop) {x : Nat} (hx : x < 3) (h0 : ∀ y, y < 3 → nd_b (r x) (r y) → post 0) (hJ : (∀ y, y < 3 → ¬ nd_b (r x) (r y)) → J (nI (x + 1))) :
    ∀ d y : Nat, y + d = 3 → (∀ z, z < y → ¬ nd_b (r x) (r z)) → wY_nested_9 post J (nI x) L W T A F S (d + 1) (nI y) := by
  intro d
  induction d with
  | zero =>
    intro y e hz
    obtain rfl : y = 3 := e
    exact br_t (nI_le (Nat.le_refl 3) (by decide)) (nm_r (nI_1 x) (hJ hz))
  | succ d ih =>
    intro y e hz
    have hy : y < 3 := by omega
    have nx : ¬ nd_b (r x) (r y) → wY_nested_9 post J (nI x) L W T A F S (d + 1) (nI (y + 1)) := by
      intro n
      refine ih (y + 1) (by omega) (fun z h1 => ?_)
      by_cases e : z = y
      · subst e; exact n
      · exact hz z (by omega)
    refine br_f (nI_ge (b := 3) hy (by decide)) ?_
    refine hr x hx _ ?_
    refine hr y hy _ ?_
    exact nm_e (nd_c (h0 y hy) (fun n => nm_r (nI_1 y) (nx n)) (fun n => nm_r (nI_1 y) (nx n)) (fun n => nm_r (nI_1 y) (nx n)))
theorem nd_yo {r : Nat → Int32} (hr : ∀ v, v < 3 → ∀ post : Int32 → Prop, post (r v) → wpY_atomsOf post (L, W, T, A, F, S) (nI v)) (post : Int32 → Prop) (h0 : ∀ x y, x < 3 → y < 3 → nd_b (r x) (r y) → post 0) (h1 : (∀ x y, x < 3 → y < 3 → ¬ nd_b (r x) (r y)) → post 1) :
    ∀ d x : Nat, x + d = 3 → (∀ z y, z < x → y < 3 → ¬ nd_b (r z) (r y)) → wY_nested_2 post L W T A F S (d + 1) (nI x) := by
  intro d
  induction d with
  | zero =>
    intro x e hz
    obtain rfl : x = 3 := e
    exact br_t (nI_le (Nat.le_refl 3) (by decide)) (h1 (fun x y a b => hz x y a b))
  | succ d ih =>
    intro x e hz
    have hx : x < 3 := by omega
    refine br_f (nI_ge (b := 3) hx (by decide)) ⟨4, ?_⟩
    refine nd_yi hr post _ hx (fun y => h0 x y hx) (fun n => ih (x + 1) (by omega) (fun z y a b => ?_)) 3 0 (by omega) (fun z a => absurd a (Nat.not_lt_zero z))
    by_cases e : z = x
    · subst e; exact n y b
    · exact hz z y (by omega) b
end
theorem i_vc_nested {k : Nat} {u : SX} {v : SY} (I : i_Rel k u v) (hk : k + 5 ≤ 2560) : wpX_nested (fun r => wpY_nested (fun r' => r' = r ∧ i_Rel (k + 5) u v) v) u := by
  have J := i_up I
  obtain ⟨L, W, A, F, S, R, B, N, T, G, rfl, rfl⟩ := I
  obtain ⟨r0, x0, y0⟩ := nd_a (lc := nI (ra_rk L 36)) (ac := nI (ra_rk A 4)) (L := L) (W := W) (A := A) (F := F) (S := S) (R := R) (B := B) (N := N) (T := T) (nI 0)
  obtain ⟨r1, x1, y1⟩ := nd_a (lc := nI (ra_rk L 36)) (ac := nI (ra_rk A 4)) (L := L) (W := W) (A := A) (F := F) (S := S) (R := R) (B := B) (N := N) (T := T) (nI 1)
  obtain ⟨r2, x2, y2⟩ := nd_a (lc := nI (ra_rk L 36)) (ac := nI (ra_rk A 4)) (L := L) (W := W) (A := A) (F := F) (S := S) (R := R) (B := B) (N := N) (T := T) (nI 2)
  have hX : ∀ v, v < 3 → ∀ post : Int32 → Prop, post ((fun v => if v = 0 then r0 else if v = 1 then r1 else r2) v) → wpX_atomsWith post (nI (ra_rk L 36), nI (ra_rk A 4), L, W, A, F, S, R, B, N) (nI v) := by
    intro v hv
    match v, hv with
    | 0, _ => exact x0
    | 1, _ => exact x1
    | 2, _ => exact x2
  have hY : ∀ v, v < 3 → ∀ post : Int32 → Prop, post ((fun v => if v = 0 then r0 else if v = 1 then r1 else r2) v) → wpY_atomsOf post (L, W, T, A, F, S) (nI v) := by
    intro v hv
    match v, hv with
    | 0, _ => exact y0
    | 1, _ => exact y1
    | 2, _ => exact y2
  revert hX hY
  generalize (fun v : Nat => if v = 0 then r0 else if v = 1 then r1 else r2) = r
  intro hX hY
  have hlt : (∃ x y, x < 3 ∧ y < 3 ∧ nd_b (r x) (r y)) → ∃ x y, x < y ∧ y < 3 ∧ nd_b (r x) (r y) := by
    intro ⟨x, y, a, b, c⟩
    rcases Nat.lt_trichotomy x y with h | h | h
    · exact ⟨x, y, h, b, c⟩
    · subst h; exact absurd c nd_i
    · exact ⟨y, x, h, a, nd_s c⟩
  refine ⟨4, nd_xo hX _ (fun x y a b c => ?_) (fun n => ?_) 3 0 rfl (fun z y a => absurd a (Nat.not_lt_zero z))⟩
  · exact ⟨4, nd_yo hY _ (fun _ _ _ _ _ => ⟨rfl, J⟩) (fun n => absurd c (n x y (by omega) b)) 3 0 rfl (fun z y a => absurd a (Nat.not_lt_zero z))⟩
  · refine ⟨4, nd_yo hY _ (fun x y a b c => ?_) (fun _ => ⟨rfl, J⟩) 3 0 rfl (fun z y a => absurd a (Nat.not_lt_zero z))⟩
    obtain ⟨x, y, d, e, f⟩ := hlt ⟨x, y, a, b, c⟩
    exact absurd f (n x y d e)
end
section
section
variable {ac : Int32} {L W A F S R B N T : Nat → Int32}
/-- the sums, in lockstep: P says which worlds the question takes -/
theorem sm_l {P : Nat → Prop} {M : Nat} (hM : M ≤ 1024) (G : re_G L A F S) (hR : ta_R L R 36) (hN : ta_N L A F S N 27) {mask pat rr pres : Int32} (hX : ∀ w, w < 1024 → (nI w &&& mask = pat ↔ P w))
    (hY : (rr < 0 ∧ ∀ w, P w) ∨ (¬ rr < 0 ∧ vp_in rr 36 ∧ ∀ w T, ta_T L T w 36 → (T rr.toNatClampNeg = pres ↔ P w))) :
    ∀ (d w : Nat) (s : Int64), w + d = M → ∃ s' : Int64, (∀ post : Int64 → Prop, post s' → wX_sumOfWeights_13 post mask pat (nI M) (nI (ra_rk L 36)) ac L W A F S R B N (d + 1) s (nI w)) ∧ (∀ post : Int64 → SY → Prop, (∀ T, post s' (L, W, T, A, F, S)) → ∀ T, wY_sum_13 post rr pres (nI M) (d + 1) s (nI w) L W T A F S) := by
  obtain ⟨h10, _, _, hF, hS⟩ := G
  intro d
  induction d with
  | zero =>
    intro w s e
    obtain rfl : w = M := e
    have h : nI w ≤ nI w := Int32.le_refl _
    exact ⟨s, fun post hp => br_t h hp, fun post hp T => br_t h (hp T)⟩
  | succ d ih =>
    intro w s e
    have hw : w < 1024 := by omega
    have h : ¬ nI M ≤ nI w := nI_ge (by omega) (by omega)
    have xw := hX w hw
    by_cases p : P w
    · by_cases q : qu_H L A F S w
      · obtain ⟨s', iX, iY⟩ := ih (w + 1) (s + pr_p L W w 36) (by omega)
        refine ⟨s', fun post hp => br_f h (br_t (xw.mpr p) ?_), fun post hp T => br_f h ?_⟩
        · refine hx_x hN _ (fun _ => br_f (by decide) ?_) (fun n => absurd q n)
          exact we_x h10 hR _ (by omega) (nm_e (nm_r (nI_1 w) (iX post hp)))
        · refine la_y h10 _ (by omega) (fun T hT => ?_)
          rcases hY with ⟨r0, _⟩ | ⟨r0, vr, ht⟩
          · refine br_t r0 ?_
            refine hy_y hF hS hT _ (fun _ => br_f (by decide) ?_) (fun n => absurd q n)
            exact py_y hT _ (nm_e (nm_r (nI_1 w) (iY post hp T)))
          · refine br_f r0 ⟨vr, br_t ((ht w T hT).mpr p) ?_⟩
            refine hy_y hF hS hT _ (fun _ => br_f (by decide) ?_) (fun n => absurd q n)
            exact py_y hT _ (nm_e (nm_r (nI_1 w) (iY post hp T)))
      · obtain ⟨s', iX, iY⟩ := ih (w + 1) s (by omega)
        refine ⟨s', fun post hp => br_f h (br_t (xw.mpr p) ?_), fun post hp T => br_f h ?_⟩
        · exact hx_x hN _ (fun n => absurd n q) (fun _ => br_t rfl (nm_r (nI_1 w) (iX post hp)))
        · refine la_y h10 _ (by omega) (fun T hT => ?_)
          rcases hY with ⟨r0, _⟩ | ⟨r0, vr, ht⟩
          · refine br_t r0 ?_
            exact hy_y hF hS hT _ (fun n => absurd n q) (fun _ => br_t rfl (nm_r (nI_1 w) (iY post hp T)))
          · refine br_f r0 ⟨vr, br_t ((ht w T hT).mpr p) ?_⟩
            exact hy_y hF hS hT _ (fun n => absurd n q) (fun _ => br_t rfl (nm_r (nI_1 w) (iY post hp T)))
    · obtain ⟨s', iX, iY⟩ := ih (w + 1) s (by omega)
      refine ⟨s', fun post hp => br_f h (br_f (fun z => p (xw.mp z)) (nm_r (nI_1 w) (iX post hp))), fun post hp T => br_f h ?_⟩
      refine la_y h10 _ (by omega) (fun T hT => ?_)
      rcases hY with ⟨_, a⟩ | ⟨r0, vr, ht⟩
      · exact absurd (a w) p
      · exact br_f r0 ⟨vr, br_f (fun z => p ((ht w T hT).mp z)) (nm_r (nI_1 w) (iY post hp T))⟩
theorem sm_x {P : Nat → Prop} (G : re_G L A F S) (hR : ta_R L R 36) (hN : ta_N L A F S N 27) {mask pat rr pres : Int32} (hX : ∀ w, w < 1024 → (nI w &&& mask = pat ↔ P w))
    (hY : (rr < 0 ∧ ∀ w, P w) ∨ (¬ rr < 0 ∧ vp_in rr 36 ∧ ∀ w T, ta_T L T w 36 → (T rr.toNatClampNeg = pres ↔ P w))) :
    ∃ s : Int64, (∀ post : Int64 → Prop, post s → wpX_sumOfWeights post (nI (ra_rk L 36), ac, L, W, A, F, S, R, B, N) mask pat) ∧ (∀ post : Int64 → SY → Prop, (∀ T, post s (L, W, T, A, F, S)) → ∀ T, wpY_sum post (L, W, T, A, F, S) rr pres) := by
  have h10 := G.1
  have hb := bi_shl (k := ra_rk L 36) (by omega)
  obtain ⟨s, sX, sY⟩ := sm_l (ac := ac) (W := W) (B := B) (bi_le h10) G hR hN hX hY (2 ^ ra_rk L 36) 0 0 (Nat.zero_add _)
  refine ⟨s, fun post hp => ?_, fun post hp T => ?_⟩
  · unfold wpX_sumOfWeights
    exact nm_r hb ⟨_, sX post hp⟩
  · unfold wpY_sum
    exact ro_y _ (nm_r hb ⟨_, sY post hp T⟩)
/-- a row that is not listed is in no world -/
theorem sm_0l {M : Nat} (hM : M ≤ 1024) (h10 : ra_rk L 36 ≤ 10) {r : Nat} (hr : r < 36) (z : L r = 0) (post : Int64 → SY → Prop) (s : Int64) (hp : ∀ T, post s (L, W, T, A, F, S)) :
    ∀ (d w : Nat) (T : Nat → Int32), w + d = M → wY_sum_13 post (nI r) 1 (nI M) (d + 1) s (nI w) L W T A F S := by
  intro d
  induction d with
  | zero =>
    intro w T e
    obtain rfl : w = M := e
    exact br_t (Int32.le_refl _) (hp T)
  | succ d ih =>
    intro w T e
    refine br_f (nI_ge (by omega) (by omega)) ?_
    refine la_y h10 _ (by omega) (fun T hT => ?_)
    refine br_f (nI_pos (by omega)) ⟨vp_in_nI hr (by decide), br_f ?_ (nm_r (nI_1 w) (ih (w + 1) T (by omega)))⟩
    rw [nI_clamp (by omega), (hT r hr).2 (fun y => y.1 z)]
    decide
theorem sm_0 (h10 : ra_rk L 36 ≤ 10) {r : Nat} (hr : r < 36) (z : L r = 0) (post : Int64 → SY → Prop) (hp : ∀ T, post 0 (L, W, T, A, F, S)) : wpY_sum post (L, W, T, A, F, S) (nI r) 1 := by
  unfold wpY_sum
  exact ro_y _ (nm_r (bi_shl (k := ra_rk L 36) (by omega)) ⟨_, sm_0l (bi_le h10) h10 hr z post 0 hp (2 ^ ra_rk L 36) 0 T (Nat.zero_add _)⟩)
/-- worlds, in lockstep -/
theorem wo_l {M : Nat} (hM : M ≤ 1024) (G : re_G L A F S) (hN : ta_N L A F S N 27) :
    ∀ (d w : Nat) (s : Int32), w + d = M → ∃ s' : Int32, (∀ post : Int32 → SX → Prop, post s' (nI (ra_rk L 36), ac, L, W, A, F, S, R, B, N) → wX_worlds_15 post (nI M) (nI (ra_rk L 36)) ac L W A F S R B N (d + 1) s (nI w)) ∧ (∀ post : Int32 → SY → Prop, (∀ T, post s' (L, W, T, A, F, S)) → ∀ T, wY_worlds_11 post (nI M) (d + 1) s (nI w) L W T A F S) := by
  obtain ⟨h10, _, _, hF, hS⟩ := G
  intro d
  induction d with
  | zero =>
    intro w s e
    obtain rfl : w = M := e
    have h : nI w ≤ nI w := Int32.le_refl _
    exact ⟨s, fun post hp => br_t h hp, fun post hp T => br_t h (hp T)⟩
  | succ d ih =>
    intro w s e
    have h : ¬ nI M ≤ nI w := nI_ge (by omega) (by omega)
    by_cases q : qu_H L A F S w
    · obtain ⟨s', iX, iY⟩ := ih (w + 1) (s + 1) (by omega)
      refine ⟨s', fun post hp => br_f h ?_, fun post hp T => br_f h ?_⟩
      · exact hx_x hN _ (fun _ => br_f (by decide) (nm_e (nm_r (nI_1 w) (iX post hp)))) (fun n => absurd q n)
      · refine la_y h10 _ (by omega) (fun T hT => ?_)
        exact hy_y hF hS hT _ (fun _ => br_f (by decide) (nm_e (nm_r (nI_1 w) (iY post hp T)))) (fun n => absurd q n)
    · obtain ⟨s', iX, iY⟩ := ih (w + 1) s (by omega)
      refine ⟨s', fun post hp => br_f h ?_, fun post hp T => br_f h ?_⟩
      · exact hx_x hN _ (fun n => absurd n q) (fun _ => br_t rfl (nm_r (nI_1 w) (iX post hp)))
      · refine la_y h10 _ (by omega) (fun T hT => ?_)
        exact hy_y hF hS hT _ (fun n => absurd n q) (fun _ => br_t rfl (nm_r (nI_1 w) (iY post hp T)))
/-- heaviest, in lockstep -/
theorem he_l {M : Nat} (hM : M ≤ 1024) (G : re_G L A F S) (hR : ta_R L R 36) (hN : ta_N L A F S N 27) :
    ∀ (d w : Nat) (b : Int32) (m : Int64), w + d = M → ∃ b' : Int32, (∀ post : Int32 → SX → Prop, post b' (nI (ra_rk L 36), ac, L, W, A, F, S, R, B, N) → wX_heaviest_21 post (nI M) (nI (ra_rk L 36)) ac L W A F S R B N (d + 1) b m (nI w)) ∧ (∀ post : Int32 → SY → Prop, (∀ T, post b' (L, W, T, A, F, S)) → ∀ T, wY_heaviest_17 post (nI M) (d + 1) b m (nI w) L W T A F S) := by
  obtain ⟨h10, _, _, hF, hS⟩ := G
  intro d
  induction d with
  | zero =>
    intro w b m e
    obtain rfl : w = M := e
    have h : nI w ≤ nI w := Int32.le_refl _
    exact ⟨b, fun post hp => br_t h hp, fun post hp T => br_t h (hp T)⟩
  | succ d ih =>
    intro w b m e
    have h : ¬ nI M ≤ nI w := nI_ge (by omega) (by omega)
    by_cases q : qu_H L A F S w
    · by_cases c : pr_p L W w 36 ≤ m
      · obtain ⟨s', iX, iY⟩ := ih (w + 1) b m (by omega)
        refine ⟨s', fun post hp => br_f h ?_, fun post hp T => br_f h ?_⟩
        · refine hx_x hN _ (fun _ => br_f (by decide) ?_) (fun n => absurd q n)
          exact we_x h10 hR _ (by omega) (br_t c (nm_r (nI_1 w) (iX post hp)))
        · refine la_y h10 _ (by omega) (fun T hT => ?_)
          refine hy_y hF hS hT _ (fun _ => br_f (by decide) ?_) (fun n => absurd q n)
          exact py_y hT _ (br_t c (nm_r (nI_1 w) (iY post hp T)))
      · obtain ⟨s', iX, iY⟩ := ih (w + 1) (nI w) (pr_p L W w 36) (by omega)
        refine ⟨s', fun post hp => br_f h ?_, fun post hp T => br_f h ?_⟩
        · refine hx_x hN _ (fun _ => br_f (by decide) ?_) (fun n => absurd q n)
          exact we_x h10 hR _ (by omega) (br_f c (nm_r (nI_1 w) (iX post hp)))
        · refine la_y h10 _ (by omega) (fun T hT => ?_)
          refine hy_y hF hS hT _ (fun _ => br_f (by decide) ?_) (fun n => absurd q n)
          exact py_y hT _ (br_f c (nm_r (nI_1 w) (iY post hp T)))
    · obtain ⟨s', iX, iY⟩ := ih (w + 1) b m (by omega)
      refine ⟨s', fun post hp => br_f h ?_, fun post hp T => br_f h ?_⟩
      · exact hx_x hN _ (fun n => absurd n q) (fun _ => br_t rfl (nm_r (nI_1 w) (iX post hp)))
      · refine la_y h10 _ (by omega) (fun T hT => ?_)
        exact hy_y hF hS hT _ (fun n => absurd n q) (fun _ => br_t rfl (nm_r (nI_1 w) (iY post hp T)))
end
end
section
theorem fi_z (w : Nat) : nI w &&& 0 = 0 := by
  show nI w &&& nI 0 = nI 0
  rw [nx_and, Nat.and_zero]
theorem fi_1 {w k : Nat} (hw : w < 1024) (hk : k < 10) : nI w &&& nI (2 ^ k) = nI (2 ^ k) ↔ w.testBit k = true := by
  have h := bi_lt hk
  have h2 : w &&& 2 ^ k ≤ 2 ^ k := Nat.and_le_right
  rw [nx_and, nI_eq (by omega) (by omega)]
  exact bi_one w k
theorem fi_0 {w k : Nat} (hw : w < 1024) (hk : k < 10) : nI w &&& nI (2 ^ k) = 0 ↔ ¬ w.testBit k = true := by
  have h := bi_lt hk
  have h2 : w &&& 2 ^ k ≤ 2 ^ k := Nat.and_le_right
  show _ = nI 0 ↔ _
  rw [nx_and, nI_eq (by omega) (by omega)]
  exact bi_zero w k
theorem i_vc_weight {k : Nat} {u : SX} {v : SY} (I : i_Rel k u v) (hk : k + 5 ≤ 2560) : wpX_weight (fun r u' => wpY_weight (fun r' v' => r' = r ∧ i_Rel (k + 5) u' v') v) u := by
  obtain ⟨L, W, A, F, S, R, B, N, T, G, rfl, rfl⟩ := I
  unfold wpX_weight wpY_weight
  dsimp only
  refine pp_x G _ (fun R B N hB hR hN => ?_)
  obtain ⟨s, hX, hY⟩ := sm_x (P := fun _ => True) (ac := nI (ra_rk A 4)) (W := W) (B := B) (mask := 0) (pat := 0) (rr := -1) (pres := 0) G hR hN (fun w _ => ⟨fun _ => trivial, fun _ => fi_z w⟩) (Or.inl ⟨by decide, fun _ => trivial⟩)
  refine hX _ ?_
  exact hY _ (fun T => ⟨rfl, re_i G⟩) T
theorem i_vc_weightWith {k : Nat} {u : SX} {v : SY} (I : i_Rel k u v) (hk : k + 5 ≤ 2560) (v1 : Int32) (v2 : Int32) (v3 : Int32) : wpX_weightWith (fun r u' => wpY_weightWith (fun r' v' => r' = r ∧ i_Rel (k + 5) u' v') v v1 v2 v3) u v1 v2 v3 := by
  obtain ⟨L, W, A, F, S, R, B, N, T, G, rfl, rfl⟩ := I
  have h10 := G.1
  unfold wpX_weightWith wpY_weightWith
  dsimp only
  refine pp_x G _ (fun R B N hB hR hN => ?_)
  rcases ix_xy v1 v2 v3 with ⟨i, j, l, hi, hj, hl, rfl, rfl, rfl⟩ | ⟨hX, hY⟩
  · have hr : 9 * i + 3 * j + l < 36 := by omega
    obtain ⟨b0, b1⟩ := hB _ hr
    have r0 : ¬ nI (9 * i + 3 * j + l) < 0 := nI_pos (by omega)
    have r1 : 0 ≤ nI (9 * i + 3 * j + l) := nI_pos' (by omega)
    have cr : (nI (9 * i + 3 * j + l)).toNatClampNeg = 9 * i + 3 * j + l := nI_clamp (by omega)
    refine bo_in _ hi hj hl ?_
    by_cases z : L (9 * i + 3 * j + l) = 0
    · refine br_t (b0 z) ?_
      refine iy_in _ hi hj hl (br_t r1 ?_)
      exact sm_0 h10 hr z _ (fun T => ⟨rfl, re_i G⟩)
    · have hk : ra_rk L (9 * i + 3 * j + l) < 10 := Nat.lt_of_lt_of_le (ra_lt L hr z) h10
      have hn : ¬ B (9 * i + 3 * j + l) = 0 := by
        rw [b1 z]
        exact nI_ne0 (Nat.two_pow_pos _) (Nat.lt_trans (bi_lt hk) (by decide))
      obtain ⟨s, hX, hY⟩ := sm_x (P := fun w => w.testBit (ra_rk L (9 * i + 3 * j + l)) = true) (ac := nI (ra_rk A 4)) (W := W) (B := B) (mask := B (9 * i + 3 * j + l)) (pat := B (9 * i + 3 * j + l)) (rr := nI (9 * i + 3 * j + l)) (pres := 1) G hR hN (fun w hw => by rw [b1 z]; exact fi_1 hw hk) (Or.inr ⟨r0, vp_in_nI hr (by decide), fun w T hT => by
        try rw [cr]
        obtain ⟨t1, t0⟩ := hT _ hr
        constructor
        · intro e
          by_cases y : w.testBit (ra_rk L (9 * i + 3 * j + l)) = true
          · exact y
          · rw [t0 (fun q => y q.2)] at e
            exact absurd e (by decide)
        · intro y
          exact t1 ⟨z, y⟩⟩)
      refine br_f hn (hX _ ?_)
      refine iy_in _ hi hj hl (br_t r1 ?_)
      exact hY _ (fun T => ⟨rfl, re_i G⟩) T
  · exact bo_no _ hX (br_t rfl (hY _ (br_f (by decide) ⟨rfl, re_i G⟩)))
theorem i_vc_weightWithout {k : Nat} {u : SX} {v : SY} (I : i_Rel k u v) (hk : k + 5 ≤ 2560) (v1 : Int32) (v2 : Int32) (v3 : Int32) : wpX_weightWithout (fun r u' => wpY_weightWithout (fun r' v' => r' = r ∧ i_Rel (k + 5) u' v') v v1 v2 v3) u v1 v2 v3 := by
  obtain ⟨L, W, A, F, S, R, B, N, T, G, rfl, rfl⟩ := I
  have h10 := G.1
  unfold wpX_weightWithout wpY_weightWithout
  dsimp only
  refine pp_x G _ (fun R B N hB hR hN => ?_)
  rcases ix_xy v1 v2 v3 with ⟨i, j, l, hi, hj, hl, rfl, rfl, rfl⟩ | ⟨hX, hY⟩
  · have hr : 9 * i + 3 * j + l < 36 := by omega
    obtain ⟨b0, b1⟩ := hB _ hr
    have r0 : ¬ nI (9 * i + 3 * j + l) < 0 := nI_pos (by omega)
    have cr : (nI (9 * i + 3 * j + l)).toNatClampNeg = 9 * i + 3 * j + l := nI_clamp (by omega)
    refine bo_in _ hi hj hl ?_
    by_cases z : L (9 * i + 3 * j + l) = 0
    · obtain ⟨s, hX, hY⟩ := sm_x (P := fun _ => True) (ac := nI (ra_rk A 4)) (W := W) (B := B) (mask := B (9 * i + 3 * j + l)) (pat := 0) (rr := nI (9 * i + 3 * j + l)) (pres := 0) G hR hN (fun w _ => ⟨fun _ => trivial, fun _ => by rw [b0 z]; exact fi_z w⟩) (Or.inr ⟨r0, vp_in_nI hr (by decide), fun w T hT => by
        try rw [cr]
        exact ⟨fun _ => trivial, fun _ => (hT _ hr).2 (fun y => y.1 z)⟩⟩)
      refine hX _ ?_
      refine iy_in _ hi hj hl ?_
      exact hY _ (fun T => ⟨rfl, re_i G⟩) T
    · have hk : ra_rk L (9 * i + 3 * j + l) < 10 := Nat.lt_of_lt_of_le (ra_lt L hr z) h10
      obtain ⟨s, hX, hY⟩ := sm_x (P := fun w => ¬ w.testBit (ra_rk L (9 * i + 3 * j + l)) = true) (ac := nI (ra_rk A 4)) (W := W) (B := B) (mask := B (9 * i + 3 * j + l)) (pat := 0) (rr := nI (9 * i + 3 * j + l)) (pres := 0) G hR hN (fun w hw => by rw [b1 z]; exact fi_0 hw hk) (Or.inr ⟨r0, vp_in_nI hr (by decide), fun w T hT => by
        try rw [cr]
        obtain ⟨t1, t0⟩ := hT _ hr
        constructor
        · intro e y
          rw [t1 ⟨z, y⟩] at e
          exact absurd e (by decide)
        · intro y
          exact t0 (fun q => y q.2)⟩)
      refine hX _ ?_
      refine iy_in _ hi hj hl ?_
      exact hY _ (fun T => ⟨rfl, re_i G⟩) T
  · refine bo_no _ hX ?_
    obtain ⟨s, sX, sY⟩ := sm_x (P := fun _ => True) (ac := nI (ra_rk A 4)) (W := W) (B := B) (mask := 0) (pat := 0) (rr := -1) (pres := 0) G hR hN (fun w _ => ⟨fun _ => trivial, fun _ => fi_z w⟩) (Or.inl ⟨by decide, fun _ => trivial⟩)
    refine sX _ ?_
    refine hY _ ?_
    exact sY _ (fun T => ⟨rfl, re_i G⟩) T
theorem i_vc_worlds {k : Nat} {u : SX} {v : SY} (I : i_Rel k u v) (hk : k + 5 ≤ 2560) : wpX_worlds (fun r u' => wpY_worlds (fun r' v' => r' = r ∧ i_Rel (k + 5) u' v') v) u := by
  obtain ⟨L, W, A, F, S, R, B, N, T, G, rfl, rfl⟩ := I
  have h10 := G.1
  have hb := bi_shl (k := ra_rk L 36) (by omega)
  unfold wpX_worlds wpY_worlds
  dsimp only
  refine pp_x G _ (fun R B N hB hR hN => ?_)
  obtain ⟨s, hX, hY⟩ := wo_l (ac := nI (ra_rk A 4)) (W := W) (R := R) (B := B) (bi_le h10) G hN (2 ^ ra_rk L 36) 0 0 (Nat.zero_add _)
  refine nm_r hb ⟨_, hX _ ?_⟩
  exact ro_y _ (nm_r hb ⟨_, hY _ (fun T => ⟨rfl, re_i G⟩) T⟩)
theorem i_vc_heaviest {k : Nat} {u : SX} {v : SY} (I : i_Rel k u v) (hk : k + 5 ≤ 2560) : wpX_heaviest (fun r u' => wpY_heaviest (fun r' v' => r' = r ∧ i_Rel (k + 5) u' v') v) u := by
  obtain ⟨L, W, A, F, S, R, B, N, T, G, rfl, rfl⟩ := I
  have h10 := G.1
  have hb := bi_shl (k := ra_rk L 36) (by omega)
  unfold wpX_heaviest wpY_heaviest
  dsimp only
  refine pp_x G _ (fun R B N hB hR hN => ?_)
  obtain ⟨s, hX, hY⟩ := he_l (ac := nI (ra_rk A 4)) (W := W) (B := B) (bi_le h10) G hR hN (2 ^ ra_rk L 36) 0 (-1) (-1) (Nat.zero_add _)
  refine nm_r hb ⟨_, hX _ ?_⟩
  exact ro_y _ (nm_r hb ⟨_, hY _ (fun T => ⟨rfl, re_i G⟩) T⟩)
end
