theorem pk_us {f : Nat → Int32} {k : Nat} {x : Int32} : upd f k x k = x := if_pos rfl
theorem pk_un {f : Nat → Int32} {k j : Nat} {x : Int32} (h : j ≠ k) : upd f k x j = f j := if_neg h
theorem pk_sub {a b : Nat} (h : b ≤ a) : nI a - nI b = nI (a - b) := by
  obtain ⟨c, rfl⟩ : ∃ c, a = c + b := ⟨a - b, by omega⟩
  rw [← nI_add, Int32.add_sub_cancel, Nat.add_sub_cancel]
theorem pk_m1 (n : Nat) : nI (n + 1) + (-1) = nI n := by
  rw [← nI_1, Int32.add_assoc, show (1 : Int32) + (-1) = 0 from rfl, Int32.add_zero]
theorem pk_mul (a b : Nat) : nI a * nI b = nI (a * b) := (Int32.ofNat_mul a b).symm
theorem pk_div {a d : Nat} (ha : a < 2 ^ 31) (h0 : 0 < d) (hd : d < 2 ^ 31) : nI a / nI d = nI (a / d) := by
  apply Int32.toInt_inj.mp
  rw [lg_idiv_nonneg (by rw [nI_toInt ha]; omega) (by rw [nI_toInt hd]; omega), nI_toInt ha, nI_toInt hd, nI_toInt (Nat.lt_of_le_of_lt (Nat.div_le_self a d) ha)]
  first | rfl | exact (Int.natCast_ediv _ _).symm
theorem pk_rem {a d : Nat} (ha : a < 2 ^ 31) (h0 : 0 < d) (hd : d < 2 ^ 31) : nI a - nI a / nI d * nI d = nI (a % d) := by
  rw [pk_div ha h0 hd, pk_mul, pk_sub (Nat.div_mul_le_self a d)]
  exact congrArg nI (by have := Nat.div_add_mod' a d; omega)
theorem pk_ix (x : Int32) {n : Nat} (hn : n < 2 ^ 31) : x < 0 ∨ nI n ≤ x ∨ ∃ j : Nat, j < n ∧ x = nI j := by
  by_cases h : x < 0
  · exact Or.inl h
  · obtain ⟨j, hj, rfl⟩ := nI_of h
    by_cases h2 : j < n
    · exact Or.inr (Or.inr ⟨j, h2, rfl⟩)
    · exact Or.inr (Or.inl (nI_le (by omega) hj))
theorem pk_le {x y : Int32} {A B : Prop} (a b : Nat) (f : a ≤ b → A) (g : b < a → B) (hx : x = nI a := by rfl) (hy : y = nI b := by rfl) (ha : a < 2 ^ 31 := by omega) (hb : b < 2 ^ 31 := by omega) : (x ≤ y → A) ∧ (¬ x ≤ y → B) := by
  subst hx hy
  rw [nI_leI ha hb]
  exact ⟨f, fun z => g (by omega)⟩
theorem pk_lt {x y : Int32} {A B : Prop} (a b : Nat) (f : a < b → A) (g : b ≤ a → B) (hx : x = nI a := by rfl) (hy : y = nI b := by rfl) (ha : a < 2 ^ 31 := by omega) (hb : b < 2 ^ 31 := by omega) : (x < y → A) ∧ (¬ x < y → B) := by
  subst hx hy
  rw [nI_ltI ha hb]
  exact ⟨f, fun z => g (by omega)⟩
theorem pk_eq {x y : Int32} {A B : Prop} (a b : Nat) (f : a = b → A) (g : a ≠ b → B) (hx : x = nI a := by rfl) (hy : y = nI b := by rfl) (ha : a < 2 ^ 31 := by omega) (hb : b < 2 ^ 31 := by omega) : (x = y → A) ∧ (¬ x = y → B) := by
  subst hx hy
  rw [nI_eq ha hb]
  exact ⟨f, g⟩
theorem pk_in {x : Int32} (n N : Nat) (h : n < N) (hx : x = nI n := by rfl) (hN : N < 2 ^ 31 := by omega) : vp_in x N := by
  subst hx
  exact vp_in_nI h hN
theorem pk_cl {x : Int32} (n : Nat) (hx : x = nI n := by rfl) (h : n < 2 ^ 31 := by omega) : x.toNatClampNeg = n := by
  subst hx
  exact nI_clamp h
theorem pk_tn {n : Nat} (h : n < 2 ^ 32) : (nI n).toBitVec.toNat = n := Nat.mod_eq_of_lt h
theorem pk_and (x : Int32) {m : Int32} (k : Nat) (hm : m.toBitVec.toNat = 2 ^ k - 1) : x &&& m = nI (x.toBitVec.toNat % 2 ^ k) := by
  apply Int32.toBitVec_inj.mp
  apply BitVec.eq_of_toNat_eq
  rw [Int32.toBitVec_and, BitVec.toNat_and, hm, Nat.and_two_pow_sub_one_eq_mod]
  show _ = (BitVec.ofNat 32 _).toNat
  rw [BitVec.toNat_ofNat]
  exact (Nat.mod_eq_of_lt (Nat.lt_of_le_of_lt (Nat.mod_le _ _) x.toBitVec.isLt)).symm
theorem pk_andN {n : Nat} (h : n < 2 ^ 32) {m : Int32} (k : Nat) (hm : m.toBitVec.toNat = 2 ^ k - 1) : nI n &&& m = nI (n % 2 ^ k) := by
  rw [pk_and _ k hm, pk_tn h]
theorem pk_shl (a s : Int32) (k : Nat) (hs : (s.toBitVec.smod 32).toNat = k) : (a <<< s).toBitVec.toNat = a.toBitVec.toNat * 2 ^ k % 2 ^ 32 := by
  show (a.toBitVec <<< (s.toBitVec.smod 32).toNat).toNat = _
  rw [hs, BitVec.toNat_shiftLeft, Nat.shiftLeft_eq]
theorem pk_shlN {n : Nat} (s : Int32) (k : Nat) (hs : (s.toBitVec.smod 32).toNat = k) (h : n * 2 ^ k < 2 ^ 32) : nI n <<< s = nI (n * 2 ^ k) := by
  apply Int32.toBitVec_inj.mp
  apply BitVec.eq_of_toNat_eq
  have hn : n < 2 ^ 32 := Nat.lt_of_le_of_lt (Nat.le_mul_of_pos_right n (Nat.two_pow_pos k)) h
  rw [pk_shl _ _ k hs, pk_tn hn, pk_tn h, Nat.mod_eq_of_lt h]
theorem pk_shr (a s : Int32) (k : Nat) (hs : (s.toBitVec.smod 32).toNat = k) : (a >>> s).toInt = a.toInt >>> k := by
  show (a.toBitVec.sshiftRight (s.toBitVec.smod 32).toNat).toInt = _
  rw [hs, BitVec.toInt_sshiftRight]
  rfl
theorem pk_shrN {n : Nat} (h : n < 2 ^ 31) (s : Int32) (k : Nat) (hs : (s.toBitVec.smod 32).toNat = k) : nI n >>> s = nI (n / 2 ^ k) := by
  apply Int32.toInt_inj.mp
  have h2 : n / 2 ^ k ≤ n := Nat.div_le_self _ _
  rw [pk_shr _ _ k hs, nI_toInt h, nI_toInt (by omega), Int.shiftRight_eq_div_pow]
  rfl
theorem s_l : ∀ n, n < 32 → ((nI n &&& 31).toBitVec.smod 32).toNat = n := by decide +kernel
theorem nx_and (a b : Nat) : nI a &&& nI b = nI (a &&& b) := by
  apply Int32.toBitVec_inj.1
  show BitVec.ofNat 32 a &&& BitVec.ofNat 32 b = BitVec.ofNat 32 (a &&& b)
  apply BitVec.eq_of_getLsbD_eq
  intro i hi
  simp [hi]
/-- how many of the first n are not 0: the rank of n -/
def ra_rk (L : Nat → Int32) : Nat → Nat
  | 0 => 0
  | n + 1 => ra_rk L n + (if L n = 0 then 0 else 1)
theorem ra_z {L : Nat → Int32} {n : Nat} (h : L n = 0) : ra_rk L (n + 1) = ra_rk L n := by
  show ra_rk L n + (if L n = 0 then 0 else 1) = _
  rw [if_pos h] <;> rfl
theorem ra_s {L : Nat → Int32} {n : Nat} (h : L n ≠ 0) : ra_rk L (n + 1) = ra_rk L n + 1 := by
  show ra_rk L n + (if L n = 0 then 0 else 1) = _
  rw [if_neg h]
theorem ra_le (L : Nat → Int32) (n : Nat) : ra_rk L n ≤ n := by
  induction n with
  | zero => exact Nat.le_refl _
  | succ n ih =>
    by_cases h : L n = 0
    · rw [ra_z h]; omega
    · rw [ra_s h]; omega
theorem ra_mono (L : Nat → Int32) {m n : Nat} (h : m ≤ n) : ra_rk L m ≤ ra_rk L n := by
  induction h with
  | refl => exact Nat.le_refl _
  | step _ ih => exact Nat.le_trans ih (Nat.le_add_right _ _)
theorem ra_lt (L : Nat → Int32) {m n : Nat} (h : m < n) (z : L m ≠ 0) : ra_rk L m < ra_rk L n := by
  have q := ra_mono L (show m + 1 ≤ n from h)
  rw [ra_s z] at q
  omega
theorem ra_surj (L : Nat → Int32) : ∀ n k : Nat, k < ra_rk L n → ∃ r, r < n ∧ L r ≠ 0 ∧ ra_rk L r = k := by
  intro n
  induction n with
  | zero => intro k h; exact absurd h (Nat.not_lt_zero _)
  | succ n ih =>
    intro k h
    by_cases z : L n = 0
    · rw [ra_z z] at h
      obtain ⟨r, a, b, c⟩ := ih k h
      exact ⟨r, by omega, b, c⟩
    · rw [ra_s z] at h
      by_cases e : k = ra_rk L n
      · exact ⟨n, by omega, z, e.symm⟩
      · obtain ⟨r, a, b, c⟩ := ih k (by omega)
        exact ⟨r, by omega, b, c⟩
theorem ra_if {i n : Nat} (e : n ≠ i) : (if i < n + 1 then 1 else 0 : Nat) = if i < n then 1 else 0 := by
  by_cases t : i < n
  · rw [if_pos t, if_pos (by omega)]
  · rw [if_neg t, if_neg (by omega)]
theorem ra_up {L : Nat → Int32} {i : Nat} {x : Int32} (hx : x ≠ 0) (z : L i = 0) : ∀ n, ra_rk (upd L i x) n = ra_rk L n + (if i < n then 1 else 0) := by
  intro n
  induction n with
  | zero => rw [if_neg (Nat.not_lt_zero i)] <;> rfl
  | succ n ih =>
    by_cases e : n = i
    · subst e
      rw [ra_s (show upd L n x n ≠ 0 by rw [pk_us]; exact hx), ih, ra_z z, if_neg (Nat.lt_irrefl n), if_pos (Nat.lt_succ_self n)]
    · have q : upd L i x n = L n := pk_un e
      rw [ra_if e]
      by_cases y : L n = 0
      · rw [ra_z (q.trans y), ih, ra_z y]
      · rw [ra_s (show upd L i x n ≠ 0 by rw [q]; exact y), ih, ra_s y]; omega
theorem ra_dn {L : Nat → Int32} {i : Nat} (z : L i ≠ 0) : ∀ n, ra_rk (upd L i 0) n + (if i < n then 1 else 0) = ra_rk L n := by
  intro n
  induction n with
  | zero => rw [if_neg (Nat.not_lt_zero i)] <;> rfl
  | succ n ih =>
    by_cases e : n = i
    · subst e
      rw [if_neg (Nat.lt_irrefl n)] at ih
      rw [ra_z (show upd L n 0 n = 0 from pk_us), ra_s z, if_pos (Nat.lt_succ_self n), ← ih] <;> rfl
    · have q : upd L i 0 n = L n := pk_un e
      rw [ra_if e]
      by_cases y : L n = 0
      · rw [ra_z (q.trans y), ih, ra_z y]
      · rw [ra_s (show upd L i 0 n ≠ 0 by rw [q]; exact y), ra_s y, ← ih]; omega
theorem ra_zero : ∀ n, ra_rk (fun _ => 0) n = 0 := by
  intro n
  induction n with
  | zero => rfl
  | succ n ih => rw [ra_z rfl, ih]
theorem ra_id {L : Nat → Int32} {i : Nat} {x : Int32} (h : L i = x) : upd L i x = L := by
  funext j
  by_cases e : j = i
  · subst e; rw [pk_us, h]
  · exact pk_un e
/-- the factor of row r, the k-th listed one, in world w; the product over the listed rows below n -/
def pr_f (W : Nat → Int32) (w k r : Nat) : Int32 := if w.testBit k = true then W r else 10 - W r
def pr_p (L W : Nat → Int32) (w : Nat) : Nat → Int64
  | 0 => 1
  | n + 1 => if L n = 0 then pr_p L W w n else pr_p L W w n * (pr_f W w (ra_rk L n) n).toInt64
theorem pr_z {L W : Nat → Int32} {w n : Nat} (h : L n = 0) : pr_p L W w (n + 1) = pr_p L W w n := if_pos h
theorem pr_s {L W : Nat → Int32} {w n : Nat} (h : L n ≠ 0) : pr_p L W w (n + 1) = pr_p L W w n * (pr_f W w (ra_rk L n) n).toInt64 := if_neg h
theorem pr_le {L W : Nat → Int32} {w m n : Nat} (h : m ≤ n) : ra_rk L m = ra_rk L n → pr_p L W w m = pr_p L W w n := by
  induction h with
  | refl => intro _; rfl
  | @step n h ih =>
    intro e
    have a := ra_mono L h
    by_cases z : L n = 0
    · have e2 : ra_rk L m = ra_rk L n := e.trans (ra_z z)
      exact (ih e2).trans (pr_z z).symm
    · have e2 : ra_rk L m = ra_rk L n + 1 := e.trans (ra_s z)
      omega
theorem pr_eq {L W : Nat → Int32} {w m n : Nat} (e : ra_rk L m = ra_rk L n) : pr_p L W w m = pr_p L W w n := by
  rcases Nat.le_total m n with h | h
  · exact pr_le h e
  · exact (pr_le h e.symm).symm
/-- bits -/
theorem bi_sub (w m : Nat) : w &&& m = m ↔ ∀ i, m.testBit i = true → w.testBit i = true := by
  constructor
  · intro h i hi
    have q : (w &&& m).testBit i = true := by rw [h]; exact hi
    rw [Nat.testBit_and, hi, Bool.and_true] at q
    exact q
  · intro h
    apply Nat.eq_of_testBit_eq
    intro i
    rw [Nat.testBit_and]
    cases e : m.testBit i
    · exact Bool.and_false _
    · rw [h i e] <;> rfl
theorem bi_or (w m k : Nat) : w &&& (m ||| 2 ^ k) = m ||| 2 ^ k ↔ (w &&& m = m ∧ w.testBit k = true) := by
  rw [bi_sub, bi_sub]
  constructor
  · intro h
    exact ⟨fun i hi => h i (by rw [Nat.testBit_or, hi] <;> rfl), h k (by rw [Nat.testBit_or, Nat.testBit_two_pow_self, Bool.or_true])⟩
  · intro h i hi
    rw [Nat.testBit_or, Nat.testBit_two_pow] at hi
    by_cases e : k = i
    · subst e; exact h.2
    · rw [decide_eq_false e, Bool.or_false] at hi
      exact h.1 i hi
theorem bi_one (w k : Nat) : w &&& 2 ^ k = 2 ^ k ↔ w.testBit k = true := by
  rw [bi_sub]
  constructor
  · intro h; exact h k Nat.testBit_two_pow_self
  · intro h i hi
    rw [Nat.testBit_two_pow] at hi
    rw [← of_decide_eq_true hi]; exact h
theorem bi_zero (w k : Nat) : w &&& 2 ^ k = 0 ↔ ¬ w.testBit k = true := by
  constructor
  · intro h e
    have q := (bi_one w k).mpr e
    rw [h] at q
    exact absurd q (Nat.ne_of_lt (Nat.two_pow_pos k))
  · intro h
    apply Nat.eq_of_testBit_eq
    intro i
    rw [Nat.testBit_and, Nat.testBit_two_pow, Nat.zero_testBit]
    by_cases e : k = i
    · subst e
      rw [Bool.eq_false_iff.mpr h] <;> rfl
    · rw [decide_eq_false e, Bool.and_false]
theorem bi_t {w k : Nat} (hw : w < 2 ^ 31) (hk : k < 32) : (nI w >>> (nI k &&& 31) &&& 1 = 1) ↔ w.testBit k = true := by
  have hq : w / 2 ^ k < 2 ^ 32 := Nat.lt_of_le_of_lt (Nat.div_le_self w (2 ^ k)) (by omega)
  have hm : w / 2 ^ k % 2 ^ 1 < 2 ^ 31 := Nat.lt_trans (Nat.mod_lt _ (by decide)) (by decide)
  rw [pk_shrN hw _ k (s_l k hk), pk_andN (m := 1) hq 1 (by decide)]
  show nI (w / 2 ^ k % 2 ^ 1) = nI 1 ↔ _
  rw [nI_eq hm (by decide), Nat.testBit_eq_decide_div_mod_eq, decide_eq_true_eq]
  first | done | exact Iff.rfl
theorem bi_shl {k : Nat} (hk : k < 31) : (1 : Int32) <<< (nI k &&& 31) = nI (2 ^ k) := by
  have h := pk_shlN (n := 1) (nI k &&& 31) k (s_l k (by omega)) (by rw [Nat.one_mul]; exact Nat.pow_lt_pow_right (by decide) (by omega))
  rw [Nat.one_mul] at h
  exact h
theorem bi_lt {k : Nat} (hk : k < 10) : 2 ^ k < 1024 := Nat.pow_lt_pow_right (n := 10) (by decide) hk
theorem bi_le {k : Nat} (hk : k ≤ 10) : 2 ^ k ≤ 1024 := Nat.pow_le_pow_right (j := 10) (by decide) hk
theorem bi_orN (a b : Nat) : nI a ||| nI b = nI (a ||| b) := by
  apply Int32.toBitVec_inj.1
  show BitVec.ofNat 32 a ||| BitVec.ofNat 32 b = BitVec.ofNat 32 (a ||| b)
  apply BitVec.eq_of_getLsbD_eq
  intro i hi
  simp [hi]
/-- the query: the row that relation q's atom asks for under values g; row r there in world w; all atoms' rows there; some assignment -/
def qu_ix (F S : Nat → Int32) (g : Nat → Nat) (q : Nat) : Nat := 9 * q + 3 * g (F q).toNatClampNeg + g (S q).toNatClampNeg
def qu_row (L : Nat → Int32) (w r : Nat) : Prop := L r ≠ 0 ∧ w.testBit (ra_rk L r) = true
def qu_Q (L A F S : Nat → Int32) (g : Nat → Nat) (w n : Nat) : Prop := ∀ q, q < n → A q ≠ 0 → qu_row L w (qu_ix F S g q)
def qu_gx (a v : Nat) : Nat := a / 3 ^ v % 3
def qu_gy (a v : Nat) : Nat := if v = 0 then a / 9 else if v = 1 then a / 3 % 3 else a % 3
def qu_rev (a : Nat) : Nat := a % 3 * 9 + a / 3 % 3 * 3 + a / 9
theorem qu_gxy : ∀ a, a < 27 → ∀ v, v < 3 → qu_gy (qu_rev a) v = qu_gx a v := by decide +kernel
theorem qu_gyx : ∀ a, a < 27 → ∀ v, v < 3 → qu_gx (qu_rev a) v = qu_gy a v := by decide +kernel
theorem qu_rlt : ∀ a, a < 27 → qu_rev a < 27 := by decide +kernel
theorem qu_x3 : ∀ a, a < 27 → ∀ v, v < 3 → qu_gx a v < 3 := by decide +kernel
theorem qu_y3 : ∀ a, a < 27 → ∀ v, v < 3 → qu_gy a v < 3 := by decide +kernel
def qu_H (L A F S : Nat → Int32) (w : Nat) : Prop := ∃ a, a < 27 ∧ qu_Q L A F S (qu_gx a) w 4
theorem qu_c {L A F S : Nat → Int32} {g g' : Nat → Nat} {w n : Nat} (hF : ∀ q, (F q).toNatClampNeg < 3) (hS : ∀ q, (S q).toNatClampNeg < 3) (e : ∀ v, v < 3 → g v = g' v) (h : qu_Q L A F S g w n) : qu_Q L A F S g' w n := by
  intro q hq hA
  have z := h q hq hA
  unfold qu_ix at z
  rw [e _ (hF q), e _ (hS q)] at z
  exact z
theorem qu_HY {L A F S : Nat → Int32} {w : Nat} (hF : ∀ q, (F q).toNatClampNeg < 3) (hS : ∀ q, (S q).toNatClampNeg < 3) : (∃ a, a < 27 ∧ qu_Q L A F S (qu_gy a) w 4) ↔ qu_H L A F S w := by
  constructor
  · intro ⟨a, ha, h⟩
    exact ⟨qu_rev a, qu_rlt a ha, qu_c hF hS (fun v hv => (qu_gyx a ha v hv).symm) h⟩
  · intro h
    obtain ⟨a, ha, h⟩ := h
    exact ⟨qu_rev a, qu_rlt a ha, qu_c hF hS (fun v hv => (qu_gxy a ha v hv).symm) h⟩
/-- the need of an assignment, as the class keeps it: -1 where a row is not listed, else a set of bits -/
def qu_N (L A F S : Nat → Int32) (nd : Int32) (a : Nat) : Prop :=
  (nd = -1 ∧ ∀ w, ¬ qu_Q L A F S (qu_gx a) w 4) ∨ ∃ m, m < 1024 ∧ nd = nI m ∧ ∀ w, (w &&& m = m ↔ qu_Q L A F S (qu_gx a) w 4)
theorem qu_0 (L A F S : Nat → Int32) (g : Nat → Nat) (w : Nat) : w &&& 0 = 0 ↔ qu_Q L A F S g w 0 :=
  ⟨fun _ q hq => absurd hq (Nat.not_lt_zero q), fun _ => Nat.and_zero w⟩
theorem qu_sk {L A F S : Nat → Int32} {g : Nat → Nat} {w q : Nat} (z : A q = 0) : qu_Q L A F S g w (q + 1) ↔ qu_Q L A F S g w q := by
  constructor
  · intro h p hp
    exact h p (by omega)
  · intro h p hp hA
    by_cases e : p = q
    · subst e; exact absurd z hA
    · exact h p (by omega) hA
theorem qu_st {L A F S : Nat → Int32} {g : Nat → Nat} {w q : Nat} (z : A q ≠ 0) : qu_Q L A F S g w (q + 1) ↔ (qu_Q L A F S g w q ∧ qu_row L w (qu_ix F S g q)) := by
  constructor
  · intro h
    exact ⟨fun p hp => h p (by omega), h q (by omega) z⟩
  · intro h p hp hA
    by_cases e : p = q
    · subst e; exact h.2
    · exact h.1 p (by omega) hA
theorem qu_or {L A F S : Nat → Int32} {g : Nat → Nat} {m q : Nat} (z : A q ≠ 0) (l : L (qu_ix F S g q) ≠ 0) (h : ∀ w, (w &&& m = m ↔ qu_Q L A F S g w q)) : ∀ w, (w &&& (m ||| 2 ^ ra_rk L (qu_ix F S g q)) = m ||| 2 ^ ra_rk L (qu_ix F S g q) ↔ qu_Q L A F S g w (q + 1)) := by
  intro w
  rw [bi_or, h w, qu_st z]
  exact ⟨fun y => ⟨y.1, l, y.2⟩, fun y => ⟨y.1, y.2.2⟩⟩
theorem qu_no {L A F S : Nat → Int32} {g : Nat → Nat} {q : Nat} (hq : q < 4) (z : A q ≠ 0) (l : L (qu_ix F S g q) = 0) : ∀ w, ¬ qu_Q L A F S g w 4 := fun w h => (h q hq z).1 l
theorem qu_lt {F S : Nat → Int32} {g : Nat → Nat} {q : Nat} (hq : q < 4) (h1 : g (F q).toNatClampNeg < 3) (h2 : g (S q).toNatClampNeg < 3) : qu_ix F S g q < 36 := by
  unfold qu_ix
  omega
