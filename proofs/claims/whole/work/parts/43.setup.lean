-- downward induction over a counter
theorem dn_ind {N : Nat} {P : Nat → Prop} (h0 : P N) (hs : ∀ i, i < N → P (i + 1) → P i) : ∀ i, i ≤ N → P i := by
  intro i hi
  have : ∀ m, ∀ i, i + m = N → P i := by
    intro m
    induction m with
    | zero => intro i h; rw [show i = N by omega]; exact h0
    | succ m ih => intro i h; exact hs i (by omega) (ih (i + 1) (by omega))
  exact this (N - i) i (by omega)
theorem z_of {v : Int32} (h : 0 ≤ v.toInt) : ∃ n, n < 2147483648 ∧ v = nI n ∧ v.toInt = (n : Int) := by
  obtain ⟨j, h1, h2⟩ := nI_of (x := v) (by rw [Int32.lt_iff_toInt_lt]; show ¬ v.toInt < 0; omega)
  exact ⟨j, h1, h2, by rw [h2]; exact z_ti h1⟩
theorem z_toN {n : Nat} (h : n < 2147483648) : (nI n).toInt.toNat = n := by rw [z_ti h]; omega
theorem z_0 : (0 : Int32) = nI 0 := rfl
theorem z_ltI (x y : Int32) : x < y ↔ x.toInt < y.toInt := Int32.lt_iff_toInt_lt
theorem z_leI (x y : Int32) : x ≤ y ↔ x.toInt ≤ y.toInt := Int32.le_iff_toInt_le
theorem z_eqI (x y : Int32) : x = y ↔ x.toInt = y.toInt := Int32.toInt_inj.symm
/-- what a Setup holds -/
def SR (c : Cf) (s : Nat) (σ : HS) : Prop := σ.1 s 4 = nI (c 0) ∧ σ.1 s 5 = nI (c 23) ∧ σ.1 s 6 = nI (c 21) ∧ σ.1 s 7 = nI (c 22) ∧ (∀ k, k < c 0 → σ.1 (s + 1) k = nI (hm c k)) ∧ (∀ k, k < c 0 → σ.1 (s + 2) k = nI (kl c k)) ∧ (∀ i, i < c 23 → σ.1 (s + 3) i = nI (ko c i)) ∧ (∀ m, m < 36 → σ.1 (s + 4) m = nI (c (30 + m)))
theorem SR.q_k {c : Cf} {s : Nat} {σ : HS} (h : SR c s σ) : σ.1 s 4 = nI (c 0) := h.1
theorem SR.q_n {c : Cf} {s : Nat} {σ : HS} (h : SR c s σ) : σ.1 s 5 = nI (c 23) := h.2.1
theorem SR.q_w {c : Cf} {s : Nat} {σ : HS} (h : SR c s σ) : σ.1 s 6 = nI (c 21) := h.2.2.1
theorem SR.q_r {c : Cf} {s : Nat} {σ : HS} (h : SR c s σ) : σ.1 s 7 = nI (c 22) := h.2.2.2.1
theorem SR.q_h {c : Cf} {s : Nat} {σ : HS} (h : SR c s σ) : ∀ k, k < c 0 → σ.1 (s + 1) k = nI (hm c k) := h.2.2.2.2.1
theorem SR.q_l {c : Cf} {s : Nat} {σ : HS} (h : SR c s σ) : ∀ k, k < c 0 → σ.1 (s + 2) k = nI (kl c k) := h.2.2.2.2.2.1
theorem SR.q_o {c : Cf} {s : Nat} {σ : HS} (h : SR c s σ) : ∀ i, i < c 23 → σ.1 (s + 3) i = nI (ko c i) := h.2.2.2.2.2.2.1
theorem SR.q_s {c : Cf} {s : Nat} {σ : HS} (h : SR c s σ) : ∀ m, m < 36 → σ.1 (s + 4) m = nI (c (30 + m)) := h.2.2.2.2.2.2.2
theorem SR.q_nd {c : Cf} {s : Nat} {σ : HS} (h : SR c s σ) : ∀ i j, i < 6 → j < 6 → σ.1 (s + 4) (i * 6 + j) = nI (nd c i j) := by
  intro i j hi hj
  rw [h.q_s _ (by omega)]
  congr 2
  omega
/-- the cells of a Setup -/
abbrev sc (s : Nat) : List Nat := [s, s + 1, s + 2, s + 3, s + 4]
theorem SR.fr {c : Cf} {s : Nat} {σ σ' : HS} {l : List Nat} (h : SR c s σ) (hf : fr l σ σ') (hl : ∀ o, o ∈ sc s → o ∉ l) : SR c s σ' := by
  have e0 := hf s (hl _ (by simp))
  have e1 := hf (s + 1) (hl _ (by simp))
  have e2 := hf (s + 2) (hl _ (by simp))
  have e3 := hf (s + 3) (hl _ (by simp))
  have e4 := hf (s + 4) (hl _ (by simp))
  unfold SR
  rw [e0, e1, e2, e3, e4]
  exact h
theorem c_pair (i j : Nat) (σ : HS) : f_X8_pair (nI i) (nI j) σ = some (nI (i * 6 + j), σ) := by
  rw [f_X8_pair]
  simp only [z_lit, z_mul, z_add]
theorem c_hasKind {c : Cf} {s : Nat} {σ : HS} (h : SR c s σ) (w : WF c) (v : Int32) : f_X6_hasKind s v σ = some (nI (b2 (decide (0 ≤ v.toInt ∧ v.toInt < c 0))), σ) := by
  have h1 := w.p_k
  rw [f_X6_hasKind, h.q_k]
  simp only [z_ltI, z_leI]
  rw [z_ti (by omega)]
  show (if v.toInt < 0 then _ else _) = _
  by_cases e1 : v.toInt < 0
  · have : ¬ (0 ≤ v.toInt ∧ v.toInt < c 0) := by omega
    simp [e1, b2, this]; rfl
  · by_cases e2 : (c 0 : Int) ≤ v.toInt
    · have : ¬ (0 ≤ v.toInt ∧ v.toInt < c 0) := by omega
      simp [e1, e2, b2, this]; rfl
    · have : (0 ≤ v.toInt ∧ v.toInt < c 0) := by omega
      simp [e1, e2, b2, this]; rfl
theorem c_hasInstruction {c : Cf} {s : Nat} {σ : HS} (h : SR c s σ) (w : WF c) (v : Int32) : f_X6_hasInstruction s v σ = some (nI (b2 (decide (0 ≤ v.toInt ∧ v.toInt < c 23))), σ) := by
  have h1 := w.p_n
  rw [f_X6_hasInstruction, h.q_n]
  simp only [z_ltI, z_leI]
  rw [z_ti (by omega)]
  show (if v.toInt < 0 then _ else _) = _
  by_cases e1 : v.toInt < 0
  · have : ¬ (0 ≤ v.toInt ∧ v.toInt < c 23) := by omega
    simp [e1, b2, this]; rfl
  · by_cases e2 : (c 23 : Int) ≤ v.toInt
    · have : ¬ (0 ≤ v.toInt ∧ v.toInt < c 23) := by omega
      simp [e1, e2, b2, this]; rfl
    · have : (0 ≤ v.toInt ∧ v.toInt < c 23) := by omega
      simp [e1, e2, b2, this]; rfl
theorem c_isHold (v : Int32) (σ : HS) : f_X6_isHold v σ = some (nI (b2 (decide (0 ≤ v.toInt ∧ v.toInt ≤ 15))), σ) := by
  rw [f_X6_isHold]
  simp only [z_ltI]
  show (if v.toInt < 0 then _ else if (15 : Int) < v.toInt then _ else _) = _
  by_cases e1 : v.toInt < 0
  · have : ¬ (0 ≤ v.toInt ∧ v.toInt ≤ 15) := by omega
    simp [e1, b2, this]; rfl
  · by_cases e2 : (15 : Int) < v.toInt
    · have : ¬ (0 ≤ v.toInt ∧ v.toInt ≤ 15) := by omega
      simp [e1, e2, b2, this]; rfl
    · have : (0 ≤ v.toInt ∧ v.toInt ≤ 15) := by omega
      simp [e1, e2, b2, this]; rfl
theorem c_delay {c : Cf} {s : Nat} {σ : HS} (h : SR c s σ) (w : WF c) {i j : Nat} (hi : i < c 23) (hj : j < c 23) : f_X6_delay s (nI i) (nI j) σ = some ((if ct c i j = 0 then -nI 1 else nI (if ct c i j = 1 then la c j else 0)), σ) := by
  have h1 := w.p_n
  have h2 := w.p_nd (show i < 6 by omega) (show j < 6 by omega)
  have h3 := w.p_rn
  have h4 := w.p_ko hj
  have h5 := w.p_k
  rw [f_X6_delay, c_pair]
  simp (disch := omega) only [z_bi, z_ld, h.q_nd, z_lit, z_eq, h.q_o, h.q_l, h.q_r, ct]
  by_cases e1 : nd c i j = 1
  · simp [e1, la]
  · by_cases e2 : nd c i j = 2
    · by_cases e3 : c 22 = 0
      · simp [e2, e3]
      · have : c 22 = 1 := by omega
        simp [e2, this]
    · have : nd c i j = 0 := by omega
      simp [this]
theorem c_instructionsOf {c : Cf} {s : Nat} {σ : HS} (h : SR c s σ) (w : WF c) {k : Nat} (hk : k < c 0) : f_X6_instructionsOf s (nI k) σ = some (nI (fb_ct (fun i => decide (ko c i = k)) (c 23)), σ) := by
  have h1 := w.p_n
  have h5 := w.p_k
  have key : ∀ i, i ≤ c 23 → ∀ n, c 23 < i + n → f_X6_instructionsOf_4 s n (nI k) (nI (fb_ct (fun i => decide (ko c i = k)) i)) (nI i) σ = some (nI (fb_ct (fun i => decide (ko c i = k)) (c 23)), σ) := by
    refine dn_ind ?_ ?_
    · intro n hn
      obtain ⟨n, rfl⟩ : ∃ m, n = m + 1 := ⟨n - 1, by omega⟩
      rw [f_X6_instructionsOf_4, h.q_n, if_pos (by rw [z_le (by omega) (by omega)]; omega)]
    · intro i hi ih n hn
      obtain ⟨n, rfl⟩ : ∃ m, n = m + 1 := ⟨n - 1, by omega⟩
      have h4 := w.p_ko hi
      rw [f_X6_instructionsOf_4, h.q_n, if_neg (by rw [z_le (by omega) (by omega)]; omega)]
      have ih := ih n (by omega)
      rw [fb_ct_succ] at ih
      simp (disch := omega) only [z_ld, z_bi, h.q_o, z_eq, z_lit, z_add]
      by_cases e : ko c i = k
      · simpa [e] using ih
      · simpa [e] using ih
  rw [f_X6_instructionsOf]
  have := key 0 (by omega) FU (by have := FU_b; omega)
  exact this
theorem c_needsOf {c : Cf} {s : Nat} {σ : HS} (h : SR c s σ) (w : WF c) {x so : Nat} (hx : x < c 23) (hso : so ≤ 2) : f_X6_needsOf s (nI x) (nI so) σ = some (nI (fb_ct (fun j => decide (nd c x j = so)) (c 23)), σ) := by
  have h1 := w.p_n
  have key : ∀ i, i ≤ c 23 → ∀ n, c 23 < i + n → f_X6_needsOf_5 s n (nI x) (nI so) (nI (fb_ct (fun j => decide (nd c x j = so)) i)) (nI i) σ = some (nI (fb_ct (fun j => decide (nd c x j = so)) (c 23)), σ) := by
    refine dn_ind ?_ ?_
    · intro n hn
      obtain ⟨n, rfl⟩ : ∃ m, n = m + 1 := ⟨n - 1, by omega⟩
      rw [f_X6_needsOf_5, h.q_n, if_pos (by rw [z_le (by omega) (by omega)]; omega)]
    · intro i hi ih n hn
      obtain ⟨n, rfl⟩ : ∃ m, n = m + 1 := ⟨n - 1, by omega⟩
      have h4 := w.p_nd (show x < 6 by omega) (show i < 6 by omega)
      rw [f_X6_needsOf_5, h.q_n, if_neg (by rw [z_le (by omega) (by omega)]; omega)]
      have ih := ih n (by omega)
      rw [fb_ct_succ] at ih
      rw [c_pair]
      simp (disch := omega) only [z_ld, z_bi, h.q_nd, z_eq, z_lit, z_add]
      by_cases e : nd c x i = so
      · simpa [e] using ih
      · simpa [e] using ih
  rw [f_X6_needsOf]
  have := key 0 (by omega) FU (by have := FU_b; omega)
  exact this
-- sets of instructions as bits
def nbF (p : Nat → Bool) : Nat → Nat
  | 0 => 0
  | n + 1 => nbF p n ||| (if p n then 1 <<< n else 0)
theorem nbF_bit (p : Nat → Bool) (n j : Nat) : (nbF p n).testBit j = (decide (j < n) && p j) := by
  induction n with
  | zero => simp [nbF]
  | succ n ih =>
    rw [nbF, Nat.testBit_or, ih]
    by_cases e : p n = true
    · simp only [e, if_true]
      rw [Nat.testBit_shiftLeft]
      by_cases h1 : j < n
      · simp [h1, show j < n + 1 by omega, show ¬ n ≤ j by omega]
      · by_cases h2 : j = n
        · subst h2; simp [e]
        · have : n ≤ j := by omega
          have h3 : ¬ j < n + 1 := by omega
          have h4 : Nat.testBit 1 (j - n) = false := by
            cases hh : Nat.testBit 1 (j - n) with
            | false => rfl
            | true => have := Nat.testBit_one_eq_true_iff_self_eq_zero.mp hh; omega
          simp [h1, h3, h4]
    · have e' : p n = false := by simpa using e
      simp only [e', Bool.false_eq_true, if_false, Nat.zero_testBit, Bool.or_false]
      by_cases h2 : j = n
      · subst h2; simp [e']
      · have : decide (j < n) = decide (j < n + 1) := by rw [decide_eq_decide]; omega
        rw [this]
theorem nbF_lt (p : Nat → Bool) (n : Nat) : nbF p n < 2 ^ n := by
  apply Nat.lt_pow_two_of_testBit
  intro i hi
  rw [nbF_bit]
  simp [show ¬ i < n by omega]
/-- whom i needs -/
def nb (c : Cf) (i : Nat) : Nat := nbF (fun j => decide (nd c i j ≠ 0)) (c 23)
/-- one round: i by i, whom those in the set need comes in -/
def rdF (c : Cf) (S : Nat) : Nat → Nat
  | 0 => S
  | i + 1 => if (rdF c S i).testBit i then rdF c S i ||| nb c i else rdF c S i
def rd (c : Cf) (S : Nat) : Nat := rdF c S (c 23)
def rdN (c : Cf) (S : Nat) : Nat → Nat
  | 0 => S
  | n + 1 => rd c (rdN c S n)
theorem rdF_lt {c : Cf} {S : Nat} (hS : S < 2 ^ c 23) (i : Nat) : rdF c S i < 2 ^ c 23 := by
  induction i with
  | zero => exact hS
  | succ i ih =>
    rw [rdF]
    split
    · exact Nat.or_lt_two_pow ih (nbF_lt _ _)
    · exact ih
theorem rd_lt {c : Cf} {S : Nat} (hS : S < 2 ^ c 23) : rd c S < 2 ^ c 23 := rdF_lt hS _
theorem rdN_lt {c : Cf} {S : Nat} (hS : S < 2 ^ c 23) (n : Nat) : rdN c S n < 2 ^ c 23 := by
  induction n with
  | zero => exact hS
  | succ n ih => exact rd_lt ih
theorem pw6 {n : Nat} (h : n ≤ 6) : 2 ^ n ≤ 64 := by
  have : 2 ^ n ≤ 2 ^ 6 := Nat.pow_le_pow_right (by omega) h
  omega
theorem c_neededBy {c : Cf} {s : Nat} {σ : HS} (h : SR c s σ) (w : WF c) {x : Nat} (hx : x < c 23) : f_X6_neededBy s (nI x) σ = some (nI (nb c x), σ) := by
  have h1 := w.p_n
  have key : ∀ i, i ≤ c 23 → ∀ n, c 23 < i + n → f_X6_neededBy_4 s n (nI x) (nI (nbF (fun j => decide (nd c x j ≠ 0)) i)) (nI i) σ = some (nI (nb c x), σ) := by
    refine dn_ind ?_ ?_
    · intro n hn
      obtain ⟨n, rfl⟩ : ∃ m, n = m + 1 := ⟨n - 1, by omega⟩
      rw [f_X6_neededBy_4, h.q_n, if_pos (by rw [z_le (by omega) (by omega)]; omega)]
      rfl
    · intro i hi ih n hn
      obtain ⟨n, rfl⟩ : ∃ m, n = m + 1 := ⟨n - 1, by omega⟩
      have h4 := w.p_nd (show x < 6 by omega) (show i < 6 by omega)
      rw [f_X6_neededBy_4, h.q_n, if_neg (by rw [z_le (by omega) (by omega)]; omega)]
      have ih := ih n (by omega)
      rw [nbF] at ih
      rw [c_pair]
      simp (disch := omega) only [z_ld, z_bi, h.q_nd, z_eq, z_lit, z_add, z_31, z_shl, z_or]
      by_cases e : nd c x i = 0
      · simpa [e] using ih
      · simpa [e] using ih
  rw [f_X6_neededBy]
  exact key 0 (by omega) FU (by have := FU_b; omega)
theorem bit_if (S i : Nat) (hS : S < 2147483648) (hi : i < 32) : ((nI S >>> (nI i &&& nI 31)) &&& nI 1 = nI 0) ↔ S.testBit i = false := by
  simp (disch := omega) only [z_31, z_shr]
  rw [z_and]
  have h2 : S >>> i &&& 1 = b2 (S.testBit i) := by
    rw [Nat.testBit, Nat.and_comm]
    generalize S >>> i = x
    have : 1 &&& x = x % 2 := by rw [Nat.and_comm, Nat.and_one_is_mod]
    rw [this]
    rcases Nat.mod_two_eq_zero_or_one x with e | e <;> rw [e] <;> rfl
  rw [h2]
  exact b2_0 _
theorem c_reaches {c : Cf} {s : Nat} {σ : HS} (h : SR c s σ) (w : WF c) {a g : Nat} (ha : a < c 23) (hg : g < c 23) : f_X6_reaches s (nI a) (nI g) σ = some (nI (b2 ((rdN c (1 <<< a) (c 23)).testBit g)), σ) := by
  have h1 := w.p_n
  have hp := pw6 h1
  have hin : ∀ (k : Int32 → Int32 → Int32 → HS → Option (Int32 × HS)) (S : Nat), S < 2 ^ c 23 → ∀ (y : Int32) i, i ≤ c 23 → ∀ n, c 23 < i + n → f_X6_reaches_19 s k n (nI g) (nI (rdF c S i)) y (nI i) σ = k (nI g) (nI (rd c S)) y σ := by
    intro k S hS y
    refine dn_ind ?_ ?_
    · intro n hn
      obtain ⟨n, rfl⟩ : ∃ m, n = m + 1 := ⟨n - 1, by omega⟩
      rw [f_X6_reaches_19, h.q_n, if_pos (by rw [z_le (by omega) (by omega)]; omega)]
      rfl
    · intro i hi ih n hn
      obtain ⟨n, rfl⟩ : ∃ m, n = m + 1 := ⟨n - 1, by omega⟩
      have ih := ih n (by omega)
      have hb := rdF_lt hS i
      rw [rdF] at ih
      rw [f_X6_reaches_19, h.q_n, if_neg (by rw [z_le (by omega) (by omega)]; omega)]
      rw [c_neededBy h w hi]
      simp only [z_lit, z_bi, bit_if _ i (show rdF c S i < 2147483648 by omega) (show i < 32 by omega), z_or, z_add]
      by_cases e : (rdF c S i).testBit i = true
      · simpa [e] using ih
      · have e' : (rdF c S i).testBit i = false := by simpa using e
        simpa [e'] using ih
  have hS : 1 <<< a < 2 ^ c 23 := by rw [Nat.one_shiftLeft]; exact Nat.pow_lt_pow_right (by omega) ha
  have key : ∀ i, i ≤ c 23 → ∀ n, c 23 < i + n → f_X6_reaches_7 s n (nI g) (nI (rdN c (1 <<< a) i)) (nI i) σ = some (nI (b2 ((rdN c (1 <<< a) (c 23)).testBit g)), σ) := by
    refine dn_ind ?_ ?_
    · intro n hn
      obtain ⟨n, rfl⟩ : ∃ m, n = m + 1 := ⟨n - 1, by omega⟩
      have hb := rdN_lt hS (c 23)
      rw [f_X6_reaches_7, h.q_n, if_pos (by rw [z_le (by omega) (by omega)]; omega)]
      simp only [z_lit, bit_if _ g (show rdN c (1 <<< a) (c 23) < 2147483648 by omega) (show g < 32 by omega)]
      cases (rdN c (1 <<< a) (c 23)).testBit g <;> rfl
    · intro i hi ih n hn
      obtain ⟨n, rfl⟩ : ∃ m, n = m + 1 := ⟨n - 1, by omega⟩
      rw [f_X6_reaches_7, h.q_n, if_neg (by rw [z_le (by omega) (by omega)]; omega)]
      have := hin (fun e2 e3 e4 σ5 => f_X6_reaches_7 s n e2 e3 (e4 + 1) σ5) (rdN c (1 <<< a) i) (rdN_lt hS i) (nI i) 0 (by omega) FU (by have := FU_b; omega)
      refine Eq.trans this ?_
      have ih := ih n (by omega)
      simp only [z_lit, z_add]
      exact ih
  rw [f_X6_reaches]
  simp (disch := omega) only [z_lit, z_31, z_shl]
  exact key 0 (by omega) FU (by have := FU_b; omega)
-- the rounds come to rest
theorem rdF_ge (c : Cf) (S : Nat) (i j : Nat) (h : S.testBit j = true) : (rdF c S i).testBit j = true := by
  induction i with
  | zero => exact h
  | succ i ih =>
    rw [rdF]
    split
    · rw [Nat.testBit_or, ih]; rfl
    · exact ih
theorem rdF_mono (c : Cf) (S : Nat) {i i' : Nat} (hi : i ≤ i') (j : Nat) (h : (rdF c S i).testBit j = true) : (rdF c S i').testBit j = true := by
  induction i' with
  | zero => rw [show i = 0 by omega] at h; exact h
  | succ i' ih =>
    by_cases e : i = i' + 1
    · rw [← e]; exact h
    · have := ih (by omega)
      rw [rdF]
      split
      · rw [Nat.testBit_or, this]; rfl
      · exact this
theorem ct_le (p : Nat → Bool) (n : Nat) : fb_ct p n ≤ n := by
  induction n with
  | zero => exact Nat.le_refl _
  | succ n ih => rw [fb_ct_succ]; split <;> omega
theorem ct_sub {p q : Nat → Bool} {n : Nat} (h : ∀ k, k < n → p k = true → q k = true) : fb_ct p n ≤ fb_ct q n := by
  induction n with
  | zero => exact Nat.le_refl _
  | succ n ih =>
    rw [fb_ct_succ, fb_ct_succ]
    have := ih (fun k hk => h k (by omega))
    have h2 := h n (by omega)
    cases hp : p n <;> cases hq : q n <;> simp_all <;> omega
theorem ct_ssub {p q : Nat → Bool} {n x : Nat} (h : ∀ k, k < n → p k = true → q k = true) (hx : x < n) (h1 : p x = false) (h2 : q x = true) : fb_ct p n < fb_ct q n := by
  induction n with
  | zero => omega
  | succ n ih =>
    rw [fb_ct_succ, fb_ct_succ]
    by_cases e : x = n
    · subst e
      have := ct_sub (p := p) (q := q) (n := x) (fun k hk => h k (by omega))
      simp [h1, h2]; omega
    · have := ih (fun k hk => h k (by omega)) (by omega)
      have h3 := h n (by omega)
      cases hp : p n <;> cases hq : q n <;> simp_all <;> omega
theorem rd_grow {c : Cf} {S : Nat} (hS : S < 2 ^ c 23) (hne : rd c S ≠ S) : fb_ct S.testBit (c 23) < fb_ct (rd c S).testBit (c 23) := by
  have : ∃ x, x < c 23 ∧ S.testBit x = false ∧ (rd c S).testBit x = true := by
    apply Classical.byContradiction
    intro hn
    apply hne
    apply Nat.eq_of_testBit_eq
    intro x
    by_cases hx : x < c 23
    · cases hs : S.testBit x with
      | true => exact rdF_ge c S _ x hs
      | false =>
        cases hr : (rd c S).testBit x with
        | false => rfl
        | true => exact absurd ⟨x, hx, hs, hr⟩ hn
    · have h1 : S.testBit x = false := Nat.testBit_lt_two_pow (Nat.lt_of_lt_of_le hS (Nat.pow_le_pow_right (by omega) (by omega)))
      have h2 : (rd c S).testBit x = false := Nat.testBit_lt_two_pow (Nat.lt_of_lt_of_le (rd_lt hS) (Nat.pow_le_pow_right (by omega) (by omega)))
      rw [h1, h2]
  obtain ⟨x, hx, h1, h2⟩ := this
  exact ct_ssub (fun k _ hk => rdF_ge c S _ k hk) hx h1 h2
theorem rdN_rest {c : Cf} {S : Nat} (hS : S < 2 ^ c 23) : rd c (rdN c S (c 23)) = rdN c S (c 23) := by
  have key : ∀ n, (rd c (rdN c S n) = rdN c S n) ∨ n + 1 ≤ fb_ct (rdN c S (n + 1)).testBit (c 23) := by
    intro n
    induction n with
    | zero =>
      by_cases e : rd c (rdN c S 0) = rdN c S 0
      · exact Or.inl e
      · right
        have := rd_grow (rdN_lt hS 0) e
        rw [show rdN c S (0 + 1) = rd c (rdN c S 0) from rfl]
        omega
    | succ n ih =>
      by_cases e : rd c (rdN c S (n + 1)) = rdN c S (n + 1)
      · exact Or.inl e
      · right
        have := rd_grow (rdN_lt hS (n + 1)) e
        rcases ih with ih | ih
        · exfalso; apply e
          rw [show rdN c S (n + 1) = rd c (rdN c S n) from rfl, ih, ih]
        · rw [show rdN c S (n + 1 + 1) = rd c (rdN c S (n + 1)) from rfl]
          omega
  rcases key (c 23) with h | h
  · exact h
  · have := ct_le (rdN c S (c 23 + 1)).testBit (c 23)
    omega
theorem rdN_more {c : Cf} {S : Nat} (hS : S < 2 ^ c 23) {n : Nat} (hn : c 23 ≤ n) : rdN c S n = rdN c S (c 23) := by
  induction n with
  | zero => rw [show c 23 = 0 by omega]
  | succ n ih =>
    by_cases e : c 23 = n + 1
    · rw [e]
    · rw [rdN, ih (by omega)]
      exact rdN_rest hS
theorem rd_closed {c : Cf} {S : Nat} (h : rd c S = S) {i j : Nat} (hi : i < c 23) (hj : j < c 23) (hb : S.testBit i = true) (hd : nd c i j ≠ 0) : S.testBit j = true := by
  have h1 : (rdF c S i).testBit i = true := rdF_ge c S i i hb
  have h2 : (rdF c S (i + 1)).testBit j = true := by
    rw [rdF, if_pos h1, Nat.testBit_or, nb, nbF_bit]
    simp [hj, hd]
  have h3 := rdF_mono c S (show i + 1 ≤ c 23 by omega) j h2
  have : rdF c S (c 23) = S := h
  rw [this] at h3
  exact h3
