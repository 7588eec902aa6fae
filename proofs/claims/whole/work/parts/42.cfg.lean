-- configurations: the 66 numbers of the reference's row 'now'
abbrev Cf : Type := Nat → Nat
def ka (c : Cf) (k u : Nat) : Nat := c (1 + 4 * k + u)
def kl (c : Cf) (k : Nat) : Nat := c (1 + 4 * k + 3)
def ko (c : Cf) (i : Nat) : Nat := c (24 + i)
def nd (c : Cf) (i j : Nat) : Nat := c (30 + 6 * i + j)
def hu (c : Cf) (i u : Nat) : Nat := ka c (ko c i) u
def la (c : Cf) (i : Nat) : Nat := kl c (ko c i)
def ct (c : Cf) (i j : Nat) : Nat := if nd c i j = 2 ∧ c 22 = 1 then 0 else nd c i j
def hm (c : Cf) (k : Nat) : Nat := (ka c k 0 ||| ka c k 1 <<< 4) ||| ka c k 2 <<< 8
def WF (c : Cf) : Prop := c 0 ≤ 5 ∧ (∀ k, k < c 0 → ∀ u, u < 3 → ka c k u < 16) ∧ (∀ k, k < c 0 → 1 ≤ kl c k ∧ kl c k ≤ 5) ∧ (1 ≤ c 21 ∧ c 21 ≤ 3) ∧ c 22 ≤ 1 ∧ c 23 ≤ 6 ∧ (∀ i, i < c 23 → ko c i < c 0) ∧ (∀ i j, i < 6 → j < 6 → nd c i j ≤ 2) ∧ (∀ i j, i < 6 → j < 6 → (c 23 ≤ i ∨ c 23 ≤ j ∨ i = j) → nd c i j = 0) ∧ (∃ r : Nat → Nat, ∀ i j, i < 6 → j < 6 → nd c i j ≠ 0 → r j < r i) ∧ ∀ k, c k < 100
theorem WF.p_k {c : Cf} (w : WF c) : c 0 ≤ 5 := w.1
theorem WF.p_ka {c : Cf} (w : WF c) {k u : Nat} (h : k < c 0) (hu : u < 3) : ka c k u < 16 := w.2.1 k h u hu
theorem WF.p_kl {c : Cf} (w : WF c) {k : Nat} (h : k < c 0) : 1 ≤ kl c k ∧ kl c k ≤ 5 := w.2.2.1 k h
theorem WF.p_wd {c : Cf} (w : WF c) : 1 ≤ c 21 ∧ c 21 ≤ 3 := w.2.2.2.1
theorem WF.p_rn {c : Cf} (w : WF c) : c 22 ≤ 1 := w.2.2.2.2.1
theorem WF.p_n {c : Cf} (w : WF c) : c 23 ≤ 6 := w.2.2.2.2.2.1
theorem WF.p_ko {c : Cf} (w : WF c) {i : Nat} (h : i < c 23) : ko c i < c 0 := w.2.2.2.2.2.2.1 i h
theorem WF.p_nd {c : Cf} (w : WF c) {i j : Nat} (h : i < 6) (h' : j < 6) : nd c i j ≤ 2 := w.2.2.2.2.2.2.2.1 i j h h'
theorem WF.p_nz {c : Cf} (w : WF c) {i j : Nat} (h : i < 6) (h' : j < 6) (z : c 23 ≤ i ∨ c 23 ≤ j ∨ i = j) : nd c i j = 0 := w.2.2.2.2.2.2.2.2.1 i j h h' z
theorem WF.p_rk {c : Cf} (w : WF c) : ∃ r : Nat → Nat, ∀ i j, i < 6 → j < 6 → nd c i j ≠ 0 → r j < r i := w.2.2.2.2.2.2.2.2.2.1
theorem WF.p_sm {c : Cf} (w : WF c) (k : Nat) : c k < 100 := w.2.2.2.2.2.2.2.2.2.2 k
theorem WF.p_hu {c : Cf} (w : WF c) {i u : Nat} (h : i < c 23) (hu' : u < 3) : hu c i u < 16 := w.p_ka (w.p_ko h) hu'
theorem WF.p_la {c : Cf} (w : WF c) {i : Nat} (h : i < c 23) : 1 ≤ la c i ∧ la c i ≤ 5 := w.p_kl (w.p_ko h)
theorem WF.p_ct {c : Cf} (w : WF c) {i j : Nat} (h : i < 6) (h' : j < 6) : ct c i j ≤ 2 := by
  have := w.p_nd h h'
  unfold ct
  split <;> omega
abbrev MR (c : Cf) (σ : HS) : Prop := ∀ k, k < 66 → σ.1 68 k = nI (c k)
def b2 (p : Bool) : Nat := if p then 1 else 0
theorem z_bzb (p : Bool) : bzI (nI (b2 p)) = some (nI (b2 p)) := by cases p <;> rfl
theorem b2_lt (p : Bool) : b2 p < 2 := by cases p <;> decide
theorem b2_0 (p : Bool) : (nI (b2 p) = nI 0) ↔ p = false := by cases p <;> simp [b2] <;> decide
theorem b2_1 (p : Bool) : (nI (b2 p) = nI 1) ↔ p = true := by cases p <;> simp [b2] <;> decide
theorem b2_le (p : Bool) : b2 p = 0 ∨ b2 p = 1 := by cases p <;> simp [b2]
theorem FU_s (k : Nat) (h : k ≤ 1000000000) : FU = (FU - k) + k := by
  have : FU = 1000000000000000 := rfl
  omega
theorem FU_b : 1000000000000000 ≤ FU := Nat.le_refl _
-- the reference's small methods
theorem m_in (v a b : Int32) (σ : HS) : f_X9_in v a b σ = some (nI (b2 (decide (a ≤ v ∧ v ≤ b))), σ) := by
  rw [f_X9_in]
  by_cases h1 : v < a
  · have : ¬ a ≤ v := fun h => absurd h1 (Int32.not_lt.mpr h)
    simp [h1, this, b2]; rfl
  · have h1' : a ≤ v := Int32.not_lt.mp h1
    by_cases h2 : b < v
    · have : ¬ v ≤ b := fun h => absurd h2 (Int32.not_lt.mpr h)
      simp [h1, h2, this, b2]; rfl
    · have h2' : v ≤ b := Int32.not_lt.mp h2
      simp [h1, h2, h1', h2', b2]; rfl
theorem m_has (S i : Nat) (hS : S < 2147483648) (hi : i < 32) (σ : HS) : f_X9_has (nI S) (nI i) σ = some (nI (b2 (S.testBit i)), σ) := by
  rw [f_X9_has]
  simp (disch := omega) only [z_lit, z_31, z_shr]
  simp only [z_and]
  have h2 : S >>> i &&& 1 = b2 (S.testBit i) := by
    rw [Nat.testBit, Nat.and_comm]
    generalize S >>> i = x
    have : 1 &&& x = x % 2 := by rw [Nat.and_comm, Nat.and_one_is_mod]
    rw [this]
    rcases Nat.mod_two_eq_zero_or_one x with e | e <;> rw [e] <;> rfl
  rw [h2]
  rcases b2_le (S.testBit i) with e | e <;> rw [e] <;> rfl
theorem m_ofKind {c : Cf} {σ : HS} (h : MR c σ) {k u : Nat} (hk : k < 5) (hu : u < 4) : f_X9_ofKind (nI k) (nI u) σ = some (nI (c (1 + 4 * k + u)), σ) := by
  rw [f_X9_ofKind]
  simp (disch := omega) only [z_lit, z_mul, z_add, z_ld, z_bi, h]
theorem m_ofOne {c : Cf} {σ : HS} (h : MR c σ) (w : WF c) {i u : Nat} (hi : i < c 23) (hu : u < 4) : f_X9_ofOne (nI i) (nI u) σ = some (nI (c (1 + 4 * ko c i + u)), σ) := by
  have h1 := w.p_n
  have h2 := w.p_ko hi
  have h3 := w.p_k
  rw [f_X9_ofOne]
  simp (disch := omega) only [z_lit, z_add, z_ld, z_bi, h]
  rw [show c (24 + i) = ko c i from rfl, m_ofKind h (by omega) hu]
  rfl
theorem m_latency {c : Cf} {σ : HS} (h : MR c σ) (w : WF c) {i : Nat} (hi : i < c 23) : f_X9_latency (nI i) σ = some (nI (la c i), σ) := by
  rw [f_X9_latency]
  simp only [z_lit]
  rw [m_ofOne h w hi (by omega)]
  rfl
theorem m_needOf {c : Cf} {σ : HS} (h : MR c σ) {i j : Nat} (hi : i < 6) (hj : j < 6) : f_X9_needOf (nI i) (nI j) σ = some (nI (nd c i j), σ) := by
  rw [f_X9_needOf]
  simp (disch := omega) only [z_lit, z_mul, z_add, z_ld, z_bi, h]
  rfl
theorem m_counts {c : Cf} {σ : HS} (h : MR c σ) (w : WF c) {i j : Nat} (hi : i < 6) (hj : j < 6) : f_X9_counts (nI i) (nI j) σ = some (nI (ct c i j), σ) := by
  have h1 := w.p_nd hi hj
  have h2 := w.p_rn
  rw [f_X9_counts, m_needOf h hi hj]
  simp (disch := omega) only [z_lit, z_ld, z_bi, h, z_eq, ct]
  by_cases e1 : nd c i j = 2 <;> by_cases e2 : c 22 = 1 <;> simp [e1, e2]
theorem m_isKind {c : Cf} {σ : HS} (h : MR c σ) (w : WF c) (v : Int32) : f_X9_isKind v σ = some (nI (b2 (decide (0 ≤ v.toInt ∧ v.toInt < c 0))), σ) := by
  have h1 := w.p_k
  rw [f_X9_isKind]
  simp (disch := omega) only [z_lit, z_ld, z_bi, h, m_in, z_bzb]
  congr 4
  rw [decide_eq_decide, Int32.le_iff_toInt_le, Int32.le_iff_toInt_le, z_ti (by omega)]
  by_cases e : c 0 = 0
  · rw [e]
    have : (nI 0 - nI 1).toInt = -1 := by decide
    rw [this]
    omega
  · rw [z_sub (by omega), z_ti (by omega)]
    omega
theorem m_isOne {c : Cf} {σ : HS} (h : MR c σ) (w : WF c) (v : Int32) : f_X9_isOne v σ = some (nI (b2 (decide (0 ≤ v.toInt ∧ v.toInt < c 23))), σ) := by
  have h1 := w.p_n
  rw [f_X9_isOne]
  simp (disch := omega) only [z_lit, z_ld, z_bi, h, m_in, z_bzb]
  congr 4
  rw [decide_eq_decide, Int32.le_iff_toInt_le, Int32.le_iff_toInt_le, z_ti (by omega)]
  by_cases e : c 23 = 0
  · rw [e]
    have : (nI 0 - nI 1).toInt = -1 := by decide
    rw [this]
    omega
  · rw [z_sub (by omega), z_ti (by omega)]
    omega
theorem m_holds {c : Cf} {σ : HS} (h : MR c σ) {k : Nat} (hk : k < 5) : f_X9_holds (nI k) σ = some (nI (hm c k), σ) := by
  rw [f_X9_holds]
  simp only [z_lit]
  rw [m_ofKind h hk (by omega)]
  simp only [z_bi]
  rw [m_ofKind h hk (by omega)]
  simp only [z_bi]
  rw [m_ofKind h hk (by omega)]
  simp (disch := omega) only [z_bi, z_31, z_shl, z_or]
  rfl
theorem m_behind {c : Cf} {σ : HS} (h : MR c σ) (w : WF c) {j s : Nat} (hj : j < c 23) (hs : s ≤ 2) : f_X9_behind (nI s) (nI j) σ = some (nI (if s = 1 then la c j else 0), σ) := by
  rw [f_X9_behind, m_latency h w hj]
  simp (disch := omega) only [z_lit, z_eq]
  by_cases e : s = 1 <;> simp [e]
