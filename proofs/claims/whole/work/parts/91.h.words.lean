-- words of open turns
theorem bt_1 : ∀ i, i < 32 → bt 1 i = decide (i = 0) := by decide +kernel
theorem bt_all : ∀ i, i < 32 → bt 67108863 i = decide (i ≤ 25) := by decide +kernel
theorem bt_z {x : Int32} : x = 0 ↔ ∀ i, i < 32 → bt x i = false := ⟨fun h i _ => by rw [h]; exact b_0 i, fun h => b_ext (fun i hi => by rw [h i hi, b_0])⟩
theorem bt_if (x : Int32) {t : Nat} (ht : t < 32) : ((x >>> (nI t &&& 31)) &&& 1) = 0 ↔ bt x t = false := by
  rw [bt_z]
  have h0 := b_sshr t ht x (i := 0) (by omega)
  rw [if_pos (by omega), Nat.add_zero] at h0
  constructor
  · intro h
    have := h 0 (by omega)
    rw [b_and, h0, bt_1 0 (by omega)] at this
    simpa using this
  · intro h i hi
    rw [b_and, bt_1 i hi]
    by_cases e : i = 0
    · rw [e, h0, h]; rfl
    · simp [e]
theorem bt_one {t : Nat} (ht : t < 32) {i : Nat} (hi : i < 32) : bt ((1 : Int32) <<< (nI t &&& 31)) i = decide (i = t) := by
  rw [b_shl t ht _ hi]
  by_cases e : t ≤ i
  · rw [bt_1 _ (by omega)]
    by_cases g : i = t
    · simp [g]
    · simp [g, e]; omega
  · have : i ≠ t := by omega
    simp [e, this]
theorem c_from {t : Nat} (ht : t ≤ 100) (σ : HS) : ∃ x, f_X5_from (nI t) σ = some (x, σ) ∧ ∀ i, i < 32 → bt x i = decide (t ≤ i ∧ i ≤ 25) := by
  rw [f_X5_from]
  by_cases e : t ≤ 25
  · rw [if_pos (by rw [z_lit, z_le (by omega) (by omega)]; exact e)]
    by_cases g : 0 < t
    · rw [if_pos (by rw [z_0, z_lt (by omega) (by omega)]; exact g)]
      refine ⟨_, rfl, fun i hi => ?_⟩
      rw [b_and, bt_all i hi, b_shl t (by omega) _ hi]
      by_cases k : t ≤ i
      · rw [b_m1 _ (by omega)]; simp [k]
      · simp [k]
    · rw [if_neg (by rw [z_0, z_lt (by omega) (by omega)]; exact g)]
      refine ⟨_, rfl, fun i hi => ?_⟩
      rw [bt_all i hi]
      simp [show t ≤ i by omega]
  · rw [if_neg (by rw [z_lit, z_le (by omega) (by omega)]; exact e)]
    refine ⟨_, rfl, fun i hi => ?_⟩
    rw [b_0]
    simp; omega
theorem z_m {a b : Nat} (hb : b < a) : nI b - nI a = -nI (a - b) := z_nsub hb
theorem bt_pow : ∀ t, t < 25 → ∀ i, i < 32 → bt (((1 : Int32) <<< ((nI t + 1) &&& 31)) - 1) i = decide (i ≤ t) := by decide +kernel
theorem c_upTo {a b : Nat} (ha : a ≤ 100) (hb : b ≤ 100) (σ : HS) : ∃ x, f_X5_upTo (nI a - nI b) σ = some (x, σ) ∧ ∀ i, i < 32 → bt x i = decide (i + b ≤ a ∧ i ≤ 25) := by
  rw [f_X5_upTo]
  by_cases e : b ≤ a
  · rw [z_sub e, if_pos (by rw [z_0, z_le (by omega) (by omega)]; omega)]
    by_cases g : a - b < 25
    · rw [if_pos (by rw [z_lit, z_lt (by omega) (by omega)]; exact g)]
      refine ⟨_, rfl, fun i hi => ?_⟩
      rw [bt_pow _ g i hi]
      by_cases k : i ≤ a - b
      · simp [k]; omega
      · simp [k]; omega
    · rw [if_neg (by rw [z_lit, z_lt (by omega) (by omega)]; exact g)]
      refine ⟨_, rfl, fun i hi => ?_⟩
      rw [bt_all i hi]
      by_cases k : i ≤ 25
      · simp [k]; omega
      · simp [k]
  · rw [z_m (by omega), if_neg (by rw [z_leI, z_neg (by omega)]; show ¬ (0 : Int) ≤ _; omega)]
    refine ⟨_, rfl, fun i hi => ?_⟩
    rw [b_0]
    simp; omega
theorem bt_clash {c : Cf} (w : WF c) {i j : Nat} (hi : i < c 23) (hj : j < c 23) {τ : Nat} (hτ : τ ≤ 25) {t : Nat} (ht : t ≤ 25) : bt (((nI (cl c i j) <<< (nI τ &&& 31) : Int32).toUInt32 >>> ((3 : Int32).toUInt32 &&& Int32.toUInt32 31)).toInt32) t = clb c i τ j t := by
  have hl := cl_lt (c := c) i j
  have h1 := b_ushr 3 (by omega) (nI (cl c i j) <<< (nI τ &&& 31)) t
  rw [show (nI 3 : Int32) = 3 from rfl] at h1
  rw [h1, b_shl τ (by omega) _ (by omega)]
  have big : ∀ k, 7 ≤ k → (cl c i j).testBit k = false := fun k hk => Nat.testBit_lt_two_pow (Nat.lt_of_lt_of_le hl (show 2 ^ 7 ≤ 2 ^ k from Nat.pow_le_pow_right (by omega) hk))
  unfold clb
  by_cases e : τ ≤ 3 + t
  · rw [z_bt _ (by omega)]
    by_cases g : τ ≤ t
    · rw [if_pos g]
      by_cases k : t - τ < 4
      · simp [e, k, show 3 + t - τ = 3 + (t - τ) by omega]
      · rw [big _ (by omega)]; simp [k]
    · rw [if_neg g]
      simp [e, show τ - t < 4 by omega, show 3 + t - τ = 3 - (τ - t) by omega]
  · rw [if_neg (by omega)]
    simp [e, show ¬ τ - t < 4 by omega]
