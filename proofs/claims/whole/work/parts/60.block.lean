-- what is held when turns have passed
def psd (m : Nat) : Nat → Nat
  | 0 => m
  | n + 1 => (psd m n >>> 1) &&& 1911
theorem psd_lt {m : Nat} (h : m < 4096) (n : Nat) : psd m n < 4096 := by
  cases n with
  | zero => exact h
  | succ n =>
    rw [psd]
    have : (psd m n >>> 1) &&& 1911 ≤ 1911 := Nat.and_le_right
    omega
theorem b_1911 (u t : Nat) (hu : u < 3) (ht : t < 4) : Nat.testBit 1911 (4 * u + t) = decide (t < 3) := by
  rcases (show u = 0 ∨ u = 1 ∨ u = 2 by omega) with rfl | rfl | rfl <;> rcases (show t = 0 ∨ t = 1 ∨ t = 2 ∨ t = 3 by omega) with rfl | rfl | rfl | rfl <;> decide
theorem psd_bit (m : Nat) : ∀ n u t, u < 3 → t < 4 → (psd m n).testBit (4 * u + t) = (decide (t + n < 4) && m.testBit (4 * u + t + n)) := by
  intro n
  induction n with
  | zero => intro u t hu ht; rw [psd]; simp [ht]
  | succ n ih =>
    intro u t hu ht
    rw [psd, Nat.testBit_and, Nat.testBit_shiftRight, b_1911 u t hu ht]
    by_cases e : t < 3
    · rw [show 1 + (4 * u + t) = 4 * u + (t + 1) by omega, ih u (t + 1) hu (by omega), show t + 1 + n = t + (n + 1) by omega, show 4 * u + (t + 1) + n = 4 * u + t + (n + 1) by omega]
      simp [e]
    · simp [e, show ¬ t + (n + 1) < 4 by omega]
theorem m12_ne {m : Nat} (h : m < 4096) : m ≠ 0 ↔ ∃ u t, u < 3 ∧ t < 4 ∧ m.testBit (4 * u + t) = true := by
  constructor
  · intro hm
    obtain ⟨i, hi⟩ := Nat.exists_testBit_of_ne_zero hm
    have hi' : i < 12 := by
      rcases Nat.lt_or_ge i 12 with q | q
      · exact q
      · rw [Nat.testBit_lt_two_pow (Nat.lt_of_lt_of_le h (by
          have : 2 ^ 12 ≤ 2 ^ i := Nat.pow_le_pow_right (by omega) q
          omega))] at hi
        cases hi
    exact ⟨i / 4, i % 4, by omega, by omega, by rw [show 4 * (i / 4) + i % 4 = i by omega]; exact hi⟩
  · rintro ⟨u, t, _, _, h⟩ e
    rw [e, Nat.zero_testBit] at h
    cases h
theorem c_passed {m t : Nat} (hm' : m < 4096) (ht : t < 100) (σ : HS) : f_X8_passed (nI m) (nI t) σ = some (nI (psd m t), σ) := by
  have key : ∀ i, i ≤ t → ∀ n, t < i + n → f_X8_passed_4 n (nI t) (nI (psd m i)) (nI i) σ = some (nI (psd m t), σ) := by
    refine dn_ind ?_ ?_
    · intro n hn
      obtain ⟨n, rfl⟩ : ∃ m, n = m + 1 := ⟨n - 1, by omega⟩
      rw [f_X8_passed_4, if_pos (by rw [z_le (by omega) (by omega)]; omega)]
    · intro i hi ih n hn
      obtain ⟨n, rfl⟩ : ∃ m, n = m + 1 := ⟨n - 1, by omega⟩
      rw [f_X8_passed_4, if_neg (by rw [z_le (by omega) (by omega)]; omega)]
      have := psd_lt hm' i
      simp (disch := omega) only [z_lit, z_31, z_shr]
      simp only [z_and, z_add]
      exact ih n (by omega)
  rw [f_X8_passed]
  exact key 0 (by omega) FU (by have := FU_b; omega)
def thF (m : Nat) : Nat → Nat
  | 0 => 0
  | n + 1 => if psd m n = 0 then thF m n else n + 1
theorem c_turnsHeld {m : Nat} (hm' : m < 4096) (σ : HS) : f_X0_turnsHeld (nI m) σ = some (nI (thF m 4), σ) := by
  have key : ∀ i, i ≤ 4 → ∀ n, 4 < i + n → f_X0_turnsHeld_4 n (nI m) (nI (thF m i)) (nI i) σ = some (nI (thF m 4), σ) := by
    refine dn_ind ?_ ?_
    · intro n hn
      obtain ⟨n, rfl⟩ : ∃ m, n = m + 1 := ⟨n - 1, by omega⟩
      rw [f_X0_turnsHeld_4, if_pos (by rw [z_lit, z_le (by omega) (by omega)]; omega)]
    · intro i hi ih n hn
      obtain ⟨n, rfl⟩ : ∃ m, n = m + 1 := ⟨n - 1, by omega⟩
      have := psd_lt hm' i
      rw [f_X0_turnsHeld_4, if_neg (by rw [z_lit, z_le (by omega) (by omega)]; omega), c_passed hm' (by omega)]
      have ih := ih n (by omega)
      rw [thF] at ih
      simp (disch := omega) only [z_lit, z_bi, z_eq, z_add]
      by_cases e : psd m i = 0
      · rw [if_pos e] at ih ⊢; exact ih
      · rw [if_neg e] at ih ⊢; exact ih
  rw [f_X0_turnsHeld]
  exact key 0 (by omega) FU (by have := FU_b; omega)
theorem hm_b {c : Cf} (w : WF c) {k : Nat} (hk : k < c 0) : hm c k < 4096 := hm_lt (w.p_ka hk (u := 0) (by omega)) (w.p_ka hk (u := 1) (by omega)) (w.p_ka hk (u := 2) (by omega))
theorem hm_u {c : Cf} (w : WF c) {i u t : Nat} (hi : i < c 23) (hu' : u < 3) (ht : t < 4) : (hm c (ko c i)).testBit (4 * u + t) = (hu c i u).testBit t :=
  hm_bit _ 0 (w.p_ka (w.p_ko hi) (u := 0) (by omega)) (w.p_ka (w.p_ko hi) (u := 1) (by omega)) (w.p_ka (w.p_ko hi) (u := 2) (by omega)) u t hu' ht
theorem hu_b {c : Cf} (w : WF c) {i u t : Nat} (hi : i < c 23) (hu' : u < 3) (ht : 4 ≤ t) : (hu c i u).testBit t = false :=
  Nat.testBit_lt_two_pow (Nat.lt_of_lt_of_le (w.p_ka (w.p_ko hi) hu') (by
    have : 2 ^ 4 ≤ 2 ^ t := Nat.pow_le_pow_right (by omega) ht
    omega))
theorem psd_0 {c : Cf} (w : WF c) {i n : Nat} (hi : i < c 23) : psd (hm c (ko c i)) n = 0 ↔ ∀ t, n ≤ t → t < 4 → (hun c i).testBit t = false := by
  have hb := psd_lt (hm_b w (w.p_ko hi)) n
  have h := m12_ne hb
  constructor
  · intro e t h1 h2
    cases q : (hun c i).testBit t with
    | false => rfl
    | true =>
      unfold hun at q
      rw [Nat.testBit_or, Nat.testBit_or] at q
      have : ∃ u, u < 3 ∧ (hu c i u).testBit t = true := by
        cases q0 : (hu c i 0).testBit t with
        | true => exact ⟨0, by omega, q0⟩
        | false =>
          cases q1 : (hu c i 1).testBit t with
          | true => exact ⟨1, by omega, q1⟩
          | false =>
            rw [q0, q1] at q
            exact ⟨2, by omega, by simpa using q⟩
      obtain ⟨u, u1, u2⟩ := this
      refine absurd e (h.mpr ⟨u, t - n, u1, by omega, ?_⟩)
      rw [psd_bit _ _ _ _ u1 (by omega), show 4 * u + (t - n) + n = 4 * u + t by omega, hm_u w hi u1 h2, u2]
      simp; omega
  · intro H
    apply Classical.byContradiction
    intro e
    obtain ⟨u, t, u1, t1, q⟩ := h.mp e
    rw [psd_bit _ _ _ _ u1 t1] at q
    have q1 : t + n < 4 := by
      simp only [Bool.and_eq_true, decide_eq_true_eq] at q; exact q.1
    rw [show 4 * u + t + n = 4 * u + (t + n) by omega, hm_u w hi u1 q1] at q
    have q2 := H (t + n) (by omega) q1
    unfold hun at q2
    rw [Nat.testBit_or, Nat.testBit_or] at q2
    simp only [Bool.or_eq_false_iff, Bool.and_eq_true] at q2 q
    rcases (show u = 0 ∨ u = 1 ∨ u = 2 by omega) with rfl | rfl | rfl
    · rw [q2.1.1] at q; cases q.2
    · rw [q2.1.2] at q; cases q.2
    · rw [q2.2] at q; cases q.2
theorem thF_tp {c : Cf} (w : WF c) {i : Nat} (hi : i < c 23) : thF (hm c (ko c i)) 4 = tp (hun c i) := by
  simp only [thF]
  unfold tp
  have a3 : psd (hm c (ko c i)) 3 = 0 ↔ (hun c i).testBit 3 = false := by
    rw [psd_0 w hi]; exact ⟨fun h => h 3 (by omega) (by omega), fun h t h1 h2 => by rw [show t = 3 by omega]; exact h⟩
  have a2 : psd (hm c (ko c i)) 2 = 0 ↔ (hun c i).testBit 3 = false ∧ (hun c i).testBit 2 = false := by
    rw [psd_0 w hi]; exact ⟨fun h => ⟨h 3 (by omega) (by omega), h 2 (by omega) (by omega)⟩, fun h t h1 h2 => by
      rcases (show t = 2 ∨ t = 3 by omega) with rfl | rfl
      · exact h.2
      · exact h.1⟩
  have a1 : psd (hm c (ko c i)) 1 = 0 ↔ (hun c i).testBit 3 = false ∧ (hun c i).testBit 2 = false ∧ (hun c i).testBit 1 = false := by
    rw [psd_0 w hi]; exact ⟨fun h => ⟨h 3 (by omega) (by omega), h 2 (by omega) (by omega), h 1 (by omega) (by omega)⟩, fun h t h1 h2 => by
      rcases (show t = 1 ∨ t = 2 ∨ t = 3 by omega) with rfl | rfl | rfl
      · exact h.2.2
      · exact h.2.1
      · exact h.1⟩
  have a0 : psd (hm c (ko c i)) 0 = 0 ↔ (hun c i).testBit 3 = false ∧ (hun c i).testBit 2 = false ∧ (hun c i).testBit 1 = false ∧ (hun c i).testBit 0 = false := by
    rw [psd_0 w hi]; exact ⟨fun h => ⟨h 3 (by omega) (by omega), h 2 (by omega) (by omega), h 1 (by omega) (by omega), h 0 (by omega) (by omega)⟩, fun h t h1 h2 => by
      rcases (show t = 0 ∨ t = 1 ∨ t = 2 ∨ t = 3 by omega) with rfl | rfl | rfl | rfl
      · exact h.2.2.2
      · exact h.2.2.1
      · exact h.2.1
      · exact h.1⟩
  simp only [a0, a1, a2, a3]
  cases (hun c i).testBit 3 <;> cases (hun c i).testBit 2 <;> cases (hun c i).testBit 1 <;> cases (hun c i).testBit 0 <;> simp
theorem c_max {a b : Nat} (ha : a < 2147483648) (hb : b < 2147483648) (σ : HS) : f_J9_max_7cf53 (nI a) (nI b) σ = some (nI (max a b), σ) := by
  rw [f_J9_max_7cf53]
  simp (disch := omega) only [z_lt]
  by_cases e : a < b
  · rw [if_pos e, Nat.max_eq_right (by omega)]
  · rw [if_neg e, Nat.max_eq_left (by omega)]
-- the reference's span
theorem m_span {c : Cf} {σ : HS} (h : MR c σ) (w : WF c) {i : Nat} (hi : i < c 23) : f_X9_span (nI i) σ = some (nI (sp c i), σ) := by
  have hl := w.p_la hi
  have hS : hun c i < 16 := by
    unfold hun
    have h0 := w.p_ka (w.p_ko hi) (u := 0) (by omega)
    have h1 := w.p_ka (w.p_ko hi) (u := 1) (by omega)
    have h2 := w.p_ka (w.p_ko hi) (u := 2) (by omega)
    exact Nat.or_lt_two_pow (n := 4) (Nat.or_lt_two_pow (n := 4) h0 h1) h2
  have key : ∀ t, t ≤ 4 → ∀ n, 4 < t + n → ∀ y, y < 100 → f_X9_span_30 n (nI (hun c i)) (nI y) (nI t) σ = some (nI (max y (mxF (fun q => if t ≤ q ∧ (hun c i).testBit q = true then q + 1 else 0) 4)), σ) := by
    refine dn_ind ?_ ?_
    · intro n hn y hy
      obtain ⟨n, rfl⟩ : ∃ m, n = m + 1 := ⟨n - 1, by omega⟩
      rw [f_X9_span_30, if_pos (by rw [z_lit, z_le (by omega) (by omega)]; omega)]
      simp [mxF]
    · intro t ht ih n hn y hy
      obtain ⟨n, rfl⟩ : ∃ m, n = m + 1 := ⟨n - 1, by omega⟩
      rw [f_X9_span_30, if_neg (by rw [z_lit, z_le (by omega) (by omega)]; omega), m_has _ _ (by omega) (by omega)]
      simp only [z_bi, z_lit, b2_0, z_add]
      have hl : ∀ (p : Nat → Prop) [DecidablePred p] (b : Nat), mxF (fun q => if p q then q + 1 else 0) 4 ≤ b ↔ ∀ q, q < 4 → p q → q + 1 ≤ b := by
        intro p _ b
        constructor
        · intro h q hq hp
          have := mxF_ge (fun q => if p q then q + 1 else 0) hq
          rw [if_pos hp] at this
          omega
        · intro h
          refine mxF_le (fun q hq => ?_)
          by_cases e : p q
          · rw [if_pos e]; exact h q hq e
          · rw [if_neg e]; omega
      have ex : ∀ y', y' < 100 → (y' = if (hun c i).testBit t = true then max y (t + 1) else y) → max y' (mxF (fun q => if t + 1 ≤ q ∧ (hun c i).testBit q = true then q + 1 else 0) 4) = max y (mxF (fun q => if t ≤ q ∧ (hun c i).testBit q = true then q + 1 else 0) 4) := by
        intro y' _ hy'
        apply Nat.le_antisymm
        · apply Nat.max_le.mpr
          constructor
          · rw [hy']
            by_cases e : (hun c i).testBit t = true
            · rw [if_pos e]
              have := (hl (fun q => t ≤ q ∧ (hun c i).testBit q = true) _).mp (Nat.le_refl _) t ht ⟨Nat.le_refl _, e⟩
              omega
            · rw [if_neg e]; omega
          · refine Nat.le_trans ((hl _ _).mpr ?_) (Nat.le_max_right _ _)
            intro q hq hp
            exact (hl (fun q => t ≤ q ∧ (hun c i).testBit q = true) _).mp (Nat.le_refl _) q hq ⟨by omega, hp.2⟩
        · apply Nat.max_le.mpr
          constructor
          · rw [hy']; split <;> omega
          · refine (hl _ _).mpr ?_
            intro q hq hp
            by_cases e : q = t
            · subst e; rw [hy', if_pos hp.2]; omega
            · have := (hl (fun q => t + 1 ≤ q ∧ (hun c i).testBit q = true) _).mp (Nat.le_refl _) q hq ⟨by omega, hp.2⟩
              omega
      by_cases e : (hun c i).testBit t = false
      · rw [if_pos e, ih n (by omega) y hy, ex y hy (by rw [e]; simp)]
      · have e' : (hun c i).testBit t = true := by simpa using e
        rw [if_neg e]
        simp (disch := omega) only [z_le]
        by_cases g : t + 1 ≤ y
        · rw [if_pos g, ih n (by omega) y hy, ex y hy (by rw [e', if_pos rfl]; omega)]
        · rw [if_neg g, ih n (by omega) (t + 1) (by omega), ex (t + 1) (by omega) (by rw [e', if_pos rfl]; omega)]
  have o0 : f_X9_ofOne (nI i) 0 σ = some (nI (c (1 + 4 * ko c i + 0)), σ) := m_ofOne h w hi (u := 0) (by omega)
  have o1 : f_X9_ofOne (nI i) 1 σ = some (nI (c (1 + 4 * ko c i + 1)), σ) := m_ofOne h w hi (u := 1) (by omega)
  have o2 : f_X9_ofOne (nI i) 2 σ = some (nI (c (1 + 4 * ko c i + 2)), σ) := m_ofOne h w hi (u := 2) (by omega)
  rw [f_X9_span, o0, z_bi, o1, z_bi, o2, z_bi, m_latency h w hi, z_bi]
  simp only [z_or]
  have eh : (c (1 + 4 * ko c i + 0) ||| c (1 + 4 * ko c i + 1)) ||| c (1 + 4 * ko c i + 2) = hun c i := rfl
  rw [eh]
  have k0 := key 0 (by omega) FU (by have := FU_b; omega) (la c i) (by omega)
  have e0 : max (la c i) (mxF (fun q => if 0 ≤ q ∧ (hun c i).testBit q = true then q + 1 else 0) 4) = sp c i := by
    unfold sp tp
    simp only [mxF, Nat.zero_le, true_and]
    cases (hun c i).testBit 3 <;> cases (hun c i).testBit 2 <;> cases (hun c i).testBit 1 <;> cases (hun c i).testBit 0 <;> simp <;> omega
  rw [e0, show nI 0 = (0 : Int32) from rfl] at k0
  exact k0
