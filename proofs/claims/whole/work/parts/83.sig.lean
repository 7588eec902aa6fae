-- signatures
theorem one_sh (s m : Nat) : (1 <<< s).testBit m = true ↔ m = s := by
  rw [Nat.one_shiftLeft, Nat.testBit_two_pow]
  simp only [decide_eq_true_eq]
  exact ⟨fun h => h.symm, fun h => h.symm⟩
theorem sgk_bit (c : Cf) (h t : Nat) (m : Nat) : ∀ k a, (sgk c h t k a).testBit m = true ↔ a.testBit m = true ∨ ∃ j, j < k ∧ m = t * 5 + j ∧ h &&& hm c j ≠ 0 := by
  intro k
  induction k with
  | zero =>
    intro a
    rw [sgk]
    exact ⟨Or.inl, fun q => q.elim id (fun ⟨j, hj, _⟩ => absurd hj (Nat.not_lt_zero _))⟩
  | succ k ih =>
    intro a
    rw [sgk]
    by_cases e : h &&& hm c k = 0
    · rw [if_pos e, ih a]
      constructor
      · rintro (q | ⟨j, h1, h2, h3⟩)
        · exact Or.inl q
        · exact Or.inr ⟨j, by omega, h2, h3⟩
      · rintro (q | ⟨j, h1, h2, h3⟩)
        · exact Or.inl q
        · by_cases z : j = k
          · subst z; exact absurd e h3
          · exact Or.inr ⟨j, by omega, h2, h3⟩
    · rw [if_neg e, Nat.testBit_or, Bool.or_eq_true, ih a, one_sh]
      constructor
      · rintro ((q | ⟨j, h1, h2, h3⟩) | q)
        · exact Or.inl q
        · exact Or.inr ⟨j, by omega, h2, h3⟩
        · exact Or.inr ⟨k, by omega, q, e⟩
      · rintro (q | ⟨j, h1, h2, h3⟩)
        · exact Or.inl (Or.inl q)
        · by_cases z : j = k
          · subst z; exact Or.inr h2
          · exact Or.inl (Or.inr ⟨j, by omega, h2, h3⟩)
theorem sgt_bit (c : Cf) (x m : Nat) : ∀ T, (sgt c x T).testBit m = true ↔ ∃ t, t < T ∧ ∃ j, j < c 0 ∧ m = t * 5 + j ∧ psd x t &&& hm c j ≠ 0 := by
  intro T
  induction T with
  | zero =>
    rw [sgt, Nat.zero_testBit]
    exact ⟨fun q => (by cases q), fun ⟨t, ht, _⟩ => absurd ht (Nat.not_lt_zero _)⟩
  | succ T ih =>
    rw [sgt, sgk_bit, ih]
    constructor
    · rintro (⟨t, h1, h2⟩ | ⟨j, h1, h2, h3⟩)
      · exact ⟨t, by omega, h2⟩
      · exact ⟨T, by omega, j, h1, h2, h3⟩
    · rintro ⟨t, h1, h2⟩
      by_cases e : t = T
      · subst e; exact Or.inr h2
      · exact Or.inl ⟨t, by omega, h2⟩
theorem sg_eq {c : Cf} (w : WF c) (x y : Nat) : sg c x = sg c y ↔ ∀ t, t < 4 → ∀ k, k < c 0 → (psd x t &&& hm c k = 0 ↔ psd y t &&& hm c k = 0) := by
  have hk := w.p_k
  have one : ∀ z t k, t < 4 → k < c 0 → ((sg c z).testBit (t * 5 + k) = true ↔ psd z t &&& hm c k ≠ 0) := by
    intro z t k ht hk'
    unfold sg
    rw [sgt_bit]
    constructor
    · rintro ⟨t', h1, j, h2, h3, h4⟩
      have e1 : t' = t := by omega
      have e2 : j = k := by omega
      rw [e1, e2] at h4; exact h4
    · intro h; exact ⟨t, ht, k, hk', rfl, h⟩
  constructor
  · intro e t ht k hk'
    have h1 := one x t k ht hk'
    have h2 := one y t k ht hk'
    rw [e] at h1
    have h3 := h1.symm.trans h2
    constructor
    · intro q; exact Classical.byContradiction (fun z => h3.mpr z q)
    · intro q; exact Classical.byContradiction (fun z => h3.mp z q)
  · intro h
    apply Nat.eq_of_testBit_eq
    intro m
    rw [Bool.eq_iff_iff]
    unfold sg
    rw [sgt_bit, sgt_bit]
    constructor
    · rintro ⟨t, h1, j, h2, h3, h4⟩
      exact ⟨t, h1, j, h2, h3, fun q => h4 ((h t h1 j h2).mpr q)⟩
    · rintro ⟨t, h1, j, h2, h3, h4⟩
      exact ⟨t, h1, j, h2, h3, fun q => h4 ((h t h1 j h2).mp q)⟩
theorem psd_psd (m a : Nat) : ∀ b, psd (psd m a) b = psd m (a + b) := by
  intro b
  induction b with
  | zero => rfl
  | succ b ih => rw [psd, ih, show a + (b + 1) = a + b + 1 by omega, psd]
theorem psd_or (m o : Nat) : ∀ n, psd (m ||| o) n = psd m n ||| psd o n := by
  intro n
  induction n with
  | zero => rfl
  | succ n ih =>
    rw [psd, psd, psd, ih]
    apply Nat.eq_of_testBit_eq
    intro i
    simp only [Nat.testBit_and, Nat.testBit_shiftRight, Nat.testBit_or]
    cases (psd m n).testBit (1 + i) <;> cases (psd o n).testBit (1 + i) <;> cases Nat.testBit 1911 i <;> rfl
theorem psd_4 {m : Nat} (h : m < 4096) : psd m 4 = 0 := by
  apply Classical.byContradiction
  intro q
  obtain ⟨u, t, u1, t1, b⟩ := (m12_ne (psd_lt h 4)).mp q
  rw [psd_bit _ _ _ _ u1 t1] at b
  simp at b
  omega
theorem and_or_0 (a b d : Nat) : (a ||| b) &&& d = 0 ↔ a &&& d = 0 ∧ b &&& d = 0 := by
  rw [Nat.and_or_distrib_right]
  exact Nat.or_eq_zero_iff
/-- like signatures: the same can be read, and what follows is like again -/
theorem sg_suc {c : Cf} (w : WF c) {x y : Nat} (hx : x < 4096) (hy : y < 4096) (h : sg c x = sg c y) {t : Nat} (ht : t ≤ c 0) : (suc c x t = none ∧ suc c y t = none) ∨ ∃ x' y', suc c x t = some x' ∧ suc c y t = some y' ∧ sg c x' = sg c y' := by
  have h' := (sg_eq w x y).mp h
  cases t with
  | zero =>
    right
    refine ⟨_, _, rfl, rfl, ?_⟩
    rw [sg_eq w]
    intro t ht k hk
    rw [psd_psd, psd_psd]
    by_cases e : 1 + t = 4
    · rw [e, psd_4 hx, psd_4 hy]
    · exact h' (1 + t) (by omega) k hk
  | succ k =>
    have h0 := h' 0 (by omega) k (by omega)
    have h0' : x &&& hm c k = 0 ↔ y &&& hm c k = 0 := h0
    rw [suc, suc]
    by_cases e : x &&& hm c k = 0
    · rw [if_pos e, if_pos (h0'.mp e)]
      right
      refine ⟨_, _, rfl, rfl, ?_⟩
      rw [sg_eq w]
      intro t ht j hj
      rw [psd_or, psd_or, and_or_0, and_or_0, h' t ht j hj]
    · rw [if_neg e, if_neg (fun q => e (h0'.mpr q))]
      exact Or.inl ⟨rfl, rfl⟩
