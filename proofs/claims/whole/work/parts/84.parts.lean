-- numbering the parts of a partition
def frP (P : Nat → Bool) : Nat → Nat
  | 0 => 0
  | n + 1 => if frP P n < n then frP P n else if P n = true then n else n + 1
theorem frP_le (P : Nat → Bool) : ∀ n, frP P n ≤ n := by
  intro n
  induction n with
  | zero => exact Nat.le_refl _
  | succ n ih => rw [frP]; repeat' split
                 all_goals omega
theorem frP_at {P : Nat → Bool} : ∀ n, frP P n < n → P (frP P n) = true := by
  intro n
  induction n with
  | zero => intro h; omega
  | succ n ih =>
    rw [frP]
    split
    · rename_i h; intro _; exact ih h
    · split
      · rename_i h; intro _; exact h
      · intro h; omega
theorem frP_no {P : Nat → Bool} : ∀ n i, i < frP P n → P i = false := by
  intro n
  induction n with
  | zero => intro i h; exact absurd h (Nat.not_lt_zero _)
  | succ n ih =>
    intro i
    rw [frP]
    split
    · exact ih i
    · rename_i h1
      have h2 := frP_le P n
      rw [show frP P n = n by omega] at ih
      split
      · intro h; exact ih i h
      · rename_i h4
        intro h
        by_cases e : i = n
        · rw [e]; simpa using h4
        · exact ih i (by omega)
/-- numbers by the first that is alike -/
def nuR (R : Nat → Nat → Bool) : Nat → (Nat → Nat) × Nat
  | 0 => (fun _ => 0, 0)
  | s + 1 => if frP (R s) s < s then (un (nuR R s).1 s ((nuR R s).1 (frP (R s) s)), (nuR R s).2) else (un (nuR R s).1 s (nuR R s).2, (nuR R s).2 + 1)
def EQR (R : Nat → Nat → Bool) (n : Nat) : Prop := (∀ i, i < n → R i i = true) ∧ (∀ i j, i < n → j < n → R i j = true → R j i = true) ∧ ∀ i j k, i < n → j < n → k < n → R i j = true → R j k = true → R i k = true
theorem nuR_b (R : Nat → Nat → Bool) : ∀ s i, i < s → (nuR R s).1 i < (nuR R s).2 := by
  intro s
  induction s with
  | zero => intro i hi; omega
  | succ s ih =>
    intro i hi
    rw [nuR]
    by_cases e : frP (R s) s < s
    · rw [if_pos e]
      show un _ s _ i < _
      unfold un
      by_cases q : i = s
      · rw [if_pos q]; exact ih _ e
      · rw [if_neg q]; exact ih i (by omega)
    · rw [if_neg e]
      show un _ s _ i < _ + 1
      unfold un
      by_cases q : i = s
      · rw [if_pos q]; omega
      · rw [if_neg q]; have := ih i (by omega); omega
theorem nuR_c (R : Nat → Nat → Bool) : ∀ s, (nuR R s).2 = fb_ct (fun s => decide (frP (R s) s = s)) s := by
  intro s
  induction s with
  | zero => rfl
  | succ s ih =>
    have hl := frP_le (R s) s
    rw [nuR, fb_ct_succ, ← ih]
    by_cases e : frP (R s) s < s
    · rw [if_pos e, if_neg (by simp; omega)]; rfl
    · rw [if_neg e, if_pos (by simp; omega)]
theorem nuR_eq {R : Nat → Nat → Bool} {n : Nat} (hR : EQR R n) : ∀ s, s ≤ n → ∀ i j, i < s → j < s → ((nuR R s).1 i = (nuR R s).1 j ↔ R i j = true) := by
  obtain ⟨r1, r2, r3⟩ := hR
  intro s
  induction s with
  | zero => intro _ i j hi; omega
  | succ s ih =>
    intro hs
    have ih := ih (by omega)
    have hb := nuR_b R s
    have old : ∀ i, i < s → (nuR R (s + 1)).1 i = (nuR R s).1 i := by
      intro i hi
      rw [nuR]
      by_cases e : frP (R s) s < s
      · rw [if_pos e]; show un _ s _ i = _; unfold un; rw [if_neg (by omega)]
      · rw [if_neg e]; show un _ s _ i = _; unfold un; rw [if_neg (by omega)]
    have new : ∀ i, i < s → ((nuR R (s + 1)).1 i = (nuR R (s + 1)).1 s ↔ R i s = true) := by
      intro i hi
      rw [old i hi, nuR]
      by_cases e : frP (R s) s < s
      · have ra := frP_at _ e
        rw [if_pos e]
        show _ = un _ s _ s ↔ _
        unfold un
        rw [if_pos rfl, ih i _ hi e]
        constructor
        · intro q; exact r3 _ _ _ (by omega) (by omega) (by omega) q (r2 _ _ (by omega) (by omega) ra)
        · intro q; exact r3 _ _ _ (by omega) (by omega) (by omega) q ra
      · rw [if_neg e]
        show _ = un _ s _ s ↔ _
        unfold un
        rw [if_pos rfl]
        have := hb i hi
        constructor
        · intro q; omega
        · intro q
          have hl := frP_le (R s) s
          have := frP_no (P := R s) s i (by omega)
          rw [r2 _ _ (by omega) (by omega) q] at this
          cases this
    intro i j hi hj
    by_cases e1 : i = s
    · by_cases e2 : j = s
      · rw [e1, e2]; exact ⟨fun _ => r1 s (by omega), fun _ => rfl⟩
      · rw [e1]
        constructor
        · intro q; exact r2 _ _ (by omega) (by omega) ((new j (by omega)).mp q.symm)
        · intro q; exact ((new j (by omega)).mpr (r2 _ _ (by omega) (by omega) q)).symm
    · by_cases e2 : j = s
      · rw [e2]; exact new i (by omega)
      · rw [old i (by omega), old j (by omega)]; exact ih i j (by omega) (by omega)
/-- a finer partition with as many parts is the same -/
theorem fin_eq {R Q : Nat → Nat → Bool} {n : Nat} (hR : EQR R n) (hQ : EQR Q n) (hf : ∀ i j, i < n → j < n → Q i j = true → R i j = true) (hc : (nuR Q n).2 ≤ (nuR R n).2) : ∀ i j, i < n → j < n → R i j = true → Q i j = true := by
  rw [nuR_c, nuR_c] at hc
  have sub : ∀ s, s < n → frP (R s) s = s → frP (Q s) s = s := by
    intro s hs e
    have hl := frP_le (Q s) s
    rcases Nat.lt_or_ge (frP (Q s) s) s with g | g
    · have := frP_no (P := R s) s _ (by rw [e]; exact g)
      rw [hf _ _ hs (by omega) (frP_at _ g)] at this
      cases this
    · omega
  have same : ∀ s, s < n → frP (Q s) s = s → frP (R s) s = s := by
    intro s hs e
    apply Classical.byContradiction
    intro q
    have := ct_ssub (p := fun s => decide (frP (R s) s = s)) (q := fun s => decide (frP (Q s) s = s)) (n := n) (x := s) (fun k hk h => by
      simp only [decide_eq_true_eq] at h ⊢
      exact sub k hk h) hs (by simpa using q) (by simpa using e)
    omega
  have first : ∀ s, s < n → ∃ s0, s0 ≤ s ∧ Q s s0 = true ∧ frP (Q s0) s0 = s0 := by
    intro s hs
    by_cases e : frP (Q s) s < s
    · refine ⟨frP (Q s) s, by omega, frP_at _ e, ?_⟩
      have hl := frP_le (Q (frP (Q s) s)) (frP (Q s) s)
      rcases Nat.lt_or_ge (frP (Q (frP (Q s) s)) (frP (Q s) s)) (frP (Q s) s) with g | g
      · have h1 := frP_at _ g
        have h2 := hQ.2.2 s _ _ hs (by omega) (by omega) (frP_at _ e) h1
        have := frP_no (P := Q s) s _ g
        rw [h2] at this; cases this
      · omega
    · exact ⟨s, Nat.le_refl _, hQ.1 s hs, by have := frP_le (Q s) s; omega⟩
  intro i j hi hj h
  obtain ⟨i0, a1, a2, a3⟩ := first i hi
  obtain ⟨j0, b1, b2, b3⟩ := first j hj
  have ai := same i0 (by omega) a3
  have bj := same j0 (by omega) b3
  have hij : R i0 j0 = true := hR.2.2 _ i _ (by omega) hi (by omega) (hR.2.1 _ _ hi (by omega) (hf _ _ hi (by omega) a2)) (hR.2.2 _ j _ hi hj (by omega) h (hf _ _ hj (by omega) b2))
  have e : i0 = j0 := by
    rcases Nat.lt_trichotomy i0 j0 with g | g | g
    · have := frP_no (P := R j0) j0 i0 (by omega)
      rw [hR.2.1 _ _ (by omega) (by omega) hij] at this; cases this
    · exact g
    · have := frP_no (P := R i0) i0 j0 (by omega)
      rw [hij] at this; cases this
  rw [← e] at b2
  exact hQ.2.2 _ i0 _ hi (by omega) hj a2 (hQ.2.1 _ _ hj (by omega) b2)
