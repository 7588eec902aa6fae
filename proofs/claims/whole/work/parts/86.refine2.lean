-- when the rounds stop
theorem CR_st (c : Cf) (p : SL) (hn : 1 ≤ p.1) : ∀ r, (CR c p (r + 1)).2 ≤ (CR c p r).2 → ∀ i j, i < p.1 → j < p.1 → (CR c p r).1 i = (CR c p r).1 j → alk c p (CR c p r).1 i j = true := by
  intro r
  cases r with
  | zero =>
    intro h i j hi hj _
    have h1 : 1 ≤ (nuR (fun _ _ => true) p.1).2 := by
      rw [nuR_c]
      obtain ⟨m, hm⟩ : ∃ m, p.1 = m + 1 := ⟨p.1 - 1, by omega⟩
      rw [hm]
      have : ∀ m, 1 ≤ fb_ct (fun s => decide (frP ((fun _ _ => true : Nat → Nat → Bool) s) s = s)) (m + 1) := by
        intro m
        induction m with
        | zero => exact Nat.le_refl _
        | succ m ih => rw [fb_ct_succ]; omega
      exact this m
    have h2 : (nuR (alk c p (CR c p 0).1) p.1).2 ≤ 1 := h
    exact fin_eq (R := fun _ _ => true) (Q := alk c p (CR c p 0).1) (n := p.1) ⟨fun _ _ => rfl, fun _ _ _ _ _ => rfl, fun _ _ _ _ _ _ _ _ => rfl⟩ (alk_E c p _ _) (fun _ _ _ _ _ => rfl) (Nat.le_trans h2 h1) i j hi hj rfl
  | succ r =>
    intro h i j hi hj e
    exact fin_eq (R := alk c p (CR c p r).1) (Q := alk c p (CR c p (r + 1)).1) (n := p.1) (alk_E c p _ _) (alk_E c p _ _) (fun a b ha hb q => (CR_eq c p r ha hb).mp ((alk_i _ _ _ _ _).mp q).1) h i j hi hj ((CR_eq c p r hi hj).mp e)
