-- the start, and the law
def c00 : Cf := fun k => if k = 21 then 1 else 0
def a00 : AS := (c00, 0, fun _ => c00, 0, fun _ => 0, fun _ => 0)
theorem c00_0 {k : Nat} (h : k ≠ 21) : c00 k = 0 := if_neg h
theorem WF_00 : WF c00 := by
  refine ⟨by decide, fun k hk => absurd hk (Nat.not_lt_zero k), fun k hk => absurd hk (Nat.not_lt_zero k), by decide, by decide, by decide, fun i hi => absurd hi (Nat.not_lt_zero i), ?_, ?_, ⟨fun _ => 0, ?_⟩, ?_⟩
  · intro i j hi hj
    show c00 (30 + 6 * i + j) ≤ 2
    rw [c00_0 (by omega)]; omega
  · intro i j hi hj _
    show c00 (30 + 6 * i + j) = 0
    rw [c00_0 (by omega)]
  · intro i j hi hj q
    exact absurd (show c00 (30 + 6 * i + j) = 0 by rw [c00_0 (by omega)]) q
  · intro k
    show (if k = 21 then 1 else 0) < 100
    split <;> omega
theorem WA_00 : WA a00 := ⟨WF_00, by decide, fun j hj => absurd hj (Nat.not_lt_zero j), by decide, fun k hk => absurd hk (Nat.not_lt_zero k)⟩
theorem s0_z {o : Nat} (h1 : o ≠ 68) (h2 : o ≠ 1) (h3 : o ≠ 6) (h4 : o ≠ 13) (h5 : o ≠ 18) (h6 : o ≠ 23) (h7 : o ≠ 28) (h8 : o ≠ 33) (k : Nat) : hs_s0.1 o k = 0 := by
  show (if o = 68 then upd (fun _ => 0) 21 1 else if o = 1 ∨ o = 6 ∨ o = 13 ∨ o = 18 ∨ o = 23 ∨ o = 28 ∨ o = 33 then upd (fun _ => 0) 6 1 else fun _ => 0) k = (0 : Int32)
  rw [if_neg h1, if_neg (by omega)]
theorem INV_00 : INV a00 hs_s0 := by
  have z : ∀ o k, o ≠ 68 → o ≠ 1 → o ≠ 6 → o ≠ 13 → o ≠ 18 → o ≠ 23 → o ≠ 28 → o ≠ 33 → hs_s0.1 o k = 0 := fun o k h1 h2 h3 h4 h5 h6 h7 h8 => s0_z h1 h2 h3 h4 h5 h6 h7 h8 k
  have o1 : ∀ k, hs_s0.1 1 k = upd (fun _ => 0) 6 1 k := fun k => rfl
  have o68 : ∀ k, hs_s0.1 68 k = upd (fun _ => 0) 21 1 k := fun k => rfl
  have ic : IC a00 hs_s0 := by
    refine ⟨⟨rfl, rfl, rfl, rfl, fun k hk => absurd hk (Nat.not_lt_zero k), fun k hk => absurd hk (Nat.not_lt_zero k), fun k hk => absurd hk (Nat.not_lt_zero k), ?_⟩, ⟨0, by omega, ?_, ?_, fun j hj => absurd hj (Nat.not_lt_zero j)⟩, ?_, ?_, fun k hk => absurd hk (Nat.not_lt_zero k)⟩
    · intro m hm
      rw [z (1 + 4) m (by omega) (by omega) (by omega) (by omega) (by omega) (by omega) (by omega) (by omega)]
      show (0 : Int32) = nI (c00 (30 + m))
      rw [c00_0 (by omega)]; rfl
    · exact z 11 1 (by omega) (by omega) (by omega) (by omega) (by omega) (by omega) (by omega) (by omega)
    · exact z 11 2 (by omega) (by omega) (by omega) (by omega) (by omega) (by omega) (by omega) (by omega)
    · intro k _
      exact z 66 k (by omega) (by omega) (by omega) (by omega) (by omega) (by omega) (by omega) (by omega)
    · exact z 62 3 (by omega) (by omega) (by omega) (by omega) (by omega) (by omega) (by omega) (by omega)
  have im : IM a00 hs_s0 := by
    refine ⟨?_, ?_, fun j hj => absurd hj (Nat.not_lt_zero j), ?_, ?_, fun k hk => absurd hk (Nat.not_lt_zero k)⟩
    · intro k hk
      rw [o68]
      show upd (fun _ => 0) 21 1 k = nI (c00 k)
      unfold upd c00
      split <;> rfl
    · exact z 67 3 (by omega) (by omega) (by omega) (by omega) (by omega) (by omega) (by omega) (by omega)
    · intro k _
      exact z 71 k (by omega) (by omega) (by omega) (by omega) (by omega) (by omega) (by omega) (by omega)
    · exact z 67 18 (by omega) (by omega) (by omega) (by omega) (by omega) (by omega) (by omega) (by omega)
  refine ⟨WA_00, ic, im, ⟨⟨⟨0, by omega, fun _ => 0, ?_, fun i hi => by omega, ?_⟩, Or.inl ?_⟩, Or.inl ?_, Or.inl ?_⟩, Or.inl ?_⟩
  · exact z 38 3 (by omega) (by omega) (by omega) (by omega) (by omega) (by omega) (by omega) (by omega)
  · intro x _ q
    exact absurd (z 41 x (by omega) (by omega) (by omega) (by omega) (by omega) (by omega) (by omega) (by omega)) q
  · exact z 38 6 (by omega) (by omega) (by omega) (by omega) (by omega) (by omega) (by omega) (by omega)
  · exact z 42 9 (by omega) (by omega) (by omega) (by omega) (by omega) (by omega) (by omega) (by omega)
  · exact z 54 6 (by omega) (by omega) (by omega) (by omega) (by omega) (by omega) (by omega) (by omega)
  · exact z 67 5 (by omega) (by omega) (by omega) (by omega) (by omega) (by omega) (by omega) (by omega)
theorem pure_loop (L : Nat) (hL : L ≤ 2560) (xs : Nat → Int32) : ∀ m i n, L < i + m → m < n → i ≤ 2570 → ∀ a σ, INV a σ → ∃ p : Int32 × HS, p.1 = 1 ∧ f_L_law_18 L xs n (nI i) σ = some p := by
  have eL : (Int32.ofNat L - 5).toInt = (L : Int) - 5 := by
    show (nI L - nI 5).toInt = _
    by_cases e : 5 ≤ L
    · rw [z_sub e, z_ti (by omega)]; omega
    · rw [z_nsub (by omega), z_neg (by omega)]; omega
  have stop : ∀ i n σ, L < i + 5 → i ≤ 2570 → 1 ≤ n → ∃ p : Int32 × HS, p.1 = 1 ∧ f_L_law_18 L xs n (nI i) σ = some p := by
    intro i n σ h1 h2 h3
    obtain ⟨n, rfl⟩ : ∃ k, n = k + 1 := ⟨n - 1, by omega⟩
    exact ⟨(1, σ), rfl, by rw [f_L_law_18, if_pos (by rw [z_ltI, eL, z_ti (by omega)]; omega)]⟩
  intro m
  induction m with
  | zero =>
    intro i n h1 h2 h3 a σ _
    exact stop i n σ (by omega) h3 (by omega)
  | succ m ih =>
    intro i n h1 h2 h3 a σ hi
    by_cases e : L < i + 5
    · exact stop i n σ e h3 (by omega)
    · obtain ⟨n, rfl⟩ : ∃ k, n = k + 1 := ⟨n - 1, by omega⟩
      have l0 : ldI xs L (nI i) = some (xs i) := z_ld (by omega) (by omega)
      have l1 : ldI xs L (nI i + 1) = some (xs (i + 1)) := by rw [show nI i + 1 = nI (i + 1) from z_add i 1]; exact z_ld (by omega) (by omega)
      have l2 : ldI xs L (nI i + 2) = some (xs (i + 2)) := by rw [show nI i + 2 = nI (i + 2) from z_add i 2]; exact z_ld (by omega) (by omega)
      have l3 : ldI xs L (nI i + 3) = some (xs (i + 3)) := by rw [show nI i + 3 = nI (i + 3) from z_add i 3]; exact z_ld (by omega) (by omega)
      have l4 : ldI xs L (nI i + 4) = some (xs (i + 4)) := by rw [show nI i + 4 = nI (i + 4) from z_add i 4]; exact z_ld (by omega) (by omega)
      have e5 : nI i + 5 = nI (i + 5) := z_add i 5
      have go : ∀ a' σ', INV a' σ' → ∃ p : Int32 × HS, p.1 = 1 ∧ f_L_law_18 L xs n (nI (i + 5)) σ' = some p := fun a' σ' h => ih (i + 5) n (by omega) (by omega) (by omega) a' σ' h
      rw [f_L_law_18, if_neg (by rw [z_ltI, eL, z_ti (by omega)]; omega), l0, z_bi, e5]
      by_cases c0 : xs i &&& 31 = 0
      · rw [if_pos c0]
        obtain ⟨v, a', σ1, σ2, g1, g2, g3⟩ := st_kind hi (xs (i + 1)) (xs (i + 2)) (xs (i + 3)) (xs (i + 4))
        rw [l1, l2, l3, l4, z_bi, z_bi, z_bi, z_bi, g1, z_bi, z_bi, z_bi, z_bi, z_bi, show (v, σ1).2 = σ1 from rfl, g2, z_bi, if_pos rfl]
        exact go a' σ2 g3
      rw [if_neg c0]
      by_cases c1 : xs i &&& 31 = 1
      · rw [if_pos c1]
        obtain ⟨v, a', σ1, σ2, g1, g2, g3⟩ := st_sets hi (xs (i + 1)) (xs (i + 2))
        rw [l1, l2, z_bi, z_bi, g1, z_bi, z_bi, z_bi, show (v, σ1).2 = σ1 from rfl, g2, z_bi, if_pos rfl]
        exact go a' σ2 g3
      rw [if_neg c1]
      by_cases c2 : xs i &&& 31 = 2
      · rw [if_pos c2]
        obtain ⟨v, a', σ1, σ2, g1, g2, g3⟩ := st_of hi (xs (i + 1)) (xs (i + 2))
        rw [l1, l2, z_bi, z_bi, g1, z_bi, z_bi, z_bi, show (v, σ1).2 = σ1 from rfl, g2, z_bi, if_pos rfl]
        exact go a' σ2 g3
      rw [if_neg c2]
      by_cases c3 : xs i &&& 31 = 3
      · rw [if_pos c3]
        obtain ⟨v, a', σ1, σ2, g1, g2, g3⟩ := st_states hi
        rw [g1, z_bi, show (v, σ1).2 = σ1 from rfl, g2, z_bi, if_pos rfl]
        exact go a' σ2 g3
      rw [if_neg c3]
      by_cases c4 : xs i &&& 31 = 4
      · rw [if_pos c4]
        obtain ⟨v, a', σ1, σ2, g1, g2, g3⟩ := st_state hi (xs (i + 1)) (xs (i + 2))
        rw [l1, l2, z_bi, z_bi, g1, z_bi, z_bi, z_bi, show (v, σ1).2 = σ1 from rfl, g2, z_bi, if_pos rfl]
        exact go a' σ2 g3
      rw [if_neg c4]
      by_cases c5 : xs i &&& 31 = 5
      · rw [if_pos c5]
        obtain ⟨v, a', σ1, σ2, g1, g2, g3⟩ := st_classes hi
        rw [g1, z_bi, show (v, σ1).2 = σ1 from rfl, g2, z_bi, if_pos rfl]
        exact go a' σ2 g3
      rw [if_neg c5]
      by_cases c6 : xs i &&& 31 = 6
      · rw [if_pos c6]
        obtain ⟨v, a', σ1, σ2, g1, g2, g3⟩ := st_alike hi (xs (i + 1)) (xs (i + 2))
        rw [l1, l2, z_bi, z_bi, g1, z_bi, z_bi, z_bi, show (v, σ1).2 = σ1 from rfl, g2, z_bi, if_pos rfl]
        exact go a' σ2 g3
      rw [if_neg c6]
      by_cases c7 : xs i &&& 31 = 7
      · rw [if_pos c7]
        obtain ⟨v, a', σ1, σ2, g1, g2, g3⟩ := st_instruction hi (xs (i + 1))
        rw [l1, z_bi, g1, z_bi, z_bi, show (v, σ1).2 = σ1 from rfl, g2, z_bi, if_pos rfl]
        exact go a' σ2 g3
      rw [if_neg c7]
      by_cases c8 : xs i &&& 31 = 8
      · rw [if_pos c8]
        obtain ⟨v, a', σ1, σ2, g1, g2, g3⟩ := st_needs hi (xs (i + 1)) (xs (i + 2)) (xs (i + 3))
        rw [l1, l2, l3, z_bi, z_bi, z_bi, g1, z_bi, z_bi, z_bi, z_bi, show (v, σ1).2 = σ1 from rfl, g2, z_bi, if_pos rfl]
        exact go a' σ2 g3
      rw [if_neg c8]
      by_cases c9 : xs i &&& 31 = 9
      · rw [if_pos c9]
        obtain ⟨v, a', σ1, σ2, g1, g2, g3⟩ := st_drops hi (xs (i + 1))
        rw [l1, z_bi, g1, z_bi, z_bi, show (v, σ1).2 = σ1 from rfl, g2, z_bi, if_pos rfl]
        exact go a' σ2 g3
      rw [if_neg c9]
      by_cases c10 : xs i &&& 31 = 10
      · rw [if_pos c10]
        obtain ⟨v, a', σ1, σ2, g1, g2, g3⟩ := st_about hi (xs (i + 1)) (xs (i + 2))
        rw [l1, l2, z_bi, z_bi, g1, z_bi, z_bi, z_bi, show (v, σ1).2 = σ1 from rfl, g2, z_bi, if_pos rfl]
        exact go a' σ2 g3
      rw [if_neg c10]
      by_cases c11 : xs i &&& 31 = 11
      · rw [if_pos c11]
        obtain ⟨v, a', σ1, σ2, g1, g2, g3⟩ := st_bound hi
        rw [g1, z_bi, show (v, σ1).2 = σ1 from rfl, g2, z_bi, if_pos rfl]
        exact go a' σ2 g3
      rw [if_neg c11]
      by_cases c12 : xs i &&& 31 = 12
      · rw [if_pos c12]
        obtain ⟨v, a', σ1, σ2, g1, g2, g3⟩ := st_best hi (xs (i + 1))
        rw [l1, z_bi, g1, z_bi, z_bi, show (v, σ1).2 = σ1 from rfl, g2, z_bi, if_pos rfl]
        exact go a' σ2 g3
      rw [if_neg c12]
      by_cases c13 : xs i &&& 31 = 13
      · rw [if_pos c13]
        obtain ⟨v, a', σ1, σ2, g1, g2, g3⟩ := st_ranked hi (xs (i + 1)) (xs (i + 2))
        rw [l1, l2, z_bi, z_bi, g1, z_bi, z_bi, z_bi, show (v, σ1).2 = σ1 from rfl, g2, z_bi, if_pos rfl]
        exact go a' σ2 g3
      rw [if_neg c13]
      by_cases c14 : xs i &&& 31 = 14
      · rw [if_pos c14]
        obtain ⟨v, a', σ1, σ2, g1, g2, g3⟩ := st_plan hi (xs (i + 1))
        rw [l1, z_bi, g1, z_bi, z_bi, show (v, σ1).2 = σ1 from rfl, g2, z_bi, if_pos rfl]
        exact go a' σ2 g3
      rw [if_neg c14]
      by_cases c15 : xs i &&& 31 = 15
      · rw [if_pos c15]
        obtain ⟨v, a', σ1, σ2, g1, g2, g3⟩ := st_type hi (xs (i + 1))
        rw [l1, z_bi, g1, z_bi, z_bi, show (v, σ1).2 = σ1 from rfl, g2, z_bi, if_pos rfl]
        exact go a' σ2 g3
      rw [if_neg c15]
      by_cases c16 : xs i &&& 31 = 16
      · rw [if_pos c16]
        obtain ⟨v, a', σ1, σ2, g1, g2, g3⟩ := st_clear hi
        rw [g1, z_bi, show (v, σ1).2 = σ1 from rfl, g2, z_bi, if_pos rfl]
        exact go a' σ2 g3
      rw [if_neg c16]
      by_cases c17 : xs i &&& 31 = 17
      · rw [if_pos c17]
        obtain ⟨v, a', σ1, σ2, g1, g2, g3⟩ := st_reads hi
        rw [g1, z_bi, show (v, σ1).2 = σ1 from rfl, g2, z_bi, if_pos rfl]
        exact go a' σ2 g3
      rw [if_neg c17]
      by_cases c18 : xs i &&& 31 = 18
      · rw [if_pos c18]
        obtain ⟨v, a', σ1, σ2, g1, g2, g3⟩ := st_back hi
        rw [g1, z_bi, show (v, σ1).2 = σ1 from rfl, g2, z_bi, if_pos rfl]
        exact go a' σ2 g3
      rw [if_neg c18]
      by_cases c19 : xs i &&& 31 = 19
      · rw [if_pos c19]
        obtain ⟨v, a', σ1, σ2, g1, g2, g3⟩ := st_told hi (xs (i + 1))
        rw [l1, z_bi, g1, z_bi, z_bi, show (v, σ1).2 = σ1 from rfl, g2, z_bi, if_pos rfl]
        exact go a' σ2 g3
      rw [if_neg c19]
      by_cases c20 : xs i &&& 31 = 20
      · rw [if_pos c20]
        obtain ⟨v, a', σ1, σ2, g1, g2, g3⟩ := st_digest hi
        rw [g1, z_bi, show (v, σ1).2 = σ1 from rfl, g2, z_bi, if_pos ((y_cmp _ _).mpr rfl)]
        exact go a' σ2 g3
      rw [if_neg c20]
      exact go a σ hi
theorem pure_law (L : Nat) (hL : L ≤ 2560) (xs : Nat → Int32) : ∃ p : Int32 × HS, p.1 = 1 ∧ f_L_law_18 L xs FU 0 hs_s0 = some p := by
  have k := pure_loop L hL xs (L + 1) 0 FU (by omega) (by have := FU_b; omega) (by omega) a00 hs_s0 INV_00
  rw [show nI 0 = (0 : Int32) from rfl] at k
  exact k
