-- an instruction goes, in the class
theorem c_clearNeedsFrom {c : Cf} {s : Nat} {σ : HS} (h : ∀ m, m < 36 → σ.1 (s + 4) m = nI (c m)) {g : Nat} (hg : g < 6) : ∃ f, f_X6_clearNeedsFrom s (nI g) σ = some (sA σ (s + 4) f) ∧ ∀ i j, i < 6 → j < 6 → f (i * 6 + j) = nI (if (i ≤ g ∧ j = g) ∨ (i = g ∧ j ≤ g) then 0 else c (i * 6 + j)) := by
  have key : ∀ x, x ≤ g + 1 → ∀ (n : Nat) (f : Nat → Int32), g + 1 < x + n → (∀ i j, i < 6 → j < 6 → f (i * 6 + j) = nI (if (i < x ∧ j = g) ∨ (i = g ∧ j < x) then 0 else c (i * 6 + j))) → ∃ f', f_X6_clearNeedsFrom_2 s n (nI g) (nI x) (sA σ (s + 4) f) = some (sA σ (s + 4) f') ∧ ∀ i j, i < 6 → j < 6 → f' (i * 6 + j) = nI (if (i ≤ g ∧ j = g) ∨ (i = g ∧ j ≤ g) then 0 else c (i * 6 + j)) := by
    refine dn_ind ?_ ?_
    · intro n f hn hf
      obtain ⟨n, rfl⟩ : ∃ m, n = m + 1 := ⟨n - 1, by omega⟩
      rw [f_X6_clearNeedsFrom_2]
      simp (disch := omega) only [z_lt]
      rw [if_pos (by omega)]
      refine ⟨f, rfl, fun i j hi hj => ?_⟩
      rw [hf i j hi hj]
      congr 1
      by_cases q : (i ≤ g ∧ j = g) ∨ (i = g ∧ j ≤ g)
      · rw [if_pos q, if_pos (by omega)]
      · rw [if_neg q, if_neg (by omega)]
    · intro x hx ih n f hn hf
      obtain ⟨n, rfl⟩ : ∃ m, n = m + 1 := ⟨n - 1, by omega⟩
      rw [f_X6_clearNeedsFrom_2]
      simp (disch := omega) only [z_lt, z_lit, c_pair, z_bi, z_st, s_II, z_add]
      rw [if_neg (by omega)]
      refine ih n _ (by omega) (fun i j hi hj => ?_)
      by_cases q1 : i * 6 + j = g * 6 + x
      · rw [q1, u_1, if_pos (by omega)]
      · rw [u_2 _ _ q1]
        by_cases q2 : i * 6 + j = x * 6 + g
        · rw [q2, u_1, if_pos (by omega)]
        · rw [u_2 _ _ q2, hf i j hi hj]
          congr 1
          by_cases q : (i < x ∧ j = g) ∨ (i = g ∧ j < x)
          · rw [if_pos q, if_pos (by omega)]
          · rw [if_neg q, if_neg (by omega)]
  have := key 0 (by omega) FU (σ.1 (s + 4)) (by have := FU_b; omega) (fun i j hi hj => by rw [h _ (by omega), if_neg (by omega)])
  rw [s_self] at this
  exact this
theorem drC_z {c : Cf} (w : WF c) {g a b : Nat} (hg : g < c 23) (ha : a < 6) (hb : b < 6) (h : c 23 - 1 ≤ a ∨ c 23 - 1 ≤ b) : drC g c (30 + 6 * a + b) = 0 := by
  rw [drC_at g c ha hb]
  have e1 : ∃ i', (if g ≤ a then a + 1 else a) = i' ∧ (g ≤ a → i' = a + 1) ∧ a ≤ i' := by
    by_cases q : g ≤ a
    · rw [if_pos q]; exact ⟨_, rfl, fun _ => rfl, by omega⟩
    · rw [if_neg q]; exact ⟨_, rfl, fun h => absurd h q, by omega⟩
  have e2 : ∃ j', (if g ≤ b then b + 1 else b) = j' ∧ (g ≤ b → j' = b + 1) ∧ b ≤ j' := by
    by_cases q : g ≤ b
    · rw [if_pos q]; exact ⟨_, rfl, fun _ => rfl, by omega⟩
    · rw [if_neg q]; exact ⟨_, rfl, fun h => absurd h q, by omega⟩
  obtain ⟨i', p1, p2, p3⟩ := e1
  obtain ⟨j', r1, r2, r3⟩ := e2
  rw [p1, r1]
  by_cases q : i' < 6 ∧ j' < 6
  · rw [if_pos q]
    refine w.p_nz q.1 q.2 ?_
    rcases h with h | h
    · left; have := p2 (by omega); omega
    · right; left; have := r2 (by omega); omega
  · rw [if_neg q]
/-- the needs as they are while a drop goes on: rows and columns below N' moved up to place m (of N' columns a row) -/
theorem c_removeInstruction {c : Cf} {s : Nat} {σ : HS} (h : SR c s σ) (w : WF c) (x : Int32) : ∃ σ', f_X6_removeInstruction s x σ = some ((opD x c).1, σ') ∧ CP (opD x c).2 s σ σ' := by
  have h1 := w.p_n
  have hk := w.p_k
  rw [f_X6_removeInstruction, c_hasInstruction h w]
  simp only [z_bi, z_lit, b2_0]
  rw [show decide (0 ≤ x.toInt ∧ x.toInt < (c 23 : Int)) = isI c x from rfl]
  unfold opD
  by_cases hx : isI c x = true
  · obtain ⟨g, g1, g2, g3, g4⟩ := isI_nI hx
    simp only [hx, Bool.true_eq_false, if_false, if_true, g4]
    rw [g3, h.q_n, z_sub (by omega)]
    -- what holds while it goes on: one state with the rows of kinds and of needs replaced
    have hN : ∀ (f3 f4 : Nat → Int32), (sA (sA (sI σ s 5 (nI (c 23 - 1))) (s + 3) f3) (s + 4) f4).1 s 5 = nI (c 23 - 1) := by
      intro f3 f4
      simp (disch := omega) only [s_A2, s_I1, u_1]
    -- inner loops
    have hin : ∀ (k : Int32 → Int32 → HS → Option (Int32 × HS)) (f3 : Nat → Int32) (i : Nat), i < c 23 - 1 → ∀ j, j ≤ c 23 - 1 → ∀ (n : Nat) (f4 : Nat → Int32), c 23 - 1 < j + n → (∀ a b, a < 6 → b < 6 → f4 (a * 6 + b) = nI (if (a < i ∧ b < c 23 - 1) ∨ (a = i ∧ b < j) then nd (drC g c) a b else nd c a b)) → ∃ f4', (∀ a b, a < 6 → b < 6 → f4' (a * 6 + b) = nI (if (a < i + 1 ∧ b < c 23 - 1) then nd (drC g c) a b else nd c a b)) ∧ f_X6_removeInstruction_63 s k n (nI g) (nI i) (nI j) (sA (sA (sI σ s 5 (nI (c 23 - 1))) (s + 3) f3) (s + 4) f4) = k (nI g) (nI i) (sA (sA (sI σ s 5 (nI (c 23 - 1))) (s + 3) f3) (s + 4) f4') := by
      intro k f3 i hi
      refine dn_ind ?_ ?_
      · intro n f4 hn hf
        obtain ⟨n, rfl⟩ : ∃ m, n = m + 1 := ⟨n - 1, by omega⟩
        rw [f_X6_removeInstruction_63, hN]
        simp (disch := omega) only [z_le]
        rw [if_pos (by omega)]
        refine ⟨f4, fun a b ha hb => ?_, rfl⟩
        rw [hf a b ha hb]
        congr 1
        by_cases q : a < i + 1 ∧ b < c 23 - 1
        · rw [if_pos q, if_pos (by omega)]
        · rw [if_neg q, if_neg (by omega)]
      · intro j hj ih n f4 hn hf
        obtain ⟨n, rfl⟩ : ∃ m, n = m + 1 := ⟨n - 1, by omega⟩
        have ih := fun f4' => ih n f4' (by omega)
        have hw : ∀ i' j', (i' = if g ≤ i then i + 1 else i) → (j' = if g ≤ j then j + 1 else j) → ∃ f4', (∀ a b, a < 6 → b < 6 → f4' (a * 6 + b) = nI (if (a < i + 1 ∧ b < c 23 - 1) then nd (drC g c) a b else nd c a b)) ∧ f_X6_removeInstruction_97 s (f_X6_removeInstruction_63 s k n) (nI g) (nI i) (nI j) (nI i') (nI j') (sA (sA (sI σ s 5 (nI (c 23 - 1))) (s + 3) f3) (s + 4) f4) = k (nI g) (nI i) (sA (sA (sI σ s 5 (nI (c 23 - 1))) (s + 3) f3) (s + 4) f4') := by
          intro i' j' ei ej
          have hi' : i' < 6 ∧ i ≤ i' := by rw [ei]; split <;> omega
          have hj' : j' < 6 ∧ j ≤ j' := by rw [ej]; split <;> omega
          have hd : nd (drC g c) i j = nd c i' j' := by
            have := drC_at g c (show i < 6 by omega) (show j < 6 by omega)
            rw [← ei, ← ej, if_pos (by omega)] at this
            exact this
          have hr : f4 (i' * 6 + j') = nI (nd c i' j') := by
            rw [hf i' j' (by omega) (by omega), if_neg]
            intro q
            rcases q with q | q
            · omega
            · omega
          rw [f_X6_removeInstruction_97]
          simp (disch := omega) only [c_pair, z_bi, z_lit, s_A1, z_ld, hr, z_st, s_II, z_add]
          refine ih _ (fun a b ha hb => ?_)
          by_cases q1 : a * 6 + b = i * 6 + j
          · have : a = i ∧ b = j := by omega
            obtain ⟨rfl, rfl⟩ := this
            rw [u_1, if_pos (by omega), hd]
          · rw [u_2 _ _ q1, hf a b ha hb]
            congr 1
            by_cases q : (a < i ∧ b < c 23 - 1) ∨ (a = i ∧ b < j)
            · rw [if_pos q, if_pos (by omega)]
            · rw [if_neg q, if_neg (by omega)]
        rw [f_X6_removeInstruction_63, hN]
        simp (disch := omega) only [z_lit, z_le, z_add]
        rw [if_neg (by omega)]
        by_cases q1 : g ≤ i
        · rw [if_pos q1, f_X6_removeInstruction_83]
          simp (disch := omega) only [z_lit, z_le, z_add]
          by_cases q2 : g ≤ j
          · rw [if_pos q2]
            exact hw _ _ (by rw [if_pos q1]) (by rw [if_pos q2])
          · rw [if_neg q2]
            exact hw _ _ (by rw [if_pos q1]) (by rw [if_neg q2])
        · rw [if_neg q1, f_X6_removeInstruction_83]
          simp (disch := omega) only [z_lit, z_le, z_add]
          by_cases q2 : g ≤ j
          · rw [if_pos q2]
            exact hw _ _ (by rw [if_neg q1]) (by rw [if_pos q2])
          · rw [if_neg q2]
            exact hw _ _ (by rw [if_neg q1]) (by rw [if_neg q2])
    have hout : ∀ (f3 : Nat → Int32), (∀ i, i < c 23 - 1 → f3 i = nI (ko (drC g c) i)) → ∀ i, i ≤ c 23 - 1 → ∀ (n : Nat) (f4 : Nat → Int32), c 23 - 1 < i + n → (∀ a b, a < 6 → b < 6 → f4 (a * 6 + b) = nI (if (a < i ∧ b < c 23 - 1) then nd (drC g c) a b else nd c a b)) → ∃ σ', f_X6_removeInstruction_53 s n (nI g) (nI i) (sA (sA (sI σ s 5 (nI (c 23 - 1))) (s + 3) f3) (s + 4) f4) = some (nI (c 23 - 1), σ') ∧ CP (drC g c) s σ σ' := by
      intro f3 hf3
      refine dn_ind ?_ ?_
      · intro n f4 hn hf
        obtain ⟨n, rfl⟩ : ∃ m, n = m + 1 := ⟨n - 1, by omega⟩
        rw [f_X6_removeInstruction_53, hN]
        simp (disch := omega) only [z_le]
        rw [if_pos (by omega)]
        obtain ⟨f5, e1, e2⟩ := c_clearNeedsFrom (c := fun m => if (m / 6 < c 23 - 1 ∧ m % 6 < c 23 - 1) then nd (drC g c) (m / 6) (m % 6) else nd c (m / 6) (m % 6)) (s := s) (σ := sA (sA (sI σ s 5 (nI (c 23 - 1))) (s + 3) f3) (s + 4) f4) (g := c 23 - 1) (fun m hm' => by
          rw [s_A1]
          have := hf (m / 6) (m % 6) (by omega) (by omega)
          rw [show m / 6 * 6 + m % 6 = m by omega] at this
          exact this) (by omega)
        rw [e1, s_AA]
        simp only [z_bi]
        rw [hN]
        refine ⟨_, rfl, ⟨?_, ?_, ?_, ?_, ?_, ?_, ?_, ?_⟩, ?_⟩
        · simp (disch := omega) only [s_A2, s_I1, u_2, h.q_k]
          unfold drC; rw [if_neg (by omega), if_neg (by omega), if_neg (by omega)]
        · rw [hN]; unfold drC; rw [if_pos rfl]
        · simp (disch := omega) only [s_A2, s_I1, u_2, h.q_w]
          unfold drC; rw [if_neg (by omega), if_neg (by omega), if_neg (by omega)]
        · simp (disch := omega) only [s_A2, s_I1, u_2, h.q_r]
          unfold drC; rw [if_neg (by omega), if_neg (by omega), if_neg (by omega)]
        · intro k hk'
          have e0 : drC g c 0 = c 0 := by unfold drC; rw [if_neg (by omega), if_neg (by omega), if_neg (by omega)]
          rw [e0] at hk'
          simp (disch := omega) only [s_A2, s_I2, h.q_h]
          congr 1
          have : ∀ u, u < 3 → ka (drC g c) k u = ka c k u := fun u hu' => by
            unfold ka drC; rw [if_neg (by omega), if_neg (by omega), if_neg (by omega)]
          unfold hm
          rw [this 0 (by omega), this 1 (by omega), this 2 (by omega)]
        · intro k hk'
          have e0 : drC g c 0 = c 0 := by unfold drC; rw [if_neg (by omega), if_neg (by omega), if_neg (by omega)]
          rw [e0] at hk'
          simp (disch := omega) only [s_A2, s_I2, h.q_l]
          congr 1
          unfold kl drC; rw [if_neg (by omega), if_neg (by omega), if_neg (by omega)]
        · intro i hi
          have e0 : drC g c 23 = c 23 - 1 := by unfold drC; rw [if_pos rfl]
          rw [e0] at hi
          simp (disch := omega) only [s_A1, s_A2]
          exact hf3 i hi
        · intro m hm'
          rw [s_A1]
          have e3 := e2 (m / 6) (m % 6) (by omega) (by omega)
          rw [show m / 6 * 6 + m % 6 = m by omega] at e3
          rw [e3]
          congr 1
          by_cases q : (m / 6 < c 23 - 1 ∧ m % 6 < c 23 - 1)
          · rw [if_neg (by omega), if_pos q]
            unfold nd
            rw [show 30 + 6 * (m / 6) + m % 6 = 30 + m by omega]
          · have hz : drC g c (30 + m) = 0 := by
              have := drC_z w g1 (show m / 6 < 6 by omega) (show m % 6 < 6 by omega) (by omega)
              rw [show 30 + 6 * (m / 6) + m % 6 = 30 + m by omega] at this
              exact this
            rw [hz]
            by_cases q3 : m / 6 ≤ c 23 - 1 ∧ m % 6 = c 23 - 1 ∨ m / 6 = c 23 - 1 ∧ m % 6 ≤ c 23 - 1
            · rw [if_pos q3]
            · rw [if_neg q3, if_neg q]
              exact w.p_nz (by omega) (by omega) (by omega)
        · refine fr.tr (fr.sI (by simp)) (fr.tr (fr.sA (by simp)) (fr.sA (by simp)))
      · intro i hi ih n f4 hn hf
        obtain ⟨n, rfl⟩ : ∃ m, n = m + 1 := ⟨n - 1, by omega⟩
        rw [f_X6_removeInstruction_53, hN]
        simp (disch := omega) only [z_le]
        rw [if_neg (by omega)]
        obtain ⟨f4', t1, t2⟩ := hin (fun e7 e8 σ9 => f_X6_removeInstruction_53 s n e7 (e8 + 1) σ9) f3 i hi 0 (by omega) FU f4 (by have := FU_b; omega) (fun a b ha hb => by
          rw [hf a b ha hb]
          congr 1
          by_cases q : a < i ∧ b < c 23 - 1
          · rw [if_pos q, if_pos (Or.inl q)]
          · rw [if_neg q, if_neg (by omega)])
        obtain ⟨σ', u1, u2⟩ := ih n f4' (by omega) t1
        refine ⟨σ', ?_, u2⟩
        refine Eq.trans t2 ?_
        simp only [z_lit, z_add]
        exact u1
    have hko : ∀ (i : Nat), i ≤ c 23 - 1 → g ≤ i → ∀ (n : Nat) (f3 : Nat → Int32), c 23 - 1 < i + n → (∀ a, a < c 23 → f3 a = nI (if g ≤ a ∧ a < i then ko c (a + 1) else ko c a)) → ∃ σ', f_X6_removeInstruction_23 s n (nI g) (nI i) (sA (sI σ s 5 (nI (c 23 - 1))) (s + 3) f3) = some (nI (c 23 - 1), σ') ∧ CP (drC g c) s σ σ' := by
      have hN3 : ∀ (f3 : Nat → Int32), (sA (sI σ s 5 (nI (c 23 - 1))) (s + 3) f3).1 s 5 = nI (c 23 - 1) := by
        intro f3
        simp (disch := omega) only [s_A2, s_I1, u_1]
      refine dn_ind ?_ ?_
      · intro hgi n f3 hn hf
        obtain ⟨n, rfl⟩ : ∃ m, n = m + 1 := ⟨n - 1, by omega⟩
        rw [f_X6_removeInstruction_23, hN3]
        simp (disch := omega) only [z_le]
        rw [if_pos (by omega)]
        have := hout f3 (fun i hi => by
          rw [hf i (by omega)]
          congr 1
          unfold ko drC
          by_cases q : g ≤ i
          · rw [if_pos (by omega), if_neg (by omega), if_pos (by omega)]
            rfl
          · rw [if_neg (by omega), if_neg (by omega), if_neg (by omega), if_neg (by omega)]) 0 (by omega) FU (σ.1 (s + 4)) (by have := FU_b; omega) (fun a b ha hb => by
          rw [h.q_nd a b ha hb, if_neg (by omega)])
        have e : sA (sA (sI σ s 5 (nI (c 23 - 1))) (s + 3) f3) (s + 4) (σ.1 (s + 4)) = sA (sI σ s 5 (nI (c 23 - 1))) (s + 3) f3 := by
          have := s_self (sA (sI σ s 5 (nI (c 23 - 1))) (s + 3) f3) (s + 4)
          simp (disch := omega) only [s_A2, s_I2] at this
          exact this
        rw [e] at this
        exact this
      · intro i hi ih hgi n f3 hn hf
        obtain ⟨n, rfl⟩ : ∃ m, n = m + 1 := ⟨n - 1, by omega⟩
        rw [f_X6_removeInstruction_23, hN3]
        have hr : f3 (i + 1) = nI (ko c (i + 1)) := by rw [hf (i + 1) (by omega), if_neg (by omega)]
        simp (disch := omega) only [z_le, z_lit, z_add, s_A1, z_ld, hr, z_bi, z_st, s_II]
        rw [if_neg (by omega)]
        refine ih (by omega) n _ (by omega) (fun a ha => ?_)
        by_cases q : a = i
        · subst q
          rw [u_1, if_pos (by omega)]
        · rw [u_2 _ _ q, hf a ha]
          congr 1
          by_cases q2 : g ≤ a ∧ a < i
          · rw [if_pos q2, if_pos (by omega)]
          · rw [if_neg q2, if_neg (by omega)]
    have := hko g (by omega) (by omega) FU (σ.1 (s + 3)) (by have := FU_b; omega) (fun a ha => by rw [h.q_o a ha, if_neg (by omega)])
    have e : sA (sI σ s 5 (nI (c 23 - 1))) (s + 3) (σ.1 (s + 3)) = sI σ s 5 (nI (c 23 - 1)) := by
      have := s_self (sI σ s 5 (nI (c 23 - 1))) (s + 3)
      simp (disch := omega) only [s_I2] at this
      exact this
    rw [e] at this
    exact this
  · have hx' : isI c x = false := by simpa using hx
    simp only [hx', if_true, Bool.false_eq_true, if_false]
    exact ⟨σ, rfl, h, fr.rf _ _⟩
