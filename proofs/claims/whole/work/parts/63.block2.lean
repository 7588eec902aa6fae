-- pairs that clash, and what the class learns of a block
def clF (m o : Nat) : Nat → Nat
  | 0 => 0
  | d + 1 => (clF m o d ||| (if psd m d &&& o = 0 then 0 else 1 <<< (3 + d))) ||| (if m &&& psd o d = 0 then 0 else 1 <<< (3 - d))
theorem c_clashOf {m o : Nat} (hm' : m < 4096) (ho : o < 4096) (σ : HS) : f_X0_clashOf (nI m) (nI o) σ = some (nI (clF m o 4), σ) := by
  have key : ∀ i, i ≤ 4 → ∀ n, 4 < i + n → f_X0_clashOf_4 n (nI m) (nI o) (nI (clF m o i)) (nI i) σ = some (nI (clF m o 4), σ) := by
    refine dn_ind ?_ ?_
    · intro n hn
      obtain ⟨n, rfl⟩ : ∃ m, n = m + 1 := ⟨n - 1, by omega⟩
      rw [f_X0_clashOf_4, if_pos (by rw [z_lit, z_le (by omega) (by omega)]; omega)]
    · intro i hi ih n hn
      obtain ⟨n, rfl⟩ : ∃ m, n = m + 1 := ⟨n - 1, by omega⟩
      have hp := psd_lt hm' i
      have hq := psd_lt ho i
      have h1 : psd m i &&& o ≤ o := Nat.and_le_right
      have h2 : m &&& psd o i ≤ m := Nat.and_le_left
      have ih := ih n (by omega)
      rw [clF] at ih
      rw [f_X0_clashOf_4, if_neg (by rw [z_lit, z_le (by omega) (by omega)]; omega), c_passed hm' (by omega), z_bi]
      have s2 : ∀ x : Nat, f_X0_clashOf_27 (f_X0_clashOf_4 n) (nI m) (nI o) (nI x) (nI i) σ = f_X0_clashOf_4 n (nI m) (nI o) (nI (x ||| (if m &&& psd o i = 0 then 0 else 1 <<< (3 - i)))) (nI (i + 1)) σ := by
        intro x
        rw [f_X0_clashOf_27, c_passed ho (by omega), z_bi]
        show (if nI m &&& nI (psd o i) = nI 0 then f_X0_clashOf_4 n (nI m) (nI o) (nI x) (nI i + nI 1) σ else f_X0_clashOf_4 n (nI m) (nI o) (nI x ||| nI 1 <<< ((nI 3 - nI i) &&& nI 31)) (nI i + nI 1) σ) = _
        rw [z_and, z_add, z_sub (by omega), z_31 (by omega), z_shl _ (by omega), z_or]
        by_cases e : m &&& psd o i = 0
        · rw [if_pos (by rw [e]), if_pos e, Nat.or_zero]
        · rw [if_neg (by rw [z_eq (by omega) (by omega)]; exact e), if_neg e]
      show (if nI (psd m i) &&& nI o = nI 0 then f_X0_clashOf_27 (f_X0_clashOf_4 n) (nI m) (nI o) (nI (clF m o i)) (nI i) σ else f_X0_clashOf_27 (f_X0_clashOf_4 n) (nI m) (nI o) (nI (clF m o i) ||| nI 1 <<< ((nI 3 + nI i) &&& nI 31)) (nI i) σ) = _
      rw [z_and, z_add, z_31 (by omega), z_shl _ (by omega), z_or, s2, s2]
      by_cases e : psd m i &&& o = 0
      · rw [if_pos (by rw [e])]
        rw [if_pos e, Nat.or_zero] at ih
        exact ih
      · rw [if_neg (by rw [z_eq (by omega) (by omega)]; exact e)]
        rw [if_neg e] at ih
        exact ih
  rw [f_X0_clashOf]
  exact key 0 (by omega) FU (by have := FU_b; omega)
theorem clF_bit (m o : Nat) {k : Nat} (hk : k < 7) : (clF m o 4).testBit k = if 3 ≤ k then decide (psd m (k - 3) &&& o ≠ 0) else decide (m &&& psd o (3 - k) ≠ 0) := by
  have g : ∀ (p : Prop) [Decidable p] (s j : Nat), (if p then 0 else 1 <<< s).testBit j = (decide (¬ p) && decide (j = s)) := by
    intro p _ s j
    by_cases e : p
    · rw [if_pos e, Nat.zero_testBit]; simp [e]
    · rw [if_neg e, Nat.testBit_shiftLeft]
      by_cases q : j = s
      · simp [e, q]
      · rcases Nat.lt_or_ge j s with q' | q'
        · simp [show ¬ s ≤ j by omega, q]
        · have : Nat.testBit 1 (j - s) = false := by
            apply Nat.testBit_lt_two_pow
            have : 2 ^ 1 ≤ 2 ^ (j - s) := Nat.pow_le_pow_right (by omega) (by omega)
            omega
          simp [this, q]
  have h0 : m &&& psd o 0 = psd m 0 &&& o := rfl
  simp only [clF, Nat.testBit_or, g, Nat.zero_testBit]
  rw [h0]
  rcases (show k = 0 ∨ k = 1 ∨ k = 2 ∨ k = 3 ∨ k = 4 ∨ k = 5 ∨ k = 6 by omega) with rfl | rfl | rfl | rfl | rfl | rfl | rfl <;> simp
def cl (c : Cf) (i j : Nat) : Nat := clF (hm c (ko c i)) (hm c (ko c j)) 4
/-- what the class knows of a block -/
def BOK (c : Cf) (σ : HS) : Prop := σ.1 42 7 = nI (c 23) ∧ σ.1 42 8 = nI (c 21) ∧ (∀ i, i < c 23 → σ.1 43 i = nI (hm c (ko c i))) ∧ (∀ i, i < c 23 → σ.1 44 i = nI (sp c i)) ∧ (∀ i, i < c 23 → σ.1 45 i = nI (wy c i)) ∧ (∀ i, i < c 23 → σ.1 46 i = nI (ea c i)) ∧ (∀ i j, i < c 23 → j < c 23 → σ.1 47 (i * 6 + j) = dv c i j) ∧ (∀ i j, i < c 23 → j < c 23 → σ.1 48 (i * 6 + j) = nI (cl c i j))
theorem BOK.fr {c : Cf} {σ σ' : HS} (h : BOK c σ) {l : List Nat} (hf : fr l σ σ') (hl : ∀ o, o ∈ l → o < 42 ∨ 48 < o) : BOK c σ' := by
  have g : ∀ o, 42 ≤ o → o ≤ 48 → σ'.1 o = σ.1 o := fun o h1 h2 => hf o (fun q => by have := hl o q; omega)
  unfold BOK
  rw [g 42 (by omega) (by omega), g 43 (by omega) (by omega), g 44 (by omega) (by omega), g 45 (by omega) (by omega), g 46 (by omega) (by omega), g 47 (by omega) (by omega), g 48 (by omega) (by omega)]
  exact h
theorem c_le95 {c : Cf} (w : WF c) (k : Int32 → HS → Option HS) {i : Nat} (hi : i < c 23) : ∀ j, j ≤ c 23 → ∀ n, c 23 < j + n → ∀ σ, SR c 1 σ → σ.1 42 7 = nI (c 23) → (∀ i, i < c 23 → σ.1 43 i = nI (hm c (ko c i))) → (∀ x y, x < c 23 → y < c 23 → x * 6 + y < i * 6 + j → σ.1 47 (x * 6 + y) = dv c x y ∧ σ.1 48 (x * 6 + y) = nI (cl c x y)) → ∃ σ', fr [47, 48] σ σ' ∧ (∀ x y, x < c 23 → y < c 23 → x * 6 + y < i * 6 + c 23 → σ'.1 47 (x * 6 + y) = dv c x y ∧ σ'.1 48 (x * 6 + y) = nI (cl c x y)) ∧ f_X0_learn_95 1 k n (nI i) (nI j) σ = k (nI i) σ' := by
  have hn := w.p_n
  refine dn_ind ?_ ?_
  · intro n hn' σ hs h7 h3 hq
    obtain ⟨n, rfl⟩ : ∃ m, n = m + 1 := ⟨n - 1, by omega⟩
    refine ⟨σ, fr.rf _ _, hq, ?_⟩
    rw [f_X0_learn_95, h7, if_pos (by rw [z_le (by omega) (by omega)]; omega)]
  · intro j hj ih n hn' σ hs h7 h3 hq
    obtain ⟨n, rfl⟩ : ∃ m, n = m + 1 := ⟨n - 1, by omega⟩
    rw [f_X0_learn_95, h7, if_neg (by rw [z_le (by omega) (by omega)]; omega), c_pair, z_bi, c_delay hs w hi hj, z_bi, z_st (by omega) (by omega), z_bi, c_pair, z_bi]
    simp (disch := omega) only [z_ld, z_bi]
    rw [s_I2 _ _ _ (by omega), h3 i hi, h3 j hj, c_clashOf (hm_b w (w.p_ko hi)) (hm_b w (w.p_ko hj)), z_bi, z_st (by omega) (by omega), z_bi]
    rw [show (if ct c i j = 0 then -nI 1 else nI (if ct c i j = 1 then la c j else 0)) = dv c i j from rfl, show clF (hm c (ko c i)) (hm c (ko c j)) 4 = cl c i j from rfl]
    have f1 : fr [47, 48] σ (sI (sI σ 47 (i * 6 + j) (dv c i j)) 48 (i * 6 + j) (nI (cl c i j))) := (fr.sI (by simp)).tr (fr.sI (by simp))
    obtain ⟨σ', a1, a2, a3⟩ := ih n (by omega) _ (hs.fr f1 (by simp)) (by rw [f1 42 (by simp)]; exact h7) (by rw [f1 43 (by simp)]; exact h3) (by
      intro x y hx hy hl
      rw [s_I2 _ _ _ (by omega), s_I1, s_I1, s_I2 _ _ _ (by omega)]
      unfold upd
      by_cases e : x * 6 + y = i * 6 + j
      · have e1 : x = i := by omega
        have e2 : y = j := by omega
        rw [if_pos e, if_pos e, e1, e2]; exact ⟨rfl, rfl⟩
      · rw [if_neg e, if_neg e]; exact hq x y hx hy (by omega))
    refine ⟨σ', f1.tr a1, a2, ?_⟩
    show f_X0_learn_95 1 k n (nI i) (nI j + nI 1) _ = _
    rw [z_add, a3]
theorem c_le85 {c : Cf} (w : WF c) : ∀ i, i ≤ c 23 → ∀ n, c 23 < i + n → ∀ σ, SR c 1 σ → σ.1 42 7 = nI (c 23) → σ.1 42 8 = nI (c 21) → (∀ i, i < c 23 → σ.1 43 i = nI (hm c (ko c i))) → (∀ i, i < c 23 → σ.1 44 i = nI (sp c i)) → (∀ x y, x < c 23 → y < c 23 → x * 6 + y < i * 6 → σ.1 47 (x * 6 + y) = dv c x y ∧ σ.1 48 (x * 6 + y) = nI (cl c x y)) → ∃ σ', fr [42, 45, 46, 47, 48] σ σ' ∧ BOK c σ' ∧ σ'.1 42 9 = 1 ∧ f_X0_learn_85 1 n (nI i) σ = some σ' := by
  have hn := w.p_n
  refine dn_ind ?_ ?_
  · intro n hn' σ hs h7 h8 h3 h4 hq
    obtain ⟨n, rfl⟩ : ∃ m, n = m + 1 := ⟨n - 1, by omega⟩
    obtain ⟨σ1, a1, a2, a3⟩ := c_measureWays w (σ := σ) ⟨h7, fun i j hi hj => (hq i j hi hj (by omega)).1⟩ h4
    have f2 : fr [42] σ1 (sI σ1 42 9 1) := fr.sI (by simp)
    refine ⟨sI σ1 42 9 1, (a2.up (by simp)).tr (f2.up (by simp)), ?_, by rw [s_I1, u_1], ?_⟩
    · refine ⟨?_, ?_, ?_, ?_, ?_, ?_, ?_, ?_⟩
      · rw [s_I1, u_2 _ _ (by omega), a2 42 (by simp)]; exact h7
      · rw [s_I1, u_2 _ _ (by omega), a2 42 (by simp)]; exact h8
      · rw [f2 43 (by simp), a2 43 (by simp)]; exact h3
      · rw [f2 44 (by simp), a2 44 (by simp)]; exact h4
      · rw [f2 45 (by simp)]; exact fun i hi => (a3 i hi).1
      · rw [f2 46 (by simp)]; exact fun i hi => (a3 i hi).2
      · rw [f2 47 (by simp), a2 47 (by simp)]; exact fun i j hi hj => (hq i j hi hj (by omega)).1
      · rw [f2 48 (by simp), a2 48 (by simp)]; exact fun i j hi hj => (hq i j hi hj (by omega)).2
    · rw [f_X0_learn_85, h7, if_pos (by rw [z_le (by omega) (by omega)]; omega), a1, z_bi]
  · intro i hi ih n hn' σ hs h7 h8 h3 h4 hq
    obtain ⟨n, rfl⟩ : ∃ m, n = m + 1 := ⟨n - 1, by omega⟩
    rw [f_X0_learn_85, h7, if_neg (by rw [z_le (by omega) (by omega)]; omega)]
    obtain ⟨σ1, a1, a2, a3⟩ := c_le95 w (fun e10 σ11 => f_X0_learn_85 1 n (e10 + 1) σ11) hi 0 (by omega) FU (by have := FU_b; omega) σ hs h7 h3 hq
    rw [show nI 0 = (0 : Int32) from rfl] at a3
    rw [a3]
    obtain ⟨σ2, b1, b2, b3, b4⟩ := ih n (by omega) σ1 (hs.fr a1 (by simp)) (by rw [a1 42 (by simp)]; exact h7) (by rw [a1 42 (by simp)]; exact h8) (by rw [a1 43 (by simp)]; exact h3) (by rw [a1 44 (by simp)]; exact h4) (fun x y hx hy hl => a2 x y hx hy (by omega))
    refine ⟨σ2, (a1.up (by simp)).tr b1, b2, b3, ?_⟩
    show f_X0_learn_85 1 n (nI i + nI 1) σ1 = _
    rw [z_add, b4]
theorem c_le26 {c : Cf} (w : WF c) : ∀ i, i ≤ c 23 → ∀ n, c 23 < i + n → ∀ σ, SR c 1 σ → σ.1 42 7 = nI (c 23) → σ.1 42 8 = nI (c 21) → (∀ x, x < i → σ.1 43 x = nI (hm c (ko c x)) ∧ σ.1 44 x = nI (sp c x)) → ∃ σ', fr [42, 43, 44, 45, 46, 47, 48] σ σ' ∧ BOK c σ' ∧ σ'.1 42 9 = 1 ∧ f_X0_learn_26 1 n (nI i) σ = some σ' := by
  have hn := w.p_n
  refine dn_ind ?_ ?_
  · intro n hn' σ hs h7 h8 hq
    obtain ⟨n, rfl⟩ : ∃ m, n = m + 1 := ⟨n - 1, by omega⟩
    obtain ⟨σ1, a1, a2, a3, a4⟩ := c_le85 w 0 (by omega) FU (by have := FU_b; omega) σ hs h7 h8 (fun i hi => (hq i hi).1) (fun i hi => (hq i hi).2) (fun x y _ _ h => by omega)
    rw [show nI 0 = (0 : Int32) from rfl] at a4
    refine ⟨σ1, a1.up (by simp), a2, a3, ?_⟩
    rw [f_X0_learn_26, h7, if_pos (by rw [z_le (by omega) (by omega)]; omega), a4]
  · intro i hi ih n hn' σ hs h7 h8 hq
    obtain ⟨n, rfl⟩ : ∃ m, n = m + 1 := ⟨n - 1, by omega⟩
    have hk := w.p_ko hi
    have hk5 := w.p_k
    have hl := w.p_la hi
    have ht := tp_le (hun c i)
    have e0 : σ.1 (1 + 1) (ko c i) = nI (hm c (ko c i)) := hs.q_h _ hk
    have e1 : σ.1 (1 + 2) (ko c i) = nI (la c i) := hs.q_l _ hk
    rw [f_X0_learn_26, h7, if_neg (by rw [z_le (by omega) (by omega)]; omega), z_ld (by omega) (by omega), z_bi, hs.q_o _ hi, z_ld (by omega) (by omega), z_bi, e0, z_st (by omega) (by omega), z_bi, z_ld (by omega) (by omega), z_bi, s_I2 σ (o := 43) (o' := 1 + 2) _ _ (by omega), e1, z_ld (by omega) (by omega), z_bi, s_I1, u_1, c_turnsHeld (hm_b w hk), z_bi, thF_tp w hi, c_max (by omega) (by omega), z_bi, z_st (by omega) (by omega), z_bi]
    rw [show max (la c i) (tp (hun c i)) = sp c i from rfl]
    have f1 : fr [43, 44] σ (sI (sI σ 43 i (nI (hm c (ko c i)))) 44 i (nI (sp c i))) := (fr.sI (by simp)).tr (fr.sI (by simp))
    obtain ⟨σ', a1, a2, a3, a4⟩ := ih n (by omega) _ (hs.fr f1 (by simp)) (by rw [f1 42 (by simp)]; exact h7) (by rw [f1 42 (by simp)]; exact h8) (by
      intro x hx
      rw [s_I2 _ _ _ (by omega), s_I1, s_I1, s_I2 _ _ _ (by omega)]
      unfold upd
      by_cases e : x = i
      · rw [if_pos e, if_pos e, e]; exact ⟨rfl, rfl⟩
      · rw [if_neg e, if_neg e]; exact hq x (by omega))
    refine ⟨σ', (f1.up (by simp)).tr a1, a2, a3, ?_⟩
    show f_X0_learn_26 1 n (nI i + nI 1) _ = _
    rw [z_add, a4]
theorem c_learn {c : Cf} (w : WF c) {σ : HS} (hs : SR c 1 σ) (hk : σ.1 42 9 = 0 ∨ (σ.1 42 9 = 1 ∧ BOK c σ)) : ∃ σ', f_X0_learn 1 σ = some σ' ∧ fr [42, 43, 44, 45, 46, 47, 48] σ σ' ∧ BOK c σ' ∧ σ'.1 42 9 = 1 := by
  have hn := w.p_n
  rw [f_X0_learn]
  rcases hk with e | ⟨e, hb⟩
  · rw [if_pos e]
    have f1 : fr [42] σ (sI (sI σ 42 7 (σ.1 1 5)) 42 8 ((sI σ 42 7 (σ.1 1 5)).1 1 6)) := (fr.sI (by simp)).tr (fr.sI (by simp))
    obtain ⟨σ', a1, a2, a3, a4⟩ := c_le26 w 0 (by omega) FU (by have := FU_b; omega) _ (hs.fr f1 (by simp)) (by rw [s_I1, u_2 _ _ (by omega), s_I1, u_1]; exact hs.q_n) (by rw [s_I1, u_1, s_I2 _ _ _ (by omega)]; exact hs.q_w) (fun x hx => by omega)
    rw [show nI 0 = (0 : Int32) from rfl] at a4
    exact ⟨σ', a4, (f1.up (by simp)).tr a1, a2, a3⟩
  · rw [if_neg (by rw [e]; decide)]
    exact ⟨σ, rfl, fr.rf _ _, hb, e⟩
