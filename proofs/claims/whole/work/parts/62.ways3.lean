-- the reference's rounds
theorem MR.fr {c : Cf} {σ σ' : HS} (h : MR c σ) {l : List Nat} (hf : fr l σ σ') (hl : 68 ∉ l) : MR c σ' := by
  intro k hk
  rw [hf 68 hl]; exact h k hk
theorem m_fw60 {c : Cf} (w : WF c) (k : Int32 → Int32 → HS → Option HS) {i : Nat} (hi : i < c 23) {p : WE} (hp : UB c p) (x1 : Int32) : ∀ j, j ≤ c 23 → ∀ n, c 23 < j + n → ∀ σ, MR c σ → MW 76 77 c (rlJ c i p j) σ → ∃ σ', fr [76, 77] σ σ' ∧ MW 76 77 c (rlJ c i p (c 23)) σ' ∧ f_X9_findWays_60 k n x1 (nI i) (nI j) σ = k x1 (nI i) σ' := by
  have hn := w.p_n
  refine dn_ind ?_ ?_
  · intro n hn' σ hb hm
    obtain ⟨n, rfl⟩ : ∃ m, n = m + 1 := ⟨n - 1, by omega⟩
    refine ⟨σ, fr.rf _ _, hm, ?_⟩
    rw [f_X9_findWays_60, z_lit, z_ld (by omega) (by omega), z_bi, hb 23 (by omega), if_pos (by rw [z_le (by omega) (by omega)]; omega)]
  · intro j hj ih n hn' σ hb hm
    obtain ⟨n, rfl⟩ : ∃ m, n = m + 1 := ⟨n - 1, by omega⟩
    have hu := rlJ_UB w hi hp j (by omega)
    generalize hP : rlJ c i p j = P at hm hu
    have ih' : ∀ σ, MR c σ → MW 76 77 c (rlx c i j P) σ → ∃ σ', fr [76, 77] σ σ' ∧ MW 76 77 c (rlJ c i p (c 23)) σ' ∧ f_X9_findWays_60 k n x1 (nI i) (nI (j + 1)) σ = k x1 (nI i) σ' := by
      intro τ h1 h2
      refine ih n (by omega) τ h1 ?_
      rw [rlJ, hP]; exact h2
    have hc : ct c i j ≤ 2 := by
      have := w.p_nd (show i < 6 by omega) (show j < 6 by omega)
      unfold ct; split <;> omega
    rw [f_X9_findWays_60, show (23 : Int32) = nI 23 from rfl, z_ld (by omega) (by omega), z_bi, hb 23 (by omega), if_neg (by rw [z_le (by omega) (by omega)]; omega)]
    rw [m_counts hb w (by omega) (by omega), z_bi]
    by_cases e : ct c i j = 0
    · rw [if_pos (show (nI (ct c i j)) = 0 by rw [e]; rfl), show (1 : Int32) = nI 1 from rfl, z_add]
      exact ih' σ hb (by rw [rlx, if_pos e]; exact hm)
    · rw [if_neg (show ¬ (nI (ct c i j)) = 0 by rw [show (0 : Int32) = nI 0 from rfl, z_eq (by omega) (by omega)]; exact e)]
      rw [m_counts hb w (by omega) (by omega), z_bi, m_behind hb w hj hc, z_bi]
      rw [show (if ct c i j = 1 then la c j else 0) = dd c i j from rfl]
      have hd := dd_le w (i := i) hj
      have b1 := UB_b w hu hi
      have b2 := UB_b w hu hj
      simp (disch := omega) only [z_ld, z_bi]
      simp only [(hm j hj).1, (hm i hi).1, z_add]
      have e1 : ∀ {x y : Nat} (X : Nat → Option HS), x < 100 → y < 100 → (if nI x ≤ nI y then X y else X x) = X (max y x) := by
        intro x y X hx hy
        by_cases q : x ≤ y
        · rw [if_pos (by rw [z_le (by omega) (by omega)]; exact q), Nat.max_eq_left q]
        · rw [if_neg (by rw [z_le (by omega) (by omega)]; exact q), Nat.max_eq_right (by omega)]
      rw [e1 (fun v => f_X9_findWays_134 (f_X9_findWays_60 k n) x1 (nI i) (nI j) (nI (dd c i j)) (nI v) (nI j) σ) (by omega) (by omega)]
      show ∃ σ', _ ∧ _ ∧ f_X9_findWays_134 (f_X9_findWays_60 k n) x1 (nI i) (nI j) (nI (dd c i j)) (nI _) (nI j) σ = _
      rw [f_X9_findWays_134, z_st (by omega) (by omega), z_bi]
      simp (disch := omega) only [z_ld, z_bi]
      rw [s_I2 _ _ _ (by omega), (hm i hi).2, (hm j hj).2, z_add]
      simp (disch := omega) only [z_st, z_bi]
      rw [e1 (fun v => f_X9_findWays_60 k n x1 (nI i) (nI j + 1) (sI (sI σ 76 j (nI (max (P.1 j) (dd c i j + P.1 i)))) 77 i (nI v))) (by omega) (by omega)]
      show ∃ σ', _ ∧ _ ∧ f_X9_findWays_60 k n x1 (nI i) (nI j + nI 1) (sI (sI σ 76 j (nI (max (P.1 j) (dd c i j + P.1 i)))) 77 i (nI (max (P.2 i) (P.2 j + dd c i j)))) = _
      rw [z_add, Nat.add_comm (P.2 j)]
      have f1 : fr [76, 77] σ (sI (sI σ 76 j (nI (max (P.1 j) (dd c i j + P.1 i)))) 77 i (nI (max (P.2 i) (dd c i j + P.2 j)))) := (fr.sI (by simp)).tr (fr.sI (by simp))
      obtain ⟨σ', a1, a2, a3⟩ := ih' _ (MR.fr hb f1 (by simp)) (by rw [rlx, if_neg e]; exact MW.st (by omega) hm)
      exact ⟨σ', f1.tr a1, a2, a3⟩
theorem m_fw47 {c : Cf} (w : WF c) (k : Int32 → HS → Option HS) {p : WE} (hp : UB c p) (x1 : Int32) : ∀ i, i ≤ c 23 → ∀ n, c 23 < i + n → ∀ σ, MR c σ → MW 76 77 c (rlI c p i) σ → ∃ σ', fr [76, 77] σ σ' ∧ MW 76 77 c (rlI c p (c 23)) σ' ∧ f_X9_findWays_47 k n x1 (nI i) σ = k x1 σ' := by
  have hn := w.p_n
  refine dn_ind ?_ ?_
  · intro n hn' σ hb hm
    obtain ⟨n, rfl⟩ : ∃ m, n = m + 1 := ⟨n - 1, by omega⟩
    refine ⟨σ, fr.rf _ _, hm, ?_⟩
    rw [f_X9_findWays_47, z_lit, z_ld (by omega) (by omega), z_bi, hb 23 (by omega), if_pos (by rw [z_le (by omega) (by omega)]; omega)]
  · intro i hi ih n hn' σ hb hm
    obtain ⟨n, rfl⟩ : ∃ m, n = m + 1 := ⟨n - 1, by omega⟩
    rw [f_X9_findWays_47, show (23 : Int32) = nI 23 from rfl, z_ld (by omega) (by omega), z_bi, hb 23 (by omega), if_neg (by rw [z_le (by omega) (by omega)]; omega)]
    obtain ⟨σ1, a1, a2, a3⟩ := m_fw60 w (fun e11 e12 σ13 => f_X9_findWays_47 k n e11 (e12 + 1) σ13) hi (rlI_UB w hp i (by omega)) x1 0 (by omega) FU (by have := FU_b; omega) σ hb hm
    rw [show nI 0 = (0 : Int32) from rfl] at a3
    rw [a3]
    obtain ⟨σ2, b1, b2, b3⟩ := ih n (by omega) σ1 (MR.fr hb a1 (by simp)) a2
    refine ⟨σ2, a1.tr b1, b2, ?_⟩
    show f_X9_findWays_47 k n x1 (nI i + nI 1) σ1 = _
    rw [z_add, b3]
theorem m_fw39 {c : Cf} (w : WF c) : ∀ t, t ≤ 6 → ∀ n, 6 < t + n → ∀ σ, MR c σ → MW 76 77 c (rlN c t) σ → ∃ σ', fr [76, 77] σ σ' ∧ MW 76 77 c (rlN c 6) σ' ∧ f_X9_findWays_39 n (nI t) σ = some σ' := by
  have hn := w.p_n
  refine dn_ind ?_ ?_
  · intro n hn' σ hb hm
    obtain ⟨n, rfl⟩ : ∃ m, n = m + 1 := ⟨n - 1, by omega⟩
    refine ⟨σ, fr.rf _ _, hm, ?_⟩
    rw [f_X9_findWays_39, if_pos (by rw [z_lit, z_le (by omega) (by omega)]; omega)]
  · intro t ht ih n hn' σ hb hm
    obtain ⟨n, rfl⟩ : ∃ m, n = m + 1 := ⟨n - 1, by omega⟩
    rw [f_X9_findWays_39, if_neg (by rw [z_lit, z_le (by omega) (by omega)]; omega)]
    obtain ⟨σ1, a1, a2, a3⟩ := m_fw47 w (fun e14 σ15 => f_X9_findWays_39 n (e14 + 1) σ15) (rlN_UB w t) (nI t) 0 (by omega) FU (by have := FU_b; omega) σ hb hm
    rw [show nI 0 = (0 : Int32) from rfl] at a3
    rw [a3]
    obtain ⟨σ2, b1, b2, b3⟩ := ih n (by omega) σ1 (MR.fr hb a1 (by simp)) a2
    refine ⟨σ2, a1.tr b1, b2, ?_⟩
    show f_X9_findWays_39 n (nI t + nI 1) σ1 = _
    rw [z_add, b3]
theorem m_findWays {c : Cf} (w : WF c) {σ : HS} (hb : MR c σ) : ∃ σ', f_X9_findWays σ = some σ' ∧ fr [76, 77] σ σ' ∧ MW 76 77 c (wy c, ea c) σ' := by
  have hn := w.p_n
  have key : ∀ i, i ≤ c 23 → ∀ n, c 23 < i + n → ∀ σ, MR c σ → (∀ x, x < i → σ.1 76 x = nI (sp c x) ∧ σ.1 77 x = nI 0) → ∃ σ', f_X9_findWays_2 n (nI i) σ = some σ' ∧ fr [76, 77] σ σ' ∧ MW 76 77 c (wy c, ea c) σ' := by
    refine dn_ind ?_ ?_
    · intro n hn' σ hb hm
      obtain ⟨n, rfl⟩ : ∃ m, n = m + 1 := ⟨n - 1, by omega⟩
      rw [f_X9_findWays_2, show (23 : Int32) = nI 23 from rfl, z_ld (by omega) (by omega), z_bi, hb 23 (by omega), if_pos (by rw [z_le (by omega) (by omega)]; omega)]
      obtain ⟨σ', a1, a2, a3⟩ := m_fw39 w 0 (by omega) FU (by have := FU_b; omega) σ hb hm
      rw [show nI 0 = (0 : Int32) from rfl] at a3
      refine ⟨σ', a3, a1, ?_⟩
      intro x hx
      have := rlN_end w (t := 6) (by omega) hx
      rw [(a2 x hx).1, (a2 x hx).2, this.1, this.2]
      exact ⟨rfl, rfl⟩
    · intro i hi ih n hn' σ hb hm
      obtain ⟨n, rfl⟩ : ∃ m, n = m + 1 := ⟨n - 1, by omega⟩
      rw [f_X9_findWays_2, show (23 : Int32) = nI 23 from rfl, z_ld (by omega) (by omega), z_bi, hb 23 (by omega), if_neg (by rw [z_le (by omega) (by omega)]; omega)]
      rw [m_span hb w hi, z_bi, z_st (by omega) (by omega), z_bi, z_st (by omega) (by omega), z_bi]
      have f1 : fr [76, 77] σ (sI (sI σ 76 i (nI (sp c i))) 77 i 0) := (fr.sI (by simp)).tr (fr.sI (by simp))
      obtain ⟨σ', a1, a2, a3⟩ := ih n (by omega) _ (MR.fr hb f1 (by simp)) (by
        intro x hx
        rw [s_I2 _ _ _ (by omega), s_I1, s_I1, s_I2 _ _ _ (by omega)]
        unfold upd
        by_cases e : x = i
        · rw [if_pos e, if_pos e, e]; exact ⟨rfl, rfl⟩
        · rw [if_neg e, if_neg e]; exact hm x (by omega))
      refine ⟨σ', ?_, f1.tr a2, a3⟩
      rw [← a1]
      show f_X9_findWays_2 n (nI i + nI 1) _ = _
      rw [z_add]
  rw [f_X9_findWays]
  exact key 0 (by omega) FU (by have := FU_b; omega) σ hb (fun x hx => by omega)
