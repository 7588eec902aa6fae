-- the rounds of both programs
def MW (a b : Nat) (c : Cf) (p : WE) (σ : HS) : Prop := ∀ x, x < c 23 → σ.1 a x = nI (p.1 x) ∧ σ.1 b x = nI (p.2 x)
def dv (c : Cf) (i j : Nat) : Int32 := if ct c i j = 0 then -nI 1 else nI (dd c i j)
def BW (c : Cf) (σ : HS) : Prop := σ.1 42 7 = nI (c 23) ∧ ∀ i j, i < c 23 → j < c 23 → σ.1 47 (i * 6 + j) = dv c i j
theorem BW.fr {c : Cf} {σ σ' : HS} (h : BW c σ) (hf : fr [45, 46] σ σ') : BW c σ' := by
  unfold BW
  rw [hf 42 (by simp), hf 47 (by simp)]
  exact h
theorem UB_b {c : Cf} (w : WF c) {p : WE} (h : UB c p) {x : Nat} (hx : x < c 23) : p.1 x ≤ 35 ∧ p.2 x ≤ 30 := by
  have h1 := h x hx
  have h2 := wy_b w hx
  have h3 := ea_b w hx
  omega
theorem MW.st {a b : Nat} (hab : a ≠ b) {c : Cf} {p : WE} {σ : HS} (h : MW a b c p σ) {i j : Nat} {v v' : Nat} : MW a b c (un p.1 j v, un p.2 i v') (sI (sI σ a j (nI v)) b i (nI v')) := by
  intro x hx
  have h0 := h x hx
  rw [s_I2 _ _ _ hab, s_I1, s_I1, s_I2 _ _ _ (Ne.symm hab)]
  show _ = nI (un p.1 j v x) ∧ _ = nI (un p.2 i v' x)
  unfold un upd
  constructor
  · by_cases e : x = j
    · rw [if_pos e, if_pos e]
    · rw [if_neg e, if_neg e]; exact h0.1
  · by_cases e : x = i
    · rw [if_pos e, if_pos e]
    · rw [if_neg e, if_neg e]; exact h0.2
theorem c_mw57 {c : Cf} (w : WF c) (k : Int32 → Int32 → HS → Option HS) {i : Nat} (hi : i < c 23) {p : WE} (hp : UB c p) (x1 : Int32) : ∀ j, j ≤ c 23 → ∀ n, c 23 < j + n → ∀ σ, BW c σ → MW 45 46 c (rlJ c i p j) σ → ∃ σ', fr [45, 46] σ σ' ∧ MW 45 46 c (rlJ c i p (c 23)) σ' ∧ f_X0_measureWays_57 k n x1 (nI i) (nI j) σ = k x1 (nI i) σ' := by
  have hn := w.p_n
  refine dn_ind ?_ ?_
  · intro n hn' σ hb hm
    obtain ⟨n, rfl⟩ : ∃ m, n = m + 1 := ⟨n - 1, by omega⟩
    refine ⟨σ, fr.rf _ _, hm, ?_⟩
    rw [f_X0_measureWays_57, hb.1, if_pos (by rw [z_le (by omega) (by omega)]; omega)]
  · intro j hj ih n hn' σ hb hm
    obtain ⟨n, rfl⟩ : ∃ m, n = m + 1 := ⟨n - 1, by omega⟩
    have hu := rlJ_UB w hi hp j (by omega)
    generalize hP : rlJ c i p j = P at hm hu
    have ih' : ∀ σ, BW c σ → MW 45 46 c (rlx c i j P) σ → ∃ σ', fr [45, 46] σ σ' ∧ MW 45 46 c (rlJ c i p (c 23)) σ' ∧ f_X0_measureWays_57 k n x1 (nI i) (nI (j + 1)) σ = k x1 (nI i) σ' := by
      intro τ h1 h2
      refine ih n (by omega) τ h1 ?_
      rw [rlJ, hP]; exact h2
    rw [f_X0_measureWays_57, hb.1, if_neg (by rw [z_le (by omega) (by omega)]; omega), c_pair, z_bi]
    simp (disch := omega) only [z_ld, z_bi]
    rw [hb.2 i j hi hj]
    unfold dv
    by_cases e : ct c i j = 0
    · rw [if_pos e, if_pos (show (-nI 1 : Int32) = -1 from rfl)]
      simp only [z_lit, z_add]
      exact ih' σ hb (by rw [rlx, if_pos e]; exact hm)
    · rw [if_neg e]
      have hd := dd_le w (i := i) hj
      have b1 := UB_b w hu hi
      have b2 := UB_b w hu hj
      rw [if_neg (show ¬ nI (dd c i j) = -1 from z_ne (by omega) (k := 1) (by omega))]
      rw [(hm j hj).1, (hm i hi).1, z_add, c_max (by omega) (by omega), z_bi]
      simp (disch := omega) only [z_st, z_bi, z_ld]
      rw [s_I2 _ _ _ (by omega), (hm i hi).2, (hm j hj).2, z_add, c_max (by omega) (by omega), z_bi]
      simp (disch := omega) only [z_st, z_bi]
      simp only [z_lit, z_add]
      have f1 : fr [45, 46] σ (sI (sI σ 45 j (nI (max (P.1 j) (dd c i j + P.1 i)))) 46 i (nI (max (P.2 i) (dd c i j + P.2 j)))) := (fr.sI (by simp)).tr (fr.sI (by simp))
      obtain ⟨σ', a1, a2, a3⟩ := ih' _ (hb.fr f1) (by rw [rlx, if_neg e]; exact MW.st (by omega) hm)
      exact ⟨σ', f1.tr a1, a2, a3⟩
theorem c_mw47 {c : Cf} (w : WF c) (k : Int32 → HS → Option HS) {p : WE} (hp : UB c p) (x1 : Int32) : ∀ i, i ≤ c 23 → ∀ n, c 23 < i + n → ∀ σ, BW c σ → MW 45 46 c (rlI c p i) σ → ∃ σ', fr [45, 46] σ σ' ∧ MW 45 46 c (rlI c p (c 23)) σ' ∧ f_X0_measureWays_47 k n x1 (nI i) σ = k x1 σ' := by
  have hn := w.p_n
  refine dn_ind ?_ ?_
  · intro n hn' σ hb hm
    obtain ⟨n, rfl⟩ : ∃ m, n = m + 1 := ⟨n - 1, by omega⟩
    refine ⟨σ, fr.rf _ _, hm, ?_⟩
    rw [f_X0_measureWays_47, hb.1, if_pos (by rw [z_le (by omega) (by omega)]; omega)]
  · intro i hi ih n hn' σ hb hm
    obtain ⟨n, rfl⟩ : ∃ m, n = m + 1 := ⟨n - 1, by omega⟩
    rw [f_X0_measureWays_47, hb.1, if_neg (by rw [z_le (by omega) (by omega)]; omega)]
    obtain ⟨σ1, a1, a2, a3⟩ := c_mw57 w (fun e11 e12 σ13 => f_X0_measureWays_47 k n e11 (e12 + 1) σ13) hi (rlI_UB w hp i (by omega)) x1 0 (by omega) FU (by have := FU_b; omega) σ hb hm
    rw [show nI 0 = (0 : Int32) from rfl] at a3
    rw [a3]
    obtain ⟨σ2, b1, b2, b3⟩ := ih n (by omega) σ1 (hb.fr a1) a2
    refine ⟨σ2, a1.tr b1, b2, ?_⟩
    show f_X0_measureWays_47 k n x1 (nI i + nI 1) σ1 = _
    rw [z_add, b3]
theorem c_mw37 {c : Cf} (w : WF c) : ∀ t, t ≤ c 23 → ∀ n, c 23 < t + n → ∀ σ, BW c σ → MW 45 46 c (rlN c t) σ → ∃ σ', fr [45, 46] σ σ' ∧ MW 45 46 c (rlN c (c 23)) σ' ∧ f_X0_measureWays_37 n (nI t) σ = some σ' := by
  have hn := w.p_n
  refine dn_ind ?_ ?_
  · intro n hn' σ hb hm
    obtain ⟨n, rfl⟩ : ∃ m, n = m + 1 := ⟨n - 1, by omega⟩
    refine ⟨σ, fr.rf _ _, hm, ?_⟩
    rw [f_X0_measureWays_37, hb.1, if_pos (by rw [z_le (by omega) (by omega)]; omega)]
  · intro t ht ih n hn' σ hb hm
    obtain ⟨n, rfl⟩ : ∃ m, n = m + 1 := ⟨n - 1, by omega⟩
    rw [f_X0_measureWays_37, hb.1, if_neg (by rw [z_le (by omega) (by omega)]; omega)]
    obtain ⟨σ1, a1, a2, a3⟩ := c_mw47 w (fun e14 σ15 => f_X0_measureWays_37 n (e14 + 1) σ15) (rlN_UB w t) (nI t) 0 (by omega) FU (by have := FU_b; omega) σ hb hm
    rw [show nI 0 = (0 : Int32) from rfl] at a3
    rw [a3]
    obtain ⟨σ2, b1, b2, b3⟩ := ih n (by omega) σ1 (hb.fr a1) a2
    refine ⟨σ2, a1.tr b1, b2, ?_⟩
    show f_X0_measureWays_37 n (nI t + nI 1) σ1 = _
    rw [z_add, b3]
theorem c_measureWays {c : Cf} (w : WF c) {σ : HS} (hb : BW c σ) (hs : ∀ x, x < c 23 → σ.1 44 x = nI (sp c x)) : ∃ σ', f_X0_measureWays σ = some σ' ∧ fr [45, 46] σ σ' ∧ MW 45 46 c (wy c, ea c) σ' := by
  have hn := w.p_n
  have key : ∀ i, i ≤ c 23 → ∀ n, c 23 < i + n → ∀ σ, BW c σ → (∀ x, x < c 23 → σ.1 44 x = nI (sp c x)) → (∀ x, x < i → σ.1 45 x = nI (sp c x) ∧ σ.1 46 x = nI 0) → ∃ σ', f_X0_measureWays_2 n (nI i) σ = some σ' ∧ fr [45, 46] σ σ' ∧ MW 45 46 c (wy c, ea c) σ' := by
    refine dn_ind ?_ ?_
    · intro n hn' σ hb hs hm
      obtain ⟨n, rfl⟩ : ∃ m, n = m + 1 := ⟨n - 1, by omega⟩
      rw [f_X0_measureWays_2, hb.1, if_pos (by rw [z_le (by omega) (by omega)]; omega)]
      obtain ⟨σ', a1, a2, a3⟩ := c_mw37 w 0 (by omega) FU (by have := FU_b; omega) σ hb hm
      rw [show nI 0 = (0 : Int32) from rfl] at a3
      refine ⟨σ', a3, a1, ?_⟩
      intro x hx
      have := rlN_end w (t := c 23) (by omega) hx
      rw [(a2 x hx).1, (a2 x hx).2, this.1, this.2]
      exact ⟨rfl, rfl⟩
    · intro i hi ih n hn' σ hb hs hm
      obtain ⟨n, rfl⟩ : ∃ m, n = m + 1 := ⟨n - 1, by omega⟩
      rw [f_X0_measureWays_2, hb.1, if_neg (by rw [z_le (by omega) (by omega)]; omega)]
      rw [z_ld (by omega) (by omega), z_bi, hs i hi, z_st (by omega) (by omega), z_bi, z_st (by omega) (by omega), z_bi]
      have f1 : fr [45, 46] σ (sI (sI σ 45 i (nI (sp c i))) 46 i 0) := (fr.sI (by simp)).tr (fr.sI (by simp))
      obtain ⟨σ', a1, a2, a3⟩ := ih n (by omega) _ (hb.fr f1) (by rw [f1 44 (by simp)]; exact hs) (by
        intro x hx
        rw [s_I2 _ _ _ (by omega), s_I1, s_I1, s_I2 _ _ _ (by omega)]
        unfold upd
        by_cases e : x = i
        · rw [if_pos e, if_pos e, e]; exact ⟨rfl, rfl⟩
        · rw [if_neg e, if_neg e]; exact hm x (by omega))
      refine ⟨σ', ?_, f1.tr a2, a3⟩
      rw [← a1]
      rw [show (1 : Int32) = nI 1 from rfl, z_add]
  rw [f_X0_measureWays]
  exact key 0 (by omega) FU (by have := FU_b; omega) σ hb hs (fun x hx => by omega)
