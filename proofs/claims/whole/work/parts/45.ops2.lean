theorem m_leads {c : Cf} {σ : HS} (h : MR c σ) (w : WF c) {a g : Nat} (ha : a < c 23) (hg : g < c 23) : f_X9_leads (nI a) (nI g) σ = some (nI (b2 ((rdN c (1 <<< a) (c 23)).testBit g)), σ) := by
  have h1 := w.p_n
  have hp := pw6 h1
  have h23 : σ.1 68 23 = nI (c 23) := h 23 (by omega)
  have hin : ∀ (k : Int32 → Int32 → Int32 → Int32 → HS → Option (Int32 × HS)) (R i : Nat), R < 64 → i < c 23 → ∀ (y : Int32), f_X9_leads_32 k FU (nI g) (nI R) y (nI i) (nI 0) σ = k (nI g) (nI (if R.testBit i then R ||| nb c i else R)) y (nI i) σ := by
    intro k R i hR hi y
    by_cases e : R.testBit i = true
    · have key : ∀ j, j ≤ c 23 → ∀ n, c 23 < j + n → f_X9_leads_32 k n (nI g) (nI (R ||| nbF (fun j => decide (nd c i j ≠ 0)) j)) y (nI i) (nI j) σ = k (nI g) (nI (R ||| nb c i)) y (nI i) σ := by
        refine dn_ind ?_ ?_
        · intro n hn
          obtain ⟨n, rfl⟩ : ∃ m, n = m + 1 := ⟨n - 1, by omega⟩
          rw [f_X9_leads_32]
          simp (disch := omega) only [z_lit, z_ld, h, z_bi, z_le]
          rw [if_pos (by omega)]
          rfl
        · intro j hj ih n hn
          obtain ⟨n, rfl⟩ : ∃ m, n = m + 1 := ⟨n - 1, by omega⟩
          have ih := ih n (by omega)
          have hb : R ||| nbF (fun j => decide (nd c i j ≠ 0)) j < 64 := by
            have : nbF (fun j => decide (nd c i j ≠ 0)) j < 2 ^ 6 := Nat.lt_of_lt_of_le (nbF_lt _ _) (Nat.pow_le_pow_right (by omega) (by omega))
            exact Nat.or_lt_two_pow (n := 6) hR this
          have hnd := w.p_nd (show i < 6 by omega) (show j < 6 by omega)
          rw [nbF, ← Nat.or_assoc] at ih
          rw [f_X9_leads_32]
          simp (disch := omega) only [z_lit, z_ld, h, z_bi, z_le, m_has, b2_0, m_needOf, z_eq, z_31, z_shl, z_or, z_add]
          rw [if_neg (by omega)]
          have e2 : (R ||| nbF (fun j => decide (nd c i j ≠ 0)) j).testBit i = true := by rw [Nat.testBit_or, e]; rfl
          rw [e2]
          rw [if_neg (by decide)]
          by_cases d : nd c i j = 0
          · simpa [d] using ih
          · simpa [d] using ih
      have := key 0 (by omega) FU (by have := FU_b; omega)
      simpa [nbF, e] using this
    · have e' : R.testBit i = false := by simpa using e
      rw [FU_s 1 (by omega), f_X9_leads_32]
      simp (disch := omega) only [z_lit, z_ld, h, z_bi, z_le, m_has, b2_0, e']
      simp
  have hmid : ∀ (k : Int32 → Int32 → Int32 → HS → Option (Int32 × HS)) (S : Nat), S < 2 ^ c 23 → ∀ (y : Int32) i, i ≤ c 23 → ∀ n, c 23 < i + n → f_X9_leads_17 k n (nI g) (nI (rdF c S i)) y (nI i) σ = k (nI g) (nI (rd c S)) y σ := by
    intro k S hS y
    refine dn_ind ?_ ?_
    · intro n hn
      obtain ⟨n, rfl⟩ : ∃ m, n = m + 1 := ⟨n - 1, by omega⟩
      rw [f_X9_leads_17]
      simp (disch := omega) only [z_lit, z_ld, h, z_bi, z_le]
      rw [if_pos (by omega)]
      rfl
    · intro i hi ih n hn
      obtain ⟨n, rfl⟩ : ∃ m, n = m + 1 := ⟨n - 1, by omega⟩
      have ih := ih n (by omega)
      have hb := rdF_lt hS i
      rw [rdF] at ih
      rw [f_X9_leads_17]
      simp (disch := omega) only [z_lit, z_ld, h, z_bi, z_le]
      rw [if_neg (by omega)]
      refine Eq.trans (hin _ (rdF c S i) i (by omega) hi y) ?_
      simp only [z_add]
      exact ih
  have hS : 1 <<< a < 2 ^ c 23 := by rw [Nat.one_shiftLeft]; exact Nat.pow_lt_pow_right (by omega) ha
  have key : ∀ i, i ≤ 6 → ∀ n, 6 < i + n → f_X9_leads_7 n (nI g) (nI (rdN c (1 <<< a) i)) (nI i) σ = some (nI (b2 ((rdN c (1 <<< a) 6).testBit g)), σ) := by
    refine dn_ind ?_ ?_
    · intro n hn
      obtain ⟨n, rfl⟩ : ∃ m, n = m + 1 := ⟨n - 1, by omega⟩
      have hb := rdN_lt hS 6
      rw [f_X9_leads_7]
      simp (disch := omega) only [z_lit, z_le, m_has, z_bi, z_bzb]
      rw [if_pos (by omega)]
    · intro i hi ih n hn
      obtain ⟨n, rfl⟩ : ∃ m, n = m + 1 := ⟨n - 1, by omega⟩
      rw [f_X9_leads_7]
      simp (disch := omega) only [z_lit, z_le]
      rw [if_neg (by omega)]
      refine Eq.trans (hmid _ (rdN c (1 <<< a) i) (rdN_lt hS i) (nI i) 0 (by omega) FU (by have := FU_b; omega)) ?_
      have ih := ih n (by omega)
      simp only [z_add]
      exact ih
  rw [f_X9_leads]
  simp (disch := omega) only [z_lit, z_31, z_shl]
  rw [← rdN_more hS h1]
  exact key 0 (by omega) FU (by have := FU_b; omega)
theorem m_doNeeds {c : Cf} {σ : HS} (h : MR c σ) (w : WF c) (x y so : Int32) : ∃ σ', f_X9_doNeeds x y so σ = some ((opN x y so c).1, σ') ∧ MP c (opN x y so c).2 σ σ' := by
  have h1 := w.p_n
  rw [f_X9_doNeeds, m_isOne h w]
  simp only [z_bi, z_lit, b2_0]
  rw [m_isOne h w]
  simp only [z_bi, b2_0]
  unfold opN
  rw [show decide (0 ≤ x.toInt ∧ x.toInt < (c 23 : Int)) = isI c x from rfl, show decide (0 ≤ y.toInt ∧ y.toInt < (c 23 : Int)) = isI c y from rfl]
  by_cases hx : isI c x = true
  · by_cases hy : isI c y = true
    · simp only [hx, hy, Bool.true_eq_false, if_false, Bool.true_and]
      by_cases e : x = y
      · simp only [e, if_true, decide_true, Bool.not_true, Bool.false_and, Bool.false_eq_true, if_false]
        exact ⟨σ, rfl, MP.rf h⟩
      · simp (disch := omega) only [e, if_false, decide_false, Bool.not_false, Bool.true_and, m_inR, z_bi, b2_0]
        simp only [show ((↑(0 : Nat) : Int)) = 0 from rfl, show ((↑(2 : Nat) : Int)) = 2 from rfl]
        by_cases hs : okR 0 2 so = true
        · obtain ⟨i, i1, i2, i3, i4⟩ := isI_nI hx
          obtain ⟨j, j1, j2, j3, j4⟩ := isI_nI hy
          obtain ⟨s, s1, s2, s3, s4, s5⟩ := okR_nI (lo := 0) (hi := 2) hs
          rw [i4, j4, s5]
          simp only [hs, Bool.true_eq_false, if_false, if_true]
          rw [i3, j3, s4]
          simp (disch := omega) only [z_0, z_eq, ne_eq]
          have hw : ∃ σ', f_X9_doNeeds_49 (nI i) (nI j) (nI s) σ = some (nI (nd c i j), σ') ∧ MP c (cu c (30 + 6 * i + j) s) σ σ' := by
            rw [f_X9_doNeeds_49]
            simp (disch := omega) only [m_needOf, h, z_bi, z_lit, z_mul, z_add, z_st]
            exact ⟨_, rfl, MP.one h (by omega)⟩
          by_cases e0 : s = 0
          · simp only [e0, if_true, not_true_eq_false, false_and, if_false]
            rw [e0] at hw
            exact hw
          · rw [if_neg e0, m_leads h w j1 i1]
            simp only [z_bi, b2_0, e0, not_false_eq_true, true_and]
            cases hr : (rdN c (1 <<< j) (c 23)).testBit i with
            | false =>
              simp only [if_true, Bool.false_eq_true, if_false]
              exact hw
            | true =>
              simp only [Bool.true_eq_false, if_false, if_true]
              exact ⟨σ, rfl, MP.rf h⟩
        · have hs' : okR 0 2 so = false := by simpa using hs
          simp only [hs', if_true, Bool.false_eq_true, if_false]
          exact ⟨σ, rfl, MP.rf h⟩
    · have hy' : isI c y = false := by simpa using hy
      simp only [hx, hy', Bool.true_eq_false, if_false, if_true, Bool.and_false, Bool.false_and, Bool.false_eq_true]
      exact ⟨σ, rfl, MP.rf h⟩
  · have hx' : isI c x = false := by simpa using hx
    simp only [hx', if_true, Bool.false_and, Bool.false_eq_true, if_false]
    exact ⟨σ, rfl, MP.rf h⟩
/-- row by row: what a drop has done up to place m of the needs -/
def drM (g : Nat) (c : Cf) (m : Nat) : Cf := fun k =>
  if 24 + g ≤ k ∧ k < 29 then c (k + 1)
  else if 30 ≤ k ∧ k < 30 + m then drC g c k
  else c k
theorem drM_step (g : Nat) (c : Cf) {i j : Nat} (hi : i < 6) (hj : j < 6) : cu (drM g c (6 * i + j)) (30 + 6 * i + j) (drC g c (30 + 6 * i + j)) = drM g c (6 * i + j + 1) := by
  funext k
  unfold cu drM
  by_cases e : k = 30 + 6 * i + j
  · rw [if_pos e, if_neg (by omega), if_pos (by omega), e]
  · rw [if_neg e]
    by_cases e1 : 24 + g ≤ k ∧ k < 29
    · rw [if_pos e1, if_pos e1]
    · rw [if_neg e1, if_neg e1]
      by_cases e2 : 30 ≤ k ∧ k < 30 + (6 * i + j)
      · rw [if_pos e2, if_pos (by omega)]
      · rw [if_neg e2, if_neg (by omega)]
theorem drC_at (g : Nat) (c : Cf) {i j : Nat} (hi : i < 6) (hj : j < 6) : drC g c (30 + 6 * i + j) = if (if g ≤ i then i + 1 else i) < 6 ∧ (if g ≤ j then j + 1 else j) < 6 then nd c (if g ≤ i then i + 1 else i) (if g ≤ j then j + 1 else j) else 0 := by
  unfold drC
  rw [if_neg (by omega), if_neg (by omega), if_pos (by omega)]
  have e1 : (30 + 6 * i + j - 30) / 6 = i := by omega
  have e2 : (30 + 6 * i + j - 30) % 6 = j := by omega
  simp only [e1, e2]
theorem drM_nd (g : Nat) (c : Cf) {m i j : Nat} (hi : i < 6) (hj : j < 6) (hm : m ≤ 6 * i + j) : nd (drM g c m) i j = nd c i j := by
  unfold nd drM
  rw [if_neg (by omega), if_neg (by omega)]
theorem m_doDrops {c : Cf} {σ : HS} (h : MR c σ) (w : WF c) (x : Int32) : ∃ σ', f_X9_doDrops x σ = some ((opD x c).1, σ') ∧ MP c (opD x c).2 σ σ' := by
  have h1 := w.p_n
  rw [f_X9_doDrops, m_isOne h w]
  simp only [z_bi, z_lit, b2_0]
  rw [show decide (0 ≤ x.toInt ∧ x.toInt < (c 23 : Int)) = isI c x from rfl]
  unfold opD
  by_cases hx : isI c x = true
  · obtain ⟨g, g1, g2, g3, g4⟩ := isI_nI hx
    simp only [hx, Bool.true_eq_false, if_false, if_true, g4]
    rw [g3]
    have h23 : ∀ m, drM g c m 23 = c 23 := fun m => by unfold drM; rw [if_neg (by omega), if_neg (by omega)]
    -- the inner loops over the needs
    have hin : ∀ (k : Int32 → Int32 → HS → Option (Int32 × HS)) (i : Nat), i < 6 → ∀ j, j ≤ 6 → ∀ (n : Nat) (τ : HS), 6 < j + n → MP c (drM g c (6 * i + j)) σ τ → ∃ τ', MP c (drM g c (6 * (i + 1))) σ τ' ∧ f_X9_doDrops_54 k n (nI g) (nI i) (nI j) τ = k (nI g) (nI i) τ' := by
      intro k i hi
      refine dn_ind ?_ ?_
      · intro n τ hn hτ
        obtain ⟨n, rfl⟩ : ∃ m, n = m + 1 := ⟨n - 1, by omega⟩
        rw [f_X9_doDrops_54]
        simp (disch := omega) only [z_lit, z_le]
        rw [if_pos (by omega)]
        exact ⟨τ, by rw [show 6 * (i + 1) = 6 * i + 6 by omega]; exact hτ, rfl⟩
      · intro j hj ih n τ hn hτ
        obtain ⟨n, rfl⟩ : ∃ m, n = m + 1 := ⟨n - 1, by omega⟩
        have ih := fun τ' => ih n τ' (by omega)
        have hw : ∀ i' j', (i' = if g ≤ i then i + 1 else i) → (j' = if g ≤ j then j + 1 else j) → ∃ τ', MP c (drM g c (6 * (i + 1))) σ τ' ∧ f_X9_doDrops_86 (f_X9_doDrops_54 k n) (nI g) (nI i) (nI j) (nI i') (nI j') τ = k (nI g) (nI i) τ' := by
          intro i' j' ei ej
          have hi' : i' ≤ 6 ∧ i ≤ i' := by rw [ei]; split <;> omega
          have hj' : j' ≤ 6 ∧ j ≤ j' := by rw [ej]; split <;> omega
          have hs := drM_step g c hi hj
          rw [show 6 * i + j + 1 = 6 * i + (j + 1) by omega] at hs
          rw [drC_at g c hi hj, ← ei, ← ej] at hs
          rw [f_X9_doDrops_86]
          simp (disch := omega) only [z_lit, z_le, z_mul, z_add, z_st, z_bi]
          by_cases q1 : 6 ≤ i'
          · rw [if_neg (by omega)] at hs
            rw [if_pos q1]
            exact ih _ (by rw [← hs]; exact hτ.tr (MP.one hτ.1 (by omega)))
          · by_cases q2 : 6 ≤ j'
            · rw [if_neg (by omega)] at hs
              rw [if_neg q1, if_pos q2]
              exact ih _ (by rw [← hs]; exact hτ.tr (MP.one hτ.1 (by omega)))
            · rw [if_pos (by omega)] at hs
              rw [if_neg q1, if_neg q2, m_needOf hτ.1 (by omega) (by omega), drM_nd g c (by omega) (by omega) (by omega)]
              simp (disch := omega) only [z_bi, z_st]
              exact ih _ (by rw [← hs]; exact hτ.tr (MP.one hτ.1 (by omega)))
        rw [f_X9_doDrops_54]
        simp (disch := omega) only [z_lit, z_le, z_add]
        rw [if_neg (by omega)]
        by_cases q1 : g ≤ i
        · rw [if_pos q1, f_X9_doDrops_72]
          simp (disch := omega) only [z_lit, z_le, z_add]
          by_cases q2 : g ≤ j
          · rw [if_pos q2]
            exact hw _ _ (by rw [if_pos q1]) (by rw [if_pos q2])
          · rw [if_neg q2]
            exact hw _ _ (by rw [if_pos q1]) (by rw [if_neg q2])
        · rw [if_neg q1, f_X9_doDrops_72]
          simp (disch := omega) only [z_lit, z_le, z_add]
          by_cases q2 : g ≤ j
          · rw [if_pos q2]
            exact hw _ _ (by rw [if_neg q1]) (by rw [if_pos q2])
          · rw [if_neg q2]
            exact hw _ _ (by rw [if_neg q1]) (by rw [if_neg q2])
    have hout : ∀ i, i ≤ 6 → ∀ (n : Nat) (τ : HS), 6 < i + n → MP c (drM g c (6 * i)) σ τ → ∃ σ', f_X9_doDrops_46 n (nI g) (nI i) τ = some (nI (c 23 - 1), σ') ∧ MP c (drC g c) σ σ' := by
      refine dn_ind ?_ ?_
      · intro n τ hn hτ
        obtain ⟨n, rfl⟩ : ∃ m, n = m + 1 := ⟨n - 1, by omega⟩
        have q1 := MR_cu hτ.1 (k := 23) (v := c 23 - 1)
        rw [f_X9_doDrops_46]
        simp (disch := omega) only [z_lit, z_le, z_ld, hτ.1, h23, z_bi, z_sub, z_st, q1, cu_1]
        rw [if_pos (by omega)]
        refine ⟨_, rfl, ?_⟩
        have e : cu (drM g c (6 * 6)) 23 (c 23 - 1) = drC g c := by
          funext k
          unfold cu drM
          by_cases e : k = 23
          · rw [if_pos e]; unfold drC; rw [if_pos e]
          · rw [if_neg e]
            by_cases e1 : 24 + g ≤ k ∧ k < 29
            · rw [if_pos e1]; unfold drC; rw [if_neg e, if_pos e1]
            · rw [if_neg e1]
              by_cases e2 : 30 ≤ k ∧ k < 66
              · rw [if_pos (by omega)]
              · rw [if_neg (by omega)]; unfold drC; rw [if_neg e, if_neg e1, if_neg e2]
        rw [← e]
        exact hτ.tr (MP.one hτ.1 (by omega))
      · intro i hi ih n τ hn hτ
        obtain ⟨n, rfl⟩ : ∃ m, n = m + 1 := ⟨n - 1, by omega⟩
        rw [f_X9_doDrops_46]
        simp (disch := omega) only [z_lit, z_le]
        rw [if_neg (by omega)]
        obtain ⟨τ', t1, t2⟩ := hin (fun e9 e10 σ11 => f_X9_doDrops_46 n e9 (e10 + 1) σ11) i hi 0 (by omega) FU τ (by have := FU_b; omega) hτ
        obtain ⟨σ', u1, u2⟩ := ih n τ' (by omega) t1
        refine ⟨σ', ?_, u2⟩
        refine Eq.trans t2 ?_
        simp only [z_lit, z_add]
        exact u1
    have hko : ∀ (i : Nat), i ≤ 5 → g ≤ i → ∀ (n : Nat) (τ : HS), 5 < i + n → MP c (fun k => if 24 + g ≤ k ∧ k < 24 + i then c (k + 1) else c k) σ τ → ∃ σ', f_X9_doDrops_13 n (nI g) (nI i) τ = some (nI (c 23 - 1), σ') ∧ MP c (drC g c) σ σ' := by
      refine dn_ind ?_ ?_
      · intro hgi n τ hn hτ
        obtain ⟨n, rfl⟩ : ∃ m, n = m + 1 := ⟨n - 1, by omega⟩
        rw [f_X9_doDrops_13]
        simp (disch := omega) only [z_lit, z_le]
        rw [if_pos (by omega)]
        refine hout 0 (by omega) FU τ (by have := FU_b; omega) ?_
        have e : drM g c (6 * 0) = (fun k => if 24 + g ≤ k ∧ k < 24 + 5 then c (k + 1) else c k) := by
          funext k
          unfold drM
          by_cases e1 : 24 + g ≤ k ∧ k < 29
          · rw [if_pos e1, if_pos (by omega)]
          · rw [if_neg e1, if_neg (by omega), if_neg (by omega)]
        rw [e]
        exact hτ
      · intro i hi ih hgi n τ hn hτ
        obtain ⟨n, rfl⟩ : ∃ m, n = m + 1 := ⟨n - 1, by omega⟩
        rw [f_X9_doDrops_13]
        have hr : τ.1 68 (24 + i + 1) = nI (c (24 + i + 1)) := by
          rw [hτ.1 _ (by omega)]
          show nI (if 24 + g ≤ 24 + i + 1 ∧ 24 + i + 1 < 24 + i then _ else _) = _
          rw [if_neg (by omega)]
        simp (disch := omega) only [z_lit, z_le, z_add, z_ld, z_bi, z_st, hr]
        rw [if_neg (by omega)]
        refine ih (by omega) n _ (by omega) ?_
        have e : cu (fun k => if 24 + g ≤ k ∧ k < 24 + i then c (k + 1) else c k) (24 + i) (c (24 + i + 1)) = (fun k => if 24 + g ≤ k ∧ k < 24 + (i + 1) then c (k + 1) else c k) := by
          funext k
          unfold cu
          by_cases e1 : k = 24 + i
          · subst e1
            simp [show 24 + i < 24 + (i + 1) by omega, hgi]
          · simp only [if_neg e1]
            by_cases e2 : 24 + g ≤ k ∧ k < 24 + i
            · rw [if_pos e2, if_pos (by omega)]
            · rw [if_neg e2, if_neg (by omega)]
        rw [← e]
        exact hτ.tr (MP.one hτ.1 (by omega))
    refine hko g (by omega) (by omega) FU σ (by have := FU_b; omega) ?_
    have e : (fun k => if 24 + g ≤ k ∧ k < 24 + g then c (k + 1) else c k) = c := by
      funext k
      rw [if_neg (by omega)]
    rw [e]
    exact MP.rf h
  · have hx' : isI c x = false := by simpa using hx
    simp only [hx', if_true, Bool.false_eq_true, if_false]
    exact ⟨σ, rfl, MP.rf h⟩
