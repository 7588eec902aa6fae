-- the abstract state of a run: configuration, states back (how many, which), text (length, bytes), refusals
abbrev AS : Type := Cf × Nat × (Nat → Cf) × Nat × (Nat → Nat) × (Nat → Int32)
abbrev aC (a : AS) : Cf := a.1
abbrev aN (a : AS) : Nat := a.2.1
abbrev aH (a : AS) : Nat → Cf := a.2.2.1
abbrev aL (a : AS) : Nat := a.2.2.2.1
abbrev aT (a : AS) : Nat → Nat := a.2.2.2.2.1
abbrev aR (a : AS) : Nat → Int32 := a.2.2.2.2.2
def WA (a : AS) : Prop := WF (aC a) ∧ aN a ≤ 5 ∧ (∀ j, j < aN a → WF (aH a j)) ∧ aL a ≤ 120 ∧ ∀ k, k < aL a → aT a k < 128
def aRef (k : Nat) (a : AS) : AS := (aC a, aN a, aH a, aL a, aT a, upd (aR a) k (aR a k + 1))
def aPush (c' : Cf) (a : AS) : AS := (c', (if aN a = 5 then 5 else aN a + 1), (if aN a = 5 then fun j => if j = 4 then aC a else aH a (j + 1) else fun j => if j = aN a then aC a else aH a j), aL a, aT a, aR a)
def aSet (r : Int32 × Cf) (a : AS) : Int32 × AS := if r.1 < 0 then (r.1, aRef ((-2 - r.1).toNatClampNeg) a) else (r.1, aPush r.2 a)
theorem WA_ref {a : AS} (w : WA a) (k : Nat) : WA (aRef k a) := w
theorem WA_push {a : AS} (w : WA a) {c' : Cf} (hc : WF c') : WA (aPush c' a) := by
  obtain ⟨h1, h2, h3, h4, h5⟩ := w
  refine ⟨hc, ?_, ?_, h4, h5⟩
  · show (if aN a = 5 then 5 else aN a + 1) ≤ 5
    split <;> omega
  · intro j hj
    show WF ((if aN a = 5 then fun j => if j = 4 then aC a else aH a (j + 1) else fun j => if j = aN a then aC a else aH a j) j)
    have hj : j < (if aN a = 5 then 5 else aN a + 1) := hj
    by_cases e : aN a = 5
    · rw [if_pos e] at hj ⊢
      by_cases q : j = 4
      · rw [if_pos q]; exact h1
      · rw [if_neg q]; exact h3 _ (by omega)
    · rw [if_neg e] at hj ⊢
      by_cases q : j = aN a
      · rw [if_pos q]; exact h1
      · rw [if_neg q]; exact h3 _ (by omega)
theorem WA_set {a : AS} (w : WA a) {r : Int32 × Cf} (hr : WF r.2) : WA (aSet r a).2 := by
  unfold aSet
  split
  · exact WA_ref w _
  · exact WA_push w hr
/-- the class's cells (caches aside) -/
def TRl (a : AS) (σ : HS) : Prop := ∃ nx, nx < 5 ∧ σ.1 11 1 = nI nx ∧ σ.1 11 2 = nI (aN a) ∧ ∀ j, j < aN a → SR (aH a j) (13 + 5 * ((nx + 5 - aN a + j) % 5)) σ
def IC (a : AS) (σ : HS) : Prop := SR (aC a) 1 σ ∧ TRl a σ ∧ (∀ k, k < 4 → σ.1 66 k = aR a k) ∧ σ.1 62 3 = nI (aL a) ∧ ∀ k, k < aL a → σ.1 63 k = nI (aT a k)
/-- the reference's cells (its cache aside) -/
def IM (a : AS) (σ : HS) : Prop := MR (aC a) σ ∧ σ.1 67 3 = nI (aN a) ∧ (∀ j, j < aN a → ∀ k, k < 66 → σ.1 70 (66 * j + k) = nI (aH a j k)) ∧ (∀ k, k < 4 → σ.1 71 k = aR a k) ∧ σ.1 67 18 = nI (aL a) ∧ ∀ k, k < aL a → σ.1 81 k = nI (aT a k)
def frC (σ σ' : HS) : Prop := ∀ o, 67 ≤ o → σ'.1 o = σ.1 o
def frM (σ σ' : HS) : Prop := ∀ o, o < 67 → σ'.1 o = σ.1 o
theorem fr.toC {l : List Nat} {σ σ' : HS} (h : fr l σ σ') (hl : ∀ o, o ∈ l → o < 67) : frC σ σ' := fun o ho => h o (fun q => by have := hl o q; omega)
theorem fr.toM {l : List Nat} {σ σ' : HS} (h : fr l σ σ') (hl : ∀ o, o ∈ l → 67 ≤ o) : frM σ σ' := fun o ho => h o (fun q => by have := hl o q; omega)
theorem IC.byM {a : AS} {σ σ' : HS} (h : IC a σ) (hf : frM σ σ') : IC a σ' := by
  obtain ⟨h1, ⟨nx, n1, n2, n3, n4⟩, h3, h4, h5⟩ := h
  have hs : ∀ c s, s + 4 < 67 → SR c s σ → SR c s σ' := by
    intro c s hs h
    unfold SR
    rw [hf s (by omega), hf (s + 1) (by omega), hf (s + 2) (by omega), hf (s + 3) (by omega), hf (s + 4) (by omega)]
    exact h
  refine ⟨hs _ _ (by omega) h1, ⟨nx, n1, by rw [hf 11 (by omega)]; exact n2, by rw [hf 11 (by omega)]; exact n3, fun j hj => hs _ _ (by omega) (n4 j hj)⟩, ?_, by rw [hf 62 (by omega)]; exact h4, ?_⟩
  · rw [hf 66 (by omega)]; exact h3
  · rw [hf 63 (by omega)]; exact h5
theorem IM.byC {a : AS} {σ σ' : HS} (h : IM a σ) (hf : frC σ σ') : IM a σ' := by
  obtain ⟨h1, h2, h3, h4, h5, h6⟩ := h
  unfold IM MR
  rw [hf 68 (by omega), hf 67 (by omega), hf 70 (by omega), hf 71 (by omega), hf 81 (by omega)]
  exact ⟨h1, h2, h3, h4, h5, h6⟩
theorem c_copyFrom {c : Cf} {s0 s1 : Nat} {σ : HS} (h : SR c s1 σ) (w : WF c) (hd : s0 + 5 ≤ s1 ∨ s1 + 5 ≤ s0) : ∃ σ', f_X6_copyFrom s0 s1 σ = some σ' ∧ CP c s0 σ σ' := by
  have h1 := w.p_k
  have hn := w.p_n
  rw [f_X6_copyFrom]
  simp (disch := omega) only [z_lit, z_cp, z_bi, s_A2, s_I1, s_I2, h.q_k, h.q_n, h.q_w, h.q_r]
  refine ⟨_, rfl, ⟨?_, ?_, ?_, ?_, ?_, ?_, ?_, ?_⟩, ?_⟩
  · simp (disch := omega) only [s_I1, u_1, u_2]
  · simp (disch := omega) only [s_I1, u_1, u_2]
  · simp (disch := omega) only [s_I1, u_1, u_2]
  · simp (disch := omega) only [s_I1, u_1, u_2]
  · intro k hk
    simp (disch := omega) only [s_I2, s_A2, s_A1, va_cpy]
    rw [if_pos (by omega), show 0 + (k - 0) = k by omega, h.q_h k hk]
  · intro k hk
    simp (disch := omega) only [s_I2, s_A2, s_A1, va_cpy]
    rw [if_pos (by omega), show 0 + (k - 0) = k by omega, h.q_l k hk]
  · intro k hk
    simp (disch := omega) only [s_I2, s_A2, s_A1, va_cpy]
    rw [if_pos (by omega), show 0 + (k - 0) = k by omega, h.q_o k hk]
  · intro k hk
    simp (disch := omega) only [s_I2, s_A2, s_A1, va_cpy]
    rw [if_pos (by omega), show 0 + (k - 0) = k by omega, h.q_s k hk]
  · refine fr.tr (fr.tr (fr.tr (fr.tr (fr.tr (fr.tr (fr.tr (fr.sA (by simp)) (fr.sA (by simp))) (fr.sA (by simp))) (fr.sA (by simp))) (fr.sI (by simp))) (fr.sI (by simp))) (fr.sI (by simp))) (fr.sI (by simp))
theorem code_ix {r : Int32} (h : r = -2 ∨ r = -3 ∨ r = -4 ∨ r = -5) : ∃ k, k < 4 ∧ (-2 : Int32) - r = nI k ∧ (-2 - r).toNatClampNeg = k ∧ ¬ ((-2 : Int32) < r) ∧ ¬ (r < -5) ∧ r < 0 := by
  rcases h with rfl | rfl | rfl | rfl
  · exact ⟨0, by decide, by decide, by decide, by decide, by decide, by decide⟩
  · exact ⟨1, by decide, by decide, by decide, by decide, by decide, by decide⟩
  · exact ⟨2, by decide, by decide, by decide, by decide, by decide, by decide⟩
  · exact ⟨3, by decide, by decide, by decide, by decide, by decide, by decide⟩
theorem c_counted {a : AS} {σ : HS} (h : IC a σ) {r : Int32} (hr : r = -2 ∨ r = -3 ∨ r = -4 ∨ r = -5) : ∃ σ', f_X8_counted r σ = some (r, σ') ∧ IC (aRef ((-2 - r).toNatClampNeg) a) σ' ∧ fr [66] σ σ' := by
  obtain ⟨k, k1, k2, k3, k4, k5, k6⟩ := code_ix hr
  obtain ⟨h1, h2, h3, h4, h5⟩ := h
  rw [f_X8_counted, if_neg k4, if_neg k5, k2, z_cl (by omega)]
  simp (disch := omega) only [z_ld, z_bi, z_st, h3]
  have hf : fr [66] σ (sI σ 66 k (aR a k + 1)) := fr.sI (by simp)
  refine ⟨_, rfl, ⟨h1.fr hf (by simp), ?_, ?_, by rw [hf 62 (by simp)]; exact h4, by rw [hf 63 (by simp)]; exact h5⟩, hf⟩
  · obtain ⟨nx, n1, n2, n3, n4⟩ := h2
    refine ⟨nx, n1, by rw [hf 11 (by simp)]; exact n2, by rw [hf 11 (by simp)]; exact n3, fun j hj => (n4 j hj).fr hf (fun o ho => ?_)⟩
    simp at ho ⊢
    omega
  · intro j hj
    rw [s_I1]
    show upd (σ.1 66) k (aR a k + 1) j = upd (aR a) k (aR a k + 1) j
    unfold upd
    split
    · rfl
    · exact h3 j hj
theorem c_keep {a : AS} {σ : HS} (h : IC a σ) (w : WA a) : ∃ σ', f_X7_keep 1 σ = some σ' ∧ (∃ nx, nx < 5 ∧ σ'.1 11 1 = nI nx ∧ σ'.1 11 2 = nI (aN (aPush (aC a) a)) ∧ ∀ j, j < aN (aPush (aC a) a) → SR (aH (aPush (aC a) a) j) (13 + 5 * ((nx + 5 - aN (aPush (aC a) a) + j) % 5)) σ') ∧ ∃ v, v < 5 ∧ fr (11 :: sc (13 + 5 * v)) σ σ' := by
  obtain ⟨h1, ⟨nx, n1, n2, n3, n4⟩, h3, h4, h5⟩ := h
  obtain ⟨w1, w2, w3, w4, w5⟩ := w
  rw [f_X7_keep, n2, z_ldR n1 (by omega)]
  simp only [z_bi]
  obtain ⟨σ1, e1, e2, e3⟩ := c_copyFrom (s0 := 13 + 5 * nx) h1 w1 (by omega)
  rw [e1]
  simp only [z_bi]
  have f11 : σ1.1 11 = σ.1 11 := e3 11 (by simp; omega)
  rw [f11, n2]
  simp (disch := omega) only [z_lit, z_add, z_le]
  have h34 : ∀ t, t < 5 → t = (nx + 1) % 5 → ∃ σ', f_X7_keep_34 1 (nI t) σ1 = some σ' ∧ (∃ nx, nx < 5 ∧ σ'.1 11 1 = nI nx ∧ σ'.1 11 2 = nI (aN (aPush (aC a) a)) ∧ ∀ j, j < aN (aPush (aC a) a) → SR (aH (aPush (aC a) a) j) (13 + 5 * ((nx + 5 - aN (aPush (aC a) a) + j) % 5)) σ') ∧ ∃ v, v < 5 ∧ fr (11 :: sc (13 + 5 * v)) σ σ' := by
    intro t ht ht2
    rw [f_X7_keep_34]
    have hs2 : (sI σ1 11 1 (nI t)).1 11 2 = nI (aN a) := by rw [s_I1, u_2 _ _ (by omega), f11, n3]
    rw [hs2]
    simp (disch := omega) only [z_lit, z_le, z_add]
    have hfin : ∀ σ', fr [11] σ1 σ' → (∃ v, v < 5 ∧ fr (11 :: sc (13 + 5 * v)) σ σ') := by
      intro σ' hf
      exact ⟨nx, n1, fr.tr (e3.up (fun o ho => List.mem_cons_of_mem _ ho)) (hf.up (by simp))⟩
    by_cases q : aN a = 5
    · rw [if_pos (by omega)]
      have hf : fr [11] σ1 (sI σ1 11 1 (nI t)) := fr.sI (by simp)
      refine ⟨_, rfl, ⟨t, ht, by rw [s_I1, u_1], ?_, ?_⟩, hfin _ hf⟩
      · rw [hs2]; unfold aPush; simp [q]
      · intro j hj
        have hj : j < 5 := by unfold aPush at hj; simpa [q] using hj
        have eN : aN (aPush (aC a) a) = 5 := by unfold aPush; simp [q]
        have eH : aH (aPush (aC a) a) j = if j = 4 then aC a else aH a (j + 1) := by unfold aPush; simp [q]
        rw [eN, eH]
        by_cases q4 : j = 4
        · rw [if_pos q4]
          have : (t + 5 - 5 + j) % 5 = nx := by omega
          rw [this]
          exact e2.fr hf (by simp; omega)
        · rw [if_neg q4]
          have e5 : (t + 5 - 5 + j) % 5 = (nx + 5 - aN a + (j + 1)) % 5 := by omega
          rw [e5]
          refine (SR.fr (SR.fr (n4 (j + 1) (by omega)) e3 ?_) hf ?_)
          · intro o ho
            simp at ho ⊢
            omega
          · intro o ho
            simp at ho ⊢
            omega
    · rw [if_neg (by omega)]
      have hf : fr [11] σ1 (sI (sI σ1 11 1 (nI t)) 11 2 (nI (aN a + 1))) := (fr.sI (by simp)).tr (fr.sI (by simp))
      refine ⟨_, rfl, ⟨t, ht, ?_, ?_, ?_⟩, hfin _ hf⟩
      · rw [s_I1, u_2 _ _ (by omega), s_I1, u_1]
      · rw [s_I1, u_1]; unfold aPush; simp [q]
      · intro j hj
        have eN : aN (aPush (aC a) a) = aN a + 1 := by unfold aPush; simp [q]
        rw [eN] at hj
        have eH : aH (aPush (aC a) a) j = if j = aN a then aC a else aH a j := by unfold aPush; simp [q]
        rw [eN, eH]
        by_cases q4 : j = aN a
        · rw [if_pos q4]
          have : (t + 5 - (aN a + 1) + j) % 5 = nx := by omega
          rw [this]
          exact e2.fr hf (by simp; omega)
        · rw [if_neg q4]
          have e5 : (t + 5 - (aN a + 1) + j) % 5 = (nx + 5 - aN a + j) % 5 := by omega
          rw [e5]
          refine (SR.fr (SR.fr (n4 j (by omega)) e3 ?_) hf ?_)
          · intro o ho
            simp at ho ⊢
            omega
          · intro o ho
            simp at ho ⊢
            omega
  by_cases q : nx = 4
  · rw [if_pos (by omega)]
    exact h34 0 (by omega) (by omega)
  · rw [if_neg (by omega)]
    exact h34 (nx + 1) (by omega) (by omega)
