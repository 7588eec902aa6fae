-- the calls that change, in the class
def KE (a a' : AS) (σ σ' : HS) : Prop := (aC a' = aC a ∧ ∀ o, 38 ≤ o → o ≤ 61 → σ'.1 o = σ.1 o) ∨ (σ'.1 38 = upd (σ.1 38) 6 0 ∧ σ'.1 42 = upd (σ.1 42) 9 0 ∧ σ'.1 54 = upd (σ.1 54) 6 0 ∧ ∀ o, 38 ≤ o → o ≤ 61 → o ≠ 38 → o ≠ 42 → o ≠ 54 → σ'.1 o = σ.1 o)
theorem IC.fr {a : AS} {σ σ' : HS} {l : List Nat} (h : IC a σ) (hf : fr l σ σ') (hl : ∀ o, o ∈ l → (6 ≤ o ∧ o ≤ 10) ∨ (38 ≤ o ∧ o ≤ 61) ∨ o = 64 ∨ o = 65 ∨ 67 ≤ o) : IC a σ' := by
  obtain ⟨h1, ⟨nx, n1, n2, n3, n4⟩, h3, h4, h5⟩ := h
  have hn : ∀ o, ¬ ((6 ≤ o ∧ o ≤ 10) ∨ (38 ≤ o ∧ o ≤ 61) ∨ o = 64 ∨ o = 65 ∨ 67 ≤ o) → o ∉ l := fun o ho q => ho (hl o q)
  refine ⟨h1.fr hf (fun o ho => hn o (by simp at ho; omega)), ⟨nx, n1, by rw [hf 11 (hn _ (by omega))]; exact n2, by rw [hf 11 (hn _ (by omega))]; exact n3, fun j hj => (n4 j hj).fr hf (fun o ho => hn o (by simp at ho; omega))⟩, by rw [hf 66 (hn _ (by omega))]; exact h3, by rw [hf 62 (hn _ (by omega))]; exact h4, by rw [hf 63 (hn _ (by omega))]; exact h5⟩
theorem c_settled {a : AS} {σ : HS} (h : IC a σ) (w : WA a) {r : Int32 × Cf} (hr : okA (aC a) r) (hw : WF r.2) (hd : SR r.2 6 σ) : ∃ σ', f_X8_settled r.1 σ = some (r.1, σ') ∧ IC (aSet r a).2 σ' ∧ KE a (aSet r a).2 σ σ' ∧ frC σ σ' := by
  rw [f_X8_settled]
  rcases hr with ⟨hr, hr2⟩ | ⟨n, hn, hr⟩
  · have hr4 : r.1 = -2 ∨ r.1 = -3 ∨ r.1 = -4 ∨ r.1 = -5 := by
      rcases hr with e | e | e
      · exact Or.inl e
      · exact Or.inr (Or.inl e)
      · exact Or.inr (Or.inr (Or.inl e))
    obtain ⟨k, k1, k2, k3, k4, k5, k6⟩ := code_ix hr4
    rw [if_neg (Int32.not_le.mpr k6)]
    obtain ⟨σ', e1, e2, e3⟩ := c_counted h hr4
    rw [e1]
    refine ⟨σ', rfl, ?_, ?_, e3.toC (by simp)⟩
    · unfold aSet; rw [if_pos k6]; exact e2
    · left
      refine ⟨?_, fun o h1 h2 => e3 o (by simp; omega)⟩
      unfold aSet; rw [if_pos k6]; rfl
  · rw [hr, if_pos (by rw [z_0, z_le (by omega) (by omega)]; omega)]
    obtain ⟨σ1, e1, ⟨nx, t1, t2, t3, t4⟩, v, hv, e3⟩ := c_keep h w
    rw [e1]
    simp only [z_bi]
    have hd1 : SR r.2 6 σ1 := hd.fr e3 (by intro o ho; simp at ho ⊢; omega)
    obtain ⟨σ2, g1, g2, g3⟩ := c_copyFrom (s0 := 1) hd1 hw (by omega)
    rw [g1]
    simp only [z_bi, f_X8_forgetAnswers]
    obtain ⟨h1, h2, h3, h4, h5⟩ := h
    have hS : (aSet r a).2 = aPush r.2 a := by
      unfold aSet
      rw [if_neg]
      rw [hr]
      rw [z_0, z_lt (by omega) (by omega)]
      omega
    rw [hS]
    have hlow : ∀ o, 38 ≤ o → σ2.1 o = σ.1 o := by
      intro o ho
      rw [g3 o (by simp; omega), e3 o (by simp; omega)]
    have hfl : fr [38, 42, 54] σ2 (sI (sI (sI σ2 38 6 0) 42 9 0) 54 6 0) := ((fr.sI (by simp)).tr (fr.sI (by simp))).tr (fr.sI (by simp))
    refine ⟨_, rfl, ⟨g2.fr hfl (by simp), ⟨nx, t1, ?_, ?_, ?_⟩, ?_, ?_, ?_⟩, Or.inr ⟨?_, ?_, ?_, ?_⟩, ?_⟩
    · rw [hfl 11 (by simp), g3 11 (by simp)]; exact t2
    · rw [hfl 11 (by simp), g3 11 (by simp)]; exact t3
    · intro j hj
      exact ((t4 j hj).fr g3 (by intro o ho; simp at ho ⊢; omega)).fr hfl (by intro o ho; simp at ho ⊢; omega)
    · rw [hfl 66 (by simp), hlow 66 (by omega)]; exact h3
    · rw [hfl 62 (by simp), hlow 62 (by omega)]; exact h4
    · rw [hfl 63 (by simp), hlow 63 (by omega)]; exact h5
    · simp (disch := omega) only [s_I1, s_I2, hlow]
    · simp (disch := omega) only [s_I1, s_I2, hlow]
    · simp (disch := omega) only [s_I1, s_I2, hlow]
    · intro o q1 q2 q3 q4 q5
      rw [hfl o (by simp; omega), hlow o q1]
    · intro o ho
      rw [hfl o (by simp; omega), hlow o (by omega)]
theorem c_mut {a : AS} {σ : HS} (h : IC a σ) (w : WA a) {F : HS → Option (Int32 × HS)} {r : Int32 × Cf} (hr : okA (aC a) r) (hw : WF r.2) (hF : ∀ τ, SR (aC a) 6 τ → ∃ τ', F τ = some (r.1, τ') ∧ CP r.2 6 τ τ') : ∃ σ', ((f_X6_copyFrom 6 1 σ).bind fun σ1 => (F σ1).bind fun q2 => (f_X8_settled q2.1 q2.2).bind fun q3 => some (q3.1, q3.2)) = some (r.1, σ') ∧ IC (aSet r a).2 σ' ∧ KE a (aSet r a).2 σ σ' ∧ frC σ σ' := by
  obtain ⟨σ1, e1, e2, e3⟩ := c_copyFrom (s0 := 6) h.1 w.1 (by omega)
  rw [e1]
  simp only [z_bi]
  obtain ⟨σ2, g1, g2, g3⟩ := hF σ1 e2
  rw [g1]
  simp only [z_bi]
  have hf : fr (sc 6) σ σ2 := e3.tr g3
  obtain ⟨σ3, k1, k2, k3, k4⟩ := c_settled (h.fr hf (by simp)) w hr hw g2
  rw [k1]
  refine ⟨σ3, rfl, k2, ?_, ?_⟩
  · rcases k3 with ⟨q1, q2⟩ | ⟨q1, q2, q3, q4⟩
    · left
      exact ⟨q1, fun o h1 h2 => by rw [q2 o h1 h2, hf o (by simp; omega)]⟩
    · right
      refine ⟨?_, ?_, ?_, fun o h1 h2 h3 h4 h5 => by rw [q4 o h1 h2 h3 h4 h5, hf o (by simp; omega)]⟩
      · rw [q1, hf 38 (by simp)]
      · rw [q2, hf 42 (by simp)]
      · rw [q3, hf 54 (by simp)]
  · intro o ho
    rw [k4 o ho, hf o (by simp; omega)]
theorem c_kind {a : AS} {σ : HS} (h : IC a σ) (w : WA a) (x y z l : Int32) : ∃ σ', f_X8_kind x y z l σ = some ((opK x y z l (aC a)).1, σ') ∧ IC (aSet (opK x y z l (aC a)) a).2 σ' ∧ KE a (aSet (opK x y z l (aC a)) a).2 σ σ' ∧ frC σ σ' :=
  c_mut h w (okA_K w.1 _ _ _ _) (WF_K w.1 _ _ _ _) (fun τ hτ => c_addKind hτ w.1 x y z l)
theorem c_sets {a : AS} {σ : HS} (h : IC a σ) (w : WA a) (x y : Int32) : ∃ σ', f_X8_sets x y σ = some ((opS x y (aC a)).1, σ') ∧ IC (aSet (opS x y (aC a)) a).2 σ' ∧ KE a (aSet (opS x y (aC a)) a).2 σ σ' ∧ frC σ σ' :=
  c_mut h w (okA_S w.1 _ _) (WF_S w.1 _ _) (fun τ hτ => c_change hτ w.1 x y)
theorem c_instruction {a : AS} {σ : HS} (h : IC a σ) (w : WA a) (x : Int32) : ∃ σ', f_X8_instruction x σ = some ((opI x (aC a)).1, σ') ∧ IC (aSet (opI x (aC a)) a).2 σ' ∧ KE a (aSet (opI x (aC a)) a).2 σ σ' ∧ frC σ σ' :=
  c_mut h w (okA_I w.1 _) (WF_I w.1 _) (fun τ hτ => c_addInstruction hτ w.1 x)
theorem c_needs {a : AS} {σ : HS} (h : IC a σ) (w : WA a) (x y z : Int32) : ∃ σ', f_X8_needs x y z σ = some ((opN x y z (aC a)).1, σ') ∧ IC (aSet (opN x y z (aC a)) a).2 σ' ∧ KE a (aSet (opN x y z (aC a)) a).2 σ σ' ∧ frC σ σ' :=
  c_mut h w (okA_N w.1 _ _ _) (WF_N w.1 _ _ _) (fun τ hτ => c_changeNeed hτ w.1 x y z)
theorem c_drops {a : AS} {σ : HS} (h : IC a σ) (w : WA a) (x : Int32) : ∃ σ', f_X8_drops x σ = some ((opD x (aC a)).1, σ') ∧ IC (aSet (opD x (aC a)) a).2 σ' ∧ KE a (aSet (opD x (aC a)) a).2 σ σ' ∧ frC σ σ' :=
  c_mut h w (okA_D w.1 _) (WF_D w.1 _) (fun τ hτ => c_removeInstruction hτ w.1 x)
def aBack (a : AS) : Int32 × AS := if aN a = 0 then (-3, aRef 1 a) else (nI (aN a - 1), (aH a (aN a - 1), aN a - 1, aH a, aL a, aT a, aR a))
theorem WA_back {a : AS} (w : WA a) : WA (aBack a).2 := by
  unfold aBack
  split
  · exact w
  · obtain ⟨h1, h2, h3, h4, h5⟩ := w
    refine ⟨h3 _ (by omega), ?_, fun j hj => h3 j ?_, h4, h5⟩
    · show aN a - 1 ≤ 5; omega
    · have : j < aN a - 1 := hj
      omega
theorem c_back {a : AS} {σ : HS} (h : IC a σ) (w : WA a) : ∃ σ', f_X8_back σ = some ((aBack a).1, σ') ∧ IC (aBack a).2 σ' ∧ KE a (aBack a).2 σ σ' ∧ frC σ σ' := by
  have hc := h
  obtain ⟨h1, ⟨nx, n1, n2, n3, n4⟩, h3, h4, h5⟩ := h
  obtain ⟨w1, w2, w3, w4, w5⟩ := w
  rw [f_X8_back, f_X7_takeInto, n2, n3]
  simp (disch := omega) only [z_lit, z_lt, z_le]
  unfold aBack
  by_cases q : aN a = 0
  · rw [if_neg (by omega)]
    simp only [z_bi, q, if_true]
    obtain ⟨σ', e1, e2, e3⟩ := c_counted hc (r := -3) (Or.inr (Or.inl rfl))
    have : (-nI 3 : Int32) = -3 := rfl
    rw [this, e1]
    refine ⟨σ', rfl, e2, Or.inl ⟨rfl, fun o h1 h2 => e3 o (by simp; omega)⟩, e3.toC (by simp)⟩
  · rw [if_pos (by omega)]
    simp only [q, if_false]
    have h27 : ∀ t, t < 5 → t = (nx + 4) % 5 → ∃ τ, f_X7_takeInto_27 1 (nI t) σ = some (1, τ) ∧ SR (aH a (aN a - 1)) 1 τ ∧ τ.1 11 1 = nI t ∧ τ.1 11 2 = nI (aN a - 1) ∧ fr (11 :: sc 1) σ τ := by
      intro t ht ht2
      rw [f_X7_takeInto_27]
      have e1 : (sI σ 11 1 (nI t)).1 11 2 = nI (aN a) := by rw [s_I1, u_2 _ _ (by omega), n3]
      rw [e1, z_lit, z_sub (by omega)]
      have e2 : (sI (sI σ 11 1 (nI t)) 11 2 (nI (aN a - 1))).1 11 1 = nI t := by
        simp (disch := omega) only [s_I1, u_1, u_2]
      rw [e2, z_ldR ht (by omega)]
      simp only [z_bi]
      have hf : fr [11] σ (sI (sI σ 11 1 (nI t)) 11 2 (nI (aN a - 1))) := (fr.sI (by simp)).tr (fr.sI (by simp))
      have hs := n4 (aN a - 1) (by omega)
      rw [show (nx + 5 - aN a + (aN a - 1)) % 5 = t by omega] at hs
      have hs := hs.fr hf (by intro o ho; simp at ho ⊢; omega)
      obtain ⟨τ, g1, g2, g3⟩ := c_copyFrom (s0 := 1) hs (w3 _ (by omega)) (by omega)
      rw [g1]
      refine ⟨τ, rfl, g2, ?_, ?_, fr.tr (hf.up (by simp)) (g3.up (by simp))⟩
      · rw [g3 11 (by simp), e2]
      · rw [g3 11 (by simp), s_I1, u_1]
    have hend : ∀ t, t < 5 → t = (nx + 4) % 5 → ∃ σ', ((f_X7_takeInto_27 1 (nI t) σ).bind fun q1 => if q1.1 = nI 0 then (f_X8_counted (-nI 3) q1.2).bind fun q3 => some (q3.1, q3.2) else (f_X8_forgetAnswers q1.2).bind fun σ2 => some (σ2.1 11 2, σ2)) = some (nI (aN a - 1), σ') ∧ IC (aH a (aN a - 1), aN a - 1, aH a, aL a, aT a, aR a) σ' ∧ KE a (aH a (aN a - 1), aN a - 1, aH a, aL a, aT a, aR a) σ σ' ∧ frC σ σ' := by
      intro t ht ht2
      obtain ⟨τ, g1, g2, g3, g4, g5⟩ := h27 t ht ht2
      rw [g1]
      simp only [z_bi]
      rw [if_neg (by decide), f_X8_forgetAnswers]
      simp only [z_bi]
      have hfl : fr [38, 42, 54] τ (sI (sI (sI τ 38 6 0) 42 9 0) 54 6 0) := ((fr.sI (by simp)).tr (fr.sI (by simp))).tr (fr.sI (by simp))
      rw [hfl 11 (by simp), g4]
      have hlow : ∀ o, 12 ≤ o → τ.1 o = σ.1 o := fun o ho => g5 o (by simp; omega)
      refine ⟨_, rfl, ⟨g2.fr hfl (by simp), ⟨t, ht, ?_, ?_, ?_⟩, ?_, ?_, ?_⟩, Or.inr ⟨?_, ?_, ?_, ?_⟩, ?_⟩
      · rw [hfl 11 (by simp)]; exact g3
      · rw [hfl 11 (by simp)]; exact g4
      · intro j hj
        have hj : j < aN a - 1 := hj
        have := n4 j (by omega)
        rw [show (nx + 5 - aN a + j) % 5 = (t + 5 - (aN a - 1) + j) % 5 by omega] at this
        exact (this.fr g5 (by intro o ho; simp at ho ⊢; omega)).fr hfl (by intro o ho; simp at ho ⊢; omega)
      · rw [hfl 66 (by simp), hlow 66 (by omega)]; exact h3
      · rw [hfl 62 (by simp), hlow 62 (by omega)]; exact h4
      · rw [hfl 63 (by simp), hlow 63 (by omega)]; exact h5
      · simp (disch := omega) only [s_I1, s_I2, hlow]
      · simp (disch := omega) only [s_I1, s_I2, hlow]
      · simp (disch := omega) only [s_I1, s_I2, hlow]
      · intro o q1 q2 q3 q4 q5
        rw [hfl o (by simp; omega), hlow o (by omega)]
      · intro o ho
        rw [hfl o (by simp; omega), hlow o (by omega)]
    by_cases q2 : nx = 0
    · rw [if_pos (by omega)]
      exact hend 4 (by omega) (by omega)
    · rw [if_neg (by omega), z_sub (by omega)]
      exact hend (nx - 1) (by omega) (by omega)
