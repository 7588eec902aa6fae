-- the calls that change, in the reference
def ME (a a' : AS) (σ σ' : HS) : Prop := (σ'.1 67 5 = 0 ∨ (σ'.1 67 5 = σ.1 67 5 ∧ ∀ k, k < 21 → aC a' k = aC a k)) ∧ σ'.1 67 6 = σ.1 67 6 ∧ σ'.1 67 9 = σ.1 67 9 ∧ σ'.1 72 = σ.1 72 ∧ σ'.1 73 = σ.1 73 ∧ σ'.1 74 = σ.1 74
theorem m_refuses {a : AS} {σ : HS} (h : IM a σ) {r : Int32} (hr : r = -2 ∨ r = -3 ∨ r = -4 ∨ r = -5) : ∃ σ', f_X9_refuses r σ = some (r, σ') ∧ IM (aRef ((-2 - r).toNatClampNeg) a) σ' ∧ fr [71] σ σ' := by
  obtain ⟨k, k1, k2, k3, k4, k5, k6⟩ := code_ix hr
  obtain ⟨h1, h2, h3, h4, h5, h6⟩ := h
  rw [f_X9_refuses, k2, z_cl (by omega)]
  simp (disch := omega) only [z_ld, z_bi, z_st, h4]
  have hf : fr [71] σ (sI σ 71 k (aR a k + 1)) := fr.sI (by simp)
  refine ⟨_, rfl, ⟨?_, ?_, ?_, ?_, ?_, ?_⟩, hf⟩
  · intro j hj; rw [hf 68 (by simp)]; exact h1 j hj
  · rw [hf 67 (by simp)]; exact h2
  · rw [hf 70 (by simp)]; exact h3
  · intro j hj
    rw [s_I1]
    show upd (σ.1 71) k (aR a k + 1) j = upd (aR a) k (aR a k + 1) j
    unfold upd
    split
    · rfl
    · exact h4 j hj
  · rw [hf 67 (by simp)]; exact h5
  · rw [hf 81 (by simp)]; exact h6
theorem m_hold (σ : HS) : ∃ f, f_X9_hold σ = some (sA σ 69 f) ∧ ∀ k, k < 66 → f k = σ.1 68 k := by
  have key : ∀ i, i ≤ 66 → ∀ (n : Nat) (f : Nat → Int32), 66 < i + n → (∀ k, k < i → f k = σ.1 68 k) → ∃ f', f_X9_hold_2 n (nI i) (sA σ 69 f) = some (sA σ 69 f') ∧ ∀ k, k < 66 → f' k = σ.1 68 k := by
    refine dn_ind ?_ ?_
    · intro n f hn hf
      obtain ⟨n, rfl⟩ : ∃ m, n = m + 1 := ⟨n - 1, by omega⟩
      rw [f_X9_hold_2]
      simp (disch := omega) only [z_lit, z_le]
      rw [if_pos (by omega)]
      exact ⟨f, rfl, hf⟩
    · intro i hi ih n f hn hf
      obtain ⟨n, rfl⟩ : ∃ m, n = m + 1 := ⟨n - 1, by omega⟩
      rw [f_X9_hold_2]
      simp (disch := omega) only [z_lit, z_le, s_A2, z_ld, z_bi, z_st, s_II, z_add]
      rw [if_neg (by omega)]
      refine ih n _ (by omega) (fun k hk => ?_)
      by_cases q : k = i
      · rw [q, u_1]
      · rw [u_2 _ _ q]; exact hf k (by omega)
  have := key 0 (by omega) FU (σ.1 69) (by have := FU_b; omega) (fun k hk => by omega)
  rw [s_self] at this
  exact this
theorem m_push {c0 : Cf} {np : Nat} {hist : Nat → Cf} {σ : HS} (hnp : np ≤ 5) (h1 : σ.1 67 3 = nI np) (h2 : ∀ j, j < np → ∀ k, k < 66 → σ.1 70 (66 * j + k) = nI (hist j k)) (h3 : ∀ k, k < 66 → σ.1 69 k = nI (c0 k)) : ∃ σ', f_X9_push σ = some σ' ∧ fr [67, 70] σ σ' ∧ (∀ k, k ≠ 3 → σ'.1 67 k = σ.1 67 k) ∧ σ'.1 67 3 = nI (if np = 5 then 5 else np + 1) ∧ ∀ j, j < (if np = 5 then 5 else np + 1) → ∀ k, k < 66 → σ'.1 70 (66 * j + k) = nI ((if np = 5 then fun j => if j = 4 then c0 else hist (j + 1) else fun j => if j = np then c0 else hist j) j k) := by
  -- the last loop: what is held comes behind q others
  have h50 : ∀ (τ : HS) (q : Nat) (hs : Nat → Cf), q < 5 → τ.1 67 3 = nI q → (∀ k, k < 66 → τ.1 69 k = nI (c0 k)) → (∀ j, j < q → ∀ k, k < 66 → τ.1 70 (66 * j + k) = nI (hs j k)) → ∃ σ', f_X9_push_50 FU (nI 0) τ = some σ' ∧ fr [67, 70] τ σ' ∧ (∀ k, k ≠ 3 → σ'.1 67 k = τ.1 67 k) ∧ σ'.1 67 3 = nI (q + 1) ∧ ∀ j, j < q + 1 → ∀ k, k < 66 → σ'.1 70 (66 * j + k) = nI (if j = q then c0 k else hs j k) := by
    intro τ q hs hq g1 g2 g3
    have key : ∀ i, i ≤ 66 → ∀ (n : Nat) (f : Nat → Int32), 66 < i + n → (∀ j, j < q → ∀ k, k < 66 → f (66 * j + k) = nI (hs j k)) → (∀ k, k < i → f (66 * q + k) = nI (c0 k)) → ∃ σ', f_X9_push_50 n (nI i) (sA τ 70 f) = some σ' ∧ fr [67, 70] τ σ' ∧ (∀ k, k ≠ 3 → σ'.1 67 k = τ.1 67 k) ∧ σ'.1 67 3 = nI (q + 1) ∧ ∀ j, j < q + 1 → ∀ k, k < 66 → σ'.1 70 (66 * j + k) = nI (if j = q then c0 k else hs j k) := by
      refine dn_ind ?_ ?_
      · intro n f hn hf hf2
        obtain ⟨n, rfl⟩ : ∃ m, n = m + 1 := ⟨n - 1, by omega⟩
        rw [f_X9_push_50]
        simp (disch := omega) only [z_lit, z_le, s_A2, g1, z_add]
        rw [if_pos (by omega)]
        refine ⟨_, rfl, fr.tr (fr.sA (by simp)) (fr.sI (by simp)), ?_, ?_, ?_⟩
        · intro k hk
          simp (disch := omega) only [s_I1, u_2, s_A2]
        · rw [s_I1, u_1]
        · intro j hj k hk
          simp (disch := omega) only [s_I2, s_A1]
          by_cases e : j = q
          · subst e; rw [if_pos rfl]; exact hf2 k hk
          · rw [if_neg e]; exact hf j (by omega) k hk
      · intro i hi ih n f hn hf hf2
        obtain ⟨n, rfl⟩ : ∃ m, n = m + 1 := ⟨n - 1, by omega⟩
        rw [f_X9_push_50]
        simp (disch := omega) only [z_lit, z_le, s_A2, g1, g2, z_add, z_mul, z_ld, z_bi, z_st, s_II]
        rw [if_neg (by omega)]
        refine ih n _ (by omega) ?_ ?_
        · intro j hj k hk
          rw [u_2 _ _ (by omega)]
          exact hf j hj k hk
        · intro k hk
          by_cases e : k = i
          · rw [e, u_1]
          · rw [u_2 _ _ (by omega)]; exact hf2 k (by omega)
    have := key 0 (by omega) FU (τ.1 70) (by have := FU_b; omega) g3 (fun k hk => by omega)
    rw [s_self] at this
    exact this
  rw [f_X9_push, h1]
  simp (disch := omega) only [z_lit, z_eq]
  by_cases e : np = 5
  · rw [if_pos e]
    have key : ∀ i, i ≤ 264 → ∀ (n : Nat) (f : Nat → Int32), 264 < i + n → (∀ k, k < i → f k = σ.1 70 (k + 66)) → (∀ k, i ≤ k → f k = σ.1 70 k) → ∃ f', f_X9_push_10 n (nI i) (sA σ 70 f) = f_X9_push_50 FU (nI 0) (sI (sA σ 70 f') 67 3 (nI 4)) ∧ ∀ k, k < 264 → f' k = σ.1 70 (k + 66) := by
      refine dn_ind ?_ ?_
      · intro n f hn hf hf2
        obtain ⟨n, rfl⟩ : ∃ m, n = m + 1 := ⟨n - 1, by omega⟩
        rw [f_X9_push_10]
        simp (disch := omega) only [z_lit, z_le, s_A2, h1, e, z_sub]
        rw [if_pos (by omega)]
        exact ⟨f, rfl, hf⟩
      · intro i hi ih n f hn hf hf2
        obtain ⟨n, rfl⟩ : ∃ m, n = m + 1 := ⟨n - 1, by omega⟩
        rw [f_X9_push_10]
        simp (disch := omega) only [z_lit, z_le, s_A1, z_add, z_ld, z_bi, z_st, s_II]
        rw [if_neg (by omega)]
        refine ih n _ (by omega) ?_ ?_
        · intro k hk
          by_cases q : k = i
          · rw [q, u_1, hf2 _ (by omega)]
          · rw [u_2 _ _ q]; exact hf k (by omega)
        · intro k hk
          rw [u_2 _ _ (by omega)]; exact hf2 k (by omega)
    have := key 0 (by omega) FU (σ.1 70) (by have := FU_b; omega) (fun k hk => by omega) (fun k _ => rfl)
    rw [s_self] at this
    obtain ⟨f', e1, e2⟩ := this
    rw [e1]
    obtain ⟨σ', g1, g2, g3, g4, g5⟩ := h50 (sI (sA σ 70 f') 67 3 (nI 4)) 4 (fun j => hist (j + 1)) (by omega) (by rw [s_I1, u_1]) (by
      intro k hk
      simp (disch := omega) only [s_I2, s_A2]
      exact h3 k hk) (by
      intro j hj k hk
      simp (disch := omega) only [s_I2, s_A1]
      rw [e2 _ (by omega), show 66 * j + k + 66 = 66 * (j + 1) + k by omega]
      exact h2 (j + 1) (by omega) k hk)
    refine ⟨σ', g1, fr.tr (fr.tr (fr.sA (by simp)) (fr.sI (by simp))) g2, ?_, ?_, ?_⟩
    · intro k hk
      rw [g3 k hk]
      simp (disch := omega) only [s_I1, u_2, s_A2]
    · rw [g4, if_pos e]
    · intro j hj k hk
      rw [if_pos e] at hj ⊢
      rw [g5 j (by omega) k hk]
      show nI (if j = 4 then c0 k else hist (j + 1) k) = nI ((if j = 4 then c0 else hist (j + 1)) k)
      by_cases q : j = 4
      · rw [if_pos q, if_pos q]
      · rw [if_neg q, if_neg q]
  · rw [if_neg e]
    obtain ⟨σ', g1, g2, g3, g4, g5⟩ := h50 σ np hist (by omega) h1 h3 h2
    refine ⟨σ', g1, g2, g3, by rw [g4, if_neg e], ?_⟩
    intro j hj k hk
    rw [if_neg e] at hj ⊢
    rw [g5 j (by omega) k hk]
    show nI (if j = np then c0 k else hist j k) = nI ((if j = np then c0 else hist j) k)
    by_cases q : j = np
    · rw [if_pos q, if_pos q]
    · rw [if_neg q, if_neg q]
theorem m_mut {a : AS} {σ : HS} (h : IM a σ) (w : WA a) {F : HS → Option (Int32 × HS)} {r : Int32 × Cf} (hr : okA (aC a) r) (hF : ∀ τ, MR (aC a) τ → ∃ τ', F τ = some (r.1, τ') ∧ MP (aC a) r.2 τ τ') : ∃ σ', ((f_X9_hold σ).bind fun σ1 => (F σ1).bind fun q2 => (f_X9_ends q2.1 q2.2).bind fun q3 => some (q3.1, q3.2)) = some (r.1, σ') ∧ IM (aSet r a).2 σ' ∧ ME a (aSet r a).2 σ σ' ∧ frM σ σ' := by
  obtain ⟨h1, h2, h3, h4, h5, h6⟩ := h
  obtain ⟨f, e1, e2⟩ := m_hold σ
  rw [e1]
  simp only [z_bi]
  have hf0 : fr [69] σ (sA σ 69 f) := fr.sA (by simp)
  obtain ⟨σ2, g1, g2, g3, g4, g5⟩ := hF (sA σ 69 f) (fun k hk => by rw [hf0 68 (by simp)]; exact h1 k hk)
  rw [g1]
  simp only [z_bi]
  rw [hf0 67 (by simp)] at g4 g5
  have hfr : fr [67, 68, 69] σ σ2 := fr.tr (hf0.up (by simp)) (g3.up (by simp))
  rw [f_X9_ends]
  rcases hr with ⟨hr, hr2⟩ | ⟨n, hn, hr⟩
  · have hr4 : r.1 = -2 ∨ r.1 = -3 ∨ r.1 = -4 ∨ r.1 = -5 := by
      rcases hr with e | e | e
      · exact Or.inl e
      · exact Or.inr (Or.inl e)
      · exact Or.inr (Or.inr (Or.inl e))
    obtain ⟨k, k1, k2, k3, k4, k5, k6⟩ := code_ix hr4
    rw [if_neg (Int32.not_le.mpr k6)]
    have hm : IM a σ2 := by
      refine ⟨fun k hk => by rw [← hr2]; exact g2 k hk, by rw [g4 3 (by omega)]; exact h2, by rw [hfr 70 (by simp)]; exact h3, by rw [hfr 71 (by simp)]; exact h4, by rw [g4 18 (by omega)]; exact h5, by rw [hfr 81 (by simp)]; exact h6⟩
    obtain ⟨σ', e1, e2', e3⟩ := m_refuses hm hr4
    rw [e1]
    have hS : (aSet r a).2 = aRef ((-2 - r.1).toNatClampNeg) a := by unfold aSet; rw [if_pos k6]
    rw [hS]
    refine ⟨σ', rfl, e2', ⟨?_, ?_, ?_, ?_, ?_, ?_⟩, ?_⟩
    · rw [e3 67 (by simp)]
      rcases g5 with g5 | ⟨g5, g6⟩
      · exact Or.inl g5
      · exact Or.inr ⟨g5, fun _ _ => rfl⟩
    · rw [e3 67 (by simp)]; exact g4 6 (by omega)
    · rw [e3 67 (by simp)]; exact g4 9 (by omega)
    · rw [e3 72 (by simp)]; exact hfr 72 (by simp)
    · rw [e3 73 (by simp)]; exact hfr 73 (by simp)
    · rw [e3 74 (by simp)]; exact hfr 74 (by simp)
    · exact (fr.tr (hfr.up (l' := [67, 68, 69, 71]) (by simp)) (e3.up (by simp))).toM (by simp)
  · rw [hr, if_pos (by rw [z_0, z_le (by omega) (by omega)]; omega)]
    have h69 : ∀ k, k < 66 → σ2.1 69 k = nI (aC a k) := by
      intro k hk
      rw [g3 69 (by simp), s_A1, e2 k hk]
      exact h1 k hk
    obtain ⟨σ', p1, p2, p3, p4, p5⟩ := m_push (σ := σ2) w.2.1 (by rw [g4 3 (by omega)]; exact h2) (by rw [hfr 70 (by simp)]; exact h3) h69
    rw [p1]
    have hS : (aSet r a).2 = aPush r.2 a := by
      unfold aSet
      rw [if_neg]
      rw [hr, z_0, z_lt (by omega) (by omega)]
      omega
    rw [hS]
    refine ⟨σ', rfl, ⟨?_, p4, p5, ?_, ?_, ?_⟩, ⟨?_, ?_, ?_, ?_, ?_, ?_⟩, ?_⟩
    · intro k hk; rw [p2 68 (by simp)]; exact g2 k hk
    · rw [p2 71 (by simp), hfr 71 (by simp)]; exact h4
    · rw [p3 18 (by omega), g4 18 (by omega)]; exact h5
    · rw [p2 81 (by simp), hfr 81 (by simp)]; exact h6
    · rw [p3 5 (by omega)]
      rcases g5 with g5 | ⟨g5, g6⟩
      · exact Or.inl g5
      · exact Or.inr ⟨g5, g6⟩
    · rw [p3 6 (by omega)]; exact g4 6 (by omega)
    · rw [p3 9 (by omega)]; exact g4 9 (by omega)
    · rw [p2 72 (by simp)]; exact hfr 72 (by simp)
    · rw [p2 73 (by simp)]; exact hfr 73 (by simp)
    · rw [p2 74 (by simp)]; exact hfr 74 (by simp)
    · exact (fr.tr (hfr.up (l' := [67, 68, 69, 70]) (by simp)) (p2.up (by simp))).toM (by simp)
theorem m_kind {a : AS} {σ : HS} (h : IM a σ) (w : WA a) (x y z l : Int32) : ∃ σ', f_X9_kind x y z l σ = some ((opK x y z l (aC a)).1, σ') ∧ IM (aSet (opK x y z l (aC a)) a).2 σ' ∧ ME a (aSet (opK x y z l (aC a)) a).2 σ σ' ∧ frM σ σ' :=
  m_mut h w (okA_K w.1 _ _ _ _) (fun τ hτ => m_doKind hτ w.1 x y z l)
theorem m_sets {a : AS} {σ : HS} (h : IM a σ) (w : WA a) (x y : Int32) : ∃ σ', f_X9_sets x y σ = some ((opS x y (aC a)).1, σ') ∧ IM (aSet (opS x y (aC a)) a).2 σ' ∧ ME a (aSet (opS x y (aC a)) a).2 σ σ' ∧ frM σ σ' :=
  m_mut h w (okA_S w.1 _ _) (fun τ hτ => m_doSets hτ w.1 x y)
theorem m_instruction {a : AS} {σ : HS} (h : IM a σ) (w : WA a) (x : Int32) : ∃ σ', f_X9_instruction x σ = some ((opI x (aC a)).1, σ') ∧ IM (aSet (opI x (aC a)) a).2 σ' ∧ ME a (aSet (opI x (aC a)) a).2 σ σ' ∧ frM σ σ' :=
  m_mut h w (okA_I w.1 _) (fun τ hτ => m_doInstruction hτ w.1 x)
theorem m_needs {a : AS} {σ : HS} (h : IM a σ) (w : WA a) (x y z : Int32) : ∃ σ', f_X9_needs x y z σ = some ((opN x y z (aC a)).1, σ') ∧ IM (aSet (opN x y z (aC a)) a).2 σ' ∧ ME a (aSet (opN x y z (aC a)) a).2 σ σ' ∧ frM σ σ' :=
  m_mut h w (okA_N w.1 _ _ _) (fun τ hτ => m_doNeeds hτ w.1 x y z)
theorem m_drops {a : AS} {σ : HS} (h : IM a σ) (w : WA a) (x : Int32) : ∃ σ', f_X9_drops x σ = some ((opD x (aC a)).1, σ') ∧ IM (aSet (opD x (aC a)) a).2 σ' ∧ ME a (aSet (opD x (aC a)) a).2 σ σ' ∧ frM σ σ' :=
  m_mut h w (okA_D w.1 _) (fun τ hτ => m_doDrops hτ w.1 x)
theorem m_back {a : AS} {σ : HS} (h : IM a σ) (w : WA a) : ∃ σ', f_X9_back σ = some ((aBack a).1, σ') ∧ IM (aBack a).2 σ' ∧ ME a (aBack a).2 σ σ' ∧ frM σ σ' := by
  have hm := h
  obtain ⟨h1, h2, h3, h4, h5, h6⟩ := h
  have w2 := w.2.1
  rw [f_X9_back, h2]
  simp (disch := omega) only [z_lit, z_eq]
  unfold aBack
  by_cases q : aN a = 0
  · simp only [q, if_true]
    obtain ⟨σ', e1, e2, e3⟩ := m_refuses hm (r := -3) (Or.inr (Or.inl rfl))
    have : (-nI 3 : Int32) = -3 := rfl
    rw [this, e1]
    refine ⟨σ', rfl, e2, ⟨Or.inr ⟨?_, fun _ _ => rfl⟩, ?_, ?_, e3 72 (by simp), e3 73 (by simp), e3 74 (by simp)⟩, e3.toM (by simp)⟩
    · rw [e3 67 (by simp)]
    · rw [e3 67 (by simp)]
    · rw [e3 67 (by simp)]
  · simp only [q, if_false]
    rw [z_sub (by omega)]
    have key : ∀ i, i ≤ 66 → ∀ (n : Nat) (f : Nat → Int32), 66 < i + n → (∀ k, k < i → f k = nI (aH a (aN a - 1) k)) → ∃ f', f_X9_back_26 n (nI i) (sA (sI σ 67 3 (nI (aN a - 1))) 68 f) = some (nI (aN a - 1), sI (sA (sI σ 67 3 (nI (aN a - 1))) 68 f') 67 5 0) ∧ ∀ k, k < 66 → f' k = nI (aH a (aN a - 1) k) := by
      refine dn_ind ?_ ?_
      · intro n f hn hf
        obtain ⟨n, rfl⟩ : ∃ m, n = m + 1 := ⟨n - 1, by omega⟩
        rw [f_X9_back_26]
        simp (disch := omega) only [z_lit, z_le, s_I1, u_2, s_A2, u_1]
        rw [if_pos (by omega)]
        exact ⟨f, rfl, hf⟩
      · intro i hi ih n f hn hf
        obtain ⟨n, rfl⟩ : ∃ m, n = m + 1 := ⟨n - 1, by omega⟩
        rw [f_X9_back_26]
        have hr := h3 (aN a - 1) (by omega) i (by omega)
        simp (disch := omega) only [z_lit, z_le, s_I1, s_I2, u_1, u_2, s_A2, z_mul, z_add, z_ld, z_bi, z_st, s_II, hr]
        rw [if_neg (by omega)]
        refine ih n _ (by omega) (fun k hk => ?_)
        by_cases e : k = i
        · rw [e, u_1]
        · rw [u_2 _ _ e]; exact hf k (by omega)
    have := key 0 (by omega) FU (σ.1 68) (by have := FU_b; omega) (fun k hk => by omega)
    have e : sA (sI σ 67 3 (nI (aN a - 1))) 68 (σ.1 68) = sI σ 67 3 (nI (aN a - 1)) := by
      have := s_self (sI σ 67 3 (nI (aN a - 1))) 68
      simp (disch := omega) only [s_I2] at this
      exact this
    rw [e] at this
    obtain ⟨f', e1, e2⟩ := this
    refine ⟨_, e1, ⟨?_, ?_, ?_, ?_, ?_, ?_⟩, ⟨Or.inl ?_, ?_, ?_, ?_, ?_, ?_⟩, ?_⟩
    · intro k hk
      simp (disch := omega) only [s_I2, s_A1]
      exact e2 k hk
    · simp (disch := omega) only [s_I1, s_A2, u_2, u_1]
    · intro j hj k hk
      have hj : j < aN a - 1 := hj
      simp (disch := omega) only [s_I2, s_A2]
      exact h3 j (by omega) k hk
    · intro k hk
      simp (disch := omega) only [s_I2, s_A2]
      exact h4 k hk
    · simp (disch := omega) only [s_I1, s_A2, u_2, u_1]
      exact h5
    · intro k hk
      simp (disch := omega) only [s_I2, s_A2]
      exact h6 k hk
    · simp (disch := omega) only [s_I1, u_1]
    · simp (disch := omega) only [s_I1, s_A2, u_2]
    · simp (disch := omega) only [s_I1, s_A2, u_2]
    · simp (disch := omega) only [s_I2, s_A2]
    · simp (disch := omega) only [s_I2, s_A2]
    · simp (disch := omega) only [s_I2, s_A2]
    · exact (fr.tr (fr.tr (fr.sI (l := [67, 68]) (by simp)) (fr.sA (by simp))) (fr.sI (by simp))).toM (by simp)
