-- the states that can be
def inn (c : Cf) (x : Nat) : Nat → SL → SL
  | 0, p => p
  | k + 1, p => if x &&& hm c k = 0 then addS (x ||| hm c k) (inn c x k p) else inn c x k p
def one (c : Cf) (x : Nat) (p : SL) : SL := addS (psd x 1) (inn c x (c 0) p)
def exS (c : Cf) : Nat → SL
  | 0 => addS 0 (0, fun _ => 0)
  | s + 1 => if (exS c s).1 ≤ s ∨ 150 < (exS c s).1 then exS c s else one c ((exS c s).2 s) (exS c s)
def LSt (c : Cf) : SL := exS c 151
theorem or_b {a b : Nat} (ha : a < 4096) (hb : b < 4096) : a ||| b < 4096 := Nat.or_lt_two_pow (n := 12) ha hb
theorem inn_GD {c : Cf} (w : WF c) {x : Nat} (hx : x < 4096) {p : SL} (h : GD p) : ∀ k, k ≤ c 0 → GD (inn c x k p) := by
  intro k
  induction k with
  | zero => intro _; exact h
  | succ k ih =>
    intro hk
    have ih := ih (by omega)
    rw [inn]
    split
    · exact ih.add (or_b hx (hm_b w (by omega)))
    · exact ih
theorem one_GD {c : Cf} (w : WF c) {x : Nat} (hx : x < 4096) {p : SL} (h : GD p) : GD (one c x p) := (inn_GD w hx h _ (Nat.le_refl _)).add (psd_lt hx 1)
theorem exS_GD {c : Cf} (w : WF c) : ∀ s, GD (exS c s) := by
  intro s
  induction s with
  | zero => exact GD.add ⟨by show 0 ≤ 151; omega, fun i hi => absurd hi (Nat.not_lt_zero _), fun i j _ h => absurd h (Nat.not_lt_zero _)⟩ (by omega)
  | succ s ih =>
    rw [exS]
    split
    · exact ih
    · rename_i h
      exact one_GD w (ih.2.1 s (by omega)) ih
theorem exS_stop {c : Cf} {s : Nat} (h : (exS c s).1 ≤ s ∨ 150 < (exS c s).1) : ∀ d, exS c (s + d) = exS c s := by
  intro d
  induction d with
  | zero => rfl
  | succ d ih =>
    rw [show s + (d + 1) = s + d + 1 by omega, exS, ih, if_pos (by omega)]
theorem exS_end {c : Cf} {s : Nat} (hs : s ≤ 151) (h : (exS c s).1 ≤ s ∨ 150 < (exS c s).1) : exS c s = LSt c := by
  have := exS_stop h (151 - s)
  rw [show s + (151 - s) = 151 by omega] at this
  exact this.symm
theorem c_fs39 {c : Cf} (w : WF c) (k : Int32 → Int32 → HS → Option HS) (x2 : Int32) {x : Nat} (hx : x < 4096) {p : SL} (hg : GD p) : ∀ j, j ≤ c 0 → ∀ n, c 0 < j + n → ∀ σ, SR c 1 σ → LC (inn c x j p) σ → ∃ σ', fr [38, 39, 41] σ σ' ∧ LC (inn c x (c 0) p) σ' ∧ f_X1_findStates_39 1 k n x2 (nI x) (nI j) σ = k x2 (nI x) σ' := by
  have hk := w.p_k
  refine dn_ind ?_ ?_
  · intro n hn' σ hs hl
    obtain ⟨n, rfl⟩ : ∃ m, n = m + 1 := ⟨n - 1, by omega⟩
    refine ⟨σ, fr.rf _ _, hl, ?_⟩
    rw [f_X1_findStates_39, hs.q_k, if_pos (by rw [z_le (by omega) (by omega)]; omega)]
  · intro j hj ih n hn' σ hs hl
    obtain ⟨n, rfl⟩ : ∃ m, n = m + 1 := ⟨n - 1, by omega⟩
    have hb := hm_b w hj
    have ba : x &&& hm c j ≤ x := Nat.and_le_left
    have bo := or_b hx hb
    rw [f_X1_findStates_39, hs.q_k, if_neg (by rw [z_le (by omega) (by omega)]; omega), z_ld (by omega) (by omega), z_bi, hs.q_h j hj, z_bi, z_and, z_or, show (1 : Int32) = nI 1 from rfl]
    simp only [z_add]
    by_cases e : x &&& hm c j = 0
    · rw [if_pos (by rw [e]; rfl)]
      obtain ⟨σ1, a1, a2, a3⟩ := c_note hl (inn_GD w hx hg j (by omega)) bo
      obtain ⟨σ', b1, b2, b3⟩ := ih n (by omega) σ1 (hs.fr a3 (by simp)) (by rw [inn, if_pos e]; exact a2)
      refine ⟨σ', a3.tr b1, b2, ?_⟩
      rw [a1, z_bi]
      exact b3
    · rw [if_neg (by rw [z_0, z_eq (by omega) (by omega)]; exact e)]
      exact ih n (by omega) σ hs (by rw [inn, if_neg e]; exact hl)
theorem c_findStates {c : Cf} (w : WF c) {σ : HS} (hs : SR c 1 σ) (hl : LC (0, fun _ => 0) σ) : ∃ σ', f_X1_findStates 1 σ = some σ' ∧ fr [38, 39, 41] σ σ' ∧ LC (LSt c) σ' := by
  have key : ∀ s, s ≤ 150 → ∀ n, 150 < s + n → ∀ σ, SR c 1 σ → LC (exS c s) σ → ∃ σ', f_X1_findStates_7 1 n (nI s) σ = some σ' ∧ fr [38, 39, 41] σ σ' ∧ LC (LSt c) σ' := by
    refine dn_ind ?_ ?_
    · intro n hn' σ hs hl
      obtain ⟨n, rfl⟩ : ∃ m, n = m + 1 := ⟨n - 1, by omega⟩
      have hg := exS_GD w 150
      refine ⟨σ, ?_, fr.rf _ _, ?_⟩
      · rw [f_X1_findStates_7, if_pos (show (150 : Int32) ≤ nI 150 by decide)]
      · rw [← exS_end (by omega) (show (exS c 150).1 ≤ 150 ∨ 150 < (exS c 150).1 by omega)]; exact hl
    · intro s hs' ih n hn' σ hs hl
      obtain ⟨n, rfl⟩ : ∃ m, n = m + 1 := ⟨n - 1, by omega⟩
      have hg := exS_GD w s
      have hn := hg.1
      have hmn : mn (exS c s).1 ≤ 150 := by unfold mn; omega
      obtain ⟨l1, l2, l3, l4⟩ := hl
      have hl : LC (exS c s) σ := ⟨l1, l2, l3, l4⟩
      rw [f_X1_findStates_7, if_neg (show ¬ (150 : Int32) ≤ nI s from fun q => by have := (z_le (a := 150) (by omega) (by omega)).mp q; omega), l1]
      by_cases e1 : mn (exS c s).1 ≤ s
      · rw [if_pos (by rw [z_le (by omega) (by omega)]; exact e1)]
        refine ⟨σ, rfl, fr.rf _ _, ?_⟩
        rw [← exS_end (s := s) (by omega) (Or.inl (by unfold mn at e1; omega))]; exact hl
      · rw [if_neg (by rw [z_le (by omega) (by omega)]; exact e1), l2]
        have e1' : s < (exS c s).1 := by unfold mn at e1; omega
        by_cases e2 : (exS c s).1 = 151
        · rw [if_pos e2, if_neg (show ¬ nI 1 = 0 by decide)]
          refine ⟨σ, rfl, fr.rf _ _, ?_⟩
          rw [← exS_end (s := s) (by omega) (Or.inr (by omega))]; exact hl
        · rw [if_neg e2, if_pos (show nI 0 = (0 : Int32) from rfl), z_ld (by omega) (by omega), z_bi, l3 s (by omega)]
          have hx := hg.2.1 s e1'
          obtain ⟨σ1, a1, a2, a3⟩ := c_fs39 w (fun e6 e7 σ8 => (f_X8_passed e7 1 σ8).bind fun q9 => (f_X1_note q9.1 q9.2).bind fun σ10 => f_X1_findStates_7 1 n (e6 + 1) σ10) (nI s) hx hg 0 (by omega) FU (by have := FU_b; have := w.p_k; omega) σ hs hl
          rw [show nI 0 = (0 : Int32) from rfl] at a3
          obtain ⟨σ2, b1, b2, b3⟩ := c_note a2 (inn_GD w hx hg _ (Nat.le_refl _)) (psd_lt hx 1)
          have f2 := a1.tr b3
          obtain ⟨σ', d1, d2, d3⟩ := ih n (by omega) σ2 (hs.fr f2 (by simp)) (by rw [exS, if_neg (by omega)]; exact b2)
          refine ⟨σ', ?_, f2.tr d2, d3⟩
          rw [a3]
          show ((f_X8_passed (nI ((exS c s).2 s)) (nI 1) σ1).bind fun q9 => (f_X1_note q9.1 q9.2).bind fun σ10 => f_X1_findStates_7 1 n (nI s + nI 1) σ10) = _
          rw [c_passed hx (by omega), z_bi, b1, z_bi, z_add]
          exact d1
  obtain ⟨σ1, a1, a2, a3⟩ := c_note hl (p := (0, fun _ => 0)) ⟨by show 0 ≤ 151; omega, fun i hi => absurd hi (Nat.not_lt_zero _), fun i j _ h => absurd h (Nat.not_lt_zero _)⟩ (x := 0) (by omega)
  obtain ⟨σ', b1, b2, b3⟩ := key 0 (by omega) FU (by have := FU_b; omega) σ1 (hs.fr a3 (by simp)) a2
  rw [show nI 0 = (0 : Int32) from rfl] at a1 b1
  exact ⟨σ', by rw [f_X1_findStates, a1, z_bi]; exact b1, a3.tr b2, b3⟩
/-- what holds of the class's tables, known or not -/
def CB (σ : HS) : Prop := ∃ m, m ≤ 150 ∧ ∃ F : Nat → Nat, σ.1 38 3 = nI m ∧ (∀ i, i < m → F i < 4096 ∧ σ.1 39 i = nI (F i)) ∧ ∀ x, x < 4096 → σ.1 41 x ≠ 0 → ∃ i, i < m ∧ F i = x
theorem LC.CB {p : SL} {σ : HS} (h : LC p σ) (hg : GD p) : CB σ := by
  obtain ⟨h1, h2, h3, h4⟩ := h
  have hm : mn p.1 ≤ 150 ∧ mn p.1 ≤ p.1 := by unfold mn; omega
  refine ⟨mn p.1, hm.1, p.2, h1, fun i hi => ⟨hg.2.1 i (by omega), h3 i hi⟩, fun x hx hne => ?_⟩
  rw [h4 x hx] at hne
  by_cases e : ixF p.2 x (mn p.1) < mn p.1
  · exact ⟨_, e, ixF_at _ e⟩
  · rw [if_neg e] at hne; exact absurd rfl hne
theorem c_forgetStates {σ : HS} (h : CB σ) : ∃ σ', f_X1_forgetStates σ = some σ' ∧ fr [38, 41] σ σ' ∧ LC (0, fun _ => 0) σ' := by
  obtain ⟨m, hm, F, h1, h2, h3⟩ := h
  have key : ∀ i, i ≤ m → ∀ n, m < i + n → ∀ σ : HS, σ.1 38 3 = nI m → (∀ i, i < m → F i < 4096 ∧ σ.1 39 i = nI (F i)) → (∀ x, x < 4096 → σ.1 41 x ≠ 0 → ∃ j, i ≤ j ∧ j < m ∧ F j = x) → ∃ σ', f_X1_forgetStates_2 n (nI i) σ = some σ' ∧ fr [38, 41] σ σ' ∧ LC (0, fun _ => 0) σ' := by
    refine dn_ind ?_ ?_
    · intro n hn' σ h1 h2 h3
      obtain ⟨n, rfl⟩ : ∃ m, n = m + 1 := ⟨n - 1, by omega⟩
      refine ⟨_, by rw [f_X1_forgetStates_2, h1, if_pos (by rw [z_le (by omega) (by omega)]; omega)], (fr.sI (by simp)).tr (fr.sI (by simp)), ?_⟩
      refine ⟨?_, ?_, ?_, ?_⟩
      · rw [s_I1, u_2 _ _ (by omega), s_I1, u_1]; rfl
      · rw [s_I1, u_1]; rfl
      · intro i hi; exact absurd hi (Nat.not_lt_zero _)
      · intro x hx
        rw [s_I2 _ _ _ (by omega), s_I2 _ _ _ (by omega)]
        show σ.1 41 x = 0
        apply Classical.byContradiction
        intro q
        obtain ⟨j, j1, j2, _⟩ := h3 x hx q
        omega
    · intro i hi ih n hn' σ h1 h2 h3
      obtain ⟨n, rfl⟩ : ∃ m, n = m + 1 := ⟨n - 1, by omega⟩
      obtain ⟨f1, f2⟩ := h2 i hi
      have fr1 : fr [38, 41] σ (sI σ 41 (F i) 0) := fr.sI (by simp)
      rw [f_X1_forgetStates_2, h1, if_neg (by rw [z_le (by omega) (by omega)]; omega), z_ld (by omega) (by omega), z_bi, f2, z_st (by omega) (by omega), z_bi, show (1 : Int32) = nI 1 from rfl, z_add]
      obtain ⟨σ', a1, a2, a3⟩ := ih n (by omega) (sI σ 41 (F i) 0) (by rw [s_I2 _ _ _ (by omega)]; exact h1) (by rw [s_I2 _ _ _ (by omega)]; exact h2) (by
        intro x hx hne
        rw [s_I1] at hne
        unfold upd at hne
        by_cases e : x = F i
        · rw [if_pos e] at hne; exact absurd rfl hne
        · rw [if_neg e] at hne
          obtain ⟨j, j1, j2, j3⟩ := h3 x hx hne
          refine ⟨j, ?_, j2, j3⟩
          by_cases q : j = i
          · rw [q] at j3; exact absurd j3.symm e
          · omega)
      exact ⟨σ', a1, fr1.tr a2, a3⟩
  obtain ⟨σ', a1, a2⟩ := key 0 (by omega) FU (by have := FU_b; omega) σ h1 h2 (fun x hx hne => by
    obtain ⟨i, i1, i2⟩ := h3 x hx hne
    exact ⟨i, by omega, i1, i2⟩)
  rw [show nI 0 = (0 : Int32) from rfl] at a1
  exact ⟨σ', by rw [f_X1_forgetStates]; exact a1, a2⟩
