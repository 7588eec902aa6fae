-- one round of the reference
def RH (c : Cf) (p : SL) (C : Nat → Nat) (σ : HS) : Prop := MR c σ ∧ σ.1 67 6 = nI p.1 ∧ (∀ i, i < p.1 → C i < 1000 ∧ σ.1 74 i = nI (C i)) ∧ ∀ s t, s < p.1 → t ≤ c 0 → OKv c p (p.2 s) t (σ.1 73 (6 * s + t))
theorem RH.fr {c : Cf} {p : SL} {C : Nat → Nat} {σ σ' : HS} (h : RH c p C σ) (hf : fr [75] σ σ') : RH c p C σ' := by
  refine ⟨MR.fr h.1 hf (by simp), ?_⟩
  rw [hf 67 (by simp), hf 73 (by simp), hf 74 (by simp)]
  exact h.2
theorem m_fc57 {c : Cf} (w : WF c) {p : SL} (hp : p.1 ≤ 150) {C : Nat → Nat} {σ : HS} (h : RH c p C σ) (k : Int32 → Int32 → Int32 → HS → Option HS) (x1 : Int32) {s : Nat} (hs : s < p.1) : ∀ i, i ≤ frP (alk c p C s) s → ∀ n, frP (alk c p C s) s < i + n → f_X9_findClasses_57 k n x1 (nI s) (nI i) σ = k x1 (nI s) (nI (frP (alk c p C s) s)) σ := by
  have hl := frP_le (alk c p C s) s
  refine dn_ind ?_ ?_
  · intro n hn'
    obtain ⟨n, rfl⟩ : ∃ m, n = m + 1 := ⟨n - 1, by omega⟩
    rw [f_X9_findClasses_57]
    by_cases e : frP (alk c p C s) s < s
    · rw [if_neg (by rw [z_le (by omega) (by omega)]; omega), m_areAlike w hp h.1 h.2.2.1 h.2.2.2 hs (by omega), z_bi, frP_at _ e, if_neg (show ¬ nI (b2 true) = 0 by decide)]
    · rw [if_pos (by rw [z_le (by omega) (by omega)]; omega)]
  · intro i hi ih n hn'
    obtain ⟨n, rfl⟩ : ∃ m, n = m + 1 := ⟨n - 1, by omega⟩
    rw [f_X9_findClasses_57, if_neg (by rw [z_le (by omega) (by omega)]; omega), m_areAlike w hp h.1 h.2.2.1 h.2.2.2 hs (by omega), z_bi, frP_no _ i hi, if_pos (show nI (b2 false) = 0 from rfl), show (1 : Int32) = nI 1 from rfl, z_add]
    exact ih n (by omega)
theorem m_fc47 {c : Cf} (w : WF c) {p : SL} (hp : p.1 ≤ 150) {C : Nat → Nat} (k : Int32 → HS → Option HS) : ∀ s, s ≤ p.1 → ∀ n, p.1 < s + n → ∀ σ, RH c p C σ → (∀ i, i < s → σ.1 75 i = nI ((nuR (alk c p C) s).1 i)) → ∃ σ', fr [75] σ σ' ∧ (∀ i, i < p.1 → σ'.1 75 i = nI ((nuR (alk c p C) p.1).1 i)) ∧ f_X9_findClasses_47 k n (nI (nuR (alk c p C) s).2) (nI s) σ = k (nI (nuR (alk c p C) p.1).2) σ' := by
  refine dn_ind ?_ ?_
  · intro n hn' σ h hG
    obtain ⟨n, rfl⟩ : ∃ m, n = m + 1 := ⟨n - 1, by omega⟩
    refine ⟨σ, fr.rf _ _, hG, ?_⟩
    rw [f_X9_findClasses_47, h.2.1, if_pos (by rw [z_le (by omega) (by omega)]; omega)]
  · intro s hs ih n hn' σ h hG
    obtain ⟨n, rfl⟩ : ∃ m, n = m + 1 := ⟨n - 1, by omega⟩
    have hl := frP_le (alk c p C s) s
    have k5 := m_fc57 w hp h (fun e2 e3 e4 σ5 => f_X9_findClasses_77 (f_X9_findClasses_47 k n) e2 e3 e4 σ5) (nI (nuR (alk c p C) s).2) hs 0 (by omega) FU (by have := FU_b; omega)
    rw [show nI 0 = (0 : Int32) from rfl] at k5
    rw [f_X9_findClasses_47, h.2.1, if_neg (by rw [z_le (by omega) (by omega)]; omega), k5]
    have st : ∀ v m : Nat, nuR (alk c p C) (s + 1) = (un (nuR (alk c p C) s).1 s v, m) → ∃ σ', fr [75] σ σ' ∧ (∀ i, i < p.1 → σ'.1 75 i = nI ((nuR (alk c p C) p.1).1 i)) ∧ f_X9_findClasses_47 k n (nI m) (nI (s + 1)) (sI σ 75 s (nI v)) = k (nI (nuR (alk c p C) p.1).2) σ' := by
      intro v m e
      have f1 : fr [75] σ (sI σ 75 s (nI v)) := fr.sI (by simp)
      obtain ⟨σ', a1, a2, a3⟩ := ih n (by omega) (sI σ 75 s (nI v)) (h.fr f1) (by
        intro i hi
        rw [e, s_I1]
        show _ = nI (un _ s v i)
        unfold upd un
        by_cases q : i = s
        · rw [if_pos q, if_pos q]
        · rw [if_neg q, if_neg q]; exact hG i (by omega))
      rw [e] at a3
      exact ⟨σ', f1.tr a1, a2, a3⟩
    show ∃ σ', _ ∧ _ ∧ f_X9_findClasses_77 (f_X9_findClasses_47 k n) (nI (nuR (alk c p C) s).2) (nI s) (nI (frP (alk c p C s) s)) σ = _
    rw [f_X9_findClasses_77]
    by_cases e : frP (alk c p C s) s < s
    · rw [if_neg (by rw [z_le (by omega) (by omega)]; omega), z_ld (by omega) (by omega), z_bi, hG _ e, f_X9_findClasses_97, z_st (by omega) (by omega), z_bi, if_neg (by rw [z_le (by omega) (by omega)]; omega), show (1 : Int32) = nI 1 from rfl, z_0, z_add, z_add, Nat.add_zero]
      exact st _ _ (by rw [nuR, if_pos e])
    · rw [if_pos (by rw [z_le (by omega) (by omega)]; omega), f_X9_findClasses_97, z_st (by omega) (by omega), z_bi, if_pos (by rw [z_le (by omega) (by omega)]; omega), show (1 : Int32) = nI 1 from rfl, z_add, z_add]
      exact st _ _ (by rw [nuR, if_neg e])
