-- the reference's copy of a round
theorem m_fc119 {n' : Nat} (hn : n' ≤ 150) {G : Nat → Nat} (k : Int32 → HS → Option HS) (x1 : Int32) : ∀ s, s ≤ n' → ∀ n, n' < s + n → ∀ σ : HS, σ.1 67 6 = nI n' → (∀ i, i < n' → σ.1 75 i = nI (G i)) → (∀ i, i < s → σ.1 74 i = nI (G i)) → ∃ σ', fr [74] σ σ' ∧ (∀ i, i < n' → σ'.1 74 i = nI (G i)) ∧ f_X9_findClasses_119 k n x1 (nI s) σ = k x1 σ' := by
  refine dn_ind ?_ ?_
  · intro n hn' σ h hG h4
    obtain ⟨n, rfl⟩ : ∃ m, n = m + 1 := ⟨n - 1, by omega⟩
    refine ⟨σ, fr.rf _ _, h4, ?_⟩
    rw [f_X9_findClasses_119, h, if_pos (by rw [z_le (by omega) (by omega)]; omega)]
  · intro s hs ih n hn' σ h hG h4
    obtain ⟨n, rfl⟩ : ∃ m, n = m + 1 := ⟨n - 1, by omega⟩
    have f1 : fr [74] σ (sI σ 74 s (nI (G s))) := fr.sI (by simp)
    obtain ⟨σ', a1, a2, a3⟩ := ih n (by omega) (sI σ 74 s (nI (G s))) (by rw [f1 67 (by simp)]; exact h) (by rw [f1 75 (by simp)]; exact hG) (by
      intro i hi
      rw [s_I1]; unfold upd
      by_cases q : i = s
      · rw [if_pos q, q]
      · rw [if_neg q]; exact h4 i (by omega))
    refine ⟨σ', f1.tr a1, a2, ?_⟩
    rw [f_X9_findClasses_119, h, if_neg (by rw [z_le (by omega) (by omega)]; omega), z_ld (by omega) (by omega), z_bi, hG s hs, z_st (by omega) (by omega), z_bi, show (1 : Int32) = nI 1 from rfl, z_add]
    exact a3
theorem CR_le (c : Cf) (p : SL) (r : Nat) : (CR c p (r + 1)).2 ≤ p.1 := by
  rw [CR, nuR_c]; exact fb_ct_le _ _
