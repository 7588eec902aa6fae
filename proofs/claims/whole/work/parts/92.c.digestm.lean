-- digest, the reference's half
theorem m_d157 {a : AS} (w : WA a) (h0 : Int64) : ∀ r, r ≤ 3 → ∀ n, 3 < r + n → ∀ σ, IM a σ → KCm (aC a) σ → σ.2 67 24 = mxD (fRk (aC a)) r h0 → ∃ σ', f_X9_digest_157 n (nI r) σ = some (mxD (fRk (aC a)) 3 h0, σ') ∧ IM a σ' ∧ KCm (aC a) σ' ∧ frM σ σ' := by
  refine dn_ind ?_ ?_
  · intro n hn' σ h hk hs
    obtain ⟨n, rfl⟩ : ∃ m, n = m + 1 := ⟨n - 1, by omega⟩
    exact ⟨σ, by rw [f_X9_digest_157, if_pos (show (3 : Int32) ≤ nI 3 by decide), hs], h, hk, fun _ _ => rfl⟩
  · intro r hr ih n hn' σ h hk hs
    obtain ⟨n, rfl⟩ : ∃ m, n = m + 1 := ⟨n - 1, by omega⟩
    obtain ⟨σ1, a1, a2, a3⟩ := m_findRanked w.1 h.1 (r := r) (by omega)
    have e1 := u_X9_findRanked (s := σ.2 67) _ σ rfl _ a1
    obtain ⟨σ2, b1, b2, b3⟩ := m_mix (nI (len (aC a) (rkT (aC a) r))) σ1
    have e1' : σ1.2 67 = σ.2 67 := e1
    obtain ⟨σ', d1, d2, d3, d4⟩ := ih n (by omega) σ2 ((h.fr a2 (by simp)).e1 b2) ((hk.fr a2 (by simp)).e1 b2) (by rw [b3, e1', hs]; rfl)
    refine ⟨σ', ?_, d2, d3, ((a2.toM (by simp)).tr (frM.e1 b2)).tr d4⟩
    rw [f_X9_digest_157, if_neg (by rw [z_lit, z_le (by omega) (by omega)]; omega), a1, z_bi, b1, z_bi, show nI r + 1 = nI (r + 1) from z_add r 1]
    exact d1
theorem m_d106 {a : AS} (w : WA a) {L : Nat} {T : Nat → Nat} (hB : BE (aC a) L T) : ∀ k, k ≤ 5 * aC a 23 → ∀ n, 5 * aC a 23 < k + n → ∀ σ, IM a σ → KCm (aC a) σ → σ.2 67 24 = mxD (fAb (aC a)) k (dg2 a) → ∃ σ', f_X9_digest_106 n (nI k) σ = some (dg5 a L, σ') ∧ IM a σ' ∧ KCm (aC a) σ' ∧ frM σ σ' := by
  have hn := w.1.p_n
  have e5 : (5 : Int32) * nI (aC a 23) = nI (5 * aC a 23) := z_mul 5 _
  refine dn_ind ?_ ?_
  · intro n hn' σ h hk hs
    obtain ⟨n, rfl⟩ : ∃ m, n = m + 1 := ⟨n - 1, by omega⟩
    obtain ⟨σ1, a1, a2, a3⟩ := m_boundOf h.1 w.1
    have e1 : σ1.2 67 = σ.2 67 := u_X9_boundOf (s := σ.2 67) σ rfl _ a1
    obtain ⟨σ2, b1, b2, b3⟩ := m_mix (nI (bnd (aC a))) σ1
    have h2 := (h.fr a2 (by simp)).e1 b2
    have k2 := (hk.fr a2 (by simp)).e1 b2
    obtain ⟨σ3, d1, d2, d3⟩ := m_findBest w.1 h2.1 hB
    have e3 : σ3.2 67 = σ2.2 67 := u_X9_findBest (s := σ2.2 67) σ2 rfl _ d1
    obtain ⟨σ4, f1, f2, f3⟩ := m_mix (nI L) σ3
    obtain ⟨σ', g1, g2, g3, g4⟩ := m_d157 w (dg4 a L) 0 (by omega) FU (by have := FU_b; omega) σ4 ((h2.fr d2 (by simp)).e1 f2) ((k2.fr d2 (by simp)).e1 f2) (by
      rw [f3, e3, b3, e1, hs]; rfl)
    rw [show nI 0 = (0 : Int32) from rfl] at g1
    refine ⟨σ', ?_, g2, g3, ((((a2.toM (by simp)).tr (frM.e1 b2)).tr (d2.toM (by simp))).tr (frM.e1 f2)).tr g4⟩
    rw [f_X9_digest_106, show (23 : Int32) = nI 23 from rfl, z_ld (by omega) (by omega), z_bi, h.1 23 (by omega), e5, if_pos (by rw [z_le (by omega) (by omega)]; omega), a1, z_bi, b1, z_bi, d1, z_bi, f1, z_bi]
    exact g1
  · intro k hk' ih n hn' σ h hk hs
    obtain ⟨n, rfl⟩ : ∃ m, n = m + 1 := ⟨n - 1, by omega⟩
    obtain ⟨σ1, a1, a2⟩ := m_aboutOne h.1 w.1 (i := k / 5) (x := k % 5) (by omega) (by omega)
    have e1 : σ1.2 67 = σ.2 67 := u_X9_aboutOne (s := σ.2 67) _ _ σ rfl _ a1
    obtain ⟨σ2, b1, b2, b3⟩ := m_mix (nI (vAb (aC a) (k / 5) (k % 5))) σ1
    obtain ⟨σ', d1, d2, d3, d4⟩ := ih n (by omega) σ2 ((h.fr a2 (by simp)).e1 b2) ((hk.fr a2 (by simp)).e1 b2) (by rw [b3, e1, hs]; rfl)
    refine ⟨σ', ?_, d2, d3, ((a2.toM (by simp)).tr (frM.e1 b2)).tr d4⟩
    rw [f_X9_digest_106, show (23 : Int32) = nI 23 from rfl, z_ld (by omega) (by omega), z_bi, h.1 23 (by omega), e5, if_neg (by rw [z_le (by omega) (by omega)]; omega), show (5 : Int32) = nI 5 from rfl, z_dv (by omega) (by omega) (by omega), z_bi, z_rm (by omega) (by omega) (by omega), z_bi, a1, z_bi, b1, z_bi, show nI k + 1 = nI (k + 1) from z_add k 1]
    exact d1
theorem m_d81 {a : AS} (w : WA a) {L : Nat} {T : Nat → Nat} (hB : BE (aC a) L T) {σ : HS} (h : IM a σ) (hk : KCm (aC a) σ) (hs : σ.2 67 24 = dg1 a) : ∃ σ', f_X9_digest_81 (vSts (aC a)) σ = some (dg5 a L, σ') ∧ IM a σ' ∧ KCm (aC a) σ' ∧ frM σ σ' := by
  have hn := w.1.p_n
  obtain ⟨σ1, a1, a2, a3⟩ := m_mix (vSts (aC a)) σ
  obtain ⟨σ2, b1, b2, b3, b4, b5⟩ := m_isMuch (h.e1 a2) w (hk.e1 a2)
  have e2 : σ2.2 67 = σ1.2 67 := u_X9_isMuch (s := σ1.2 67) σ1 rfl _ b1
  have go : ∀ v : Int32, v = vCls (aC a) → ∃ σ', ((f_X9_mix v σ2).bind fun σ5 => f_X9_digest_106 FU 0 σ5) = some (dg5 a L, σ') ∧ IM a σ' ∧ KCm (aC a) σ' ∧ frM σ σ' := by
    intro v hv
    obtain ⟨σ3, d1, d2, d3⟩ := m_mix v σ2
    obtain ⟨σ', g1, g2, g3, g4⟩ := m_d106 w hB 0 (by omega) FU (by have := FU_b; omega) σ3 (b2.e1 d2) (b4.e1 d2) (by rw [d3, e2, a3, hs, hv]; rfl)
    rw [show nI 0 = (0 : Int32) from rfl] at g1
    refine ⟨σ', ?_, g2, g3, (((frM.e1 a2).tr b5.M).tr (frM.e1 d2)).tr g4⟩
    rw [d1, z_bi]; exact g1
  rw [f_X9_digest_81, a1, z_bi, b1, z_bi]
  by_cases e : (LSt (aC a)).1 ≤ 150
  · rw [if_pos e, if_pos (show nI 0 = (0 : Int32) from rfl)]
    exact go _ (by show σ2.1 67 9 = _; rw [(b3.2 e).2.1]; unfold vCls; rw [if_pos e])
  · rw [if_neg e, if_neg (show ¬ nI 1 = (0 : Int32) by decide)]
    exact go _ (by unfold vCls; rw [if_neg e])
theorem m_d32 {a : AS} (w : WA a) {L : Nat} {T : Nat → Nat} (hB : BE (aC a) L T) : ∀ k, k ≤ 5 * aC a 0 → ∀ n, 5 * aC a 0 < k + n → ∀ σ, IM a σ → KCm (aC a) σ → σ.2 67 24 = mxD (fOf (aC a)) k (mxD (fTo a) 10 2459) → ∃ σ', f_X9_digest_32 n (nI k) σ = some (dg5 a L, σ') ∧ IM a σ' ∧ KCm (aC a) σ' ∧ frM σ σ' := by
  have hkk := w.1.p_k
  have e5 : (5 : Int32) * nI (aC a 0) = nI (5 * aC a 0) := z_mul 5 _
  refine dn_ind ?_ ?_
  · intro n hn' σ h hk hs
    obtain ⟨n, rfl⟩ : ∃ m, n = m + 1 := ⟨n - 1, by omega⟩
    obtain ⟨σ2, b1, b2, b3, b4, b5⟩ := m_isMuch h w hk
    have e2 : σ2.2 67 = σ.2 67 := u_X9_isMuch (s := σ.2 67) σ rfl _ b1
    obtain ⟨σ', g1, g2, g3, g4⟩ := m_d81 w hB b2 b4 (by rw [e2, hs]; rfl)
    refine ⟨σ', ?_, g2, g3, b5.M.tr g4⟩
    rw [f_X9_digest_32, z_0, z_ld (by omega) (by omega), z_bi, h.1 0 (by omega), e5, if_pos (by rw [z_le (by omega) (by omega)]; omega), b1, z_bi]
    by_cases e : (LSt (aC a)).1 ≤ 150
    · have ev : vSts (aC a) = nI (LSt (aC a)).1 := by unfold vSts; rw [if_pos e]
      rw [ev] at g1
      rw [if_pos e, if_pos (show nI 0 = nI 0 from rfl), b3.1.1]
      exact g1
    · have ev : vSts (aC a) = -5 := by unfold vSts; rw [if_neg e]
      rw [ev] at g1
      rw [if_neg e, if_neg (show ¬ nI 1 = nI 0 by decide)]
      exact g1
  · intro k hk' ih n hn' σ h hk hs
    obtain ⟨n, rfl⟩ : ∃ m, n = m + 1 := ⟨n - 1, by omega⟩
    obtain ⟨σ2, b1, b2, b3⟩ := m_mix (nI (vOf (aC a) (k / 5) (k % 5))) σ
    obtain ⟨σ', d1, d2, d3, d4⟩ := ih n (by omega) σ2 (h.e1 b2) (hk.e1 b2) (by rw [b3, hs]; rfl)
    refine ⟨σ', ?_, d2, d3, (frM.e1 b2).tr d4⟩
    rw [f_X9_digest_32, z_0, z_ld (by omega) (by omega), z_bi, h.1 0 (by omega), e5, if_neg (by rw [z_le (by omega) (by omega)]; omega), show (5 : Int32) = nI 5 from rfl, z_dv (by omega) (by omega) (by omega), z_bi, z_rm (by omega) (by omega) (by omega), z_bi, m_toldOfKind h.1 w.1 (by omega) (by omega), z_bi, b1, z_bi, show nI k + 1 = nI (k + 1) from z_add k 1]
    exact d1
theorem m_digest {a : AS} {σ : HS} (h : IM a σ) (w : WA a) (hk : KCm (aC a) σ) {L : Nat} {T : Nat → Nat} (hB : BE (aC a) L T) : ∃ σ', f_X9_digest σ = some (dg5 a L, σ') ∧ IM a σ' ∧ KCm (aC a) σ' ∧ frM σ σ' := by
  have key : ∀ k, k ≤ 10 → ∀ n, 10 < k + n → ∀ σ, IM a σ → KCm (aC a) σ → σ.2 67 24 = mxD (fTo a) k 2459 → ∃ σ', f_X9_digest_9 n (nI k) σ = some (dg5 a L, σ') ∧ IM a σ' ∧ KCm (aC a) σ' ∧ frM σ σ' := by
    refine dn_ind ?_ ?_
    · intro n hn' σ h hk hs
      obtain ⟨n, rfl⟩ : ∃ m, n = m + 1 := ⟨n - 1, by omega⟩
      obtain ⟨σ', b1, b2⟩ := m_d32 w hB 0 (by omega) FU (by have := FU_b; have := w.1.p_k; omega) σ h hk hs
      rw [show nI 0 = (0 : Int32) from rfl] at b1
      refine ⟨σ', ?_, b2⟩
      rw [f_X9_digest_9, if_pos (show (10 : Int32) ≤ nI 10 by decide)]
      exact b1
    · intro k hk' ih n hn' σ h hk hs
      obtain ⟨n, rfl⟩ : ∃ m, n = m + 1 := ⟨n - 1, by omega⟩
      obtain ⟨σ2, b1, b2, b3⟩ := m_mix (vTold k a) σ
      obtain ⟨σ', d1, d2, d3, d4⟩ := ih n (by omega) σ2 (h.e1 b2) (hk.e1 b2) (by rw [b3, hs]; rfl)
      refine ⟨σ', ?_, d2, d3, (frM.e1 b2).tr d4⟩
      rw [f_X9_digest_9, if_neg (by rw [z_lit, z_le (by omega) (by omega)]; omega), m_toldOf h (by omega), z_bi, b1, z_bi, show nI k + 1 = nI (k + 1) from z_add k 1]
      exact d1
  have e0 : (sL σ 67 24 2459).1 = σ.1 := rfl
  obtain ⟨σ', d1, d2, d3, d4⟩ := key 0 (by omega) FU (by have := FU_b; omega) (sL σ 67 24 2459) (h.e1 e0) (hk.e1 e0) (by rw [s_L1]; unfold vp_updL; rw [if_pos rfl]; rfl)
  rw [show nI 0 = (0 : Int32) from rfl] at d1
  exact ⟨σ', by rw [f_X9_digest]; exact d1, d2, d3, (frM.e1 e0).tr d4⟩
