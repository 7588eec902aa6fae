-- the best plan, and the reference's call
def BE (c : Cf) (L : Nat) (T : Nat → Nat) : Prop := LF c L T ∧ ∀ l, l < L → ¬ ∃ T, QP c l T
theorem BE_ex {c : Cf} (w : WF c) : ∃ L T, BE c L T := by
  obtain ⟨T, hT⟩ := PL_ex w
  obtain ⟨L, L1, L2⟩ := lp (P := fun l => ∃ T, QP c l T) ⟨len c T, T, PL_QP w hT⟩
  obtain ⟨T', hT'⟩ := LF_ex L1
  exact ⟨L, T', hT', L2⟩
theorem BE.unL {c : Cf} {L L' : Nat} {T T' : Nat → Nat} (h : BE c L T) (h' : BE c L' T') : L = L' := by
  rcases Nat.lt_trichotomy L L' with g | g | g
  · exact absurd ⟨T, h.1.1⟩ (h'.2 L g)
  · exact g
  · exact absurd ⟨T', h'.1.1⟩ (h.2 L' g)
theorem BE_len {c : Cf} (w : WF c) {L : Nat} {T : Nat → Nat} (h : BE c L T) : len c T = L := by
  have h1 := QP_len w h.1.1
  rcases Nat.lt_or_ge (len c T) L with g | g
  · exact absurd ⟨T, PL_QP w h.1.1.1⟩ (h.2 _ g)
  · omega
theorem BE_bnd {c : Cf} (w : WF c) {L : Nat} {T : Nat → Nat} (h : BE c L T) : bnd c ≤ L := by
  have := bnd_len w h.1.1.1
  rw [BE_len w h] at this; exact this
theorem BE_30 {c : Cf} (w : WF c) {L : Nat} {T : Nat → Nat} (h : BE c L T) : L ≤ 30 := by
  rw [← BE_len w h]
  exact mxF_le (fun k hk => by
    have h1 := LF_25 w h.1 k hk
    have h2 := sp_b w hk
    show T k + sp c k ≤ 30
    omega)
theorem bnd_wy {c : Cf} {i : Nat} (hi : i < c 23) : wy c i ≤ bnd c := by
  have := mxF_ge (wy c) hi
  unfold bnd
  omega
theorem m_findBest {c : Cf} (w : WF c) {σ : HS} (h : MR c σ) {L : Nat} {T : Nat → Nat} (hB : BE c L T) : ∃ σ', f_X9_findBest σ = some (nI L, σ') ∧ fr [76, 77, 78] σ σ' ∧ TN 78 T (c 23) σ' := by
  have hL := BE_30 w hB
  have hb := BE_bnd w hB
  have key : ∀ l, l ≤ L → ∀ n, L < l + n → bnd c ≤ l → ∀ σ, MR c σ → MW 76 77 c (wy c, ea c) σ → ∃ σ', f_X9_findBest_5 n (nI l) σ = some (nI L, σ') ∧ fr [78] σ σ' ∧ TN 78 T (c 23) σ' := by
    refine dn_ind ?_ ?_
    · intro n hn' hl σ h hm
      obtain ⟨n, rfl⟩ : ∃ m, n = m + 1 := ⟨n - 1, by omega⟩
      obtain ⟨σ1, f1, r⟩ := m_isFound w (l := L) (by omega) (fun i hi => Nat.le_trans (bnd_wy hi) hl) h hm
      rcases r with ⟨T', a1, a2, a3⟩ | ⟨_, a2⟩
      · have hu := LF_un hB.1 a2
        have hT : TN 78 T (c 23) σ1 := fun j hj => by rw [← hu j hj]; exact a3 j hj
        refine ⟨σ1, ?_, f1, hT⟩
        rw [f_X9_findBest_5, a1, z_bi, if_neg (show ¬ nI 1 = 0 by decide), m_lengthOf (MR.fr h f1 (by simp)) w hT, z_bi, BE_len w hB]
      · exact absurd ⟨T, hB.1.1⟩ a2
    · intro l hlt ih n hn' hl σ h hm
      obtain ⟨n, rfl⟩ : ∃ m, n = m + 1 := ⟨n - 1, by omega⟩
      obtain ⟨σ1, f1, r⟩ := m_isFound w (l := l) (by omega) (fun i hi => Nat.le_trans (bnd_wy hi) hl) h hm
      rcases r with ⟨T', _, a2, _⟩ | ⟨a1, _⟩
      · exact absurd ⟨T', a2.1⟩ (hB.2 l hlt)
      · obtain ⟨σ', b1, b2, b3⟩ := ih n (by omega) (by omega) σ1 (MR.fr h f1 (by simp)) (by
          intro x hx; rw [f1 76 (by simp), f1 77 (by simp)]; exact hm x hx)
        refine ⟨σ', ?_, f1.tr b2, b3⟩
        rw [f_X9_findBest_5, a1, z_bi, if_pos (show nI 0 = (0 : Int32) from rfl), show (1 : Int32) = nI 1 from rfl, z_add]
        exact b1
  obtain ⟨σ1, a1, a2, a3⟩ := m_boundOf h w
  obtain ⟨σ', b1, b2, b3⟩ := key (bnd c) hb FU (by have := FU_b; omega) (Nat.le_refl _) σ1 (MR.fr h a2 (by simp)) a3
  refine ⟨σ', ?_, (a2.up (by simp)).tr (b2.up (by simp)), b3⟩
  rw [f_X9_findBest, a1, z_bi]
  exact b1
def inBe (x : Int32) (a : AS) : Prop := x = -1 ∨ (0 ≤ x.toInt ∧ x.toInt < aC a 23)
def aBe (x : Int32) (a : AS) (v : Int32) (a' : AS) : Prop := (inBe x a ∧ (∃ L T, BE (aC a) L T ∧ v = if x = -1 then nI L else nI (T x.toInt.toNat)) ∧ a' = a) ∨ (¬ inBe x a ∧ v = -2 ∧ a' = aRef 0 a)
theorem aBe.un {x : Int32} {a a' a'' : AS} {v v' : Int32} (h : aBe x a v a') (h' : aBe x a v' a'') : v = v' ∧ a' = a'' := by
  rcases h with ⟨h1, ⟨L, T, h2, h3⟩, h4⟩ | ⟨h1, h2, h3⟩ <;> rcases h' with ⟨g1, ⟨L', T', g2, g3⟩, g4⟩ | ⟨g1, g2, g3⟩
  · refine ⟨?_, by rw [h4, g4]⟩
    have e := h2.unL g2
    subst e
    rw [h3, g3]
    by_cases q : x = -1
    · rw [if_pos q, if_pos q]
    · rw [if_neg q, if_neg q]
      rcases h1 with h1 | h1
      · exact absurd h1 q
      · rw [LF_un g2.1 h2.1 _ (by omega)]
  · exact absurd h1 g1
  · exact absurd g1 h1
  · exact ⟨by rw [h2, g2], by rw [h3, g3]⟩
theorem m_best {a : AS} {σ : HS} (h : IM a σ) (w : WA a) (x : Int32) : ∃ v a' σ', f_X9_best x σ = some (v, σ') ∧ aBe x a v a' ∧ IM a' σ' ∧ ME a a' σ σ' ∧ frM σ σ' := by
  have hn := w.1.p_n
  have s20 : inBe x a → ∃ v a' σ', f_X9_best_20 x σ = some (v, σ') ∧ aBe x a v a' ∧ IM a' σ' ∧ ME a a' σ σ' ∧ frM σ σ' := by
    intro hi
    obtain ⟨L, T, hB⟩ := BE_ex w.1
    obtain ⟨σ1, d1, d2, d3⟩ := m_findBest w.1 h.1 hB
    refine ⟨_, a, σ1, ?_, Or.inl ⟨hi, ⟨L, T, hB, rfl⟩, rfl⟩, h.fr d2 (by simp), ME.of71 d2 rfl (by simp), d2.toM (by simp)⟩
    rw [f_X9_best_20, d1, z_bi]
    by_cases e : x = -1
    · rw [if_pos e, if_pos e]
    · rw [if_neg e, if_neg e]
      rcases hi with q | q
      · exact absurd q e
      · obtain ⟨m, b1, b2, b3⟩ := z_of (v := x) q.1
        rw [show x.toInt.toNat = m by omega, b2, z_ld (by omega) (by omega), z_bi, (d3 m (by omega)).2]
  rw [f_X9_best]
  by_cases q3 : x = -1
  · rw [if_pos q3]
    exact s20 (Or.inl q3)
  · rw [if_neg q3, m_isOne h.1 w.1, z_bi]
    by_cases hi : 0 ≤ x.toInt ∧ x.toInt < aC a 23
    · have e1 : decide (0 ≤ x.toInt ∧ x.toInt < (aC a 23 : Int)) = true := by simpa using hi
      rw [e1, if_neg (show ¬ nI (b2 true) = 0 by decide)]
      exact s20 (Or.inr hi)
    · have e1 : decide (0 ≤ x.toInt ∧ x.toInt < (aC a 23 : Int)) = false := by simpa using hi
      rw [e1, if_pos (show nI (b2 false) = 0 from rfl)]
      obtain ⟨σ', e1, e2, e3, e4⟩ := m_bad h (r := -2) (Or.inl rfl) (k := 0) (by decide)
      exact ⟨-2, _, σ', e1, Or.inr ⟨fun e => e.elim (fun g => q3 g) (fun g => hi g), rfl, rfl⟩, e2, e3, e4⟩
