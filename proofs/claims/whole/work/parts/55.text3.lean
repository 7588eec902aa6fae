-- orders done
def opO (b : Nat) (n : Nat → Nat) (c : Cf) : Int32 × Cf :=
  if b = 97 then opN (nI (n 0)) (nI (n 1)) 2 c else if b = 105 then opI (nI (n 0)) c else if b = 107 then opK (nI (n 0)) (nI (n 1)) (nI (n 2)) (nI (n 3)) c else if b = 110 then opN (nI (n 0)) (nI (n 1)) 1 c else if b = 114 then opS 1 (nI (n 0)) c else if b = 119 then opS 0 (nI (n 0)) c else opD (nI (n 0)) c
theorem WF_O {c : Cf} (w : WF c) (b : Nat) (n : Nat → Nat) : WF (opO b n c).2 := by
  unfold opO
  split
  · exact WF_N w _ _ _
  · split
    · exact WF_I w _
    · split
      · exact WF_K w _ _ _ _
      · split
        · exact WF_N w _ _ _
        · split
          · exact WF_S w _ _
          · split
            · exact WF_S w _ _
            · exact WF_D w _
theorem c_perform {c : Cf} {τ : HS} (h : SR c 6 τ) (w : WF c) {i b : Nat} {n : Nat → Nat} (hi : i < 40) (hb : b < 128) (hb0 : nbh b ≠ 0) (h64 : τ.1 64 i = nI b) (h65 : ∀ k, k < nbh b → τ.1 65 (4 * i + k) = nI (n k)) : ∃ τ', f_X4_perform 6 (nI i) τ = some ((opO b n c).1, τ') ∧ CP (opO b n c).2 6 τ τ' := by
  rw [f_X4_perform]
  simp (disch := omega) only [z_lit, z_mul, z_add, z_ld, h64, z_bi, z_eq]
  have e0 : τ.1 65 (i * 4) = nI (n 0) := by
    have := h65 0 (by omega)
    rw [show 4 * i + 0 = i * 4 by omega] at this
    exact this
  rw [e0]
  have ek : ∀ k, k < nbh b → τ.1 65 (i * 4 + k) = nI (n k) := fun k hk => by
    have := h65 k hk
    rw [show 4 * i + k = i * 4 + k by omega] at this
    exact this
  unfold opO
  by_cases q1 : b = 97
  · rw [if_pos q1]
    simp only [q1, if_true]
    rw [ek 1 (by rw [q1]; decide)]
    obtain ⟨τ', e1, e2⟩ := c_changeNeed h w (nI (n 0)) (nI (n 1)) (nI 2)
    rw [e1]
    exact ⟨τ', rfl, e2⟩
  · rw [if_neg q1]
    simp only [q1, if_false]
    by_cases q2 : b = 105
    · rw [if_pos q2]
      simp only [q2, if_true]
      obtain ⟨τ', e1, e2⟩ := c_addInstruction h w (nI (n 0))
      rw [e1]
      exact ⟨τ', rfl, e2⟩
    · rw [if_neg q2]
      simp only [q2, if_false]
      by_cases q3 : b = 107
      · rw [if_pos q3]
        simp only [q3, if_true]
        rw [ek 1 (by rw [q3]; decide), ek 2 (by rw [q3]; decide), ek 3 (by rw [q3]; decide)]
        obtain ⟨τ', e1, e2⟩ := c_addKind h w (nI (n 0)) (nI (n 1)) (nI (n 2)) (nI (n 3))
        rw [e1]
        exact ⟨τ', rfl, e2⟩
      · rw [if_neg q3]
        simp only [q3, if_false]
        by_cases q4 : b = 110
        · rw [if_pos q4]
          simp only [q4, if_true]
          rw [ek 1 (by rw [q4]; decide)]
          obtain ⟨τ', e1, e2⟩ := c_changeNeed h w (nI (n 0)) (nI (n 1)) (nI 1)
          rw [e1]
          exact ⟨τ', rfl, e2⟩
        · rw [if_neg q4]
          simp only [q4, if_false]
          by_cases q5 : b = 114
          · rw [if_pos q5]
            simp only [q5, if_true]
            obtain ⟨τ', e1, e2⟩ := c_change h w 1 (nI (n 0))
            rw [show nI 1 = (1 : Int32) from rfl, e1]
            exact ⟨τ', rfl, e2⟩
          · rw [if_neg q5]
            simp only [q5, if_false]
            by_cases q6 : b = 119
            · rw [if_pos q6]
              simp only [q6, if_true]
              obtain ⟨τ', e1, e2⟩ := c_change h w 0 (nI (n 0))
              rw [show nI 0 = (0 : Int32) from rfl, e1]
              exact ⟨τ', rfl, e2⟩
            · rw [if_neg q6]
              simp only [q6, if_false]
              obtain ⟨τ', e1, e2⟩ := c_removeInstruction h w (nI (n 0))
              rw [e1]
              exact ⟨τ', rfl, e2⟩
theorem m_doOrder {c : Cf} {τ : HS} (h : MR c τ) (w : WF c) {i b : Nat} {n : Nat → Nat} (hi : i < 40) (hb : b < 128) (hb0 : nbh b ≠ 0) (h82 : τ.1 82 i = nI b) (h83 : ∀ k, k < nbh b → τ.1 83 (4 * i + k) = nI (n k)) : ∃ τ', f_X9_doOrder (nI i) τ = some ((opO b n c).1, τ') ∧ MP c (opO b n c).2 τ τ' := by
  rw [f_X9_doOrder]
  simp (disch := omega) only [z_lit, z_mul, z_add, z_ld, h82, z_bi, z_eq]
  have e0 : τ.1 83 (4 * i) = nI (n 0) := h83 0 (by omega)
  rw [e0]
  unfold opO
  by_cases q1 : b = 97
  · rw [if_pos q1]
    simp only [q1, if_true]
    rw [h83 1 (by rw [q1]; decide)]
    obtain ⟨τ', e1, e2⟩ := m_doNeeds h w (nI (n 0)) (nI (n 1)) (nI 2)
    rw [e1]
    exact ⟨τ', rfl, e2⟩
  · rw [if_neg q1]
    simp only [q1, if_false]
    by_cases q2 : b = 105
    · rw [if_pos q2]
      simp only [q2, if_true]
      obtain ⟨τ', e1, e2⟩ := m_doInstruction h w (nI (n 0))
      rw [e1]
      exact ⟨τ', rfl, e2⟩
    · rw [if_neg q2]
      simp only [q2, if_false]
      by_cases q3 : b = 107
      · rw [if_pos q3]
        simp only [q3, if_true]
        rw [h83 1 (by rw [q3]; decide), h83 2 (by rw [q3]; decide), h83 3 (by rw [q3]; decide)]
        obtain ⟨τ', e1, e2⟩ := m_doKind h w (nI (n 0)) (nI (n 1)) (nI (n 2)) (nI (n 3))
        rw [e1]
        exact ⟨τ', rfl, e2⟩
      · rw [if_neg q3]
        simp only [q3, if_false]
        by_cases q4 : b = 110
        · rw [if_pos q4]
          simp only [q4, if_true]
          rw [h83 1 (by rw [q4]; decide)]
          obtain ⟨τ', e1, e2⟩ := m_doNeeds h w (nI (n 0)) (nI (n 1)) (nI 1)
          rw [e1]
          exact ⟨τ', rfl, e2⟩
        · rw [if_neg q4]
          simp only [q4, if_false]
          by_cases q5 : b = 114
          · rw [if_pos q5]
            simp only [q5, if_true]
            obtain ⟨τ', e1, e2⟩ := m_doSets h w 1 (nI (n 0))
            rw [show nI 1 = (1 : Int32) from rfl, e1]
            exact ⟨τ', rfl, e2⟩
          · rw [if_neg q5]
            simp only [q5, if_false]
            by_cases q6 : b = 119
            · rw [if_pos q6]
              simp only [q6, if_true]
              obtain ⟨τ', e1, e2⟩ := m_doSets h w 0 (nI (n 0))
              rw [show nI 0 = (0 : Int32) from rfl, e1]
              exact ⟨τ', rfl, e2⟩
            · rw [if_neg q6]
              simp only [q6, if_false]
              obtain ⟨τ', e1, e2⟩ := m_doDrops h w (nI (n 0))
              rw [e1]
              exact ⟨τ', rfl, e2⟩
def opX (L : Nat) (tx : Nat → Nat) (i : Nat) (c : Cf) : Int32 × Cf := opO (tx (orP L tx i)) (orN L tx (orP L tx i)) c
def runO (L : Nat) (tx : Nat → Nat) : Nat → Nat → Cf → Nat ⊕ Cf
  | 0, _, c => .inr c
  | r + 1, i, c => if (opX L tx i c).1 < 0 then .inl i else runO L tx r (i + 1) (opX L tx i c).2
theorem WF_run {L : Nat} {tx : Nat → Nat} : ∀ (r i : Nat) {c c' : Cf}, WF c → runO L tx r i c = .inr c' → WF c' := by
  intro r
  induction r with
  | zero => intro i c c' w h; rw [runO] at h; cases h; exact w
  | succ r ih =>
    intro i c c' w h
    rw [runO] at h
    split at h
    · cases h
    · exact ih (i + 1) (WF_O w _ _) h
def aFin (a : AS) (m : Nat) (R : Nat ⊕ Cf) : Int32 × AS := match R with
  | .inl i => (-1000 - nI i, a)
  | .inr c' => (nI m, aPush c' a)
def aScn (a : AS) (S : Nat ⊕ Nat) : Int32 × AS := match S with
  | .inl f => (-10 - nI f, a)
  | .inr m => aFin a m (runO (aL a) (aT a) m 0 (aC a))
def aReads (a : AS) : Int32 × AS :=
  if orP (aL a) (aT a) 0 < aL a then aScn a (scF (aL a) (aT a) 41 0) else (-10 - nI (aL a), a)
theorem WA_reads {a : AS} (w : WA a) : WA (aReads a).2 := by
  unfold aReads
  split
  · generalize scF (aL a) (aT a) 41 0 = S
    cases S with
    | inl f => exact w
    | inr m =>
      show WA (aFin a m (runO (aL a) (aT a) m 0 (aC a))).2
      cases hR : runO (aL a) (aT a) m 0 (aC a) with
      | inl i => exact w
      | inr c' => exact WA_push w (WF_run _ _ w.1 hR)
  · exact w
theorem ic_fr62 {a : AS} {σ σ' : HS} (h : IC a σ) (hf : fr [62, 64, 65] σ σ') (h3 : σ'.1 62 3 = nI (aL a)) : IC a σ' := by
  obtain ⟨h1, ⟨nx, n1, n2, n3, n4⟩, h4, h5, h6⟩ := h
  refine ⟨h1.fr hf (by simp), ⟨nx, n1, by rw [hf 11 (by simp)]; exact n2, by rw [hf 11 (by simp)]; exact n3, fun j hj => (n4 j hj).fr hf (by intro o ho; simp at ho ⊢; omega)⟩, by rw [hf 66 (by simp)]; exact h4, h3, by rw [hf 63 (by simp)]; exact h6⟩
/-- the orders are right ones -/
theorem scF_all {L : Nat} {tx : Nat → Nat} : ∀ (n i m : Nat), scF L tx n i = .inr m → m < i + n → i ≤ m ∧ (∀ j, i ≤ j → j < m → orP L tx j < L ∧ (orE L tx (orP L tx j)).1 = true) ∧ ¬ orP L tx m < L := by
  intro n
  induction n with
  | zero => intro i m h hm; rw [scF] at h; cases h; omega
  | succ n ih =>
    intro i m h hm
    rw [scF] at h
    by_cases q : orP L tx i < L
    · rw [if_pos q] at h
      by_cases q2 : (orE L tx (orP L tx i)).1 = true
      · rw [if_pos q2] at h
        obtain ⟨i1, i2, i3⟩ := ih (i + 1) m h (by omega)
        refine ⟨by omega, fun j hj hj2 => ?_, i3⟩
        by_cases e : j = i
        · subst e; exact ⟨q, q2⟩
        · exact i2 j (by omega) hj2
      · rw [if_neg q2] at h; cases h
    · rw [if_neg q] at h
      cases h
      exact ⟨Nat.le_refl _, fun j h1 h2 => by omega, q⟩
theorem orE_b {L : Nat} {tx : Nat → Nat} {p : Nat} (h : (orE L tx p).1 = true) : nbh (tx p) ≠ 0 := by
  intro q
  unfold orE at h
  rw [if_pos q] at h
  cases h
theorem c_reads {a : AS} {σ : HS} (h : IC a σ) (w : WA a) : ∃ σ', f_X8_reads σ = some ((aReads a).1, σ') ∧ IC (aReads a).2 σ' ∧ KE a (aReads a).2 σ σ' ∧ frC σ σ' := by
  obtain ⟨w1, w2, w3, w4, w5⟩ := id w
  obtain ⟨σ1, s1, s2, s3⟩ := c_scan (tx := aT a) w4 w5 h.2.2.2.1 h.2.2.2.2
  have hI := ic_fr62 h s1 s2
  have hK : KE a a σ σ1 := KE.of66 s1 rfl (by simp)
  have hC : frC σ σ1 := s1.toC (by simp)
  rw [f_X8_reads]
  rcases s3 with ⟨p0, e⟩ | ⟨p0, ⟨f, f1, f2, e⟩ | ⟨m, m1, m2, m3, e, m4, m5⟩⟩
  · have hA : aReads a = (-10 - nI (aL a), a) := by unfold aReads; rw [if_neg (by omega)]
    rw [e, hA]
    simp only [z_bi]
    have : ¬ nI (aL a) = -1 := z_ne (by omega) (k := 1) (by omega)
    rw [if_neg this]
    exact ⟨σ1, rfl, hI, hK, hC⟩
  · have hA : aReads a = (-10 - nI f, a) := by unfold aReads; rw [if_pos p0, f2]; rfl
    rw [e, hA]
    simp only [z_bi]
    have : ¬ nI f = -1 := z_ne (by omega) (k := 1) (by omega)
    rw [if_neg this]
    exact ⟨σ1, rfl, hI, hK, hC⟩
  · have hA : aReads a = aFin a m (runO (aL a) (aT a) m 0 (aC a)) := by unfold aReads; rw [if_pos p0, m3]; rfl
    rw [e, hA]
    simp only [z_bi, if_true]
    obtain ⟨a1, a2, a3⟩ := scF_all 41 0 m m3 (by omega)
    obtain ⟨σ2, g1, g2, g3⟩ := c_copyFrom (s0 := 6) hI.1 w1 (by omega)
    rw [g1]
    simp only [z_bi]
    generalize hR : runO (aL a) (aT a) m 0 (aC a) = R
    have key : ∀ (r i : Nat) (c : Cf) (n : Nat) (τ : HS), i + r = m → r < n → WF c → SR c 6 τ → fr (sc 6) σ1 τ → R = runO (aL a) (aT a) r i c → ∃ σ', f_X8_reads_31 n (nI i) τ = some ((aFin a m R).1, σ') ∧ IC (aFin a m R).2 σ' ∧ KE a (aFin a m R).2 σ σ' ∧ frC σ σ' := by
      intro r
      induction r with
      | zero =>
        intro i c n τ hi hn wc hS hf hr
        obtain ⟨n, rfl⟩ : ∃ m, n = m + 1 := ⟨n - 1, by omega⟩
        have e4 : τ.1 62 4 = nI m := by rw [hf 62 (by simp)]; exact m4
        rw [f_X8_reads_31, e4]
        simp (disch := omega) only [z_le]
        rw [runO] at hr
        rw [if_pos (by omega), hr]
        have hok : okA (aC a) (nI m, c) := Or.inr ⟨m, by omega, rfl⟩
        obtain ⟨σ', k1, k2, k3, k4⟩ := c_settled (hI.fr hf (by simp)) w hok wc hS
        have hs : aSet (nI m, c) a = (nI m, aPush c a) := by
          unfold aSet
          rw [if_neg]
          show ¬ nI m < 0
          rw [z_0, z_lt (by omega) (by omega)]; omega
        rw [hs] at k2 k3
        rw [k1]
        refine ⟨σ', rfl, k2, ?_, ?_⟩
        · rcases k3 with ⟨q1, q2⟩ | ⟨q1, q2, q3, q4⟩
          · left
            exact ⟨q1, fun o h1 h2 => by rw [q2 o h1 h2, hf o (by simp; omega), s1 o (by simp; omega)]⟩
          · right
            refine ⟨?_, ?_, ?_, fun o h1 h2 h3 h4 h5 => by rw [q4 o h1 h2 h3 h4 h5, hf o (by simp; omega), s1 o (by simp; omega)]⟩
            · rw [q1, hf 38 (by simp), s1 38 (by simp)]
            · rw [q2, hf 42 (by simp), s1 42 (by simp)]
            · rw [q3, hf 54 (by simp), s1 54 (by simp)]
        · intro o ho
          rw [k4 o ho, hf o (by simp; omega), s1 o (by simp; omega)]
      | succ r ih =>
        intro i c n τ hi hn wc hS hf hr
        obtain ⟨n, rfl⟩ : ∃ m, n = m + 1 := ⟨n - 1, by omega⟩
        have e4 : τ.1 62 4 = nI m := by rw [hf 62 (by simp)]; exact m4
        obtain ⟨b1, b2⟩ := a2 i (by omega) (by omega)
        obtain ⟨d1, d2⟩ := m5 i (by omega)
        rw [f_X8_reads_31, e4]
        simp (disch := omega) only [z_le]
        rw [if_neg (by omega)]
        obtain ⟨τ', k1, k2, k3⟩ := c_perform (n := orN (aL a) (aT a) (orP (aL a) (aT a) i)) hS wc (show i < 40 by omega) (w5 _ b1) (orE_b b2) (by rw [hf 64 (by simp)]; exact d1) (by rw [hf 65 (by simp)]; exact d2)
        have k1 : f_X4_perform 6 (nI i) τ = some ((opX (aL a) (aT a) i c).1, τ') := k1
        rw [k1]
        simp only [z_bi]
        rw [runO] at hr
        have hf2 := hf.tr k3
        by_cases q : (opX (aL a) (aT a) i c).1 < 0
        · rw [if_pos q] at hr
          rw [if_neg (Int32.not_le.mpr q), hr]
          exact ⟨τ', rfl, hI.fr hf2 (by simp), Or.inl ⟨rfl, fun o h1 h2 => by rw [hf2 o (by simp; omega), s1 o (by simp; omega)]⟩, fun o ho => by rw [hf2 o (by simp; omega), s1 o (by simp; omega)]⟩
        · rw [if_neg q] at hr
          rw [if_pos (Int32.not_lt.mp q), z_lit, z_add]
          exact ih (i + 1) _ n τ' (by omega) (by omega) (WF_O wc _ _) k2 hf2 hr
    have hk := key m 0 (aC a) FU σ2 (by omega) (by have := FU_b; omega) w1 g2 g3 hR.symm
    rw [show nI 0 = (0 : Int32) from rfl] at hk
    exact hk
