-- state and alike: the class's calls
def aSt (s x : Int32) (a : AS) : Int32 × AS := if 0 ≤ s.toInt ∧ 0 ≤ x.toInt ∧ x.toInt ≤ 3 + (aC a 0 : Int) then (if (LSt (aC a)).1 ≤ 150 then (if s.toInt < (LSt (aC a)).1 then (vSt (aC a) s.toInt.toNat x.toInt.toNat, a) else (-2, aRef 0 a)) else (-5, aRef 3 a)) else (-2, aRef 0 a)
def aAl (s t : Int32) (a : AS) : Int32 × AS := if 0 ≤ s.toInt ∧ 0 ≤ t.toInt then (if (LSt (aC a)).1 ≤ 150 then (if s.toInt < (LSt (aC a)).1 ∧ t.toInt < (LSt (aC a)).1 then (nI (b2 (decide (sgs (aC a) (LSt (aC a)) s.toInt.toNat = sgs (aC a) (LSt (aC a)) t.toInt.toNat))), a) else (-2, aRef 0 a)) else (-5, aRef 3 a)) else (-2, aRef 0 a)
theorem c_hasState {p : SL} {σ : HS} (h : LC p σ) (hp : p.1 ≤ 150) {s : Int32} (hs : 0 ≤ s.toInt) : f_X1_hasState s σ = some (nI (b2 (decide (s.toInt < p.1))), σ) := by
  rw [f_X1_hasState, if_neg (by rw [z_ltI]; show ¬ s.toInt < 0; omega), h.1, show mn p.1 = p.1 by unfold mn; omega]
  by_cases e : s.toInt < p.1
  · rw [if_neg (by rw [z_leI, z_ti (by omega)]; omega)]; simp [e]; rfl
  · rw [if_pos (by rw [z_leI, z_ti (by omega)]; omega)]; simp [e]; rfl
theorem c_state {a : AS} {σ : HS} (h : IC a σ) (w : WA a) (hk : KCc (aC a) σ) (s x : Int32) : ∃ σ', f_X8_state s x σ = some ((aSt s x a).1, σ') ∧ IC (aSt s x a).2 σ' ∧ aC (aSt s x a).2 = aC a ∧ KCc (aC a) σ' ∧ fr lC σ σ' := by
  have hk5 := w.1.p_k
  have hg := (LSt_GD w.1).1
  have hb := c_much h hk (r := -2) (Or.inl rfl) (k := 0) (by decide)
  rw [f_X8_state]
  unfold aSt
  by_cases q1 : s.toInt < 0
  · rw [if_pos (by rw [z_ltI]; exact q1), if_neg (show ¬ (0 ≤ s.toInt ∧ 0 ≤ x.toInt ∧ x.toInt ≤ 3 + (aC a 0 : Int)) by omega)]; exact hb
  · rw [if_neg (by rw [z_ltI]; exact q1)]
    by_cases q2 : x.toInt < 0
    · rw [if_pos (by rw [z_ltI]; exact q2), if_neg (show ¬ (0 ≤ s.toInt ∧ 0 ≤ x.toInt ∧ x.toInt ≤ 3 + (aC a 0 : Int)) by omega)]; exact hb
    · rw [if_neg (by rw [z_ltI]; exact q2), h.1.q_k, show (3 : Int32) + nI (aC a 0) = nI (3 + aC a 0) from z_add 3 _]
      by_cases q3 : x.toInt ≤ 3 + (aC a 0 : Int)
      · rw [if_pos (by rw [z_leI, z_ti (by omega)]; omega), if_pos ⟨by omega, by omega, q3⟩]
        obtain ⟨σ1, a1, a2, a3, a4⟩ := c_chart w.1 h.1 hk
        have h1 := h.fr a2 (by simp)
        rw [a1, z_bi, a3.1.2.1]
        by_cases e : (LSt (aC a)).1 ≤ 150
        · rw [if_neg (show ¬ (LSt (aC a)).1 = 151 by omega), if_pos (show nI 0 = (0 : Int32) from rfl), if_pos e, c_hasState a3.1 e (by omega), z_bi]
          by_cases g : s.toInt < (LSt (aC a)).1
          · have eg : decide (s.toInt < ((LSt (aC a)).1 : Int)) = true := by simpa using g
            rw [eg, if_neg (show ¬ nI (b2 true) = 0 by decide), if_pos g]
            obtain ⟨m, b1, b2, b3⟩ := z_of (v := s) (by omega)
            obtain ⟨m', b1', b2', b3'⟩ := z_of (v := x) (by omega)
            rw [show s.toInt.toNat = m by omega, show x.toInt.toNat = m' by omega, b2, b2', c_stateFact w.1 h1.1 a3 e (by omega) (by omega), z_bi]
            exact ⟨σ1, rfl, h1, rfl, a4, a2.up (by simp)⟩
          · have eg : decide (s.toInt < ((LSt (aC a)).1 : Int)) = false := by simpa using g
            rw [eg, if_pos (show nI (b2 false) = 0 from rfl), if_neg g]
            obtain ⟨σ', e1, e2, e3, e4, e5⟩ := c_much h1 a4 (r := -2) (Or.inl rfl) (k := 0) (by decide)
            exact ⟨σ', e1, e2, e3, e4, (a2.up (by simp)).tr e5⟩
        · rw [if_pos (show (LSt (aC a)).1 = 151 by omega), if_neg (show ¬ nI 1 = 0 by decide), if_neg e]
          obtain ⟨σ', e1, e2, e3, e4, e5⟩ := c_much h1 a4 (r := -5) (Or.inr (Or.inr (Or.inr rfl))) (k := 3) (by decide)
          exact ⟨σ', e1, e2, e3, e4, (a2.up (by simp)).tr e5⟩
      · rw [if_neg (by rw [z_leI, z_ti (by omega)]; omega), if_neg (show ¬ (0 ≤ s.toInt ∧ 0 ≤ x.toInt ∧ x.toInt ≤ 3 + (aC a 0 : Int)) by omega)]; exact hb
theorem c_alike {a : AS} {σ : HS} (h : IC a σ) (w : WA a) (hk : KCc (aC a) σ) (s t : Int32) : ∃ σ', f_X8_alike s t σ = some ((aAl s t a).1, σ') ∧ IC (aAl s t a).2 σ' ∧ aC (aAl s t a).2 = aC a ∧ KCc (aC a) σ' ∧ fr lC σ σ' := by
  have hg := (LSt_GD w.1).1
  have hb := c_much h hk (r := -2) (Or.inl rfl) (k := 0) (by decide)
  rw [f_X8_alike]
  unfold aAl
  by_cases q1 : s.toInt < 0
  · rw [if_pos (by rw [z_ltI]; exact q1), if_neg (show ¬ (0 ≤ s.toInt ∧ 0 ≤ t.toInt) by omega)]; exact hb
  · rw [if_neg (by rw [z_ltI]; exact q1)]
    by_cases q2 : 0 ≤ t.toInt
    · rw [if_pos (by rw [z_leI]; exact q2), if_pos ⟨by omega, q2⟩]
      obtain ⟨σ1, a1, a2, a3, a4⟩ := c_chart w.1 h.1 hk
      have h1 := h.fr a2 (by simp)
      have bad : ∃ σ', ((f_X8_counted (-2) σ1).bind fun q => some (q.1, q.2)) = some (-2, σ') ∧ IC (aRef 0 a) σ' ∧ aC (aRef 0 a) = aC a ∧ KCc (aC a) σ' ∧ fr lC σ σ' := by
        obtain ⟨σ', e1, e2, e3, e4, e5⟩ := c_much h1 a4 (r := -2) (Or.inl rfl) (k := 0) (by decide)
        exact ⟨σ', e1, e2, e3, e4, (a2.up (by simp)).tr e5⟩
      rw [a1, z_bi, a3.1.2.1]
      by_cases e : (LSt (aC a)).1 ≤ 150
      · rw [if_neg (show ¬ (LSt (aC a)).1 = 151 by omega), if_pos (show nI 0 = (0 : Int32) from rfl), if_pos e, c_hasState a3.1 e (by omega), z_bi]
        by_cases g : s.toInt < (LSt (aC a)).1
        · have eg : decide (s.toInt < ((LSt (aC a)).1 : Int)) = true := by simpa using g
          rw [eg, if_neg (show ¬ nI (b2 true) = 0 by decide), c_hasState a3.1 e q2, z_bi]
          by_cases g2 : t.toInt < (LSt (aC a)).1
          · have eg2 : decide (t.toInt < ((LSt (aC a)).1 : Int)) = true := by simpa using g2
            rw [eg2, if_neg (show ¬ nI (b2 true) = 0 by decide), if_pos ⟨g, g2⟩]
            obtain ⟨m, b1, b2, b3⟩ := z_of (v := s) (by omega)
            obtain ⟨m', b1', b2', b3'⟩ := z_of (v := t) (by omega)
            have o1 := (a3.2 e).2 m (by omega)
            have o2 := (a3.2 e).2 m' (by omega)
            have l1 : sgs (aC a) (LSt (aC a)) m < 1048576 := sg_lt w.1 _
            have l2 : sgs (aC a) (LSt (aC a)) m' < 1048576 := sg_lt w.1 _
            rw [show s.toInt.toNat = m by omega, show t.toInt.toNat = m' by omega, b2, b2', f_X1_sameClass, z_ld (by omega) (by omega), z_bi, z_ld (by omega) (by omega), z_bi, o1, o2]
            refine ⟨σ1, ?_, h1, rfl, a4, a2.up (by simp)⟩
            by_cases z : sgs (aC a) (LSt (aC a)) m = sgs (aC a) (LSt (aC a)) m'
            · rw [if_pos (by rw [z]), z_bi, if_neg (by show ¬ (1 : Int32) = 0; decide)]; simp [z]; rfl
            · rw [if_neg (by rw [z_eq (by omega) (by omega)]; exact z), z_bi, if_pos (by rfl)]; simp [z]; rfl
          · have eg2 : decide (t.toInt < ((LSt (aC a)).1 : Int)) = false := by simpa using g2
            rw [eg2, if_pos (show nI (b2 false) = 0 from rfl), if_neg (fun q => g2 q.2)]; exact bad
        · have eg : decide (s.toInt < ((LSt (aC a)).1 : Int)) = false := by simpa using g
          rw [eg, if_pos (show nI (b2 false) = 0 from rfl), if_neg (fun q => g q.1)]; exact bad
      · rw [if_pos (show (LSt (aC a)).1 = 151 by omega), if_neg (show ¬ nI 1 = 0 by decide), if_neg e]
        obtain ⟨σ', e1, e2, e3, e4, e5⟩ := c_much h1 a4 (r := -5) (Or.inr (Or.inr (Or.inr rfl))) (k := 3) (by decide)
        exact ⟨σ', e1, e2, e3, e4, (a2.up (by simp)).tr e5⟩
    · rw [if_neg (by rw [z_leI]; exact q2), if_neg (show ¬ (0 ≤ s.toInt ∧ 0 ≤ t.toInt) by omega)]; exact hb
