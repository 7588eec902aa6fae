-- about, on both sides
def KCb (c : Cf) (σ : HS) : Prop := σ.1 42 9 = 0 ∨ (σ.1 42 9 = 1 ∧ BOK c σ)
theorem KCb.fr {c : Cf} {σ σ' : HS} (h : KCb c σ) {l : List Nat} (hf : fr l σ σ') (hl : ∀ o, o ∈ l → o < 42 ∨ 48 < o) : KCb c σ' := by
  rcases h with h | ⟨h1, h2⟩
  · left; rw [hf 42 (fun q => by have := hl _ q; omega)]; exact h
  · right; exact ⟨by rw [hf 42 (fun q => by have := hl _ q; omega)]; exact h1, h2.fr hf hl⟩
theorem IM.fr {a : AS} {σ σ' : HS} {l : List Nat} (h : IM a σ) (hf : fr l σ σ') (hl : ∀ o, o ∈ l → o ≠ 67 ∧ o ≠ 68 ∧ o ≠ 70 ∧ o ≠ 71 ∧ o ≠ 81) : IM a σ' := by
  have g : ∀ o, (o = 67 ∨ o = 68 ∨ o = 70 ∨ o = 71 ∨ o = 81) → σ'.1 o = σ.1 o := fun o ho => hf o (fun q => by have := hl o q; omega)
  obtain ⟨h1, h2, h3, h4, h5, h6⟩ := h
  refine ⟨?_, ?_, ?_, ?_, ?_, ?_⟩
  · intro k hk; rw [g 68 (by omega)]; exact h1 k hk
  · rw [g 67 (by omega)]; exact h2
  · rw [g 70 (by omega)]; exact h3
  · rw [g 71 (by omega)]; exact h4
  · rw [g 67 (by omega)]; exact h5
  · rw [g 81 (by omega)]; exact h6
def vAb (c : Cf) (i x : Nat) : Nat := if x = 0 then ko c i else if x = 1 then wy c i else if x = 4 then ea c i else fb_ct (fun j => decide (nd c i j = x - 1)) (c 23)
def aAb (i x : Int32) (a : AS) : Int32 × AS := if (0 ≤ i.toInt ∧ i.toInt < aC a 23) ∧ okR 0 4 x then (nI (vAb (aC a) i.toInt.toNat x.toInt.toNat), a) else (-2, aRef 0 a)
abbrev lB : List Nat := [42, 43, 44, 45, 46, 47, 48]
theorem c_instructionFact {c : Cf} {σ : HS} (hs : SR c 1 σ) (w : WF c) (hk : KCb c σ) {i x : Nat} (hi : i < c 23) (hx : x ≤ 4) : ∃ σ', f_X8_instructionFact (nI i) (nI x) σ = some (nI (vAb c i x), σ') ∧ fr lB σ σ' ∧ BOK c σ' ∧ σ'.1 42 9 = 1 := by
  have hn := w.p_n
  obtain ⟨σ1, a1, a2, a3, a4⟩ := c_learn w hs hk
  have hs1 : SR c 1 σ1 := hs.fr a2 (by simp)
  refine ⟨σ1, ?_, a2, a3, a4⟩
  rw [f_X8_instructionFact, a1, z_bi]
  have b5 := a3.2.2.2.2.1 i hi
  have b6 := a3.2.2.2.2.2.1 i hi
  have b3 := hs1.q_o i hi
  have n1 : f_X6_needsOf 1 (nI i) 1 σ1 = _ := c_needsOf hs1 w hi (so := 1) (by omega)
  have n2 : f_X6_needsOf 1 (nI i) 2 σ1 = _ := c_needsOf hs1 w hi (so := 2) (by omega)
  unfold vAb
  rw [z_ld (by omega) (by omega), z_ld (by omega) (by omega), z_ld (by omega) (by omega), n1, n2, b3, b5, b6]
  rcases (show x = 0 ∨ x = 1 ∨ x = 2 ∨ x = 3 ∨ x = 4 by omega) with rfl | rfl | rfl | rfl | rfl <;> rfl
theorem c_about {a : AS} {σ : HS} (h : IC a σ) (w : WA a) (hk : KCb (aC a) σ) (i x : Int32) : ∃ σ', f_X8_about i x σ = some ((aAb i x a).1, σ') ∧ IC (aAb i x a).2 σ' ∧ aC (aAb i x a).2 = aC a ∧ KCb (aC a) σ' ∧ fr [42, 43, 44, 45, 46, 47, 48, 66] σ σ' := by
  have hb : ∃ σ', ((f_X8_counted (-2) σ).bind fun q => some (q.1, q.2)) = some (-2, σ') ∧ IC (aRef 0 a) σ' ∧ aC (aRef 0 a) = aC a ∧ KCb (aC a) σ' ∧ fr [42, 43, 44, 45, 46, 47, 48, 66] σ σ' := by
    obtain ⟨σ', e1, e2, e3⟩ := c_ref h (r := -2) (Or.inl rfl) (k := 0) (by decide)
    exact ⟨σ', e1, e2, rfl, hk.fr e3 (by simp), e3.up (by simp)⟩
  rw [f_X8_about, c_hasInstruction h.1 w.1]
  simp only [z_bi, z_lit, b2_0]
  unfold aAb
  by_cases hi : 0 ≤ i.toInt ∧ i.toInt < aC a 23
  · have e1 : decide (0 ≤ i.toInt ∧ i.toInt < (aC a 23 : Int)) = true := by simpa using hi
    simp only [e1, Bool.true_eq_false, if_false]
    simp only [z_ltI, z_leI]
    show ∃ σ', (if x.toInt < 0 then _ else if x.toInt ≤ 4 then _ else _) = _ ∧ _
    by_cases ok : okR 0 4 x = true
    · have ok2 := okR_t.mp ok
      obtain ⟨n, a1, a2, a3, a4, a5⟩ := okR_nI (lo := 0) (hi := 4) ok
      obtain ⟨m, b1, b2, b3⟩ := z_of (v := i) hi.1
      rw [if_neg (by omega), if_pos (by omega), if_pos ⟨hi, ok⟩, a5, show i.toInt.toNat = m by omega, a4, b2]
      obtain ⟨σ1, d1, d2, d3, d4⟩ := c_instructionFact h.1 w.1 hk (i := m) (x := n) (by omega) a2
      exact ⟨σ1, by rw [d1, z_bi], h.fr d2 (by simp), rfl, Or.inr ⟨d4, d3⟩, d2.up (by simp)⟩
    · have ok' : okR 0 4 x = false := by simpa using ok
      have ok2 := okR_f.mp ok'
      have hno : ¬ ((0 ≤ i.toInt ∧ i.toInt < (aC a 23 : Int)) ∧ okR 0 4 x = true) := fun q => ok q.2
      simp only [hno, if_false]
      by_cases q1 : x.toInt < 0
      · rw [if_pos q1]; exact hb
      · rw [if_neg q1, if_neg (by omega)]; exact hb
  · have e1 : decide (0 ≤ i.toInt ∧ i.toInt < (aC a 23 : Int)) = false := by simpa using hi
    simp only [e1, if_true]
    rw [if_neg (fun q => hi q.1)]
    exact hb
theorem m_aboutOne {c : Cf} {σ : HS} (h : MR c σ) (w : WF c) {i x : Nat} (hi : i < c 23) (hx : x ≤ 4) : ∃ σ', f_X9_aboutOne (nI i) (nI x) σ = some (nI (vAb c i x), σ') ∧ fr [76, 77] σ σ' := by
  have hn := w.p_n
  obtain ⟨σ1, a1, a2, a3⟩ := m_findWays w h
  have h1 : MR c σ1 := MR.fr h a2 (by simp)
  refine ⟨σ1, ?_, a2⟩
  have key : ∀ so, (x = so + 1 ∧ 1 ≤ so ∧ so ≤ 2) → ∀ j, j ≤ c 23 → ∀ n, c 23 < j + n → f_X9_aboutOne_67 n (nI i) (nI x) (nI (fb_ct (fun j => decide (nd c i j = so)) j)) (nI j) σ1 = some (nI (fb_ct (fun j => decide (nd c i j = so)) (c 23)), σ1) := by
    intro so hso
    refine dn_ind ?_ ?_
    · intro n hn'
      obtain ⟨n, rfl⟩ : ∃ m, n = m + 1 := ⟨n - 1, by omega⟩
      rw [f_X9_aboutOne_67]
      simp (disch := omega) only [z_lit, z_ld, h1, z_bi, z_le]
      rw [if_pos (by omega)]
    · intro j hj ih n hn'
      obtain ⟨n, rfl⟩ : ∃ m, n = m + 1 := ⟨n - 1, by omega⟩
      have hd := w.p_nd (show i < 6 by omega) (show j < 6 by omega)
      have ih := ih n (by omega)
      rw [fb_ct_succ] at ih
      rw [f_X9_aboutOne_67, show (23 : Int32) = nI 23 from rfl, z_ld (by omega) (by omega), z_bi, h1 23 (by omega), if_neg (by rw [z_le (by omega) (by omega)]; omega), m_needOf h1 (by omega) (by omega), z_bi]
      have st : ∀ t : Nat, t = so → f_X9_aboutOne_97 (f_X9_aboutOne_67 n) (nI i) (nI x) (nI j) (nI t) (nI (nd c i j)) (nI (fb_ct (fun j => decide (nd c i j = so)) j)) σ1 = some (nI (fb_ct (fun j => decide (nd c i j = so)) (c 23)), σ1) := by
        intro t ht
        rw [f_X9_aboutOne_97]
        simp (disch := omega) only [z_lit, z_eq, z_add]
        rw [ht]
        by_cases e : nd c i j = so
        · rw [if_pos e]; rw [if_pos (by simpa using e)] at ih; exact ih
        · rw [if_neg e]; rw [if_neg (by simpa using e)] at ih; exact ih
      by_cases e2 : x = 2
      · rw [if_pos (by rw [e2]; rfl)]
        exact st 1 (by omega)
      · rw [if_neg (by rw [z_lit, z_eq (by omega) (by omega)]; exact e2)]
        exact st 2 (by omega)
  have k1 := fun hq => key 1 hq 0 (by omega) FU (by have := FU_b; omega)
  have k2 := fun hq => key 2 hq 0 (by omega) FU (by have := FU_b; omega)
  rw [f_X9_aboutOne, a1, z_bi]
  have b1 := (a3 i hi).1
  have b2 := (a3 i hi).2
  have b3 := h1 (24 + i) (by omega)
  rw [show (24 : Int32) + nI i = nI (24 + i) from z_add 24 i, z_ld (by omega) (by omega), z_ld (by omega) (by omega), z_ld (by omega) (by omega), b1, b2, b3]
  unfold vAb
  rcases (show x = 0 ∨ x = 1 ∨ x = 2 ∨ x = 3 ∨ x = 4 by omega) with rfl | rfl | rfl | rfl | rfl
  · rfl
  · rfl
  · rw [if_neg (by decide), if_neg (by decide), if_neg (by decide)]
    exact k1 ⟨rfl, by omega, by omega⟩
  · rw [if_neg (by decide), if_neg (by decide), if_neg (by decide)]
    exact k2 ⟨rfl, by omega, by omega⟩
  · rfl
theorem m_about {a : AS} {σ : HS} (h : IM a σ) (w : WA a) (i x : Int32) : ∃ σ', f_X9_about i x σ = some ((aAb i x a).1, σ') ∧ IM (aAb i x a).2 σ' ∧ ME a (aAb i x a).2 σ σ' ∧ frM σ σ' := by
  have hb := m_bad h (r := -2) (Or.inl rfl) (k := 0) (by decide)
  rw [f_X9_about, m_isOne h.1 w.1]
  simp only [z_bi, z_lit, b2_0]
  rw [m_inR (by omega) (by omega)]
  simp only [z_bi, b2_0]
  simp only [show ((↑(0 : Nat) : Int)) = 0 from rfl, show ((↑(4 : Nat) : Int)) = 4 from rfl]
  unfold aAb
  by_cases hi : 0 ≤ i.toInt ∧ i.toInt < aC a 23
  · have e1 : decide (0 ≤ i.toInt ∧ i.toInt < (aC a 23 : Int)) = true := by simpa using hi
    simp only [e1, Bool.true_eq_false, if_false]
    by_cases ok : okR 0 4 x = true
    · obtain ⟨n, a1, a2, a3, a4, a5⟩ := okR_nI (lo := 0) (hi := 4) ok
      obtain ⟨m, b1, b2, b3⟩ := z_of (v := i) hi.1
      simp only [ok, Bool.true_eq_false, if_false]
      simp only [hi, and_self, if_true]
      rw [a5, show i.toInt.toNat = m by omega, a4, b2]
      obtain ⟨σ1, d1, d2⟩ := m_aboutOne h.1 w.1 (i := m) (x := n) (by omega) a2
      exact ⟨σ1, by rw [d1, z_bi], h.fr d2 (by simp), ME.of71 d2 rfl (by simp), d2.toM (by simp)⟩
    · have ok' : okR 0 4 x = false := by simpa using ok
      simp only [ok', if_true]
      rw [if_neg (fun q => by cases q.2)]
      exact hb
  · have e1 : decide (0 ≤ i.toInt ∧ i.toInt < (aC a 23 : Int)) = false := by simpa using hi
    simp only [e1, if_true]
    rw [if_neg (fun q => hi q.1)]
    exact hb
