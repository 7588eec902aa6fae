-- type, clear, told, of
theorem c_ref {a : AS} {σ : HS} (h : IC a σ) {r : Int32} {k : Nat} (hr : r = -2 ∨ r = -3 ∨ r = -4 ∨ r = -5) (hk : (-2 - r).toNatClampNeg = k) : ∃ σ', ((f_X8_counted r σ).bind fun q => some (q.1, q.2)) = some (r, σ') ∧ IC (aRef k a) σ' ∧ fr [66] σ σ' := by
  obtain ⟨σ', e1, e2, e3⟩ := c_counted h hr
  rw [e1]
  exact ⟨σ', rfl, by rw [← hk]; exact e2, e3⟩
theorem m_ref {a : AS} {σ : HS} (h : IM a σ) {r : Int32} {k : Nat} (hr : r = -2 ∨ r = -3 ∨ r = -4 ∨ r = -5) (hk : (-2 - r).toNatClampNeg = k) : ∃ σ', ((f_X9_refuses r σ).bind fun q => some (q.1, q.2)) = some (r, σ') ∧ IM (aRef k a) σ' ∧ fr [71] σ σ' := by
  obtain ⟨σ', e1, e2, e3⟩ := m_refuses h hr
  rw [e1]
  exact ⟨σ', rfl, by rw [← hk]; exact e2, e3⟩
theorem KE.of66 {a a' : AS} {σ σ' : HS} {l : List Nat} (h : fr l σ σ') (hc : aC a' = aC a) (hl : ∀ o, o ∈ l → o < 38 ∨ 61 < o) : KE a a' σ σ' := Or.inl ⟨hc, fun o h1 h2 => h o (fun q => by have := hl o q; omega)⟩
theorem ME.of71 {a a' : AS} {σ σ' : HS} {l : List Nat} (h : fr l σ σ') (hc : aC a' = aC a) (hl : ∀ o, o ∈ l → o ≠ 67 ∧ o ≠ 72 ∧ o ≠ 73 ∧ o ≠ 74) : ME a a' σ σ' := by
  have e : ∀ o, o = 67 ∨ o = 72 ∨ o = 73 ∨ o = 74 → σ'.1 o = σ.1 o := fun o ho => h o (fun q => by have := hl o q; omega)
  refine ⟨Or.inr ⟨by rw [e 67 (by omega)], fun k _ => by rw [hc]⟩, by rw [e 67 (by omega)], by rw [e 67 (by omega)], e 72 (by omega), e 73 (by omega), e 74 (by omega)⟩
/-- an answer that only counts a refusal, or nothing -/
theorem c_bad {a : AS} {σ : HS} (h : IC a σ) {r : Int32} {k : Nat} (hr : r = -2 ∨ r = -3 ∨ r = -4 ∨ r = -5) (hk : (-2 - r).toNatClampNeg = k) : ∃ σ', ((f_X8_counted r σ).bind fun q => some (q.1, q.2)) = some (r, σ') ∧ IC (aRef k a) σ' ∧ KE a (aRef k a) σ σ' ∧ frC σ σ' := by
  obtain ⟨σ', e1, e2, e3⟩ := c_ref h hr hk
  exact ⟨σ', e1, e2, KE.of66 e3 rfl (by simp), e3.toC (by simp)⟩
theorem m_bad {a : AS} {σ : HS} (h : IM a σ) {r : Int32} {k : Nat} (hr : r = -2 ∨ r = -3 ∨ r = -4 ∨ r = -5) (hk : (-2 - r).toNatClampNeg = k) : ∃ σ', ((f_X9_refuses r σ).bind fun q => some (q.1, q.2)) = some (r, σ') ∧ IM (aRef k a) σ' ∧ ME a (aRef k a) σ σ' ∧ frM σ σ' := by
  obtain ⟨σ', e1, e2, e3⟩ := m_ref h hr hk
  exact ⟨σ', e1, e2, ME.of71 e3 rfl (by simp), e3.toM (by simp)⟩
theorem KE.rf {a : AS} {σ : HS} : KE a a σ σ := Or.inl ⟨rfl, fun _ _ _ => rfl⟩
theorem ME.rf {a : AS} {σ : HS} : ME a a σ σ := ⟨Or.inr ⟨rfl, fun _ _ => rfl⟩, rfl, rfl, rfl, rfl, rfl⟩
theorem frC.rf {σ : HS} : frC σ σ := fun _ _ => rfl
theorem frM.rf {σ : HS} : frM σ σ := fun _ _ => rfl
def aType (x : Int32) (a : AS) : Int32 × AS :=
  if okR 0 127 x then (if aL a = 120 then (-4, aRef 2 a) else (nI (aL a + 1), (aC a, aN a, aH a, aL a + 1, (fun k => if k = aL a then x.toInt.toNat else aT a k), aR a))) else (-2, aRef 0 a)
theorem WA_type {a : AS} (w : WA a) (x : Int32) : WA (aType x a).2 := by
  unfold aType
  by_cases ok : okR 0 127 x = true
  · rw [if_pos ok]
    by_cases e : aL a = 120
    · rw [if_pos e]; exact w
    · rw [if_neg e]
      obtain ⟨h1, h2, h3, h4, h5⟩ := w
      obtain ⟨n, a1, a2, a3, a4, a5⟩ := okR_nI (lo := 0) (hi := 127) ok
      refine ⟨h1, h2, h3, ?_, ?_⟩
      · show aL a + 1 ≤ 120; omega
      · intro k hk
        have hk : k < aL a + 1 := hk
        show (if k = aL a then x.toInt.toNat else aT a k) < 128
        split
        · omega
        · exact h5 k (by omega)
  · rw [if_neg ok]; exact w
theorem c_type {a : AS} {σ : HS} (h : IC a σ) (w : WA a) (x : Int32) : ∃ σ', f_X8_type x σ = some ((aType x a).1, σ') ∧ IC (aType x a).2 σ' ∧ KE a (aType x a).2 σ σ' ∧ frC σ σ' := by
  have w4 := w.2.2.2.1
  have hb := c_bad h (r := -2) (Or.inl rfl) (k := 0) (by decide)
  have hb4 := c_bad h (r := -4) (Or.inr (Or.inr (Or.inl rfl))) (k := 2) (by decide)
  have hc := h
  obtain ⟨h1, h2, h3, h4, h5⟩ := h
  rw [f_X8_type, h4]
  unfold aType
  simp only [z_ltI, z_leI]
  rw [z_ti (by omega)]
  show ∃ σ', (if x.toInt < 0 then _ else if x.toInt ≤ 127 then (if (aL a : Int) < 120 then _ else _) else _) = _ ∧ _
  by_cases ok : okR 0 127 x = true
  · have ok2 := okR_t.mp ok
    rw [if_neg (by omega), if_pos (by omega)]
    simp only [ok, if_true]
    by_cases e : aL a = 120
    · rw [if_neg (by omega)]
      simp only [e, if_true]
      exact hb4
    · rw [if_pos (by omega)]
      simp only [e, if_false]
      obtain ⟨n, a1, a2, a3, a4, a5⟩ := okR_nI (lo := 0) (hi := 127) ok
      rw [f_X4_append, h4, a5]
      simp (disch := omega) only [z_lit, z_le, z_st, z_bi, s_I1, s_I2, h4, u_1, z_add]
      rw [if_neg (by omega)]
      simp only [z_bi]
      have hf : fr [62, 63] σ (sI (sI σ 63 (aL a) x) 62 3 (nI (aL a + 1))) := (fr.sI (by simp)).tr (fr.sI (by simp))
      refine ⟨_, rfl, ⟨h1.fr hf (by simp), ?_, by rw [hf 66 (by simp)]; exact h3, ?_, ?_⟩, KE.of66 hf rfl (by simp), hf.toC (by simp)⟩
      · obtain ⟨nx, n1, n2, n3, n4⟩ := h2
        exact ⟨nx, n1, by rw [hf 11 (by simp)]; exact n2, by rw [hf 11 (by simp)]; exact n3, fun j hj => (n4 j hj).fr hf (by intro o ho; simp at ho ⊢; omega)⟩
      · rw [s_I1, u_1]
      · intro k hk
        have hk : k < aL a + 1 := hk
        simp (disch := omega) only [s_I1, s_I2]
        show upd (σ.1 63) (aL a) x k = nI (if k = aL a then n else aT a k)
        by_cases q : k = aL a
        · rw [q, u_1, if_pos rfl, a4]
        · rw [u_2 _ _ q, if_neg q]; exact h5 k (by omega)
  · have ok' : okR 0 127 x = false := by simpa using ok
    have ok2 := okR_f.mp ok'
    simp only [ok', Bool.false_eq_true, if_false]
    by_cases q1 : x.toInt < 0
    · rw [if_pos q1]; exact hb
    · rw [if_neg q1, if_neg (by omega)]; exact hb
theorem m_type {a : AS} {σ : HS} (h : IM a σ) (w : WA a) (x : Int32) : ∃ σ', f_X9_type x σ = some ((aType x a).1, σ') ∧ IM (aType x a).2 σ' ∧ ME a (aType x a).2 σ σ' ∧ frM σ σ' := by
  have w4 := w.2.2.2.1
  have hb := m_bad h (r := -2) (Or.inl rfl) (k := 0) (by decide)
  have hb4 := m_bad h (r := -4) (Or.inr (Or.inr (Or.inl rfl))) (k := 2) (by decide)
  obtain ⟨h1, h2, h3, h4, h5, h6⟩ := h
  rw [f_X9_type]
  simp only [z_lit]
  rw [m_inR (by omega) (by omega)]
  simp only [z_bi, b2_0]
  simp only [show ((↑(0 : Nat) : Int)) = 0 from rfl, show ((↑(127 : Nat) : Int)) = 127 from rfl]
  rw [h5]
  simp (disch := omega) only [z_eq]
  unfold aType
  by_cases ok : okR 0 127 x = true
  · simp only [ok, Bool.true_eq_false, if_false, if_true]
    by_cases e : aL a = 120
    · simp only [e, if_true]; exact hb4
    · simp only [e, if_false]
      obtain ⟨n, a1, a2, a3, a4, a5⟩ := okR_nI (lo := 0) (hi := 127) ok
      rw [a5]
      simp (disch := omega) only [z_st, z_bi, s_I1, s_I2, h5, u_1, z_add]
      have hf : fr [67, 81] σ (sI (sI σ 81 (aL a) x) 67 18 (nI (aL a + 1))) := (fr.sI (by simp)).tr (fr.sI (by simp))
      have h67 : ∀ k, k ≠ 18 → (sI (sI σ 81 (aL a) x) 67 18 (nI (aL a + 1))).1 67 k = σ.1 67 k := fun k hk => by
        simp (disch := omega) only [s_I1, s_I2, u_2]
      refine ⟨_, rfl, ⟨fun k hk => by rw [hf 68 (by simp)]; exact h1 k hk, by rw [h67 3 (by omega)]; exact h2, by rw [hf 70 (by simp)]; exact h3, by rw [hf 71 (by simp)]; exact h4, by rw [s_I1, u_1], ?_⟩, ⟨Or.inr ⟨h67 5 (by omega), fun _ _ => rfl⟩, h67 6 (by omega), h67 9 (by omega), hf 72 (by simp), hf 73 (by simp), hf 74 (by simp)⟩, hf.toM (by simp)⟩
      intro k hk
      have hk : k < aL a + 1 := hk
      simp (disch := omega) only [s_I1, s_I2]
      show upd (σ.1 81) (aL a) x k = nI (if k = aL a then n else aT a k)
      by_cases q : k = aL a
      · rw [q, u_1, if_pos rfl, a4]
      · rw [u_2 _ _ q, if_neg q]; exact h6 k (by omega)
  · have ok' : okR 0 127 x = false := by simpa using ok
    simp only [ok', if_true, Bool.false_eq_true, if_false]
    exact hb
def aClear (a : AS) : Int32 × AS := (nI (aL a), (aC a, aN a, aH a, 0, aT a, aR a))
theorem WA_clear {a : AS} (w : WA a) : WA (aClear a).2 := ⟨w.1, w.2.1, w.2.2.1, Nat.zero_le _, fun k hk => absurd hk (Nat.not_lt_zero k)⟩
theorem c_clear {a : AS} {σ : HS} (h : IC a σ) : ∃ σ', f_X8_clear σ = some ((aClear a).1, σ') ∧ IC (aClear a).2 σ' ∧ KE a (aClear a).2 σ σ' ∧ frC σ σ' := by
  obtain ⟨h1, h2, h3, h4, h5⟩ := h
  rw [f_X8_clear, f_X4_empty, h4]
  simp only [z_bi]
  have hf : fr [62] σ (sI σ 62 3 0) := fr.sI (by simp)
  refine ⟨_, rfl, ⟨h1.fr hf (by simp), ?_, by rw [hf 66 (by simp)]; exact h3, by rw [s_I1, u_1]; rfl, fun k hk => absurd hk (Nat.not_lt_zero k)⟩, KE.of66 hf rfl (by simp), hf.toC (by simp)⟩
  obtain ⟨nx, n1, n2, n3, n4⟩ := h2
  exact ⟨nx, n1, by rw [hf 11 (by simp)]; exact n2, by rw [hf 11 (by simp)]; exact n3, fun j hj => (n4 j hj).fr hf (by intro o ho; simp at ho ⊢; omega)⟩
theorem m_clear {a : AS} {σ : HS} (h : IM a σ) : ∃ σ', f_X9_clear σ = some ((aClear a).1, σ') ∧ IM (aClear a).2 σ' ∧ ME a (aClear a).2 σ σ' ∧ frM σ σ' := by
  obtain ⟨h1, h2, h3, h4, h5, h6⟩ := h
  rw [f_X9_clear, h5]
  have hf : fr [67] σ (sI σ 67 18 0) := fr.sI (by simp)
  have h67 : ∀ k, k ≠ 18 → (sI σ 67 18 0).1 67 k = σ.1 67 k := fun k hk => by simp (disch := omega) only [s_I1, u_2]
  exact ⟨_, rfl, ⟨fun k hk => by rw [hf 68 (by simp)]; exact h1 k hk, by rw [h67 3 (by omega)]; exact h2, by rw [hf 70 (by simp)]; exact h3, by rw [hf 71 (by simp)]; exact h4, by rw [s_I1, u_1]; rfl, fun k hk => absurd hk (Nat.not_lt_zero k)⟩, ⟨Or.inr ⟨h67 5 (by omega), fun _ _ => rfl⟩, h67 6 (by omega), h67 9 (by omega), hf 72 (by simp), hf 73 (by simp), hf 74 (by simp)⟩, hf.toM (by simp)⟩
/-- what told tells -/
def vTold (w : Nat) (a : AS) : Int32 := if w = 4 then nI (aL a) else if w = 5 then nI (aC a 0) else if w = 6 then nI (aC a 23) else if w = 7 then nI (aC a 21) else if w = 8 then nI (aC a 22) else if w = 9 then nI (aN a) else aR a w
theorem c_figure {a : AS} {σ : HS} (h : IC a σ) {w : Nat} (hw : w ≤ 9) : f_X8_figure (nI w) σ = some (vTold w a, σ) := by
  obtain ⟨h1, ⟨nx, n1, n2, n3, n4⟩, h3, h4, h5⟩ := h
  rw [f_X8_figure]
  simp (disch := omega) only [z_lit, z_eq, z_lt, z_le, h4, h1.q_k, h1.q_n, h1.q_w, h1.q_r, n3]
  unfold vTold
  rcases (show w = 4 ∨ w = 5 ∨ w = 6 ∨ w = 7 ∨ w = 8 ∨ w = 9 ∨ w < 4 by omega) with rfl | rfl | rfl | rfl | rfl | rfl | q
  · rfl
  · rfl
  · rfl
  · rfl
  · rfl
  · rfl
  · rw [if_neg (by omega), if_neg (by omega), if_neg (by omega), if_neg (by omega), if_neg (by omega), if_neg (by omega), if_neg (by omega), if_neg (by omega), z_ld q (by omega), h3 w q, if_neg (by omega), if_neg (by omega), if_neg (by omega), if_neg (by omega), if_neg (by omega), if_neg (by omega)]
    rfl
theorem m_toldOf {a : AS} {σ : HS} (h : IM a σ) {w : Nat} (hw : w ≤ 9) : f_X9_toldOf (nI w) σ = some (vTold w a, σ) := by
  obtain ⟨h1, h2, h3, h4, h5, h6⟩ := h
  rw [f_X9_toldOf]
  simp (disch := omega) only [z_lit, z_eq, h5, h2, z_ld, h1, z_bi]
  unfold vTold
  rcases (show w = 4 ∨ w = 5 ∨ w = 6 ∨ w = 7 ∨ w = 8 ∨ w = 9 ∨ w < 4 by omega) with rfl | rfl | rfl | rfl | rfl | rfl | q
  · rfl
  · rfl
  · rfl
  · rfl
  · rfl
  · rfl
  · rw [if_neg (by omega), if_neg (by omega), if_neg (by omega), if_neg (by omega), if_neg (by omega), if_neg (by omega)]
    try rw [z_ld q (by omega), z_bi]
    rw [h4 w q, if_neg (by omega), if_neg (by omega), if_neg (by omega), if_neg (by omega), if_neg (by omega), if_neg (by omega)]
def aTold (x : Int32) (a : AS) : Int32 × AS := if okR 0 9 x then (vTold x.toInt.toNat a, a) else (-2, aRef 0 a)
theorem c_told {a : AS} {σ : HS} (h : IC a σ) (x : Int32) : ∃ σ', f_X8_told x σ = some ((aTold x a).1, σ') ∧ IC (aTold x a).2 σ' ∧ KE a (aTold x a).2 σ σ' ∧ frC σ σ' := by
  have hb := c_bad h (r := -2) (Or.inl rfl) (k := 0) (by decide)
  rw [f_X8_told]
  unfold aTold
  simp only [z_ltI, z_leI]
  show ∃ σ', (if x.toInt < 0 then _ else if x.toInt ≤ 9 then _ else _) = _ ∧ _
  by_cases ok : okR 0 9 x = true
  · have ok2 := okR_t.mp ok
    obtain ⟨n, a1, a2, a3, a4, a5⟩ := okR_nI (lo := 0) (hi := 9) ok
    rw [if_neg (by omega), if_pos (by omega)]
    simp only [ok, if_true, a5]
    rw [a4, c_figure h a2]
    exact ⟨σ, rfl, h, KE.rf, frC.rf⟩
  · have ok' : okR 0 9 x = false := by simpa using ok
    have ok2 := okR_f.mp ok'
    simp only [ok', Bool.false_eq_true, if_false]
    by_cases q1 : x.toInt < 0
    · rw [if_pos q1]; exact hb
    · rw [if_neg q1, if_neg (by omega)]; exact hb
theorem m_told {a : AS} {σ : HS} (h : IM a σ) (x : Int32) : ∃ σ', f_X9_told x σ = some ((aTold x a).1, σ') ∧ IM (aTold x a).2 σ' ∧ ME a (aTold x a).2 σ σ' ∧ frM σ σ' := by
  have hb := m_bad h (r := -2) (Or.inl rfl) (k := 0) (by decide)
  rw [f_X9_told]
  simp only [z_lit]
  rw [m_inR (by omega) (by omega)]
  simp only [z_bi, b2_0]
  simp only [show ((↑(0 : Nat) : Int)) = 0 from rfl, show ((↑(9 : Nat) : Int)) = 9 from rfl]
  unfold aTold
  by_cases ok : okR 0 9 x = true
  · obtain ⟨n, a1, a2, a3, a4, a5⟩ := okR_nI (lo := 0) (hi := 9) ok
    simp only [ok, Bool.true_eq_false, if_false, if_true, a5]
    rw [a4, m_toldOf h a2]
    exact ⟨σ, rfl, h, ME.rf, frM.rf⟩
  · have ok' : okR 0 9 x = false := by simpa using ok
    simp only [ok', if_true, Bool.false_eq_true, if_false]
    exact hb
theorem hm_bit {c : Cf} (k i : Nat) (h0 : ka c k 0 < 16) (h1 : ka c k 1 < 16) (h2 : ka c k 2 < 16) (u t : Nat) (hu : u < 3) (ht : t < 4) : (hm c k).testBit (4 * u + t) = (ka c k u).testBit t := by
  have z : ∀ x, x < 16 → ∀ j, 4 ≤ j → x.testBit j = false := fun x hx j hj => Nat.testBit_lt_two_pow (Nat.lt_of_lt_of_le hx (by
    have : 2 ^ 4 ≤ 2 ^ j := Nat.pow_le_pow_right (by omega) hj
    omega))
  unfold hm
  rw [Nat.testBit_or, Nat.testBit_or, Nat.testBit_shiftLeft, Nat.testBit_shiftLeft]
  rcases (show u = 0 ∨ u = 1 ∨ u = 2 by omega) with rfl | rfl | rfl
  · rw [show 4 * 0 + t = t by omega]
    simp [show ¬ 4 ≤ t by omega, show ¬ 8 ≤ t by omega]
  · rw [show 4 * 1 + t = 4 + t by omega, z _ h0 _ (by omega)]
    simp [show ¬ 8 ≤ 4 + t by omega]
  · rw [show 4 * 2 + t = 8 + t by omega, z _ h0 _ (by omega), show 8 + t - 4 = 4 + t by omega, z _ h1 _ (by omega)]
    simp
theorem hm_unit {c : Cf} (k : Nat) (h0 : ka c k 0 < 16) (h1 : ka c k 1 < 16) (h2 : ka c k 2 < 16) {u : Nat} (hu : u < 3) : (hm c k >>> (4 * u)) &&& 15 = ka c k u := by
  apply Nat.eq_of_testBit_eq
  intro i
  rw [Nat.testBit_and, Nat.testBit_shiftRight, show 15 = 2 ^ 4 - 1 by rfl, Nat.testBit_two_pow_sub_one]
  by_cases hi : i < 4
  · rw [hm_bit k i h0 h1 h2 u i hu hi]
    simp [hi]
  · have : ka c k u < 16 := by rcases (show u = 0 ∨ u = 1 ∨ u = 2 by omega) with rfl | rfl | rfl <;> assumption
    have e : (ka c k u).testBit i = false := Nat.testBit_lt_two_pow (Nat.lt_of_lt_of_le this (by
      have : 2 ^ 4 ≤ 2 ^ i := Nat.pow_le_pow_right (by omega) (by omega)
      omega))
    simp [hi, e]
theorem c_unitOf {m u : Nat} (hm' : m < 2147483648) (hu : u < 3) (σ : HS) : f_X8_unitOf (nI m) (nI u) σ = some (nI ((m >>> (4 * u)) &&& 15), σ) := by
  rw [f_X8_unitOf]
  simp (disch := omega) only [z_lit, z_mul, z_31, z_shr]
  rw [z_and]
/-- of a kind -/
def vOf (c : Cf) (k w : Nat) : Nat := if w = 4 then fb_ct (fun i => decide (ko c i = k)) (c 23) else c (1 + 4 * k + w)
theorem c_kindFact {c : Cf} {σ : HS} (h : SR c 1 σ) (w : WF c) {k x : Nat} (hk : k < c 0) (hx : x ≤ 4) : f_X8_kindFact (nI k) (nI x) σ = some (nI (vOf c k x), σ) := by
  have h1 := w.p_k
  have a0 := w.p_ka hk (u := 0) (by omega)
  have a1 := w.p_ka hk (u := 1) (by omega)
  have a2 := w.p_ka hk (u := 2) (by omega)
  have hmk : hm c k < 4096 := hm_lt a0 a1 a2
  rw [f_X8_kindFact]
  simp (disch := omega) only [z_lit, z_eq, z_ld, h.q_l, h.q_h, z_bi]
  unfold vOf
  by_cases q3 : x = 3
  · subst q3; rfl
  · rw [if_neg q3]
    by_cases q4 : x = 4
    · rw [if_pos q4, c_instructionsOf h w hk, if_pos q4]
      rfl
    · rw [if_neg q4, if_neg q4, c_unitOf (by omega) (by omega), hm_unit k a0 a1 a2 (by omega)]
      rfl
theorem m_toldOfKind {c : Cf} {σ : HS} (h : MR c σ) (w : WF c) {k x : Nat} (hk : k < c 0) (hx : x ≤ 4) : f_X9_toldOfKind (nI k) (nI x) σ = some (nI (vOf c k x), σ) := by
  have h1 := w.p_k
  have hn := w.p_n
  rw [f_X9_toldOfKind]
  simp (disch := omega) only [z_lit, z_le]
  unfold vOf
  by_cases q4 : x = 4
  · rw [if_pos (by omega), if_pos q4]
    have key : ∀ i, i ≤ c 23 → ∀ n, c 23 < i + n → f_X9_toldOfKind_17 n (nI k) (nI (fb_ct (fun i => decide (ko c i = k)) i)) (nI i) σ = some (nI (fb_ct (fun i => decide (ko c i = k)) (c 23)), σ) := by
      refine dn_ind ?_ ?_
      · intro n hn'
        obtain ⟨n, rfl⟩ : ∃ m, n = m + 1 := ⟨n - 1, by omega⟩
        rw [f_X9_toldOfKind_17]
        simp (disch := omega) only [z_lit, z_ld, h, z_bi, z_le]
        rw [if_pos (by omega)]
      · intro i hi ih n hn'
        obtain ⟨n, rfl⟩ : ∃ m, n = m + 1 := ⟨n - 1, by omega⟩
        have h4 := w.p_ko hi
        have h4' : c (24 + i) < c 0 := h4
        have ih := ih n (by omega)
        rw [fb_ct_succ] at ih
        rw [f_X9_toldOfKind_17]
        simp (disch := omega) only [z_lit, z_ld, h, z_bi, z_le, z_add, z_eq]
        rw [if_neg (by omega)]
        by_cases e : c (24 + i) = k
        · have e' : ko c i = k := e
          rw [if_pos e]
          simpa [e'] using ih
        · have e' : ¬ ko c i = k := e
          rw [if_neg e]
          simpa [e'] using ih
    exact key 0 (by omega) FU (by have := FU_b; omega)
  · rw [if_neg (by omega), if_neg q4, m_ofKind h (by omega) (by omega)]
    rfl
def aOf (k x : Int32) (a : AS) : Int32 × AS := if (0 ≤ k.toInt ∧ k.toInt < aC a 0) ∧ okR 0 4 x then (nI (vOf (aC a) k.toInt.toNat x.toInt.toNat), a) else (-2, aRef 0 a)
theorem c_of {a : AS} {σ : HS} (h : IC a σ) (w : WA a) (k x : Int32) : ∃ σ', f_X8_of k x σ = some ((aOf k x a).1, σ') ∧ IC (aOf k x a).2 σ' ∧ KE a (aOf k x a).2 σ σ' ∧ frC σ σ' := by
  have hb := c_bad h (r := -2) (Or.inl rfl) (k := 0) (by decide)
  rw [f_X8_of, c_hasKind h.1 w.1]
  simp only [z_bi, z_lit, b2_0]
  unfold aOf
  by_cases hk : 0 ≤ k.toInt ∧ k.toInt < aC a 0
  · have e1 : decide (0 ≤ k.toInt ∧ k.toInt < (aC a 0 : Int)) = true := by simpa using hk
    simp only [e1, Bool.true_eq_false, if_false]
    simp only [z_ltI, z_leI]
    show ∃ σ', (if x.toInt < 0 then _ else if x.toInt ≤ 4 then _ else _) = _ ∧ _
    by_cases ok : okR 0 4 x = true
    · have ok2 := okR_t.mp ok
      obtain ⟨n, a1, a2, a3, a4, a5⟩ := okR_nI (lo := 0) (hi := 4) ok
      obtain ⟨m, b1, b2, b3⟩ := z_of (v := k) hk.1
      rw [if_neg (by omega), if_pos (by omega), if_pos ⟨hk, ok⟩, a5, show k.toInt.toNat = m by omega, a4, b2, c_kindFact h.1 w.1 (by omega) a2]
      exact ⟨σ, rfl, h, KE.rf, frC.rf⟩
    · have ok' : okR 0 4 x = false := by simpa using ok
      have ok2 := okR_f.mp ok'
      have hno : ¬ ((0 ≤ k.toInt ∧ k.toInt < (aC a 0 : Int)) ∧ okR 0 4 x = true) := fun q => ok q.2
      simp only [hno, if_false]
      by_cases q1 : x.toInt < 0
      · rw [if_pos q1]; exact hb
      · rw [if_neg q1, if_neg (by omega)]; exact hb
  · have e1 : decide (0 ≤ k.toInt ∧ k.toInt < (aC a 0 : Int)) = false := by simpa using hk
    simp only [e1, if_true]
    rw [if_neg (fun q => hk q.1)]
    exact hb
theorem m_of {a : AS} {σ : HS} (h : IM a σ) (w : WA a) (k x : Int32) : ∃ σ', f_X9_of k x σ = some ((aOf k x a).1, σ') ∧ IM (aOf k x a).2 σ' ∧ ME a (aOf k x a).2 σ σ' ∧ frM σ σ' := by
  have hb := m_bad h (r := -2) (Or.inl rfl) (k := 0) (by decide)
  rw [f_X9_of, m_isKind h.1 w.1]
  simp only [z_bi, z_lit, b2_0]
  rw [m_inR (by omega) (by omega)]
  simp only [z_bi, b2_0]
  simp only [show ((↑(0 : Nat) : Int)) = 0 from rfl, show ((↑(4 : Nat) : Int)) = 4 from rfl]
  unfold aOf
  by_cases hk : 0 ≤ k.toInt ∧ k.toInt < aC a 0
  · have e1 : decide (0 ≤ k.toInt ∧ k.toInt < (aC a 0 : Int)) = true := by simpa using hk
    simp only [e1, Bool.true_eq_false, if_false]
    by_cases ok : okR 0 4 x = true
    · obtain ⟨n, a1, a2, a3, a4, a5⟩ := okR_nI (lo := 0) (hi := 4) ok
      obtain ⟨m, b1, b2, b3⟩ := z_of (v := k) hk.1
      simp only [ok, Bool.true_eq_false, if_false]
      have hyes : (0 ≤ k.toInt ∧ k.toInt < (aC a 0 : Int)) ∧ okR 0 4 x = true := ⟨hk, ok⟩
      simp only [hk, and_self, if_true]
      rw [a5, show k.toInt.toNat = m by omega, a4, b2, m_toldOfKind h.1 w.1 (by omega) a2]
      exact ⟨σ, rfl, h, ME.rf, frM.rf⟩
    · have ok' : okR 0 4 x = false := by simpa using ok
      simp only [ok', if_true]
      rw [if_neg (fun q => by cases q.2)]
      exact hb
  · have e1 : decide (0 ≤ k.toInt ∧ k.toInt < (aC a 0 : Int)) = false := by simpa using hk
    simp only [e1, if_true]
    rw [if_neg (fun q => hk q.1)]
    exact hb
