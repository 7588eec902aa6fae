-- plan, the calls
theorem BZ.cg {c : Cf} {T T' : Nat → Nat} {P P' : Nat → Prop} {σ : HS} (h : BZ c T P σ) (hp : ∀ i, i < c 23 → (P i ↔ P' i)) (ht : ∀ i, i < c 23 → P i → T i = T' i) : BZ c T' P' σ := by
  intro u hu3
  obtain ⟨b, b1, b2, b3⟩ := h u hu3
  refine ⟨b, b1, b2, fun s => ?_⟩
  rw [b3 s]
  constructor
  · rintro ⟨i, i1, i2, i3⟩
    rw [ht i i1 i2] at i3
    exact ⟨i, i1, (hp i i1).mp i2, i3⟩
  · rintro ⟨i, i1, i2, i3⟩
    have q := (hp i i1).mpr i2
    rw [← ht i i1 q] at i3
    exact ⟨i, i1, q, i3⟩
theorem p10_b {n : Nat} (h : n ≤ 6) : 1 ≤ 10 ^ n ∧ 10 ^ n ≤ 1000000 := by
  have h1 : 10 ^ n ≤ 10 ^ 6 := Nat.pow_le_pow_right (by omega) h
  have h2 : 0 < 10 ^ n := Nat.pow_pos (by omega)
  omega
theorem c_powerOfTen {m : Nat} (h : m ≤ 6) (σ : HS) : f_X8_powerOfTen (nI m) σ = some (nI (10 ^ m), σ) := by
  have key : ∀ i, i ≤ m → ∀ n, m < i + n → f_X8_powerOfTen_4 n (nI m) (nI (10 ^ i)) (nI i) σ = some (nI (10 ^ m), σ) := by
    refine dn_ind ?_ ?_
    · intro n hn'
      obtain ⟨n, rfl⟩ : ∃ m, n = m + 1 := ⟨n - 1, by omega⟩
      rw [f_X8_powerOfTen_4, if_pos (by rw [z_le (by omega) (by omega)]; omega)]
    · intro i hi ih n hn'
      obtain ⟨n, rfl⟩ : ∃ m, n = m + 1 := ⟨n - 1, by omega⟩
      rw [f_X8_powerOfTen_4, if_neg (by rw [z_le (by omega) (by omega)]; omega), show (10 : Int32) = nI 10 from rfl, show (1 : Int32) = nI 1 from rfl, z_mul, z_add]
      exact ih n (by omega)
  rw [f_X8_powerOfTen]
  exact key 0 (by omega) FU (by have := FU_b; omega)
def inP (x : Int32) (a : AS) : Prop := 0 ≤ x.toInt ∧ x.toInt < (10 ^ (aC a 23) : Nat)
def vPl (x : Int32) (a : AS) (v : Int32) (a' : AS) : Prop := (inP x a ∧ RP (aC a) x.toInt.toNat v ∧ a' = a) ∨ (¬ inP x a ∧ v = -2 ∧ a' = aRef 0 a)
theorem vPl.un {x : Int32} {a a' a'' : AS} {v v' : Int32} (h : vPl x a v a') (h' : vPl x a v' a'') : v = v' ∧ a' = a'' := by
  rcases h with ⟨h1, h2, h3⟩ | ⟨h1, h2, h3⟩ <;> rcases h' with ⟨g1, g2, g3⟩ | ⟨g1, g2, g3⟩
  · exact ⟨h2.un g2, by rw [h3, g3]⟩
  · exact absurd h1 g1
  · exact absurd g1 h1
  · exact ⟨by rw [h2, g2], by rw [h3, g3]⟩
theorem c_plan {a : AS} {σ : HS} (h : IC a σ) (w : WA a) (hk : KCb (aC a) σ) (x : Int32) : ∃ v a' σ', f_X8_plan x σ = some (v, σ') ∧ vPl x a v a' ∧ IC a' σ' ∧ aC a' = aC a ∧ KCb (aC a) σ' ∧ fr [42, 43, 44, 45, 46, 47, 48, 49, 66] σ σ' := by
  have hn := w.1.p_n
  have hp := p10_b hn
  have hb : ¬ inP x a → ∃ v a' σ', ((f_X8_counted (-2) σ).bind fun q => some (q.1, q.2)) = some (v, σ') ∧ vPl x a v a' ∧ IC a' σ' ∧ aC a' = aC a ∧ KCb (aC a) σ' ∧ fr [42, 43, 44, 45, 46, 47, 48, 49, 66] σ σ' := by
    intro hno
    obtain ⟨σ', e1, e2, e3⟩ := c_ref h (r := -2) (Or.inl rfl) (k := 0) (by decide)
    exact ⟨-2, _, σ', e1, Or.inr ⟨hno, rfl, rfl⟩, e2, rfl, hk.fr e3 (by simp), e3.up (by simp)⟩
  rw [f_X8_plan]
  by_cases q : x.toInt < 0
  · rw [if_pos (by rw [z_ltI]; exact q)]
    exact hb (fun e => by have := e.1; omega)
  · rw [if_neg (by rw [z_ltI]; exact q), h.1.q_n, c_powerOfTen hn, z_bi]
    obtain ⟨m, b1, b2, b3⟩ := z_of (v := x) (by omega)
    by_cases e : m < 10 ^ (aC a 23)
    · rw [if_pos (by rw [b2, z_lt (by omega) (by omega)]; exact e)]
      obtain ⟨σ1, d1, d2, d3, d4⟩ := c_learn w.1 h.1 hk
      obtain ⟨v, σ2, g1, g2, g3⟩ := c_figs w.1 d3 (x := m) b1
      refine ⟨v, a, σ2, ?_, Or.inl ⟨⟨by omega, by rw [b3]; omega⟩, by rw [show x.toInt.toNat = m by omega]; exact g3, rfl⟩, (h.fr d2 (by simp)).fr g2 (by simp), rfl, (show KCb (aC a) σ1 from Or.inr ⟨d4, d3⟩).fr g2 (by simp), (d2.up (by simp)).tr (g2.up (by simp))⟩
      show ((f_X0_learn 1 σ).bind fun σ3 => (f_X0_lengthByFigures x σ3).bind fun q4 => some (q4.1, q4.2)) = _
      rw [d1, z_bi, b2, g1, z_bi]
    · rw [if_neg (by rw [b2, z_lt (by omega) (by omega)]; exact e)]
      exact hb (fun q => by have := q.2; rw [b3] at this; omega)
theorem m_plan56 {c : Cf} (w : WF c) {x : Nat} (hx : x < 1000000) : ∀ i, i ≤ c 23 → ∀ n, c 23 < i + n → ∀ (p : Nat) (σ : HS), (i < c 23 → p = 10 ^ (c 23 - 1 - i)) → MR c σ → TN 78 (dg c x) i σ → BZ c (dg c x) (fun k => k < i) σ → PM c (dg c x) i → p ≤ 1000000 → ∃ v σ', f_X9_plan_56 n (nI x) (nI p) (nI i) σ = some (v, σ') ∧ fr [78] σ σ' ∧ RP c x v := by
  have hn := w.p_n
  refine dn_ind ?_ ?_
  · intro n hn' p σ _ h hT hz hp _
    obtain ⟨n, rfl⟩ : ∃ m, n = m + 1 := ⟨n - 1, by omega⟩
    refine ⟨nI (len c (dg c x)), σ, ?_, fr.rf _ _, Or.inl ⟨(PM_PL w _).mp hp, rfl⟩⟩
    rw [f_X9_plan_56, show (23 : Int32) = nI 23 from rfl, z_ld (by omega) (by omega), z_bi, h 23 (by omega), if_pos (by rw [z_le (by omega) (by omega)]; omega), m_lengthOf h w hT, z_bi]
  · intro i hi ih n hn' p σ hpp h hT hz hp hpb
    obtain ⟨n, rfl⟩ : ∃ m, n = m + 1 := ⟨n - 1, by omega⟩
    have hp0 := hpp hi
    have hp1 := p10_b (show c 23 - 1 - i ≤ 6 by omega)
    have hle : x / p ≤ x := Nat.div_le_self _ _
    have hd := dg_b c x i
    have ed : x / p % 10 = dg c x i := by rw [hp0]; rfl
    obtain ⟨v, v1, v2, v3⟩ := m_mayBegin h w hz (x := i) (t := dg c x i) (many := i) hT hi (by omega) (by omega)
    rw [f_X9_plan_56, show (23 : Int32) = nI 23 from rfl, z_ld (by omega) (by omega), z_bi, h 23 (by omega), if_neg (by rw [z_le (by omega) (by omega)]; omega), show (10 : Int32) = nI 10 from rfl, z_dv (by omega) (by omega) (by omega), z_bi, z_rm (by omega) (by omega) (by omega), z_bi, ed, v2, z_bi]
    by_cases e : v = 0
    · rw [if_pos (by rw [e]; rfl)]
      refine ⟨-1, σ, rfl, fr.rf _ _, Or.inr ⟨fun q => ?_, rfl⟩⟩
      have := v3.mpr ((PM_PL w _).mpr q i hi)
      omega
    · rw [if_neg (by rw [z_0, z_eq (by omega) (by omega)]; exact e), z_st (by omega) (by omega), z_bi]
      have mb := v3.mp (by omega)
      have f1 : fr [78] σ (sI σ 78 i (nI (dg c x i))) := fr.sI (by simp)
      obtain ⟨σ2, a1, a2, a3⟩ := m_exchange (MR.fr h f1 (by simp)) w (hz.fr (σ' := sI σ 78 i (nI (dg c x i))) rfl) hi (by omega) mb.1 (by omega)
      have eu : un (dg c x) i (dg c x i) = dg c x := by
        funext k; unfold un
        by_cases q : k = i
        · rw [if_pos q, q]
        · rw [if_neg q]
      rw [eu] at a3
      have a3' := a3.cg (T' := dg c x) (P' := fun k => k < i + 1) (fun k _ => ⟨fun q => by omega, fun q => by omega⟩) (fun _ _ _ => rfl)
      have f2 : fr [78] σ σ2 := fun o ho => by rw [a2]; exact f1 o ho
      obtain ⟨v', σ', g1, g2, g3⟩ := ih n (by omega) (p / 10) σ2 (fun hi' => by
        rw [hp0, show c 23 - 1 - i = (c 23 - 1 - (i + 1)) + 1 by omega, Nat.pow_succ, Nat.mul_div_cancel _ (by omega)]) (MR.fr h f2 (by simp)) (by
        intro j hj
        rw [a2, s_I1]; unfold upd
        by_cases q : j = i
        · rw [if_pos q, q]; exact ⟨by omega, rfl⟩
        · rw [if_neg q]; exact hT j (by omega)) a3' (by
        intro y hy
        by_cases q : y = i
        · rw [q]; exact mb
        · exact hp y (by omega)) (by omega)
      refine ⟨v', σ', ?_, f2.tr g2, g3⟩
      show ((f_X9_exchange (nI i) (nI (dg c x i)) (sI σ 78 i (nI (dg c x i)))).bind fun σ11 => (dvI (nI p) (nI 10)).bind fun v12 => f_X9_plan_56 n (nI x) v12 (nI i + nI 1) σ11) = _
      rw [a1, z_bi, z_dv (by omega) (by omega) (by omega), z_bi, z_add]
      exact g1
theorem m_plan {a : AS} {σ : HS} (h : IM a σ) (w : WA a) (x : Int32) : ∃ v a' σ', f_X9_plan x σ = some (v, σ') ∧ vPl x a v a' ∧ IM a' σ' ∧ ME a a' σ σ' ∧ frM σ σ' := by
  have hn := w.1.p_n
  have hp := p10_b hn
  have hb : ¬ inP x a → ∃ v a' σ', ((f_X9_refuses (-2) σ).bind fun q => some (q.1, q.2)) = some (v, σ') ∧ vPl x a v a' ∧ IM a' σ' ∧ ME a a' σ σ' ∧ frM σ σ' := by
    intro hno
    obtain ⟨σ', e1, e2, e3, e4⟩ := m_bad h (r := -2) (Or.inl rfl) (k := 0) (by decide)
    exact ⟨-2, _, σ', e1, Or.inr ⟨hno, rfl, rfl⟩, e2, e3, e4⟩
  have key : ∀ i, i ≤ aC a 23 → ∀ n, aC a 23 < i + n → ∃ v a' σ', f_X9_plan_4 n x (nI (10 ^ i)) (nI i) σ = some (v, σ') ∧ vPl x a v a' ∧ IM a' σ' ∧ ME a a' σ σ' ∧ frM σ σ' := by
    refine dn_ind ?_ ?_
    · intro n hn'
      obtain ⟨n, rfl⟩ : ∃ m, n = m + 1 := ⟨n - 1, by omega⟩
      rw [f_X9_plan_4, show (23 : Int32) = nI 23 from rfl, z_ld (by omega) (by omega), z_bi, h.1 23 (by omega), if_pos (by rw [z_le (by omega) (by omega)]; omega), m_in, z_bi]
      have hin : decide ((0 : Int32) ≤ x ∧ x ≤ nI (10 ^ (aC a 23)) - 1) = true ↔ inP x a := by
        rw [decide_eq_true_eq, show (1 : Int32) = nI 1 from rfl, z_sub hp.1, z_leI, z_leI, z_ti (by omega)]
        show (0 ≤ x.toInt ∧ x.toInt ≤ ((10 ^ (aC a 23) - 1 : Nat) : Int)) ↔ _
        unfold inP
        constructor
        · rintro ⟨h1, h2⟩; exact ⟨h1, by omega⟩
        · rintro ⟨h1, h2⟩; exact ⟨h1, by omega⟩
      cases q : decide ((0 : Int32) ≤ x ∧ x ≤ nI (10 ^ (aC a 23)) - 1) with
      | false =>
        rw [if_pos (show nI (b2 false) = 0 from rfl)]
        exact hb (fun e => by rw [hin.mpr e] at q; cases q)
      | true =>
        rw [if_neg (show ¬ nI (b2 true) = 0 by decide)]
        have hi := hin.mp q
        obtain ⟨m, b1, b2, b3⟩ := z_of (v := x) hi.1
        have hm : m < 10 ^ (aC a 23) := by have := hi.2; rw [b3] at this; omega
        obtain ⟨σ1, d1, d2, d3, d4⟩ := m_clearAll (c := aC a) (dg (aC a) m) σ
        have hle : 10 ^ aC a 23 / 10 ≤ 10 ^ aC a 23 := Nat.div_le_self _ _
        obtain ⟨v, σ', g1, g2, g3⟩ := m_plan56 w.1 (x := m) (by omega) 0 (by omega) FU (by have := FU_b; omega) (10 ^ (aC a 23) / 10) σ1 (fun h0 => by
          rw [show aC a 23 = (aC a 23 - 1 - 0) + 1 by omega, Nat.pow_succ, Nat.mul_div_cancel _ (by omega)]
          congr 1) (MR.fr h.1 d2 (by simp)) (fun j hj => by omega) (d4.cg (fun k _ => ⟨fun e => absurd e id, fun e => by omega⟩) (fun _ _ e => absurd e id)) (fun y hy => by omega) (by omega)
        have f3 := d2.tr g2
        rw [show nI 0 = (0 : Int32) from rfl] at g1
        refine ⟨v, a, σ', ?_, Or.inl ⟨hi, by rw [show x.toInt.toNat = m by omega]; exact g3, rfl⟩, h.fr f3 (by simp), ME.of71 f3 rfl (by simp), f3.toM (by simp)⟩
        show ((f_X9_clearAll σ).bind fun σ3 => (dvI (nI (10 ^ aC a 23)) 10).bind fun v4 => f_X9_plan_56 FU x v4 0 σ3) = _
        rw [d1, z_bi, show (10 : Int32) = nI 10 from rfl, z_dv (by omega) (by omega) (by omega), z_bi, b2]
        exact g1
    · intro i hi ih n hn'
      obtain ⟨n, rfl⟩ : ∃ m, n = m + 1 := ⟨n - 1, by omega⟩
      rw [f_X9_plan_4, show (23 : Int32) = nI 23 from rfl, z_ld (by omega) (by omega), z_bi, h.1 23 (by omega), if_neg (by rw [z_le (by omega) (by omega)]; omega), show (10 : Int32) = nI 10 from rfl, show (1 : Int32) = nI 1 from rfl, z_mul, z_add]
      exact ih n (by omega)
  obtain ⟨v, a', σ', k1, k2⟩ := key 0 (by omega) FU (by have := FU_b; omega)
  rw [show (10 ^ 0 : Nat) = 1 from rfl, show nI 0 = (0 : Int32) from rfl, show nI 1 = (1 : Int32) from rfl] at k1
  exact ⟨v, a', σ', by rw [f_X9_plan]; exact k1, k2⟩
