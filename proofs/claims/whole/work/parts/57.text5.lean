theorem m_nbh {b : Nat} (hb : b < 128) (σ : HS) : f_X9_numbersOf (nI b) σ = some (if nbh b = 0 then -1 else nI (nbh b), σ) := by
  rw [f_X9_numbersOf]
  simp (disch := omega) only [z_lit, z_eq]
  unfold nbh
  by_cases q1 : b = 97
  · simp only [q1]; rfl
  · by_cases q2 : b = 105
    · simp only [q2]; rfl
    · by_cases q3 : b = 107
      · simp only [q3]; rfl
      · by_cases q4 : b = 110
        · simp only [q4]; rfl
        · by_cases q5 : b = 114
          · simp only [q5]; rfl
          · by_cases q6 : b = 119
            · simp only [q6]; rfl
            · by_cases q7 : b = 120
              · simp only [q7]; rfl
              · simp only [q1, q2, q3, q4, q5, q6, q7, if_false, if_true]
                try rfl
/-- behind a fault only the counters go on -/
theorem m_r72 {x : Int32} {g o : Nat} {τ : HS} (hg : g ≤ 120) (ho : o ≤ 40) (h20 : τ.1 67 20 = nI g) (h21 : τ.1 67 21 = nI o) : ∃ τ', f_X9_readOrder_72 x τ = some τ' ∧ τ'.1 67 20 = nI g ∧ fT τ τ' := by
  have hne : ¬ nI g = -1 := z_ne (by omega) (k := 1) (by omega)
  rw [f_X9_readOrder_72, h20, if_neg hne, f_X9_readOrder_89, if_pos rfl, f_X9_readOrder_102, f_X9_must, h20, if_neg hne]
  simp only [z_bi]
  rw [h21, z_st (by omega) (by omega)]
  simp only [z_bi]
  refine ⟨_, rfl, ?_, (fT.i82.tr (fT.i67 (by omega))).tr (fT.i67 (by omega))⟩
  simp (disch := omega) only [s_I1, s_I2, u_2, h20]
theorem m_order {L : Nat} {tx : Nat → Nat} {p o : Nat} {σ : HS} (h : TM L tx p (-1) o σ) (hp : p < L) (hs : sk L tx p = p) (ho : o < 40) : ∃ σ', f_X9_readOrder σ = some σ' ∧ fT σ σ' ∧ ((orE L tx p).1 = false → σ'.1 67 20 = nI (orE L tx p).2) ∧ ((orE L tx p).1 = true → TM L tx (orE L tx p).2 (-1) (o + 1) σ' ∧ (∀ i, i ≠ o → σ'.1 82 i = σ.1 82 i) ∧ (∀ k, k < 4 * o ∨ 4 * o + 4 ≤ k → σ'.1 83 k = σ.1 83 k) ∧ σ'.1 82 o = nI (tx p) ∧ ∀ k, k < nbh (tx p) → σ'.1 83 (4 * o + k) = nI (orN L tx p k)) := by
  obtain ⟨σ1, e1, e2, e3, e4, e5⟩ := m_here h
  rw [hs] at e1 e2
  rw [if_pos hp] at e1
  obtain ⟨t1, t2, t3, t4, t5, t6, t7, t8, t9⟩ := id e2
  have hb := t2 p hp
  have hw := nbh_le (tx p)
  rw [f_X9_readOrder, e1]
  simp only [z_bi]
  rw [m_nbh hb]
  simp only [z_bi]
  by_cases q0 : nbh (tx p) = 0
  · have e : orE L tx p = (false, p) := by unfold orE; rw [if_pos q0]
    rw [e]
    simp only [q0, if_true]
    have hm := m_must e2 false
    rw [f_X9_readOrder_21, show (0 : Int32) = nI (b2 false) from rfl, hm]
    simp only [z_bi, Bool.false_eq_true, if_false]
    rw [FU_s 1 (by omega), f_X9_readOrder_36, if_pos (by decide)]
    have k19 : (sI σ1 67 20 (nI p)).1 67 19 = nI p := by rw [s_I1, u_2 _ _ (by omega)]; exact t6
    obtain ⟨τ', g1, g2, g3⟩ := m_r72 (x := nI (tx p)) (g := p) (o := o) (τ := sI (sI σ1 67 20 (nI p)) 67 19 ((sI σ1 67 20 (nI p)).1 67 19 + 1)) (by omega) (by omega) (by simp (disch := omega) only [s_I1, u_2, u_1]) (by simp (disch := omega) only [s_I1, u_2, t8])
    rw [g1]
    exact ⟨τ', rfl, ((e3.tr (fT.i67 (by omega))).tr (fT.i67 (by omega))).tr g3, fun _ => g2, fun hh => by cases hh⟩
  · simp only [q0, if_false]
    have hne : ¬ nI (nbh (tx p)) = -1 := z_ne (by omega) (k := 1) (by omega)
    rw [if_neg hne, f_X9_readOrder_21, show (1 : Int32) = nI (b2 true) from rfl, m_must e2 true]
    simp only [z_bi, if_true]
    rw [t6, show nI (b2 true) = nI 1 from rfl, z_add]
    have h1 := e2.put (q := p + 1) (by omega)
    have key : ∀ j, j ≤ nbh (tx p) → ∀ (n : Nat) (τ : HS), nbh (tx p) < j + n → TM L tx (nuP L tx (p + 1) j) (-1) o τ → fT σ τ → τ.1 82 = σ.1 82 → (∀ k, k < 4 * o ∨ 4 * o + 4 ≤ k → τ.1 83 k = σ.1 83 k) → (∀ k, k < j → τ.1 83 (4 * o + k) = nI (orN L tx p k)) → nuF L tx (nbh (tx p)) (p + 1) = nuF L tx (nbh (tx p) - j) (nuP L tx (p + 1) j) → ∃ σ', f_X9_readOrder_36 n (nI (tx p)) (nI (nbh (tx p))) (nI j) τ = some σ' ∧ fT σ σ' ∧ ((orE L tx p).1 = false → σ'.1 67 20 = nI (orE L tx p).2) ∧ ((orE L tx p).1 = true → TM L tx (orE L tx p).2 (-1) (o + 1) σ' ∧ (∀ i, i ≠ o → σ'.1 82 i = σ.1 82 i) ∧ (∀ k, k < 4 * o ∨ 4 * o + 4 ≤ k → σ'.1 83 k = σ.1 83 k) ∧ σ'.1 82 o = nI (tx p) ∧ ∀ k, k < nbh (tx p) → σ'.1 83 (4 * o + k) = nI (orN L tx p k)) := by
      refine dn_ind ?_ ?_
      · intro n τ hn hτ f1 f2 f4 f5 hN
        obtain ⟨n, rfl⟩ : ∃ m, n = m + 1 := ⟨n - 1, by omega⟩
        rw [f_X9_readOrder_36]
        simp (disch := omega) only [z_le]
        rw [if_pos (by omega)]
        rw [Nat.sub_self, nuF] at hN
        obtain ⟨r1, r2, r3, r4, r5, r6, r7, r8, r9⟩ := id hτ
        rw [f_X9_readOrder_72, r7, if_pos rfl]
        obtain ⟨τ1, d1, d2, d3, d4, d5⟩ := m_here hτ
        rw [d1]
        simp only [z_bi]
        obtain ⟨u1, u2, u3, u4, u5, u6, u7, u8, u9⟩ := id d2
        generalize hS : sk L tx (nuP L tx (p + 1) (nbh (tx p))) = S at *
        by_cases q : S < L ∧ tx S = 59
        · have e : orE L tx p = (true, S + 1) := by
            unfold orE; rw [if_neg q0, hN]; simp only [if_true]; rw [hS, if_pos q]
          rw [e, if_pos q.1, q.2, f_X9_readOrder_89, if_pos (show nI 59 = 59 from rfl), f_X9_readOrder_102, show (1 : Int32) = nI (b2 true) from rfl, m_must d2 true]
          simp only [z_bi, if_true]
          rw [u8, z_st (by omega) (by omega)]
          simp only [z_bi]
          have k19 : (sI τ1 82 o (nI (tx p))).1 67 19 = nI S := by rw [s_I2 _ _ _ (by omega)]; exact u6
          have k21 : (sI (sI τ1 82 o (nI (tx p))) 67 19 (nI (S + 1))).1 67 21 = nI o := by simp (disch := omega) only [s_I1, s_I2, u_2, u8]
          rw [k19, show nI (b2 true) = nI 1 from rfl, z_add, k21, z_add]
          refine ⟨_, rfl, (((f1.tr d3).tr fT.i82).tr (fT.i67 (by omega))).tr (fT.i67 (by omega)), (fun hh => by cases hh), fun _ => ⟨⟨u1, u2, ?_, by omega, ?_, ?_, ?_, ?_, ?_⟩, ?_, ?_, ?_, ?_⟩⟩
          · show S + 1 ≤ L; omega
          · simp (disch := omega) only [s_I1, s_I2, u_2, u5]
          · simp (disch := omega) only [s_I1, s_I2, u_2, u_1]
          · simp (disch := omega) only [s_I1, s_I2, u_2, u7]
            try rfl
          · simp (disch := omega) only [s_I1, u_1]
          · simp (disch := omega) only [s_I2]; exact u9
          · intro i hi
            simp (disch := omega) only [s_I1, s_I2, u_2]
            rw [d4, f2]
          · intro k hk
            simp (disch := omega) only [s_I2]
            rw [d5]; exact f4 k hk
          · simp (disch := omega) only [s_I1, s_I2, u_1]
          · intro k hk
            simp (disch := omega) only [s_I2]
            rw [d5]; exact f5 k hk
        · have e : orE L tx p = (false, S) := by
            unfold orE; rw [if_neg q0, hN]; simp only [if_true]; rw [hS, if_neg q]
          rw [e]
          have hne : ¬ (if S < L then nI (tx S) else (-1 : Int32)) = 59 := by
            by_cases q1 : S < L
            · have := t2 _ q1
              rw [if_pos q1, z_lit, z_eq (by omega) (by omega)]
              exact fun hh => q ⟨q1, hh⟩
            · rw [if_neg q1]; decide
          rw [f_X9_readOrder_89, if_neg hne, f_X9_readOrder_102, show (0 : Int32) = nI (b2 false) from rfl, m_must d2 false]
          simp only [z_bi, Bool.false_eq_true, if_false]
          have k21 : (sI τ1 67 20 (nI S)).1 67 21 = nI o := by simp (disch := omega) only [s_I1, u_2, u8]
          rw [k21, z_st (by omega) (by omega)]
          simp only [z_bi]
          refine ⟨_, rfl, ((((f1.tr d3).tr (fT.i67 (by omega))).tr fT.i82).tr (fT.i67 (by omega))).tr (fT.i67 (by omega)), fun _ => ?_, fun hh => by cases hh⟩
          simp (disch := omega) only [s_I1, s_I2, u_2, u_1]
      · intro j hj ih n τ hn hτ f1 f2 f4 f5 hN
        obtain ⟨n, rfl⟩ : ∃ m, n = m + 1 := ⟨n - 1, by omega⟩
        obtain ⟨r1, r2, r3, r4, r5, r6, r7, r8, r9⟩ := id hτ
        rw [f_X9_readOrder_36]
        simp (disch := omega) only [z_le]
        rw [if_neg (by omega), r7, if_pos rfl]
        obtain ⟨v, τ1, d1, d2, d3, d4, d5, d6⟩ := m_figures hτ
        rw [d1]
        simp only [z_bi]
        rw [r8, z_lit, z_mul, z_add, z_st (by omega) (by omega)]
        simp only [z_bi, z_lit, z_add]
        have hs2 : nbh (tx p) - j = (nbh (tx p) - (j + 1)) + 1 := by omega
        rw [hs2, nuF] at hN
        have hfT : fT σ (sI τ1 83 (4 * o + j) v) := (f1.tr d3).tr fT.i83
        cases hk : nuOk L tx (sk L tx (nuP L tx (p + 1) j)) with
        | false =>
          rw [hk, if_neg (by decide)] at hN
          rw [hk, if_neg (by decide)] at d2
          have e : orE L tx p = (false, nuE L tx (sk L tx (nuP L tx (p + 1) j))) := by
            rw [orE_n q0 (by rw [hN]), hN]
          rw [e]
          have hle : nuE L tx (sk L tx (nuP L tx (p + 1) j)) ≤ 120 := by have := d2.2.2.1; omega
          have k20 : (sI τ1 83 (4 * o + j) v).1 67 20 = nI (nuE L tx (sk L tx (nuP L tx (p + 1) j))) := by rw [s_I2 _ _ _ (by omega)]; exact d2.2.2.2.2.2.2.1
          have k21 : (sI τ1 83 (4 * o + j) v).1 67 21 = nI o := by rw [s_I2 _ _ _ (by omega)]; exact d2.2.2.2.2.2.2.2.1
          obtain ⟨τ', g1, g2, g3⟩ := m_r72 (x := nI (tx p)) (τ := sI τ1 83 (4 * o + j) v) hle (by omega) k20 k21
          have hne : ¬ nI (nuE L tx (sk L tx (nuP L tx (p + 1) j))) = -1 := z_ne (by omega) (k := 1) (by omega)
          obtain ⟨n, rfl⟩ : ∃ m, n = m + 1 := ⟨n - 1, by omega⟩
          rw [f_X9_readOrder_36, k20, if_neg hne, g1]
          have hite : ∀ (c : Prop) (dc : Decidable c) (x : Option HS), (@ite (Option HS) c dc x x) = x := fun c dc x => by split <;> rfl
          rw [hite]
          exact ⟨τ', rfl, hfT.tr g3, fun _ => g2, fun hh => by cases hh⟩
        | true =>
          rw [hk, if_pos rfl] at hN
          rw [hk, if_pos rfl] at d2
          refine ih n _ (by omega) (d2.oth (Or.inr rfl)) hfT ?_ ?_ ?_ hN
          · rw [s_I2 _ _ _ (by omega), d4, f2]
          · intro k hk'
            rw [s_I1, u_2 _ _ (by omega), d5]
            exact f4 k hk'
          · intro k hk'
            rw [s_I1]
            by_cases q : k = j
            · subst q
              rw [u_1, d6 hk]
              rfl
            · rw [u_2 _ _ (by omega), d5]; exact f5 k (by omega)
    have hk := key 0 (by omega) FU _ (by have := FU_b; omega) h1 (e3.tr (fT.i67 (by omega))) (by rw [s_I2 _ _ _ (by omega)]; exact e4) (fun k hk => by rw [s_I2 _ _ _ (by omega), e5]) (fun k hk => by omega) rfl
    rw [show nI 0 = (0 : Int32) from rfl] at hk
    exact hk
theorem skF_fix (L : Nat) (tx : Nat → Nat) : ∀ (n p : Nat), L ≤ p + n → ¬ (skF L tx n p < L ∧ tx (skF L tx n p) = 32) := by
  intro n
  induction n with
  | zero => intro p h q; rw [skF] at q; omega
  | succ n ih =>
    intro p h q
    rw [skF] at q
    by_cases c : p < L ∧ tx p = 32
    · rw [if_pos c] at q
      exact ih (p + 1) (by omega) q
    · rw [if_neg c] at q
      exact c q
theorem sk_sk {L : Nat} (tx : Nat → Nat) (p : Nat) (h : L ≤ 120) : sk L tx (sk L tx p) = sk L tx p := by
  have h1 : ¬ (sk L tx p < L ∧ tx (sk L tx p) = 32) := skF_fix L tx 200 p (by omega)
  generalize sk L tx p = s at *
  unfold sk
  rw [skF, if_neg h1]
theorem orP_sk {L : Nat} (tx : Nat → Nat) (h : L ≤ 120) (i : Nat) : sk L tx (orP L tx i) = orP L tx i := by
  cases i with
  | zero => exact sk_sk tx 0 h
  | succ i => exact sk_sk tx _ h
