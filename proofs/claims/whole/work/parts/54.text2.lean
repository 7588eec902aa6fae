theorem c_nbh {b : Nat} (hb : b < 128) (σ : HS) : f_X4_numbersBehind (nI b) σ = some (nI (nbh b), σ) := by
  rw [f_X4_numbersBehind]
  simp (disch := omega) only [z_lit, z_eq]
  unfold nbh
  repeat' split
  all_goals rfl
/-- the i-th order's numbers -/
def orN (L : Nat) (tx : Nat → Nat) (p k : Nat) : Nat := nuV L tx (sk L tx (nuP L tx (p + 1) k))
theorem orE_n {L : Nat} {tx : Nat → Nat} {p : Nat} (h0 : nbh (tx p) ≠ 0) (h1 : (nuF L tx (nbh (tx p)) (p + 1)).1 = false) : orE L tx p = (false, (nuF L tx (nbh (tx p)) (p + 1)).2) := by
  unfold orE; rw [if_neg h0, h1]; rfl
theorem c_order {L : Nat} {tx : Nat → Nat} {p o : Nat} {σ : HS} (h : TC L tx p o σ) (hp : p < L) (ho : o < 40) : ∃ σ', f_X4_scanOrder σ = some (nI (b2 (orE L tx p).1), σ') ∧ TC L tx (orE L tx p).2 o σ' ∧ fr [62, 64, 65] σ σ' ∧ (∀ i, i ≠ o → σ'.1 64 i = σ.1 64 i) ∧ (∀ k, k < 4 * o ∨ 4 * o + 4 ≤ k → σ'.1 65 k = σ.1 65 k) ∧ ((orE L tx p).1 = true → σ'.1 64 o = nI (tx p) ∧ ∀ k, k < nbh (tx p) → σ'.1 65 (4 * o + k) = nI (orN L tx p k)) := by
  obtain ⟨t1, t2, t3, t4, t5, t6, t7, t8⟩ := id h
  have hb := t2 p hp
  have hw := nbh_le (tx p)
  rw [f_X4_scanOrder, c_byte h, if_pos hp]
  simp only [z_bi]
  rw [c_nbh hb]
  simp only [z_bi]
  rw [c_byte h, if_pos hp, t7]
  simp (disch := omega) only [z_lit, z_eq, z_bi, z_st]
  by_cases q0 : nbh (tx p) = 0
  · rw [if_pos q0]
    have e : orE L tx p = (false, p) := by unfold orE; rw [if_pos q0]
    rw [e]
    exact ⟨σ, rfl, h, fr.rf _ _, fun _ _ => rfl, fun _ _ => rfl, fun hh => by cases hh⟩
  · rw [if_neg q0]
    have hf1 : fr [64] σ (sI σ 64 o (nI (tx p))) := fr.sI (by simp)
    have h1 := (h.fr hf1 (by simp)).put (q := p + 1) (by omega)
    rw [hf1 62 (by simp), t6, z_add]
    have key : ∀ j, j ≤ nbh (tx p) → ∀ (n : Nat) (τ : HS), nbh (tx p) < j + n → TC L tx (nuP L tx (p + 1) j) o τ → fr [62, 64, 65] σ τ → (∀ i, i ≠ o → τ.1 64 i = σ.1 64 i) → τ.1 64 o = nI (tx p) → (∀ k, k < 4 * o ∨ 4 * o + 4 ≤ k → τ.1 65 k = σ.1 65 k) → (∀ k, k < j → τ.1 65 (4 * o + k) = nI (orN L tx p k)) → nuF L tx (nbh (tx p)) (p + 1) = nuF L tx (nbh (tx p) - j) (nuP L tx (p + 1) j) → ∃ σ', f_X4_scanOrder_39 n (nI (nbh (tx p))) (nI j) τ = some (nI (b2 (orE L tx p).1), σ') ∧ TC L tx (orE L tx p).2 o σ' ∧ fr [62, 64, 65] σ σ' ∧ (∀ i, i ≠ o → σ'.1 64 i = σ.1 64 i) ∧ (∀ k, k < 4 * o ∨ 4 * o + 4 ≤ k → σ'.1 65 k = σ.1 65 k) ∧ ((orE L tx p).1 = true → σ'.1 64 o = nI (tx p) ∧ ∀ k, k < nbh (tx p) → σ'.1 65 (4 * o + k) = nI (orN L tx p k)) := by
      refine dn_ind ?_ ?_
      · intro n τ hn hτ f1 f2 f3 f4 f5 hN
        obtain ⟨n, rfl⟩ : ∃ m, n = m + 1 := ⟨n - 1, by omega⟩
        rw [f_X4_scanOrder_39]
        simp (disch := omega) only [z_le]
        rw [if_pos (by omega)]
        rw [Nat.sub_self, nuF] at hN
        obtain ⟨τ1, e1, e2, e3⟩ := c_skip hτ
        rw [e1]
        simp only [z_bi]
        rw [c_byte e2]
        simp only [z_bi]
        have g64 : τ1.1 64 = τ.1 64 := e3 64 (by simp)
        have g65 : τ1.1 65 = τ.1 65 := e3 65 (by simp)
        have hfr : fr [62, 64, 65] σ τ1 := f1.tr (e3.up (by simp))
        by_cases q : sk L tx (nuP L tx (p + 1) (nbh (tx p))) < L ∧ tx (sk L tx (nuP L tx (p + 1) (nbh (tx p)))) = 59
        · have e : orE L tx p = (true, sk L tx (nuP L tx (p + 1) (nbh (tx p))) + 1) := by
            unfold orE; rw [if_neg q0, hN]; simp only [if_true]; rw [if_pos q]
          rw [e, if_pos q.1, if_pos (by rw [q.2]; rfl)]
          have h2 := e2.put (q := sk L tx (nuP L tx (p + 1) (nbh (tx p))) + 1) (by omega)
          have e6 : τ1.1 62 5 = nI (sk L tx (nuP L tx (p + 1) (nbh (tx p)))) := e2.2.2.2.2.2.1
          rw [e6, z_lit, z_add]
          refine ⟨_, rfl, h2, hfr.tr (fr.sI (by simp)), ?_, ?_, ?_⟩
          · intro i hi
            rw [s_I2 _ _ _ (by omega), g64]; exact f2 i hi
          · intro k hk
            rw [s_I2 _ _ _ (by omega), g65]; exact f4 k hk
          · intro _
            rw [s_I2 _ _ _ (by omega), s_I2 _ _ _ (by omega), g64, g65]
            exact ⟨f3, f5⟩
        · have e : orE L tx p = (false, sk L tx (nuP L tx (p + 1) (nbh (tx p)))) := by
            unfold orE; rw [if_neg q0, hN]; simp only [if_true]; rw [if_neg q]
          rw [e]
          have hne : ¬ (if sk L tx (nuP L tx (p + 1) (nbh (tx p))) < L then nI (tx (sk L tx (nuP L tx (p + 1) (nbh (tx p))))) else (-1 : Int32)) = 59 := by
            by_cases q1 : sk L tx (nuP L tx (p + 1) (nbh (tx p))) < L
            · have := t2 _ q1
              rw [if_pos q1, z_lit, z_eq (by omega) (by omega)]
              exact fun hh => q ⟨q1, hh⟩
            · rw [if_neg q1]; decide
          rw [if_neg hne]
          exact ⟨τ1, rfl, e2, hfr, fun i hi => by rw [g64]; exact f2 i hi, fun k hk => by rw [g65]; exact f4 k hk, fun hh => by cases hh⟩
      · intro j hj ih n τ hn hτ f1 f2 f3 f4 f5 hN
        obtain ⟨n, rfl⟩ : ∃ m, n = m + 1 := ⟨n - 1, by omega⟩
        rw [f_X4_scanOrder_39]
        simp (disch := omega) only [z_le]
        rw [if_neg (by omega)]
        obtain ⟨τ1, e1, e2, e3⟩ := c_skip hτ
        rw [e1]
        simp only [z_bi]
        have e7 : τ1.1 62 4 = nI o := e2.2.2.2.2.2.2.1
        rw [e7]
        simp only [z_lit, z_mul, z_add]
        obtain ⟨τ2, d1, d2, d3, d4, d5⟩ := c_number (at0 := o * 4 + j) e2 (by omega)
        rw [d1]
        simp only [z_bi, b2_0]
        have g64 : τ2.1 64 = τ.1 64 := (d3 64 (by simp)).trans (e3 64 (by simp))
        have g65 : ∀ k, k ≠ o * 4 + j → τ2.1 65 k = τ.1 65 k := fun k hk => by rw [d4 k hk, e3 65 (by simp)]
        have hfr : fr [62, 64, 65] σ τ2 := (f1.tr (e3.up (by simp))).tr (d3.up (by simp))
        have hs : nbh (tx p) - j = (nbh (tx p) - (j + 1)) + 1 := by omega
        rw [hs, nuF] at hN
        cases hk : nuOk L tx (sk L tx (nuP L tx (p + 1) j)) with
        | false =>
          simp only [if_true]
          rw [hk, if_neg (by decide)] at hN
          have e : orE L tx p = (false, nuE L tx (sk L tx (nuP L tx (p + 1) j))) := by
            rw [orE_n q0 (by rw [hN]), hN]
          rw [e]
          exact ⟨τ2, rfl, d2, hfr, fun i hi => by rw [g64]; exact f2 i hi, fun k hk => by rw [g65 k (by omega)]; exact f4 k hk, fun hh => by cases hh⟩
        | true =>
          simp only [Bool.true_eq_false, if_false]
          rw [hk, if_pos rfl] at hN
          refine ih n τ2 (by omega) d2 hfr (fun i hi => by rw [g64]; exact f2 i hi) (by rw [g64]; exact f3) (fun k hk => by rw [g65 k (by omega)]; exact f4 k hk) ?_ hN
          intro k hk'
          by_cases q : k = j
          · subst q
            rw [show 4 * o + k = o * 4 + k by omega, d5 hk]
            rfl
          · rw [g65 _ (by omega)]; exact f5 k (by omega)
    exact key 0 (by omega) FU _ (by have := FU_b; omega) h1 ((fr.sI (by simp)).tr (fr.sI (by simp))) (fun i hi => by simp (disch := omega) only [s_I1, s_I2, u_2]) (by simp (disch := omega) only [s_I1, s_I2, u_1]) (fun k hk => by simp (disch := omega) only [s_I2]) (fun k hk => by omega) rfl
/-- the orders are there -/
def OR (L : Nat) (tx : Nat → Nat) (m A B : Nat) (σ : HS) : Prop := ∀ i, i < m → σ.1 A i = nI (tx (orP L tx i)) ∧ ∀ k, k < nbh (tx (orP L tx i)) → σ.1 B (4 * i + k) = nI (orN L tx (orP L tx i) k)
theorem orP_le {L : Nat} {tx : Nat → Nat} : ∀ i, (∀ j, j < i → orP L tx j < L ∧ (orE L tx (orP L tx j)).1 = true) → orP L tx i ≤ L ∧ 3 * i ≤ orP L tx i := by
  intro i
  induction i with
  | zero => intro _; exact ⟨sk_le tx (Nat.zero_le L), Nat.zero_le _⟩
  | succ i ih =>
    intro h
    obtain ⟨i1, i2⟩ := ih (fun j hj => h j (by omega))
    obtain ⟨h1, h2⟩ := h i (by omega)
    obtain ⟨o1, o2, o3⟩ := orE_le (tx := tx) h1
    have o3 := o3 h2
    have h3 := sk_ge L tx (orE L tx (orP L tx i)).2
    have h4 := sk_le tx o1
    rw [orP]
    exact ⟨h4, by omega⟩
theorem c_scan {L : Nat} {tx : Nat → Nat} {σ : HS} (h : L ≤ 120) (h2 : ∀ k, k < L → tx k < 128) (h5 : σ.1 62 3 = nI L) (h8 : ∀ k, k < L → σ.1 63 k = nI (tx k)) : ∃ σ', fr [62, 64, 65] σ σ' ∧ σ'.1 62 3 = nI L ∧ (orP L tx 0 = L ∧ f_X4_scan σ = some (nI L, σ') ∨ orP L tx 0 < L ∧ ((∃ f, f ≤ 120 ∧ scF L tx 41 0 = .inl f ∧ f_X4_scan σ = some (nI f, σ')) ∨ ∃ m, 1 ≤ m ∧ m ≤ 40 ∧ scF L tx 41 0 = .inr m ∧ f_X4_scan σ = some (-1, σ') ∧ σ'.1 62 4 = nI m ∧ OR L tx m 64 65 σ')) := by
  generalize hR : scF L tx 41 0 = R
  have h0 : TC L tx 0 0 (sI (sI σ 62 4 0) 62 5 0) := by
    refine ⟨h, h2, Nat.zero_le _, by omega, ?_, ?_, ?_, ?_⟩
    · simp (disch := omega) only [s_I1, u_2, h5]
    · simp (disch := omega) only [s_I1, u_1]; rfl
    · simp (disch := omega) only [s_I1, u_2, u_1]; rfl
    · simp (disch := omega) only [s_I2]; exact h8
  obtain ⟨τ, e1, e2, e3⟩ := c_skip h0
  have hfr0 : fr [62, 64, 65] σ τ := fr.tr (fr.tr (fr.sI (by simp)) (fr.sI (by simp))) (e3.up (by simp))
  rw [f_X4_scan, e1]
  simp only [z_bi]
  obtain ⟨t1, t2, t3, t4, t5, t6, t7, t8⟩ := id e2
  rw [t5, t6]
  simp (disch := omega) only [z_lt]
  have hP0 : orP L tx 0 = sk L tx 0 := rfl
  by_cases q : sk L tx 0 < L
  · rw [if_pos q]
    have key : ∀ (n i : Nat) (τ : HS), i ≤ 40 → 41 ≤ i + n → (∀ j, j < i → orP L tx j < L ∧ (orE L tx (orP L tx j)).1 = true) → TC L tx (orP L tx i) i τ → fr [62, 64, 65] σ τ → OR L tx i 64 65 τ → (1 ≤ i ∨ orP L tx i < L) → R = scF L tx (41 - i) i → ∃ σ', fr [62, 64, 65] σ σ' ∧ σ'.1 62 3 = nI L ∧ ((∃ f, f ≤ 120 ∧ R = .inl f ∧ f_X4_scan_30 n τ = some (nI f, σ')) ∨ ∃ m, 1 ≤ m ∧ m ≤ 40 ∧ R = .inr m ∧ f_X4_scan_30 n τ = some (-1, σ') ∧ σ'.1 62 4 = nI m ∧ OR L tx m 64 65 σ') := by
      intro n
      induction n with
      | zero => intro i τ hi hn; omega
      | succ n ih =>
        intro i τ hi hn hall hτ hfr hor h1i hsc
        obtain ⟨b1, b2⟩ := orP_le i hall
        obtain ⟨t1, t2, t3, t4, t5, t6, t7, t8⟩ := id hτ
        rw [f_X4_scan_30, t5, t6, t7]
        simp (disch := omega) only [z_lit, z_le]
        by_cases q : orP L tx i < L
        · rw [if_neg (by omega), if_neg (by omega)]
          obtain ⟨τ1, d1, d2, d3, d4, d5, d6⟩ := c_order hτ q (by omega)
          obtain ⟨o1, o2, o3⟩ := orE_le (tx := tx) q
          rw [d1]
          simp only [z_bi, b2_0]
          rw [show 41 - i = (41 - (i + 1)) + 1 by omega, scF, if_pos q] at hsc
          have hfr1 := hfr.tr d3
          cases ho : (orE L tx (orP L tx i)).1 with
          | false =>
            simp only [if_true]
            rw [ho, if_neg (by decide)] at hsc
            refine ⟨τ1, hfr1, d2.2.2.2.2.1, Or.inl ⟨_, by omega, hsc, ?_⟩⟩
            rw [d2.2.2.2.2.2.1]
          | true =>
            simp only [Bool.true_eq_false, if_false]
            rw [ho, if_pos rfl] at hsc
            have hall' : ∀ j, j < i + 1 → orP L tx j < L ∧ (orE L tx (orP L tx j)).1 = true := by
              intro j hj
              by_cases e : j = i
              · subst e; exact ⟨q, ho⟩
              · exact hall j (by omega)
            obtain ⟨b3, b4⟩ := orP_le (i + 1) hall'
            have hT : TC L tx (orE L tx (orP L tx i)).2 (i + 1) (sI τ1 62 4 (nI (i + 1))) := by
              obtain ⟨a1, a2, a3, a4, a5, a6, a7, a8⟩ := d2
              refine ⟨a1, a2, a3, by omega, ?_, ?_, ?_, ?_⟩
              · simp (disch := omega) only [s_I1, u_2, a5]
              · simp (disch := omega) only [s_I1, u_2, a6]
              · simp (disch := omega) only [s_I1, u_1]
              · simp (disch := omega) only [s_I2]; exact a8
            rw [d2.2.2.2.2.2.2.1, z_add]
            obtain ⟨τ2, g1, g2, g3⟩ := c_skip hT
            rw [g1]
            simp only [z_bi]
            refine ih (i + 1) τ2 ?_ (by omega) hall' g2 ((hfr1.tr (fr.sI (by simp))).tr (g3.up (by simp))) ?_ (Or.inl (by omega)) hsc
            · omega
            · intro x hx
              have g64 : τ2.1 64 = τ1.1 64 := (g3 64 (by simp)).trans (s_I2 _ _ _ (by omega))
              have g65 : τ2.1 65 = τ1.1 65 := (g3 65 (by simp)).trans (s_I2 _ _ _ (by omega))
              rw [g64, g65]
              by_cases e : x = i
              · subst e; exact d6 ho
              · rw [d4 x e]
                refine ⟨(hor x (by omega)).1, fun k hk => ?_⟩
                have := nbh_le (tx (orP L tx x))
                rw [d5 _ (by omega)]
                exact (hor x (by omega)).2 k hk
        · rw [if_pos (by omega), f_X4_scan_79, t5, t6]
          simp (disch := omega) only [z_le]
          rw [if_pos (by omega)]
          have hsc2 : R = .inr i := by
            rw [hsc, show 41 - i = (40 - i) + 1 by omega, scF, if_neg q]
          refine ⟨τ, hfr, t5, Or.inr ⟨i, ?_, hi, hsc2, rfl, t7, hor⟩⟩
          rcases h1i with r | r
          · exact r
          · exact absurd r q
    obtain ⟨σ', r1, r2, r3⟩ := key FU 0 τ (by omega) (by have := FU_b; omega) (fun j hj => by omega) e2 hfr0 (fun i hi => by omega) (Or.inr q) hR.symm
    exact ⟨σ', r1, r2, Or.inr ⟨q, r3⟩⟩
  · rw [if_neg q]
    have : sk L tx 0 = L := by omega
    exact ⟨τ, hfr0, t5, Or.inl ⟨this, by rw [this]⟩⟩
