-- the text: what it tells
def skF (L : Nat) (tx : Nat → Nat) : Nat → Nat → Nat
  | 0, p => p
  | n + 1, p => if p < L ∧ tx p = 32 then skF L tx n (p + 1) else p
def sk (L : Nat) (tx : Nat → Nat) (p : Nat) : Nat := skF L tx 200 p
theorem skF_ge (L : Nat) (tx : Nat → Nat) (n p : Nat) : p ≤ skF L tx n p := by
  induction n generalizing p with
  | zero => exact Nat.le_refl _
  | succ n ih =>
    rw [skF]
    split
    · have := ih (p + 1); omega
    · exact Nat.le_refl _
theorem skF_le (L : Nat) (tx : Nat → Nat) (n p : Nat) (h : p ≤ L) : skF L tx n p ≤ L := by
  induction n generalizing p with
  | zero => exact h
  | succ n ih =>
    rw [skF]
    split
    · exact ih _ (by omega)
    · exact h
theorem sk_ge (L : Nat) (tx : Nat → Nat) (p : Nat) : p ≤ sk L tx p := skF_ge _ _ _ _
theorem sk_le {L : Nat} (tx : Nat → Nat) {p : Nat} (h : p ≤ L) : sk L tx p ≤ L := skF_le _ _ _ _ h
def fig (L : Nat) (tx : Nat → Nat) (p : Nat) : Bool := decide (p < L ∧ 48 ≤ tx p ∧ tx p ≤ 57)
theorem fig_t {L : Nat} {tx : Nat → Nat} {p : Nat} : fig L tx p = true ↔ p < L ∧ 48 ≤ tx p ∧ tx p ≤ 57 := by simp [fig]
theorem fig_f {L : Nat} {tx : Nat → Nat} {p : Nat} : fig L tx p = false ↔ ¬ (p < L ∧ 48 ≤ tx p ∧ tx p ≤ 57) := by simp [fig]
def nuOk (L : Nat) (tx : Nat → Nat) (p : Nat) : Bool := fig L tx p && !(fig L tx (p + 1) && fig L tx (p + 2))
def nuV (L : Nat) (tx : Nat → Nat) (p : Nat) : Nat := if fig L tx (p + 1) then (tx p - 48) * 10 + (tx (p + 1) - 48) else tx p - 48
def nuE (L : Nat) (tx : Nat → Nat) (p : Nat) : Nat := if fig L tx p then (if fig L tx (p + 1) then p + 2 else p + 1) else p
theorem nuE_le {L : Nat} {tx : Nat → Nat} {p : Nat} (h : p ≤ L) : nuE L tx p ≤ L := by
  unfold nuE
  split
  · rename_i q
    have := fig_t.mp q
    split
    · rename_i q2
      have := fig_t.mp q2
      omega
    · omega
  · exact h
theorem nuE_ge (L : Nat) (tx : Nat → Nat) (p : Nat) : p ≤ nuE L tx p := by
  unfold nuE
  split
  · split <;> omega
  · omega
theorem nuE_gt {L : Nat} {tx : Nat → Nat} {p : Nat} (h : nuOk L tx p = true) : p + 1 ≤ nuE L tx p := by
  unfold nuOk at h
  simp only [Bool.and_eq_true] at h
  unfold nuE
  rw [if_pos h.1]
  split <;> omega
theorem nuV_lt {L : Nat} {tx : Nat → Nat} {p : Nat} (h : fig L tx p = true) : nuV L tx p < 100 := by
  have h1 := fig_t.mp h
  unfold nuV
  split
  · rename_i q
    have := fig_t.mp q
    omega
  · omega
/-- where the k-th number is looked for -/
def nuP (L : Nat) (tx : Nat → Nat) (p : Nat) : Nat → Nat
  | 0 => p
  | k + 1 => nuE L tx (sk L tx (nuP L tx p k))
def nbh (b : Nat) : Nat := if b = 97 then 2 else if b = 105 then 1 else if b = 107 then 4 else if b = 110 then 2 else if b = 114 then 1 else if b = 119 then 1 else if b = 120 then 1 else 0
theorem nbh_le (b : Nat) : nbh b ≤ 4 := by unfold nbh; repeat' split
                                           all_goals omega
/-- r numbers from p on: are they all there; where it ends, or the fault -/
def nuF (L : Nat) (tx : Nat → Nat) : Nat → Nat → Bool × Nat
  | 0, p => (true, p)
  | r + 1, p => if nuOk L tx (sk L tx p) then nuF L tx r (nuE L tx (sk L tx p)) else (false, nuE L tx (sk L tx p))
def orE (L : Nat) (tx : Nat → Nat) (p : Nat) : Bool × Nat :=
  if nbh (tx p) = 0 then (false, p)
  else if (nuF L tx (nbh (tx p)) (p + 1)).1 then
    (if sk L tx (nuF L tx (nbh (tx p)) (p + 1)).2 < L ∧ tx (sk L tx (nuF L tx (nbh (tx p)) (p + 1)).2) = 59 then (true, sk L tx (nuF L tx (nbh (tx p)) (p + 1)).2 + 1) else (false, sk L tx (nuF L tx (nbh (tx p)) (p + 1)).2))
  else (false, (nuF L tx (nbh (tx p)) (p + 1)).2)
/-- where the i-th order begins -/
def orP (L : Nat) (tx : Nat → Nat) : Nat → Nat
  | 0 => sk L tx 0
  | i + 1 => sk L tx (orE L tx (orP L tx i)).2
def scF (L : Nat) (tx : Nat → Nat) : Nat → Nat → Nat ⊕ Nat
  | 0, i => .inr i
  | n + 1, i => if orP L tx i < L then (if (orE L tx (orP L tx i)).1 then scF L tx n (i + 1) else .inl (orE L tx (orP L tx i)).2) else .inr i
theorem nuF_le {L : Nat} {tx : Nat → Nat} (r : Nat) {p : Nat} (h : p ≤ L) : (nuF L tx r p).2 ≤ L ∧ p ≤ (nuF L tx r p).2 ∧ ((nuF L tx r p).1 = true → p + r ≤ (nuF L tx r p).2) := by
  induction r generalizing p with
  | zero => exact ⟨h, Nat.le_refl _, fun _ => Nat.le_refl _⟩
  | succ r ih =>
    rw [nuF]
    have h1 := sk_ge L tx p
    have h2 := sk_le tx h
    have h3 := nuE_le (tx := tx) h2
    have h4 := nuE_ge L tx (sk L tx p)
    by_cases q : nuOk L tx (sk L tx p) = true
    · rw [if_pos q]
      have h5 := nuE_gt q
      obtain ⟨i1, i2, i3⟩ := ih h3
      exact ⟨i1, by omega, fun hh => by have := i3 hh; omega⟩
    · rw [if_neg q]
      exact ⟨h3, by show p ≤ nuE L tx (sk L tx p); omega, fun hh => by cases hh⟩
theorem orE_le {L : Nat} {tx : Nat → Nat} {p : Nat} (h : p < L) : (orE L tx p).2 ≤ L ∧ p ≤ (orE L tx p).2 ∧ ((orE L tx p).1 = true → p + 3 ≤ (orE L tx p).2) := by
  unfold orE
  by_cases q0 : nbh (tx p) = 0
  · rw [if_pos q0]; exact ⟨by show p ≤ L; omega, Nat.le_refl _, fun hh => by cases hh⟩
  · rw [if_neg q0]
    obtain ⟨i1, i2, i3⟩ := nuF_le (tx := tx) (nbh (tx p)) (show p + 1 ≤ L by omega)
    by_cases q1 : (nuF L tx (nbh (tx p)) (p + 1)).1 = true
    · rw [if_pos q1]
      have h1 := sk_ge L tx (nuF L tx (nbh (tx p)) (p + 1)).2
      have h2 := sk_le tx i1
      have h3 := i3 q1
      by_cases q2 : sk L tx (nuF L tx (nbh (tx p)) (p + 1)).2 < L ∧ tx (sk L tx (nuF L tx (nbh (tx p)) (p + 1)).2) = 59
      · rw [if_pos q2]
        exact ⟨by show _ + 1 ≤ L; omega, by show p ≤ _ + 1; omega, fun _ => by show p + 3 ≤ _ + 1; omega⟩
      · rw [if_neg q2]
        exact ⟨h2, by show p ≤ sk L tx _; omega, fun hh => by cases hh⟩
    · rw [if_neg q1]
      exact ⟨i1, by show p ≤ (nuF L tx (nbh (tx p)) (p + 1)).2; omega, fun hh => by cases hh⟩
-- the class's script while it reads
def TC (L : Nat) (tx : Nat → Nat) (p o : Nat) (σ : HS) : Prop := L ≤ 120 ∧ (∀ k, k < L → tx k < 128) ∧ p ≤ L ∧ o ≤ 40 ∧ σ.1 62 3 = nI L ∧ σ.1 62 5 = nI p ∧ σ.1 62 4 = nI o ∧ ∀ k, k < L → σ.1 63 k = nI (tx k)
theorem TC.put {L : Nat} {tx : Nat → Nat} {p o : Nat} {σ : HS} (h : TC L tx p o σ) {q : Nat} (hq : q ≤ L) : TC L tx q o (sI σ 62 5 (nI q)) := by
  obtain ⟨h1, h2, h3, h4, h5, h6, h7, h8⟩ := h
  refine ⟨h1, h2, hq, h4, ?_, ?_, ?_, ?_⟩
  · rw [s_I1, u_2 _ _ (by omega)]; exact h5
  · rw [s_I1, u_1]
  · rw [s_I1, u_2 _ _ (by omega)]; exact h7
  · rw [s_I2 _ _ _ (by omega)]; exact h8
theorem TC.fr {L : Nat} {tx : Nat → Nat} {p o : Nat} {σ σ' : HS} (h : TC L tx p o σ) {l : List Nat} (hf : fr l σ σ') (hl : 62 ∉ l ∧ 63 ∉ l) : TC L tx p o σ' := by
  unfold TC
  rw [hf 62 hl.1, hf 63 hl.2]
  exact h
theorem c_skip {L : Nat} {tx : Nat → Nat} {p o : Nat} {σ : HS} (h : TC L tx p o σ) : ∃ σ', f_X4_skipBlanks σ = some σ' ∧ TC L tx (sk L tx p) o σ' ∧ fr [62] σ σ' := by
  have key : ∀ (m p : Nat) (n : Nat) (σ : HS), L + 1 ≤ p + m → L < p + n → TC L tx p o σ → ∃ σ', f_X4_skipBlanks_0 n σ = some σ' ∧ TC L tx (skF L tx m p) o σ' ∧ fr [62] σ σ' := by
    intro m
    induction m with
    | zero => intro p n σ hm hn h; have := h.2.2.1; omega
    | succ m ih =>
      intro p n σ hm hn h
      obtain ⟨h1, h2, h3, h4, h5, h6, h7, h8⟩ := id h
      obtain ⟨n, rfl⟩ : ∃ m, n = m + 1 := ⟨n - 1, by omega⟩
      rw [f_X4_skipBlanks_0, h5, h6, skF]
      simp (disch := omega) only [z_lit, z_le]
      by_cases q : p < L
      · have := h2 p q
        rw [if_neg (by omega)]
        simp (disch := omega) only [z_ld, h8, z_bi, z_eq, z_add]
        by_cases q2 : tx p = 32
        · rw [if_pos q2, if_pos ⟨q, q2⟩]
          obtain ⟨σ', e1, e2, e3⟩ := ih (p + 1) n _ (by omega) (by omega) (h.put (q := p + 1) (by omega))
          exact ⟨σ', e1, e2, fr.tr (fr.sI (by simp)) e3⟩
        · rw [if_neg q2, if_neg (fun hh => q2 hh.2)]
          exact ⟨σ, rfl, h, fr.rf _ _⟩
      · rw [if_pos (by omega), if_neg (fun hh => q hh.1)]
        exact ⟨σ, rfl, h, fr.rf _ _⟩
  have hL := h.1
  exact key 200 p FU σ (by omega) (by have := FU_b; omega) h
theorem c_byte {L : Nat} {tx : Nat → Nat} {p o : Nat} {σ : HS} (h : TC L tx p o σ) : f_X4_byteHere σ = some (if p < L then nI (tx p) else -1, σ) := by
  obtain ⟨h1, h2, h3, h4, h5, h6, h7, h8⟩ := h
  rw [f_X4_byteHere, h5, h6]
  simp (disch := omega) only [z_le]
  by_cases q : p < L
  · rw [if_neg (by omega), if_pos q]
    simp (disch := omega) only [z_ld, h8, z_bi]
  · rw [if_pos (by omega), if_neg q]
theorem c_fig {L : Nat} {tx : Nat → Nat} {p o : Nat} {σ : HS} (h : TC L tx p o σ) : f_X4_isFigureHere σ = some (nI (b2 (fig L tx p)), σ) := by
  have h2 := h.2.1
  rw [f_X4_isFigureHere, c_byte h]
  simp only [z_bi]
  rw [c_byte h]
  simp only [z_bi]
  by_cases q : p < L
  · have := h2 p q
    rw [if_pos q]
    simp (disch := omega) only [z_lit, z_lt]
    by_cases q1 : tx p < 48
    · have : fig L tx p = false := fig_f.mpr (by omega)
      rw [if_pos q1, this]; rfl
    · rw [if_neg q1]
      by_cases q2 : 57 < tx p
      · have : fig L tx p = false := fig_f.mpr (by omega)
        rw [if_pos q2, this]; rfl
      · have : fig L tx p = true := fig_t.mpr (by omega)
        rw [if_neg q2, this]; rfl
  · have : fig L tx p = false := fig_f.mpr (by omega)
    rw [if_neg q, this, if_pos (by decide)]; rfl
theorem c_number {L : Nat} {tx : Nat → Nat} {p o at0 : Nat} {σ : HS} (h : TC L tx p o σ) (ha : at0 < 160) : ∃ σ', f_X4_scanNumber (nI at0) σ = some (nI (b2 (nuOk L tx p)), σ') ∧ TC L tx (nuE L tx p) o σ' ∧ fr [62, 65] σ σ' ∧ (∀ k, k ≠ at0 → σ'.1 65 k = σ.1 65 k) ∧ (nuOk L tx p = true → σ'.1 65 at0 = nI (nuV L tx p)) := by
  have h72 : ∀ (q : Nat) (τ : HS), TC L tx q o τ → f_X4_scanNumber_72 τ = some (nI (b2 (!fig L tx q)), τ) := by
    intro q τ hτ
    rw [f_X4_scanNumber_72, c_fig hτ]
    simp only [z_bi, z_lit, b2_0]
    cases fig L tx q <;> rfl
  rw [f_X4_scanNumber, c_fig h]
  simp only [z_bi, z_lit, b2_0]
  cases hf : fig L tx p with
  | false =>
    simp only [if_true]
    have e1 : nuOk L tx p = false := by unfold nuOk; rw [hf]; rfl
    have e2 : nuE L tx p = p := by unfold nuE; rw [hf]; rfl
    rw [e1, e2]
    exact ⟨σ, rfl, h, fr.rf _ _, fun _ _ => rfl, fun hh => by cases hh⟩
  | true =>
    simp only [Bool.true_eq_false, if_false]
    have hp := fig_t.mp hf
    rw [c_byte h]
    simp only [z_bi]
    rw [if_pos hp.1]
    simp (disch := omega) only [z_sub, z_st, z_bi]
    obtain ⟨t1, t2, t3, t4, t5, t6, t7, t8⟩ := id h
    have hf1 : fr [65] σ (sI σ 65 at0 (nI (tx p - 48))) := fr.sI (by simp)
    have h1 := h.fr hf1 (by simp)
    rw [hf1 62 (by simp), t6, z_add]
    have h2 := h1.put (q := p + 1) (by omega)
    rw [c_fig h2]
    simp only [z_bi, b2_0]
    have hfr1 : fr [62, 65] σ (sI (sI σ 65 at0 (nI (tx p - 48))) 62 5 (nI (p + 1))) := (fr.sI (by simp)).tr (fr.sI (by simp))
    cases hf2 : fig L tx (p + 1) with
    | false =>
      simp only [if_true]
      rw [h72 _ _ h2, hf2]
      have e1 : nuOk L tx p = true := by unfold nuOk; rw [hf, hf2]; rfl
      have e2 : nuE L tx p = p + 1 := by unfold nuE; rw [hf, hf2]; rfl
      have e3 : nuV L tx p = tx p - 48 := by unfold nuV; rw [hf2]; rfl
      rw [e1, e2, e3]
      refine ⟨_, rfl, h2, hfr1, ?_, ?_⟩
      · intro k hk
        simp (disch := omega) only [s_I1, s_I2, u_2]
      · intro _
        simp (disch := omega) only [s_I1, s_I2, u_1]
    | true =>
      have hp2 := fig_t.mp hf2
      simp only [Bool.true_eq_false, if_false]
      rw [c_byte h2, if_pos hp2.1]
      simp (disch := omega) only [s_I1, s_I2, z_ld, u_1, z_bi, z_mul, z_add, z_sub, z_st]
      have hf3 : fr [65] (sI (sI σ 65 at0 (nI (tx p - 48))) 62 5 (nI (p + 1))) (sI (sI (sI σ 65 at0 (nI (tx p - 48))) 62 5 (nI (p + 1))) 65 at0 (nI ((tx p - 48) * 10 + tx (p + 1) - 48))) := fr.sI (by simp)
      have h3 := (h2.fr hf3 (by simp)).put (q := p + 1 + 1) (by omega)
      rw [h72 _ _ h3]
      have e1 : nuOk L tx p = !fig L tx (p + 2) := by unfold nuOk; rw [hf, hf2]; simp
      have e2 : nuE L tx p = p + 2 := by unfold nuE; rw [hf, hf2]; rfl
      have e3 : nuV L tx p = (tx p - 48) * 10 + tx (p + 1) - 48 := by unfold nuV; rw [hf2]; simp only [if_true]; omega
      rw [e1, e2, e3]
      refine ⟨_, rfl, h3, (hfr1.tr (fr.sI (by simp))).tr (fr.sI (by simp)), ?_, ?_⟩
      · intro k hk
        simp (disch := omega) only [s_I1, s_I2, u_2]
      · intro _
        simp (disch := omega) only [s_I1, s_I2, u_1]
