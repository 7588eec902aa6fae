-- the reference's rounds, till no more come
theorem addS_1 (x : Nat) (p : SL) (h : 1 ≤ p.1) : 1 ≤ (addS x p).1 := Nat.le_trans h (addS_ge x p)
theorem inn_ge (c : Cf) (x : Nat) (p : SL) : ∀ k, p.1 ≤ (inn c x k p).1 := by
  intro k
  induction k with
  | zero => exact Nat.le_refl _
  | succ k ih =>
    rw [inn]
    split
    · exact Nat.le_trans ih (addS_ge _ _)
    · exact ih
theorem exS_1 (c : Cf) : ∀ s, 1 ≤ (exS c s).1 := by
  intro s
  induction s with
  | zero => rw [exS]; decide
  | succ s ih =>
    rw [exS]
    split
    · exact ih
    · exact Nat.le_trans ih (Nat.le_trans (inn_ge c _ _ _) (addS_ge _ _))
theorem LSt_1 (c : Cf) : 1 ≤ (LSt c).1 := exS_1 c 151
def CMx (c : Cf) (p : SL) : Nat → Nat
  | 0 => 0
  | r + 1 => (CR c p r).2
theorem CR_b (c : Cf) (p : SL) (hp : p.1 ≤ 150) : ∀ r i, i < p.1 → (CR c p r).1 i < 1000 := by
  intro r i hi
  cases r with
  | zero => show 0 < 1000; omega
  | succ r =>
    have h1 := nuR_b (alk c p (CR c p r).1) p.1 i hi
    have h2 := CR_le c p r
    rw [CR] at h2 ⊢
    omega
theorem CR_le' (c : Cf) (p : SL) (hn : 1 ≤ p.1) (r : Nat) : (CR c p r).2 ≤ p.1 := by
  cases r with
  | zero => exact hn
  | succ r => exact CR_le c p r
def GF (σ σ' : HS) : Prop := (∀ o, o ≠ 67 → o ≠ 74 → o ≠ 75 → σ'.1 o = σ.1 o) ∧ ∀ k, k ≠ 9 → σ'.1 67 k = σ.1 67 k
theorem GF.tr {a b d : HS} (h : GF a b) (h' : GF b d) : GF a d := ⟨fun o h1 h2 h3 => (h'.1 o h1 h2 h3).trans (h.1 o h1 h2 h3), fun k hk => (h'.2 k hk).trans (h.2 k hk)⟩
theorem GF.of {l : List Nat} {σ σ' : HS} (h : fr l σ σ') (hl : ∀ o, o ∈ l → o = 74 ∨ o = 75) : GF σ σ' := ⟨fun o _ h2 h3 => h o (fun q => by have := hl o q; omega), fun k _ => by rw [h 67 (fun q => by have := hl 67 q; omega)]⟩
theorem GF.s9 (σ : HS) (v : Int32) : GF σ (sI σ 67 9 v) := ⟨fun o h1 _ _ => s_I2 σ 9 v h1, fun k hk => by rw [s_I1]; unfold upd; rw [if_neg hk]⟩
theorem GF.MR {c : Cf} {σ σ' : HS} (h : GF σ σ') (hm : MR c σ) : MR c σ' := by
  intro k hk
  rw [h.1 68 (by omega) (by omega) (by omega)]; exact hm k hk
theorem m_fc30 {c : Cf} (w : WF c) {p : SL} (hn : 1 ≤ p.1) (hp : p.1 ≤ 150) : ∀ r, r ≤ 151 → ∀ n, 151 < r + n → ∀ σ, RH c p (CR c p r).1 σ → σ.1 67 9 = nI (CMx c p r) → r ≤ CMx c p r → ∃ σ' r', f_X9_findClasses_30 n (nI (CR c p r).2) σ = some σ' ∧ GF σ σ' ∧ (CR c p (r' + 1)).2 ≤ (CR c p r').2 ∧ σ'.1 67 9 = nI (CR c p r').2 ∧ ∀ i, i < p.1 → σ'.1 74 i = nI ((CR c p (r' + 1)).1 i) := by
  have cmb : ∀ r, CMx c p r ≤ 150 := by
    intro r
    cases r with
    | zero => show 0 ≤ 150; omega
    | succ r => exact Nat.le_trans (CR_le' c p hn r) hp
  refine dn_ind ?_ ?_
  · intro n _ σ _ _ h3
    have := cmb 151
    omega
  · intro r hr ih n hn' σ h h9 hM
    obtain ⟨n, rfl⟩ : ∃ m, n = m + 1 := ⟨n - 1, by omega⟩
    have b1 := cmb r
    have b2 := CR_le' c p hn r
    rw [f_X9_findClasses_30, h9]
    by_cases e : (CR c p r).2 ≤ CMx c p r
    · rw [if_pos (by rw [z_le (by omega) (by omega)]; exact e)]
      cases r with
      | zero =>
        have e' : 1 ≤ 0 := e
        omega
      | succ r => exact ⟨σ, r, rfl, ⟨fun _ _ _ _ => rfl, fun _ _ => rfl⟩, e, h9, fun i hi => (h.2.2.1 i hi).2⟩
    · rw [if_neg (by rw [z_le (by omega) (by omega)]; exact e)]
      have g0 := GF.s9 σ (nI (CR c p r).2)
      have h0 : RH c p (CR c p r).1 (sI σ 67 9 (nI (CR c p r).2)) := by
        refine ⟨g0.MR h.1, ?_, ?_, ?_⟩
        · rw [g0.2 6 (by omega)]; exact h.2.1
        · rw [s_I2 σ 9 _ (show (74 : Nat) ≠ 67 by omega)]; exact h.2.2.1
        · rw [s_I2 σ 9 _ (show (73 : Nat) ≠ 67 by omega)]; exact h.2.2.2
      obtain ⟨σ1, a1, a2, a3⟩ := m_fc47 w hp (fun e8 σ9 => f_X9_findClasses_119 (fun e12 σ13 => f_X9_findClasses_30 n e12 σ13) FU e8 0 σ9) 0 (by omega) FU (by have := FU_b; omega) _ h0 (fun i hi => by omega)
      have h1 := h0.fr a1
      obtain ⟨σ2, d1, d2, d3⟩ := m_fc119 hp (fun e12 σ13 => f_X9_findClasses_30 n e12 σ13) (nI (CR c p (r + 1)).2) 0 (by omega) FU (by have := FU_b; omega) σ1 h1.2.1 a2 (fun i hi => by omega)
      have g1 : GF σ1 σ2 := GF.of d1 (by simp)
      have g2 : GF (sI σ 67 9 (nI (CR c p r).2)) σ1 := GF.of a1 (by simp)
      have h2 : RH c p (CR c p (r + 1)).1 σ2 := by
        refine ⟨g1.MR h1.1, ?_, fun i hi => ⟨CR_b c p hp _ i hi, d2 i hi⟩, ?_⟩
        · rw [g1.2 6 (by omega)]; exact h1.2.1
        · rw [d1 73 (by simp)]; exact h1.2.2.2
      have n9 : σ2.1 67 9 = nI (CMx c p (r + 1)) := by
        rw [d1 67 (by simp), a1 67 (by simp), s_I1]; unfold upd; rw [if_pos rfl]; rfl
      obtain ⟨σ', r', k1, k2, k3, k4, k5⟩ := ih n (by omega) σ2 h2 n9 (by show r + 1 ≤ (CR c p r).2; omega)
      refine ⟨σ', r', ?_, ((g0.tr g2).tr g1).tr k2, k3, k4, k5⟩
      rw [show nI 0 = (0 : Int32) from rfl] at a3 d3
      have a3' : f_X9_findClasses_47 (fun e8 σ9 => f_X9_findClasses_119 (fun e12 σ13 => f_X9_findClasses_30 n e12 σ13) FU e8 0 σ9) FU 0 0 (sI σ 67 9 (nI (CR c p r).2)) = f_X9_findClasses_119 (fun e12 σ13 => f_X9_findClasses_30 n e12 σ13) FU (nI (CR c p (r + 1)).2) 0 σ1 := a3
      rw [a3', d3]
      exact k1
theorem m_fc7 {c : Cf} (w : WF c) {p : SL} (hn : 1 ≤ p.1) (hp : p.1 ≤ 150) : ∀ s, s ≤ p.1 → ∀ n, p.1 < s + n → ∀ σ, MR c σ → σ.1 67 6 = nI p.1 → σ.1 67 9 = 0 → (∀ s t, s < p.1 → t ≤ c 0 → OKv c p (p.2 s) t (σ.1 73 (6 * s + t))) → (∀ i, i < s → σ.1 74 i = 0) → ∃ σ' r', f_X9_findClasses_7 n (nI s) σ = some σ' ∧ GF σ σ' ∧ (CR c p (r' + 1)).2 ≤ (CR c p r').2 ∧ σ'.1 67 9 = nI (CR c p r').2 ∧ ∀ i, i < p.1 → σ'.1 74 i = nI ((CR c p (r' + 1)).1 i) := by
  refine dn_ind ?_ ?_
  · intro n hn' σ h h6 h9 hv h4
    obtain ⟨n, rfl⟩ : ∃ m, n = m + 1 := ⟨n - 1, by omega⟩
    rw [f_X9_findClasses_7, h6, if_pos (by rw [z_le (by omega) (by omega)]; omega)]
    exact m_fc30 w hn hp 0 (by omega) FU (by have := FU_b; omega) σ ⟨h, h6, fun i hi => ⟨by show 0 < 1000; omega, h4 i hi⟩, hv⟩ h9 (Nat.zero_le _)
  · intro s hs ih n hn' σ h h6 h9 hv h4
    obtain ⟨n, rfl⟩ : ∃ m, n = m + 1 := ⟨n - 1, by omega⟩
    have f1 : fr [74] σ (sI σ 74 s 0) := fr.sI (by simp)
    have g1 : GF σ (sI σ 74 s 0) := GF.of f1 (by simp)
    obtain ⟨σ', r', k1, k2, k3⟩ := ih n (by omega) (sI σ 74 s 0) (g1.MR h) (by rw [f1 67 (by simp)]; exact h6) (by rw [f1 67 (by simp)]; exact h9) (by rw [f1 73 (by simp)]; exact hv) (by
      intro i hi
      rw [s_I1]; unfold upd
      by_cases q : i = s
      · rw [if_pos q]
      · rw [if_neg q]; exact h4 i (by omega))
    refine ⟨σ', r', ?_, g1.tr k2, k3⟩
    rw [f_X9_findClasses_7, h6, if_neg (by rw [z_le (by omega) (by omega)]; omega), z_st (by omega) (by omega), z_bi, show (1 : Int32) = nI 1 from rfl, z_add]
    exact k1
theorem fb_ct_one {p : Nat → Bool} (h0 : p 0 = true) (h1 : ∀ k, 1 ≤ k → p k = false) : ∀ n, fb_ct p (n + 1) = 1 := by
  intro n
  induction n with
  | zero => rw [fb_ct_succ, h0]; rfl
  | succ n ih => rw [fb_ct_succ, ih, h1 (n + 1) (by omega)]; rfl
theorem ixF_f {F : Nat → Nat} {x n : Nat} : ixF F x n = n ↔ ∀ t, t < n → F t ≠ x := by
  refine ⟨fun h t ht => ixF_no n t (by omega), fun h => ?_⟩
  have := ixF_le F x n
  by_cases e : ixF F x n < n
  · exact absurd (ixF_at n e) (h _ e)
  · omega
theorem frP_f {P : Nat → Bool} {n : Nat} : frP P n = n ↔ ∀ t, t < n → P t = false := by
  refine ⟨fun h t ht => frP_no n t (by omega), fun h => ?_⟩
  have := frP_le P n
  by_cases e : frP P n < n
  · have := frP_at n e; rw [h _ e] at this; cases this
  · omega
theorem CR_ct (c : Cf) (p : SL) (hn : 1 ≤ p.1) (r : Nat) : (CR c p r).2 = fb_ct (fun s => decide (ixF (CR c p r).1 ((CR c p r).1 s) s = s)) p.1 := by
  cases r with
  | zero =>
    rw [show p.1 = (p.1 - 1) + 1 by omega, fb_ct_one]
    · rfl
    · rfl
    · intro k hk
      have : ¬ ixF (CR c p 0).1 ((CR c p 0).1 k) k = k := fun h => ixF_f.mp h 0 (by omega) rfl
      simp [this]
  | succ r =>
    have e : (CR c p (r + 1)).2 = fb_ct (fun s => decide (frP (alk c p (CR c p r).1 s) s = s)) p.1 := by rw [CR, nuR_c]
    rw [e]
    refine fb_ct_cong (fun s hs => ?_)
    have hE := alk_E c p (CR c p r).1 p.1
    have : frP (alk c p (CR c p r).1 s) s = s ↔ ixF (CR c p (r + 1)).1 ((CR c p (r + 1)).1 s) s = s := by
      rw [frP_f, ixF_f]
      refine ⟨fun h t ht q => ?_, fun h t ht => ?_⟩
      · have := (CR_eq c p r (by omega) hs).mp q
        have := hE.2.1 _ _ (by omega) hs this
        rw [h t ht] at this; cases this
      · cases q : alk c p (CR c p r).1 s t with
        | false => rfl
        | true => exact absurd ((CR_eq c p r (by omega) hs).mpr (hE.2.1 _ _ hs (by omega) q)) (h t ht)
    simp only [this]
theorem CR_fin {c : Cf} (w : WF c) (hp : (LSt c).1 ≤ 150) {r : Nat} (hr : (CR c (LSt c) (r + 1)).2 ≤ (CR c (LSt c) r).2) : (CR c (LSt c) r).2 = ncl c (LSt c) (LSt c).1 ∧ ∀ s t, s < (LSt c).1 → t < (LSt c).1 → ((CR c (LSt c) (r + 1)).1 s = (CR c (LSt c) (r + 1)).1 t ↔ sgs c (LSt c) s = sgs c (LSt c) t) := by
  have hn := LSt_1 c
  have st := CR_st c (LSt c) hn r hr
  have k1 : ∀ s t, s < (LSt c).1 → t < (LSt c).1 → ((CR c (LSt c) r).1 s = (CR c (LSt c) r).1 t ↔ sgs c (LSt c) s = sgs c (LSt c) t) := fun s t hs ht => ⟨fun h => st_sg w hp st hs ht h, fun h => CR_keep w hp r s t hs ht h⟩
  refine ⟨?_, fun s t hs ht => ⟨fun h => (k1 s t hs ht).mp ((alk_i _ _ _ _ _).mp ((CR_eq _ _ _ hs ht).mp h)).1, fun h => CR_keep w hp _ s t hs ht h⟩⟩
  rw [CR_ct c (LSt c) hn r]
  unfold ncl
  refine fb_ct_cong (fun s hs => ?_)
  have : ixF (CR c (LSt c) r).1 ((CR c (LSt c) r).1 s) s = s ↔ ixF (sgs c (LSt c)) (sgs c (LSt c) s) s = s := by
    rw [ixF_f, ixF_f]
    exact ⟨fun h t ht q => h t ht ((k1 t s (by omega) hs).mpr q), fun h t ht q => h t ht ((k1 t s (by omega) hs).mp q)⟩
  simp only [this]
theorem m_findClasses {c : Cf} (w : WF c) (hp : (LSt c).1 ≤ 150) {σ : HS} (h : MR c σ) (h6 : σ.1 67 6 = nI (LSt c).1) (hv : ∀ s t, s < (LSt c).1 → t ≤ c 0 → OKv c (LSt c) ((LSt c).2 s) t (σ.1 73 (6 * s + t))) : ∃ σ', f_X9_findClasses σ = some σ' ∧ GF σ σ' ∧ σ'.1 67 9 = nI (ncl c (LSt c) (LSt c).1) ∧ ∃ G : Nat → Nat, (∀ i, i < (LSt c).1 → G i < 1000 ∧ σ'.1 74 i = nI (G i)) ∧ ∀ s t, s < (LSt c).1 → t < (LSt c).1 → (G s = G t ↔ sgs c (LSt c) s = sgs c (LSt c) t) := by
  have g0 := GF.s9 σ 0
  obtain ⟨σ', r', k1, k2, k3, k4, k5⟩ := m_fc7 w (LSt_1 c) hp 0 (by omega) FU (by have := FU_b; omega) (sI σ 67 9 0) (g0.MR h) (by rw [g0.2 6 (by omega)]; exact h6) (by rw [s_I1]; unfold upd; rw [if_pos rfl]) (by rw [s_I2 σ 9 _ (show (73 : Nat) ≠ 67 by omega)]; exact hv) (fun i hi => by omega)
  have k := CR_fin w hp k3
  refine ⟨σ', ?_, g0.tr k2, by rw [k4, k.1], (CR c (LSt c) (r' + 1)).1, fun i hi => ⟨CR_b c _ hp _ i hi, k5 i hi⟩, k.2⟩
  rw [show nI 0 = (0 : Int32) from rfl] at k1
  rw [f_X9_findClasses]
  exact k1
