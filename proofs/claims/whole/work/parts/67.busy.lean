-- the reference's busy turns
theorem y_cmp (x y : Int64) : lg_cmp x y = 0 ↔ x = y := by
  unfold lg_cmp
  simp only [gt_iff_lt, Int64.lt_iff_toInt_lt, ← Int64.toInt_inj]
  repeat' split
  all_goals (constructor <;> intro hh <;> first | omega | decide | exact absurd hh (by decide))
theorem y_eq {a b : Nat} (ha : a < 2 ^ 64) (hb : b < 2 ^ 64) : lN a = lN b ↔ a = b := by
  constructor
  · intro h
    rw [← wb_tn ha, h, wb_tn hb]
  · intro h; rw [h]
theorem y_xor {a b : Nat} (ha : a < 2 ^ 64) (hb : b < 2 ^ 64) : lN a ^^^ lN b = lN (a ^^^ b) := by
  apply wb_inj
  rw [Int64.toBitVec_xor, wb_tb, wb_tb, wb_tb]
  apply BitVec.eq_of_toNat_eq
  rw [BitVec.toNat_xor, BitVec.toNat_ofNat, BitVec.toNat_ofNat, BitVec.toNat_ofNat, Nat.mod_eq_of_lt ha, Nat.mod_eq_of_lt hb, Nat.mod_eq_of_lt (Nat.xor_lt_two_pow ha hb)]
theorem y_i2l : ∀ k, k < 16 → (nI k).toInt64 = lN k := by decide +kernel
theorem y_sh {m t : Nat} (hm : m < 16) (ht : t < 50) : (nI m).toInt64 <<< ((nI t).toInt64 &&& 63) = lN (m <<< t) := by
  rw [y_i2l m hm, wb_shl _ (by omega), Nat.shiftLeft_eq]
theorem y_b {m t : Nat} (hm : m < 16) (ht : t < 50) : m <<< t < 2 ^ 60 := by
  rw [Nat.shiftLeft_eq]
  have h1 : 2 ^ t ≤ 2 ^ 50 := Nat.pow_le_pow_right (by omega) (by omega)
  have h2 : m * 2 ^ t ≤ 16 * 2 ^ 50 := Nat.mul_le_mul (by omega) h1
  have h3 : 16 * 2 ^ 50 < 2 ^ 60 := by decide
  omega
theorem s_L1 (σ : HS) (o k : Nat) (x : Int64) : (sL σ o k x).2 o = vp_updL (σ.2 o) k x := by simp [sL, sB]
theorem s_L0 (σ : HS) (o k : Nat) (x : Int64) : (sL σ o k x).1 = σ.1 := rfl
theorem fr.sL {l : List Nat} (σ : HS) (o k : Nat) (x : Int64) : fr l σ (sL σ o k x) := fun _ _ => rfl
/-- bits of the turns that a unit is held by some -/
def BZ (c : Cf) (T : Nat → Nat) (P : Nat → Prop) (σ : HS) : Prop := ∀ u, u < 3 → ∃ b, b < 2 ^ 60 ∧ σ.2 79 u = lN b ∧ ∀ s, b.testBit s = true ↔ ∃ i, i < c 23 ∧ P i ∧ T i ≤ s ∧ (hu c i u).testBit (s - T i) = true
/-- free of all that are placed -/
def FRE (c : Cf) (T : Nat → Nat) (P : Nat → Prop) (x t : Nat) : Prop := ∀ i, i < c 23 → P i → ¬ CL c i (T i) x t
theorem BZ.fr {c : Cf} {T : Nat → Nat} {P : Nat → Prop} {σ σ' : HS} (h : BZ c T P σ) (e : σ'.2 79 = σ.2 79) : BZ c T P σ' := by
  unfold BZ; rw [e]; exact h
theorem m_isFree {c : Cf} {T : Nat → Nat} {P : Nat → Prop} {σ : HS} (h : MR c σ) (w : WF c) (hz : BZ c T P σ) {x t : Nat} (hx : x < c 23) (ht : t < 50) : ∃ v, v ≤ 1 ∧ f_X9_isFree (nI x) (nI t) σ = some (nI v, σ) ∧ (v = 1 ↔ FRE c T P x t) := by
  have hn := w.p_n
  have fu : ∀ u, u < 3 → ∀ b, (∀ s, b.testBit s = true ↔ ∃ i, i < c 23 ∧ P i ∧ T i ≤ s ∧ (hu c i u).testBit (s - T i) = true) → ((b &&& (hu c x u <<< t) = 0) ↔ ∀ i, i < c 23 → P i → ¬ ∃ s, (T i ≤ s ∧ (hu c i u).testBit (s - T i) = true) ∧ (t ≤ s ∧ (hu c x u).testBit (s - t) = true)) := by
    intro u _ b hb
    constructor
    · intro e i hi hp hh
      obtain ⟨s, ⟨s1, s2⟩, s3, s4⟩ := hh
      have : (b &&& (hu c x u <<< t)).testBit s = true := by
        rw [Nat.testBit_and, (hb s).mpr ⟨i, hi, hp, s1, s2⟩, Nat.testBit_shiftLeft, s4]
        simp [s3]
      rw [e, Nat.zero_testBit] at this
      cases this
    · intro H
      apply Nat.eq_of_testBit_eq
      intro s
      rw [Nat.zero_testBit]
      cases q : (b &&& (hu c x u <<< t)).testBit s with
      | false => rfl
      | true =>
        rw [Nat.testBit_and, Nat.testBit_shiftLeft, Bool.and_eq_true, Bool.and_eq_true, decide_eq_true_eq] at q
        obtain ⟨q1, q2, q3⟩ := q
        obtain ⟨i, i1, i2, i3, i4⟩ := (hb s).mp q1
        exact absurd ⟨s, ⟨i3, i4⟩, q2, q3⟩ (H i i1 i2)
  have key : ∀ u, u ≤ 3 → ∀ n, 3 < u + n → ∀ y, y ≤ 1 → ∃ v, v ≤ 1 ∧ f_X9_isFree_5 n (nI x) (nI t) (nI y) (nI u) σ = some (nI v, σ) ∧ (v = 1 ↔ y = 1 ∧ ∀ u', u ≤ u' → u' < 3 → ∀ i, i < c 23 → P i → ¬ ∃ s, (T i ≤ s ∧ (hu c i u').testBit (s - T i) = true) ∧ (t ≤ s ∧ (hu c x u').testBit (s - t) = true)) := by
    refine dn_ind ?_ ?_
    · intro n hn' y hy
      obtain ⟨n, rfl⟩ : ∃ m, n = m + 1 := ⟨n - 1, by omega⟩
      refine ⟨y, hy, ?_, ⟨fun e => ⟨e, fun u' h1 h2 => by omega⟩, fun e => e.1⟩⟩
      rw [f_X9_isFree_5, if_pos (by rw [z_lit, z_le (by omega) (by omega)]; omega), z_bz (by omega), z_bi]
    · intro u hu3 ih n hn' y hy
      obtain ⟨n, rfl⟩ : ∃ m, n = m + 1 := ⟨n - 1, by omega⟩
      obtain ⟨b, b1, b2, b3⟩ := hz u hu3
      have hq := w.p_ka (w.p_ko hx) hu3
      have hq' : hu c x u < 16 := hq
      have bs := y_b hq' ht
      have p60 : (2 : Nat) ^ 60 < 2 ^ 64 := by decide
      rw [f_X9_isFree_5, if_neg (by rw [z_lit, z_le (by omega) (by omega)]; omega)]
      by_cases y0 : y = 0
      · subst y0
        rw [if_pos (show nI 0 = (0 : Int32) from rfl)]
        obtain ⟨v, v1, v2, v3⟩ := ih n (by omega) 0 (by omega)
        refine ⟨v, v1, ?_, ?_⟩
        · rw [show (1 : Int32) = nI 1 from rfl, z_add]; exact v2
        · rw [v3]; exact ⟨fun e => absurd e.1 (by omega), fun e => absurd e.1 (by omega)⟩
      · rw [if_neg (by rw [z_0, z_eq (by omega) (by omega)]; exact y0), z_ldJ (by omega) (by omega), z_bi, m_ofOne h w hx (by omega), z_bi]
        rw [show c (1 + 4 * ko c x + u) = hu c x u from rfl, b2, y_sh hq' ht, wb_and (by omega) (by omega)]
        have ba : b &&& (hu c x u <<< t) ≤ b := Nat.and_le_left
        have z0 : (lg_cmp (lN (b &&& (hu c x u <<< t))) 0 = 0) ↔ b &&& (hu c x u <<< t) = 0 := by
          rw [y_cmp, show (0 : Int64) = lN 0 from rfl, y_eq (by omega) (by omega)]
        rw [show (1 : Int32) = nI 1 from rfl, z_add]
        by_cases e : b &&& (hu c x u <<< t) = 0
        · rw [if_pos (z0.mpr e)]
          obtain ⟨v, v1, v2, v3⟩ := ih n (by omega) 1 (by omega)
          refine ⟨v, v1, v2, ?_⟩
          rw [v3]
          have e' := (fu u hu3 b b3).mp e
          constructor
          · rintro ⟨_, g⟩
            refine ⟨by omega, fun u' h1 h2 => ?_⟩
            by_cases q : u' = u
            · rw [q]; exact e'
            · exact g u' (by omega) h2
          · rintro ⟨_, g⟩
            exact ⟨rfl, fun u' h1 h2 => g u' (by omega) h2⟩
        · rw [if_neg (fun q => e (z0.mp q))]
          obtain ⟨v, v1, v2, v3⟩ := ih n (by omega) 0 (by omega)
          refine ⟨v, v1, v2, ?_⟩
          rw [v3]
          constructor
          · rintro ⟨g, _⟩; omega
          · rintro ⟨_, g⟩
            exact absurd ((fu u hu3 b b3).mpr (g u (by omega) hu3)) e
  obtain ⟨v, v1, v2, v3⟩ := key 0 (by omega) FU (by have := FU_b; omega) 1 (by omega)
  rw [show nI 0 = (0 : Int32) from rfl, show nI 1 = (1 : Int32) from rfl] at v2
  refine ⟨v, v1, by rw [f_X9_isFree]; exact v2, ?_⟩
  rw [v3]
  constructor
  · rintro ⟨_, g⟩ i hi hp ⟨u, u1, s, s1, s2⟩
    exact g u (by omega) u1 i hi hp ⟨s, s1, s2⟩
  · intro g
    refine ⟨rfl, fun u' _ h2 i hi hp hh => ?_⟩
    obtain ⟨s, s1, s2⟩ := hh
    exact g i hi hp ⟨u', h2, s, s1, s2⟩
/-- the three words of the busy turns -/
theorem m_exch {c : Cf} {σ : HS} (h : MR c σ) (w : WF c) {x t : Nat} (hx : x < c 23) (ht : t < 50) (B : Nat → Nat) (hB : ∀ u, u < 3 → B u < 2 ^ 60 ∧ σ.2 79 u = lN (B u)) : ∃ σ', f_X9_exchange (nI x) (nI t) σ = some σ' ∧ σ'.1 = σ.1 ∧ ∀ u, u < 3 → B u ^^^ (hu c x u <<< t) < 2 ^ 60 ∧ σ'.2 79 u = lN (B u ^^^ (hu c x u <<< t)) := by
  have key : ∀ u, u ≤ 3 → ∀ n, 3 < u + n → ∀ σ, MR c σ → (∀ u', u' < 3 → u ≤ u' → B u' < 2 ^ 60 ∧ σ.2 79 u' = lN (B u')) → (∀ u', u' < u → B u' ^^^ (hu c x u' <<< t) < 2 ^ 60 ∧ σ.2 79 u' = lN (B u' ^^^ (hu c x u' <<< t))) → ∃ σ', f_X9_exchange_2 n (nI x) (nI t) (nI u) σ = some σ' ∧ σ'.1 = σ.1 ∧ ∀ u, u < 3 → B u ^^^ (hu c x u <<< t) < 2 ^ 60 ∧ σ'.2 79 u = lN (B u ^^^ (hu c x u <<< t)) := by
    refine dn_ind ?_ ?_
    · intro n hn' σ h h1 h2
      obtain ⟨n, rfl⟩ : ∃ m, n = m + 1 := ⟨n - 1, by omega⟩
      refine ⟨σ, ?_, rfl, h2⟩
      rw [f_X9_exchange_2, if_pos (by rw [z_lit, z_le (by omega) (by omega)]; omega)]
    · intro u hu3 ih n hn' σ h h1 h2
      obtain ⟨n, rfl⟩ : ∃ m, n = m + 1 := ⟨n - 1, by omega⟩
      obtain ⟨b1, b2⟩ := h1 u hu3 (by omega)
      have hq : hu c x u < 16 := w.p_ka (w.p_ko hx) hu3
      have bs := y_b hq ht
      have p60 : (2 : Nat) ^ 60 < 2 ^ 64 := by decide
      have bx : B u ^^^ (hu c x u <<< t) < 2 ^ 60 := Nat.xor_lt_two_pow b1 bs
      rw [f_X9_exchange_2, if_neg (by rw [z_lit, z_le (by omega) (by omega)]; omega), z_ldJ (by omega) (by omega), z_bi, m_ofOne h w hx (by omega), z_bi]
      rw [show c (1 + 4 * ko c x + u) = hu c x u from rfl, b2, y_sh hq ht, y_xor (by omega) (by omega), z_stJ (by omega) (by omega), z_bi]
      obtain ⟨σ', a1, a2, a3⟩ := ih n (by omega) (sL σ 79 u (lN (B u ^^^ (hu c x u <<< t)))) h (by
        intro u' q1 q2
        rw [s_L1]
        unfold vp_updL
        rw [if_neg (by omega)]
        exact h1 u' q1 (by omega)) (by
        intro u' q1
        rw [s_L1]
        unfold vp_updL
        by_cases e : u' = u
        · rw [if_pos e, e]; exact ⟨bx, rfl⟩
        · rw [if_neg e]; exact h2 u' (by omega))
      refine ⟨σ', ?_, a2, a3⟩
      rw [show (1 : Int32) = nI 1 from rfl, z_add]
      exact a1
  obtain ⟨σ', a1, a2, a3⟩ := key 0 (by omega) FU (by have := FU_b; omega) σ h (fun u' h1 _ => hB u' h1) (fun u' h1 => by omega)
  rw [show nI 0 = (0 : Int32) from rfl] at a1
  exact ⟨σ', by rw [f_X9_exchange]; exact a1, a2, a3⟩
theorem x_or {a b : Nat} (h : a &&& b = 0) (s : Nat) : (a ^^^ b).testBit s = true ↔ a.testBit s = true ∨ b.testBit s = true := by
  have h1 : (a &&& b).testBit s = false := by rw [h, Nat.zero_testBit]
  rw [Nat.testBit_and] at h1
  rw [Nat.testBit_xor]
  cases q1 : a.testBit s <;> cases q2 : b.testBit s <;> simp_all
theorem m_exchange {c : Cf} {T : Nat → Nat} {P : Nat → Prop} {σ : HS} (h : MR c σ) (w : WF c) (hz : BZ c T P σ) {x t : Nat} (hx : x < c 23) (ht : t < 50) (hf : FRE c T P x t) (hp : ¬ P x) : ∃ σ', f_X9_exchange (nI x) (nI t) σ = some σ' ∧ σ'.1 = σ.1 ∧ BZ c (un T x t) (fun i => P i ∨ i = x) σ' := by
  have hc : ∀ u, ∃ b, u < 3 → b < 2 ^ 60 ∧ σ.2 79 u = lN b ∧ ∀ s, b.testBit s = true ↔ ∃ i, i < c 23 ∧ P i ∧ T i ≤ s ∧ (hu c i u).testBit (s - T i) = true := by
    intro u
    by_cases q : u < 3
    · obtain ⟨b, hb⟩ := hz u q
      exact ⟨b, fun _ => hb⟩
    · exact ⟨0, fun e => absurd e q⟩
  have ⟨B, hB⟩ : ∃ B : Nat → Nat, ∀ u, u < 3 → B u < 2 ^ 60 ∧ σ.2 79 u = lN (B u) ∧ ∀ s, (B u).testBit s = true ↔ ∃ i, i < c 23 ∧ P i ∧ T i ≤ s ∧ (hu c i u).testBit (s - T i) = true := ⟨fun u => Classical.choose (hc u), fun u => Classical.choose_spec (hc u)⟩
  obtain ⟨σ', a1, a2, a3⟩ := m_exch h w hx ht B (fun u hu => ⟨(hB u hu).1, (hB u hu).2.1⟩)
  refine ⟨σ', a1, a2, fun u hu3 => ⟨_, (a3 u hu3).1, (a3 u hu3).2, fun s => ?_⟩⟩
  have hd : B u &&& (hu c x u <<< t) = 0 := by
    apply Nat.eq_of_testBit_eq
    intro s
    rw [Nat.zero_testBit]
    cases q : (B u &&& (hu c x u <<< t)).testBit s with
    | false => rfl
    | true =>
      rw [Nat.testBit_and, Nat.testBit_shiftLeft, Bool.and_eq_true, Bool.and_eq_true, decide_eq_true_eq] at q
      obtain ⟨q1, q2, q3⟩ := q
      obtain ⟨i, i1, i2, i3, i4⟩ := ((hB u hu3).2.2 s).mp q1
      exact absurd ⟨u, hu3, s, ⟨i3, i4⟩, q2, q3⟩ (hf i i1 i2)
  rw [x_or hd, (hB u hu3).2.2 s, Nat.testBit_shiftLeft, Bool.and_eq_true, decide_eq_true_eq]
  constructor
  · rintro (⟨i, i1, i2, i3, i4⟩ | ⟨q1, q2⟩)
    · have hne : i ≠ x := fun e => hp (e ▸ i2)
      refine ⟨i, i1, Or.inl i2, ?_⟩
      unfold un; rw [if_neg hne]; exact ⟨i3, i4⟩
    · refine ⟨x, hx, Or.inr rfl, ?_⟩
      unfold un; rw [if_pos rfl]; exact ⟨q1, q2⟩
  · rintro ⟨i, i1, i2, i3⟩
    by_cases e : i = x
    · subst e
      unfold un at i3; rw [if_pos rfl] at i3
      exact Or.inr i3
    · unfold un at i3; rw [if_neg e] at i3
      rcases i2 with i2 | i2
      · exact Or.inl ⟨i, i1, i2, i3⟩
      · exact absurd i2 e
theorem m_clearAll {c : Cf} (T : Nat → Nat) (σ : HS) : ∃ σ', f_X9_clearAll σ = some σ' ∧ fr [78] σ σ' ∧ (∀ k, k < 6 → σ'.1 78 k = -1) ∧ BZ c T (fun _ => False) σ' := by
  have k1 : ∀ i, i ≤ 6 → ∀ n, 6 < i + n → ∀ σ, (∀ k, k < i → σ.1 78 k = -1) → ∃ σ', f_X9_clearAll_22 n (nI i) σ = some σ' ∧ fr [78] σ σ' ∧ (∀ k, k < 6 → σ'.1 78 k = -1) ∧ σ'.2 = σ.2 := by
    refine dn_ind ?_ ?_
    · intro n hn' σ h1
      obtain ⟨n, rfl⟩ : ∃ m, n = m + 1 := ⟨n - 1, by omega⟩
      refine ⟨σ, ?_, fr.rf _ _, h1, rfl⟩
      rw [f_X9_clearAll_22, if_pos (by rw [z_lit, z_le (by omega) (by omega)]; omega)]
    · intro i hi ih n hn' σ h1
      obtain ⟨n, rfl⟩ : ∃ m, n = m + 1 := ⟨n - 1, by omega⟩
      rw [f_X9_clearAll_22, if_neg (by rw [z_lit, z_le (by omega) (by omega)]; omega), z_st (by omega) (by omega), z_bi, show (1 : Int32) = nI 1 from rfl, z_add]
      obtain ⟨σ', a1, a2, a3, a4⟩ := ih n (by omega) (sI σ 78 i (-1)) (by
        intro k hk
        rw [s_I1]; unfold upd
        by_cases e : k = i
        · rw [if_pos e]
        · rw [if_neg e]; exact h1 k (by omega))
      exact ⟨σ', a1, (fr.sI (by simp)).tr a2, a3, a4⟩
  have k2 : ∀ u, u ≤ 3 → ∀ n, 3 < u + n → ∀ σ, (∀ k, k < u → σ.2 79 k = lN 0) → ∃ σ', f_X9_clearAll_2 n (nI u) σ = some σ' ∧ fr [78] σ σ' ∧ (∀ k, k < 6 → σ'.1 78 k = -1) ∧ ∀ k, k < 3 → σ'.2 79 k = lN 0 := by
    refine dn_ind ?_ ?_
    · intro n hn' σ h1
      obtain ⟨n, rfl⟩ : ∃ m, n = m + 1 := ⟨n - 1, by omega⟩
      obtain ⟨σ', a1, a2, a3, a4⟩ := k1 0 (by omega) FU (by have := FU_b; omega) σ (fun k hk => by omega)
      rw [show nI 0 = (0 : Int32) from rfl] at a1
      refine ⟨σ', ?_, a2, a3, by rw [a4]; exact h1⟩
      rw [f_X9_clearAll_2, if_pos (by rw [z_lit, z_le (by omega) (by omega)]; omega)]
      exact a1
    · intro u hu3 ih n hn' σ h1
      obtain ⟨n, rfl⟩ : ∃ m, n = m + 1 := ⟨n - 1, by omega⟩
      rw [f_X9_clearAll_2, if_neg (by rw [z_lit, z_le (by omega) (by omega)]; omega), z_stJ (by omega) (by omega), z_bi, show (1 : Int32) = nI 1 from rfl, z_add]
      obtain ⟨σ', a1, a2, a3, a4⟩ := ih n (by omega) (sL σ 79 u 0) (by
        intro k hk
        rw [s_L1]; unfold vp_updL
        by_cases e : k = u
        · rw [if_pos e]; rfl
        · rw [if_neg e]; exact h1 k (by omega))
      exact ⟨σ', a1, (fr.sL _ _ _ _).tr a2, a3, a4⟩
  obtain ⟨σ', a1, a2, a3, a4⟩ := k2 0 (by omega) FU (by have := FU_b; omega) σ (fun k hk => by omega)
  rw [show nI 0 = (0 : Int32) from rfl] at a1
  refine ⟨σ', by rw [f_X9_clearAll]; exact a1, a2, a3, fun u hu3 => ⟨0, by decide, a4 u hu3, fun s => ?_⟩⟩
  rw [Nat.zero_testBit]
  constructor
  · intro e; cases e
  · rintro ⟨i, _, e, _⟩; exact absurd e id
