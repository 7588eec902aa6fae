-- the class's bound by rows
theorem z_andn (a b : Nat) : nI a &&& (nI b ^^^ (-1)) = nI (a ^^^ (a &&& b)) := by
  apply b_ext
  intro i hi
  rw [b_and, b_xor, b_m1 i hi, z_bt _ hi, z_bt _ hi, z_bt _ hi, Nat.testBit_xor, Nat.testBit_and]
  cases a.testBit i <;> cases b.testBit i <;> rfl
def clr (S i : Nat) : Nat := S ^^^ (S &&& 1 <<< i)
theorem clr_b (S i j : Nat) : (clr S i).testBit j = (S.testBit j && decide (j ≠ i)) := by
  unfold clr
  rw [Nat.testBit_xor, Nat.testBit_and]
  have := one_sh i j
  by_cases e : j = i
  · rw [this.mpr e]; simp [e]
  · have h : (1 <<< i).testBit j = false := by
      cases q : (1 <<< i).testBit j with
      | false => rfl
      | true => exact absurd (this.mp q) e
    rw [h]; simp [e]
theorem clr_lt : ∀ S, S < 64 → ∀ i, i < 6 → S.testBit i = true → clr S i < S := by decide +kernel
theorem nz_bit {S : Nat} (h : S ≠ 0) : ∃ i, S.testBit i = true := by
  refine Classical.byContradiction fun q => h (Nat.eq_of_testBit_eq (fun i => ?_))
  rw [Nat.zero_testBit]
  cases e : S.testBit i with
  | false => rfl
  | true => exact absurd ⟨i, e⟩ q
theorem mx_ex (key : Nat → Nat) (P : Nat → Prop) : ∀ n, (∃ i, i < n ∧ P i) → ∃ i, i < n ∧ P i ∧ ∀ j, j < n → P j → key j ≤ key i := by
  intro n
  induction n with
  | zero => rintro ⟨i, h, _⟩; omega
  | succ n ih =>
    rintro ⟨i, h1, h2⟩
    by_cases e : ∃ i, i < n ∧ P i
    · obtain ⟨a, a1, a2, a3⟩ := ih e
      by_cases g : P n ∧ key a < key n
      · refine ⟨n, by omega, g.1, fun j hj hp => ?_⟩
        by_cases q : j = n
        · rw [q]; exact Nat.le_refl _
        · have := a3 j (by omega) hp; omega
      · refine ⟨a, by omega, a2, fun j hj hp => ?_⟩
        by_cases q : j = n
        · subst q
          rcases Nat.lt_or_ge (key a) (key j) with g2 | g2
          · exact absurd ⟨hp, g2⟩ g
          · exact g2
        · exact a3 j (by omega) hp
    · have hin : i = n := by
        by_cases q : i = n
        · exact q
        · exact absurd ⟨i, by omega, h2⟩ e
      subst hin
      refine ⟨i, by omega, h2, fun j hj hp => ?_⟩
      by_cases q : j = i
      · rw [q]; exact Nat.le_refl _
      · exact absurd ⟨j, by omega, hp⟩ e
def MXA (c : Cf) (T π : Nat → Nat) (S i : Nat) : Prop := S.testBit i = true ∧ ∀ j, j < c 23 → S.testBit j = true → T j ≤ T i ∧ (T j = T i → π j ≤ π i)
theorem MXA_ex {c : Cf} {T π : Nat → Nat} {S : Nat} (h0 : S ≠ 0) (hS : S < 2 ^ (c 23)) : ∃ i, i < c 23 ∧ MXA c T π S i := by
  obtain ⟨b, hb⟩ := nz_bit h0
  have hbn : b < c 23 := by
    rcases Nat.lt_or_ge b (c 23) with g | g
    · exact g
    · have : S.testBit b = false := Nat.testBit_lt_two_pow (Nat.lt_of_lt_of_le hS (Nat.pow_le_pow_right (by omega) g))
      rw [this] at hb; cases hb
  obtain ⟨i, i1, i2, i3⟩ := mx_ex T (fun i => S.testBit i = true) (c 23) ⟨b, hbn, hb⟩
  obtain ⟨k, k1, k2, k3⟩ := mx_ex π (fun k => S.testBit k = true ∧ T k = T i) (c 23) ⟨i, i1, i2, rfl⟩
  refine ⟨k, k1, k2.1, fun j hj hjb => ⟨?_, fun e => k3 j hj ⟨hjb, by rw [e, k2.2]⟩⟩⟩
  rw [k2.2]; exact i3 j hj hjb
theorem cnt_2 {T : Nat → Nat} {n i j : Nat} (hi : i < n) (hj : j < n) (hne : i ≠ j) (h : T i = T j) : 2 ≤ cnt T (T i) n := by
  have h1 := fb_ct_upd (fun k => decide (T k = T i)) false hi
  have h2 : 0 < fb_ct (fun k => if k = i then false else decide (T k = T i)) n := fb_ct_pos.mpr ⟨j, hj, by simp [h, show j ≠ i from fun q => hne q.symm]⟩
  rw [if_pos (by simp), if_neg (by simp)] at h1
  unfold cnt
  omega
theorem CL_up {c : Cf} {i j t : Nat} (a : Nat) (h : CL c i 0 j t) : CL c i a j (a + t) := by
  obtain ⟨u, hu', s, ⟨s1, s2⟩, s3, s4⟩ := h
  exact ⟨u, hu', s + a, ⟨by omega, by rw [show s + a - a = s - 0 by omega]; exact s2⟩, by omega, by rw [show s + a - (a + t) = s - t by omega]; exact s4⟩
def apOK (T : Nat → Nat) (i j p : Nat) : Prop := p ≤ 30 ∧ (i ≠ j → T i ≤ T j → T i + p ≤ T j)
def AO (T : Nat → Nat) (i j : Nat) (σ : HS) : Prop := ∃ p, σ.1 61 (i * 6 + j) = nI p ∧ apOK T i j p
theorem c_ma48 {c : Cf} (w : WF c) {T : Nat → Nat} (hP : PL c T) {σ : HS} (hb : BOK c σ) (k : Int32 → Int32 → Int32 → HS → Option HS) {i j : Nat} (hi : i < c 23) (hj : j < c 23) : ∀ m t n, 4 ≤ t + m → m < n → apOK T i j t → ∃ p, apOK T i j p ∧ f_X3_measureApart_48 k n (nI i) (nI j) (nI t) σ = k (nI i) (nI j) (nI p) σ := by
  intro m
  induction m with
  | zero =>
    intro t n ht hn' ha
    obtain ⟨n, rfl⟩ : ∃ m, n = m + 1 := ⟨n - 1, by omega⟩
    have := ha.1
    exact ⟨t, ha, by rw [f_X3_measureApart_48, if_pos (by rw [z_lit, z_le (by omega) (by omega)]; omega)]⟩
  | succ m ih =>
    intro t n ht hn' ha
    obtain ⟨n, rfl⟩ : ∃ m, n = m + 1 := ⟨n - 1, by omega⟩
    have := ha.1
    by_cases e : 4 ≤ t
    · exact ⟨t, ha, by rw [f_X3_measureApart_48, if_pos (by rw [z_lit, z_le (by omega) (by omega)]; omega)]⟩
    · rw [f_X3_measureApart_48, if_neg (by rw [z_lit, z_le (by omega) (by omega)]; omega)]
      have hc := c_clashes hb w hi hj (ti := 0) (tj := t) (by omega) (by omega)
      rw [show nI 0 = (0 : Int32) from rfl] at hc
      rw [hc, z_bi]
      cases q : clb c i 0 j t with
      | false =>
        rw [if_pos (show nI (b2 false) = 0 from rfl)]
        exact ⟨t, ha, rfl⟩
      | true =>
        rw [if_neg (show ¬ nI (b2 true) = 0 by decide), show (1 : Int32) = nI 1 from rfl, z_add]
        refine ih (t + 1) n (by omega) (by omega) ⟨by omega, fun h1 h2 => ?_⟩
        have h3 := ha.2 h1 h2
        have h4 : T i + t ≠ T j := fun g => hP.2.1 i j hi hj h1 (by rw [← g]; exact CL_up _ ((clb_CL w hi hj 0 t).mp q))
        omega
theorem c_ma13 {c : Cf} (w : WF c) {L : Nat} {T π : Nat → Nat} {Γ : Nat → Nat → Nat} (hB : BE c L T) (k : Int32 → HS → Option HS) {i : Nat} (hi : i < c 23) : ∀ j, j ≤ c 23 → ∀ n, c 23 < j + n → ∀ σ, BOK c σ → GT c T π Γ σ → (∀ x y, x < c 23 → y < c 23 → x * 6 + y < i * 6 + j → AO T x y σ) → ∃ σ', fr [61] σ σ' ∧ (∀ x y, x < c 23 → y < c 23 → x * 6 + y < i * 6 + c 23 → AO T x y σ') ∧ f_X3_measureApart_13 k n (nI i) (nI j) σ = k (nI i) σ' := by
  have hn := w.p_n
  have hwd := w.p_wd
  refine dn_ind ?_ ?_
  · intro n hn' σ hb hg ha
    obtain ⟨n, rfl⟩ : ∃ m, n = m + 1 := ⟨n - 1, by omega⟩
    exact ⟨σ, fr.rf _ _, ha, by rw [f_X3_measureApart_13, hb.1, if_pos (by rw [z_le (by omega) (by omega)]; omega)]⟩
  · intro j hj ih n hn' σ hb hg ha
    obtain ⟨n, rfl⟩ : ∃ m, n = m + 1 := ⟨n - 1, by omega⟩
    obtain ⟨g1, g2⟩ := hg i j hi hj
    have gl := g2.1
    have go : ∀ b, b ≤ 1 → (b = 1 → c 21 = 1) → ∃ σ', fr [61] σ σ' ∧ (∀ x y, x < c 23 → y < c 23 → x * 6 + y < i * 6 + c 23 → AO T x y σ') ∧ f_X3_measureApart_48 (fun e5 e6 e7 σ8 => f_X3_measureApart_73 (f_X3_measureApart_13 k n) e5 e6 e7 σ8) FU (nI i) (nI j) (nI (max (Γ i j - 1) b)) σ = k (nI i) σ' := by
      intro b hb1 hb2
      obtain ⟨p, p1, p2⟩ := c_ma48 w hB.1.1.1 hb (fun e5 e6 e7 σ8 => f_X3_measureApart_73 (f_X3_measureApart_13 k n) e5 e6 e7 σ8) hi hj 4 (max (Γ i j - 1) b) FU (by omega) (by have := FU_b; omega) ⟨by omega, fun h1 h2 => by
        have k1 : T i + (Γ i j - 1) ≤ T j := by
          by_cases e : Γ i j = 0
          · omega
          · exact (g2.2.1 e).1
        by_cases e : b = 1
        · have k2 : T i ≠ T j := fun q => by
            have h3 := cnt_2 hi hj h1 q
            have h4 := hB.1.1.1.2.2 i hi
            have h5 := hb2 e
            omega
          omega
        · omega⟩
      have f1 : fr [61] σ (sI σ 61 (i * 6 + j) (nI p)) := fr.sI (by simp)
      obtain ⟨σ', a1, a2, a3⟩ := ih n (by omega) _ (hb.fr f1 (by simp)) (fun x y hx hy => by rw [f1 56 (by simp)]; exact hg x y hx hy) (by
        intro x y hx hy hxy
        by_cases q : x * 6 + y = i * 6 + j
        · have : x = i ∧ y = j := by omega
          rw [this.1, this.2]
          exact ⟨p, by rw [s_I1]; unfold upd; rw [if_pos rfl], p1⟩
        · obtain ⟨g', g1, g2⟩ := ha x y hx hy (by omega)
          exact ⟨g', by rw [s_I1]; unfold upd; rw [if_neg q]; exact g1, g2⟩)
      refine ⟨σ', f1.tr a1, a2, ?_⟩
      rw [p2]
      show f_X3_measureApart_73 (f_X3_measureApart_13 k n) (nI i) (nI j) (nI p) σ = _
      rw [f_X3_measureApart_73, c_pair, z_bi, z_st (by omega) (by omega), z_bi, show (1 : Int32) = nI 1 from rfl, z_add]
      exact a3
    rw [f_X3_measureApart_13, hb.1, if_neg (by rw [z_le (by omega) (by omega)]; omega), c_pair, z_bi, z_ld (by omega) (by omega), z_bi, g1, hb.2.1]
    by_cases e : c 21 ≤ 1
    · rw [if_pos (by rw [z_lit, z_le (by omega) (by omega)]; exact e), show (1 : Int32) = nI 1 from rfl, c_maxm (by omega) (by omega), z_bi]
      exact go 1 (by omega) (fun _ => by omega)
    · rw [if_neg (by rw [z_lit, z_le (by omega) (by omega)]; exact e)]
      have e0 := c_maxm (g := Γ i j) (b := 0) (by omega) (by omega) σ
      rw [show nI 0 = (0 : Int32) from rfl] at e0
      rw [e0, z_bi]
      exact go 0 (by omega) (fun q => by omega)
theorem c_ma2 {c : Cf} (w : WF c) {L : Nat} {T π : Nat → Nat} {Γ : Nat → Nat → Nat} (hB : BE c L T) : ∀ i, i ≤ c 23 → ∀ n, c 23 < i + n → ∀ σ, BOK c σ → GT c T π Γ σ → (∀ x y, x < c 23 → y < c 23 → x * 6 + y < i * 6 → AO T x y σ) → ∃ σ', fr [61] σ σ' ∧ (∀ x y, x < c 23 → y < c 23 → AO T x y σ') ∧ f_X3_measureApart_2 n (nI i) σ = some σ' := by
  have hn := w.p_n
  refine dn_ind ?_ ?_
  · intro n hn' σ hb hg ha
    obtain ⟨n, rfl⟩ : ∃ m, n = m + 1 := ⟨n - 1, by omega⟩
    exact ⟨σ, fr.rf _ _, fun x y hx hy => ha x y hx hy (by omega), by rw [f_X3_measureApart_2, hb.1, if_pos (by rw [z_le (by omega) (by omega)]; omega)]⟩
  · intro i hi ih n hn' σ hb hg ha
    obtain ⟨n, rfl⟩ : ∃ m, n = m + 1 := ⟨n - 1, by omega⟩
    obtain ⟨σ1, a1, a2, a3⟩ := c_ma13 w hB (fun e16 σ17 => f_X3_measureApart_2 n (e16 + 1) σ17) hi 0 (by omega) FU (by have := FU_b; omega) σ hb hg (fun x y hx hy q => ha x y hx hy (by omega))
    obtain ⟨σ', b1, b2, b3⟩ := ih n (by omega) σ1 (hb.fr a1 (by simp)) (fun x y hx hy => by rw [a1 56 (by simp)]; exact hg x y hx hy) (fun x y hx hy q => a2 x y hx hy (by omega))
    refine ⟨σ', a1.tr b1, b2, ?_⟩
    rw [show nI 0 = (0 : Int32) from rfl] at a3
    rw [f_X3_measureApart_2, hb.1, if_neg (by rw [z_le (by omega) (by omega)]; omega), a3]
    show f_X3_measureApart_2 n (nI i + nI 1) σ1 = _
    rw [z_add]; exact b3
def LO (c : Cf) (T π : Nat → Nat) (S i : Nat) (σ : HS) : Prop := ∃ v, σ.1 60 (S * 6 + i) = nI v ∧ v ≤ 1000 ∧ (MXA c T π S i → v ≤ T i)
theorem c_turnOfLast {c : Cf} (w : WF c) {L : Nat} {T π : Nat → Nat} {Γ : Nat → Nat → Nat} (hB : BE c L T) {σ : HS} (hb : BOK c σ) (hg : GT c T π Γ σ) (ha : ∀ x y, x < c 23 → y < c 23 → AO T x y σ) {S x : Nat} (hS : S < 2 ^ (c 23)) (hx : x < c 23) (hSx : S.testBit x = true) (hL : ∀ A, A < S → ∀ i, i < c 23 → A.testBit i = true → LO c T π A i σ) : ∃ r, r ≤ 1000 ∧ f_X3_turnOfLast (nI (clr S x)) (nI x) σ = some (nI r, σ) ∧ (MXA c T π S x → r ≤ T x) := by
  have hn := w.p_n
  have h64 : S < 64 := Nat.lt_of_lt_of_le hS (show 2 ^ (c 23) ≤ 2 ^ 6 from Nat.pow_le_pow_right (by omega) hn)
  have hlt := clr_lt S h64 x (by omega) hSx
  have hea := ea_b w hx
  have heT := PL_ea w hB.1.1.1 x hx
  have no : ∀ i, i < c 23 → (clr S x).testBit i = true → MXA c T π S x → Γ x i = 0 := by
    intro i hi hib hm
    rw [clr_b, Bool.and_eq_true] at hib
    refine Classical.byContradiction fun q => ?_
    have h1 := (hg x i hx hi).2.2.1 q
    have h2 := hm.2 i hi hib.1
    have h3 := h2.2 (by omega)
    omega
  have star : clr S x ≠ 0 → MXA c T π S x → ∃ y, y < c 23 ∧ (clr S x).testBit y = true ∧ ∃ v p, σ.1 60 (clr S x * 6 + y) = nI v ∧ σ.1 61 (y * 6 + x) = nI p ∧ v ≤ 1000 ∧ p ≤ 30 ∧ v + p ≤ T x := by
    intro h0 hm
    obtain ⟨y, y1, y2⟩ := MXA_ex (c := c) (T := T) (π := π) h0 (Nat.lt_trans hlt hS)
    obtain ⟨v, v1, v2, v3⟩ := hL _ hlt y y1 y2.1
    obtain ⟨p, p1, p2⟩ := ha y x y1 hx
    have hyb := y2.1
    rw [clr_b, Bool.and_eq_true, decide_eq_true_eq] at hyb
    have h1 := v3 y2
    have h2 := p2.2 hyb.2 (hm.2 y y1 hyb.1).1
    exact ⟨y, y1, y2.1, v, p, v1, p1, v2, p2.1, by omega⟩
  have key : ∀ y, (clr S x ≠ 0) → ((∃ v p, σ.1 60 (clr S x * 6 + y) = nI v ∧ σ.1 61 (y * 6 + x) = nI p ∧ v ≤ 1000 ∧ p ≤ 30 ∧ v + p ≤ T x) ∨ ¬ MXA c T π S x) → (clr S x).testBit y = true ∨ ¬ MXA c T π S x → y < c 23 → ∀ i, i ≤ c 23 → ∀ n, c 23 < i + n → ∀ v, v ≤ 1000 → (MXA c T π S x → v ≤ T x ∨ i ≤ y) → ∃ r, r ≤ 1000 ∧ f_X3_turnOfLast_20 n (nI (clr S x)) (nI x) (nI v) (nI i) σ = some (nI r, σ) ∧ (MXA c T π S x → r ≤ T x) := by
    intro y h0 hy1 hy2 hyn
    refine dn_ind ?_ ?_
    · intro n hn' v hv hm
      obtain ⟨n, rfl⟩ : ∃ m, n = m + 1 := ⟨n - 1, by omega⟩
      refine ⟨max v (ea c x), by omega, ?_, fun q => ?_⟩
      · rw [f_X3_turnOfLast_20, hb.1, if_pos (by rw [z_le (by omega) (by omega)]; omega), z_ld (by omega) (by omega), z_bi, hb.2.2.2.2.2.1 x hx, c_max (by omega) (by omega), z_bi]
      · have := hm q; omega
    · intro i hi ih n hn' v hv hm
      obtain ⟨n, rfl⟩ : ∃ m, n = m + 1 := ⟨n - 1, by omega⟩
      rw [f_X3_turnOfLast_20, hb.1, if_neg (by rw [z_le (by omega) (by omega)]; omega), show (31 : Int32) = nI 31 from rfl, show (1 : Int32) = nI 1 from rfl, z_m1]
      by_cases e : (clr S x).testBit i = false
      · rw [if_pos (show _ = (0 : Int32) from (bit_if _ _ (by omega) (by omega)).mpr e), z_add]
        refine ih n (by omega) v hv (fun q => ?_)
        rcases hm q with g | g
        · exact Or.inl g
        · right
          rcases hy2 with k | k
          · have : i ≠ y := fun z => by rw [z, k] at e; cases e
            omega
          · exact absurd q k
      · rw [if_neg (show ¬ _ = (0 : Int32) from fun q => e ((bit_if _ _ (by omega) (by omega)).mp q))]
        have et : (clr S x).testBit i = true := by simpa using e
        have gl := (hg x i hx hi).2.1
        rw [c_pair, z_bi, z_ld (by omega) (by omega), z_bi, (hg x i hx hi).1]
        by_cases eg : Γ x i = 0
        · rw [if_pos ((mtv_0 (by omega)).mpr eg)]
          obtain ⟨u, u1, u2, u3⟩ := hL _ hlt i hi et
          obtain ⟨p, p1, p2⟩ := ha i x hi hx
          have p3 := p2.1
          have ix : nI (clr S x) * 6 + nI i = nI (clr S x * 6 + i) := by
            show nI (clr S x) * nI 6 + nI i = _
            rw [z_mul, z_add]
          rw [ix, z_ld (by omega) (by omega), z_bi, u1, c_pair, z_bi, z_ld (by omega) (by omega), z_bi, p1, z_add, c_min (by omega) (by omega), z_bi, z_add]
          refine ih n (by omega) (min v (u + p)) (by omega) (fun q => ?_)
          rcases hm q with g | g
          · exact Or.inl (by omega)
          · by_cases ey : i = y
            · left
              rcases hy1 with ⟨v', p', k1, k2, k3, k4, k5⟩ | k
              · subst ey
                rw [u1] at k1
                rw [p1] at k2
                have e1 := (z_eq (by omega) (by omega)).mp k1
                have e2 := (z_eq (by omega) (by omega)).mp k2
                omega
              · exact absurd q k
            · right; omega
        · rw [if_neg (fun q => eg ((mtv_0 (by omega)).mp q))]
          exact ⟨1000, by omega, rfl, fun q => absurd (no i hi et q) eg⟩
  rw [f_X3_turnOfLast]
  by_cases h0 : clr S x = 0
  · rw [if_pos (by rw [h0]; rfl), z_ld (by omega) (by omega), z_bi, hb.2.2.2.2.2.1 x hx]
    exact ⟨ea c x, by omega, rfl, fun _ => heT⟩
  · rw [if_neg (by rw [z_0, z_eq (by omega) (by omega)]; exact h0)]
    by_cases hm : MXA c T π S x
    · obtain ⟨y, y1, y2, y3⟩ := star h0 hm
      have := key y h0 (Or.inl y3) (Or.inl y2) y1 0 (by omega) FU (by have := FU_b; omega) 1000 (by omega) (fun _ => Or.inr (by omega))
      exact this
    · have := key x h0 (Or.inr hm) (Or.inr hm) hx 0 (by omega) FU (by have := FU_b; omega) 1000 (by omega) (fun q => absurd q hm)
      exact this
theorem c_lengthOfSet {c : Cf} (w : WF c) {L : Nat} {T π : Nat → Nat} {Γ : Nat → Nat → Nat} (hB : BE c L T) {S : Nat} (hS : S < 2 ^ (c 23)) (h0 : S ≠ 0) {σ : HS} (hb : BOK c σ) (hg : GT c T π Γ σ) (ha : ∀ x y, x < c 23 → y < c 23 → AO T x y σ) (hL : ∀ A, A < S → ∀ i, i < c 23 → A.testBit i = true → LO c T π A i σ) : ∃ r σ', r ≤ L ∧ f_X3_lengthOfSet (nI S) σ = some (nI r, σ') ∧ fr [60] σ σ' ∧ ∀ A, A < S + 1 → ∀ i, i < c 23 → A.testBit i = true → LO c T π A i σ' := by
  have hn := w.p_n
  have hL30 := BE_30 w hB
  have h64 : S < 64 := Nat.lt_of_lt_of_le hS (show 2 ^ (c 23) ≤ 2 ^ 6 from Nat.pow_le_pow_right (by omega) hn)
  obtain ⟨y, y1, y2⟩ := MXA_ex (c := c) (T := T) (π := π) h0 hS
  have key : ∀ x, x ≤ c 23 → ∀ n, c 23 < x + n → ∀ v, v ≤ 1000 → (v ≤ L ∨ x ≤ y) → ∀ σ, BOK c σ → GT c T π Γ σ → (∀ x y, x < c 23 → y < c 23 → AO T x y σ) → (∀ A, A < S → ∀ i, i < c 23 → A.testBit i = true → LO c T π A i σ) → (∀ i, i < x → S.testBit i = true → LO c T π S i σ) → ∃ r σ', r ≤ L ∧ f_X3_lengthOfSet_8 n (nI S) (nI v) (nI x) σ = some (nI r, σ') ∧ fr [60] σ σ' ∧ ∀ A, A < S + 1 → ∀ i, i < c 23 → A.testBit i = true → LO c T π A i σ' := by
    refine dn_ind ?_ ?_
    · intro n hn' v hv hvy σ hb hg ha hL hl
      obtain ⟨n, rfl⟩ : ∃ m, n = m + 1 := ⟨n - 1, by omega⟩
      refine ⟨v, σ, by omega, ?_, fr.rf _ _, fun A hA i hi hAi => ?_⟩
      · rw [f_X3_lengthOfSet_8, hb.1, if_pos (by rw [z_le (by omega) (by omega)]; omega)]
      · by_cases e : A = S
        · subst e; exact hl i hi hAi
        · exact hL A (by omega) i hi hAi
    · intro x hx ih n hn' v hv hvy σ hb hg ha hL hl
      obtain ⟨n, rfl⟩ : ∃ m, n = m + 1 := ⟨n - 1, by omega⟩
      rw [f_X3_lengthOfSet_8, hb.1, if_neg (by rw [z_le (by omega) (by omega)]; omega), show (31 : Int32) = nI 31 from rfl, show (1 : Int32) = nI 1 from rfl, z_m1]
      by_cases e : S.testBit x = false
      · rw [if_pos (show _ = (0 : Int32) from (bit_if _ _ (by omega) (by omega)).mpr e), z_add]
        refine ih n (by omega) v hv ?_ σ hb hg ha hL (fun i hi hSi => ?_)
        · rcases hvy with g | g
          · exact Or.inl g
          · right
            have : x ≠ y := fun z => by rw [z, y2.1] at e; cases e
            omega
        · by_cases q : i = x
          · rw [q, e] at hSi; cases hSi
          · exact hl i (by omega) hSi
      · have et : S.testBit x = true := by simpa using e
        rw [if_neg (show ¬ _ = (0 : Int32) from fun q => e ((bit_if _ _ (by omega) (by omega)).mp q)), z_31 (by omega), z_shl _ (by omega), z_andn]
        obtain ⟨r, r1, r2, r3⟩ := c_turnOfLast w hB hb hg ha hS hx et hL
        have hwy := wy_b w hx
        have ix : nI S * 6 + nI x = nI (S * 6 + x) := by
          show nI S * nI 6 + nI x = _
          rw [z_mul, z_add]
        have f1 : fr [60] σ (sI σ 60 (S * 6 + x) (nI r)) := fr.sI (by simp)
        have hb1 := hb.fr f1 (by simp)
        show ∃ r' σ', r' ≤ L ∧ ((f_X3_turnOfLast (nI (clr S x)) (nI x) σ).bind fun q1 => (stI q1.2 60 384 (nI S * 6 + nI x) q1.1).bind fun σ2 => (ldI (σ2.1 45) 6 (nI x)).bind fun v3 => (f_J9_min_7cf53 (nI v) (q1.1 + v3) σ2).bind fun q4 => f_X3_lengthOfSet_8 n (nI S) q4.1 (nI x + nI 1) q4.2) = some (nI r', σ') ∧ _
        rw [r2, z_bi, ix, z_st (by omega) (by omega), z_bi, z_ld (by omega) (by omega), z_bi, hb1.2.2.2.2.1 x hx, z_add, c_min (by omega) (by omega), z_bi, z_add]
        obtain ⟨r', σ', a1, a2, a3, a4⟩ := ih n (by omega) (min v (r + wy c x)) (by omega) (by
          rcases hvy with g | g
          · exact Or.inl (by omega)
          · by_cases q : x = y
            · left
              subst q
              have h1 := r3 y2
              have h2 := hB.1.1.2 x hx
              omega
            · right; omega) _ hb1 (fun x y hx hy => by rw [f1 56 (by simp)]; exact hg x y hx hy) (fun x y hx hy => by
              obtain ⟨p, p1, p2⟩ := ha x y hx hy
              exact ⟨p, by rw [f1 61 (by simp)]; exact p1, p2⟩) (fun A hA i hi hAi => by
              obtain ⟨u, u1, u2⟩ := hL A hA i hi hAi
              exact ⟨u, by rw [s_I1]; unfold upd; rw [if_neg (by omega)]; exact u1, u2⟩) (fun i hi hSi => by
              by_cases q : i = x
              · subst q
                exact ⟨r, by rw [s_I1]; unfold upd; rw [if_pos rfl], r1, r3⟩
              · obtain ⟨u, u1, u2⟩ := hl i (by omega) hSi
                exact ⟨u, by rw [s_I1]; unfold upd; rw [if_neg (by omega)]; exact u1, u2⟩)
        exact ⟨r', σ', a1, a2, f1.tr a3, a4⟩
  have k := key 0 (by omega) FU (by have := FU_b; omega) 1000 (by omega) (Or.inr (by omega)) σ hb hg ha hL (fun i hi => by omega)
  rw [show nI 0 = (0 : Int32) from rfl] at k
  rw [f_X3_lengthOfSet]
  exact k
theorem c_rows {c : Cf} (w : WF c) {L : Nat} {T π : Nat → Nat} {Γ : Nat → Nat → Nat} (hB : BE c L T) {σ : HS} (hb : BOK c σ) (hg : GT c T π Γ σ) : ∃ r σ', r ≤ L ∧ f_X3_leastLength σ = some (nI r, σ') ∧ fr [60, 61] σ σ' := by
  have hn := w.p_n
  have hL30 := BE_30 w hB
  have p64 : 2 ^ (c 23) ≤ 64 := (show 2 ^ (c 23) ≤ 2 ^ 6 from Nat.pow_le_pow_right (by omega) hn)
  have p1 : 1 ≤ 2 ^ (c 23) := Nat.one_le_two_pow
  have key : ∀ S, S ≤ 2 ^ (c 23) → ∀ n, 2 ^ (c 23) < S + n → 1 ≤ S → ∀ v, v ≤ L → ∀ σ, BOK c σ → GT c T π Γ σ → (∀ x y, x < c 23 → y < c 23 → AO T x y σ) → (∀ A, A < S → ∀ i, i < c 23 → A.testBit i = true → LO c T π A i σ) → ∃ r σ', r ≤ L ∧ f_X3_leastLength_11 n (nI v) (nI S) σ = some (nI r, σ') ∧ fr [60] σ σ' := by
    have hone : ∀ σ : HS, BOK c σ → (1 : Int32) <<< (σ.1 42 7 &&& 31) = nI (2 ^ (c 23)) := by
      intro σ hb
      rw [hb.1, show (31 : Int32) = nI 31 from rfl, show (1 : Int32) = nI 1 from rfl, z_31 (by omega), z_shl _ (by omega), Nat.one_shiftLeft]
    refine dn_ind ?_ ?_
    · intro n hn' _ v hv σ hb hg ha hL
      obtain ⟨n, rfl⟩ : ∃ m, n = m + 1 := ⟨n - 1, by omega⟩
      refine ⟨v, σ, hv, ?_, fr.rf _ _⟩
      rw [f_X3_leastLength_11, hone σ hb, show (64 : Int32) = nI 64 from rfl]
      by_cases e : 64 ≤ 2 ^ (c 23)
      · rw [if_pos (by rw [z_le (by omega) (by omega)]; exact e)]
      · rw [if_neg (by rw [z_le (by omega) (by omega)]; exact e), if_pos (by rw [z_le (by omega) (by omega)]; omega)]
    · intro S hS ih n hn' h1 v hv σ hb hg ha hL
      obtain ⟨n, rfl⟩ : ∃ m, n = m + 1 := ⟨n - 1, by omega⟩
      obtain ⟨r, σ1, a1, a2, a3, a4⟩ := c_lengthOfSet w hB hS (by omega) hb hg ha hL
      rw [f_X3_leastLength_11, hone σ hb, show (64 : Int32) = nI 64 from rfl, if_neg (by rw [z_le (by omega) (by omega)]; omega), if_neg (by rw [z_le (by omega) (by omega)]; omega), a2, z_bi, c_max (by omega) (by omega), z_bi, show (1 : Int32) = nI 1 from rfl, z_add]
      obtain ⟨r', σ', b1, b2, b3⟩ := ih n (by omega) (by omega) (max v r) (by omega) σ1 (hb.fr a3 (by simp)) (fun x y hx hy => by rw [a3 56 (by simp)]; exact hg x y hx hy) (fun x y hx hy => by
        obtain ⟨p, p1, p2⟩ := ha x y hx hy
        exact ⟨p, by rw [a3 61 (by simp)]; exact p1, p2⟩) a4
      exact ⟨r', σ', b1, b2, a3.tr b3⟩
  obtain ⟨σ1, a1, a2, a3⟩ := c_ma2 w hB 0 (by omega) FU (by have := FU_b; omega) σ hb hg (fun x y hx hy q => by omega)
  obtain ⟨r, σ', b1, b2, b3⟩ := key 1 (by omega) FU (by have := FU_b; omega) (by omega) 0 (by omega) σ1 (hb.fr a1 (by simp)) (fun x y hx hy => by rw [a1 56 (by simp)]; exact hg x y hx hy) a2 (fun A hA i hi hAi => by
    have : A = 0 := by omega
    rw [this, Nat.zero_testBit] at hAi; cases hAi)
  refine ⟨r, σ', b1, ?_, (a1.up (by simp)).tr (b3.up (by simp))⟩
  rw [show nI 0 = (0 : Int32) from rfl] at a3
  rw [show nI 0 = (0 : Int32) from rfl, show nI 1 = (1 : Int32) from rfl] at b2
  rw [f_X3_leastLength, f_X3_measureApart, a3, z_bi]
  exact b2
