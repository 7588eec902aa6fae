-- the least length
def smF (f : Nat → Nat) : Nat → Nat
  | 0 => 0
  | n + 1 => smF f n + f n
theorem smF_le {f : Nat → Nat} {b : Nat} : ∀ n, (∀ k, k < n → f k ≤ b) → smF f n ≤ b * n := by
  intro n
  induction n with
  | zero => intro _; exact Nat.zero_le _
  | succ n ih =>
    intro h
    have h1 := ih (fun k hk => h k (by omega))
    have h2 := h n (by omega)
    rw [smF, Nat.mul_succ]
    omega
def pcn (m n : Nat) : Nat := fb_ct (fun t => m.testBit t) n
theorem pcn_le (m n : Nat) : pcn m n ≤ n := fb_ct_le _ n
theorem c_bits4 {m : Nat} (h : m < 16) (σ : HS) : f_J6_bitCount_0f7a4 (nI m) σ = some (nI (pcn m 4), σ) := by
  rcases (show m = 0 ∨ m = 1 ∨ m = 2 ∨ m = 3 ∨ m = 4 ∨ m = 5 ∨ m = 6 ∨ m = 7 ∨ m = 8 ∨ m = 9 ∨ m = 10 ∨ m = 11 ∨ m = 12 ∨ m = 13 ∨ m = 14 ∨ m = 15 by omega) with rfl | rfl | rfl | rfl | rfl | rfl | rfl | rfl | rfl | rfl | rfl | rfl | rfl | rfl | rfl | rfl <;> rfl
/-- how many turns a unit is held by all -/
def hd (c : Cf) (u : Nat) : Nat := smF (fun i => pcn (hu c i u) 4) (c 23)
def b0 (c : Cf) : Nat := (c 23 + c 21 - 1) / c 21
def bnd (c : Cf) : Nat := max (max (b0 c) (mxF (wy c) (c 23))) (mxF (hd c) 3)
theorem hd_b {c : Cf} (w : WF c) (u i : Nat) (hi : i ≤ c 23) : smF (fun i => pcn (hu c i u) 4) i ≤ 24 := by
  have := w.p_n
  have := smF_le (f := fun i => pcn (hu c i u) 4) (b := 4) i (fun k _ => pcn_le _ 4)
  omega
theorem b0_b {c : Cf} (w : WF c) : b0 c ≤ 6 := by
  have h1 := w.p_n
  have h2 := w.p_wd
  unfold b0
  apply Nat.le_trans (m := 6 * c 21 / c 21)
  · apply Nat.div_le_div_right
    have : 6 * c 21 = 6 + 6 * (c 21 - 1) := by omega
    omega
  · rw [Nat.mul_div_cancel _ (by omega)]; omega
theorem mw_b {c : Cf} (w : WF c) (i : Nat) (hi : i ≤ c 23) : mxF (wy c) i ≤ 35 := mxF_le (fun k hk => wy_b w (by omega))
theorem mh_b {c : Cf} (w : WF c) (u : Nat) : mxF (hd c) u ≤ 24 := mxF_le (fun k _ => hd_b w k (c 23) (by omega))
theorem bnd_b {c : Cf} (w : WF c) : bnd c ≤ 35 := by
  have h1 := b0_b w
  have h2 := mw_b w (c 23) (by omega)
  have h3 := mh_b w 3
  unfold bnd
  omega
theorem c_ll67 {c : Cf} (w : WF c) {σ : HS} (hb : BOK c σ) (k : Int32 → Int32 → Int32 → HS → Option (Int32 × HS)) (x1 : Int32) {u : Nat} (hu' : u < 3) : ∀ i, i ≤ c 23 → ∀ n, c 23 < i + n → f_X0_leastLength_67 k n x1 (nI u) (nI (smF (fun i => pcn (hu c i u) 4) i)) (nI i) σ = k x1 (nI u) (nI (hd c u)) σ := by
  have hn := w.p_n
  refine dn_ind ?_ ?_
  · intro n hn'
    obtain ⟨n, rfl⟩ : ∃ m, n = m + 1 := ⟨n - 1, by omega⟩
    rw [f_X0_leastLength_67, hb.1, if_pos (by rw [z_le (by omega) (by omega)]; omega)]
    rfl
  · intro i hi ih n hn'
    obtain ⟨n, rfl⟩ : ∃ m, n = m + 1 := ⟨n - 1, by omega⟩
    have q0 := w.p_ka (w.p_ko hi) (u := 0) (by omega)
    have q1 := w.p_ka (w.p_ko hi) (u := 1) (by omega)
    have q2 := w.p_ka (w.p_ko hi) (u := 2) (by omega)
    have q3 := hm_b w (w.p_ko hi)
    have ih := ih n (by omega)
    rw [smF] at ih
    rw [f_X0_leastLength_67, hb.1, if_neg (by rw [z_le (by omega) (by omega)]; omega), z_ld (by omega) (by omega), z_bi, hb.2.2.1 i hi, c_unitOf (by omega) hu', z_bi, hm_unit _ q0 q1 q2 hu']
    rw [c_bits4 (w.p_ka (w.p_ko hi) hu'), z_bi]
    simp only [z_add]
    rw [show (1 : Int32) = nI 1 from rfl, z_add]
    exact ih
theorem c_ll57 {c : Cf} (w : WF c) {σ : HS} (hb : BOK c σ) {b : Nat} (hB : b ≤ 35) : ∀ u, u ≤ 3 → ∀ n, 3 < u + n → f_X0_leastLength_57 n (nI (max b (mxF (hd c) u))) (nI u) σ = some (nI (max b (mxF (hd c) 3)), σ) := by
  refine dn_ind ?_ ?_
  · intro n hn'
    obtain ⟨n, rfl⟩ : ∃ m, n = m + 1 := ⟨n - 1, by omega⟩
    rw [f_X0_leastLength_57, if_pos (by rw [z_lit, z_le (by omega) (by omega)]; omega)]
  · intro u hu3 ih n hn'
    obtain ⟨n, rfl⟩ : ∃ m, n = m + 1 := ⟨n - 1, by omega⟩
    rw [f_X0_leastLength_57, if_neg (by rw [z_lit, z_le (by omega) (by omega)]; omega)]
    have k := c_ll67 w hb (fun e4 e5 e6 σ7 => (f_J9_max_7cf53 e4 e6 σ7).bind fun q8 => f_X0_leastLength_57 n q8.1 (e5 + 1) q8.2) (nI (max b (mxF (hd c) u))) hu3 0 (by omega) FU (by have := FU_b; have := w.p_n; omega)
    rw [show smF (fun i => pcn (hu c i u) 4) 0 = 0 from rfl, show nI 0 = (0 : Int32) from rfl] at k
    rw [k]
    have := mh_b w u
    have h2 : hd c u ≤ 24 := hd_b w u (c 23) (by omega)
    rw [c_max (by omega) (by omega), z_bi]
    have ih := ih n (by omega)
    rw [mxF, ← Nat.max_assoc] at ih
    show f_X0_leastLength_57 n _ (nI u + nI 1) σ = _
    rw [z_add]
    exact ih
theorem c_leastLength {c : Cf} (w : WF c) {σ : HS} (hb : BOK c σ) : f_X0_leastLength σ = some (nI (bnd c), σ) := by
  have hn := w.p_n
  have hw := w.p_wd
  have h6 := b0_b w
  have key : ∀ i, i ≤ c 23 → ∀ n, c 23 < i + n → f_X0_leastLength_30 n (nI (max (b0 c) (mxF (wy c) i))) (nI i) σ = some (nI (bnd c), σ) := by
    refine dn_ind ?_ ?_
    · intro n hn'
      obtain ⟨n, rfl⟩ : ∃ m, n = m + 1 := ⟨n - 1, by omega⟩
      rw [f_X0_leastLength_30, hb.1, if_pos (by rw [z_le (by omega) (by omega)]; omega)]
      have := mw_b w (c 23) (by omega)
      have k := c_ll57 w hb (b := max (b0 c) (mxF (wy c) (c 23))) (by omega) 0 (by omega) FU (by have := FU_b; omega)
      rw [show mxF (hd c) 0 = 0 from rfl, Nat.max_zero, show nI 0 = (0 : Int32) from rfl] at k
      exact k
    · intro i hi ih n hn'
      obtain ⟨n, rfl⟩ : ∃ m, n = m + 1 := ⟨n - 1, by omega⟩
      have := mw_b w i (by omega)
      have := wy_b w hi
      have ih := ih n (by omega)
      rw [mxF, ← Nat.max_assoc] at ih
      rw [f_X0_leastLength_30, hb.1, if_neg (by rw [z_le (by omega) (by omega)]; omega), z_ld (by omega) (by omega), z_bi, hb.2.2.2.2.1 i hi, c_max (by omega) (by omega), z_bi]
      show f_X0_leastLength_30 n _ (nI i + nI 1) σ = _
      rw [z_add]
      exact ih
  have k := key 0 (by omega) FU (by have := FU_b; omega)
  rw [show mxF (wy c) 0 = 0 from rfl, Nat.max_zero, show nI 0 = (0 : Int32) from rfl] at k
  rw [f_X0_leastLength, hb.2.1, hb.1, if_neg (by rw [z_0, z_le (by omega) (by omega)]; omega), show (1 : Int32) = nI 1 from rfl, z_add, z_sub (by omega), z_dv (by omega) (by omega) (by omega), z_bi]
  exact k
theorem c_bound {a : AS} {σ : HS} (h : IC a σ) (w : WA a) (hk : KCb (aC a) σ) : ∃ σ', f_X8_bound σ = some (nI (bnd (aC a)), σ') ∧ IC a σ' ∧ KCb (aC a) σ' ∧ fr lB σ σ' := by
  obtain ⟨σ1, a1, a2, a3, a4⟩ := c_learn w.1 h.1 hk
  refine ⟨σ1, ?_, h.fr a2 (by simp), Or.inr ⟨a4, a3⟩, a2⟩
  rw [f_X8_bound, a1, z_bi, c_leastLength w.1 a3, z_bi]
-- the reference
theorem m_heldTurns {c : Cf} {σ : HS} (h : MR c σ) (w : WF c) {u : Nat} (hu' : u < 3) : f_X9_heldTurns (nI u) σ = some (nI (hd c u), σ) := by
  have hn := w.p_n
  have k1 : ∀ (k : Int32 → Int32 → Int32 → HS → Option (Int32 × HS)) (i v : Nat), i < c 23 → ∀ t, t ≤ 4 → ∀ n, 4 < t + n → f_X9_heldTurns_18 k n (nI u) (nI (v + pcn (hu c i u) t)) (nI i) (nI t) σ = k (nI u) (nI (v + pcn (hu c i u) 4)) (nI i) σ := by
    intro k i v hi
    refine dn_ind ?_ ?_
    · intro n hn'
      obtain ⟨n, rfl⟩ : ∃ m, n = m + 1 := ⟨n - 1, by omega⟩
      rw [f_X9_heldTurns_18, if_pos (by rw [z_lit, z_le (by omega) (by omega)]; omega)]
    · intro t ht ih n hn'
      obtain ⟨n, rfl⟩ : ∃ m, n = m + 1 := ⟨n - 1, by omega⟩
      have q := w.p_ka (w.p_ko hi) hu'
      have ih := ih n (by omega)
      rw [pcn, fb_ct_succ, ← Nat.add_assoc] at ih
      rw [f_X9_heldTurns_18, if_neg (by rw [z_lit, z_le (by omega) (by omega)]; omega), m_ofOne h w hi (by omega), z_bi]
      rw [show c (1 + 4 * ko c i + u) = hu c i u from rfl, m_has (hu c i u) t (Nat.lt_trans q (by omega)) (by omega), z_bi]
      simp only [z_lit, b2_0, z_add]
      by_cases e : (hu c i u).testBit t = false
      · rw [if_pos e]; rw [if_neg (by rw [e]; decide)] at ih; exact ih
      · rw [if_neg e]; rw [if_pos (by simpa using e)] at ih; exact ih
  have k2 : ∀ i, i ≤ c 23 → ∀ n, c 23 < i + n → f_X9_heldTurns_4 n (nI u) (nI (smF (fun i => pcn (hu c i u) 4) i)) (nI i) σ = some (nI (hd c u), σ) := by
    refine dn_ind ?_ ?_
    · intro n hn'
      obtain ⟨n, rfl⟩ : ∃ m, n = m + 1 := ⟨n - 1, by omega⟩
      rw [f_X9_heldTurns_4, show (23 : Int32) = nI 23 from rfl, z_ld (by omega) (by omega), z_bi, h 23 (by omega), if_pos (by rw [z_le (by omega) (by omega)]; omega)]
      rfl
    · intro i hi ih n hn'
      obtain ⟨n, rfl⟩ : ∃ m, n = m + 1 := ⟨n - 1, by omega⟩
      rw [f_X9_heldTurns_4, show (23 : Int32) = nI 23 from rfl, z_ld (by omega) (by omega), z_bi, h 23 (by omega), if_neg (by rw [z_le (by omega) (by omega)]; omega)]
      have k := k1 (fun e4 e5 e6 σ7 => f_X9_heldTurns_4 n e4 e5 (e6 + 1) σ7) i (smF (fun i => pcn (hu c i u) 4) i) hi 0 (by omega) FU (by have := FU_b; omega)
      rw [show pcn (hu c i u) 0 = 0 from rfl, Nat.add_zero, show nI 0 = (0 : Int32) from rfl] at k
      rw [k]
      have ih := ih n (by omega)
      rw [smF] at ih
      show f_X9_heldTurns_4 n (nI u) _ (nI i + nI 1) σ = _
      rw [z_add]
      exact ih
  rw [f_X9_heldTurns]
  exact k2 0 (by omega) FU (by have := FU_b; omega)
theorem m_boundOf {c : Cf} {σ : HS} (h : MR c σ) (w : WF c) : ∃ σ', f_X9_boundOf σ = some (nI (bnd c), σ') ∧ fr [76, 77] σ σ' ∧ MW 76 77 c (wy c, ea c) σ' := by
  have hn := w.p_n
  have hw := w.p_wd
  have h6 := b0_b w
  obtain ⟨σ1, a1, a2, a3⟩ := m_findWays w h
  have h1 : MR c σ1 := MR.fr h a2 (by simp)
  refine ⟨σ1, ?_, a2, a3⟩
  have k1 : ∀ b, b ≤ 35 → ∀ u, u ≤ 3 → ∀ n, 3 < u + n → f_X9_boundOf_72 n (nI (max b (mxF (hd c) u))) (nI u) σ1 = some (nI (max b (mxF (hd c) 3)), σ1) := by
    intro b hb
    refine dn_ind ?_ ?_
    · intro n hn'
      obtain ⟨n, rfl⟩ : ∃ m, n = m + 1 := ⟨n - 1, by omega⟩
      rw [f_X9_boundOf_72, if_pos (by rw [z_lit, z_le (by omega) (by omega)]; omega)]
    · intro u hu ih n hn'
      obtain ⟨n, rfl⟩ : ∃ m, n = m + 1 := ⟨n - 1, by omega⟩
      have := mh_b w u
      have h2 : hd c u ≤ 24 := hd_b w u (c 23) (by omega)
      have ih := ih n (by omega)
      rw [mxF, ← Nat.max_assoc] at ih
      rw [f_X9_boundOf_72, if_neg (by rw [z_lit, z_le (by omega) (by omega)]; omega), m_heldTurns h1 w hu, z_bi, m_heldTurns h1 w hu, z_bi, show (1 : Int32) = nI 1 from rfl, z_add]
      by_cases e : hd c u ≤ max b (mxF (hd c) u)
      · rw [if_pos (by rw [z_le (by omega) (by omega)]; exact e)]
        rw [Nat.max_eq_left e] at ih; exact ih
      · rw [if_neg (by rw [z_le (by omega) (by omega)]; exact e)]
        rw [Nat.max_eq_right (by omega)] at ih; exact ih
  have k2 : ∀ i, i ≤ c 23 → ∀ n, c 23 < i + n → f_X9_boundOf_32 n (nI (max (b0 c) (mxF (wy c) i))) (nI i) σ1 = some (nI (bnd c), σ1) := by
    refine dn_ind ?_ ?_
    · intro n hn'
      obtain ⟨n, rfl⟩ : ∃ m, n = m + 1 := ⟨n - 1, by omega⟩
      rw [f_X9_boundOf_32, show (23 : Int32) = nI 23 from rfl, z_ld (by omega) (by omega), z_bi, h1 23 (by omega), if_pos (by rw [z_le (by omega) (by omega)]; omega)]
      have := mw_b w (c 23) (by omega)
      have k := k1 (max (b0 c) (mxF (wy c) (c 23))) (by omega) 0 (by omega) FU (by have := FU_b; omega)
      rw [show mxF (hd c) 0 = 0 from rfl, Nat.max_zero, show nI 0 = (0 : Int32) from rfl] at k
      exact k
    · intro i hi ih n hn'
      obtain ⟨n, rfl⟩ : ∃ m, n = m + 1 := ⟨n - 1, by omega⟩
      have := mw_b w i (by omega)
      have hy := wy_b w hi
      have ih := ih n (by omega)
      rw [mxF, ← Nat.max_assoc] at ih
      rw [f_X9_boundOf_32, show (23 : Int32) = nI 23 from rfl, z_ld (by omega) (by omega), z_bi, h1 23 (by omega), if_neg (by rw [z_le (by omega) (by omega)]; omega), z_ld (by omega) (by omega), z_bi, z_bi, (a3 i hi).1, show (1 : Int32) = nI 1 from rfl, z_add]
      show (if nI (wy c i) ≤ _ then _ else f_X9_boundOf_32 n (nI (wy c i)) _ _) = _
      by_cases e : wy c i ≤ max (b0 c) (mxF (wy c) i)
      · rw [if_pos (by rw [z_le (by omega) (by omega)]; exact e)]
        rw [Nat.max_eq_left e] at ih; exact ih
      · rw [if_neg (by rw [z_le (by omega) (by omega)]; exact e)]
        rw [Nat.max_eq_right (by omega)] at ih; exact ih
  have k := k2 0 (by omega) FU (by have := FU_b; omega)
  rw [show mxF (wy c) 0 = 0 from rfl, Nat.max_zero, show nI 0 = (0 : Int32) from rfl] at k
  rw [f_X9_boundOf, a1, z_bi, show (23 : Int32) = nI 23 from rfl, show (21 : Int32) = nI 21 from rfl, z_ld (by omega) (by omega), z_bi, z_ld (by omega) (by omega), z_bi, z_bi, h1 23 (by omega), h1 21 (by omega), show (1 : Int32) = nI 1 from rfl, z_add, z_sub (by omega), z_dv (by omega) (by omega) (by omega), z_bi]
  exact k
theorem m_bound {a : AS} {σ : HS} (h : IM a σ) (w : WA a) : ∃ σ', f_X9_bound σ = some (nI (bnd (aC a)), σ') ∧ IM a σ' ∧ ME a a σ σ' ∧ frM σ σ' := by
  obtain ⟨σ1, d1, d2, _⟩ := m_boundOf h.1 w.1
  exact ⟨σ1, by rw [f_X9_bound, d1, z_bi], h.fr d2 (by simp), ME.of71 d2 rfl (by simp), d2.toM (by simp)⟩
