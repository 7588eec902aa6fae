-- digest, on both sides
def mxD (f : Nat → Int32) : Nat → Int64 → Int64
  | 0, h => h
  | n + 1, h => 31 * mxD f n h + (f n).toInt64
def vSts (c : Cf) : Int32 := if (LSt c).1 ≤ 150 then nI (LSt c).1 else -5
def vCls (c : Cf) : Int32 := if (LSt c).1 ≤ 150 then nI (ncl c (LSt c) (LSt c).1) else -5
abbrev fTo (a : AS) : Nat → Int32 := fun k => vTold k a
abbrev fOf (c : Cf) : Nat → Int32 := fun k => nI (vOf c (k / 5) (k % 5))
abbrev fAb (c : Cf) : Nat → Int32 := fun k => nI (vAb c (k / 5) (k % 5))
theorem fOf_e (c : Cf) {i x : Nat} (hx : x < 5) : fOf c (5 * i + x) = nI (vOf c i x) := by
  show nI (vOf c ((5 * i + x) / 5) ((5 * i + x) % 5)) = _
  rw [show (5 * i + x) / 5 = i by omega, show (5 * i + x) % 5 = x by omega]
theorem fAb_e (c : Cf) {i x : Nat} (hx : x < 5) : fAb c (5 * i + x) = nI (vAb c i x) := by
  show nI (vAb c ((5 * i + x) / 5) ((5 * i + x) % 5)) = _
  rw [show (5 * i + x) / 5 = i by omega, show (5 * i + x) % 5 = x by omega]
abbrev fRk (c : Cf) : Nat → Int32 := fun r => nI (len c (rkT c r))
def dg1 (a : AS) : Int64 := mxD (fOf (aC a)) (5 * aC a 0) (mxD (fTo a) 10 2459)
def dg2 (a : AS) : Int64 := 31 * (31 * dg1 a + (vSts (aC a)).toInt64) + (vCls (aC a)).toInt64
def dg3 (a : AS) : Int64 := mxD (fAb (aC a)) (5 * aC a 23) (dg2 a)
def dg4 (a : AS) (L : Nat) : Int64 := 31 * (31 * dg3 a + (nI (bnd (aC a))).toInt64) + (nI L).toInt64
def dg5 (a : AS) (L : Nat) : Int64 := mxD (fRk (aC a)) 3 (dg4 a L)
def KC3 (c : Cf) (σ : HS) : Prop := KCc c σ ∧ KCb c σ ∧ KCs c σ
theorem KC3.eq {c : Cf} {σ σ' : HS} (h : KC3 c σ) (e : ∀ o, 38 ≤ o → o ≤ 61 → σ'.1 o = σ.1 o) : KC3 c σ' := by
  unfold KC3 KCc CB COK LC KCb BOK KCs at h ⊢
  rw [e 38 (by omega) (by omega), e 39 (by omega) (by omega), e 40 (by omega) (by omega), e 41 (by omega) (by omega), e 42 (by omega) (by omega), e 43 (by omega) (by omega), e 44 (by omega) (by omega), e 45 (by omega) (by omega), e 46 (by omega) (by omega), e 47 (by omega) (by omega), e 48 (by omega) (by omega), e 54 (by omega) (by omega), e 58 (by omega) (by omega)]
  exact h
theorem c_d224 {a : AS} (w : WA a) (h0 : Int64) : ∀ r, r ≤ 3 → ∀ n, 3 < r + n → ∀ σ, IC a σ → KC3 (aC a) σ → ∃ σ', f_X8_digest_224 n (mxD (fRk (aC a)) r h0) (nI r) σ = some (mxD (fRk (aC a)) 3 h0, σ') ∧ IC a σ' ∧ KC3 (aC a) σ' ∧ frC σ σ' := by
  refine dn_ind ?_ ?_
  · intro n hn' σ h hk
    obtain ⟨n, rfl⟩ : ∃ m, n = m + 1 := ⟨n - 1, by omega⟩
    exact ⟨σ, by rw [f_X8_digest_224, if_pos (show (3 : Int32) ≤ nI 3 by decide)], h, hk, fun _ _ => rfl⟩
  · intro r hr ih n hn' σ h hk
    obtain ⟨n, rfl⟩ : ∃ m, n = m + 1 := ⟨n - 1, by omega⟩
    obtain ⟨σ1, a1, a2, a3, a4, a5⟩ := c_rankedLength h w hk.2.1 (r := r) (by omega)
    obtain ⟨σ', b1, b2, b3, b4⟩ := ih n (by omega) σ1 a2 ⟨hk.1.fr a4 (by simp), a3, hk.2.2.fr a4 (by simp)⟩
    refine ⟨σ', ?_, b2, b3, fun o ho => (b4 o ho).trans (a4.toC (by simp) o ho)⟩
    rw [f_X8_digest_224, if_neg (by rw [z_lit, z_le (by omega) (by omega)]; omega), a1, z_bi, show nI r + 1 = nI (r + 1) from z_add r 1]
    exact b1
theorem c_d137 {a : AS} (w : WA a) (h0 : Int64) (k : Int64 → Int32 → HS → Option (Int64 × HS)) {i : Nat} (hi : i < aC a 23) : ∀ x, x ≤ 5 → ∀ n, 5 < x + n → ∀ σ, IC a σ → KC3 (aC a) σ → ∃ σ', f_X8_digest_137 k n (mxD (fAb (aC a)) (5 * i + x) h0) (nI i) (nI x) σ = k (mxD (fAb (aC a)) (5 * (i + 1)) h0) (nI i) σ' ∧ IC a σ' ∧ KC3 (aC a) σ' ∧ frC σ σ' := by
  refine dn_ind ?_ ?_
  · intro n hn' σ h hk
    obtain ⟨n, rfl⟩ : ∃ m, n = m + 1 := ⟨n - 1, by omega⟩
    exact ⟨σ, by rw [f_X8_digest_137, if_pos (show (4 : Int32) < nI 5 by decide), show 5 * i + 5 = 5 * (i + 1) by omega], h, hk, fun _ _ => rfl⟩
  · intro x hx ih n hn' σ h hk
    obtain ⟨n, rfl⟩ : ∃ m, n = m + 1 := ⟨n - 1, by omega⟩
    obtain ⟨σ1, a1, a2, a3, a4⟩ := c_instructionFact h.1 w.1 hk.2.1 hi (x := x) (by omega)
    obtain ⟨σ', b1, b2, b3, b4⟩ := ih n (by omega) σ1 (h.fr a2 (by simp)) ⟨hk.1.fr a2 (by simp), Or.inr ⟨a4, a3⟩, hk.2.2.fr a2 (by simp)⟩
    refine ⟨σ', ?_, b2, b3, fun o ho => (b4 o ho).trans (a2.toC (by simp) o ho)⟩
    rw [f_X8_digest_137, if_neg (by rw [z_lit, z_lt (by omega) (by omega)]; omega), a1, z_bi, show nI x + 1 = nI (x + 1) from z_add x 1]
    rw [← Nat.add_assoc, mxD, fAb_e _ hx] at b1
    exact b1
theorem c_d123 {a : AS} (w : WA a) {L : Nat} {T : Nat → Nat} (hB : BE (aC a) L T) : ∀ i, i ≤ aC a 23 → ∀ n, aC a 23 < i + n → ∀ σ, IC a σ → KC3 (aC a) σ → ∃ σ', f_X8_digest_123 n (mxD (fAb (aC a)) (5 * i) (dg2 a)) (nI i) σ = some (dg5 a L, σ') ∧ IC a σ' ∧ KC3 (aC a) σ' ∧ frC σ σ' := by
  have hn := w.1.p_n
  refine dn_ind ?_ ?_
  · intro n hn' σ h hk
    obtain ⟨n, rfl⟩ : ∃ m, n = m + 1 := ⟨n - 1, by omega⟩
    obtain ⟨σ1, a1, a2, a3, a4⟩ := c_learn w.1 h.1 hk.2.1
    obtain ⟨σ2, L', T', d1, d2, d3, d4, d5, d6⟩ := c_slearn w.1 a3 (hk.2.2.fr a2 (by simp))
    have eL := d4.unL hB
    subst eL
    obtain ⟨σ', b1, b2, b3, b4⟩ := c_d224 w (dg4 a L') 0 (by omega) FU (by have := FU_b; omega) σ2 ((h.fr a2 (by simp)).fr d2 (by simp)) ⟨(hk.1.fr a2 (by simp)).fr d2 (by simp), Or.inr ⟨by rw [d2 42 (by simp)]; exact a4, a3.fr d2 (by simp)⟩, Or.inr ⟨d3, L', T', d4, d5, d6⟩⟩
    rw [show nI 0 = (0 : Int32) from rfl] at b1
    refine ⟨σ', ?_, b2, b3, fun o ho => ((b4 o ho).trans (d2.toC (by simp) o ho)).trans (a2.toC (by simp) o ho)⟩
    rw [f_X8_digest_123, h.1.q_n, if_pos (by rw [z_le (by omega) (by omega)]; omega), a1, z_bi, c_leastLength w.1 a3, z_bi, d1, z_bi, d5]
    exact b1
  · intro i hi ih n hn' σ h hk
    obtain ⟨n, rfl⟩ : ∃ m, n = m + 1 := ⟨n - 1, by omega⟩
    obtain ⟨σ1, a1, a2, a3, a4⟩ := c_d137 w (dg2 a) (fun e9 e10 σ11 => f_X8_digest_123 n e9 (e10 + 1) σ11) hi 0 (by omega) FU (by have := FU_b; omega) σ h hk
    rw [show nI 0 = (0 : Int32) from rfl, Nat.add_zero] at a1
    obtain ⟨σ', b1, b2, b3, b4⟩ := ih n (by omega) σ1 a2 a3
    refine ⟨σ', ?_, b2, b3, fun o ho => (b4 o ho).trans (a4 o ho)⟩
    rw [f_X8_digest_123, h.1.q_n, if_neg (by rw [z_le (by omega) (by omega)]; omega), a1]
    show f_X8_digest_123 n _ (nI i + nI 1) σ1 = _
    rw [z_add]; exact b1
theorem c_d47 {a : AS} {σ : HS} (h : IC a σ) (w : WA a) (h0 : Int64) (k : Int64 → Int32 → HS → Option (Int64 × HS)) {i : Nat} (hi : i < aC a 0) : ∀ x, x ≤ 5 → ∀ n, 5 < x + n → f_X8_digest_47 k n (mxD (fOf (aC a)) (5 * i + x) h0) (nI i) (nI x) σ = k (mxD (fOf (aC a)) (5 * (i + 1)) h0) (nI i) σ := by
  refine dn_ind ?_ ?_
  · intro n hn'
    obtain ⟨n, rfl⟩ : ∃ m, n = m + 1 := ⟨n - 1, by omega⟩
    rw [f_X8_digest_47, if_pos (show (4 : Int32) < nI 5 by decide), show 5 * i + 5 = 5 * (i + 1) by omega]
  · intro x hx ih n hn'
    obtain ⟨n, rfl⟩ : ∃ m, n = m + 1 := ⟨n - 1, by omega⟩
    have b1 := ih n (by omega)
    rw [f_X8_digest_47, if_neg (by rw [z_lit, z_lt (by omega) (by omega)]; omega), c_kindFact h.1 w.1 hi (by omega), z_bi, show nI x + 1 = nI (x + 1) from z_add x 1]
    rw [← Nat.add_assoc, mxD, fOf_e _ hx] at b1
    exact b1
theorem c_d33 {a : AS} {σ : HS} (h : IC a σ) (w : WA a) (hk : KC3 (aC a) σ) {L : Nat} {T : Nat → Nat} (hB : BE (aC a) L T) : ∀ i, i ≤ aC a 0 → ∀ n, aC a 0 < i + n → ∃ σ', f_X8_digest_33 n (mxD (fOf (aC a)) (5 * i) (mxD (fTo a) 10 2459)) (nI i) σ = some (dg5 a L, σ') ∧ IC a σ' ∧ KC3 (aC a) σ' ∧ frC σ σ' := by
  have hn := w.1.p_n
  have hkk := w.1.p_k
  have hg := (LSt_GD w.1).1
  refine dn_ind ?_ ?_
  · intro n hn'
    obtain ⟨n, rfl⟩ : ∃ m, n = m + 1 := ⟨n - 1, by omega⟩
    obtain ⟨σ1, a1, a2, a3, a4⟩ := c_chart w.1 h.1 hk.1
    have hso : f_X1_statesOrMuch σ1 = some (vSts (aC a), σ1) := by
      rw [f_X1_statesOrMuch, a3.1.2.1, a3.1.1]
      unfold vSts
      by_cases e : (LSt (aC a)).1 ≤ 150
      · rw [if_neg (show ¬ (LSt (aC a)).1 = 151 by omega), if_pos (show nI 0 = (0 : Int32) from rfl), if_pos e, show mn (LSt (aC a)).1 = (LSt (aC a)).1 by unfold mn; omega]
      · rw [if_pos (show (LSt (aC a)).1 = 151 by omega), if_neg (show ¬ nI 1 = 0 by decide), if_neg e]
    have hco : f_X1_classesOrMuch σ1 = some (vCls (aC a), σ1) := by
      rw [f_X1_classesOrMuch, a3.1.2.1]
      unfold vCls
      by_cases e : (LSt (aC a)).1 ≤ 150
      · rw [if_neg (show ¬ (LSt (aC a)).1 = 151 by omega), if_pos (show nI 0 = (0 : Int32) from rfl), if_pos e, (a3.2 e).1]
      · rw [if_pos (show (LSt (aC a)).1 = 151 by omega), if_neg (show ¬ nI 1 = 0 by decide), if_neg e]
    obtain ⟨σ', b1, b2, b3, b4⟩ := c_d123 w hB 0 (by omega) FU (by have := FU_b; omega) σ1 (h.fr a2 (by simp)) ⟨a4, hk.2.1.fr a2 (by simp), hk.2.2.fr a2 (by simp)⟩
    rw [show nI 0 = (0 : Int32) from rfl, Nat.mul_zero, mxD, dg2, dg1] at b1
    refine ⟨σ', ?_, b2, b3, fun o ho => (b4 o ho).trans (a2.toC (by simp) o ho)⟩
    rw [f_X8_digest_33, h.1.q_k, if_pos (by rw [z_le (by omega) (by omega)]; omega), a1, z_bi, hso, z_bi, hco, z_bi]
    dsimp only
    exact b1
  · intro i hi ih n hn'
    obtain ⟨n, rfl⟩ : ∃ m, n = m + 1 := ⟨n - 1, by omega⟩
    have k := c_d47 h w (mxD (fTo a) 10 2459) (fun e13 e14 σ15 => f_X8_digest_33 n e13 (e14 + 1) σ15) hi 0 (by omega) FU (by have := FU_b; omega)
    rw [show nI 0 = (0 : Int32) from rfl, Nat.add_zero] at k
    obtain ⟨σ', b1, b2⟩ := ih n (by omega)
    refine ⟨σ', ?_, b2⟩
    rw [f_X8_digest_33, h.1.q_k, if_neg (by rw [z_le (by omega) (by omega)]; omega), k]
    show f_X8_digest_33 n _ (nI i + nI 1) σ = _
    rw [z_add]; exact b1
theorem c_digest {a : AS} {σ : HS} (h : IC a σ) (w : WA a) (hk : KC3 (aC a) σ) {L : Nat} {T : Nat → Nat} (hB : BE (aC a) L T) : ∃ σ', f_X8_digest σ = some (dg5 a L, σ') ∧ IC a σ' ∧ KC3 (aC a) σ' ∧ frC σ σ' := by
  have key : ∀ k, k ≤ 10 → ∀ n, 10 < k + n → ∃ σ', f_X8_digest_6 n (mxD (fTo a) k 2459) (nI k) σ = some (dg5 a L, σ') ∧ IC a σ' ∧ KC3 (aC a) σ' ∧ frC σ σ' := by
    refine dn_ind ?_ ?_
    · intro n hn'
      obtain ⟨n, rfl⟩ : ∃ m, n = m + 1 := ⟨n - 1, by omega⟩
      obtain ⟨σ', b1, b2⟩ := c_d33 h w hk hB 0 (by omega) FU (by have := FU_b; have := w.1.p_k; omega)
      rw [show nI 0 = (0 : Int32) from rfl] at b1
      refine ⟨σ', ?_, b2⟩
      rw [f_X8_digest_6, if_pos (show (9 : Int32) < nI 10 by decide)]
      exact b1
    · intro k hk' ih n hn'
      obtain ⟨n, rfl⟩ : ∃ m, n = m + 1 := ⟨n - 1, by omega⟩
      obtain ⟨σ', b1, b2⟩ := ih n (by omega)
      refine ⟨σ', ?_, b2⟩
      rw [f_X8_digest_6, if_neg (by rw [z_lit, z_lt (by omega) (by omega)]; omega), c_figure h (by omega), z_bi, show nI k + 1 = nI (k + 1) from z_add k 1]
      exact b1
  have k := key 0 (by omega) FU (by have := FU_b; omega)
  rw [show nI 0 = (0 : Int32) from rfl] at k
  rw [f_X8_digest]; exact k
-- the reference
theorem m_mix (v : Int32) (σ : HS) : ∃ σ', f_X9_mix v σ = some σ' ∧ σ'.1 = σ.1 ∧ σ'.2 67 24 = 31 * σ.2 67 24 + v.toInt64 := by
  refine ⟨_, rfl, rfl, ?_⟩
  rw [s_L1]; unfold vp_updL; rw [if_pos rfl]
theorem IM.e1 {a : AS} {σ σ' : HS} (h : IM a σ) (e : σ'.1 = σ.1) : IM a σ' := h.fr (l := []) (fun o _ => by rw [e]) (by simp)
theorem KCm.e1 {c : Cf} {σ σ' : HS} (h : KCm c σ) (e : σ'.1 = σ.1) : KCm c σ' := h.fr (l := []) (fun o _ => by rw [e]) (by simp)
theorem frM.e1 {σ σ' : HS} (e : σ'.1 = σ.1) : frM σ σ' := fun o _ => by rw [e]
