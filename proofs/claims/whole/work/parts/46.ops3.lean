-- the class's side of the orders
def CP (c' : Cf) (s : Nat) (σ σ' : HS) : Prop := SR c' s σ' ∧ fr (sc s) σ σ'
theorem hm_lt {a b d : Nat} (ha : a < 16) (hb : b < 16) (hd : d < 16) : (a ||| b <<< 4) ||| d <<< 8 < 4096 := by
  have e1 : b <<< 4 < 2 ^ 8 := by rw [Nat.shiftLeft_eq]; omega
  have e2 : d <<< 8 < 2 ^ 12 := by rw [Nat.shiftLeft_eq]; omega
  exact Nat.or_lt_two_pow (n := 12) (Nat.lt_of_lt_of_le (Nat.or_lt_two_pow (n := 8) (by omega) e1) (by decide)) e2
theorem c_addKind {c : Cf} {s : Nat} {σ : HS} (h : SR c s σ) (w : WF c) (a b d l : Int32) : ∃ σ', f_X6_addKind s a b d l σ = some ((opK a b d l c).1, σ') ∧ CP (opK a b d l c).2 s σ σ' := by
  have h1 := w.p_k
  rw [f_X6_addKind]
  simp only [c_isHold, z_bi, z_lit, b2_0]
  unfold opK
  rw [show decide (0 ≤ a.toInt ∧ a.toInt ≤ 15) = okR 0 15 a from rfl, show decide (0 ≤ b.toInt ∧ b.toInt ≤ 15) = okR 0 15 b from rfl, show decide (0 ≤ d.toInt ∧ d.toInt ≤ 15) = okR 0 15 d from rfl]
  have hrf : CP c s σ σ := ⟨h, fr.rf _ _⟩
  by_cases ha : okR 0 15 a = true
  · by_cases hb : okR 0 15 b = true
    · by_cases hd : okR 0 15 d = true
      · simp only [ha, hb, hd, Bool.true_eq_false, if_false, Bool.true_and]
        simp (disch := omega) only [z_ltI, z_leI, z_ti]
        by_cases hl : okR 1 5 l = true
        · obtain ⟨a', a1, a2, a3, a4, a5⟩ := okR_nI (lo := 0) (hi := 15) ha
          obtain ⟨b', b1, b2', b3, b4, b5⟩ := okR_nI (lo := 0) (hi := 15) hb
          obtain ⟨d', d1, d2, d3, d4, d5⟩ := okR_nI (lo := 0) (hi := 15) hd
          obtain ⟨l', l1, l2, l3, l4, l5⟩ := okR_nI (lo := 1) (hi := 5) hl
          have hl2 := okR_t.mp hl
          rw [a5, b5, d5, l5]
          simp only [hl, if_true, h.q_k]
          simp (disch := omega) only [z_ti]
          rw [if_neg (by omega), if_pos (by omega)]
          by_cases e : c 0 = 5
          · rw [if_neg (by omega)]
            simp only [e, if_true]
            exact ⟨σ, rfl, hrf⟩
          · rw [if_pos (by omega)]
            simp only [e, if_false]
            rw [a4, b4, d4, l4]
            simp (disch := omega) only [z_31, z_shl, z_or, z_st, z_bi]
            simp (disch := omega) only [s_I1, s_I2, u_1, h.q_k, z_st, z_bi, z_add, z_sub]
            refine ⟨_, rfl, ?_, ?_⟩
            · refine ⟨?_, ?_, ?_, ?_, ?_, ?_, ?_, ?_⟩
              · rw [s_I1, u_1, cu_1]
              · rw [s_I1, u_2 _ _ (by omega), s_I2 _ _ _ (by omega), s_I2 _ _ _ (by omega), h.q_n]
                simp (disch := omega) only [cu_2]
              · rw [s_I1, u_2 _ _ (by omega), s_I2 _ _ _ (by omega), s_I2 _ _ _ (by omega), h.q_w]
                simp (disch := omega) only [cu_2]
              · rw [s_I1, u_2 _ _ (by omega), s_I2 _ _ _ (by omega), s_I2 _ _ _ (by omega), h.q_r]
                simp (disch := omega) only [cu_2]
              · intro k hk
                rw [cu_1] at hk
                rw [s_I2 _ _ _ (by omega), s_I2 _ _ _ (by omega), s_I1]
                by_cases ek : k = c 0
                · subst ek
                  rw [u_1]
                  congr 1
                  unfold hm ka
                  simp (disch := omega) only [Nat.add_zero, cu_2, cu_1]
                · rw [u_2 _ _ ek, h.q_h k (by omega)]
                  congr 1
                  unfold hm ka
                  simp (disch := omega) only [cu_2]
              · intro k hk
                rw [cu_1] at hk
                rw [s_I2 _ _ _ (by omega), s_I1]
                by_cases ek : k = c 0
                · subst ek
                  rw [u_1]
                  congr 1
                  unfold kl
                  simp (disch := omega) only [cu_2, cu_1]
                · rw [u_2 _ _ ek, s_I2 _ _ _ (by omega), h.q_l k (by omega)]
                  congr 1
                  unfold kl
                  simp (disch := omega) only [cu_2]
              · intro i hi
                have hi' : i < c 23 := by
                  have : cu (cu (cu (cu (cu c (1 + 4 * c 0) a') (1 + 4 * c 0 + 1) b') (1 + 4 * c 0 + 2) d') (1 + 4 * c 0 + 3) l') 0 (c 0 + 1) 23 = c 23 := by simp (disch := omega) only [cu_2]
                  omega
                rw [s_I2 _ _ _ (by omega), s_I2 _ _ _ (by omega), s_I2 _ _ _ (by omega), h.q_o i hi']
                congr 1
                unfold ko
                have := w.p_n
                simp (disch := omega) only [cu_2]
              · intro m hm'
                rw [s_I2 _ _ _ (by omega), s_I2 _ _ _ (by omega), s_I2 _ _ _ (by omega), h.q_s m hm']
                congr 1
                simp (disch := omega) only [cu_2]
            · exact ((fr.sI (by simp)).tr (fr.sI (by simp))).tr (fr.sI (by simp))
        · have hl' : okR 1 5 l = false := by simpa using hl
          have hl2 := okR_f.mp hl'
          simp only [hl', Bool.false_eq_true, if_false]
          by_cases q1 : l.toInt < (1 : Nat)
          · rw [if_pos q1]
            exact ⟨σ, rfl, hrf⟩
          · rw [if_neg q1, if_neg (by omega)]
            exact ⟨σ, rfl, hrf⟩
      · have hd' : okR 0 15 d = false := by simpa using hd
        simp only [ha, hb, hd', Bool.true_eq_false, if_false, if_true, Bool.and_false, Bool.false_and, Bool.false_eq_true]
        exact ⟨σ, rfl, hrf⟩
    · have hb' : okR 0 15 b = false := by simpa using hb
      simp only [ha, hb', Bool.true_eq_false, if_false, if_true, Bool.and_false, Bool.false_and, Bool.false_eq_true]
      exact ⟨σ, rfl, hrf⟩
  · have ha' : okR 0 15 a = false := by simpa using ha
    simp only [ha', if_true, Bool.false_and, Bool.false_eq_true, if_false]
    exact ⟨σ, rfl, hrf⟩
theorem SR_sub {c c' : Cf} {s : Nat} {σ σ' : HS} (h : SR c s σ) (w : WF c) (hf : fr [s] σ σ') (h4 : σ'.1 s 4 = nI (c' 0)) (h5 : σ'.1 s 5 = nI (c' 23)) (h6 : σ'.1 s 6 = nI (c' 21)) (h7 : σ'.1 s 7 = nI (c' 22)) (hc : ∀ k, k ≠ 21 → k ≠ 22 → c' k = c k) : CP c' s σ σ' := by
  have hk := w.p_k
  have e1 := hf (s + 1) (by simp)
  have e2 := hf (s + 2) (by simp)
  have e3 := hf (s + 3) (by simp)
  have e4 := hf (s + 4) (by simp)
  have e0 := hc 0 (by omega) (by omega)
  have e23 := hc 23 (by omega) (by omega)
  refine ⟨⟨h4, h5, h6, h7, ?_, ?_, ?_, ?_⟩, hf.up (by simp)⟩
  · intro k hk'
    rw [e1, h.q_h k (by omega)]
    congr 1
    unfold hm ka
    rw [hc _ (by omega) (by omega), hc _ (by omega) (by omega), hc _ (by omega) (by omega)]
  · intro k hk'
    rw [e2, h.q_l k (by omega)]
    congr 1
    unfold kl
    rw [hc _ (by omega) (by omega)]
  · intro i hi
    rw [e3, h.q_o i (by omega)]
    congr 1
    unfold ko
    rw [hc _ (by omega) (by omega)]
  · intro m hm'
    rw [e4, h.q_s m hm', hc _ (by omega) (by omega)]
theorem SR_w {c : Cf} {s : Nat} {σ : HS} (h : SR c s σ) (w : WF c) (v : Nat) : CP (cu c 21 v) s σ (sI σ s 6 (nI v)) := by
  refine SR_sub h w (fr.sI (by simp)) ?_ ?_ ?_ ?_ (fun k h1 h2 => cu_2 _ _ h1)
  · rw [s_I1, u_2 _ _ (by omega), h.q_k]; rfl
  · rw [s_I1, u_2 _ _ (by omega), h.q_n]; rfl
  · rw [s_I1, u_1]; rfl
  · rw [s_I1, u_2 _ _ (by omega), h.q_r]; rfl
theorem SR_r {c : Cf} {s : Nat} {σ : HS} (h : SR c s σ) (w : WF c) (v : Nat) : CP (cu c 22 v) s σ (sI σ s 7 (nI v)) := by
  refine SR_sub h w (fr.sI (by simp)) ?_ ?_ ?_ ?_ (fun k h1 h2 => cu_2 _ _ h2)
  · rw [s_I1, u_2 _ _ (by omega), h.q_k]; rfl
  · rw [s_I1, u_2 _ _ (by omega), h.q_n]; rfl
  · rw [s_I1, u_2 _ _ (by omega), h.q_w]; rfl
  · rw [s_I1, u_1]; rfl
theorem c_change26 {c : Cf} {s : Nat} {σ : HS} (h : SR c s σ) (w : WF c) (x v : Int32) (hx : ¬ (x = 0 ∧ okR 1 3 v = true)) : ∃ σ', f_X6_change_26 s x v σ = some ((opS x v c).1, σ') ∧ CP (opS x v c).2 s σ σ' := by
  rw [f_X6_change_26]
  unfold opS
  rw [if_neg hx, h.q_r]
  have hrf : CP c s σ σ := ⟨h, fr.rf _ _⟩
  by_cases e1 : x = 1
  · simp only [e1, if_true, true_and]
    by_cases q0 : v = 0
    · subst q0
      rw [if_pos rfl, if_pos (by decide)]
      exact ⟨_, rfl, SR_r h w 0⟩
    · rw [if_neg q0]
      by_cases q1 : v = 1
      · subst q1
        rw [if_pos rfl, if_pos (by decide)]
        exact ⟨_, rfl, SR_r h w 1⟩
      · rw [if_neg q1, if_neg]
        · exact ⟨_, rfl, hrf⟩
        · intro hh
          obtain ⟨n, a1, a2, a3, a4, a5⟩ := okR_nI (lo := 0) (hi := 1) hh
          rcases (show n = 0 ∨ n = 1 by omega) with r | r
          · exact q0 (by rw [a4, r]; rfl)
          · exact q1 (by rw [a4, r]; rfl)
  · simp only [e1, if_false, false_and]
    exact ⟨_, rfl, hrf⟩
theorem c_change {c : Cf} {s : Nat} {σ : HS} (h : SR c s σ) (w : WF c) (x v : Int32) : ∃ σ', f_X6_change s x v σ = some ((opS x v c).1, σ') ∧ CP (opS x v c).2 s σ σ' := by
  rw [f_X6_change]
  by_cases e0 : x = 0
  · rw [if_pos e0]
    simp only [z_ltI]
    show ∃ σ', (if v.toInt < 1 then _ else if (3 : Int) < v.toInt then _ else _) = _ ∧ _
    by_cases q1 : v.toInt < 1
    · rw [if_pos q1]
      exact c_change26 h w x v (fun hh => by have := okR_t.mp hh.2; omega)
    · rw [if_neg q1]
      by_cases q2 : (3 : Int) < v.toInt
      · rw [if_pos q2]
        exact c_change26 h w x v (fun hh => by have := okR_t.mp hh.2; omega)
      · rw [if_neg q2]
        have ok : okR 1 3 v = true := okR_t.mpr ⟨by omega, by omega⟩
        obtain ⟨n, a1, a2, a3, a4, a5⟩ := okR_nI (lo := 1) (hi := 3) ok
        unfold opS
        rw [if_pos ⟨e0, ok⟩, h.q_w, a5]
        refine ⟨_, rfl, ?_⟩
        rw [a4]
        exact SR_w h w n
  · rw [if_neg e0]
    exact c_change26 h w x v (fun hh => e0 hh.1)
theorem c_addInstruction {c : Cf} {s : Nat} {σ : HS} (h : SR c s σ) (w : WF c) (x : Int32) : ∃ σ', f_X6_addInstruction s x σ = some ((opI x c).1, σ') ∧ CP (opI x c).2 s σ σ' := by
  have h1 := w.p_n
  have hk := w.p_k
  rw [f_X6_addInstruction, c_hasKind h w]
  unfold opI
  simp (disch := omega) only [z_lit, z_bi, b2_0, h.q_n, z_lt]
  have hrf : CP c s σ σ := ⟨h, fr.rf _ _⟩
  by_cases ok : 0 ≤ x.toInt ∧ x.toInt < (c 0 : Int)
  · obtain ⟨n, a, b, d⟩ := z_of (v := x) ok.1
    have e1 : decide (0 ≤ x.toInt ∧ x.toInt < (c 0 : Int)) = true := by simpa using ok
    simp only [e1, Bool.true_eq_false, if_false, if_pos ok]
    by_cases e : c 23 = 6
    · rw [if_neg (by omega)]
      simp only [e, if_true]
      exact ⟨σ, rfl, hrf⟩
    · rw [if_pos (by omega)]
      simp only [e, if_false]
      rw [show x.toInt.toNat = n by omega, b]
      simp (disch := omega) only [s_I1, s_I2, u_1, h.q_n, z_st, z_bi, z_add, z_sub]
      refine ⟨_, rfl, ⟨?_, ?_, ?_, ?_, ?_, ?_, ?_, ?_⟩, ?_⟩
      · simp (disch := omega) only [s_I1, s_I2, u_1, u_2, h.q_k, cu_2]
      · simp (disch := omega) only [s_I1, s_I2, u_1, u_2, cu_1]
      · simp (disch := omega) only [s_I1, s_I2, u_1, u_2, h.q_w, cu_2]
      · simp (disch := omega) only [s_I1, s_I2, u_1, u_2, h.q_r, cu_2]
      · intro k hk'
        have hk' : k < c 0 := by
          have e : cu (cu c (24 + c 23) n) 23 (c 23 + 1) 0 = c 0 := by simp (disch := omega) only [cu_2]
          omega
        simp (disch := omega) only [s_I1, s_I2, u_1, u_2, h.q_h]
        congr 1
        unfold hm ka
        simp (disch := omega) only [cu_2]
      · intro k hk'
        have hk' : k < c 0 := by
          have e : cu (cu c (24 + c 23) n) 23 (c 23 + 1) 0 = c 0 := by simp (disch := omega) only [cu_2]
          omega
        simp (disch := omega) only [s_I1, s_I2, u_1, u_2, h.q_l]
        congr 1
        unfold kl
        simp (disch := omega) only [cu_2]
      · intro i hi
        rw [cu_1] at hi
        simp (disch := omega) only [s_I1, s_I2]
        by_cases ei : i = c 23
        · subst ei
          rw [u_1]
          congr 1
          unfold ko
          simp (disch := omega) only [cu_2, cu_1]
        · rw [u_2 _ _ ei, h.q_o i (by omega)]
          congr 1
          unfold ko
          simp (disch := omega) only [cu_2]
      · intro m hm'
        simp (disch := omega) only [s_I1, s_I2, h.q_s]
        congr 1
        simp (disch := omega) only [cu_2]
      · exact (fr.sI (by simp)).tr (fr.sI (by simp))
  · have e1 : decide (0 ≤ x.toInt ∧ x.toInt < (c 0 : Int)) = false := by simpa using ok
    simp only [e1, if_true, if_neg ok]
    exact ⟨σ, rfl, hrf⟩
theorem SR_s {c : Cf} {s : Nat} {σ : HS} (h : SR c s σ) (w : WF c) {m v : Nat} (hm' : m < 36) : CP (cu c (30 + m) v) s σ (sI σ (s + 4) m (nI v)) := by
  have h1 := w.p_n
  have hk := w.p_k
  refine ⟨⟨?_, ?_, ?_, ?_, ?_, ?_, ?_, ?_⟩, fr.sI (by simp)⟩
  · simp (disch := omega) only [s_I2, h.q_k, cu_2]
  · simp (disch := omega) only [s_I2, h.q_n, cu_2]
  · simp (disch := omega) only [s_I2, h.q_w, cu_2]
  · simp (disch := omega) only [s_I2, h.q_r, cu_2]
  · intro k hk'
    rw [cu_2 _ _ (by omega)] at hk'
    simp (disch := omega) only [s_I2, h.q_h]
    congr 1
    unfold hm ka
    simp (disch := omega) only [cu_2]
  · intro k hk'
    rw [cu_2 _ _ (by omega)] at hk'
    simp (disch := omega) only [s_I2, h.q_l]
    congr 1
    unfold kl
    simp (disch := omega) only [cu_2]
  · intro i hi
    rw [cu_2 _ _ (by omega)] at hi
    simp (disch := omega) only [s_I2, h.q_o]
    congr 1
    unfold ko
    simp (disch := omega) only [cu_2]
  · intro m' hm''
    rw [s_I1]
    by_cases e : m' = m
    · subst e; rw [u_1, cu_1]
    · rw [u_2 _ _ e, h.q_s m' hm'', cu_2 _ _ (by omega)]
theorem c_changeNeed {c : Cf} {s : Nat} {σ : HS} (h : SR c s σ) (w : WF c) (x y so : Int32) : ∃ σ', f_X6_changeNeed s x y so σ = some ((opN x y so c).1, σ') ∧ CP (opN x y so c).2 s σ σ' := by
  have h1 := w.p_n
  have hrf : CP c s σ σ := ⟨h, fr.rf _ _⟩
  rw [f_X6_changeNeed, c_hasInstruction h w]
  simp only [z_bi, z_lit, b2_0]
  rw [c_hasInstruction h w]
  simp only [z_bi, b2_0]
  unfold opN
  rw [show decide (0 ≤ x.toInt ∧ x.toInt < (c 23 : Int)) = isI c x from rfl, show decide (0 ≤ y.toInt ∧ y.toInt < (c 23 : Int)) = isI c y from rfl]
  by_cases hx : isI c x = true
  · by_cases hy : isI c y = true
    · simp only [hx, hy, Bool.true_eq_false, if_false, Bool.true_and]
      by_cases e : x = y
      · simp only [e, if_true, decide_true, Bool.not_true, Bool.false_and, Bool.false_eq_true, if_false]
        exact ⟨σ, rfl, hrf⟩
      · simp only [e, if_false, decide_false, Bool.not_false, Bool.true_and]
        by_cases hs : okR 0 2 so = true
        · obtain ⟨i, i1, i2, i3, i4⟩ := isI_nI hx
          obtain ⟨j, j1, j2, j3, j4⟩ := isI_nI hy
          obtain ⟨sv, s1, s2, s3, s4, s5⟩ := okR_nI (lo := 0) (hi := 2) hs
          rw [i4, j4, s5]
          simp only [hs, if_true]
          rw [i3, j3, s4]
          simp (disch := omega) only [z_lt, z_le, z_0, z_eq, ne_eq]
          rw [if_neg (by omega), if_pos (by omega)]
          have hw : ∃ σ', f_X6_changeNeed_49 s (nI i) (nI j) (nI sv) σ = some (nI (nd c i j), σ') ∧ CP (cu c (30 + 6 * i + j) sv) s σ σ' := by
            rw [f_X6_changeNeed_49]
            simp (disch := omega) only [c_pair, z_bi, z_ld, h.q_nd, z_st]
            refine ⟨_, rfl, ?_⟩
            rw [show 30 + 6 * i + j = 30 + (i * 6 + j) by omega]
            exact SR_s h w (by omega)
          by_cases e0 : sv = 0
          · simp only [e0, if_true, not_true_eq_false, false_and, if_false]
            rw [e0] at hw
            exact hw
          · rw [if_neg e0, c_reaches h w j1 i1]
            simp only [z_bi, b2_0, e0, not_false_eq_true, true_and]
            cases hr : (rdN c (1 <<< j) (c 23)).testBit i with
            | false =>
              simp only [if_true, Bool.false_eq_true, if_false]
              exact hw
            | true =>
              simp only [Bool.true_eq_false, if_false, if_true]
              exact ⟨σ, rfl, hrf⟩
        · have hs' : okR 0 2 so = false := by simpa using hs
          have hs2 := okR_f.mp hs'
          simp only [hs', Bool.false_eq_true, if_false]
          simp (disch := omega) only [z_ltI, z_leI, z_ti]
          by_cases q1 : so.toInt < (0 : Nat)
          · rw [if_pos q1]
            exact ⟨σ, rfl, hrf⟩
          · rw [if_neg q1, if_neg (by omega)]
            exact ⟨σ, rfl, hrf⟩
    · have hy' : isI c y = false := by simpa using hy
      simp only [hx, hy', Bool.true_eq_false, if_false, if_true, Bool.and_false, Bool.false_and, Bool.false_eq_true]
      exact ⟨σ, rfl, hrf⟩
  · have hx' : isI c x = false := by simpa using hx
    simp only [hx', if_true, Bool.false_and, Bool.false_eq_true, if_false]
    exact ⟨σ, rfl, hrf⟩
