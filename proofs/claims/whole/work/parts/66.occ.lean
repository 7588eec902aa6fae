-- units held twice
def CL (c : Cf) (i ti j tj : Nat) : Prop := ∃ u, u < 3 ∧ ∃ s, (ti ≤ s ∧ (hu c i u).testBit (s - ti) = true) ∧ (tj ≤ s ∧ (hu c j u).testBit (s - tj) = true)
theorem CL.sym {c : Cf} {i ti j tj : Nat} (h : CL c i ti j tj) : CL c j tj i ti := by
  obtain ⟨u, h1, s, h2, h3⟩ := h
  exact ⟨u, h1, s, h3, h2⟩
def clb (c : Cf) (i ti j tj : Nat) : Bool := if ti ≤ tj then decide (tj - ti < 4) && (cl c i j).testBit (3 + (tj - ti)) else decide (ti - tj < 4) && (cl c i j).testBit (3 - (ti - tj))
theorem psd_and {c : Cf} (w : WF c) {i j : Nat} (hi : i < c 23) (hj : j < c 23) (d : Nat) : psd (hm c (ko c i)) d &&& hm c (ko c j) ≠ 0 ↔ ∃ u, u < 3 ∧ ∃ t, (hu c i u).testBit (t + d) = true ∧ (hu c j u).testBit t = true := by
  have h1 := psd_lt (hm_b w (w.p_ko hi)) d
  have h2 : psd (hm c (ko c i)) d &&& hm c (ko c j) ≤ psd (hm c (ko c i)) d := Nat.and_le_left
  rw [m12_ne (by omega)]
  constructor
  · rintro ⟨u, t, u1, t1, q⟩
    rw [Nat.testBit_and, psd_bit _ _ _ _ u1 t1, Bool.and_eq_true, Bool.and_eq_true, decide_eq_true_eq] at q
    obtain ⟨⟨q1, q2⟩, q3⟩ := q
    rw [show 4 * u + t + d = 4 * u + (t + d) by omega, hm_u w hi u1 q1] at q2
    rw [hm_u w hj u1 t1] at q3
    exact ⟨u, u1, t, q2, q3⟩
  · rintro ⟨u, u1, t, q2, q3⟩
    have l1 : t + d < 4 := by
      rcases Nat.lt_or_ge (t + d) 4 with g | g
      · exact g
      · rw [hu_b w hi u1 g] at q2; cases q2
    refine ⟨u, t, u1, by omega, ?_⟩
    rw [Nat.testBit_and, psd_bit _ _ _ _ u1 (by omega), Bool.and_eq_true, Bool.and_eq_true, decide_eq_true_eq, show 4 * u + t + d = 4 * u + (t + d) by omega, hm_u w hi u1 l1, hm_u w hj u1 (by omega)]
    exact ⟨⟨l1, q2⟩, q3⟩
theorem clb_CL {c : Cf} (w : WF c) {i j : Nat} (hi : i < c 23) (hj : j < c 23) (ti tj : Nat) : clb c i ti j tj = true ↔ CL c i ti j tj := by
  unfold clb cl
  by_cases e : ti ≤ tj
  · rw [if_pos e, Bool.and_eq_true, decide_eq_true_eq]
    constructor
    · rintro ⟨h1, h2⟩
      rw [clF_bit _ _ (by omega), if_pos (by omega), decide_eq_true_eq, show 3 + (tj - ti) - 3 = tj - ti by omega, psd_and w hi hj] at h2
      obtain ⟨u, u1, t, t1, t2⟩ := h2
      exact ⟨u, u1, tj + t, ⟨by omega, by rw [show tj + t - ti = t + (tj - ti) by omega]; exact t1⟩, by omega, by rw [show tj + t - tj = t by omega]; exact t2⟩
    · rintro ⟨u, u1, s, ⟨s1, s2⟩, s3, s4⟩
      have l1 : s - ti < 4 := by
        rcases Nat.lt_or_ge (s - ti) 4 with g | g
        · exact g
        · rw [hu_b w hi u1 g] at s2; cases s2
      refine ⟨by omega, ?_⟩
      rw [clF_bit _ _ (by omega), if_pos (by omega), decide_eq_true_eq, show 3 + (tj - ti) - 3 = tj - ti by omega, psd_and w hi hj]
      exact ⟨u, u1, s - tj, by rw [show s - tj + (tj - ti) = s - ti by omega]; exact s2, s4⟩
  · rw [if_neg e, Bool.and_eq_true, decide_eq_true_eq]
    constructor
    · rintro ⟨h1, h2⟩
      rw [clF_bit _ _ (by omega), if_neg (by omega), decide_eq_true_eq, show 3 - (3 - (ti - tj)) = ti - tj by omega, Nat.and_comm, psd_and w hj hi] at h2
      obtain ⟨u, u1, t, t1, t2⟩ := h2
      exact ⟨u, u1, ti + t, ⟨by omega, by rw [show ti + t - ti = t by omega]; exact t2⟩, by omega, by rw [show ti + t - tj = t + (ti - tj) by omega]; exact t1⟩
    · rintro ⟨u, u1, s, ⟨s1, s2⟩, s3, s4⟩
      have l1 : s - tj < 4 := by
        rcases Nat.lt_or_ge (s - tj) 4 with g | g
        · exact g
        · rw [hu_b w hj u1 g] at s4; cases s4
      refine ⟨by omega, ?_⟩
      rw [clF_bit _ _ (by omega), if_neg (by omega), decide_eq_true_eq, show 3 - (3 - (ti - tj)) = ti - tj by omega, Nat.and_comm, psd_and w hj hi]
      exact ⟨u, u1, s - ti, by rw [show s - ti + (ti - tj) = s - tj by omega]; exact s4, s2⟩
theorem cl_lt {c : Cf} (i j : Nat) : cl c i j < 128 := by
  unfold cl
  have g : ∀ (p : Prop) [Decidable p] (s : Nat), s < 7 → (if p then 0 else 1 <<< s) < 2 ^ 7 := by
    intro p _ s hs
    split
    · decide
    · rw [Nat.one_shiftLeft]; exact Nat.pow_lt_pow_right (by omega) hs
  simp only [clF]
  exact Nat.or_lt_two_pow (n := 7) (Nat.or_lt_two_pow (n := 7) (Nat.or_lt_two_pow (n := 7) (Nat.or_lt_two_pow (n := 7) (Nat.or_lt_two_pow (n := 7) (Nat.or_lt_two_pow (n := 7) (Nat.or_lt_two_pow (n := 7) (Nat.or_lt_two_pow (n := 7) (by decide) (g _ _ (by omega))) (g _ _ (by omega))) (g _ _ (by omega))) (g _ _ (by omega))) (g _ _ (by omega))) (g _ _ (by omega))) (g _ _ (by omega))) (g _ _ (by omega))
theorem z_nsub {a b : Nat} (h : a < b) : nI a - nI b = -nI (b - a) := by
  rw [← z_sub (Nat.le_of_lt h), Int32.neg_sub]
theorem c_clashes {c : Cf} {σ : HS} (hb : BOK c σ) (w : WF c) {i j ti tj : Nat} (hi : i < c 23) (hj : j < c 23) (hti : ti < 1000) (htj : tj < 1000) : f_X0_clashes (nI i) (nI ti) (nI j) (nI tj) σ = some (nI (b2 (clb c i ti j tj)), σ) := by
  have hn := w.p_n
  have hl := cl_lt (c := c) i j
  have fin : ∀ d : Nat, d < 7 → ((f_X8_pair (nI i) (nI j) σ).bind fun q1 => (ldI (q1.2.1 48) 36 q1.1).bind fun v2 => if ((v2 >>> (nI d &&& 31)) &&& 1) = 0 then some (0, q1.2) else some (1, q1.2)) = some (nI (b2 ((cl c i j).testBit d)), σ) := by
    intro d hd
    rw [c_pair, z_bi]
    simp (disch := omega) only [z_ld, z_bi]
    rw [hb.2.2.2.2.2.2.2 i j hi hj]
    show (if (nI (cl c i j) >>> (nI d &&& nI 31)) &&& nI 1 = nI 0 then _ else _) = _
    by_cases e : (cl c i j).testBit d = false
    · rw [if_pos ((bit_if _ _ (by omega) (by omega)).mpr e), e]; rfl
    · rw [if_neg (fun q => e ((bit_if _ _ (by omega) (by omega)).mp q)), show (cl c i j).testBit d = true by simpa using e]; rfl
  rw [f_X0_clashes]
  unfold clb
  by_cases e : ti ≤ tj
  · rw [if_pos e, z_sub e, if_neg (by rw [z_leI, z_ti (by omega)]; show ¬ ((tj - ti : Nat) : Int) ≤ -4; omega)]
    by_cases g : 4 ≤ tj - ti
    · rw [if_pos (by rw [z_lit, z_le (by omega) (by omega)]; exact g)]
      simp [show ¬ tj - ti < 4 by omega]; rfl
    · rw [if_neg (by rw [z_lit, z_le (by omega) (by omega)]; exact g)]
      rw [show nI (tj - ti) + 4 - 1 = nI (3 + (tj - ti)) by
        show nI (tj - ti) + nI 4 - nI 1 = _
        rw [z_add, z_sub (by omega)]; congr 1; omega]
      rw [fin _ (by omega)]
      simp [show tj - ti < 4 by omega]
  · rw [if_neg e, z_nsub (by omega)]
    by_cases g : 4 ≤ ti - tj
    · rw [if_pos (by rw [z_leI, z_neg (by omega)]; show -((ti - tj : Nat) : Int) ≤ -4; omega)]
      simp [show ¬ ti - tj < 4 by omega]; rfl
    · rw [if_neg (by rw [z_leI, z_neg (by omega)]; show ¬ -((ti - tj : Nat) : Int) ≤ -4; omega), if_neg (by rw [z_leI, z_neg (by omega)]; show ¬ (4 : Int) ≤ -((ti - tj : Nat) : Int); omega)]
      have ed : ∀ d, 1 ≤ d → d < 4 → -nI d + 4 - 1 = nI (3 - d) := by
        intro d h1 h2
        rcases (show d = 1 ∨ d = 2 ∨ d = 3 by omega) with rfl | rfl | rfl <;> decide
      rw [ed _ (by omega) (by omega), fin _ (by omega)]
      simp [show ti - tj < 4 by omega]
