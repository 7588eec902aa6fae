-- the class's classes
def sgk (c : Cf) (h t : Nat) : Nat → Nat → Nat
  | 0, a => a
  | k + 1, a => if h &&& hm c k = 0 then sgk c h t k a else sgk c h t k a ||| 1 <<< (t * 5 + k)
def sgt (c : Cf) (x : Nat) : Nat → Nat
  | 0 => 0
  | t + 1 => sgk c (psd x t) t (c 0) (sgt c x t)
def sg (c : Cf) (x : Nat) : Nat := sgt c x 4
theorem sgk_lt {c : Cf} {h t : Nat} (ht : t < 4) : ∀ k, k ≤ 5 → ∀ a, a < 2 ^ 20 → sgk c h t k a < 2 ^ 20 := by
  intro k
  induction k with
  | zero => intro _ a ha; exact ha
  | succ k ih =>
    intro hk a ha
    rw [sgk]
    split
    · exact ih (by omega) a ha
    · refine Nat.or_lt_two_pow (ih (by omega) a ha) ?_
      rw [Nat.one_shiftLeft]
      exact Nat.pow_lt_pow_right (by omega) (by omega)
theorem sgt_lt {c : Cf} (w : WF c) (x : Nat) : ∀ t, t ≤ 4 → sgt c x t < 2 ^ 20 := by
  have hk := w.p_k
  intro t
  induction t with
  | zero => intro _; rw [sgt]; decide
  | succ t ih => intro ht; rw [sgt]; exact sgk_lt (by omega) _ hk _ (ih (by omega))
theorem sg_lt {c : Cf} (w : WF c) (x : Nat) : sg c x < 1048576 := sgt_lt w x 4 (by omega)
theorem c_clashesOf {c : Cf} (w : WF c) {σ : HS} (hs : SR c 1 σ) {x : Nat} (hx : x < 4096) : f_X1_clashesOf 1 (nI x) σ = some (nI (sg c x), σ) := by
  have hk := w.p_k
  have k19 : ∀ (k : Int32 → Int32 → Int32 → HS → Option (Int32 × HS)) (t a : Nat), t < 4 → a < 2 ^ 20 → ∀ j, j ≤ c 0 → ∀ n, c 0 < j + n → f_X1_clashesOf_19 1 k n (nI x) (nI (sgk c (psd x t) t j a)) (nI t) (nI (psd x t)) (nI j) σ = k (nI x) (nI (sgk c (psd x t) t (c 0) a)) (nI t) σ := by
    intro k t a ht ha
    refine dn_ind ?_ ?_
    · intro n hn'
      obtain ⟨n, rfl⟩ : ∃ m, n = m + 1 := ⟨n - 1, by omega⟩
      rw [f_X1_clashesOf_19, hs.q_k, if_pos (by rw [z_le (by omega) (by omega)]; omega)]
    · intro j hj ih n hn'
      obtain ⟨n, rfl⟩ : ∃ m, n = m + 1 := ⟨n - 1, by omega⟩
      have hb := hm_b w hj
      have ba : psd x t &&& hm c j ≤ hm c j := Nat.and_le_right
      have ih := ih n (by omega)
      rw [sgk] at ih
      rw [f_X1_clashesOf_19, hs.q_k, if_neg (by rw [z_le (by omega) (by omega)]; omega), z_ld (by omega) (by omega), z_bi, hs.q_h j hj, z_and, show (1 : Int32) = nI 1 from rfl, show (5 : Int32) = nI 5 from rfl, show (31 : Int32) = nI 31 from rfl, z_mul, z_add, z_add, z_31 (by omega), z_shl _ (by omega), z_or]
      by_cases e : psd x t &&& hm c j = 0
      · rw [if_pos (by rw [e]; rfl)]; rw [if_pos e] at ih; exact ih
      · rw [if_neg (by rw [z_0, z_eq (by omega) (by omega)]; exact e)]; rw [if_neg e] at ih; exact ih
  have k4 : ∀ t, t ≤ 4 → ∀ n, 4 < t + n → f_X1_clashesOf_4 1 n (nI x) (nI (sgt c x t)) (nI t) σ = some (nI (sg c x), σ) := by
    refine dn_ind ?_ ?_
    · intro n hn'
      obtain ⟨n, rfl⟩ : ∃ m, n = m + 1 := ⟨n - 1, by omega⟩
      rw [f_X1_clashesOf_4, if_pos (show (4 : Int32) ≤ nI 4 by decide)]
      rfl
    · intro t ht ih n hn'
      obtain ⟨n, rfl⟩ : ∃ m, n = m + 1 := ⟨n - 1, by omega⟩
      rw [f_X1_clashesOf_4, if_neg (by rw [z_lit, z_le (by omega) (by omega)]; omega), c_passed hx (by omega), z_bi]
      have k := k19 (fun e3 e4 e5 σ6 => f_X1_clashesOf_4 1 n e3 e4 (e5 + 1) σ6) t (sgt c x t) ht (sgt_lt w x t (by omega)) 0 (by omega) FU (by have := FU_b; omega)
      rw [show sgk c (psd x t) t 0 (sgt c x t) = sgt c x t from rfl, show nI 0 = (0 : Int32) from rfl] at k
      rw [k]
      show f_X1_clashesOf_4 1 n (nI x) _ (nI t + nI 1) σ = _
      rw [z_add]
      exact ih n (by omega)
  have k := k4 0 (by omega) FU (by have := FU_b; omega)
  rw [show sgt c x 0 = 0 from rfl, show nI 0 = (0 : Int32) from rfl] at k
  rw [f_X1_clashesOf]
  exact k
/-- the signatures of a list, and how many differ -/
def sgs (c : Cf) (p : SL) (i : Nat) : Nat := sg c (p.2 i)
def ncl (c : Cf) (p : SL) (n : Nat) : Nat := fb_ct (fun s => decide (ixF (sgs c p) (sgs c p s) s = s)) n
theorem c_isFirst {G : Nat → Nat} {σ : HS} {s : Nat} (hs : s < 150) (hG : ∀ i, i ≤ s → G i < 1048576 ∧ σ.1 40 i = nI (G i)) : f_X1_isFirstOfClass (nI s) σ = some (nI (b2 (decide (ixF G (G s) s = s))), σ) := by
  have hl := ixF_le G (G s) s
  have key : ∀ i, i ≤ ixF G (G s) s → ∀ n, ixF G (G s) s < i + n → f_X1_isFirstOfClass_2 n (nI s) (nI i) σ = some (nI (b2 (decide (ixF G (G s) s = s))), σ) := by
    refine dn_ind ?_ ?_
    · intro n hn'
      obtain ⟨n, rfl⟩ : ∃ m, n = m + 1 := ⟨n - 1, by omega⟩
      rw [f_X1_isFirstOfClass_2]
      by_cases e : ixF G (G s) s < s
      · rw [if_neg (by rw [z_le (by omega) (by omega)]; omega), z_ld (by omega) (by omega), z_bi, z_ld (by omega) (by omega), z_bi, (hG _ (by omega)).2, (hG s (by omega)).2, ixF_at _ e, if_pos rfl]
        simp [show ¬ ixF G (G s) s = s by omega]; rfl
      · rw [if_pos (by rw [z_le (by omega) (by omega)]; omega)]
        simp [show ixF G (G s) s = s by omega]; rfl
    · intro i hi ih n hn'
      obtain ⟨n, rfl⟩ : ∃ m, n = m + 1 := ⟨n - 1, by omega⟩
      have b1 := (hG i (by omega)).1
      have b2 := (hG s (by omega)).1
      rw [f_X1_isFirstOfClass_2, if_neg (by rw [z_le (by omega) (by omega)]; omega), z_ld (by omega) (by omega), z_bi, z_ld (by omega) (by omega), z_bi, (hG i (by omega)).2, (hG s (by omega)).2, if_neg (by rw [z_eq (by omega) (by omega)]; exact ixF_no _ i hi), show (1 : Int32) = nI 1 from rfl, z_add]
      exact ih n (by omega)
  have k := key 0 (by omega) FU (by have := FU_b; omega)
  rw [show nI 0 = (0 : Int32) from rfl] at k
  rw [f_X1_isFirstOfClass]
  exact k
theorem c_tellClasses {c : Cf} (w : WF c) {p : SL} (hg : GD p) (hp : p.1 ≤ 150) {σ : HS} (hs : SR c 1 σ) (hl : LC p σ) : ∃ σ', f_X1_tellClasses 1 σ = some σ' ∧ fr [38, 40] σ σ' ∧ LC p σ' ∧ σ'.1 38 4 = nI (ncl c p p.1) ∧ ∀ i, i < p.1 → σ'.1 40 i = nI (sgs c p i) := by
  have em : mn p.1 = p.1 := by unfold mn; omega
  have key : ∀ s, s ≤ p.1 → ∀ n, p.1 < s + n → ∀ σ, SR c 1 σ → LC p σ → σ.1 38 4 = nI (ncl c p s) → (∀ i, i < s → σ.1 40 i = nI (sgs c p i)) → ∃ σ', f_X1_tellClasses_7 1 n (nI s) σ = some σ' ∧ fr [38, 40] σ σ' ∧ LC p σ' ∧ σ'.1 38 4 = nI (ncl c p p.1) ∧ ∀ i, i < p.1 → σ'.1 40 i = nI (sgs c p i) := by
    refine dn_ind ?_ ?_
    · intro n hn' σ hs hl h4 hG
      obtain ⟨n, rfl⟩ : ∃ m, n = m + 1 := ⟨n - 1, by omega⟩
      refine ⟨σ, ?_, fr.rf _ _, hl, h4, hG⟩
      rw [f_X1_tellClasses_7, hl.1, em, if_pos (by rw [z_le (by omega) (by omega)]; omega)]
    · intro s hs' ih n hn' σ hs hl h4 hG
      obtain ⟨n, rfl⟩ : ∃ m, n = m + 1 := ⟨n - 1, by omega⟩
      have hx := hg.2.1 s hs'
      have f1 : fr [38, 40] σ (sI σ 40 s (nI (sgs c p s))) := fr.sI (by simp)
      have l1 : LC p (sI σ 40 s (nI (sgs c p s))) := hl.fr (l := [40]) (fr.sI (by simp)) (by simp)
      have G1 : ∀ i, i < s + 1 → (sI σ 40 s (nI (sgs c p s))).1 40 i = nI (sgs c p i) := by
        intro i hi
        rw [s_I1]; unfold upd
        by_cases e : i = s
        · rw [if_pos e, e]
        · rw [if_neg e]; exact hG i (by omega)
      rw [f_X1_tellClasses_7, hl.1, em, if_neg (by rw [z_le (by omega) (by omega)]; omega), z_ld (by omega) (by omega), z_bi, hl.2.2.1 s (by omega), c_clashesOf w hs hx, z_bi, z_st (by omega) (by omega), z_bi]
      rw [show sg c (p.2 s) = sgs c p s from rfl, c_isFirst (G := sgs c p) (by omega) (fun i hi => ⟨sg_lt w _, G1 i (by omega)⟩), z_bi]
      have nc : ncl c p (s + 1) = ncl c p s + (if decide (ixF (sgs c p) (sgs c p s) s = s) = true then 1 else 0) := by unfold ncl; rw [fb_ct_succ]
      have h4' : (sI σ 40 s (nI (sgs c p s))).1 38 4 = nI (ncl c p s) := by rw [s_I2 _ _ _ (by omega)]; exact h4
      cases q : decide (ixF (sgs c p) (sgs c p s) s = s) with
      | false =>
        rw [q, if_neg (by decide), Nat.add_zero] at nc
        rw [if_pos (show nI (b2 false) = 0 from rfl), show (1 : Int32) = nI 1 from rfl, z_add]
        obtain ⟨σ', a1, a2, a3⟩ := ih n (by omega) _ (hs.fr f1 (by simp)) l1 (by rw [nc]; exact h4') G1
        exact ⟨σ', a1, f1.tr a2, a3⟩
      | true =>
        rw [q, if_pos rfl] at nc
        rw [if_neg (show ¬ nI (b2 true) = 0 by decide), show (1 : Int32) = nI 1 from rfl, z_add]
        show ∃ σ', f_X1_tellClasses_7 1 n (nI (s + 1)) (sI (sI σ 40 s (nI (sgs c p s))) 38 4 ((sI σ 40 s (nI (sgs c p s))).1 38 4 + nI 1)) = _ ∧ _
        rw [h4', z_add]
        have f2 : fr [38, 40] σ (sI (sI σ 40 s (nI (sgs c p s))) 38 4 (nI (ncl c p s + 1))) := f1.tr (fr.sI (by simp))
        obtain ⟨σ', a1, a2, a3⟩ := ih n (by omega) (sI (sI σ 40 s (nI (sgs c p s))) 38 4 (nI (ncl c p s + 1))) (hs.fr f2 (by simp)) (by
          obtain ⟨m1, m2, m3, m4⟩ := l1
          refine ⟨?_, ?_, ?_, ?_⟩
          · rw [s_I1, u_2 _ _ (by omega)]; exact m1
          · rw [s_I1, u_2 _ _ (by omega)]; exact m2
          · intro i hi; rw [s_I2 _ _ _ (by omega)]; exact m3 i hi
          · intro y hy; rw [s_I2 _ _ _ (by omega)]; exact m4 y hy) (by rw [s_I1, u_1, nc]) (fun i hi => by rw [s_I2 _ _ _ (by omega)]; exact G1 i hi)
        exact ⟨σ', a1, f2.tr a2, a3⟩
  have f0 : fr [38, 40] σ (sI σ 38 4 0) := fr.sI (by simp)
  obtain ⟨σ', a1, a2, a3⟩ := key 0 (by omega) FU (by have := FU_b; omega) (sI σ 38 4 0) (hs.fr f0 (by simp)) (by
    obtain ⟨m1, m2, m3, m4⟩ := hl
    refine ⟨?_, ?_, ?_, ?_⟩
    · rw [s_I1, u_2 _ _ (by omega)]; exact m1
    · rw [s_I1, u_2 _ _ (by omega)]; exact m2
    · intro i hi; rw [s_I2 _ _ _ (by omega)]; exact m3 i hi
    · intro y hy; rw [s_I2 _ _ _ (by omega)]; exact m4 y hy) (by rw [s_I1, u_1]; rfl) (fun i hi => by omega)
  rw [show nI 0 = (0 : Int32) from rfl] at a1
  exact ⟨σ', by rw [f_X1_tellClasses]; exact a1, f0.tr a2, a3⟩
/-- what the class knows of its states -/
def COK (c : Cf) (σ : HS) : Prop := LC (LSt c) σ ∧ ((LSt c).1 ≤ 150 → σ.1 38 4 = nI (ncl c (LSt c) (LSt c).1) ∧ ∀ i, i < (LSt c).1 → σ.1 40 i = nI (sgs c (LSt c) i))
def KCc (c : Cf) (σ : HS) : Prop := CB σ ∧ (σ.1 38 6 = 0 ∨ (σ.1 38 6 = 1 ∧ COK c σ))
theorem c_chart {c : Cf} (w : WF c) {σ : HS} (hs : SR c 1 σ) (hk : KCc c σ) : ∃ σ', f_X1_learn 1 σ = some σ' ∧ fr [38, 39, 40, 41] σ σ' ∧ COK c σ' ∧ KCc c σ' := by
  have hg := exS_GD w 151
  rw [f_X1_learn]
  rcases hk with ⟨hb, e | ⟨e, ho⟩⟩
  · rw [if_pos e]
    obtain ⟨σ1, a1, a2, a3⟩ := c_forgetStates hb
    obtain ⟨σ2, b1, b2, b3⟩ := c_findStates w (hs.fr a2 (by simp)) a3
    have f2 : fr [38, 39, 40, 41] σ σ2 := (a2.up (by simp)).tr (b2.up (by simp))
    rw [a1, z_bi, b1, z_bi, b3.2.1]
    have lc6 : ∀ τ, LC (LSt c) τ → LC (LSt c) (sI τ 38 6 1) := by
      intro τ ⟨m1, m2, m3, m4⟩
      refine ⟨?_, ?_, ?_, ?_⟩
      · rw [s_I1, u_2 _ _ (by omega)]; exact m1
      · rw [s_I1, u_2 _ _ (by omega)]; exact m2
      · intro i hi; rw [s_I2 _ _ _ (by omega)]; exact m3 i hi
      · intro y hy; rw [s_I2 _ _ _ (by omega)]; exact m4 y hy
    by_cases e2 : (LSt c).1 = 151
    · rw [if_pos e2, if_neg (show ¬ nI 1 = 0 by decide)]
      have ok : COK c (sI σ2 38 6 1) := ⟨lc6 _ b3, fun q => by omega⟩
      exact ⟨_, rfl, f2.tr (fr.sI (by simp)), ok, ok.1.CB hg, Or.inr ⟨by rw [s_I1, u_1], ok⟩⟩
    · rw [if_neg e2, if_pos (show nI 0 = (0 : Int32) from rfl)]
      have h150 : (LSt c).1 ≤ 150 := by have : (LSt c).1 ≤ 151 := hg.1; omega
      obtain ⟨σ3, d1, d2, d3, d4, d5⟩ := c_tellClasses w hg h150 (hs.fr f2 (by simp)) b3
      rw [d1, z_bi]
      have ok : COK c (sI σ3 38 6 1) := ⟨lc6 _ d3, fun _ => ⟨by rw [s_I1, u_2 _ _ (by omega)]; exact d4, fun i hi => by rw [s_I2 _ _ _ (by omega)]; exact d5 i hi⟩⟩
      exact ⟨_, rfl, (f2.tr (d2.up (by simp))).tr (fr.sI (by simp)), ok, ok.1.CB hg, Or.inr ⟨by rw [s_I1, u_1], ok⟩⟩
  · rw [if_neg (by rw [e]; decide)]
    exact ⟨σ, rfl, fr.rf _ _, ho, hb, Or.inr ⟨e, ho⟩⟩
