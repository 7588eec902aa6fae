theorem WF_K {c : Cf} (w : WF c) (a b d l : Int32) : WF (opK a b d l c).2 := by
  unfold opK
  by_cases ok : (okR 0 15 a && okR 0 15 b && okR 0 15 d && okR 1 5 l) = true
  · rw [if_pos ok]
    by_cases e : c 0 = 5
    · rw [if_pos e]; exact w
    · rw [if_neg e]
      simp only [Bool.and_eq_true] at ok
      obtain ⟨⟨⟨ha, hb⟩, hd⟩, hl⟩ := ok
      obtain ⟨a', a1, a2, a3, a4, a5⟩ := okR_nI (lo := 0) (hi := 15) ha
      obtain ⟨b', b1, b2', b3, b4, b5⟩ := okR_nI (lo := 0) (hi := 15) hb
      obtain ⟨d', d1, d2, d3, d4, d5⟩ := okR_nI (lo := 0) (hi := 15) hd
      obtain ⟨l', l1, l2, l3, l4, l5⟩ := okR_nI (lo := 1) (hi := 5) hl
      rw [a5, b5, d5, l5]
      have h1 := w.p_k
      generalize hc : cu (cu (cu (cu (cu c (1 + 4 * c 0) a') (1 + 4 * c 0 + 1) b') (1 + 4 * c 0 + 2) d') (1 + 4 * c 0 + 3) l') 0 (c 0 + 1) = c'
      have e0 : c' 0 = c 0 + 1 := by rw [← hc, cu_1]
      have eH : ∀ k, 21 ≤ k → c' k = c k := fun k hk => by rw [← hc]; simp (disch := omega) only [cu_2]
      have eL : ∀ k, 1 ≤ k → k < 1 + 4 * c 0 → c' k = c k := fun k h1 h2 => by rw [← hc]; simp (disch := omega) only [cu_2]
      have n0 : c' (1 + 4 * c 0) = a' := by rw [← hc]; simp (disch := omega) only [cu_2, cu_1]
      have n1 : c' (1 + 4 * c 0 + 1) = b' := by rw [← hc]; simp (disch := omega) only [cu_2, cu_1]
      have n2 : c' (1 + 4 * c 0 + 2) = d' := by rw [← hc]; simp (disch := omega) only [cu_2, cu_1]
      have n3 : c' (1 + 4 * c 0 + 3) = l' := by rw [← hc]; simp (disch := omega) only [cu_2, cu_1]
      have hn := w.p_n
      show WF c'
      refine ⟨by omega, ?_, ?_, by rw [eH 21 (by omega)]; exact w.p_wd, by rw [eH 22 (by omega)]; exact w.p_rn, by rw [eH 23 (by omega)]; exact w.p_n, ?_, ?_, ?_, ?_, ?_⟩
      · intro k hk u hu'
        rw [e0] at hk
        unfold ka
        by_cases ek : k = c 0
        · subst ek
          rcases (show u = 0 ∨ u = 1 ∨ u = 2 by omega) with rfl | rfl | rfl
          · rw [Nat.add_zero, n0]; omega
          · rw [n1]; omega
          · rw [n2]; omega
        · rw [eL _ (by omega) (by omega)]
          exact w.p_ka (by omega) hu'
      · intro k hk
        rw [e0] at hk
        unfold kl
        by_cases ek : k = c 0
        · subst ek; rw [n3]; omega
        · rw [eL _ (by omega) (by omega)]
          exact w.p_kl (by omega)
      · intro i hi
        rw [eH 23 (by omega)] at hi
        unfold ko
        rw [eH _ (by omega), e0]
        have := w.p_ko hi
        unfold ko at this
        omega
      · intro i j hi hj
        unfold nd
        rw [eH _ (by omega)]
        exact w.p_nd hi hj
      · intro i j hi hj hz
        unfold nd
        rw [eH 23 (by omega)] at hz
        rw [eH _ (by omega)]
        exact w.p_nz hi hj hz
      · obtain ⟨r, hr⟩ := w.p_rk
        refine ⟨r, fun i j hi hj hz => hr i j hi hj ?_⟩
        unfold nd at hz ⊢
        rw [eH _ (by omega)] at hz
        exact hz
      · intro k
        rw [← hc]
        unfold cu
        have := w.p_sm k
        repeat' split
        all_goals omega
  · rw [if_neg ok]; exact w
theorem WF_hi {c c' : Cf} (w : WF c) (h : ∀ k, k ≠ 21 → k ≠ 22 → c' k = c k) (h21 : 1 ≤ c' 21 ∧ c' 21 ≤ 3) (h22 : c' 22 ≤ 1) : WF c' := by
  have h1 := w.p_k
  have hn := w.p_n
  have e0 := h 0 (by omega) (by omega)
  have e23 := h 23 (by omega) (by omega)
  refine ⟨by omega, ?_, ?_, h21, h22, by omega, ?_, ?_, ?_, ?_, ?_⟩
  · intro k hk u hu'
    unfold ka
    rw [h _ (by omega) (by omega)]
    exact w.p_ka (by omega) hu'
  · intro k hk
    unfold kl
    rw [h _ (by omega) (by omega)]
    exact w.p_kl (by omega)
  · intro i hi
    unfold ko
    rw [h _ (by omega) (by omega), e0]
    exact w.p_ko (by omega)
  · intro i j hi hj
    unfold nd
    rw [h _ (by omega) (by omega)]
    exact w.p_nd hi hj
  · intro i j hi hj hz
    unfold nd
    rw [e23] at hz
    rw [h _ (by omega) (by omega)]
    exact w.p_nz hi hj hz
  · obtain ⟨r, hr⟩ := w.p_rk
    refine ⟨r, fun i j hi hj hz => hr i j hi hj ?_⟩
    unfold nd at hz ⊢
    rw [h _ (by omega) (by omega)] at hz
    exact hz
  · intro k
    by_cases e1 : k = 21
    · subst e1; omega
    · by_cases e2 : k = 22
      · subst e2; omega
      · rw [h k e1 e2]; exact w.p_sm k
theorem WF_S {c : Cf} (w : WF c) (x v : Int32) : WF (opS x v c).2 := by
  unfold opS
  by_cases q1 : x = 0 ∧ okR 1 3 v = true
  · rw [if_pos q1]
    obtain ⟨n, a1, a2, a3, a4, a5⟩ := okR_nI (lo := 1) (hi := 3) q1.2
    rw [a5]
    show WF (cu c 21 n)
    exact WF_hi w (fun k h1 h2 => cu_2 _ _ h1) (by rw [cu_1]; omega) (by rw [cu_2 _ _ (by omega)]; exact w.p_rn)
  · rw [if_neg q1]
    by_cases q2 : x = 1 ∧ okR 0 1 v = true
    · rw [if_pos q2]
      obtain ⟨n, a1, a2, a3, a4, a5⟩ := okR_nI (lo := 0) (hi := 1) q2.2
      rw [a5]
      show WF (cu c 22 n)
      exact WF_hi w (fun k h1 h2 => cu_2 _ _ h2) (by rw [cu_2 _ _ (by omega)]; exact w.p_wd) (by rw [cu_1]; omega)
    · rw [if_neg q2]; exact w
theorem WF_I {c : Cf} (w : WF c) (x : Int32) : WF (opI x c).2 := by
  unfold opI
  by_cases ok : 0 ≤ x.toInt ∧ x.toInt < (c 0 : Int)
  · rw [if_pos ok]
    by_cases e : c 23 = 6
    · rw [if_pos e]; exact w
    · rw [if_neg e]
      have h1 := w.p_k
      have hn := w.p_n
      generalize hx : x.toInt.toNat = n
      have hnk : n < c 0 := by omega
      generalize hc : cu (cu c (24 + c 23) n) 23 (c 23 + 1) = c'
      have e23 : c' 23 = c 23 + 1 := by rw [← hc, cu_1]
      have eN : c' (24 + c 23) = n := by rw [← hc]; simp (disch := omega) only [cu_2, cu_1]
      have eO : ∀ k, k ≠ 23 → k ≠ 24 + c 23 → c' k = c k := fun k a b => by rw [← hc]; simp (disch := omega) only [cu_2]
      have e0 := eO 0 (by omega) (by omega)
      show WF c'
      refine ⟨by omega, ?_, ?_, by rw [eO 21 (by omega) (by omega)]; exact w.p_wd, by rw [eO 22 (by omega) (by omega)]; exact w.p_rn, by omega, ?_, ?_, ?_, ?_, ?_⟩
      · intro k hk u hu'
        unfold ka
        rw [eO _ (by omega) (by omega)]
        exact w.p_ka (by omega) hu'
      · intro k hk
        unfold kl
        rw [eO _ (by omega) (by omega)]
        exact w.p_kl (by omega)
      · intro i hi
        unfold ko
        by_cases ei : i = c 23
        · subst ei; rw [eN, e0]; exact hnk
        · rw [eO _ (by omega) (by omega), e0]
          exact w.p_ko (by omega)
      · intro i j hi hj
        unfold nd
        rw [eO _ (by omega) (by omega)]
        exact w.p_nd hi hj
      · intro i j hi hj hz
        unfold nd
        rw [e23] at hz
        rw [eO _ (by omega) (by omega)]
        exact w.p_nz hi hj (by omega)
      · obtain ⟨r, hr⟩ := w.p_rk
        refine ⟨r, fun i j hi hj hz => hr i j hi hj ?_⟩
        unfold nd at hz ⊢
        rw [eO _ (by omega) (by omega)] at hz
        exact hz
      · intro k
        by_cases e1 : k = 23
        · subst e1; omega
        · by_cases e2 : k = 24 + c 23
          · subst e2; rw [eN]; omega
          · rw [eO k e1 e2]; exact w.p_sm k
  · rw [if_neg ok]; exact w
theorem rdN_ge (c : Cf) (S n j : Nat) (h : S.testBit j = true) : (rdN c S n).testBit j = true := by
  induction n with
  | zero => exact h
  | succ n ih => exact rdF_ge c _ _ j ih
theorem WF_nd {c : Cf} (w : WF c) {i j so : Nat} (hi : i < c 23) (hj : j < c 23) (hij : i ≠ j) (hs : so ≤ 2) (hr : so = 0 ∨ (rdN c (1 <<< j) (c 23)).testBit i = false) : WF (cu c (30 + 6 * i + j) so) := by
  have h1 := w.p_k
  have hn := w.p_n
  generalize hc : cu c (30 + 6 * i + j) so = c'
  have eN : nd c' i j = so := by unfold nd; rw [← hc, cu_1]
  have eO : ∀ k, k < 30 → c' k = c k := fun k a => by rw [← hc, cu_2 _ _ (by omega)]
  have eD : ∀ a b, a < 6 → b < 6 → ¬ (a = i ∧ b = j) → nd c' a b = nd c a b := fun a b ha hb hab => by
    unfold nd; rw [← hc, cu_2 _ _ (by omega)]
  refine ⟨by rw [eO 0 (by omega)]; exact h1, ?_, ?_, by rw [eO 21 (by omega)]; exact w.p_wd, by rw [eO 22 (by omega)]; exact w.p_rn, by rw [eO 23 (by omega)]; exact hn, ?_, ?_, ?_, ?_, ?_⟩
  · intro k hk u hu'
    rw [eO 0 (by omega)] at hk
    unfold ka
    rw [eO _ (by omega)]
    exact w.p_ka hk hu'
  · intro k hk
    rw [eO 0 (by omega)] at hk
    unfold kl
    rw [eO _ (by omega)]
    exact w.p_kl hk
  · intro a ha
    rw [eO 23 (by omega)] at ha
    unfold ko
    rw [eO _ (by omega), eO 0 (by omega)]
    exact w.p_ko ha
  · intro a b ha hb
    by_cases q : a = i ∧ b = j
    · rw [q.1, q.2, eN]; exact hs
    · rw [eD a b ha hb q]; exact w.p_nd ha hb
  · intro a b ha hb hz
    rw [eO 23 (by omega)] at hz
    rw [eD a b ha hb (by omega)]
    exact w.p_nz ha hb hz
  · obtain ⟨r, hr'⟩ := w.p_rk
    rcases hr with hr | hr
    · refine ⟨r, fun a b ha hb hz => hr' a b ha hb ?_⟩
      by_cases q : a = i ∧ b = j
      · exfalso; apply hz; rw [q.1, q.2, eN, hr]
      · rw [eD a b ha hb q] at hz; exact hz
    · have hS : 1 <<< j < 2 ^ c 23 := by rw [Nat.one_shiftLeft]; exact Nat.pow_lt_pow_right (by omega) hj
      have hj1 : (rdN c (1 <<< j) (c 23)).testBit j = true := rdN_ge c _ _ j (by rw [Nat.one_shiftLeft, Nat.testBit_two_pow_self])
      refine ⟨fun x => r x + (if (rdN c (1 <<< j) (c 23)).testBit x then 0 else r j + 1), fun a b ha hb hz => ?_⟩
      by_cases q : a = i ∧ b = j
      · obtain ⟨rfl, rfl⟩ := q
        simp only [hj1, hr, if_true, Bool.false_eq_true, if_false]
        omega
      · rw [eD a b ha hb q] at hz
        have h2 := hr' a b ha hb hz
        have ha' : a < c 23 := by
          rcases Nat.lt_or_ge a (c 23) with q | q
          · exact q
          · exact absurd (w.p_nz ha hb (Or.inl q)) hz
        have hb' : b < c 23 := by
          rcases Nat.lt_or_ge b (c 23) with q | q
          · exact q
          · exact absurd (w.p_nz ha hb (Or.inr (Or.inl q))) hz
        cases hA : (rdN c (1 <<< j) (c 23)).testBit a with
        | true =>
          have := rd_closed (rdN_rest hS) ha' hb' hA hz
          simp only [hA, this, if_true]
          omega
        | false =>
          simp only [hA, Bool.false_eq_true, if_false]
          split <;> omega
  · intro k
    rw [← hc]
    unfold cu
    have := w.p_sm k
    split <;> omega
theorem WF_N {c : Cf} (w : WF c) (x y so : Int32) : WF (opN x y so c).2 := by
  unfold opN
  by_cases ok : (isI c x && isI c y && !decide (x = y) && okR 0 2 so) = true
  · rw [if_pos ok]
    simp only [Bool.and_eq_true, Bool.not_eq_true', decide_eq_false_iff_not] at ok
    obtain ⟨⟨⟨hx, hy⟩, hne⟩, hs⟩ := ok
    obtain ⟨i, i1, i2, i3, i4⟩ := isI_nI hx
    obtain ⟨j, j1, j2, j3, j4⟩ := isI_nI hy
    obtain ⟨sv, s1, s2, s3, s4, s5⟩ := okR_nI (lo := 0) (hi := 2) hs
    rw [i4, j4, s5]
    by_cases q : so ≠ 0 ∧ (rdN c (1 <<< j) (c 23)).testBit i = true
    · rw [if_pos q]; exact w
    · rw [if_neg q]
      refine WF_nd w i1 j1 (fun e => hne (by rw [i3, j3, e])) s2 ?_
      by_cases e : so = 0
      · left
        rw [s4, z_0, z_eq (by omega) (by omega)] at e
        exact e
      · right
        cases hb : (rdN c (1 <<< j) (c 23)).testBit i with
        | false => rfl
        | true => exact absurd ⟨e, hb⟩ q
  · rw [if_neg ok]; exact w
theorem WF_D {c : Cf} (w : WF c) (x : Int32) : WF (opD x c).2 := by
  unfold opD
  by_cases hx : isI c x = true
  · rw [if_pos hx]
    obtain ⟨g, g1, g2, g3, g4⟩ := isI_nI hx
    rw [g4]
    have h1 := w.p_k
    have hn := w.p_n
    have eL : ∀ k, k < 23 → drC g c k = c k := fun k hk => by unfold drC; rw [if_neg (by omega), if_neg (by omega), if_neg (by omega)]
    have e23 : drC g c 23 = c 23 - 1 := by unfold drC; rw [if_pos rfl]
    have eD : ∀ a b, a < 6 → b < 6 → nd (drC g c) a b = if (if g ≤ a then a + 1 else a) < 6 ∧ (if g ≤ b then b + 1 else b) < 6 then nd c (if g ≤ a then a + 1 else a) (if g ≤ b then b + 1 else b) else 0 := fun a b ha hb => drC_at g c ha hb
    show WF (drC g c)
    refine ⟨by rw [eL 0 (by omega)]; exact h1, ?_, ?_, by rw [eL 21 (by omega)]; exact w.p_wd, by rw [eL 22 (by omega)]; exact w.p_rn, by omega, ?_, ?_, ?_, ?_, ?_⟩
    · intro k hk u hu'
      rw [eL 0 (by omega)] at hk
      unfold ka
      rw [eL _ (by omega)]
      exact w.p_ka hk hu'
    · intro k hk
      rw [eL 0 (by omega)] at hk
      unfold kl
      rw [eL _ (by omega)]
      exact w.p_kl hk
    · intro i hi
      rw [e23] at hi
      rw [eL 0 (by omega)]
      unfold ko drC
      by_cases q : g ≤ i
      · rw [if_neg (by omega), if_pos (by omega)]
        exact w.p_ko (i := i + 1) (by omega)
      · rw [if_neg (by omega), if_neg (by omega), if_neg (by omega)]
        exact w.p_ko (by omega)
    · intro a b ha hb
      rw [eD a b ha hb]
      by_cases q : (if g ≤ a then a + 1 else a) < 6 ∧ (if g ≤ b then b + 1 else b) < 6
      · rw [if_pos q]; exact w.p_nd q.1 q.2
      · rw [if_neg q]; omega
    · intro a b ha hb hz
      rw [e23] at hz
      by_cases hab : a = b
      · subst hab
        rw [eD a a ha ha]
        by_cases q : (if g ≤ a then a + 1 else a) < 6 ∧ (if g ≤ a then a + 1 else a) < 6
        · rw [if_pos q]
          exact w.p_nz q.1 q.2 (Or.inr (Or.inr rfl))
        · rw [if_neg q]
      · exact drC_z w g1 ha hb (by omega)
    · obtain ⟨r, hr⟩ := w.p_rk
      refine ⟨fun x => r (if g ≤ x then x + 1 else x), fun a b ha hb hz => ?_⟩
      rw [eD a b ha hb] at hz
      by_cases q : (if g ≤ a then a + 1 else a) < 6 ∧ (if g ≤ b then b + 1 else b) < 6
      · rw [if_pos q] at hz
        exact hr _ _ q.1 q.2 hz
      · rw [if_neg q] at hz
        exact absurd rfl hz
    · intro k
      by_cases q0 : 30 ≤ k ∧ k < 66
      · have := drC_at g c (show (k - 30) / 6 < 6 by omega) (show (k - 30) % 6 < 6 by omega)
        rw [show 30 + 6 * ((k - 30) / 6) + (k - 30) % 6 = k by omega] at this
        rw [this]
        by_cases q : (if g ≤ (k - 30) / 6 then (k - 30) / 6 + 1 else (k - 30) / 6) < 6 ∧ (if g ≤ (k - 30) % 6 then (k - 30) % 6 + 1 else (k - 30) % 6) < 6
        · rw [if_pos q]; exact w.p_sm _
        · rw [if_neg q]; omega
      · by_cases q1 : k = 23
        · subst q1; rw [e23]; have := w.p_sm 23; omega
        · unfold drC
          rw [if_neg q1]
          by_cases q2 : 24 + g ≤ k ∧ k < 29
          · rw [if_pos q2]; exact w.p_sm _
          · rw [if_neg q2, if_neg q0]; exact w.p_sm _
  · rw [if_neg hx]; exact w
/-- what an order answers: refused, nothing changed; or a small number -/
def okA (c : Cf) (r : Int32 × Cf) : Prop := ((r.1 = -2 ∨ r.1 = -3 ∨ r.1 = -4) ∧ r.2 = c) ∨ ∃ n, n < 100 ∧ r.1 = nI n
theorem okA_K {c : Cf} (w : WF c) (a b d l : Int32) : okA c (opK a b d l c) := by
  unfold opK
  split
  · split
    · exact Or.inl ⟨Or.inr (Or.inr rfl), rfl⟩
    · exact Or.inr ⟨_, w.p_sm 0, rfl⟩
  · exact Or.inl ⟨Or.inl rfl, rfl⟩
theorem okA_S {c : Cf} (w : WF c) (x v : Int32) : okA c (opS x v c) := by
  unfold opS
  split
  · exact Or.inr ⟨_, w.p_sm 21, rfl⟩
  · split
    · exact Or.inr ⟨_, w.p_sm 22, rfl⟩
    · exact Or.inl ⟨Or.inl rfl, rfl⟩
theorem okA_I {c : Cf} (w : WF c) (x : Int32) : okA c (opI x c) := by
  unfold opI
  split
  · split
    · exact Or.inl ⟨Or.inr (Or.inr rfl), rfl⟩
    · exact Or.inr ⟨_, w.p_sm 23, rfl⟩
  · exact Or.inl ⟨Or.inl rfl, rfl⟩
theorem okA_N {c : Cf} (w : WF c) (x y so : Int32) : okA c (opN x y so c) := by
  unfold opN
  split
  · split
    · exact Or.inl ⟨Or.inr (Or.inl rfl), rfl⟩
    · exact Or.inr ⟨_, w.p_sm _, rfl⟩
  · exact Or.inl ⟨Or.inl rfl, rfl⟩
theorem okA_D {c : Cf} (w : WF c) (x : Int32) : okA c (opD x c) := by
  unfold opD
  split
  · exact Or.inr ⟨_, by have := w.p_sm 23; omega, rfl⟩
  · exact Or.inl ⟨Or.inl rfl, rfl⟩
