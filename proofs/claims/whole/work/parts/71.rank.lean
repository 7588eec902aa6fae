-- rows by ranks: the sort
def shf (wt : Nat → Nat) (i : Nat) : Nat → (Nat → Nat) → Nat → Nat
  | 0, O => un O 0 i
  | p + 1, O => if wt i ≤ wt (O p) then un O (p + 1) i else shf wt i p (un O (p + 1) (O p))
def ord (wt : Nat → Nat) : Nat → Nat → Nat
  | 0 => fun _ => 0
  | i + 1 => shf wt i i (ord wt i)
theorem shf_b (wt : Nat → Nat) (i B : Nat) (hi : i < B) : ∀ p O, p ≤ i → (∀ j, j ≤ i → j ≠ p → O j < B) → ∀ j, j ≤ i → shf wt i p O j < B := by
  intro p
  induction p with
  | zero =>
    intro O _ h j hj
    rw [shf]; unfold un
    by_cases e : j = 0
    · rw [if_pos e]; exact hi
    · rw [if_neg e]; exact h j hj e
  | succ p ih =>
    intro O hp h j hj
    rw [shf]
    by_cases q : wt i ≤ wt (O p)
    · rw [if_pos q]; unfold un
      by_cases e : j = p + 1
      · rw [if_pos e]; exact hi
      · rw [if_neg e]; exact h j hj e
    · rw [if_neg q]
      refine ih _ (by omega) (fun j hj he => ?_) j hj
      unfold un
      by_cases e : j = p + 1
      · rw [if_pos e]; exact h p (by omega) (by omega)
      · rw [if_neg e]; exact h j hj e
theorem shf_m (wt : Nat → Nat) (i x : Nat) : ∀ p O, p ≤ i → (x = i ∨ ∃ j, j ≤ i ∧ j ≠ p ∧ O j = x) → ∃ j, j ≤ i ∧ shf wt i p O j = x := by
  intro p
  induction p with
  | zero =>
    intro O _ h
    rw [shf]
    rcases h with h | ⟨j, j1, j2, j3⟩
    · exact ⟨0, by omega, by unfold un; rw [if_pos rfl, h]⟩
    · exact ⟨j, j1, by unfold un; rw [if_neg j2, j3]⟩
  | succ p ih =>
    intro O hp h
    rw [shf]
    by_cases q : wt i ≤ wt (O p)
    · rw [if_pos q]
      rcases h with h | ⟨j, j1, j2, j3⟩
      · exact ⟨p + 1, hp, by unfold un; rw [if_pos rfl, h]⟩
      · exact ⟨j, j1, by unfold un; rw [if_neg j2, j3]⟩
    · rw [if_neg q]
      refine ih _ (by omega) ?_
      rcases h with h | ⟨j, j1, j2, j3⟩
      · exact Or.inl h
      · right
        by_cases e : j = p
        · exact ⟨p + 1, hp, by omega, by unfold un; rw [if_pos rfl, ← e, j3]⟩
        · exact ⟨j, j1, e, by unfold un; rw [if_neg j2, j3]⟩
theorem ord_b (wt : Nat → Nat) : ∀ i j, j < i → ord wt i j < i := by
  intro i
  induction i with
  | zero => intro j hj; omega
  | succ i ih =>
    intro j hj
    rw [ord]
    exact shf_b wt i (i + 1) (by omega) i _ (by omega) (fun j h1 h2 => by have := ih j (by omega); omega) j (by omega)
theorem ord_m (wt : Nat → Nat) : ∀ i x, x < i → ∃ j, j < i ∧ ord wt i j = x := by
  intro i
  induction i with
  | zero => intro x hx; omega
  | succ i ih =>
    intro x hx
    rw [ord]
    obtain ⟨j, j1, j2⟩ := shf_m wt i x i (ord wt i) (by omega) (by
      by_cases e : x = i
      · exact Or.inl e
      · obtain ⟨j, j1, j2⟩ := ih x (by omega)
        exact Or.inr ⟨j, by omega, by omega, j2⟩)
    exact ⟨j, by omega, j2⟩
/-- one turn by ranks: 0 for what has not begun -/
def rdb (c : Cf) (S : Nat → Nat) (x now : Nat) : Bool := decide (∀ j, j < c 23 → (ct c x j = 0 ∨ (S j ≠ 0 ∧ S j - 1 + dd c x j ≤ now)))
def frb (c : Cf) (S : Nat → Nat) (x now : Nat) : Bool := decide (∀ j, j < c 23 → (S j = 0 ∨ clb c j (S j - 1) x now = false))
def stp (c : Cf) (now v : Nat) (p : (Nat → Nat) × Nat) : (Nat → Nat) × Nat := if p.1 v = 0 ∧ p.2 < c 21 ∧ rdb c p.1 v now = true ∧ frb c p.1 v now = true then (un p.1 v (now + 1), p.2 + 1) else p
def bgF (c : Cf) (O : Nat → Nat) (now : Nat) (S : Nat → Nat) : Nat → (Nat → Nat) × Nat
  | 0 => (S, 0)
  | p + 1 => stp c now (O p) (bgF c O now S p)
def RU (c : Cf) (O : Nat → Nat) : Nat → Nat → Nat
  | 0 => fun _ => 0
  | t + 1 => (bgF c O t (RU c O t) (c 23)).1
def pld (S : Nat → Nat) (n : Nat) : Nat := fb_ct (fun i => decide (S i ≠ 0)) n
theorem pld_le (S : Nat → Nat) (n : Nat) : pld S n ≤ n := fb_ct_le _ n
theorem pld_un {S : Nat → Nat} {v t : Nat} (h0 : S v = 0) (ht : t ≠ 0) : ∀ n, pld (un S v t) n = pld S n + (if v < n then 1 else 0) := by
  intro n
  induction n with
  | zero => rfl
  | succ n ih =>
    unfold pld at ih ⊢
    rw [fb_ct_succ, fb_ct_succ, ih]
    by_cases e : n = v
    · subst e
      simp [un, h0, ht]
    · by_cases q : v < n
      · simp [un, e, q, show v < n + 1 by omega]; omega
      · simp [un, e, q, show ¬ v < n + 1 by omega]
theorem bgF_c {c : Cf} {O : Nat → Nat} (hO : ∀ j, j < c 23 → O j < c 23) (now : Nat) (S : Nat → Nat) : ∀ p, p ≤ c 23 → pld (bgF c O now S p).1 (c 23) = pld S (c 23) + (bgF c O now S p).2 := by
  intro p
  induction p with
  | zero => intro _; rfl
  | succ p ih =>
    intro hp
    have ih := ih (by omega)
    rw [bgF]
    unfold stp
    split
    · rename_i h
      show pld (un _ (O p) (now + 1)) (c 23) = _ + (_ + 1)
      rw [pld_un h.1 (by omega), ih, if_pos (hO p (by omega))]
      omega
    · exact ih
/-- what is placed stays, the rest is placed now -/
theorem bgF_k {c : Cf} {O : Nat → Nat} (now : Nat) (S : Nat → Nat) (x : Nat) : ∀ p, (bgF c O now S p).1 x = S x ∨ (S x = 0 ∧ (bgF c O now S p).1 x = now + 1) := by
  intro p
  induction p with
  | zero => exact Or.inl rfl
  | succ p ih =>
    rw [bgF]
    unfold stp
    split
    · rename_i h
      show un _ (O p) (now + 1) x = _ ∨ _ ∧ un _ (O p) (now + 1) x = _
      unfold un
      by_cases e : x = O p
      · rw [if_pos e]
        right
        refine ⟨?_, rfl⟩
        rw [← e] at h
        rcases ih with q | ⟨q, _⟩
        · rw [← q]; exact h.1
        · exact q
      · rw [if_neg e]; exact ih
    · exact ih
theorem RU_b {c : Cf} {O : Nat → Nat} (x : Nat) : ∀ t, RU c O t x ≤ t := by
  intro t
  induction t with
  | zero => exact Nat.le_refl _
  | succ t ih =>
    rw [RU]
    rcases bgF_k (c := c) (O := O) t (RU c O t) x (c 23) with q | ⟨_, q⟩ <;> rw [q] <;> omega
theorem full {S : Nat → Nat} : ∀ n, pld S n = n → ∀ x, x < n → S x ≠ 0 := by
  intro n
  induction n with
  | zero => intro _ x hx; omega
  | succ n ih =>
    intro h x hx e
    unfold pld at h
    rw [fb_ct_succ] at h
    have h1 : fb_ct (fun i => decide (S i ≠ 0)) n ≤ n := fb_ct_le _ n
    by_cases q : S n = 0
    · rw [if_neg (by simp [q])] at h; omega
    · rw [if_pos (by simp [q])] at h
      have h2 : pld S n = n := by unfold pld; omega
      by_cases g : x = n
      · subst g; exact q e
      · exact ih h2 x (by omega) e
theorem bgF_full {c : Cf} {O : Nat → Nat} (hO : ∀ j, j < c 23 → O j < c 23) (now : Nat) {S : Nat → Nat} (h : ∀ x, x < c 23 → S x ≠ 0) : ∀ p, p ≤ c 23 → bgF c O now S p = (S, 0) := by
  intro p
  induction p with
  | zero => intro _; rfl
  | succ p ih =>
    intro hp
    rw [bgF, ih (by omega), stp, if_neg]
    exact fun q => h _ (hO p (by omega)) q.1
theorem RU_full {c : Cf} {O : Nat → Nat} (hO : ∀ j, j < c 23 → O j < c 23) {t : Nat} (h : pld (RU c O t) (c 23) = c 23) : ∀ d, RU c O (t + d) = RU c O t := by
  intro d
  induction d with
  | zero => rfl
  | succ d ih =>
    rw [show t + (d + 1) = (t + d) + 1 by omega, RU, ih, bgF_full hO _ (full _ h) _ (Nat.le_refl _)]
theorem not_full {S : Nat → Nat} : ∀ n, pld S n ≠ n → ∃ x, x < n ∧ S x = 0 := by
  intro n
  induction n with
  | zero => intro h; exact absurd rfl h
  | succ n ih =>
    intro h
    by_cases q : S n = 0
    · exact ⟨n, by omega, q⟩
    · have : pld S n ≠ n := by
        intro e
        apply h
        unfold pld at e ⊢
        rw [fb_ct_succ, e]
        simp [q]
      obtain ⟨x, h1, h2⟩ := ih this
      exact ⟨x, by omega, h2⟩
/-- one that is left, and all that it needs is placed -/
theorem least_left {c : Cf} (w : WF c) {S : Nat → Nat} (h : ∃ x, x < c 23 ∧ S x = 0) : ∃ x, x < c 23 ∧ S x = 0 ∧ ∀ j, j < c 23 → ct c x j ≠ 0 → S j ≠ 0 := by
  obtain ⟨r, r1, r2⟩ := rank_n w
  have hn := w.p_n
  have key : ∀ m x, r x ≤ m → x < c 23 → S x = 0 → ∃ x, x < c 23 ∧ S x = 0 ∧ ∀ j, j < c 23 → ct c x j ≠ 0 → S j ≠ 0 := by
    intro m
    induction m with
    | zero =>
      intro x hr hx h0
      exact ⟨x, hx, h0, fun j hj hc _ => by have := r2 x j (by omega) (by omega) (ct_nd hc); omega⟩
    | succ m ih =>
      intro x hr hx h0
      by_cases q : ∀ j, j < c 23 → ct c x j ≠ 0 → S j ≠ 0
      · exact ⟨x, hx, h0, q⟩
      · have ⟨j, hj⟩ := Classical.not_forall.mp q
        have ⟨hj1, hj2⟩ := Classical.not_imp.mp hj
        have ⟨hj3, hj4⟩ := Classical.not_imp.mp hj2
        have := r2 x j (by omega) (by omega) (ct_nd hj3)
        exact ih j (by omega) hj1 (by omega)
  obtain ⟨x, h1, h2⟩ := h
  exact key (r x) x (Nat.le_refl _) h1 h2
theorem bgF_prog {c : Cf} (w : WF c) {O : Nat → Nat} (hO : ∀ j, j < c 23 → O j < c 23) (hm : ∀ x, x < c 23 → ∃ j, j < c 23 ∧ O j = x) {now : Nat} {S : Nat → Nat} (hs : ∀ j, j < c 23 → S j ≠ 0 → S j - 1 + 5 ≤ now) (hl : pld S (c 23) ≠ c 23) : 1 ≤ (bgF c O now S (c 23)).2 := by
  have hn := w.p_n
  have hw := w.p_wd
  obtain ⟨x, x1, x2, x3⟩ := least_left w (not_full _ hl)
  obtain ⟨p, p1, p2⟩ := hm x x1
  have mono : ∀ a d, (bgF c O now S a).2 ≤ (bgF c O now S (a + d)).2 := by
    intro a d
    induction d with
    | zero => exact Nat.le_refl _
    | succ d ih =>
      rw [show a + (d + 1) = (a + d) + 1 by omega, bgF]
      unfold stp
      split
      · show _ ≤ _ + 1; omega
      · exact ih
  have zero : ∀ a, (bgF c O now S a).2 = 0 → (bgF c O now S a).1 = S := by
    intro a
    induction a with
    | zero => intro _; rfl
    | succ a ih =>
      rw [bgF]
      unfold stp
      split
      · intro h
        exact absurd h (Nat.succ_ne_zero _)
      · exact ih
  have m1 := mono (p + 1) (c 23 - (p + 1))
  rw [show p + 1 + (c 23 - (p + 1)) = c 23 by omega] at m1
  refine Nat.le_trans ?_ m1
  by_cases e : (bgF c O now S p).2 = 0
  · rw [bgF, p2]
    have e1 := zero p e
    unfold stp
    rw [if_pos]
    · show 1 ≤ _ + 1; omega
    · rw [e1, e]
      refine ⟨x2, by omega, ?_, ?_⟩
      · unfold rdb
        rw [decide_eq_true_eq]
        intro j hj
        by_cases q : ct c x j = 0
        · exact Or.inl q
        · have q1 := x3 j hj q
          have q2 := hs j hj q1
          have q3 := dd_le w (i := x) hj
          exact Or.inr ⟨q1, by omega⟩
      · unfold frb
        rw [decide_eq_true_eq]
        intro j hj
        by_cases q : S j = 0
        · exact Or.inl q
        · right
          have q2 := hs j hj q
          unfold clb
          rw [if_pos (by omega)]
          simp [show ¬ now - (S j - 1) < 4 by omega]
  · have := mono p 1
    omega
theorem RU_26 {c : Cf} (w : WF c) {O : Nat → Nat} (hO : ∀ j, j < c 23 → O j < c 23) (hm : ∀ x, x < c 23 → ∃ j, j < c 23 ∧ O j = x) : pld (RU c O 26) (c 23) = c 23 := by
  have hn := w.p_n
  have step : ∀ t, pld (RU c O (t + 1)) (c 23) = pld (RU c O t) (c 23) + (bgF c O t (RU c O t) (c 23)).2 := fun t => by rw [RU, bgF_c hO t _ _ (Nat.le_refl _)]
  have mono : ∀ t d, pld (RU c O t) (c 23) ≤ pld (RU c O (t + d)) (c 23) := by
    intro t d
    induction d with
    | zero => exact Nat.le_refl _
    | succ d ih => have := step (t + d); rw [show t + (d + 1) = t + d + 1 by omega]; omega
  have same : ∀ t d, pld (RU c O t) (c 23) = pld (RU c O (t + d)) (c 23) → ∀ x, x < c 23 → RU c O (t + d) x = RU c O t x := by
    intro t d
    induction d with
    | zero => intro _ x _; rfl
    | succ d ih =>
      intro h x hx
      have s1 := step (t + d)
      have m1 := mono t d
      rw [show t + (d + 1) = t + d + 1 by omega] at h ⊢
      have z : (bgF c O (t + d) (RU c O (t + d)) (c 23)).2 = 0 := by omega
      have zero : ∀ a, (bgF c O (t + d) (RU c O (t + d)) a).2 = 0 → (bgF c O (t + d) (RU c O (t + d)) a).1 = RU c O (t + d) := by
        intro a
        induction a with
        | zero => intro _; rfl
        | succ a iha =>
          rw [bgF]
          unfold stp
          split
          · intro h
            exact absurd h (Nat.succ_ne_zero _)
          · exact iha
      rw [RU, zero _ z]
      exact ih (by omega) x hx
  have key : ∀ k, k ≤ 5 → min (c 23) (k + 1) ≤ pld (RU c O (5 * k + 1)) (c 23) := by
    intro k
    induction k with
    | zero =>
      intro _
      have s := step 0
      by_cases e : pld (RU c O 0) (c 23) = c 23
      · have := mono 0 1; rw [show 5 * 0 + 1 = 0 + 1 by omega]; omega
      · have := bgF_prog w hO hm (now := 0) (S := RU c O 0) (fun j _ h => absurd rfl h) e
        rw [show 5 * 0 + 1 = 0 + 1 by omega]
        omega
    | succ k ih =>
      intro hk
      have ih := ih (by omega)
      rw [show 5 * (k + 1) + 1 = (5 * k + 1 + 4) + 1 by omega]
      have s := step (5 * k + 1 + 4)
      have m := mono (5 * k + 1) 4
      by_cases e : min (c 23) (k + 1 + 1) ≤ pld (RU c O (5 * k + 1 + 4)) (c 23)
      · omega
      · have sm := same (5 * k + 1) 4 (by have := pld_le (RU c O (5 * k + 1)) (c 23); omega)
        have := bgF_prog w hO hm (now := 5 * k + 1 + 4) (S := RU c O (5 * k + 1 + 4)) (fun j hj h => by
          rw [sm j hj]
          have := RU_b (c := c) (O := O) j (5 * k + 1)
          omega) (by omega)
        omega
  have := key 5 (by omega)
  rw [show 5 * 5 + 1 = 26 from rfl] at this
  have := pld_le (RU c O 26) (c 23)
  omega
