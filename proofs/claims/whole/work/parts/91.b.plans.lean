-- plans of a length; the first of them
theorem lp {P : Nat → Prop} (h : ∃ n, P n) : ∃ n, P n ∧ ∀ m, m < n → ¬ P m := by
  obtain ⟨n, hn⟩ := h
  induction n using Nat.strongRecOn with
  | _ n ih =>
    by_cases q : ∃ m, m < n ∧ P m
    · obtain ⟨m, m1, m2⟩ := q
      exact ih m m1 m2
    · exact ⟨n, hn, fun m hm hp => q ⟨m, hm, hp⟩⟩
def QP (c : Cf) (l : Nat) (T : Nat → Nat) : Prop := PL c T ∧ ∀ i, i < c 23 → T i + wy c i ≤ l
theorem PL_ea {c : Cf} (w : WF c) {T : Nat → Nat} (h : PL c T) : ∀ i, i < c 23 → ea c i ≤ T i := by
  have hn := w.p_n
  obtain ⟨r, _, r2⟩ := rank_n w
  have key : ∀ k i, r i < k → i < c 23 → ea c i ≤ T i := by
    intro k
    induction k with
    | zero => intro i h; omega
    | succ k ih =>
      intro i hk hi
      rw [ea_eq w hi]
      refine mxF_le (fun j hj => ?_)
      by_cases e : ct c i j ≠ 0
      · rw [if_pos e]
        have h1 := r2 i j (by omega) (by omega) (ct_nd e)
        have h2 := ih j (by omega) hj
        have h3 := h.1 i j hi hj e
        omega
      · rw [if_neg e]; omega
  exact fun i hi => key (r i + 1) i (by omega) hi
theorem PL_wy {c : Cf} (w : WF c) {T : Nat → Nat} (h : PL c T) {L : Nat} (hL : ∀ i, i < c 23 → T i + sp c i ≤ L) : ∀ i, i < c 23 → T i + wy c i ≤ L := by
  have hn := w.p_n
  obtain ⟨r, r1, r2⟩ := rank_n w
  have key : ∀ k i, c 23 < r i + k → i < c 23 → T i + wy c i ≤ L := by
    intro k
    induction k with
    | zero => intro i h hi; have := r1 i hi; omega
    | succ k ih =>
      intro i hk hi
      have h0 := hL i hi
      have : mxF (fun j => if ct c j i ≠ 0 then dd c j i + wy c j else 0) (c 23) ≤ L - T i := by
        refine mxF_le (fun j hj => ?_)
        by_cases e : ct c j i ≠ 0
        · rw [if_pos e]
          have h1 := r2 j i (by omega) (by omega) (ct_nd e)
          have h2 := ih j (by omega) hj
          have h3 := h.1 j i hj hi e
          omega
        · rw [if_neg e]; omega
      rw [wy_eq w hi]
      omega
  exact fun i hi => key (c 23 + 1) i (by omega) hi
theorem len_ge (c : Cf) (T : Nat → Nat) {i : Nat} (hi : i < c 23) : T i + sp c i ≤ len c T := mxF_ge (fun i => T i + sp c i) hi
theorem PL_QP {c : Cf} (w : WF c) {T : Nat → Nat} (h : PL c T) : QP c (len c T) T := ⟨h, PL_wy w h (fun _ hi => len_ge c T hi)⟩
theorem QP_len {c : Cf} (w : WF c) {T : Nat → Nat} {l : Nat} (h : QP c l T) : len c T ≤ l := mxF_le (fun k hk => by
  have h1 := h.2 k hk
  have h2 := wy_sp w hk
  show T k + sp c k ≤ l
  omega)
theorem CL_near {c : Cf} (w : WF c) {i ti j tj : Nat} (hi : i < c 23) (hj : j < c 23) (h : CL c i ti j tj) : ti < tj + 4 ∧ tj < ti + 4 := by
  obtain ⟨u, hu', s, ⟨s1, s2⟩, s3, s4⟩ := h
  have l1 : s - ti < 4 := by
    rcases Nat.lt_or_ge (s - ti) 4 with g | g
    · exact g
    · rw [hu_b w hi hu' g] at s2; cases s2
  have l2 : s - tj < 4 := by
    rcases Nat.lt_or_ge (s - tj) 4 with g | g
    · exact g
    · rw [hu_b w hj hu' g] at s4; cases s4
  omega
theorem CL_shift {c : Cf} {i ti j tj : Nat} (h1 : 1 ≤ ti) (h2 : 1 ≤ tj) (h : CL c i (ti - 1) j (tj - 1)) : CL c i ti j tj := by
  obtain ⟨u, hu', s, ⟨s1, s2⟩, s3, s4⟩ := h
  exact ⟨u, hu', s + 1, ⟨by omega, by rw [show s + 1 - ti = s - (ti - 1) by omega]; exact s2⟩, by omega, by rw [show s + 1 - tj = s - (tj - 1) by omega]; exact s4⟩
theorem cnt_inj {T : Nat → Nat} {n : Nat} (h : ∀ i j, i < n → j < n → T i = T j → i = j) (t : Nat) : cnt T t n ≤ 1 := by
  have key : ∀ m, m ≤ n → cnt T t m ≤ 1 ∧ ((∀ j, j < m → T j ≠ t) → cnt T t m = 0) := by
    intro m
    induction m with
    | zero => intro _; exact ⟨Nat.zero_le _, fun _ => rfl⟩
    | succ m ih =>
      intro hm
      obtain ⟨a, b⟩ := ih (by omega)
      rw [cnt_s]
      by_cases e : T m = t
      · rw [if_pos e, b (fun j hj q => by have := h j m (by omega) (by omega) (by rw [q, e]); omega)]
        exact ⟨by omega, fun q => absurd e (q m (by omega))⟩
      · rw [if_neg e]
        exact ⟨by omega, fun q => b (fun j hj => q j (by omega))⟩
  exact (key n (Nat.le_refl _)).1
theorem PL_ex {c : Cf} (w : WF c) : ∃ T, PL c T := by
  have hn := w.p_n
  obtain ⟨r, _, r2⟩ := rank_n w
  refine ⟨fun i => 5 * (6 * r i + i), fun i j hi hj e => ?_, fun i j hi hj hne q => ?_, fun i hi => ?_⟩
  · have h1 := r2 i j (by omega) (by omega) (ct_nd e)
    have h2 := dd_le w (i := i) hj
    show 5 * (6 * r j + j) + dd c i j ≤ 5 * (6 * r i + i)
    omega
  · have q' : CL c i (5 * (6 * r i + i)) j (5 * (6 * r j + j)) := q
    have := CL_near w hi hj q'
    omega
  · have := w.p_wd
    exact Nat.le_trans (cnt_inj (fun a b ha hb q => by
      have q' : 5 * (6 * r a + a) = 5 * (6 * r b + b) := q
      omega) _) this.1
def LF (c : Cf) (l : Nat) (T : Nat → Nat) : Prop := QP c l T ∧ ∀ i, i < c 23 → ∀ T', QP c l T' → (∀ j, j < i → T' j = T j) → T i ≤ T' i
theorem LF_ex {c : Cf} {l : Nat} (h : ∃ T, QP c l T) : ∃ T, LF c l T := by
  have key : ∀ m, m ≤ c 23 → ∃ T, QP c l T ∧ ∀ i, i < m → ∀ T', QP c l T' → (∀ j, j < i → T' j = T j) → T i ≤ T' i := by
    intro m
    induction m with
    | zero =>
      intro _
      obtain ⟨T, hT⟩ := h
      exact ⟨T, hT, fun i hi => by omega⟩
    | succ m ih =>
      intro hm
      obtain ⟨T, t1, t2⟩ := ih (by omega)
      obtain ⟨v, ⟨T', a1, a2, a3⟩, v2⟩ := lp (P := fun v => ∃ T', QP c l T' ∧ (∀ j, j < m → T' j = T j) ∧ T' m = v) ⟨T m, T, t1, fun _ _ => rfl, rfl⟩
      refine ⟨T', a1, fun i hi T'' b1 b2 => ?_⟩
      by_cases e : i = m
      · subst e
        rcases Nat.lt_or_ge (T'' i) v with g | g
        · exact absurd ⟨T'', b1, fun j hj => by rw [b2 j hj, a2 j hj], rfl⟩ (v2 _ g)
        · omega
      · rw [a2 i (by omega)]
        exact t2 i (by omega) T'' b1 (fun j hj => by rw [b2 j hj, a2 j (by omega)])
  exact key (c 23) (Nat.le_refl _)
theorem LF_dom {c : Cf} {l : Nat} {T T' : Nat → Nat} (h : LF c l T) (h' : QP c l T') (hd : ∀ j, j < c 23 → T' j ≤ T j) : ∀ j, j < c 23 → T' j = T j := by
  intro j
  induction j using Nat.strongRecOn with
  | _ j ih =>
    intro hj
    have h1 := h.2 j hj T' h' (fun k hk => ih k hk (by omega))
    have h2 := hd j hj
    omega
theorem LF_un {c : Cf} {l : Nat} {T T' : Nat → Nat} (h : LF c l T) (h' : LF c l T') : ∀ j, j < c 23 → T' j = T j := by
  intro j
  induction j using Nat.strongRecOn with
  | _ j ih =>
    intro hj
    have h1 := h.2 j hj T' h'.1 (fun k hk => ih k hk (by omega))
    have h2 := h'.2 j hj T h.1 (fun k hk => (ih k hk (by omega)).symm)
    omega
def hitF (f : Nat → Nat) : Nat → Nat → Bool
  | 0, _ => false
  | n + 1, v => hitF f n v || decide (f n = v)
theorem hitF_i (f : Nat → Nat) : ∀ n v, hitF f n v = true ↔ ∃ j, j < n ∧ f j = v := by
  intro n
  induction n with
  | zero => intro v; exact ⟨fun h => (by cases h), fun ⟨j, h, _⟩ => by omega⟩
  | succ n ih =>
    intro v
    rw [hitF, Bool.or_eq_true, ih, decide_eq_true_eq]
    constructor
    · rintro (⟨j, h1, h2⟩ | h)
      · exact ⟨j, by omega, h2⟩
      · exact ⟨n, by omega, h⟩
    · rintro ⟨j, h1, h2⟩
      by_cases e : j = n
      · right; rw [← e]; exact h2
      · left; exact ⟨j, by omega, h2⟩
theorem fb_ct_1 (v : Nat) : ∀ m, fb_ct (fun k => decide (v = k)) m ≤ 1 ∧ (m ≤ v → fb_ct (fun k => decide (v = k)) m = 0) := by
  intro m
  induction m with
  | zero => exact ⟨Nat.zero_le _, fun _ => rfl⟩
  | succ m ih =>
    rw [fb_ct_succ]
    by_cases e : v = m
    · rw [ih.2 (by omega)]
      refine ⟨?_, fun q => by omega⟩
      split <;> omega
    · simp only [e, decide_false, Bool.false_eq_true, if_false]
      exact ⟨ih.1, fun q => ih.2 (by omega)⟩
theorem fb_ct_orle (p q : Nat → Bool) : ∀ n, fb_ct (fun k => p k || q k) n ≤ fb_ct p n + fb_ct q n := by
  intro n
  induction n with
  | zero => exact Nat.zero_le _
  | succ n ih =>
    rw [fb_ct_succ, fb_ct_succ, fb_ct_succ]
    cases p n <;> cases q n <;> simp <;> omega
theorem pigeon (f : Nat → Nat) (m : Nat) : ∀ n, fb_ct (hitF f n) m ≤ n := by
  intro n
  induction n with
  | zero => exact Nat.le_of_eq (fb_ct_zero.mpr (fun _ _ => rfl))
  | succ n ih =>
    have h1 := fb_ct_orle (hitF f n) (fun v => decide (f n = v)) m
    have h2 := (fb_ct_1 (f n) m).1
    have h3 : fb_ct (hitF f (n + 1)) m = fb_ct (fun v => hitF f n v || decide (f n = v)) m := fb_ct_cong (fun k _ => rfl)
    omega
theorem LF_25 {c : Cf} (w : WF c) {l : Nat} {T : Nat → Nat} (h : LF c l T) : ∀ i, i < c 23 → T i ≤ 25 := by
  intro i hi
  rcases Nat.lt_or_ge 25 (T i) with g | g
  · exfalso
    have hn := w.p_n
    have hp := pigeon (fun j => min ((T j + 4) / 5) 6) 7 (c 23)
    have hna : ¬ ∀ v, v < 7 → hitF (fun j => min ((T j + 4) / 5) 6) (c 23) v = true := fun q => by
      have := fb_ct_all.mpr q
      omega
    have ⟨v, v1, v2⟩ : ∃ v, v < 6 ∧ ∀ j, j < c 23 → min ((T j + 4) / 5) 6 ≠ v := by
      refine Classical.byContradiction fun q => hna (fun v hv => ?_)
      rw [hitF_i]
      by_cases e : v = 6
      · exact ⟨i, hi, by show min ((T i + 4) / 5) 6 = v; omega⟩
      · refine Classical.byContradiction fun q2 => q ⟨v, by omega, fun j hj q3 => q2 ⟨j, hj, q3⟩⟩
    have gap : ∀ j, j < c 23 → T j < 5 * v + 1 → T j + 5 ≤ 5 * v := by
      intro j hj q
      have := v2 j hj
      omega
    have hS : ∃ S : Nat → Nat, ∀ j, S j = if 5 * v + 1 ≤ T j then T j - 1 else T j := ⟨_, fun _ => rfl⟩
    obtain ⟨S, hS⟩ := hS
    have up : ∀ j, 5 * v + 1 ≤ T j → S j = T j - 1 := fun j q => by rw [hS, if_pos q]
    have dn : ∀ j, T j < 5 * v + 1 → S j = T j := fun j q => by rw [hS, if_neg (by omega)]
    have le : ∀ j, S j ≤ T j := fun j => by rw [hS]; split <;> omega
    have q : QP c l S := by
      refine ⟨⟨fun a b ha hb e => ?_, fun a b ha hb e k => ?_, fun a ha => ?_⟩, fun a ha => by have := h.1.2 a ha; have := le a; omega⟩
      · have h1 := h.1.1.1 a b ha hb e
        have h2 := dd_le w (i := a) hb
        have ga := gap a ha
        have gb := gap b hb
        rcases Nat.lt_or_ge (T a) (5 * v + 1) with p1 | p1 <;> rcases Nat.lt_or_ge (T b) (5 * v + 1) with p2 | p2
        · rw [dn a p1, dn b p2]; exact h1
        · omega
        · rw [up a p1, dn b p2]; have := gb p2; omega
        · rw [up a p1, up b p2]; omega
      · have ga := gap a ha
        have gb := gap b hb
        rcases Nat.lt_or_ge (T a) (5 * v + 1) with p1 | p1 <;> rcases Nat.lt_or_ge (T b) (5 * v + 1) with p2 | p2
        · rw [dn a p1, dn b p2] at k; exact h.1.1.2.1 a b ha hb e k
        · rw [dn a p1, up b p2] at k
          have := CL_near w ha hb k
          have := ga p1; omega
        · rw [up a p1, dn b p2] at k
          have := CL_near w ha hb k
          have := gb p2; omega
        · rw [up a p1, up b p2] at k; exact h.1.1.2.1 a b ha hb e (CL_shift (by omega) (by omega) k)
      · have := h.1.1.2.2 a ha
        have e : cnt S (S a) (c 23) = cnt T (T a) (c 23) := by
          refine fb_ct_cong (fun k hk => ?_)
          have : S k = S a ↔ T k = T a := by
            have ga := gap a ha
            have gk := gap k hk
            rcases Nat.lt_or_ge (T a) (5 * v + 1) with p1 | p1 <;> rcases Nat.lt_or_ge (T k) (5 * v + 1) with p2 | p2
            · rw [dn a p1, dn k p2]
            · rw [dn a p1, up k p2]; have := ga p1; omega
            · rw [up a p1, dn k p2]; have := gk p2; omega
            · rw [up a p1, up k p2]; omega
          simp only [this]
        omega
    have := LF_dom h q (fun j _ => le j) i hi
    rw [up i (by omega)] at this
    omega
  · exact g
