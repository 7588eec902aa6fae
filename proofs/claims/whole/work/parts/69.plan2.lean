-- plan on both sides
def prc (c : Cf) (T : Nat → Nat) (i j : Nat) : Prop := (ct c i j ≠ 0 → T j + dd c i j ≤ T i) ∧ (i ≠ j → ¬ CL c i (T i) j (T j))
theorem c_ip15 {c : Cf} {T : Nat → Nat} {σ : HS} (hb : BOK c σ) (w : WF c) (hT : TN 49 T (c 23) σ) (k : Int32 → Int32 → HS → Option (Int32 × HS)) {i : Nat} (hi : i < c 23) : ∀ j, j ≤ c 23 → ∀ n, c 23 < j + n → ((∀ j', j ≤ j' → j' < c 23 → prc c T i j') ∧ f_X0_isPlan_15 k n (nI i) (nI (cnt T (T i) j)) (nI j) σ = k (nI i) (nI (cnt T (T i) (c 23))) σ) ∨ ((¬ ∀ j', j ≤ j' → j' < c 23 → prc c T i j') ∧ f_X0_isPlan_15 k n (nI i) (nI (cnt T (T i) j)) (nI j) σ = some (0, σ)) := by
  have hn := w.p_n
  refine dn_ind ?_ ?_
  · intro n hn'
    obtain ⟨n, rfl⟩ : ∃ m, n = m + 1 := ⟨n - 1, by omega⟩
    left
    refine ⟨fun j' _ _ => by omega, ?_⟩
    rw [f_X0_isPlan_15, hb.1, if_pos (by rw [z_le (by omega) (by omega)]; omega)]
  · intro j hj ih n hn'
    obtain ⟨n, rfl⟩ : ∃ m, n = m + 1 := ⟨n - 1, by omega⟩
    obtain ⟨t1, t2⟩ := hT i hi
    obtain ⟨t3, t4⟩ := hT j hj
    have hd := dd_le w (i := i) hj
    have hc := cnt_le T (T i) j
    have ih := ih n (by omega)
    have s37 : f_X0_isPlan_15 k (n + 1) (nI i) (nI (cnt T (T i) j)) (nI j) σ = f_X0_isPlan_37 (f_X0_isPlan_15 k n) (nI i) (nI (cnt T (T i) (j + 1))) (nI j) σ := by
      rw [f_X0_isPlan_15, hb.1, if_neg (by rw [z_le (by omega) (by omega)]; omega), z_ld (by omega) (by omega), z_bi, z_ld (by omega) (by omega), z_bi, t2, t4, cnt_s, show (1 : Int32) = nI 1 from rfl, z_add]
      by_cases e : T j = T i
      · rw [if_pos (by rw [e]), if_pos e]
      · rw [if_neg (by rw [z_eq (by omega) (by omega)]; exact e), if_neg e, Nat.add_zero]
    have s76 : (ct c i j ≠ 0 → T j + dd c i j ≤ T i) → ((∀ j', j ≤ j' → j' < c 23 → prc c T i j') ∧ f_X0_isPlan_76 (f_X0_isPlan_15 k n) (nI i) (nI (cnt T (T i) (j + 1))) (nI j) σ = k (nI i) (nI (cnt T (T i) (c 23))) σ) ∨ ((¬ ∀ j', j ≤ j' → j' < c 23 → prc c T i j') ∧ f_X0_isPlan_76 (f_X0_isPlan_15 k n) (nI i) (nI (cnt T (T i) (j + 1))) (nI j) σ = some (0, σ)) := by
      intro g1
      have cont : prc c T i j → ((∀ j', j ≤ j' → j' < c 23 → prc c T i j') ∧ f_X0_isPlan_15 k n (nI i) (nI (cnt T (T i) (j + 1))) (nI (j + 1)) σ = k (nI i) (nI (cnt T (T i) (c 23))) σ) ∨ ((¬ ∀ j', j ≤ j' → j' < c 23 → prc c T i j') ∧ f_X0_isPlan_15 k n (nI i) (nI (cnt T (T i) (j + 1))) (nI (j + 1)) σ = some (0, σ)) := by
        intro g
        rcases ih with ⟨a, b⟩ | ⟨a, b⟩
        · left
          refine ⟨fun j' q1 q2 => ?_, b⟩
          by_cases e : j' = j
          · rw [e]; exact g
          · exact a j' (by omega) q2
        · right
          exact ⟨fun q => a (fun j' q1 q2 => q j' (by omega) q2), b⟩
      rw [f_X0_isPlan_76, show (1 : Int32) = nI 1 from rfl, z_add]
      by_cases e : i = j
      · rw [if_pos (by rw [e])]
        exact cont ⟨g1, fun q => absurd e q⟩
      · rw [if_neg (by rw [z_eq (by omega) (by omega)]; exact e), z_ld (by omega) (by omega), z_bi, z_ld (by omega) (by omega), z_bi, t2, t4, c_clashes hb w hi hj (by omega) (by omega), z_bi]
        cases q : clb c i (T i) j (T j) with
        | false =>
          rw [if_pos (show nI (b2 false) = 0 from rfl)]
          exact cont ⟨g1, fun _ h => by rw [(clb_CL w hi hj _ _).mpr h] at q; cases q⟩
        | true =>
          rw [if_neg (show ¬ nI (b2 true) = 0 by decide)]
          right
          exact ⟨fun h => (h j (by omega) hj).2 e ((clb_CL w hi hj _ _).mp q), rfl⟩
    rw [s37, f_X0_isPlan_37, c_pair, z_bi, z_ld (by omega) (by omega), z_bi, hb.2.2.2.2.2.2.1 i j hi hj]
    unfold dv
    by_cases e : ct c i j = 0
    · rw [if_pos e, if_pos (show (-nI 1 : Int32) = -1 from rfl)]
      exact s76 (fun q => absurd e q)
    · rw [if_neg e, if_neg (show ¬ nI (dd c i j) = -1 from z_ne (by omega) (k := 1) (by omega)), z_ld (by omega) (by omega), z_bi, z_ld (by omega) (by omega), z_bi, t2, t4, c_pair, z_bi, z_ld (by omega) (by omega), z_bi, hb.2.2.2.2.2.2.1 i j hi hj]
      unfold dv
      rw [if_neg e, z_add]
      by_cases g : T j + dd c i j ≤ T i
      · rw [if_pos (by rw [z_le (by omega) (by omega)]; exact g)]
        exact s76 (fun _ => g)
      · rw [if_neg (by rw [z_le (by omega) (by omega)]; exact g)]
        right
        exact ⟨fun h => g ((h j (by omega) hj).1 e), rfl⟩
theorem c_isPlan {c : Cf} {T : Nat → Nat} {σ : HS} (hb : BOK c σ) (w : WF c) (hT : TN 49 T (c 23) σ) : ∃ v, v ≤ 1 ∧ f_X0_isPlan σ = some (nI v, σ) ∧ (v = 1 ↔ PL c T) := by
  have hn := w.p_n
  have hw := w.p_wd
  have key : ∀ i, i ≤ c 23 → ∀ n, c 23 < i + n → ∃ v, v ≤ 1 ∧ f_X0_isPlan_2 n (nI i) σ = some (nI v, σ) ∧ (v = 1 ↔ ∀ i', i ≤ i' → i' < c 23 → (∀ j, j < c 23 → prc c T i' j) ∧ cnt T (T i') (c 23) ≤ c 21) := by
    refine dn_ind ?_ ?_
    · intro n hn'
      obtain ⟨n, rfl⟩ : ∃ m, n = m + 1 := ⟨n - 1, by omega⟩
      refine ⟨1, by omega, ?_, ⟨fun _ i' _ _ => by omega, fun _ => rfl⟩⟩
      rw [f_X0_isPlan_2, hb.1, if_pos (by rw [z_le (by omega) (by omega)]; omega)]
      rfl
    · intro i hi ih n hn'
      obtain ⟨n, rfl⟩ : ∃ m, n = m + 1 := ⟨n - 1, by omega⟩
      have hc := cnt_le T (T i) (c 23)
      rw [f_X0_isPlan_2, hb.1, if_neg (by rw [z_le (by omega) (by omega)]; omega)]
      have k := c_ip15 hb w hT (fun e12 e13 σ14 => if e13 ≤ (σ14.1 42 8) then f_X0_isPlan_2 n (e12 + 1) σ14 else some (0, σ14)) hi 0 (by omega) FU (by have := FU_b; omega)
      rw [show cnt T (T i) 0 = 0 from rfl, show nI 0 = (0 : Int32) from rfl] at k
      rcases k with ⟨a, b⟩ | ⟨a, b⟩
      · rw [b]
        show ∃ v, v ≤ 1 ∧ (if nI (cnt T (T i) (c 23)) ≤ σ.1 42 8 then f_X0_isPlan_2 n (nI i + nI 1) σ else some (0, σ)) = _ ∧ _
        rw [hb.2.1, z_add]
        by_cases e : cnt T (T i) (c 23) ≤ c 21
        · rw [if_pos (by rw [z_le (by omega) (by omega)]; exact e)]
          obtain ⟨v, v1, v2, v3⟩ := ih n (by omega)
          refine ⟨v, v1, v2, ?_⟩
          rw [v3]
          constructor
          · intro q i' q1 q2
            by_cases g : i' = i
            · rw [g]; exact ⟨fun j hj => a j (by omega) hj, e⟩
            · exact q i' (by omega) q2
          · intro q i' q1 q2
            exact q i' (by omega) q2
        · rw [if_neg (by rw [z_le (by omega) (by omega)]; exact e)]
          exact ⟨0, by omega, rfl, ⟨fun q => by omega, fun q => absurd (q i (by omega) hi).2 e⟩⟩
      · rw [b]
        exact ⟨0, by omega, rfl, ⟨fun q => by omega, fun q => absurd (fun j' _ h2 => (q i (by omega) hi).1 j' h2) a⟩⟩
  obtain ⟨v, v1, v2, v3⟩ := key 0 (by omega) FU (by have := FU_b; omega)
  rw [show nI 0 = (0 : Int32) from rfl] at v2
  refine ⟨v, v1, by rw [f_X0_isPlan]; exact v2, ?_⟩
  rw [v3]
  constructor
  · intro h
    exact ⟨fun i j hi hj q => ((h i (by omega) hi).1 j hj).1 q, fun i j hi hj q => ((h i (by omega) hi).1 j hj).2 q, fun i hi => (h i (by omega) hi).2⟩
  · rintro ⟨h1, h2, h3⟩ i _ hi
    exact ⟨fun j hj => ⟨h1 i j hi hj, h2 i j hi hj⟩, h3 i hi⟩
def dg (c : Cf) (n i : Nat) : Nat := n / 10 ^ (c 23 - 1 - i) % 10
/-- the answer to a number, if it is in range -/
def RP (c : Cf) (n : Nat) (v : Int32) : Prop := (PL c (dg c n) ∧ v = nI (len c (dg c n))) ∨ (¬ PL c (dg c n) ∧ v = -1)
theorem RP.un {c : Cf} {n : Nat} {v v' : Int32} (h : RP c n v) (h' : RP c n v') : v = v' := by
  rcases h with ⟨a, b⟩ | ⟨a, b⟩ <;> rcases h' with ⟨a', b'⟩ | ⟨a', b'⟩
  · rw [b, b']
  · exact absurd a a'
  · exact absurd a' a
  · rw [b, b']
theorem dg_b (c : Cf) (n i : Nat) : dg c n i < 10 := Nat.mod_lt _ (by omega)
theorem c_figs {c : Cf} {σ : HS} (w : WF c) (hb : BOK c σ) {x : Nat} (hx : x < 2147483648) : ∃ v σ', f_X0_lengthByFigures (nI x) σ = some (v, σ') ∧ fr [49] σ σ' ∧ RP c x v := by
  have hn := w.p_n
  have key : ∀ i, i ≤ c 23 → ∀ n, i < n → ∀ σ, BOK c σ → (∀ j, i ≤ j → j < c 23 → σ.1 49 j = nI (dg c x j)) → ∃ v σ', f_X0_lengthByFigures_9 n (nI (x / 10 ^ (c 23 - i))) (nI i - 1) σ = some (v, σ') ∧ fr [49] σ σ' ∧ RP c x v := by
    intro i
    induction i with
    | zero =>
      intro _ n hn' σ hb hm
      obtain ⟨n, rfl⟩ : ∃ m, n = m + 1 := ⟨n - 1, by omega⟩
      have hT : TN 49 (dg c x) (c 23) σ := fun j hj => ⟨by have := dg_b c x j; omega, hm j (by omega) hj⟩
      obtain ⟨v, v1, v2, v3⟩ := c_isPlan hb w hT
      rw [f_X0_lengthByFigures_9, if_pos (by decide), v2, z_bi]
      by_cases e : v = 0
      · rw [if_pos (by rw [e]; rfl)]
        exact ⟨-1, σ, rfl, fr.rf _ _, Or.inr ⟨fun q => by have := v3.mpr q; omega, rfl⟩⟩
      · rw [if_neg (by rw [z_0, z_eq (by omega) (by omega)]; exact e), c_lengthOf hb w hT, z_bi]
        exact ⟨_, σ, rfl, fr.rf _ _, Or.inl ⟨v3.mp (by omega), rfl⟩⟩
    | succ i ih =>
      intro hi n hn' σ hb hm
      obtain ⟨n, rfl⟩ : ∃ m, n = m + 1 := ⟨n - 1, by omega⟩
      have hle : x / 10 ^ (c 23 - (i + 1)) ≤ x := Nat.div_le_self _ _
      have e1 : nI (i + 1) - 1 = nI i := by
        show nI (i + 1) - nI 1 = _
        rw [z_sub (by omega)]; rfl
      rw [f_X0_lengthByFigures_9, e1, if_neg (by rw [z_0, z_lt (by omega) (by omega)]; omega), show (10 : Int32) = nI 10 from rfl, z_rm (by omega) (by omega) (by omega), z_bi, z_st (by omega) (by omega), z_bi, z_dv (by omega) (by omega) (by omega), z_bi]
      have e2 : x / 10 ^ (c 23 - (i + 1)) / 10 = x / 10 ^ (c 23 - i) := by
        rw [Nat.div_div_eq_div_mul, show c 23 - i = (c 23 - (i + 1)) + 1 by omega, Nat.pow_succ]
      have e3 : nI i + -1 = nI i - 1 := (Int32.sub_eq_add_neg _ _).symm
      have f1 : fr [49] σ (sI σ 49 i (nI (x / 10 ^ (c 23 - (i + 1)) % 10))) := fr.sI (by simp)
      obtain ⟨v, σ', a1, a2, a3⟩ := ih (by omega) n (by omega) _ (hb.fr f1 (by simp)) (by
        intro j h1 h2
        rw [s_I1]; unfold upd
        by_cases e : j = i
        · rw [if_pos e, e]; unfold dg; rw [show c 23 - 1 - i = c 23 - (i + 1) by omega]
        · rw [if_neg e]; exact hm j (by omega) h2)
      refine ⟨v, σ', ?_, f1.tr a2, a3⟩
      rw [e2, e3]
      exact a1
  rw [f_X0_lengthByFigures, hb.1]
  have k := key (c 23) (by omega) FU (by have := FU_b; omega) σ hb (fun j h1 h2 => by omega)
  rw [Nat.sub_self, Nat.pow_zero, Nat.div_one] at k
  exact k
