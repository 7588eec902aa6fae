-- the reference's search for states
theorem T73.mono {c : Cf} {p : SL} {s s' : Nat} {D D' : Nat → Prop} {σ : HS} (h : T73 c p s D σ) (hh : ∀ a t, t ≤ c 0 → (a < s' ∨ (a = s' ∧ D' t)) → (a < s ∨ (a = s ∧ D t))) : T73 c p s' D' σ := fun a t h1 h2 h3 => h a t h1 h2 (hh a t h2 h3)
theorem m_fs34 {c : Cf} (w : WF c) (k : Int32 → HS → Option HS) {p : SL} (hg : GD p) {s : Nat} (hs : s < p.1) : ∀ j, j ≤ c 0 → ∀ n, c 0 + 1 < j + n → ∀ σ, MR c σ → LM (inn c (p.2 s) j p) σ → T73 c (inn c (p.2 s) j p) s (fun t => 1 ≤ t ∧ t ≤ j) σ → ∃ σ', GS σ σ' ∧ LM (one c (p.2 s) p) σ' ∧ T73 c (one c (p.2 s) p) (s + 1) (fun _ => False) σ' ∧ f_X9_findStates_34 k n (nI s) (nI (j + 1)) σ = k (nI s) σ' := by
  have hk := w.p_k
  have hx := hg.2.1 s hs
  refine dn_ind ?_ ?_
  · intro n hn' σ h hl hT
    obtain ⟨n, rfl⟩ : ∃ m, n = m + 2 := ⟨n - 2, by omega⟩
    have ex := inn_ext c (p.2 s) p (c 0)
    have hs' : s < (inn c (p.2 s) (c 0) p).1 := Nat.lt_of_lt_of_le hs ex.1
    obtain ⟨σ1, a1, a2, a3, a4⟩ := m_fs61 w (inn_GD w hx hg _ (Nat.le_refl _)) hs' (t := 0) (by omega) (f_X9_findStates_34 k (n + 1)) (nI (c 0 + 1)) h hl hT
    rw [ex.2 s hs] at a2 a3
    have eo : nxt c (p.2 s) 0 (inn c (p.2 s) (c 0) p) = one c (p.2 s) p := rfl
    rw [eo] at a2 a3
    have h1 := a1.MR h
    refine ⟨σ1, a1, a2, a3.mono (fun a t ht q => ?_), ?_⟩
    · rcases q with q | ⟨_, q⟩
      · by_cases e : a = s
        · right; refine ⟨e, ?_⟩
          by_cases z : t = 0
          · exact Or.inr z
          · exact Or.inl ⟨by omega, ht⟩
        · left; omega
      · exact absurd q id
    · rw [f_X9_findStates_34, z_0, z_ld (by omega) (by omega), z_bi, h 0 (by omega), show (1 : Int32) = nI 1 from rfl, z_add, if_neg (by rw [z_lt (by omega) (by omega)]; omega), z_bi, if_neg (by rw [z_le (by omega) (by omega)]; omega), a4]
      rw [f_X9_findStates_34, z_0, z_ld (by omega) (by omega), z_bi, h1 0 (by omega), show (1 : Int32) = nI 1 from rfl, z_add, z_add, if_pos (by rw [z_lt (by omega) (by omega)]; omega)]
  · intro j hj ih n hn' σ h hl hT
    obtain ⟨n, rfl⟩ : ∃ m, n = m + 1 := ⟨n - 1, by omega⟩
    have ex := inn_ext c (p.2 s) p j
    have hs' : s < (inn c (p.2 s) j p).1 := Nat.lt_of_lt_of_le hs ex.1
    obtain ⟨σ1, a1, a2, a3, a4⟩ := m_fs61 w (inn_GD w hx hg _ (by omega)) hs' (t := j + 1) (by omega) (f_X9_findStates_34 k n) (nI (j + 1)) h hl hT
    rw [ex.2 s hs, nxt_s] at a2 a3
    obtain ⟨σ', b1, b2, b3, b4⟩ := ih n (by omega) σ1 (a1.MR h) a2 (a3.mono (fun a t ht q => by
      rcases q with q | ⟨q, q1, q2⟩
      · exact Or.inl q
      · right; refine ⟨q, ?_⟩
        by_cases z : t = j + 1
        · exact Or.inr z
        · exact Or.inl ⟨q1, by omega⟩))
    refine ⟨σ', a1.tr b1, b2, b3, ?_⟩
    rw [f_X9_findStates_34, z_0, z_ld (by omega) (by omega), z_bi, h 0 (by omega), show (1 : Int32) = nI 1 from rfl, z_add, if_neg (by rw [z_lt (by omega) (by omega)]; omega), z_bi, if_pos (by rw [z_le (by omega) (by omega)]; omega), a4, show (1 : Int32) = nI 1 from rfl, z_add]
    exact b4
theorem m_findStates {c : Cf} (w : WF c) {σ : HS} (h : MR c σ) : ∃ σ', f_X9_findStates σ = some σ' ∧ GS σ σ' ∧ LM (LSt c) σ' ∧ ((LSt c).1 ≤ 150 → ∀ s t, s < (LSt c).1 → t ≤ c 0 → OKv c (LSt c) ((LSt c).2 s) t (σ'.1 73 (6 * s + t))) := by
  have stopT : ∀ s, s ≤ 151 → ((exS c s).1 ≤ s ∨ 150 < (exS c s).1) → ∀ σ, T73 c (exS c s) s (fun _ => False) σ → ((LSt c).1 ≤ 150 → ∀ s t, s < (LSt c).1 → t ≤ c 0 → OKv c (LSt c) ((LSt c).2 s) t (σ.1 73 (6 * s + t))) := by
    intro s hs e σ hT
    have ee := exS_end hs e
    intro hle a t ha ht
    rw [← ee] at hle ha ⊢
    exact hT a t ha ht (Or.inl (by omega))
  have key : ∀ s, s ≤ 151 → ∀ n, 151 < s + n → ∀ σ, MR c σ → LM (exS c s) σ → T73 c (exS c s) s (fun _ => False) σ → ∃ σ', f_X9_findStates_14 n (nI s) σ = some σ' ∧ GS σ σ' ∧ LM (LSt c) σ' ∧ ((LSt c).1 ≤ 150 → ∀ s t, s < (LSt c).1 → t ≤ c 0 → OKv c (LSt c) ((LSt c).2 s) t (σ'.1 73 (6 * s + t))) := by
    refine dn_ind ?_ ?_
    · intro n hn' σ h hl hT
      obtain ⟨n, rfl⟩ : ∃ m, n = m + 1 := ⟨n - 1, by omega⟩
      have hg := (exS_GD w 151).1
      refine ⟨σ, ?_, ⟨fun _ _ _ _ => rfl, fun _ _ => rfl⟩, hl, stopT 151 (by omega) (Or.inl hg) σ hT⟩
      rw [f_X9_findStates_14, hl.1, if_pos (by rw [z_le (by omega) (by omega)]; exact hg)]
    · intro s hs ih n hn' σ h hl hT
      obtain ⟨n, rfl⟩ : ∃ m, n = m + 1 := ⟨n - 1, by omega⟩
      have hg := exS_GD w s
      have hn := hg.1
      rw [f_X9_findStates_14, hl.1]
      by_cases e1 : (exS c s).1 ≤ s
      · rw [if_pos (by rw [z_le (by omega) (by omega)]; exact e1)]
        refine ⟨σ, rfl, ⟨fun _ _ _ _ => rfl, fun _ _ => rfl⟩, ?_, stopT s (by omega) (Or.inl e1) σ hT⟩
        rw [← exS_end (s := s) (by omega) (Or.inl e1)]; exact hl
      · rw [if_neg (by rw [z_le (by omega) (by omega)]; exact e1)]
        by_cases e2 : 150 < (exS c s).1
        · rw [if_pos (show (150 : Int32) < nI (exS c s).1 from (z_lt (a := 150) (by omega) (by omega)).mpr e2)]
          refine ⟨σ, rfl, ⟨fun _ _ _ _ => rfl, fun _ _ => rfl⟩, ?_, stopT s (by omega) (Or.inr e2) σ hT⟩
          rw [← exS_end (s := s) (by omega) (Or.inr e2)]; exact hl
        · rw [if_neg (show ¬ (150 : Int32) < nI (exS c s).1 from fun q => e2 ((z_lt (a := 150) (by omega) (by omega)).mp q))]
          obtain ⟨σ1, a1, a2, a3, a4⟩ := m_fs34 w (fun e9 σ10 => f_X9_findStates_14 n (e9 + 1) σ10) hg (s := s) (by omega) 0 (by omega) FU (by have := FU_b; have := w.p_k; omega) σ h hl (hT.mono (fun a t _ q => by
            rcases q with q | ⟨_, q1, q2⟩
            · exact Or.inl q
            · omega))
          have er : exS c (s + 1) = one c ((exS c s).2 s) (exS c s) := by rw [exS, if_neg (by omega)]
          rw [← er] at a2 a3
          obtain ⟨σ', b1, b2, b3⟩ := ih n (by omega) σ1 (a1.MR h) a2 a3
          refine ⟨σ', ?_, a1.tr b2, b3⟩
          rw [show nI (0 + 1) = (1 : Int32) from rfl] at a4
          rw [a4]
          show f_X9_findStates_14 n (nI s + nI 1) σ1 = _
          rw [z_add]
          exact b1
  have g0 : GS σ (sI (sI σ 67 6 1) 72 0 0) := ⟨fun o o1 o2 _ => by rw [s_I2 _ _ _ o2, s_I2 _ _ _ o1], fun k hk => by rw [s_I2 _ _ _ (by omega), s_I1, u_2 _ _ hk]⟩
  obtain ⟨σ', a1, a2, a3⟩ := key 0 (by omega) FU (by have := FU_b; omega) (sI (sI σ 67 6 1) 72 0 0) (g0.MR h) (by
    have e0 : exS c 0 = (1, un (fun _ => 0) 0 0) := rfl
    rw [e0]
    refine ⟨?_, ?_⟩
    · rw [s_I2 _ _ _ (by omega), s_I1, u_1]; rfl
    · intro i hi
      have hi : i < 1 := hi
      rw [show i = 0 by omega, s_I1, u_1]; rfl) (fun a t _ _ q => by rcases q with q | ⟨_, q⟩; omega; exact absurd q id)
  rw [show nI 0 = (0 : Int32) from rfl] at a1
  refine ⟨σ', ?_, g0.tr a2, a3⟩
  rw [f_X9_findStates, show stI (sI σ 67 6 1) 72 151 0 0 = some (sI (sI σ 67 6 1) 72 0 0) from z_st (k := 0) (by omega) (by omega), z_bi]
  exact a1
