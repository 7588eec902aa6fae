-- the class's gaps
theorem c_maxm {g b : Nat} (hg : g ≤ 1000) (hb : b ≤ 1000) (σ : HS) : f_J9_max_7cf53 (mtv g) (nI b) σ = some (nI (max (g - 1) b), σ) := by
  cases g with
  | zero =>
    rw [f_J9_max_7cf53, mtv, if_pos (by rw [z_ltI, z_ti (by omega)]; show (-1 : Int) < b; omega), show max (0 - 1) b = b by omega]
  | succ g => rw [mtv, c_max (by omega) (by omega)]; rfl
theorem c_min {a b : Nat} (ha : a < 2147483648) (hb : b < 2147483648) (σ : HS) : f_J9_min_7cf53 (nI a) (nI b) σ = some (nI (min a b), σ) := by
  rw [f_J9_min_7cf53]
  simp (disch := omega) only [z_lt]
  by_cases e : b < a
  · rw [if_pos e, Nat.min_eq_right (by omega)]
  · rw [if_neg e, Nat.min_eq_left (by omega)]
theorem dv_mtv (c : Cf) (i j : Nat) : dv c i j = mtv (if ct c i j = 0 then 0 else dd c i j + 1) := by
  unfold dv
  by_cases e : ct c i j = 0
  · rw [if_pos e, if_pos e]; rfl
  · rw [if_neg e, if_neg e]; rfl
theorem c_areLike {c : Cf} (w : WF c) {σ : HS} (hb : BOK c σ) {i j : Nat} (hi : i < c 23) (hj : j < c 23) : ∃ v, v ≤ 1 ∧ f_X5_areLike (nI i) (nI j) σ = some (nI v, σ) ∧ (v = 1 ↔ LK c i j) := by
  have hn := w.p_n
  have key : ∀ m, m ≤ c 23 → ∀ n, c 23 < m + n → ∃ v, v ≤ 1 ∧ f_X5_areLike_62 n (nI i) (nI j) (nI m) σ = some (nI v, σ) ∧ (v = 1 ↔ ∀ m', m ≤ m' → m' < c 23 → m' ≠ i → m' ≠ j → dv c i m' = dv c j m' ∧ dv c m' i = dv c m' j) := by
    refine dn_ind ?_ ?_
    · intro n hn'
      obtain ⟨n, rfl⟩ : ∃ m, n = m + 1 := ⟨n - 1, by omega⟩
      refine ⟨1, by omega, ?_, ⟨fun _ m' h1 h2 => by omega, fun _ => rfl⟩⟩
      rw [f_X5_areLike_62, hb.1, if_pos (by rw [z_le (by omega) (by omega)]; omega)]; rfl
    · intro m hm ih n hn'
      obtain ⟨n, rfl⟩ : ∃ m, n = m + 1 := ⟨n - 1, by omega⟩
      obtain ⟨v, v1, v2, v3⟩ := ih n (by omega)
      rw [f_X5_areLike_62, hb.1, if_neg (by rw [z_le (by omega) (by omega)]; omega), show (1 : Int32) = nI 1 from rfl, z_add]
      have skip : (m = i ∨ m = j) → ∃ v, v ≤ 1 ∧ f_X5_areLike_62 n (nI i) (nI j) (nI (m + 1)) σ = some (nI v, σ) ∧ (v = 1 ↔ ∀ m', m ≤ m' → m' < c 23 → m' ≠ i → m' ≠ j → dv c i m' = dv c j m' ∧ dv c m' i = dv c m' j) := by
        intro q
        refine ⟨v, v1, v2, ?_⟩
        rw [v3]
        exact ⟨fun g m' a b d e => g m' (by omega) b d e, fun g m' a b d e => g m' (by omega) b d e⟩
      by_cases e1 : m = i
      · rw [if_pos (by rw [e1])]; exact skip (Or.inl e1)
      · rw [if_neg (by rw [z_eq (by omega) (by omega)]; exact e1)]
        by_cases e2 : m = j
        · rw [if_pos (by rw [e2])]; exact skip (Or.inr e2)
        · rw [if_neg (by rw [z_eq (by omega) (by omega)]; exact e2)]
          simp only [c_pair, z_bi]
          simp (disch := omega) only [z_ld, z_bi]
          rw [hb.2.2.2.2.2.2.1 i m hi hm, hb.2.2.2.2.2.2.1 j m hj hm, hb.2.2.2.2.2.2.1 m i hm hi, hb.2.2.2.2.2.2.1 m j hm hj]
          by_cases g1 : dv c i m = dv c j m
          · rw [if_pos g1]
            by_cases g2 : dv c m i = dv c m j
            · rw [if_pos g2]
              refine ⟨v, v1, v2, ?_⟩
              rw [v3]
              exact ⟨fun g m' a b d e => by
                by_cases q : m' = m
                · rw [q]; exact ⟨g1, g2⟩
                · exact g m' (by omega) b d e, fun g m' a b d e => g m' (by omega) b d e⟩
            · rw [if_neg g2]
              exact ⟨0, by omega, rfl, ⟨fun q => by omega, fun g => absurd (g m (by omega) hm e1 e2).2 g2⟩⟩
          · rw [if_neg g1]
            exact ⟨0, by omega, rfl, ⟨fun q => by omega, fun g => absurd (g m (by omega) hm e1 e2).1 g1⟩⟩
  have b1 := hm_b w (w.p_ko hi)
  have b2 := hm_b w (w.p_ko hj)
  have b3 := sp_b w hi
  have b4 := sp_b w hj
  rw [f_X5_areLike]
  simp (disch := omega) only [z_ld, z_bi]
  rw [hb.2.2.1 i hi, hb.2.2.1 j hj, hb.2.2.2.1 i hi, hb.2.2.2.1 j hj]
  have no : ¬ LK c i j → ∃ v, v ≤ 1 ∧ some ((0 : Int32), σ) = some (nI v, σ) ∧ (v = 1 ↔ LK c i j) := fun q => ⟨0, by omega, rfl, ⟨fun e => by omega, fun e => absurd e q⟩⟩
  by_cases g1 : hm c (ko c i) = hm c (ko c j)
  · rw [if_pos (by rw [g1])]
    by_cases g2 : sp c i = sp c j
    · rw [if_pos (by rw [g2])]
      simp only [c_pair, z_bi]
      simp (disch := omega) only [z_ld, z_bi]
      rw [hb.2.2.2.2.2.2.1 i j hi hj, hb.2.2.2.2.2.2.1 j i hj hi]
      by_cases g3 : ct c i j = 0
      · rw [if_pos ((dv_0 w hj).mpr g3)]
        by_cases g4 : ct c j i = 0
        · rw [if_pos ((dv_0 w hi).mpr g4)]
          obtain ⟨v, v1, v2, v3⟩ := key 0 (by omega) FU (by have := FU_b; omega)
          rw [show nI 0 = (0 : Int32) from rfl] at v2
          refine ⟨v, v1, v2, ?_⟩
          rw [v3]
          exact ⟨fun g => ⟨g1, g2, g3, g4, fun m a b d => g m (by omega) a b d⟩, fun g m _ a b d => g.2.2.2.2 m a b d⟩
        · rw [if_neg (fun q => g4 ((dv_0 w hi).mp q))]
          exact no (fun g => g4 g.2.2.2.1)
      · rw [if_neg (fun q => g3 ((dv_0 w hj).mp q))]
        exact no (fun g => g3 g.2.2.1)
    · rw [if_neg (by rw [z_eq (by omega) (by omega)]; exact g2)]
      exact no (fun g => g2 g.2.1)
  · rw [if_neg (by rw [z_eq (by omega) (by omega)]; exact g1)]
    exact no (fun g => g1 g.1)
/-- what a gap of a pair is asked to be, beside a plan and an order -/
def gOK (c : Cf) (T π : Nat → Nat) (i j g : Nat) : Prop := g ≤ 26 ∧ (g ≠ 0 → T i + (g - 1) ≤ T j ∧ π i < π j) ∧ (ct c j i ≠ 0 → dd c j i + 1 ≤ g) ∧ (i < j → LK c i j → 1 ≤ g)
def GO (c : Cf) (T π : Nat → Nat) (i j : Nat) (σ : HS) : Prop := ∃ g, σ.1 56 (i * 6 + j) = mtv g ∧ gOK c T π i j g
theorem c_mg12 {c : Cf} (w : WF c) {T π : Nat → Nat} (hT : ∀ i, i < c 23 → T i ≤ 25) (hE : ∀ i j, i < c 23 → j < c 23 → (ct c j i ≠ 0 → T i + dd c j i ≤ T j ∧ π i < π j) ∧ (i < j → LK c i j → T i ≤ T j ∧ π i < π j)) (k : Int32 → HS → Option HS) {i : Nat} (hi : i < c 23) : ∀ j, j ≤ c 23 → ∀ n, c 23 < j + n → ∀ σ, BOK c σ → (∀ x y, x < c 23 → y < c 23 → x * 6 + y < i * 6 + j → GO c T π x y σ) → ∃ σ', fr [56] σ σ' ∧ (∀ x y, x < c 23 → y < c 23 → x * 6 + y < i * 6 + c 23 → GO c T π x y σ') ∧ f_X5_measureGaps_12 k n (nI i) (nI j) σ = k (nI i) σ' := by
  have hn := w.p_n
  refine dn_ind ?_ ?_
  · intro n hn' σ hb hg
    obtain ⟨n, rfl⟩ : ∃ m, n = m + 1 := ⟨n - 1, by omega⟩
    exact ⟨σ, fr.rf _ _, hg, by rw [f_X5_measureGaps_12, hb.1, if_pos (by rw [z_le (by omega) (by omega)]; omega)]⟩
  · intro j hj ih n hn' σ hb hg
    obtain ⟨n, rfl⟩ : ∃ m, n = m + 1 := ⟨n - 1, by omega⟩
    have hE' := hE i j hi hj
    have hTj := hT j hj
    have hdd := dd_le w (i := j) hi
    have st : ∀ g, gOK c T π i j g → ∃ σ', fr [56] σ σ' ∧ (∀ x y, x < c 23 → y < c 23 → x * 6 + y < i * 6 + c 23 → GO c T π x y σ') ∧ f_X5_measureGaps_12 k n (nI i) (nI (j + 1)) (sI σ 56 (i * 6 + j) (mtv g)) = k (nI i) σ' := by
      intro g hgo
      have f1 : fr [56] σ (sI σ 56 (i * 6 + j) (mtv g)) := fr.sI (by simp)
      obtain ⟨σ', a1, a2, a3⟩ := ih n (by omega) _ (hb.fr f1 (by simp)) (by
        intro x y hx hy hxy
        by_cases q : x * 6 + y = i * 6 + j
        · have : x = i ∧ y = j := by omega
          rw [this.1, this.2]
          exact ⟨g, by rw [s_I1]; unfold upd; rw [if_pos rfl], hgo⟩
        · obtain ⟨g', g1, g2⟩ := hg x y hx hy (by omega)
          exact ⟨g', by rw [s_I1]; unfold upd; rw [if_neg q]; exact g1, g2⟩)
      exact ⟨σ', f1.tr a1, a2, a3⟩
    have hd0 : ¬ (i < j ∧ LK c i j) → gOK c T π i j (if ct c j i = 0 then 0 else dd c j i + 1) := by
      intro q
      by_cases e : ct c j i = 0
      · rw [if_pos e]
        exact ⟨by omega, fun g => absurd rfl g, fun g => absurd e g, fun g1 g2 => absurd ⟨g1, g2⟩ q⟩
      · rw [if_neg e]
        have := hE'.1 e
        exact ⟨by omega, fun _ => ⟨by omega, this.2⟩, fun _ => Nat.le_refl _, fun _ _ => by omega⟩
    rw [f_X5_measureGaps_12, hb.1, if_neg (by rw [z_le (by omega) (by omega)]; omega)]
    simp only [c_pair, z_bi]
    rw [z_ld (by omega) (by omega), z_bi, hb.2.2.2.2.2.2.1 j i hj hi, dv_mtv]
    by_cases e : j ≤ i
    · rw [if_pos (by rw [z_le (by omega) (by omega)]; exact e), z_st (by omega) (by omega), z_bi, show (1 : Int32) = nI 1 from rfl, z_add]
      exact st _ (hd0 (fun q => by omega))
    · rw [if_neg (by rw [z_le (by omega) (by omega)]; exact e)]
      obtain ⟨v, v1, v2, v3⟩ := c_areLike w hb hi hj
      rw [v2, z_bi]
      by_cases ev : v = 0
      · rw [if_pos (by rw [ev]; rfl), z_st (by omega) (by omega), z_bi, show (1 : Int32) = nI 1 from rfl, z_add]
        exact st _ (hd0 (fun q => by have := v3.mpr q.2; omega))
      · have lk := v3.mp (by omega)
        rw [if_neg (by rw [z_0, z_eq (by omega) (by omega)]; exact ev), z_st (by omega) (by omega), z_bi, show (1 : Int32) = nI 1 from rfl, z_add, show (0 : Int32) = mtv 1 from rfl]
        have := hE'.2 (by omega) lk
        exact st 1 ⟨by omega, fun _ => ⟨by omega, this.2⟩, fun g => absurd lk.2.2.2.1 g, fun _ _ => Nat.le_refl _⟩
theorem c_widen {c : Cf} (w : WF c) {T π : Nat → Nat} (hT : ∀ i, i < c 23 → T i ≤ 25) {σ : HS} (hg : ∀ x y, x < c 23 → y < c 23 → GO c T π x y σ) {i o j : Nat} (hi : i < c 23) (ho : o < c 23) (hj : j < c 23) : ∃ σ', f_X5_widenGap (nI i) (nI o) (nI j) σ = some σ' ∧ fr [56] σ σ' ∧ ∀ x y, x < c 23 → y < c 23 → GO c T π x y σ' := by
  have hn := w.p_n
  obtain ⟨g1, a1, a2⟩ := hg i o hi ho
  obtain ⟨g2, b1, b2⟩ := hg o j ho hj
  obtain ⟨g3, d1, d2⟩ := hg i j hi hj
  have t1 := hT j hj
  rw [f_X5_widenGap]
  simp only [c_pair, z_bi]
  rw [z_ld (by omega) (by omega), z_bi, z_ld (by omega) (by omega), z_bi, z_ld (by omega) (by omega), z_bi, a1, b1, d1]
  have l1 := a2.1
  have l2 := b2.1
  have l3 := d2.1
  by_cases e1 : g1 = 0
  · rw [if_pos ((mtv_0 (by omega)).mpr e1)]
    exact ⟨σ, rfl, fr.rf _ _, hg⟩
  · rw [if_neg (fun q => e1 ((mtv_0 (by omega)).mp q))]
    by_cases e2 : g2 = 0
    · rw [if_pos ((mtv_0 (by omega)).mpr e2)]
      exact ⟨σ, rfl, fr.rf _ _, hg⟩
    · rw [if_neg (fun q => e2 ((mtv_0 (by omega)).mp q)), mtv_s e1, mtv_s e2, z_add, c_maxm (by omega) (by omega), z_bi, z_st (by omega) (by omega), z_bi]
      have f1 : fr [56] σ (sI σ 56 (i * 6 + j) (nI (max (g3 - 1) (g1 - 1 + (g2 - 1))))) := fr.sI (by simp)
      refine ⟨_, rfl, f1, fun x y hx hy => ?_⟩
      by_cases q : x * 6 + y = i * 6 + j
      · have : x = i ∧ y = j := by omega
        rw [this.1, this.2]
        have s1 := a2.2.1 e1
        have s2 := b2.2.1 e2
        refine ⟨max (g3 - 1) (g1 - 1 + (g2 - 1)) + 1, by rw [s_I1]; unfold upd; rw [if_pos rfl]; rfl, ?_, fun _ => ⟨?_, by omega⟩, fun q => ?_, fun q1 q2 => by omega⟩
        · by_cases e3 : g3 = 0
          · omega
          · have := d2.2.1 e3; omega
        · by_cases e3 : g3 = 0
          · omega
          · have := d2.2.1 e3; omega
        · have := d2.2.2.1 q; omega
      · obtain ⟨g', k1, k2⟩ := hg x y hx hy
        exact ⟨g', by rw [s_I1]; unfold upd; rw [if_neg q]; exact k1, k2⟩
theorem c_mg97 {c : Cf} (w : WF c) {T π : Nat → Nat} (hT : ∀ i, i < c 23 → T i ≤ 25) (k : Int32 → Int32 → HS → Option HS) {o i : Nat} (ho : o < c 23) (hi : i < c 23) : ∀ j, j ≤ c 23 → ∀ n, c 23 < j + n → ∀ σ, BOK c σ → (∀ x y, x < c 23 → y < c 23 → GO c T π x y σ) → ∃ σ', fr [56] σ σ' ∧ (∀ x y, x < c 23 → y < c 23 → GO c T π x y σ') ∧ f_X5_measureGaps_97 k n (nI o) (nI i) (nI j) σ = k (nI o) (nI i) σ' := by
  have hn := w.p_n
  refine dn_ind ?_ ?_
  · intro n hn' σ hb hg
    obtain ⟨n, rfl⟩ : ∃ m, n = m + 1 := ⟨n - 1, by omega⟩
    exact ⟨σ, fr.rf _ _, hg, by rw [f_X5_measureGaps_97, hb.1, if_pos (by rw [z_le (by omega) (by omega)]; omega)]⟩
  · intro j hj ih n hn' σ hb hg
    obtain ⟨n, rfl⟩ : ∃ m, n = m + 1 := ⟨n - 1, by omega⟩
    obtain ⟨σ1, a1, a2, a3⟩ := c_widen w hT hg hi ho hj
    obtain ⟨σ', b1, b2, b3⟩ := ih n (by omega) σ1 (hb.fr a2 (by simp)) a3
    refine ⟨σ', a2.tr b1, b2, ?_⟩
    rw [f_X5_measureGaps_97, hb.1, if_neg (by rw [z_le (by omega) (by omega)]; omega), a1, z_bi, show (1 : Int32) = nI 1 from rfl, z_add]
    exact b3
theorem c_mg86 {c : Cf} (w : WF c) {T π : Nat → Nat} (hT : ∀ i, i < c 23 → T i ≤ 25) (k : Int32 → HS → Option HS) {o : Nat} (ho : o < c 23) : ∀ i, i ≤ c 23 → ∀ n, c 23 < i + n → ∀ σ, BOK c σ → (∀ x y, x < c 23 → y < c 23 → GO c T π x y σ) → ∃ σ', fr [56] σ σ' ∧ (∀ x y, x < c 23 → y < c 23 → GO c T π x y σ') ∧ f_X5_measureGaps_86 k n (nI o) (nI i) σ = k (nI o) σ' := by
  have hn := w.p_n
  refine dn_ind ?_ ?_
  · intro n hn' σ hb hg
    obtain ⟨n, rfl⟩ : ∃ m, n = m + 1 := ⟨n - 1, by omega⟩
    exact ⟨σ, fr.rf _ _, hg, by rw [f_X5_measureGaps_86, hb.1, if_pos (by rw [z_le (by omega) (by omega)]; omega)]⟩
  · intro i hi ih n hn' σ hb hg
    obtain ⟨n, rfl⟩ : ∃ m, n = m + 1 := ⟨n - 1, by omega⟩
    obtain ⟨σ1, a1, a2, a3⟩ := c_mg97 w hT (fun e2 e3 σ4 => f_X5_measureGaps_86 k n e2 (e3 + 1) σ4) ho hi 0 (by omega) FU (by have := FU_b; omega) σ hb hg
    obtain ⟨σ', b1, b2, b3⟩ := ih n (by omega) σ1 (hb.fr a1 (by simp)) a2
    refine ⟨σ', a1.tr b1, b2, ?_⟩
    rw [show nI 0 = (0 : Int32) from rfl] at a3
    rw [f_X5_measureGaps_86, hb.1, if_neg (by rw [z_le (by omega) (by omega)]; omega), a3]
    show f_X5_measureGaps_86 k n (nI o) (nI i + nI 1) σ1 = _
    rw [z_add]; exact b3
theorem c_mg76 {c : Cf} (w : WF c) {T π : Nat → Nat} (hT : ∀ i, i < c 23 → T i ≤ 25) : ∀ o, o ≤ c 23 → ∀ n, c 23 < o + n → ∀ σ, BOK c σ → (∀ x y, x < c 23 → y < c 23 → GO c T π x y σ) → ∃ σ', fr [56] σ σ' ∧ (∀ x y, x < c 23 → y < c 23 → GO c T π x y σ') ∧ f_X5_measureGaps_76 n (nI o) σ = some σ' := by
  have hn := w.p_n
  refine dn_ind ?_ ?_
  · intro n hn' σ hb hg
    obtain ⟨n, rfl⟩ : ∃ m, n = m + 1 := ⟨n - 1, by omega⟩
    exact ⟨σ, fr.rf _ _, hg, by rw [f_X5_measureGaps_76, hb.1, if_pos (by rw [z_le (by omega) (by omega)]; omega)]⟩
  · intro o ho ih n hn' σ hb hg
    obtain ⟨n, rfl⟩ : ∃ m, n = m + 1 := ⟨n - 1, by omega⟩
    obtain ⟨σ1, a1, a2, a3⟩ := c_mg86 w hT (fun e5 σ6 => f_X5_measureGaps_76 n (e5 + 1) σ6) ho 0 (by omega) FU (by have := FU_b; omega) σ hb hg
    obtain ⟨σ', b1, b2, b3⟩ := ih n (by omega) σ1 (hb.fr a1 (by simp)) a2
    refine ⟨σ', a1.tr b1, b2, ?_⟩
    rw [show nI 0 = (0 : Int32) from rfl] at a3
    rw [f_X5_measureGaps_76, hb.1, if_neg (by rw [z_le (by omega) (by omega)]; omega), a3]
    show f_X5_measureGaps_76 n (nI o + nI 1) σ1 = _
    rw [z_add]; exact b3
theorem c_mg2 {c : Cf} (w : WF c) {T π : Nat → Nat} (hT : ∀ i, i < c 23 → T i ≤ 25) (hE : ∀ i j, i < c 23 → j < c 23 → (ct c j i ≠ 0 → T i + dd c j i ≤ T j ∧ π i < π j) ∧ (i < j → LK c i j → T i ≤ T j ∧ π i < π j)) : ∀ i, i ≤ c 23 → ∀ n, c 23 < i + n → ∀ σ, BOK c σ → (∀ x y, x < c 23 → y < c 23 → x * 6 + y < i * 6 → GO c T π x y σ) → ∃ σ', fr [56] σ σ' ∧ (∀ x y, x < c 23 → y < c 23 → GO c T π x y σ') ∧ f_X5_measureGaps_2 n (nI i) σ = some σ' := by
  have hn := w.p_n
  refine dn_ind ?_ ?_
  · intro n hn' σ hb hg
    obtain ⟨n, rfl⟩ : ∃ m, n = m + 1 := ⟨n - 1, by omega⟩
    obtain ⟨σ', a1, a2, a3⟩ := c_mg76 w hT 0 (by omega) FU (by have := FU_b; omega) σ hb (fun x y hx hy => hg x y hx hy (by omega))
    refine ⟨σ', a1, a2, ?_⟩
    rw [show nI 0 = (0 : Int32) from rfl] at a3
    rw [f_X5_measureGaps_2, hb.1, if_pos (by rw [z_le (by omega) (by omega)]; omega), a3]
  · intro i hi ih n hn' σ hb hg
    obtain ⟨n, rfl⟩ : ∃ m, n = m + 1 := ⟨n - 1, by omega⟩
    obtain ⟨σ1, a1, a2, a3⟩ := c_mg12 w hT hE (fun e14 σ15 => f_X5_measureGaps_2 n (e14 + 1) σ15) hi 0 (by omega) FU (by have := FU_b; omega) σ hb (fun x y hx hy q => hg x y hx hy (by omega))
    obtain ⟨σ', b1, b2, b3⟩ := ih n (by omega) σ1 (hb.fr a1 (by simp)) (fun x y hx hy q => a2 x y hx hy (by omega))
    refine ⟨σ', a1.tr b1, b2, ?_⟩
    rw [show nI 0 = (0 : Int32) from rfl] at a3
    rw [f_X5_measureGaps_2, hb.1, if_neg (by rw [z_le (by omega) (by omega)]; omega), a3]
    show f_X5_measureGaps_2 n (nI i + nI 1) σ1 = _
    rw [z_add]; exact b3
def GT (c : Cf) (T π : Nat → Nat) (Γ : Nat → Nat → Nat) (σ : HS) : Prop := ∀ i j, i < c 23 → j < c 23 → σ.1 56 (i * 6 + j) = mtv (Γ i j) ∧ gOK c T π i j (Γ i j)
theorem c_measureGaps {c : Cf} (w : WF c) {L : Nat} {T π : Nat → Nat} (hB : BE c L T) (hπ : ∀ i j, i < c 23 → j < c 23 → (ct c j i ≠ 0 ∨ (i < j ∧ LK c i j)) → π i < π j) {σ : HS} (hb : BOK c σ) : ∃ σ' Γ, f_X5_measureGaps σ = some σ' ∧ fr [56] σ σ' ∧ GT c T π Γ σ' := by
  obtain ⟨σ', a1, a2, a3⟩ := c_mg2 w (LF_25 w hB.1) (π := π) (fun i j hi hj => ⟨fun q => ⟨hB.1.1.1.1 j i hj hi q, hπ i j hi hj (Or.inl q)⟩, fun q1 q2 => ⟨LF_like w hB.1 q1 hj q2, hπ i j hi hj (Or.inr ⟨q1, q2⟩)⟩⟩) 0 (by omega) FU (by have := FU_b; have := w.p_n; omega) σ hb (fun x y hx hy q => by omega)
  have ex : ∀ p : Nat × Nat, ∃ g, p.1 < c 23 → p.2 < c 23 → σ'.1 56 (p.1 * 6 + p.2) = mtv g ∧ gOK c T π p.1 p.2 g := by
    intro p
    by_cases h : p.1 < c 23 ∧ p.2 < c 23
    · obtain ⟨g, hg⟩ := a2 p.1 p.2 h.1 h.2
      exact ⟨g, fun _ _ => hg⟩
    · exact ⟨0, fun h1 h2 => absurd ⟨h1, h2⟩ h⟩
  obtain ⟨f, hf⟩ := Classical.axiomOfChoice ex
  refine ⟨σ', fun i j => f (i, j), ?_, a1, fun i j hi hj => hf (i, j) hi hj⟩
  rw [show nI 0 = (0 : Int32) from rfl] at a3
  rw [f_X5_measureGaps]; exact a3
