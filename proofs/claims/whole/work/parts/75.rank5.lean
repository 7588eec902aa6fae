-- the reference's turns by ranks
theorem m_rkReady {c : Cf} (w : WF c) {σ : HS} (h : MR c σ) {S : Nat → Nat} (hS : TMv 78 c S σ) {x now : Nat} (hx : x < c 23) (hw : now ≤ 40) : f_X9_isReady (nI x) (nI now) σ = some (nI (b2 (rdb c S x now)), σ) := by
  have hn := w.p_n
  have key : ∀ j, j ≤ c 23 → ∀ n, c 23 < j + n → ∀ y, y ≤ 1 → ∃ v, v ≤ 1 ∧ f_X9_isReady_5 n (nI x) (nI now) (nI y) (nI j) σ = some (nI v, σ) ∧ (v = 1 ↔ y = 1 ∧ ∀ j', j ≤ j' → j' < c 23 → (ct c x j' = 0 ∨ (S j' ≠ 0 ∧ S j' - 1 + dd c x j' ≤ now))) := by
    refine dn_ind ?_ ?_
    · intro n hn' y hy
      obtain ⟨n, rfl⟩ : ∃ m, n = m + 1 := ⟨n - 1, by omega⟩
      refine ⟨y, hy, ?_, ⟨fun e => ⟨e, fun j' _ _ => by omega⟩, fun e => e.1⟩⟩
      rw [f_X9_isReady_5, show (23 : Int32) = nI 23 from rfl, z_ld (by omega) (by omega), z_bi, h 23 (by omega), if_pos (by rw [z_le (by omega) (by omega)]; omega), z_bz (by omega), z_bi]
    · intro j hj ih n hn' y hy
      obtain ⟨n, rfl⟩ : ∃ m, n = m + 1 := ⟨n - 1, by omega⟩
      obtain ⟨s1, s2⟩ := hS j hj
      have hd := dd_le w (i := x) hj
      have c2 : ct c x j ≤ 2 := by
        have := w.p_nd (show x < 6 by omega) (show j < 6 by omega)
        unfold ct; split <;> omega
      have good : y = 1 → (ct c x j = 0 ∨ (S j ≠ 0 ∧ S j - 1 + dd c x j ≤ now)) → ∃ v, v ≤ 1 ∧ f_X9_isReady_5 n (nI x) (nI now) (nI 1) (nI j + nI 1) σ = some (nI v, σ) ∧ (v = 1 ↔ y = 1 ∧ ∀ j', j ≤ j' → j' < c 23 → (ct c x j' = 0 ∨ (S j' ≠ 0 ∧ S j' - 1 + dd c x j' ≤ now))) := by
        intro hy1 g
        obtain ⟨v, v1, v2, v3⟩ := ih n (by omega) 1 (by omega)
        refine ⟨v, v1, by rw [z_add]; exact v2, ?_⟩
        rw [v3]
        exact ⟨fun h => ⟨hy1, fun j' q1 q2 => by
          by_cases e : j' = j
          · rw [e]; exact g
          · exact h.2 j' (by omega) q2⟩, fun h => ⟨rfl, fun j' q1 q2 => h.2 j' (by omega) q2⟩⟩
      have bad : (¬ (ct c x j = 0 ∨ (S j ≠ 0 ∧ S j - 1 + dd c x j ≤ now)) ∨ y = 0) → ∃ v, v ≤ 1 ∧ f_X9_isReady_5 n (nI x) (nI now) (nI 0) (nI j + nI 1) σ = some (nI v, σ) ∧ (v = 1 ↔ y = 1 ∧ ∀ j', j ≤ j' → j' < c 23 → (ct c x j' = 0 ∨ (S j' ≠ 0 ∧ S j' - 1 + dd c x j' ≤ now))) := by
        intro g
        obtain ⟨v, v1, v2, v3⟩ := ih n (by omega) 0 (by omega)
        refine ⟨v, v1, by rw [z_add]; exact v2, ?_⟩
        rw [v3]
        refine ⟨fun h => by omega, fun h => ?_⟩
        rcases g with g | g
        · exact absurd (h.2 j (by omega) hj) g
        · omega
      rw [f_X9_isReady_5, show (23 : Int32) = nI 23 from rfl, z_ld (by omega) (by omega), z_bi, h 23 (by omega), if_neg (by rw [z_le (by omega) (by omega)]; omega), m_counts h w (by omega) (by omega), z_bi]
      by_cases y0 : y = 0
      · rw [if_pos (by rw [y0]; rfl)]
        exact bad (Or.inr y0)
      · rw [if_neg (by rw [z_0, z_eq (by omega) (by omega)]; exact y0)]
        by_cases e : ct c x j = 0
        · rw [if_pos (by rw [e]; rfl)]
          exact good (by omega) (Or.inl e)
        · rw [if_neg (by rw [z_0, z_eq (by omega) (by omega)]; exact e), z_ld (by omega) (by omega), z_bi, s2]
          by_cases z : S j = 0
          · rw [if_pos ((mtv_0 (by omega)).mpr z)]
            exact bad (Or.inl (fun q => by rcases q with q | q <;> omega))
          · rw [if_neg (fun q => z ((mtv_0 (by omega)).mp q)), z_bi, m_behind h w hj c2, z_bi, mtv_s z]
            rw [show (if ct c x j = 1 then la c j else 0) = dd c x j from rfl, z_add]
            by_cases g : now < S j - 1 + dd c x j
            · rw [if_pos (by rw [z_lt (by omega) (by omega)]; exact g)]
              exact bad (Or.inl (fun q => by rcases q with q | q <;> omega))
            · rw [if_neg (by rw [z_lt (by omega) (by omega)]; exact g)]
              exact good (by omega) (Or.inr ⟨z, by omega⟩)
  obtain ⟨v, v1, v2, v3⟩ := key 0 (by omega) FU (by have := FU_b; omega) 1 (by omega)
  rw [show nI 0 = (0 : Int32) from rfl, show nI 1 = (1 : Int32) from rfl] at v2
  rw [f_X9_isReady, v2]
  congr 3
  unfold rdb b2
  by_cases q : v = 1
  · rw [if_pos (by rw [decide_eq_true_eq]; exact fun j hj => (v3.mp q).2 j (by omega) hj), q]
  · rw [if_neg (by rw [decide_eq_true_eq]; exact fun h => q (v3.mpr ⟨rfl, fun j _ hj => h j hj⟩))]; omega
theorem frb_FRE {c : Cf} (w : WF c) {S : Nat → Nat} {x now : Nat} (hx : x < c 23) : frb c S x now = true ↔ FRE c (fun i => S i - 1) (fun i => S i ≠ 0) x now := by
  unfold frb FRE
  rw [decide_eq_true_eq]
  constructor
  · intro h i hi hp hc
    rcases h i hi with q | q
    · exact hp q
    · rw [(clb_CL w hi hx _ _).mpr hc] at q; cases q
  · intro h j hj
    by_cases z : S j = 0
    · exact Or.inl z
    · right
      cases q : clb c j (S j - 1) x now with
      | false => rfl
      | true => exact absurd ((clb_CL w hj hx _ _).mp q) (h j hj z)
def BZs (c : Cf) (S : Nat → Nat) (σ : HS) : Prop := BZ c (fun i => S i - 1) (fun i => S i ≠ 0) σ
theorem m_rk34 {c : Cf} (w : WF c) {O : Nat → Nat} (hO : ∀ j, j < c 23 → O j < c 23) {S : Nat → Nat} {now : Nat} (hw : now < 40) (k : Int32 → Int32 → HS → Option (Int32 × HS)) {m : Nat} (hm : m ≤ 6) : ∀ p, p ≤ c 23 → ∀ n, c 23 < p + n → ∀ σ : HS, MR c σ → (∀ j, j < c 23 → σ.1 80 j = nI (O j)) → TMv 78 c (bgF c O now S p).1 σ → BZs c (bgF c O now S p).1 σ → ∃ σ', f_X9_findRanked_34 k n (nI (m + (bgF c O now S p).2)) (nI now) (nI (bgF c O now S p).2) (nI p) σ = k (nI (m + (bgF c O now S (c 23)).2)) (nI now) σ' ∧ fr [78] σ σ' ∧ TMv 78 c (bgF c O now S (c 23)).1 σ' ∧ BZs c (bgF c O now S (c 23)).1 σ' := by
  have hn := w.p_n
  have hwd := w.p_wd
  refine dn_ind ?_ ?_
  · intro n hn' σ h h2 hS hz
    obtain ⟨n, rfl⟩ : ∃ m, n = m + 1 := ⟨n - 1, by omega⟩
    refine ⟨σ, ?_, fr.rf _ _, hS, hz⟩
    rw [f_X9_findRanked_34, show (23 : Int32) = nI 23 from rfl, z_ld (by omega) (by omega), z_bi, h 23 (by omega), if_pos (by rw [z_le (by omega) (by omega)]; omega)]
  · intro p hp ih n hn' σ h h2 hS hz
    obtain ⟨n, rfl⟩ : ∃ m, n = m + 1 := ⟨n - 1, by omega⟩
    have hl := bgF_le (c := c) O now S p
    have hv := hO p hp
    have ih := ih n (by omega)
    rw [bgF] at ih
    generalize hB : bgF c O now S p = B at ih hS hl hz
    have no : ¬ (B.1 (O p) = 0 ∧ B.2 < c 21 ∧ rdb c B.1 (O p) now = true ∧ frb c B.1 (O p) now = true) → ∃ σ', f_X9_findRanked_34 k n (nI (m + B.2)) (nI now) (nI B.2) (nI p + 1) σ = k (nI (m + (bgF c O now S (c 23)).2)) (nI now) σ' ∧ fr [78] σ σ' ∧ TMv 78 c (bgF c O now S (c 23)).1 σ' ∧ BZs c (bgF c O now S (c 23)).1 σ' := by
      intro g
      rw [stp, if_neg g] at ih
      rw [show (1 : Int32) = nI 1 from rfl, z_add]
      exact ih σ h h2 hS hz
    rw [f_X9_findRanked_34, show (23 : Int32) = nI 23 from rfl, z_ld (by omega) (by omega), z_bi, h 23 (by omega), if_neg (by rw [z_le (by omega) (by omega)]; omega), z_ld (by omega) (by omega), z_bi, h2 p hp, z_ld (by omega) (by omega), z_bi, (hS _ hv).2]
    have hs := (hS _ hv).1
    by_cases z : B.1 (O p) = 0
    · rw [if_pos ((mtv_0 (by omega)).mpr z), show (21 : Int32) = nI 21 from rfl, z_ld (by omega) (by omega), z_bi, h 21 (by omega)]
      by_cases e : c 21 ≤ B.2
      · rw [if_pos (by rw [z_le (by omega) (by omega)]; exact e)]
        exact no (fun g => by omega)
      · rw [if_neg (by rw [z_le (by omega) (by omega)]; exact e), m_rkReady w h hS hv (by omega), z_bi]
        cases q1 : rdb c B.1 (O p) now with
        | false =>
          rw [if_pos (show nI (b2 false) = 0 from rfl)]
          exact no (fun g => by rw [q1] at g; cases g.2.2.1)
        | true =>
          obtain ⟨v, v1, v2, v3⟩ := m_isFree h w hz hv (show now < 50 by omega)
          rw [if_neg (show ¬ nI (b2 true) = 0 by decide), v2, z_bi]
          by_cases q2 : v = 1
          · have hf := v3.mp q2
            have q2' := (frb_FRE w hv).mpr hf
            rw [if_neg (show ¬ nI v = 0 by rw [q2]; decide), z_st (by omega) (by omega), z_bi]
            rw [stp, if_pos ⟨z, by omega, q1, q2'⟩] at ih
            have f1 : fr [78] σ (sI σ 78 (O p) (nI now)) := fr.sI (by simp)
            obtain ⟨σ2, a1, a2, a3⟩ := m_exchange (MR.fr h f1 (by simp)) w (BZ.fr (σ' := sI σ 78 (O p) (nI now)) hz rfl) hv (show now < 50 by omega) hf (fun g => g z)
            have f2 : fr [78] σ σ2 := fun o ho => by rw [a2]; exact f1 o ho
            obtain ⟨σ', b1, b2', b3, b4⟩ := ih σ2 (MR.fr h f2 (by simp)) (by rw [f2 80 (by simp)]; exact h2) (by
              intro j hj
              rw [a2]; exact (hS.st hw) j hj) (by
              refine a3.cg (fun i _ => ?_) (fun i _ _ => ?_)
              · show (B.1 i ≠ 0 ∨ i = O p) ↔ un B.1 (O p) (now + 1) i ≠ 0
                unfold un
                by_cases g : i = O p
                · rw [if_pos g]; exact ⟨fun _ => by omega, fun _ => Or.inr g⟩
                · rw [if_neg g]; exact ⟨fun q => q.elim id (fun q => absurd q g), Or.inl⟩
              · show un (fun i => B.1 i - 1) (O p) now i = un B.1 (O p) (now + 1) i - 1
                unfold un
                by_cases g : i = O p
                · rw [if_pos g, if_pos g]; omega
                · rw [if_neg g, if_neg g])
            refine ⟨σ', ?_, f2.tr b2', b3, b4⟩
            rw [a1, z_bi, show (1 : Int32) = nI 1 from rfl, z_add, z_add, z_add, Nat.add_assoc]
            exact b1
          · rw [if_pos (by rw [show v = 0 by omega]; rfl)]
            exact no (fun g => q2 (v3.mpr ((frb_FRE w hv).mp g.2.2.2)))
    · rw [if_neg (fun q => z ((mtv_0 (by omega)).mp q))]
      exact no (fun g => z g.1)
theorem pld_0 : ∀ n, pld (fun _ => 0) n = 0 := by
  intro n
  induction n with
  | zero => rfl
  | succ n ih => unfold pld at ih ⊢; rw [fb_ct_succ, ih]; rfl
theorem m_findRanked {c : Cf} (w : WF c) {σ : HS} (h : MR c σ) {r : Nat} (hr : r ≤ 2) : ∃ σ', f_X9_findRanked (nI r) σ = some (nI (len c (rkT c r)), σ') ∧ fr [76, 77, 78, 80] σ σ' ∧ TN 78 (rkT c r) (c 23) σ' := by
  have hn := w.p_n
  have hO : ∀ j, j < c 23 → rkO c r j < c 23 := fun j hj => ord_b _ _ _ hj
  have h26 : pld (RU c (rkO c r) 26) (c 23) = c 23 := RU_26 w hO (fun x hx => ord_m _ _ _ hx)
  obtain ⟨σ1, a1, a2, a3⟩ := m_findWays w h
  have h1 : MR c σ1 := MR.fr h a2 (by simp)
  obtain ⟨σ2, b1, b2, b3⟩ := m_findOrder w hr h1 a3
  have h2 : MR c σ2 := MR.fr h1 b2 (by simp)
  obtain ⟨σ3, d1, d2, d3, d4⟩ := m_clearAll (c := c) (fun _ => 0) σ2
  have h3 : MR c σ3 := MR.fr h2 d2 (by simp)
  have fin : ∀ t, t ≤ 26 → pld (RU c (rkO c r) t) (c 23) = c 23 → RU c (rkO c r) t = rkS c r := by
    intro t ht e
    have := RU_full hO e (26 - t)
    rw [show t + (26 - t) = 26 by omega] at this
    exact this.symm
  have ex : ∀ t, t ≤ 26 → pld (RU c (rkO c r) t) (c 23) = c 23 → ∀ (n : Nat) (σ : HS), MR c σ → TMv 78 c (RU c (rkO c r) t) σ → ∃ σ', f_X9_findRanked_17 (n + 1) (nI (pld (RU c (rkO c r) t) (c 23))) (nI t) σ = some (nI (len c (rkT c r)), σ') ∧ fr [78] σ σ' ∧ TN 78 (rkT c r) (c 23) σ' := by
    intro t ht e n σ h hS
    rw [fin t ht e] at hS
    have hT := rk_TN w hS
    refine ⟨σ, ?_, fr.rf _ _, hT⟩
    rw [f_X9_findRanked_17, show (23 : Int32) = nI 23 from rfl, z_ld (by omega) (by omega), z_bi, h 23 (by omega), if_pos (by rw [z_le (by omega) (by omega)]; omega), m_lengthOf h w hT, z_bi]
  have key : ∀ t, t ≤ 26 → ∀ n, 26 < t + n → ∀ σ : HS, MR c σ → (∀ j, j < c 23 → σ.1 80 j = nI (rkO c r j)) → TMv 78 c (RU c (rkO c r) t) σ → BZs c (RU c (rkO c r) t) σ → ∃ σ', f_X9_findRanked_17 n (nI (pld (RU c (rkO c r) t) (c 23))) (nI t) σ = some (nI (len c (rkT c r)), σ') ∧ fr [78] σ σ' ∧ TN 78 (rkT c r) (c 23) σ' := by
    refine dn_ind ?_ ?_
    · intro n hn' σ h h2 hS hz
      obtain ⟨n, rfl⟩ : ∃ m, n = m + 1 := ⟨n - 1, by omega⟩
      exact ex 26 (by omega) h26 n σ h hS
    · intro t ht ih n hn' σ h h2 hS hz
      obtain ⟨n, rfl⟩ : ∃ m, n = m + 1 := ⟨n - 1, by omega⟩
      have hp := pld_le (RU c (rkO c r) t) (c 23)
      by_cases e : pld (RU c (rkO c r) t) (c 23) = c 23
      · exact ex t (by omega) e n σ h hS
      · rw [f_X9_findRanked_17, show (23 : Int32) = nI 23 from rfl, z_ld (by omega) (by omega), z_bi, h 23 (by omega), if_neg (by rw [z_le (by omega) (by omega)]; omega)]
        obtain ⟨σ4, g1, g2, g3, g4⟩ := m_rk34 w hO (S := RU c (rkO c r) t) (now := t) (by omega) (fun e14 e15 σ16 => f_X9_findRanked_17 n e14 (e15 + 1) σ16) (m := pld (RU c (rkO c r) t) (c 23)) (by omega) 0 (by omega) FU (by have := FU_b; omega) σ h h2 hS hz
        have ec := bgF_c hO t (RU c (rkO c r) t) (c 23) (Nat.le_refl _)
        have er : RU c (rkO c r) (t + 1) = (bgF c (rkO c r) t (RU c (rkO c r) t) (c 23)).1 := rfl
        rw [← er] at ec g3 g4
        rw [show (bgF c (rkO c r) t (RU c (rkO c r) t) 0).2 = 0 from rfl, Nat.add_zero, show nI 0 = (0 : Int32) from rfl] at g1
        obtain ⟨σ', k1, k2, k3⟩ := ih n (by omega) σ4 (MR.fr h g2 (by simp)) (by rw [g2 80 (by simp)]; exact h2) g3 g4
        refine ⟨σ', ?_, g2.tr k2, k3⟩
        rw [g1]
        show f_X9_findRanked_17 n _ (nI t + nI 1) σ4 = _
        rw [z_add, ← ec]
        exact k1
  obtain ⟨σ4, g1, g2, g3⟩ := key 0 (by omega) FU (by have := FU_b; omega) σ3 h3 (by rw [d2 80 (by simp)]; exact b3) (fun j hj => ⟨Nat.zero_le _, d3 j (by omega)⟩) (d4.cg (fun i _ => ⟨fun q => absurd q id, fun q => absurd rfl q⟩) (fun _ _ q => absurd q id))
  rw [show pld (RU c (rkO c r) 0) (c 23) = 0 from pld_0 _, show nI 0 = (0 : Int32) from rfl] at g1
  refine ⟨σ4, ?_, (((a2.up (by simp)).tr (b2.up (by simp))).tr (d2.up (by simp))).tr (g2.up (by simp)), g3⟩
  rw [f_X9_findRanked, a1, z_bi, b1, z_bi, d1, z_bi]
  exact g1
theorem m_ranked {a : AS} {σ : HS} (h : IM a σ) (w : WA a) (r x : Int32) : ∃ v a' σ', f_X9_ranked r x σ = some (v, σ') ∧ aRk r x a v a' ∧ IM a' σ' ∧ ME a a' σ σ' ∧ frM σ σ' := by
  have hn := w.1.p_n
  have hb : ¬ inRk r x a → ∃ v a' σ', ((f_X9_refuses (-2) σ).bind fun q => some (q.1, q.2)) = some (v, σ') ∧ aRk r x a v a' ∧ IM a' σ' ∧ ME a a' σ σ' ∧ frM σ σ' := by
    intro hno
    obtain ⟨σ', e1, e2, e3, e4⟩ := m_bad h (r := -2) (Or.inl rfl) (k := 0) (by decide)
    exact ⟨-2, _, σ', e1, Or.inr ⟨hno, rfl, rfl⟩, e2, e3, e4⟩
  have s29 : inRk r x a → ∃ v a' σ', f_X9_ranked_29 r x σ = some (v, σ') ∧ aRk r x a v a' ∧ IM a' σ' ∧ ME a a' σ σ' ∧ frM σ σ' := by
    intro hi
    obtain ⟨n, a1, a2, a3, a4, a5⟩ := okR_nI (lo := 0) (hi := 2) hi.1
    obtain ⟨σ1, d1, d2, d3⟩ := m_findRanked w.1 h.1 (r := n) a2
    refine ⟨vRk (aC a) r.toInt.toNat x, a, σ1, ?_, Or.inl ⟨hi, rfl, rfl⟩, h.fr d2 (by simp), ME.of71 d2 rfl (by simp), d2.toM (by simp)⟩
    rw [f_X9_ranked_29, a5, a4, d1, z_bi]
    unfold vRk
    by_cases e : x = -1
    · rw [if_pos e, if_pos e]
    · rw [if_neg e, if_neg e]
      rcases hi.2 with q | q
      · exact absurd q e
      · obtain ⟨m, b1, b2, b3⟩ := z_of (v := x) q.1
        rw [show x.toInt.toNat = m by omega, b2, z_ld (by omega) (by omega), z_bi, (d3 m (by omega)).2]
  rw [f_X9_ranked, show (2 : Int32) = nI 2 from rfl, z_0, m_inR (by omega) (by omega), z_bi]
  cases ok : okR (0 : Nat) (2 : Nat) r with
  | false =>
    rw [if_pos (show nI (b2 false) = nI 0 from rfl)]
    exact hb (fun e => by have := e.1; rw [show okR 0 2 r = false from ok] at this; cases this)
  | true =>
    rw [if_neg (show ¬ nI (b2 true) = nI 0 by decide)]
    by_cases q3 : x = -1
    · rw [if_pos q3]
      exact s29 ⟨ok, Or.inl q3⟩
    · rw [if_neg q3, m_isOne h.1 w.1, z_bi]
      by_cases hi : 0 ≤ x.toInt ∧ x.toInt < aC a 23
      · have e1 : decide (0 ≤ x.toInt ∧ x.toInt < (aC a 23 : Int)) = true := by simpa using hi
        rw [e1, if_neg (show ¬ nI (b2 true) = nI 0 by decide)]
        exact s29 ⟨ok, Or.inr hi⟩
      · have e1 : decide (0 ≤ x.toInt ∧ x.toInt < (aC a 23 : Int)) = false := by simpa using hi
        rw [e1, if_pos (show nI (b2 false) = nI 0 from rfl)]
        exact hb (fun e => e.2.elim (fun g => q3 g) (fun g => hi g))
