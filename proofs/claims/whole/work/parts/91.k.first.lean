-- the first of the shortest; the class's call
theorem c_takeTrial {c : Cf} (w : WF c) {σ : HS} (hb : BOK c σ) : ∃ σ', f_X5_takeTrial σ = some σ' ∧ fr [58] σ σ' ∧ ∀ k, k < c 23 → σ'.1 58 k = σ.1 57 k := by
  have hn := w.p_n
  rw [f_X5_takeTrial, hb.1, z_cp (by omega) (by omega) (by omega), z_bi]
  refine ⟨_, rfl, fr.sA (by simp), fun k hk => ?_⟩
  rw [s_A1]
  simp (disch := omega) only [va_cpy]
  simp [hk]
theorem st_b (i k : Nat) : (2 ^ i - 1).testBit k = decide (k < i) := Nat.testBit_two_pow_sub_one i k
theorem st_s (i : Nat) : 2 ^ (i + 1) - 1 = (2 ^ i - 1) ||| 1 <<< i := by
  apply Nat.eq_of_testBit_eq
  intro k
  rw [or1_b, st_b, st_b]
  by_cases e : k < i
  · simp [e]; omega
  · by_cases g : k = i
    · simp [g]
    · simp [e, g]; omega
theorem st_64 {i : Nat} (h : i ≤ 6) : 2 ^ i - 1 < 64 := by
  have : 2 ^ i ≤ 2 ^ 6 := Nat.pow_le_pow_right (by omega) h
  have : 1 ≤ 2 ^ i := Nat.one_le_two_pow
  omega
theorem st_w : ∀ i, i < 6 → (((1 : Int32) <<< ((nI i + 1) &&& 31) : Int32) - 1 : Int32) = nI ((2 ^ i - 1) ||| 1 <<< i) := by decide +kernel
theorem st_c {n i : Nat} (h : i ≤ n) : fb_ct (fun k => (2 ^ i - 1).testBit k) n = i := by
  rw [show n = i + (n - i) by omega, fb_ct_split, fb_ct_all.mpr (fun k hk => by rw [st_b]; simp [hk]), fb_ct_zero.mpr (fun k _ => by rw [st_b]; simp)]
  omega
theorem QQ_CN {c : Cf} {l : Nat} {Γ : Nat → Nat → Nat} {U : Nat → Nat} (h : QQ c l Γ U) (s : Nat) : CN c l Γ s U := ⟨fun i hi _ => h.1 i hi, fun i j hi hj _ _ hij => h.2.1 i j hi hj hij, fun i hi _ => Nat.le_trans (cs_le (fun _ _ _ => rfl) _) (h.2.2 i hi)⟩
theorem RC_cg {c : Cf} {l : Nat} {Γ : Nat → Nat → Nat} {s : Nat} {S S' : Nat → Nat} (h : ∀ k, k < c 23 → s.testBit k = true → S' k = S k) {j t : Nat} : RC c l Γ s S j t ↔ RC c l Γ s S' j t := by
  have e : cs c S s t = cs c S' s t := fb_ct_cong (fun k hk => by
    cases q : s.testBit k with
    | false => rfl
    | true => rw [h k hk q])
  unfold RC
  rw [e]
  exact ⟨fun ⟨a, b, d⟩ => ⟨a, fun i hi hb => by rw [h i hi hb]; exact b i hi hb, d⟩, fun ⟨a, b, d⟩ => ⟨a, fun i hi hb => by rw [← h i hi hb]; exact b i hi hb, d⟩⟩
theorem RW_cg {c : Cf} {l : Nat} {Γ : Nat → Nat → Nat} {e s : Nat} {S S' : Nat → Nat} {σ : HS} (h : RW c l Γ e s S σ) (hS : ∀ k, k < c 23 → s.testBit k = true → S' k = S k) : RW c l Γ e s S' σ := fun j hj hb t ht => by rw [h j hj hb t ht]; exact RC_cg hS
theorem un_self (T : Nat → Nat) (j : Nat) : un T j (T j) = T := by
  funext k; unfold un
  by_cases q : k = j
  · rw [if_pos q, q]
  · rw [if_neg q]
theorem c_isPossible {c : Cf} (w : WF c) {l : Nat} {Γ : Nat → Nat → Nat} {U : Nat → Nat} (hq : QQ c l Γ U) {σ : HS} (h : SE c Γ σ) {i t : Nat} (hi : i < c 23) (hr : RW c l Γ i (2 ^ i - 1) U σ) (hT : TR c (2 ^ i - 1) U σ) (hrc : RC c l Γ (2 ^ i - 1) U i t) : ∃ v σ', v ≤ 1 ∧ f_X5_isPossible (nI i) (nI i) (nI t) (nI ((2 ^ i - 1) ||| 1 <<< i)) σ = some (nI v, σ') ∧ fr [55, 57] σ σ' ∧ (∀ k, k < (i + 1) * 6 → σ'.1 55 k = σ.1 55 k) ∧ (∀ k, k < c 23 → (2 ^ i - 1).testBit k = true → σ'.1 57 k = σ.1 57 k) ∧ (v = 1 → ∃ S', QQ c l Γ S' ∧ S' i = t ∧ (∀ k, k < i → S' k = U k) ∧ ∀ k, k < c 23 → σ'.1 57 k = nI (S' k)) ∧ (v = 0 → ¬ ∃ S', QQ c l Γ S' ∧ S' i = t ∧ ∀ k, k < i → S' k = U k) := by
  have hn := w.p_n
  have hsi : (2 ^ i - 1).testBit i = false := by rw [st_b]; simp
  have hcard : i + 1 = fb_ct (fun k => ((2 ^ i - 1) ||| 1 <<< i).testBit k) (c 23) := by rw [← st_s, st_c (by omega)]
  obtain ⟨v, σ', a1, a2, a3, a4, a5, a6, a7⟩ := c_ps w (rc := f_X5_place 7) (e := i) (by omega) (st_64 (by omega)) hi hsi (QQ_CN hq _) hrc (fun σ3 k1 k2 k3 => c_place w 7 (i + 1) ((2 ^ i - 1) ||| 1 <<< i) (un U i t) σ3 (by omega) hcard (by rw [← st_s]; exact st_64 (by omega)) k1 k2 (CN_add (QQ_CN hq _) hi hsi hrc) k3) h hr hT
  refine ⟨v, σ', a1, ?_, a3, a4, a5, fun q => ?_, fun q => ?_⟩
  · rw [f_X5_isPossible]; exact a2
  · obtain ⟨S', b1, b2, b3, b4⟩ := a6 q
    exact ⟨S', b1, b2, fun k hk => b3 k (by omega) (by rw [st_b]; simpa using hk), b4⟩
  · rintro ⟨S', b1, b2, b3⟩
    exact a7 q ⟨S', b1, b2, fun k _ hb => b3 k (by rw [st_b] at hb; simpa using hb)⟩
theorem c_tf45 {c : Cf} (w : WF c) {l : Nat} {Γ : Nat → Nat → Nat} {U : Nat → Nat} (hq : QQ c l Γ U) (k : Int32 → Int32 → HS → Option HS) {i : Nat} (hi : i < c 23) {x3 : Int32} (hx : ∀ t, t < 32 → (bt x3 t = true ↔ RC c l Γ (2 ^ i - 1) U i t ∧ t + 1 ≤ U i)) : ∀ t, t ≤ 26 → ∀ n, 26 < t + n → ∀ σ, SE c Γ σ → RW c l Γ i (2 ^ i - 1) U σ → TR c (2 ^ i - 1) U σ → (∀ j, j < c 23 → σ.1 58 j = nI (U j)) → (∀ T', QQ c l Γ T' → (∀ j, j < i → T' j = U j) → t ≤ T' i ∨ U i ≤ T' i) → ∃ U' σ', fr [55, 57, 58] σ σ' ∧ QQ c l Γ U' ∧ (∀ j, j < i → U' j = U j) ∧ (∀ T', QQ c l Γ T' → (∀ j, j < i → T' j = U j) → U' i ≤ T' i) ∧ (∀ j, j < c 23 → σ'.1 58 j = nI (U' j)) ∧ RW c l Γ i (2 ^ i - 1) U' σ' ∧ TR c (2 ^ i - 1) U' σ' ∧ f_X5_takeFirst_45 k n (nI i) (nI ((2 ^ i - 1) ||| 1 <<< i)) x3 (nI t) σ = k (nI i) (nI ((2 ^ i - 1) ||| 1 <<< i)) σ' := by
  have hn := w.p_n
  refine dn_ind ?_ ?_
  · intro n hn' σ h hr hT h8 hm
    obtain ⟨n, rfl⟩ : ∃ m, n = m + 1 := ⟨n - 1, by omega⟩
    refine ⟨U, σ, fr.rf _ _, hq, fun _ _ => rfl, fun T' a b => ?_, h8, hr, hT, ?_⟩
    · have h1 := hm T' a b
      have h2 := (a.1 i hi).2.2
      omega
    · rw [f_X5_takeFirst_45, if_pos (show (25 : Int32) < nI 26 by decide)]
  · intro t ht ih n hn' σ h hr hT h8 hm
    obtain ⟨n, rfl⟩ : ∃ m, n = m + 1 := ⟨n - 1, by omega⟩
    rw [f_X5_takeFirst_45, if_neg (by rw [z_lit, z_lt (by omega) (by omega)]; omega), show nI t + 1 = nI (t + 1) from z_add t 1]
    by_cases eb : bt x3 t = false
    · rw [if_pos ((bt_if _ (by omega)).mpr eb)]
      refine ih n (by omega) σ h hr hT h8 (fun T' a b => ?_)
      have h1 := hm T' a b
      by_cases q : T' i = t ∧ t < U i
      · have r := QQ_RC (s := 2 ^ i - 1) (S := U) a (fun k _ hb => b k (by rw [st_b] at hb; simpa using hb)) hi (by rw [st_b]; simp)
        rw [q.1] at r
        have := (hx t (by omega)).mpr ⟨r, q.2⟩
        rw [eb] at this; cases this
      · omega
    · have et : bt x3 t = true := by simpa using eb
      obtain ⟨hrc, htU⟩ := (hx t (by omega)).mp et
      rw [if_neg (fun q => eb ((bt_if _ (by omega)).mp q))]
      obtain ⟨v, σ1, a1, a2, a3, a4, a5, a6, a7⟩ := c_isPossible w hq h hi hr hT hrc
      rw [a2, z_bi]
      by_cases ev : v = 0
      · rw [if_pos (show nI v = 0 by rw [ev]; rfl)]
        obtain ⟨U', σ', b1, b2⟩ := ih n (by omega) σ1 (h.f a3 (by simp)) (hr.k hn a4) (hT.k a5) (fun j hj => by rw [a3 58 (by simp)]; exact h8 j hj) (fun T' a b => by
          have h1 := hm T' a b
          by_cases q : T' i = t
          · exact absurd ⟨T', a, q, b⟩ (a7 ev)
          · omega)
        exact ⟨U', σ', (a3.up (by simp)).tr b1, b2⟩
      · rw [if_neg (show ¬ nI v = 0 by rw [z_0, z_eq (by omega) (by omega)]; exact ev)]
        obtain ⟨S', s1, s2, s3, s4⟩ := a6 (by omega)
        obtain ⟨σ2, b1, b2, b3⟩ := c_takeTrial w (h.f a3 (by simp)).1
        have ag : ∀ k, k < c 23 → (2 ^ i - 1).testBit k = true → S' k = U k := fun k _ hb => s3 k (by rw [st_b] at hb; simpa using hb)
        refine ⟨S', σ2, (a3.up (by simp)).tr (b2.up (by simp)), s1, s3, fun T' a b => ?_, fun j hj => by rw [b3 j hj, s4 j hj], ?_, ?_, by rw [b1, z_bi]⟩
        · have := hm T' a b
          omega
        · exact RW_cg ((hr.k hn a4).k hn (fun k _ => by rw [b2 55 (by simp)])) ag
        · intro k hk hb
          rw [b2 57 (by simp), s4 k hk]
theorem c_tf2 {c : Cf} (w : WF c) {l : Nat} {Γ : Nat → Nat → Nat} : ∀ i, i ≤ c 23 → ∀ n, c 23 < i + n → ∀ U σ, QQ c l Γ U → SE c Γ σ → RW c l Γ i (2 ^ i - 1) U σ → TR c (2 ^ i - 1) U σ → (∀ j, j < c 23 → σ.1 58 j = nI (U j)) → (∀ a, a < i → ∀ T', QQ c l Γ T' → (∀ j, j < a → T' j = U j) → U a ≤ T' a) → ∃ U' σ', f_X5_takeFirst_2 n (nI i) σ = some σ' ∧ fr [55, 57, 58] σ σ' ∧ QQ c l Γ U' ∧ (∀ j, j < c 23 → σ'.1 58 j = nI (U' j)) ∧ ∀ a, a < c 23 → ∀ T', QQ c l Γ T' → (∀ j, j < a → T' j = U' j) → U' a ≤ T' a := by
  have hn := w.p_n
  refine dn_ind ?_ ?_
  · intro n hn' U σ hq h hr hT h8 hm
    obtain ⟨n, rfl⟩ : ∃ m, n = m + 1 := ⟨n - 1, by omega⟩
    refine ⟨U, σ, ?_, fr.rf _ _, hq, h8, hm⟩
    rw [f_X5_takeFirst_2, h.1.1, if_pos (by rw [z_le (by omega) (by omega)]; omega)]
  · intro i hi ih n hn' U σ hq h hr hT h8 hm
    obtain ⟨n, rfl⟩ : ∃ m, n = m + 1 := ⟨n - 1, by omega⟩
    have hU := (hq.1 i hi).2.2
    obtain ⟨y, y1, y2⟩ := c_upTo (a := U i) (b := 1) (by omega) (by omega) σ
    rw [show nI 1 = (1 : Int32) from rfl] at y1
    have hsi : (2 ^ i - 1).testBit i = false := by rw [st_b]; simp
    have hx : ∀ t, t < 32 → (bt (σ.1 55 (i * 6 + i) &&& y) t = true ↔ RC c l Γ (2 ^ i - 1) U i t ∧ t + 1 ≤ U i) := by
      intro t ht
      rw [b_and, y2 t ht, Bool.and_eq_true, decide_eq_true_eq, hr i hi hsi t ht]
      exact ⟨fun q => ⟨q.1, q.2.1⟩, fun q => ⟨q.1, q.2, q.1.1.2.2⟩⟩
    obtain ⟨U', σ1, a1, a2, a3, a4, a5, a6, a7, a8⟩ := c_tf45 w hq (fun e7 e8 σ9 => f_X5_takeFirst_89 (f_X5_takeFirst_2 n) e7 e8 σ9) hi hx 0 (by omega) FU (by have := FU_b; omega) σ h hr hT h8 (fun _ _ _ => Or.inl (Nat.zero_le _))
    rw [show nI 0 = (0 : Int32) from rfl] at a8
    rw [f_X5_takeFirst_2, h.1.1, if_neg (by rw [z_le (by omega) (by omega)]; omega), c_pair, z_bi, z_ld (by omega) (by omega), z_bi, z_ld (by omega) (by omega), z_bi, h8 i hi, y1, z_bi, st_w i (by omega), a8]
    show ∃ U' σ', f_X5_takeFirst_89 (f_X5_takeFirst_2 n) (nI i) (nI ((2 ^ i - 1) ||| 1 <<< i)) σ1 = some σ' ∧ _
    have h1 : SE c Γ σ1 := h.f a1 (by simp)
    have f2 : fr [55, 57, 58] σ1 (sI σ1 57 i (nI (U' i))) := fr.sI (by simp)
    have h2 : SE c Γ (sI σ1 57 i (nI (U' i))) := h1.f f2 (by simp)
    have e55 : (sI σ1 57 i (nI (U' i))).1 55 = σ1.1 55 := s_I2 σ1 i _ (by omega)
    have e58 : (sI σ1 57 i (nI (U' i))).1 58 = σ1.1 58 := s_I2 σ1 i _ (by omega)
    have sb : ∀ k, ((2 ^ i - 1) ||| 1 <<< i).testBit k = true ↔ k < i ∨ k = i := fun k => by rw [or1_b, st_b]; simp
    have hT2 : TR c ((2 ^ i - 1) ||| 1 <<< i) (un U' i (U' i)) (sI σ1 57 i (nI (U' i))) := by
      rw [un_self]
      intro k hk hb
      rw [s_I1]; unfold upd
      by_cases q : k = i
      · rw [if_pos q, q]
      · rw [if_neg q]
        refine a7 k hk ?_
        rw [st_b]; have := (sb k).mp hb; simp; omega
    have hrc : RC c l Γ (2 ^ i - 1) U' i (U' i) := QQ_RC a2 (fun _ _ _ => rfl) hi hsi
    obtain ⟨v, σ3, b1, b2, b3, b4, b5, b6⟩ := c_narrow w h2 (e := i) (by omega) (st_64 (by omega)) hi hsi (QQ_CN a2 _) hrc (a6.k hn (fun k _ => by rw [e55])) hT2
    rw [un_self] at b5 b6 hT2
    have hv : v = 1 := by
      refine Classical.byContradiction fun q => ?_
      obtain ⟨j', j1, j2, j3⟩ := b6 (by omega)
      exact j3 (U' j') (QQ_RC a2 (fun _ _ _ => rfl) j1 j2)
    rw [f_X5_takeFirst_89, z_ld (by omega) (by omega), z_bi, a5 i hi, z_st (by omega) (by omega), z_bi, b2, z_bi, show nI i + 1 = nI (i + 1) from z_add i 1]
    have es := st_s i
    obtain ⟨U'', σ', k1, k2, k3, k4, k5⟩ := ih n (by omega) U' σ3 a2 (h2.f b3 (by simp)) (by rw [es]; exact b5 hv) (by
      rw [es]
      intro k hk hb
      rw [b3 57 (by simp)]; exact hT2 k hk hb) (fun j hj => by rw [b3 58 (by simp), e58]; exact a5 j hj) (fun a ha T' c1 c2 => by
      by_cases q : a = i
      · subst q
        exact a4 T' c1 (fun j hj => by rw [c2 j hj, a3 j hj])
      · rw [a3 a (by omega)]
        exact hm a (by omega) T' c1 (fun j hj => by rw [c2 j hj, a3 j (by omega)]))
    exact ⟨U'', σ', k1, (a1.tr f2).tr ((b3.up (by simp)).tr k2), k3, k4, k5⟩
theorem QQ_QP {c : Cf} (w : WF c) {l : Nat} {T π : Nat → Nat} {Γ : Nat → Nat → Nat} (hg : ∀ i j, i < c 23 → j < c 23 → gOK c T π i j (Γ i j)) {S : Nat → Nat} (h : QQ c l Γ S) : QP c l S := by
  have hn := w.p_n
  refine ⟨⟨fun i j hi hj e => ?_, fun i j hi hj hij => (h.2.1 i j hi hj hij).1, h.2.2⟩, fun i hi => (h.1 i hi).2.1⟩
  have hne : j ≠ i := fun q => e (by rw [q]; exact ct_ii w (by omega))
  have h1 := (hg j i hj hi).2.2.1 e
  have h2 := (h.2.1 j i hj hi hne).2.1 (by omega)
  omega
theorem BE_QQ {c : Cf} (w : WF c) {L : Nat} {T π : Nat → Nat} {Γ : Nat → Nat → Nat} (hB : BE c L T) (hg : ∀ i j, i < c 23 → j < c 23 → gOK c T π i j (Γ i j)) : QQ c L Γ T := by
  refine ⟨fun i hi => ⟨PL_ea w hB.1.1.1 i hi, hB.1.1.2 i hi, LF_25 w hB.1 i hi⟩, fun i j hi hj hij => ⟨hB.1.1.1.2.1 i j hi hj hij, fun q => ((hg i j hi hj).2.1 q).1, fun q => ((hg j i hj hi).2.1 q).1⟩, hB.1.1.1.2.2⟩
theorem c_ln38 {c : Cf} (w : WF c) {L : Nat} {T π : Nat → Nat} {Γ : Nat → Nat → Nat} (hB : BE c L T) (hg : ∀ i j, i < c 23 → j < c 23 → gOK c T π i j (Γ i j)) : ∀ l, l ≤ L → ∀ n x, L < l + n → x + (L - l) ≤ 30 → bnd c ≤ l → ∀ σ, SE c Γ σ → σ.1 54 5 = nI l → ∃ σ', f_X5_learn_38 n (nI x) σ = some σ' ∧ fr [54, 55, 57, 58] σ σ' ∧ σ'.1 54 6 = 1 ∧ σ'.1 54 5 = nI L ∧ ∀ k, k < c 23 → σ'.1 58 k = nI (T k) := by
  have hn := w.p_n
  have hL := BE_30 w hB
  have hqq := BE_QQ w hB hg
  refine dn_ind ?_ ?_
  · intro n x hn' hx hbl σ h h5
    obtain ⟨n, rfl⟩ : ∃ m, n = m + 1 := ⟨n - 1, by omega⟩
    obtain ⟨v, σ1, a1, a2, a3, a4, a5⟩ := c_hasPlan w (by omega) (fun i hi => Nat.le_trans (bnd_wy hi) hbl) h h5
    have hv : v = 1 := by
      refine Classical.byContradiction fun q => a5 (by omega) ⟨T, hqq⟩
    obtain ⟨k1, S', k2, k3⟩ := a4 hv
    have h1 : SE c Γ σ1 := h.f a3 (by simp)
    obtain ⟨σ2, b1, b2, b3⟩ := c_takeTrial w h1.1
    have h2 : SE c Γ σ2 := h1.f b2 (by simp)
    have z1 : 2 ^ 0 - 1 = 0 := rfl
    obtain ⟨U', σ3, d1, d2, d3, d4, d5⟩ := c_tf2 w 0 (by omega) FU (by have := FU_b; omega) S' σ2 k2 h2 (by
      rw [z1]; exact (k1 S').k hn (fun k _ => by rw [b2 55 (by simp)])) (fun k _ hb => by rw [z1, Nat.zero_testBit] at hb; cases hb) (fun j hj => by rw [b3 j hj, k3 j hj]) (fun a ha => by omega)
    have same : ∀ j, j < c 23 → U' j = T j := by
      intro j
      induction j using Nat.strongRecOn with
      | _ j ihj =>
        intro hj
        have e1 := d5 j hj T hqq (fun k hk => (ihj k hk (by omega)).symm)
        have e2 := hB.1.2 j hj U' (QQ_QP w hg d3) (fun k hk => ihj k hk (by omega))
        omega
    have ff : fr [54, 55, 57, 58] σ σ3 := ((a3.up (by simp)).tr (b2.up (by simp))).tr (d2.up (by simp))
    refine ⟨sI σ3 54 6 1, ?_, ff.tr (fr.sI (by simp)), by rw [s_I1]; unfold upd; rw [if_pos rfl], ?_, fun k hk => ?_⟩
    · rw [show nI 0 = (0 : Int32) from rfl] at d1
      rw [f_X5_learn_38, if_neg (by rw [z_lit, z_lt (by omega) (by omega)]; omega), a2, z_bi, if_neg (show ¬ nI v = 0 by rw [hv]; decide), f_X5_learn_68, b1, z_bi, f_X5_takeFirst, d1, z_bi]
    · rw [s_I1]; unfold upd; rw [if_neg (by omega), d2 54 (by simp), b2 54 (by simp), a3 54 (by simp)]; exact h5
    · rw [s_I2 σ3 6 _ (show (58 : Nat) ≠ 54 by omega), d4 k hk, same k hk]
  · intro l hlt ih n x hn' hx hbl σ h h5
    obtain ⟨n, rfl⟩ : ∃ m, n = m + 1 := ⟨n - 1, by omega⟩
    obtain ⟨v, σ1, a1, a2, a3, a4, a5⟩ := c_hasPlan w (by omega) (fun i hi => Nat.le_trans (bnd_wy hi) hbl) h h5
    have hv : v = 0 := by
      refine Classical.byContradiction fun q => ?_
      obtain ⟨_, S', k2, _⟩ := a4 (by omega)
      exact hB.2 l hlt ⟨S', QQ_QP w hg k2⟩
    have f2 : fr [54, 55, 57, 58] σ1 (sI σ1 54 5 (nI (l + 1))) := fr.sI (by simp)
    have h1 : SE c Γ (sI σ1 54 5 (nI (l + 1))) := (h.f a3 (by simp)).f f2 (by simp)
    obtain ⟨σ', b1, b2, b3⟩ := ih n (x + 1) (by omega) (by omega) (by omega) _ h1 (by rw [s_I1]; unfold upd; rw [if_pos rfl])
    refine ⟨σ', ?_, ((a3.up (by simp)).tr f2).tr b2, b3⟩
    rw [f_X5_learn_38, if_neg (by rw [z_lit, z_lt (by omega) (by omega)]; omega), a2, z_bi, if_pos (show nI v = 0 by rw [hv]; rfl), show nI x + 1 = nI (x + 1) from z_add x 1, a3 54 (by simp), h5, show nI l + 1 = nI (l + 1) from z_add l 1]
    exact b1
def KCs (c : Cf) (σ : HS) : Prop := σ.1 54 6 = 0 ∨ (σ.1 54 6 = 1 ∧ ∃ L T, BE c L T ∧ σ.1 54 5 = nI L ∧ ∀ k, k < c 23 → σ.1 58 k = nI (T k))
theorem KCs.fr {c : Cf} {σ σ' : HS} (h : KCs c σ) {l : List Nat} (hf : fr l σ σ') (hl : ∀ o, o ∈ l → o ≠ 54 ∧ o ≠ 58) : KCs c σ' := by
  unfold KCs
  rw [hf 54 (fun q => (hl 54 q).1 rfl), hf 58 (fun q => (hl 58 q).2 rfl)]; exact h
theorem c_slearn {c : Cf} (w : WF c) {σ : HS} (hb : BOK c σ) (hk : KCs c σ) : ∃ σ' L T, f_X5_learn σ = some σ' ∧ fr [54, 55, 56, 57, 58, 60, 61] σ σ' ∧ σ'.1 54 6 = 1 ∧ BE c L T ∧ σ'.1 54 5 = nI L ∧ ∀ k, k < c 23 → σ'.1 58 k = nI (T k) := by
  have hn := w.p_n
  rw [f_X5_learn]
  by_cases e : σ.1 54 6 = 0
  · obtain ⟨L, T, hB⟩ := BE_ex w
    obtain ⟨π, hπ⟩ := topo w
    have hL := BE_30 w hB
    have hbn := BE_bnd w hB
    obtain ⟨σ1, Γ, a1, a2, a3⟩ := c_measureGaps w hB hπ hb
    have hb1 := hb.fr a2 (by simp)
    obtain ⟨r, σ2, b1, b2, b3⟩ := c_rows w hB hb1 a3
    have f3 : fr [54, 60, 61] σ1 (sI σ2 54 5 (nI (max (bnd c) r))) := (b3.up (by simp)).tr (fr.sI (by simp))
    have h3 : SE c Γ (sI σ2 54 5 (nI (max (bnd c) r))) := ⟨hb1.fr f3 (by simp), fun i j hi hj => by rw [f3 56 (by simp)]; exact ⟨(a3 i j hi hj).1, (a3 i j hi hj).2.1⟩⟩
    obtain ⟨σ', d1, d2, d3, d4, d5⟩ := c_ln38 w hB (fun i j hi hj => (a3 i j hi hj).2) (max (bnd c) r) (by omega) FU 0 (by have := FU_b; omega) (by omega) (by omega) _ h3 (by rw [s_I1]; unfold upd; rw [if_pos rfl])
    rw [show nI 0 = (0 : Int32) from rfl] at d1
    refine ⟨σ', L, T, ?_, ((a2.up (by simp)).tr (f3.up (by simp))).tr (d2.up (by simp)), d3, hB, d4, d5⟩
    have := bnd_b w
    rw [if_pos e, a1, z_bi, c_leastLength w hb1, z_bi, b2, z_bi, c_max (by omega) (by omega), z_bi]
    exact d1
  · rcases hk with q | ⟨q1, L, T, q2, q3, q4⟩
    · exact absurd q e
    · rw [if_neg e]
      exact ⟨σ, L, T, rfl, fr.rf _ _, q1, q2, q3, q4⟩
abbrev lS : List Nat := [42, 43, 44, 45, 46, 47, 48, 54, 55, 56, 57, 58, 60, 61, 66]
theorem c_best {a : AS} {σ : HS} (h : IC a σ) (w : WA a) (hk : KCb (aC a) σ) (hs : KCs (aC a) σ) (x : Int32) : ∃ v a' σ', f_X8_best x σ = some (v, σ') ∧ aBe x a v a' ∧ IC a' σ' ∧ aC a' = aC a ∧ KCb (aC a) σ' ∧ KCs (aC a) σ' ∧ fr lS σ σ' := by
  have hn := w.1.p_n
  have s23 : inBe x a → ∃ v a' σ', f_X8_best_23 x σ = some (v, σ') ∧ aBe x a v a' ∧ IC a' σ' ∧ aC a' = aC a ∧ KCb (aC a) σ' ∧ KCs (aC a) σ' ∧ fr lS σ σ' := by
    intro hi
    obtain ⟨σ1, a1, a2, a3, a4⟩ := c_learn w.1 h.1 hk
    obtain ⟨σ2, L, T, d1, d2, d3, d4, d5, d6⟩ := c_slearn w.1 a3 (hs.fr a2 (by simp))
    refine ⟨_, a, σ2, ?_, Or.inl ⟨hi, ⟨L, T, d4, rfl⟩, rfl⟩, (h.fr a2 (by simp)).fr d2 (by simp), rfl, Or.inr ⟨by rw [d2 42 (by simp)]; exact a4, a3.fr d2 (by simp)⟩, Or.inr ⟨d3, L, T, d4, d5, d6⟩, (a2.up (by simp)).tr (d2.up (by simp))⟩
    rw [f_X8_best_23, a1, z_bi, d1, z_bi]
    by_cases e : x = -1
    · rw [if_pos e, if_pos e, d5]
    · rw [if_neg e, if_neg e]
      rcases hi with q | q
      · exact absurd q e
      · obtain ⟨m, b1, b2, b3⟩ := z_of (v := x) q.1
        rw [show x.toInt.toNat = m by omega, b2, z_ld (by omega) (by omega), z_bi, d6 m (by omega)]
  rw [f_X8_best]
  by_cases q3 : x = -1
  · rw [if_pos q3]
    exact s23 (Or.inl q3)
  · rw [if_neg q3, c_hasInstruction h.1 w.1, z_bi]
    by_cases hi : 0 ≤ x.toInt ∧ x.toInt < aC a 23
    · have e1 : decide (0 ≤ x.toInt ∧ x.toInt < (aC a 23 : Int)) = true := by simpa using hi
      rw [e1, if_neg (show ¬ nI (b2 true) = 0 by decide)]
      exact s23 (Or.inr hi)
    · have e1 : decide (0 ≤ x.toInt ∧ x.toInt < (aC a 23 : Int)) = false := by simpa using hi
      rw [e1, if_pos (show nI (b2 false) = 0 from rfl)]
      obtain ⟨σ', e1, e2, e3⟩ := c_ref h (r := -2) (Or.inl rfl) (k := 0) (by decide)
      exact ⟨-2, _, σ', e1, Or.inr ⟨fun e => e.elim (fun g => q3 g) (fun g => hi g), rfl, rfl⟩, e2, rfl, hk.fr e3 (by simp), hs.fr e3 (by simp), e3.up (by simp)⟩
