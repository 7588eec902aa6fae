-- the class's search
theorem c_tightest {c : Cf} (w : WF c) {Γ : Nat → Nat → Nat} {σ : HS} (h : SE c Γ σ) {e s : Nat} (he : e ≤ 6) (hs : s < 64) : ∃ r, f_X5_tightest (nI e) (nI s) σ = some (r, σ) ∧ ((r = -1 ∧ ∀ i, i < c 23 → s.testBit i = true) ∨ ∃ i, i < c 23 ∧ s.testBit i = false ∧ r = nI i) := by
  have hn := w.p_n
  have key : ∀ j, j ≤ c 23 → ∀ n, c 23 < j + n → ∀ x4 x5 : Int32, ((x4 = -1 ∧ ∀ i, i < j → s.testBit i = true) ∨ ∃ i, i < c 23 ∧ s.testBit i = false ∧ x4 = nI i) → ∃ r, f_X5_tightest_9 n (nI e) (nI s) x4 x5 (nI j) σ = some (r, σ) ∧ ((r = -1 ∧ ∀ i, i < c 23 → s.testBit i = true) ∨ ∃ i, i < c 23 ∧ s.testBit i = false ∧ r = nI i) := by
    refine dn_ind ?_ ?_
    · intro n hn' x4 x5 hx
      obtain ⟨n, rfl⟩ : ∃ m, n = m + 1 := ⟨n - 1, by omega⟩
      refine ⟨x4, ?_, hx⟩
      rw [f_X5_tightest_9, h.1.1, if_pos (by rw [z_le (by omega) (by omega)]; omega)]
    · intro j hj ih n hn' x4 x5 hx
      obtain ⟨n, rfl⟩ : ∃ m, n = m + 1 := ⟨n - 1, by omega⟩
      have ebit : ((nI s >>> (nI j &&& 31)) &&& 1) = 0 ↔ s.testBit j = false := bit_if _ _ (by omega) (by omega)
      have e1 : nI j + 1 = nI (j + 1) := z_add j 1
      rw [f_X5_tightest_9, h.1.1, if_neg (by rw [z_le (by omega) (by omega)]; omega)]
      by_cases eb : s.testBit j = false
      · rw [if_pos (ebit.mpr eb), c_pair, z_bi, z_ld (by omega) (by omega), z_bi]
        show ∃ r, (if x4 = -1 then f_X5_tightest_9 n (nI e) (nI s) (nI j) _ (nI j + 1) σ else if x5 ≤ _ then f_X5_tightest_9 n (nI e) (nI s) x4 x5 (nI j + 1) σ else f_X5_tightest_9 n (nI e) (nI s) (nI j) _ (nI j + 1) σ) = _ ∧ _
        rw [e1]
        have tk : ∀ y, ∃ r, f_X5_tightest_9 n (nI e) (nI s) (nI j) y (nI (j + 1)) σ = some (r, σ) ∧ ((r = -1 ∧ ∀ i, i < c 23 → s.testBit i = true) ∨ ∃ i, i < c 23 ∧ s.testBit i = false ∧ r = nI i) := fun y => ih n (by omega) _ _ (Or.inr ⟨j, hj, eb, rfl⟩)
        by_cases q : x4 = -1
        · rw [if_pos q]; exact tk _
        · rw [if_neg q]
          have hx' : ∃ i, i < c 23 ∧ s.testBit i = false ∧ x4 = nI i := hx.resolve_left (fun z => q z.1)
          split
          · exact ih n (by omega) _ _ (Or.inr hx')
          · exact tk _
      · rw [if_neg (fun q => eb (ebit.mp q)), e1]
        refine ih n (by omega) _ _ ?_
        rcases hx with ⟨a, b⟩ | hx
        · refine Or.inl ⟨a, fun i hi => ?_⟩
          by_cases q : i = j
          · rw [q]; simpa using eb
          · exact b i (by omega)
        · exact Or.inr hx
  have k := key 0 (by omega) FU (by have := FU_b; omega) (-1) 0 (Or.inl ⟨rfl, fun i hi => by omega⟩)
  rw [show nI 0 = (0 : Int32) from rfl] at k
  rw [f_X5_tightest]; exact k
def PO (c : Cf) (l : Nat) (Γ : Nat → Nat → Nat) (e s : Nat) (S : Nat → Nat) (P : (Nat → Nat) → Prop) (σ : HS) (X : Option (Int32 × HS)) : Prop := ∃ v σ', v ≤ 1 ∧ X = some (nI v, σ') ∧ fr [55, 57] σ σ' ∧ (∀ k, k < (e + 1) * 6 → σ'.1 55 k = σ.1 55 k) ∧ (∀ k, k < c 23 → s.testBit k = true → σ'.1 57 k = σ.1 57 k) ∧ (v = 1 → ∃ S', QQ c l Γ S' ∧ P S' ∧ (∀ k, k < c 23 → s.testBit k = true → S' k = S k) ∧ ∀ k, k < c 23 → σ'.1 57 k = nI (S' k)) ∧ (v = 0 → ¬ ∃ S', QQ c l Γ S' ∧ P S' ∧ ∀ k, k < c 23 → s.testBit k = true → S' k = S k)
theorem RW.k {c : Cf} {l : Nat} {Γ : Nat → Nat → Nat} {e s : Nat} {S : Nat → Nat} {σ σ' : HS} (h : RW c l Γ e s S σ) (hn : c 23 ≤ 6) (hk : ∀ k, k < (e + 1) * 6 → σ'.1 55 k = σ.1 55 k) : RW c l Γ e s S σ' := by
  intro j hj hb t ht
  rw [hk _ (by omega)]; exact h j hj hb t ht
theorem TR.k {c : Cf} {s : Nat} {S : Nat → Nat} {σ σ' : HS} (h : TR c s S σ) (hk : ∀ k, k < c 23 → s.testBit k = true → σ'.1 57 k = σ.1 57 k) : TR c s S σ' := fun i hi hb => by rw [hk i hi hb]; exact h i hi hb
theorem card_add {c : Cf} {s i : Nat} (hi : i < c 23) (h : s.testBit i = false) : fb_ct (fun k => (s ||| 1 <<< i).testBit k) (c 23) = fb_ct (fun k => s.testBit k) (c 23) + 1 := by
  have h1 := fb_ct_upd (fun k => s.testBit k) true hi
  have e : fb_ct (fun k => (s ||| 1 <<< i).testBit k) (c 23) = fb_ct (fun k => if k = i then true else s.testBit k) (c 23) := fb_ct_cong (fun k _ => by
    rw [or1_b]
    by_cases q : k = i
    · rw [if_pos q]; simp [q]
    · rw [if_neg q]; simp [q])
  rw [e]
  simp only [h, Bool.false_eq_true, if_false, if_true, Nat.add_zero] at h1
  exact h1
theorem c_ps {c : Cf} (w : WF c) {l : Nat} {Γ : Nat → Nat → Nat} {rc : Int32 → Int32 → HS → Option (Int32 × HS)} {e s i t : Nat} {S : Nat → Nat} (he : e < 6) (hs : s < 64) (hi : i < c 23) (hsi : s.testBit i = false) (hcn : CN c l Γ s S) (hrc : RC c l Γ s S i t)
    (hrec : ∀ σ3, SE c Γ σ3 → RW c l Γ (e + 1) (s ||| 1 <<< i) (un S i t) σ3 → TR c (s ||| 1 <<< i) (un S i t) σ3 → PO c l Γ (e + 1) (s ||| 1 <<< i) (un S i t) (fun _ => True) σ3 (rc (nI (e + 1)) (nI (s ||| 1 <<< i)) σ3))
    {σ1 : HS} (h1 : SE c Γ σ1) (hr1 : RW c l Γ e s S σ1) (hT1 : TR c s S σ1) : PO c l Γ e s S (fun S' => S' i = t) σ1 (g_X5_isPossible rc (nI e) (nI i) (nI t) (nI (s ||| 1 <<< i)) σ1) := by
  have hn := w.p_n
  have f2 : fr [55, 57] σ1 (sI σ1 57 i (nI t)) := fr.sI (by simp)
  have ui : un S i t i = t := by unfold un; rw [if_pos rfl]
  have uo : ∀ k, k ≠ i → un S i t k = S k := fun k hk => by unfold un; rw [if_neg hk]
  have hT2 : TR c (s ||| 1 <<< i) (un S i t) (sI σ1 57 i (nI t)) := by
    intro k hk hb
    rw [s_I1]; unfold upd
    by_cases q : k = i
    · rw [if_pos q, q, ui]
    · rw [if_neg q, uo k q]
      rw [or1_b] at hb
      exact hT1 k hk (by simpa [q] using hb)
  have k57 : ∀ k, k < c 23 → s.testBit k = true → (sI σ1 57 i (nI t)).1 57 k = σ1.1 57 k := by
    intro k hk hb
    rw [s_I1]; unfold upd
    rw [if_neg (fun q => by rw [q, hsi] at hb; cases hb)]
  have h2 : SE c Γ (sI σ1 57 i (nI t)) := h1.f f2 (by simp)
  have hr2 : RW c l Γ e s S (sI σ1 57 i (nI t)) := hr1.k hn (fun k _ => by rw [s_I2 σ1 i _ (show (55 : Nat) ≠ 57 by omega)])
  obtain ⟨v, σ3, a1, a2, a3, a4, a5, a6⟩ := c_narrow w h2 (e := e) (by omega) hs hi hsi hcn hrc hr2 hT2
  have fr3 : fr [55, 57] σ1 σ3 := f2.tr (a3.up (by simp))
  have k55 : ∀ k, k < (e + 1) * 6 → σ3.1 55 k = σ1.1 55 k := fun k hk => by rw [a4 k hk, s_I2 σ1 i _ (show (55 : Nat) ≠ 57 by omega)]
  have k57' : ∀ k, k < c 23 → s.testBit k = true → σ3.1 57 k = σ1.1 57 k := fun k hk hb => by rw [a3 57 (by simp)]; exact k57 k hk hb
  have agr : ∀ S' : Nat → Nat, S' i = t → (∀ k, k < c 23 → s.testBit k = true → S' k = S k) → ∀ k, k < c 23 → (s ||| 1 <<< i).testBit k = true → S' k = un S i t k := by
    intro S' b2 b3 k hk hb
    by_cases q : k = i
    · rw [q, ui, b2]
    · rw [uo k q]
      rw [or1_b] at hb
      exact b3 k hk (by simpa [q] using hb)
  rw [g_X5_isPossible, z_st (by omega) (by omega), z_bi, a2, z_bi]
  by_cases ev : v = 0
  · rw [if_pos (show nI v = 0 by rw [ev]; rfl)]
    refine ⟨0, σ3, by omega, rfl, fr3, k55, k57', fun q => by omega, ?_⟩
    rintro _ ⟨S', b1, b2, b3⟩
    obtain ⟨j', j1, j2, j3⟩ := a6 ev
    exact j3 (S' j') (QQ_RC b1 (agr S' b2 b3) j1 j2)
  · have ev1 : v = 1 := by omega
    rw [if_neg (show ¬ nI v = 0 by rw [z_0, z_eq (by omega) (by omega)]; exact ev), show nI e + 1 = nI (e + 1) from z_add e 1]
    obtain ⟨v', σ', d1, d2, d3, d4, d5, d6, d7⟩ := hrec σ3 (h2.f a3 (by simp)) (a5 ev1) (fun k hk hb => by rw [a3 57 (by simp)]; exact hT2 k hk hb)
    have sub : ∀ k, s.testBit k = true → (s ||| 1 <<< i).testBit k = true := fun k hb => by rw [or1_b, hb]; rfl
    have fr4 : fr [55, 57] σ1 σ' := fr3.tr d3
    have m55 : ∀ k, k < (e + 1) * 6 → σ'.1 55 k = σ1.1 55 k := fun k hk => by rw [d4 k (by omega), k55 k hk]
    have m57 : ∀ k, k < c 23 → s.testBit k = true → σ'.1 57 k = σ1.1 57 k := fun k hk hb => by rw [d5 k hk (sub k hb), k57' k hk hb]
    rw [d2, z_bi]
    by_cases ev' : v' = 0
    · rw [if_pos (show nI v' = 0 by rw [ev']; rfl)]
      refine ⟨0, σ', by omega, rfl, fr4, m55, m57, fun q => by omega, ?_⟩
      rintro _ ⟨S', b1, b2, b3⟩
      exact d7 ev' ⟨S', b1, trivial, agr S' b2 b3⟩
    · rw [if_neg (show ¬ nI v' = 0 by rw [z_0, z_eq (by omega) (by omega)]; exact ev')]
      obtain ⟨S', b1, _, b3, b4⟩ := d6 (by omega)
      refine ⟨1, σ', by omega, rfl, fr4, m55, m57, fun _ => ⟨S', b1, ?_, fun k hk hb => ?_, b4⟩, fun q => by omega⟩
      · show S' i = t
        rw [b3 i hi (by rw [or1_b]; simp), ui]
      · rw [b3 k hk (sub k hb), uo k (fun q => by rw [q, hsi] at hb; cases hb)]
theorem c_place {c : Cf} (w : WF c) {l : Nat} {Γ : Nat → Nat → Nat} : ∀ m e s S σ, 7 ≤ m + e → e = fb_ct (fun k => s.testBit k) (c 23) → s < 64 → SE c Γ σ → RW c l Γ e s S σ → CN c l Γ s S → TR c s S σ → PO c l Γ e s S (fun _ => True) σ (f_X5_place m (nI e) (nI s) σ) := by
  have hn := w.p_n
  intro m
  induction m with
  | zero =>
    intro e s S σ hm he
    have := fb_ct_le (fun k => s.testBit k) (c 23)
    omega
  | succ m ihm =>
    intro e s S σ hm he hs h hr hcn hT
    have hle := fb_ct_le (fun k => s.testBit k) (c 23)
    have full : (∀ k, k < c 23 → s.testBit k = true) → PO c l Γ e s S (fun _ => True) σ (some (1, σ)) := fun r3 => ⟨1, σ, by omega, rfl, fr.rf _ _, fun _ _ => rfl, fun _ _ _ => rfl, fun _ => ⟨S, CN_all hcn r3, trivial, fun _ _ _ => rfl, fun k hk => hT k hk (r3 k hk)⟩, fun q => by omega⟩
    rw [f_X5_place, g_X5_place]
    by_cases e6 : e = 6
    · rw [if_pos (by rw [z_lit, z_le (by omega) (by omega)]; omega), f_X5_place_17, if_pos (rfl : (-1 : Int32) = -1)]
      exact full ((fb_ct_all (p := fun k => s.testBit k)).mp (by omega))
    obtain ⟨r, r1, r2⟩ := c_tightest w h (e := e) (by omega) hs
    rw [if_neg (by rw [z_lit, z_le (by omega) (by omega)]; omega), r1, z_bi, f_X5_place_17]
    rcases r2 with ⟨r2, r3⟩ | ⟨i, hi, hsi, r2⟩
    · rw [if_pos r2]
      exact full r3
    · have hca := card_add hi hsi
      have hle2 := fb_ct_le (fun k => (s ||| 1 <<< i).testBit k) (c 23)
      have hs' : s ||| 1 <<< i < 64 := Nat.or_lt_two_pow (n := 6) hs (by
        rw [Nat.one_shiftLeft]; exact Nat.pow_lt_pow_right (by omega) (by omega))
      rw [r2, if_neg (show ¬ nI i = -1 from z_ne (by omega) (k := 1) (by omega)), c_pair, z_bi, z_ld (by omega) (by omega), z_bi]
      have emore : nI s ||| ((1 : Int32) <<< (nI i &&& 31)) = nI (s ||| 1 <<< i) := by
        rw [show (31 : Int32) = nI 31 from rfl, show (1 : Int32) = nI 1 from rfl, z_31 (by omega), z_shl _ (by omega), z_or]
      have key : ∀ t, t ≤ 26 → ∀ n, 26 < t + n → ∀ σ1, SE c Γ σ1 → RW c l Γ e s S σ1 → TR c s S σ1 → PO c l Γ e s S (fun S' => t ≤ S' i) σ1 (f_X5_place_43 (f_X5_place m) n (nI e) (nI s) (nI i) (σ.1 55 (e * 6 + i)) (nI t) σ1) := by
        refine dn_ind ?_ ?_
        · intro n hn' σ1 h1 hr1 hT1
          obtain ⟨n, rfl⟩ : ∃ m, n = m + 1 := ⟨n - 1, by omega⟩
          refine ⟨0, σ1, by omega, ?_, fr.rf _ _, fun _ _ => rfl, fun _ _ _ => rfl, fun q => by omega, ?_⟩
          · rw [f_X5_place_43, if_pos (show (25 : Int32) < nI 26 by decide)]; rfl
          · rintro _ ⟨S', a1, a2, a3⟩
            have := (a1.1 i hi).2.2
            have a2' : 26 ≤ S' i := a2
            omega
        · intro t ht ih n hn' σ1 h1 hr1 hT1
          obtain ⟨n, rfl⟩ : ∃ m, n = m + 1 := ⟨n - 1, by omega⟩
          have nx : ∀ σ2, fr [55, 57] σ1 σ2 → (∀ k, k < (e + 1) * 6 → σ2.1 55 k = σ1.1 55 k) → (∀ k, k < c 23 → s.testBit k = true → σ2.1 57 k = σ1.1 57 k) → (¬ ∃ S', QQ c l Γ S' ∧ S' i = t ∧ ∀ k, k < c 23 → s.testBit k = true → S' k = S k) → PO c l Γ e s S (fun S' => t ≤ S' i) σ1 (f_X5_place_43 (f_X5_place m) n (nI e) (nI s) (nI i) (σ.1 55 (e * 6 + i)) (nI (t + 1)) σ2) := by
            intro σ2 k1 k2 k3 k4
            obtain ⟨v, σ', a1, a2, a3, a4, a5, a6, a7⟩ := ih n (by omega) σ2 (h1.f k1 (by simp)) (hr1.k hn k2) (hT1.k k3)
            refine ⟨v, σ', a1, a2, k1.tr a3, fun k hk => by rw [a4 k hk, k2 k hk], fun k hk hb => by rw [a5 k hk hb, k3 k hk hb], fun q => ?_, fun q => ?_⟩
            · obtain ⟨S', b1, b2, b3⟩ := a6 q
              have b2' : t + 1 ≤ S' i := b2
              exact ⟨S', b1, by show t ≤ S' i; omega, b3⟩
            · rintro ⟨S', b1, b2, b3⟩
              have b2' : t ≤ S' i := b2
              by_cases z : S' i = t
              · exact k4 ⟨S', b1, z, b3⟩
              · exact a7 q ⟨S', b1, by show t + 1 ≤ S' i; omega, b3⟩
          rw [f_X5_place_43, if_neg (by rw [z_lit, z_lt (by omega) (by omega)]; omega), show nI t + 1 = nI (t + 1) from z_add t 1]
          by_cases eb : bt (σ.1 55 (e * 6 + i)) t = false
          · rw [if_pos ((bt_if _ (by omega)).mpr eb)]
            refine nx σ1 (fr.rf _ _) (fun _ _ => rfl) (fun _ _ _ => rfl) ?_
            rintro ⟨S', b1, b2, b3⟩
            have := QQ_RC b1 b3 hi hsi
            rw [b2] at this
            have := (hr i hi hsi t (by omega)).mpr this
            rw [eb] at this; cases this
          · have et : bt (σ.1 55 (e * 6 + i)) t = true := by simpa using eb
            have hrc := (hr i hi hsi t (by omega)).mp et
            rw [if_neg (fun q => eb ((bt_if _ (by omega)).mp q)), emore]
            obtain ⟨v, σ3, a1, a2, a3, a4, a5, a6, a7⟩ := c_ps w (rc := f_X5_place m) (e := e) (by omega) hs hi hsi hcn hrc (fun σ3 k1 k2 k3 => ihm (e + 1) (s ||| 1 <<< i) (un S i t) σ3 (by omega) (by omega) hs' k1 k2 (CN_add hcn hi hsi hrc) k3) h1 hr1 hT1
            rw [a2, z_bi]
            by_cases ev : v = 0
            · rw [if_pos (show nI v = 0 by rw [ev]; rfl)]
              exact nx σ3 a3 a4 a5 (a7 ev)
            · rw [if_neg (show ¬ nI v = 0 by rw [z_0, z_eq (by omega) (by omega)]; exact ev)]
              obtain ⟨S', b1, b2, b3⟩ := a6 (by omega)
              have b2' : S' i = t := b2
              exact ⟨1, σ3, by omega, rfl, a3, a4, a5, fun _ => ⟨S', b1, by show t ≤ S' i; omega, b3⟩, fun q => by omega⟩
      obtain ⟨v, σ', a1, a2, a3, a4, a5, a6, a7⟩ := key 0 (by omega) FU (by have := FU_b; omega) σ h hr hT
      rw [show nI 0 = (0 : Int32) from rfl] at a2
      refine ⟨v, σ', a1, a2, a3, a4, a5, fun q => ?_, fun q => ?_⟩
      · obtain ⟨S', b1, _, b3⟩ := a6 q
        exact ⟨S', b1, trivial, b3⟩
      · rintro ⟨S', b1, _, b3⟩
        exact a7 q ⟨S', b1, Nat.zero_le _, b3⟩
theorem c_openAll {c : Cf} (w : WF c) {l : Nat} {Γ : Nat → Nat → Nat} (hl : l ≤ 60) (hw : ∀ i, i < c 23 → wy c i ≤ l) {σ : HS} (h : SE c Γ σ) (h5 : σ.1 54 5 = nI l) : ∃ v σ', v ≤ 1 ∧ f_X5_openAll σ = some (nI v, σ') ∧ fr [55] σ σ' ∧ (v = 1 → ∀ S, RW c l Γ 0 0 S σ') ∧ (v = 0 → ∃ i, i < c 23 ∧ ∀ t, ¬ bas c l i t) := by
  have hn := w.p_n
  have hwd := w.p_wd
  have key : ∀ i, i ≤ c 23 → ∀ n, c 23 < i + n → ∀ σ, SE c Γ σ → σ.1 54 5 = nI l → (∀ j, j < i → ∀ t, t < 32 → (bt (σ.1 55 j) t = true ↔ bas c l j t)) → ∃ v σ', v ≤ 1 ∧ f_X5_openAll_2 n (nI i) σ = some (nI v, σ') ∧ fr [55] σ σ' ∧ (v = 1 → ∀ j, j < c 23 → ∀ t, t < 32 → (bt (σ'.1 55 j) t = true ↔ bas c l j t)) ∧ (v = 0 → ∃ i, i < c 23 ∧ ∀ t, ¬ bas c l i t) := by
    refine dn_ind ?_ ?_
    · intro n hn' σ h h5 hd
      obtain ⟨n, rfl⟩ : ∃ m, n = m + 1 := ⟨n - 1, by omega⟩
      refine ⟨1, σ, by omega, ?_, fr.rf _ _, fun _ => hd, fun q => by omega⟩
      rw [f_X5_openAll_2, h.1.1, if_pos (by rw [z_le (by omega) (by omega)]; omega)]; rfl
    · intro i hi ih n hn' σ h h5 hd
      obtain ⟨n, rfl⟩ : ∃ m, n = m + 1 := ⟨n - 1, by omega⟩
      have b1 := ea_b w hi
      have b2 := wy_b w hi
      obtain ⟨x, x1, x2⟩ := c_from (t := ea c i) (by omega) σ
      obtain ⟨y, y1, y2⟩ := c_upTo (a := l) (b := wy c i) (by omega) (by omega) σ
      have f1 : fr [55] σ (sI σ 55 i (x &&& y)) := fr.sI (by simp)
      have wd : ∀ t, t < 32 → (bt (x &&& y) t = true ↔ bas c l i t) := by
        intro t ht
        rw [b_and, x2 t ht, y2 t ht, Bool.and_eq_true, decide_eq_true_eq, decide_eq_true_eq]
        exact ⟨fun q => ⟨q.1.1, q.2.1, q.1.2⟩, fun q => ⟨⟨q.1, q.2.2⟩, q.2.1, q.2.2⟩⟩
      have e55 : (sI σ 55 i (x &&& y)).1 55 i = x &&& y := by rw [s_I1]; unfold upd; rw [if_pos rfl]
      rw [f_X5_openAll_2, h.1.1, if_neg (by rw [z_le (by omega) (by omega)]; omega), z_ld (by omega) (by omega), z_bi, h.1.2.2.2.2.2.1 i hi, x1, z_bi, z_ld (by omega) (by omega), z_bi, h.1.2.2.2.2.1 i hi, h5, y1, z_bi, z_st (by omega) (by omega), z_bi, z_ld (by omega) (by omega), z_bi, e55]
      by_cases x0 : x &&& y = 0
      · rw [if_pos x0]
        refine ⟨0, _, by omega, rfl, f1, fun q => by omega, fun _ => ⟨i, hi, fun t q => ?_⟩⟩
        have ht : t < 32 := by have := q.2.2; omega
        have := (wd t ht).mpr q
        rw [bt_z.mp x0 t ht] at this; cases this
      · rw [if_neg x0, show nI i + 1 = nI (i + 1) from z_add i 1]
        obtain ⟨v, σ', a1, a2, a3, a4, a5⟩ := ih n (by omega) _ (h.f f1 (by simp)) (by rw [f1 54 (by simp)]; exact h5) (by
          intro j hj t ht
          by_cases q : j = i
          · rw [q, e55]; exact wd t ht
          · rw [s_I1]; unfold upd; rw [if_neg q]; exact hd j (by omega) t ht)
        exact ⟨v, σ', a1, a2, f1.tr a3, a4, a5⟩
  obtain ⟨v, σ', a1, a2, a3, a4, a5⟩ := key 0 (by omega) FU (by have := FU_b; omega) σ h h5 (fun j hj => by omega)
  refine ⟨v, σ', a1, ?_, a3, fun q S j hj _ t ht => ?_, a5⟩
  · rw [show nI 0 = (0 : Int32) from rfl] at a2
    rw [f_X5_openAll]; exact a2
  · rw [show 0 * 6 + j = j by omega, a4 q j hj t ht]
    have hz : cs c S 0 t = 0 := fb_ct_zero.mpr (fun k _ => by rw [Nat.zero_testBit]; rfl)
    exact ⟨fun g => ⟨g, fun i _ hb => (by rw [Nat.zero_testBit] at hb; cases hb), by omega⟩, fun g => g.1⟩
theorem c_hasPlan {c : Cf} (w : WF c) {l : Nat} {Γ : Nat → Nat → Nat} (hl : l ≤ 60) (hw : ∀ i, i < c 23 → wy c i ≤ l) {σ : HS} (h : SE c Γ σ) (h5 : σ.1 54 5 = nI l) : ∃ v σ', v ≤ 1 ∧ f_X5_hasPlan σ = some (nI v, σ') ∧ fr [55, 57] σ σ' ∧ (v = 1 → (∀ S, RW c l Γ 0 0 S σ') ∧ ∃ S', QQ c l Γ S' ∧ ∀ k, k < c 23 → σ'.1 57 k = nI (S' k)) ∧ (v = 0 → ¬ ∃ S', QQ c l Γ S') := by
  have hn := w.p_n
  obtain ⟨v, σ1, a1, a2, a3, a4, a5⟩ := c_openAll w hl hw h h5
  rw [f_X5_hasPlan, a2, z_bi]
  by_cases ev : v = 0
  · rw [if_pos (show nI v = 0 by rw [ev]; rfl)]
    refine ⟨0, σ1, by omega, rfl, a3.up (by simp), fun q => by omega, ?_⟩
    rintro _ ⟨S', b⟩
    obtain ⟨i, i1, i2⟩ := a5 ev
    exact i2 _ (b.1 i i1)
  · have hrw := a4 (by omega)
    rw [if_neg (show ¬ nI v = 0 by rw [z_0, z_eq (by omega) (by omega)]; exact ev)]
    have bz : ∀ i, (0 : Nat).testBit i = true → False := fun i q => by rw [Nat.zero_testBit] at q; cases q
    obtain ⟨v', σ', d1, d2, d3, d4, d5, d6, d7⟩ := c_place w 7 0 0 (fun _ => 0) σ1 (by omega) (by
      symm; exact fb_ct_zero.mpr (fun k _ => Nat.zero_testBit k)) (by omega) (h.f a3 (by simp)) (hrw _) ⟨fun i _ q => (bz i q).elim, fun i j _ _ q => (bz i q).elim, fun i _ q => (bz i q).elim⟩ (fun i _ q => (bz i q).elim)
    rw [show nI 0 = (0 : Int32) from rfl] at d2
    rw [d2, z_bi]
    have hrw' : ∀ S, RW c l Γ 0 0 S σ' := fun S => (hrw S).k hn d4
    by_cases ev' : v' = 0
    · rw [if_pos (show nI v' = 0 by rw [ev']; rfl)]
      refine ⟨0, σ', by omega, rfl, (a3.up (by simp)).tr d3, fun q => by omega, ?_⟩
      rintro _ ⟨S', b⟩
      exact d7 ev' ⟨S', b, trivial, fun k _ q => (bz k q).elim⟩
    · rw [if_neg (show ¬ nI v' = 0 by rw [z_0, z_eq (by omega) (by omega)]; exact ev')]
      obtain ⟨S', b1, _, _, b4⟩ := d6 (by omega)
      exact ⟨1, σ', by omega, rfl, (a3.up (by simp)).tr d3, fun _ => ⟨hrw', S', b1, b4⟩, fun q => by omega⟩
