-- what still can stand; narrow
def okp (c : Cf) (Γ : Nat → Nat → Nat) (i τ j t : Nat) : Prop := ¬ CL c i τ j t ∧ (Γ i j ≠ 0 → τ + (Γ i j - 1) ≤ t) ∧ (Γ j i ≠ 0 → t + (Γ j i - 1) ≤ τ)
def bas (c : Cf) (l j t : Nat) : Prop := ea c j ≤ t ∧ t + wy c j ≤ l ∧ t ≤ 25
def cs (c : Cf) (S : Nat → Nat) (s t : Nat) : Nat := fb_ct (fun k => s.testBit k && decide (S k = t)) (c 23)
def RC (c : Cf) (l : Nat) (Γ : Nat → Nat → Nat) (s : Nat) (S : Nat → Nat) (j t : Nat) : Prop := bas c l j t ∧ (∀ i, i < c 23 → s.testBit i = true → okp c Γ i (S i) j t) ∧ cs c S s t < c 21
def QQ (c : Cf) (l : Nat) (Γ : Nat → Nat → Nat) (T : Nat → Nat) : Prop := (∀ i, i < c 23 → bas c l i (T i)) ∧ (∀ i j, i < c 23 → j < c 23 → i ≠ j → okp c Γ i (T i) j (T j)) ∧ ∀ i, i < c 23 → cnt T (T i) (c 23) ≤ c 21
def CN (c : Cf) (l : Nat) (Γ : Nat → Nat → Nat) (s : Nat) (S : Nat → Nat) : Prop := (∀ i, i < c 23 → s.testBit i = true → bas c l i (S i)) ∧ (∀ i j, i < c 23 → j < c 23 → s.testBit i = true → s.testBit j = true → i ≠ j → okp c Γ i (S i) j (S j)) ∧ ∀ i, i < c 23 → s.testBit i = true → cs c S s (S i) ≤ c 21
theorem okp.sy {c : Cf} {Γ : Nat → Nat → Nat} {i τ j t : Nat} (h : okp c Γ i τ j t) : okp c Γ j t i τ := ⟨fun q => h.1 q.sym, h.2.2, h.2.1⟩
theorem or1_b (s i k : Nat) : (s ||| 1 <<< i).testBit k = (s.testBit k || decide (k = i)) := by
  rw [Nat.testBit_or]
  have := one_sh i k
  by_cases e : k = i
  · rw [this.mpr e]; simp [e]
  · have h : (1 <<< i).testBit k = false := by
      cases q : (1 <<< i).testBit k with
      | false => rfl
      | true => exact absurd (this.mp q) e
    rw [h]; simp [e]
theorem cs_add {c : Cf} {S : Nat → Nat} {s i : Nat} (hi : i < c 23) (h : s.testBit i = false) (t v : Nat) : cs c (un S i v) (s ||| 1 <<< i) t = cs c S s t + if v = t then 1 else 0 := by
  have h1 := fb_ct_upd (fun k => s.testBit k && decide (S k = t)) (decide (v = t)) hi
  have e : cs c (un S i v) (s ||| 1 <<< i) t = fb_ct (fun k => if k = i then decide (v = t) else (s.testBit k && decide (S k = t))) (c 23) := fb_ct_cong (fun k _ => by
    rw [or1_b]
    unfold un
    by_cases q : k = i
    · rw [if_pos q, if_pos q]; simp [q]
    · rw [if_neg q, if_neg q]; simp [q])
  rw [e]
  rw [h] at h1
  simp only [Bool.false_and, Bool.false_eq_true, if_false, Nat.add_zero] at h1
  rw [h1]
  unfold cs
  by_cases q : v = t <;> simp [q]
theorem cs_le {c : Cf} {S T : Nat → Nat} {s : Nat} (hST : ∀ k, k < c 23 → s.testBit k = true → T k = S k) (t : Nat) : cs c S s t ≤ cnt T t (c 23) := fb_ct_sub (fun k hk h => by
  rw [Bool.and_eq_true, decide_eq_true_eq] at h
  simp [hST k hk h.1, h.2])
/-- a plan that goes on from what stands has its turns open -/
theorem QQ_RC {c : Cf} {l : Nat} {Γ : Nat → Nat → Nat} {s : Nat} {S T : Nat → Nat} (hq : QQ c l Γ T) (hST : ∀ k, k < c 23 → s.testBit k = true → T k = S k) {j : Nat} (hj : j < c 23) (hs : s.testBit j = false) : RC c l Γ s S j (T j) := by
  refine ⟨hq.1 j hj, fun i hi hsi => ?_, ?_⟩
  · rw [← hST i hi hsi]
    exact hq.2.1 i j hi hj (fun e => by rw [e, hs] at hsi; cases hsi)
  · have h1 := hq.2.2 j hj
    have h2 : cs c T (s ||| 1 <<< j) (T j) ≤ cnt T (T j) (c 23) := cs_le (fun _ _ _ => rfl) _
    have h3 := cs_add (S := T) hj hs (T j) (T j)
    rw [if_pos rfl] at h3
    have h4 : un T j (T j) = T := by
      funext k; unfold un
      by_cases q : k = j
      · rw [if_pos q, q]
      · rw [if_neg q]
    rw [h4] at h3
    have h5 : cs c S s (T j) = cs c T s (T j) := fb_ct_cong (fun k hk => by
      cases q : s.testBit k with
      | false => rfl
      | true => rw [hST k hk q])
    omega
theorem CN_add {c : Cf} {l : Nat} {Γ : Nat → Nat → Nat} {s : Nat} {S : Nat → Nat} (h : CN c l Γ s S) {i v : Nat} (hi : i < c 23) (hs : s.testBit i = false) (hr : RC c l Γ s S i v) : CN c l Γ (s ||| 1 <<< i) (un S i v) := by
  have ui : un S i v i = v := by unfold un; rw [if_pos rfl]
  have uo : ∀ k, k ≠ i → un S i v k = S k := fun k hk => by unfold un; rw [if_neg hk]
  have sp : ∀ k, (s ||| 1 <<< i).testBit k = true → k ≠ i → s.testBit k = true := by
    intro k hk hne
    rw [or1_b] at hk
    simpa [hne] using hk
  refine ⟨fun k hk hb => ?_, fun a b ha hb hsa hsb hab => ?_, fun k hk hb => ?_⟩
  · by_cases q : k = i
    · rw [q, ui]; exact hr.1
    · rw [uo k q]; exact h.1 k hk (sp k hb q)
  · by_cases qa : a = i
    · have qb : b ≠ i := fun e => hab (by rw [qa, e])
      rw [qa, ui, uo b qb]
      exact (hr.2.1 b hb (sp b hsb qb)).sy
    · rw [uo a qa]
      by_cases qb : b = i
      · rw [qb, ui]; exact hr.2.1 a ha (sp a hsa qa)
      · rw [uo b qb]; exact h.2.1 a b ha hb (sp a hsa qa) (sp b hsb qb) hab
  · rw [cs_add hi hs]
    have hlt := hr.2.2
    by_cases q : k = i
    · rw [q, ui, if_pos rfl]; omega
    · rw [uo k q]
      by_cases e : v = S k
      · rw [← e, if_pos rfl]; omega
      · rw [if_neg e]; exact h.2.2 k hk (sp k hb q)
theorem CN_all {c : Cf} {l : Nat} {Γ : Nat → Nat → Nat} {s : Nat} {S : Nat → Nat} (h : CN c l Γ s S) (ha : ∀ i, i < c 23 → s.testBit i = true) : QQ c l Γ S := by
  refine ⟨fun i hi => h.1 i hi (ha i hi), fun i j hi hj hij => h.2.1 i j hi hj (ha i hi) (ha j hj) hij, fun i hi => ?_⟩
  have := h.2.2 i hi (ha i hi)
  have e : cs c S s (S i) = cnt S (S i) (c 23) := fb_ct_cong (fun k hk => by rw [ha k hk]; rfl)
  omega
def SE (c : Cf) (Γ : Nat → Nat → Nat) (σ : HS) : Prop := BOK c σ ∧ ∀ i j, i < c 23 → j < c 23 → σ.1 56 (i * 6 + j) = mtv (Γ i j) ∧ Γ i j ≤ 26
theorem SE.f {c : Cf} {Γ : Nat → Nat → Nat} {σ σ' : HS} (h : SE c Γ σ) {ls : List Nat} (hf : fr ls σ σ') (hl : ∀ o, o ∈ ls → 48 < o ∧ o ≠ 56) : SE c Γ σ' := ⟨h.1.fr hf (fun o ho => by have := hl o ho; omega), by rw [hf 56 (fun q => (hl 56 q).2 rfl)]; exact h.2⟩
def TR (c : Cf) (s : Nat) (S : Nat → Nat) (σ : HS) : Prop := ∀ i, i < c 23 → s.testBit i = true → σ.1 57 i = nI (S i)
def RW (c : Cf) (l : Nat) (Γ : Nat → Nat → Nat) (e s : Nat) (S : Nat → Nat) (σ : HS) : Prop := ∀ j, j < c 23 → s.testBit j = false → ∀ t, t < 32 → (bt (σ.1 55 (e * 6 + j)) t = true ↔ RC c l Γ s S j t)
theorem c_isFull {c : Cf} (w : WF c) {Γ : Nat → Nat → Nat} {σ : HS} (h : SE c Γ σ) {s : Nat} (hs : s < 64) {S : Nat → Nat} (hS : ∀ i, i < c 23 → s.testBit i = true → S i ≤ 25) (hT : TR c s S σ) {t : Nat} (ht : t ≤ 25) : ∃ v, v ≤ 1 ∧ f_X5_isFull (nI t) (nI s) σ = some (nI v, σ) ∧ (v = 1 ↔ c 21 ≤ cs c S s t) := by
  have hn := w.p_n
  have hw := w.p_wd
  have key : ∀ i, i ≤ c 23 → ∀ n, c 23 < i + n → ∃ v, v ≤ 1 ∧ f_X5_isFull_6 n (nI t) (nI s) (nI (fb_ct (fun k => s.testBit k && decide (S k = t)) i)) (nI i) σ = some (nI v, σ) ∧ (v = 1 ↔ c 21 ≤ cs c S s t) := by
    refine dn_ind ?_ ?_
    · intro n hn'
      obtain ⟨n, rfl⟩ : ∃ m, n = m + 1 := ⟨n - 1, by omega⟩
      have hle := fb_ct_le (fun k => s.testBit k && decide (S k = t)) (c 23)
      rw [f_X5_isFull_6, h.1.1, if_pos (by rw [z_le (by omega) (by omega)]; omega), h.1.2.1]
      by_cases e : fb_ct (fun k => s.testBit k && decide (S k = t)) (c 23) < c 21
      · rw [if_pos (by rw [z_lt (by omega) (by omega)]; exact e)]
        exact ⟨0, by omega, rfl, ⟨fun q => by omega, fun q => by unfold cs at q; omega⟩⟩
      · rw [if_neg (by rw [z_lt (by omega) (by omega)]; exact e)]
        exact ⟨1, by omega, rfl, ⟨fun _ => by unfold cs; omega, fun _ => rfl⟩⟩
    · intro i hi ih n hn'
      obtain ⟨n, rfl⟩ : ∃ m, n = m + 1 := ⟨n - 1, by omega⟩
      have ih := ih n (by omega)
      rw [fb_ct_succ] at ih
      rw [f_X5_isFull_6, h.1.1, if_neg (by rw [z_le (by omega) (by omega)]; omega), show (1 : Int32) = nI 1 from rfl, show (31 : Int32) = nI 31 from rfl, z_add, z_add]
      by_cases e : s.testBit i = false
      · rw [if_pos (show _ = (0 : Int32) from (bit_if _ _ (by omega) (by omega)).mpr e)]
        simp only [e, Bool.false_and, Bool.false_eq_true, if_false, Nat.add_zero] at ih
        exact ih
      · have et : s.testBit i = true := by simpa using e
        have := hS i hi et
        rw [if_neg (show ¬ _ = (0 : Int32) from fun q => e ((bit_if _ _ (by omega) (by omega)).mp q)), z_ld (by omega) (by omega), z_bi, hT i hi et]
        by_cases g : S i = t
        · rw [if_pos (by rw [g])]
          simp only [et, g, Bool.true_and, decide_true, if_true] at ih
          exact ih
        · rw [if_neg (by rw [z_eq (by omega) (by omega)]; exact g)]
          simp only [et, g, Bool.true_and, decide_false, Bool.false_eq_true, if_false, Nat.add_zero] at ih
          exact ih
  have k := key 0 (by omega) FU (by have := FU_b; omega)
  rw [show fb_ct (fun k => s.testBit k && decide (S k = t)) 0 = 0 from rfl, show nI 0 = (0 : Int32) from rfl] at k
  rw [f_X5_isFull]; exact k
theorem c_nr33 {c : Cf} (w : WF c) {l : Nat} {Γ : Nat → Nat → Nat} {e s i τ : Nat} {S : Nat → Nat} (he : e < 6) (hs : s < 64) (hi : i < c 23) (hsi : s.testBit i = false) (hτ : τ ≤ 25) (hrc : cs c S s τ < c 21) {x6 : Int32} (hx : ∀ t, t < 32 → bt x6 t = decide (t = τ ∧ c 21 ≤ cs c (un S i τ) (s ||| 1 <<< i) τ)) : ∀ j, j ≤ c 23 → ∀ n, c 23 < j + n → ∀ σ, SE c Γ σ → RW c l Γ e s S σ → (∀ j', j' < j → (s ||| 1 <<< i).testBit j' = false → ∀ t, t < 32 → (bt (σ.1 55 ((e + 1) * 6 + j')) t = true ↔ RC c l Γ (s ||| 1 <<< i) (un S i τ) j' t)) → ∃ v σ', v ≤ 1 ∧ f_X5_narrow_33 n (nI e) (nI i) (nI (s ||| 1 <<< i)) (nI τ) x6 (nI j) σ = some (nI v, σ') ∧ fr [55] σ σ' ∧ (∀ k, k < (e + 1) * 6 → σ'.1 55 k = σ.1 55 k) ∧ (v = 1 → RW c l Γ (e + 1) (s ||| 1 <<< i) (un S i τ) σ') ∧ (v = 0 → ∃ j', j' < c 23 ∧ (s ||| 1 <<< i).testBit j' = false ∧ ∀ t, ¬ RC c l Γ (s ||| 1 <<< i) (un S i τ) j' t) := by
  have hn := w.p_n
  have hs' : s ||| 1 <<< i < 64 := Nat.or_lt_two_pow (n := 6) hs (by
    rw [Nat.one_shiftLeft]; exact Nat.pow_lt_pow_right (by omega) (by omega))
  have ui : un S i τ i = τ := by unfold un; rw [if_pos rfl]
  have uo : ∀ k, k ≠ i → un S i τ k = S k := fun k hk => by unfold un; rw [if_neg hk]
  have hRC : ∀ j t, j < c 23 → (s ||| 1 <<< i).testBit j = false → (RC c l Γ (s ||| 1 <<< i) (un S i τ) j t ↔ RC c l Γ s S j t ∧ okp c Γ i τ j t ∧ ¬ (t = τ ∧ c 21 ≤ cs c (un S i τ) (s ||| 1 <<< i) τ)) := by
    intro j t hj hjb
    have ca := cs_add (S := S) hi hsi t τ
    have caτ := cs_add (S := S) hi hsi τ τ
    rw [if_pos rfl] at caτ
    constructor
    · rintro ⟨r1, r2, r3⟩
      refine ⟨⟨r1, fun a ha hsa => ?_, by omega⟩, ?_, ?_⟩
      · have hne : a ≠ i := fun q => by rw [q, hsi] at hsa; cases hsa
        have := r2 a ha (by rw [or1_b, hsa]; rfl)
        rw [uo a hne] at this; exact this
      · have := r2 i hi (by rw [or1_b]; simp)
        rw [ui] at this; exact this
      · rintro ⟨q1, q2⟩
        rw [q1] at r3; omega
    · rintro ⟨⟨r1, r2, r3⟩, r4, r5⟩
      refine ⟨r1, fun a ha hsa => ?_, ?_⟩
      · by_cases q : a = i
        · rw [q, ui]; exact r4
        · rw [uo a q]
          rw [or1_b] at hsa
          exact r2 a ha (by simpa [q] using hsa)
      · by_cases q : τ = t
        · subst q
          have : ¬ c 21 ≤ cs c (un S i τ) (s ||| 1 <<< i) τ := fun g => r5 ⟨rfl, g⟩
          omega
        · rw [ca, if_neg q]; exact r3
  refine dn_ind ?_ ?_
  · intro n hn' σ h hr hd
    obtain ⟨n, rfl⟩ : ∃ m, n = m + 1 := ⟨n - 1, by omega⟩
    refine ⟨1, σ, by omega, ?_, fr.rf _ _, fun _ _ => rfl, fun _ j hj hb => hd j hj hb, fun q => by omega⟩
    rw [f_X5_narrow_33, h.1.1, if_pos (by rw [z_le (by omega) (by omega)]; omega)]; rfl
  · intro j hj ih n hn' σ h hr hd
    obtain ⟨n, rfl⟩ : ∃ m, n = m + 1 := ⟨n - 1, by omega⟩
    have hcl := cl_lt (c := c) i j
    rw [f_X5_narrow_33, h.1.1, if_neg (by rw [z_le (by omega) (by omega)]; omega)]
    have ebit : ((nI (s ||| 1 <<< i) >>> (nI j &&& 31)) &&& 1) = 0 ↔ (s ||| 1 <<< i).testBit j = false := bit_if _ _ (by omega) (by omega)
    by_cases eb : (s ||| 1 <<< i).testBit j = false
    · rw [if_pos (ebit.mpr eb)]
      have hjs : s.testBit j = false := by rw [or1_b] at eb; simp at eb; exact eb.1
      have hji : j ≠ i := by rw [or1_b] at eb; simp at eb; exact eb.2
      obtain ⟨g1, g2⟩ := h.2 i j hi hj
      obtain ⟨g3, g4⟩ := h.2 j i hj hi
      -- the rest of a turn of the loop, once the word is known
      have fin : ∀ x : Int32, (∀ t, t < 32 → (bt x t = true ↔ RC c l Γ (s ||| 1 <<< i) (un S i τ) j t)) → ∃ v σ', v ≤ 1 ∧ f_X5_narrow_167 (f_X5_narrow_33 n) (nI e) (nI i) (nI (s ||| 1 <<< i)) (nI τ) x6 (nI j) x σ = some (nI v, σ') ∧ fr [55] σ σ' ∧ (∀ k, k < (e + 1) * 6 → σ'.1 55 k = σ.1 55 k) ∧ (v = 1 → RW c l Γ (e + 1) (s ||| 1 <<< i) (un S i τ) σ') ∧ (v = 0 → ∃ j', j' < c 23 ∧ (s ||| 1 <<< i).testBit j' = false ∧ ∀ t, ¬ RC c l Γ (s ||| 1 <<< i) (un S i τ) j' t) := by
        intro x hx'
        rw [f_X5_narrow_167]
        by_cases x0 : x = 0
        · rw [if_pos x0]
          refine ⟨0, σ, by omega, rfl, fr.rf _ _, fun _ _ => rfl, fun q => by omega, fun _ => ⟨j, hj, eb, fun t q => ?_⟩⟩
          have ht : t < 32 := by have := q.1.2.2; omega
          have := (hx' t ht).mpr q
          rw [bt_z.mp x0 t ht] at this; cases this
        · rw [if_neg x0, show (1 : Int32) = nI 1 from rfl, z_add, z_add, c_pair, z_bi, z_st (by omega) (by omega), z_bi]
          have f1 : fr [55] σ (sI σ 55 ((e + 1) * 6 + j) x) := fr.sI (by simp)
          obtain ⟨v, σ', a1, a2, a3, a4, a5, a6⟩ := ih n (by omega) _ (h.f f1 (by simp)) (by
            intro j' hj' hb' t ht
            rw [s_I1]; unfold upd; rw [if_neg (by omega)]
            exact hr j' hj' hb' t ht) (by
            intro j' hj' hb' t ht
            rw [s_I1]; unfold upd
            by_cases q : j' = j
            · rw [q, if_pos rfl]; exact hx' t ht
            · rw [if_neg (by omega)]; exact hd j' (by omega) hb' t ht)
          refine ⟨v, σ', a1, a2, f1.tr a3, fun k hk => ?_, a5, a6⟩
          rw [a4 k hk, s_I1]; unfold upd; rw [if_neg (by omega)]
      have s130 : ∀ y : Int32, (∀ t, t < 32 → (bt y t = true ↔ RC c l Γ s S j t ∧ ¬ (t = τ ∧ c 21 ≤ cs c (un S i τ) (s ||| 1 <<< i) τ) ∧ ¬ CL c i τ j t ∧ (Γ i j ≠ 0 → τ + (Γ i j - 1) ≤ t))) → ∃ v σ', v ≤ 1 ∧ f_X5_narrow_130 (f_X5_narrow_33 n) (nI e) (nI i) (nI (s ||| 1 <<< i)) (nI τ) x6 (nI j) y σ = some (nI v, σ') ∧ fr [55] σ σ' ∧ (∀ k, k < (e + 1) * 6 → σ'.1 55 k = σ.1 55 k) ∧ (v = 1 → RW c l Γ (e + 1) (s ||| 1 <<< i) (un S i τ) σ') ∧ (v = 0 → ∃ j', j' < c 23 ∧ (s ||| 1 <<< i).testBit j' = false ∧ ∀ t, ¬ RC c l Γ (s ||| 1 <<< i) (un S i τ) j' t) := by
        intro y hy
        rw [f_X5_narrow_130, c_pair, z_bi, z_ld (by omega) (by omega), z_bi, g3]
        by_cases q : Γ j i = 0
        · rw [if_pos ((mtv_0 (by omega)).mpr q)]
          refine fin y (fun t ht => ?_)
          rw [hy t ht, hRC j t hj eb]
          exact ⟨fun ⟨a, b, d, k⟩ => ⟨a, ⟨d, k, fun z => absurd q z⟩, b⟩, fun ⟨a, ⟨b, d, _⟩, k⟩ => ⟨a, k, b, d⟩⟩
        · rw [if_neg (fun z => q ((mtv_0 (by omega)).mp z)), c_pair, z_bi, z_ld (by omega) (by omega), z_bi, g3, mtv_s q]
          obtain ⟨u, u1, u2⟩ := c_upTo (a := τ) (b := Γ j i - 1) (by omega) (by omega) σ
          rw [u1, z_bi]
          refine fin (y &&& u) (fun t ht => ?_)
          rw [b_and, u2 t ht, Bool.and_eq_true, decide_eq_true_eq, hy t ht, hRC j t hj eb]
          exact ⟨fun ⟨⟨a, b, d, k⟩, m⟩ => ⟨a, ⟨d, k, fun _ => m.1⟩, b⟩, fun ⟨a, ⟨b, d, m⟩, k⟩ => ⟨⟨a, k, b, d⟩, m q, a.1.2.2⟩⟩
      simp only [c_pair, z_bi]
      rw [z_ld (by omega) (by omega), z_bi, z_ld (by omega) (by omega), z_bi, z_ld (by omega) (by omega), z_bi, g1, h.1.2.2.2.2.2.2.2 i j hi hj]
      have hrow := hr j hj hjs
      have word : ∀ t, t < 32 → (bt ((σ.1 55 (e * 6 + j) &&& (x6 ^^^ (-1))) &&& ((((nI (cl c i j) <<< (nI τ &&& 31) : Int32).toUInt32 >>> ((3 : Int32).toUInt32 &&& Int32.toUInt32 31)).toInt32) ^^^ (-1))) t = true ↔ RC c l Γ s S j t ∧ ¬ (t = τ ∧ c 21 ≤ cs c (un S i τ) (s ||| 1 <<< i) τ) ∧ ¬ CL c i τ j t) := by
        intro t ht
        rw [b_and, b_and, b_xor, b_xor, b_m1 t ht, hx t ht]
        by_cases r : RC c l Γ s S j t
        · have t25 := r.1.2.2
          rw [(hrow t ht).mpr r, bt_clash w hi hj hτ t25]
          by_cases q1 : (t = τ ∧ c 21 ≤ cs c (un S i τ) (s ||| 1 <<< i) τ)
          · simp [q1]
          · by_cases q2 : clb c i τ j t = true
            · have := (clb_CL w hi hj τ t).mp q2
              simp [q2, this]
            · have q3 : ¬ CL c i τ j t := fun z => q2 ((clb_CL w hi hj τ t).mpr z)
              have q4 : clb c i τ j t = false := by simpa using q2
              have q5 : decide (t = τ ∧ c 21 ≤ cs c (un S i τ) (s ||| 1 <<< i) τ) = false := by rw [decide_eq_false_iff_not]; exact q1
              rw [q4, q5]
              exact ⟨fun _ => ⟨r, q1, q3⟩, fun _ => rfl⟩
        · have : bt (σ.1 55 (e * 6 + j)) t = false := by
            cases q : bt (σ.1 55 (e * 6 + j)) t with
            | false => rfl
            | true => exact absurd ((hrow t ht).mp q) r
          rw [this]
          exact ⟨fun q => (by simp at q), fun q => absurd q.1 r⟩
      by_cases q : Γ i j = 0
      · rw [if_pos ((mtv_0 (by omega)).mpr q)]
        refine s130 _ (fun t ht => ?_)
        rw [word t ht]
        exact ⟨fun ⟨a, b, d⟩ => ⟨a, b, d, fun z => absurd q z⟩, fun ⟨a, b, d, _⟩ => ⟨a, b, d⟩⟩
      · rw [if_neg (fun z => q ((mtv_0 (by omega)).mp z)), z_bi, mtv_s q, z_add]
        obtain ⟨u, u1, u2⟩ := c_from (t := τ + (Γ i j - 1)) (by omega) σ
        rw [u1, z_bi]
        refine s130 _ (fun t ht => ?_)
        rw [b_and, u2 t ht, Bool.and_eq_true, decide_eq_true_eq, word t ht]
        exact ⟨fun ⟨⟨a, b, d⟩, k⟩ => ⟨a, b, d, fun _ => k.1⟩, fun ⟨a, b, d, k⟩ => ⟨⟨a, b, d⟩, k q, a.1.2.2⟩⟩
    · rw [if_neg (fun q => eb (ebit.mp q)), show (1 : Int32) = nI 1 from rfl, z_add]
      refine ih n (by omega) σ h hr (fun j' hj' hb' t ht => ?_)
      by_cases q : j' = j
      · rw [q] at hb'; exact absurd hb' eb
      · exact hd j' (by omega) hb' t ht
theorem c_narrow {c : Cf} (w : WF c) {l : Nat} {Γ : Nat → Nat → Nat} {e s i τ : Nat} {S : Nat → Nat} {σ : HS} (h : SE c Γ σ) (he : e < 6) (hs : s < 64) (hi : i < c 23) (hsi : s.testBit i = false) (hcn : CN c l Γ s S) (hrc : RC c l Γ s S i τ) (hr : RW c l Γ e s S σ) (hT : TR c (s ||| 1 <<< i) (un S i τ) σ) : ∃ v σ', v ≤ 1 ∧ f_X5_narrow (nI e) (nI i) (nI (s ||| 1 <<< i)) σ = some (nI v, σ') ∧ fr [55] σ σ' ∧ (∀ k, k < (e + 1) * 6 → σ'.1 55 k = σ.1 55 k) ∧ (v = 1 → RW c l Γ (e + 1) (s ||| 1 <<< i) (un S i τ) σ') ∧ (v = 0 → ∃ j', j' < c 23 ∧ (s ||| 1 <<< i).testBit j' = false ∧ ∀ t, ¬ RC c l Γ (s ||| 1 <<< i) (un S i τ) j' t) := by
  have hn := w.p_n
  have hs' : s ||| 1 <<< i < 64 := Nat.or_lt_two_pow (n := 6) hs (by
    rw [Nat.one_shiftLeft]; exact Nat.pow_lt_pow_right (by omega) (by omega))
  have ui : un S i τ i = τ := by unfold un; rw [if_pos rfl]
  have hτ := hrc.1.2.2
  have hti := hT i hi (by rw [or1_b]; simp)
  rw [ui] at hti
  have hc2 := CN_add hcn hi hsi hrc
  obtain ⟨v, v1, v2, v3⟩ := c_isFull w h hs' (fun k hk hb => (hc2.1 k hk hb).2.2) hT hτ
  rw [f_X5_narrow, z_ld (by omega) (by omega), z_bi, hti, v2, z_bi]
  by_cases ev : v = 0
  · rw [if_pos (by rw [ev]; rfl)]
    have k := c_nr33 w (x6 := 0) he hs hi hsi hτ hrc.2.2 (fun t ht => by
      have : ¬ c 21 ≤ cs c (un S i τ) (s ||| 1 <<< i) τ := fun q => by have := v3.mpr q; omega
      rw [b_0]; simp [this]) 0 (by omega) FU (by have := FU_b; omega) σ h hr (fun j' hj' => by omega)
    exact k
  · rw [if_neg (by rw [z_0, z_eq (by omega) (by omega)]; exact ev)]
    have k := c_nr33 w (x6 := (1 : Int32) <<< (nI τ &&& 31)) he hs hi hsi hτ hrc.2.2 (fun t ht => by
      have := v3.mp (by omega)
      rw [bt_one (by omega) ht]; simp [this]) 0 (by omega) FU (by have := FU_b; omega) σ h hr (fun j' hj' => by omega)
    exact k
