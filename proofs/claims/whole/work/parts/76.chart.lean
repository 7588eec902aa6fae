-- lists of states
abbrev SL : Type := Nat × (Nat → Nat)
/-- the first place of x among the first n, or n -/
def ixF (F : Nat → Nat) (x : Nat) : Nat → Nat
  | 0 => 0
  | n + 1 => if ixF F x n < n then ixF F x n else if F n = x then n else n + 1
theorem ixF_le (F : Nat → Nat) (x : Nat) : ∀ n, ixF F x n ≤ n := by
  intro n
  induction n with
  | zero => exact Nat.le_refl _
  | succ n ih => rw [ixF]; repeat' split
                 all_goals omega
theorem ixF_at {F : Nat → Nat} {x : Nat} : ∀ n, ixF F x n < n → F (ixF F x n) = x := by
  intro n
  induction n with
  | zero => intro h; omega
  | succ n ih =>
    rw [ixF]
    split
    · rename_i h; intro _; exact ih h
    · split
      · rename_i h; intro _; exact h
      · intro h; omega
theorem ixF_no {F : Nat → Nat} {x : Nat} : ∀ n i, i < ixF F x n → F i ≠ x := by
  intro n
  induction n with
  | zero => intro i h; exact absurd h (Nat.not_lt_zero _)
  | succ n ih =>
    intro i
    rw [ixF]
    split
    · exact ih i
    · rename_i h1
      have h2 := ixF_le F x n
      have h3 : ixF F x n = n := by omega
      rw [h3] at ih
      split
      · intro h; exact ih i h
      · rename_i h4
        intro h
        by_cases e : i = n
        · rw [e]; exact h4
        · exact ih i (by omega)
theorem ixF_in {F : Nat → Nat} {x n i : Nat} (hi : i < n) (h : F i = x) : ixF F x n < n := by
  rcases Nat.lt_or_ge (ixF F x n) n with q | q
  · exact q
  · exact absurd h (ixF_no n i (by omega))
theorem ixF_cg {F G : Nat → Nat} (x : Nat) : ∀ n, (∀ i, i < n → F i = G i) → ixF F x n = ixF G x n := by
  intro n
  induction n with
  | zero => intro _; rfl
  | succ n ih => intro h; rw [ixF, ixF, ih (fun i hi => h i (by omega)), h n (by omega)]
def addS (x : Nat) (p : SL) : SL := if ixF p.2 x p.1 < p.1 then p else if 150 < p.1 then p else (p.1 + 1, un p.2 p.1 x)
def GD (p : SL) : Prop := p.1 ≤ 151 ∧ (∀ i, i < p.1 → p.2 i < 4096) ∧ ∀ i j, i < j → j < p.1 → p.2 i ≠ p.2 j
theorem GD.add {p : SL} (h : GD p) {x : Nat} (hx : x < 4096) : GD (addS x p) := by
  unfold addS
  by_cases e : ixF p.2 x p.1 < p.1
  · rw [if_pos e]; exact h
  · rw [if_neg e]
    by_cases g : 150 < p.1
    · rw [if_pos g]; exact h
    · rw [if_neg g]
      have hl := ixF_le p.2 x p.1
      have hno := ixF_no (F := p.2) (x := x) p.1
      rw [show ixF p.2 x p.1 = p.1 by omega] at hno
      refine ⟨by show p.1 + 1 ≤ 151; omega, fun i hi => ?_, fun i j h1 h2 => ?_⟩
      · show un p.2 p.1 x i < 4096
        unfold un
        have hi : i < p.1 + 1 := hi
        by_cases q : i = p.1
        · rw [if_pos q]; exact hx
        · rw [if_neg q]; exact h.2.1 i (by omega)
      · show un p.2 p.1 x i ≠ un p.2 p.1 x j
        unfold un
        have h2 : j < p.1 + 1 := h2
        rw [if_neg (show i ≠ p.1 by omega)]
        by_cases q : j = p.1
        · rw [if_pos q]; exact hno i (by omega)
        · rw [if_neg q]; exact h.2.2 i j h1 (by omega)
theorem addS_ge (x : Nat) (p : SL) : p.1 ≤ (addS x p).1 := by
  unfold addS
  repeat' split
  · exact Nat.le_refl _
  · exact Nat.le_refl _
  · exact Nat.le_succ _
theorem addS_k (x : Nat) (p : SL) {i : Nat} (hi : i < p.1) : (addS x p).2 i = p.2 i := by
  unfold addS
  repeat' split
  · rfl
  · rfl
  · show un p.2 p.1 x i = _
    unfold un; rw [if_neg (by omega)]
/-- the class's tables tell a list -/
def mn (n : Nat) : Nat := min n 150
def LC (p : SL) (σ : HS) : Prop := σ.1 38 3 = nI (mn p.1) ∧ σ.1 38 5 = nI (if p.1 = 151 then 1 else 0) ∧ (∀ i, i < mn p.1 → σ.1 39 i = nI (p.2 i)) ∧ ∀ x, x < 4096 → σ.1 41 x = nI (if ixF p.2 x (mn p.1) < mn p.1 then ixF p.2 x (mn p.1) + 1 else 0)
theorem LC.fr {p : SL} {σ σ' : HS} (h : LC p σ) {l : List Nat} (hf : fr l σ σ') (hl : 38 ∉ l ∧ 39 ∉ l ∧ 41 ∉ l) : LC p σ' := by
  unfold LC
  rw [hf 38 hl.1, hf 39 hl.2.1, hf 41 hl.2.2]
  exact h
theorem c_note {p : SL} {σ : HS} (h : LC p σ) (hg : GD p) {x : Nat} (hx : x < 4096) : ∃ σ', f_X1_note (nI x) σ = some σ' ∧ LC (addS x p) σ' ∧ fr [38, 39, 41] σ σ' := by
  obtain ⟨h1, h2, h3, h4⟩ := h
  have hn := hg.1
  have hl := ixF_le p.2 x (mn p.1)
  have hm : mn p.1 ≤ 150 ∧ mn p.1 ≤ p.1 := by unfold mn; omega
  rw [f_X1_note, z_ld (by omega) (by omega), z_bi, h4 x hx]
  by_cases e : ixF p.2 x (mn p.1) < mn p.1
  · rw [if_pos e, if_neg (by rw [z_0, z_eq (by omega) (by omega)]; omega)]
    refine ⟨σ, rfl, ?_, fr.rf _ _⟩
    have : addS x p = p := by
      unfold addS
      rw [if_pos (ixF_in (i := ixF p.2 x (mn p.1)) (by omega) (ixF_at _ e))]
    rw [this]
    exact ⟨h1, h2, h3, h4⟩
  · rw [if_neg e, if_pos (by rfl), h1]
    have hno := ixF_no (F := p.2) (x := x) (mn p.1)
    rw [show ixF p.2 x (mn p.1) = mn p.1 by omega] at hno
    by_cases g : p.1 < 150
    · have em : mn p.1 = p.1 := by unfold mn; omega
      rw [em] at h1 h3 h4 hno e
      have ea : addS x p = (p.1 + 1, un p.2 p.1 x) := by
        unfold addS
        rw [if_neg e, if_neg (by omega)]
      have em' : mn (p.1 + 1) = p.1 + 1 := by unfold mn; omega
      rw [em, if_pos (show nI p.1 < 150 from (z_lt (b := 150) (by omega) (by omega)).mpr g), z_st (by omega) (by omega), z_bi]
      rw [s_I2 _ _ _ (by omega), h1, show (1 : Int32) = nI 1 from rfl, z_add, s_I1, u_1, z_st (by omega) (by omega), z_bi]
      refine ⟨_, rfl, ?_, ((fr.sI (by simp)).tr (fr.sI (by simp))).tr (fr.sI (by simp))⟩
      rw [ea]
      refine ⟨?_, ?_, ?_, ?_⟩
      · show _ = nI (mn (p.1 + 1))
        rw [s_I2 _ _ _ (by omega), s_I1, u_1, em']
      · show _ = nI (if p.1 + 1 = 151 then 1 else 0)
        rw [s_I2 _ _ _ (by omega), s_I1, u_2 _ _ (by omega), s_I2 _ _ _ (by omega), h2, if_neg (by omega), if_neg (by omega)]
      · show ∀ i, i < mn (p.1 + 1) → _ = nI (un p.2 p.1 x i)
        intro i hi
        rw [em'] at hi
        rw [s_I2 _ _ _ (by omega), s_I2 _ _ _ (by omega), s_I1]
        unfold upd un
        by_cases q : i = p.1
        · rw [if_pos q, if_pos q]
        · rw [if_neg q, if_neg q]; exact h3 i (by omega)
      · show ∀ y, y < 4096 → _ = nI (if ixF (un p.2 p.1 x) y (mn (p.1 + 1)) < mn (p.1 + 1) then ixF (un p.2 p.1 x) y (mn (p.1 + 1)) + 1 else 0)
        intro y hy
        rw [em', s_I1, s_I2 _ _ _ (by omega), s_I2 _ _ _ (by omega), ixF, ixF_cg (F := un p.2 p.1 x) (G := p.2) y p.1 (fun i hi => by unfold un; rw [if_neg (by omega)])]
        have hly := ixF_le p.2 y p.1
        unfold upd
        by_cases q : y = x
        · subst q
          rw [if_pos rfl, if_neg e]
          unfold un
          rw [if_pos rfl, if_pos rfl, if_pos (by omega)]
        · rw [if_neg q, h4 y hy]
          by_cases z : ixF p.2 y p.1 < p.1
          · rw [if_pos z, if_pos z, if_pos (by omega)]
          · rw [if_neg z, if_neg z]
            unfold un
            rw [if_pos rfl, if_neg (show ¬ x = y from fun q' => q q'.symm), if_neg (by omega)]
    · have em : mn p.1 = 150 := by unfold mn; omega
      rw [em] at h1 h3 h4 hno e
      rw [em, if_neg (show ¬ nI 150 < 150 by decide)]
      refine ⟨_, rfl, ?_, fr.sI (by simp)⟩
      have ek : (addS x p).1 = 151 ∧ mn (addS x p).1 = 150 ∧ ∀ i, i < 150 → (addS x p).2 i = p.2 i := by
        have ge := addS_ge x p
        have hk : ∀ i, i < 150 → (addS x p).2 i = p.2 i := fun i hi => addS_k x p (by omega)
        have gl := (hg.add hx).1
        have : (addS x p).1 = 151 := by
          rcases (show p.1 = 150 ∨ p.1 = 151 by omega) with q | q
          · unfold addS
            rw [q, if_neg e, if_neg (by omega)]
          · omega
        exact ⟨this, by unfold mn; omega, hk⟩
      refine ⟨?_, ?_, ?_, ?_⟩
      · rw [s_I1, u_2 _ _ (by omega), h1, ek.2.1]
      · rw [s_I1, u_1, if_pos ek.1]; rfl
      · intro i hi
        rw [ek.2.1] at hi
        rw [s_I2 _ _ _ (by omega), h3 i hi, ek.2.2 i hi]
      · intro y hy
        rw [s_I2 _ _ _ (by omega), h4 y hy, ek.2.1, ixF_cg (F := (addS x p).2) (G := p.2) y 150 ek.2.2]
/-- the reference's list -/
def LM (p : SL) (σ : HS) : Prop := σ.1 67 6 = nI p.1 ∧ ∀ i, i < p.1 → σ.1 72 i = nI (p.2 i)
theorem m_number {p : SL} {σ : HS} (h : LM p σ) (hg : GD p) {x : Nat} (hx : x < 4096) : ∃ σ', f_X9_number (nI x) σ = some (nI (ixF p.2 x p.1), σ') ∧ LM (addS x p) σ' ∧ (∀ o, o ≠ 67 → o ≠ 72 → σ'.1 o = σ.1 o) ∧ ∀ k, k ≠ 6 → σ'.1 67 k = σ.1 67 k := by
  obtain ⟨h1, h2⟩ := h
  have hn := hg.1
  have hl := ixF_le p.2 x p.1
  have s26 : ∃ σ', f_X9_number_26 (nI x) (nI (ixF p.2 x p.1)) σ = some (nI (ixF p.2 x p.1), σ') ∧ LM (addS x p) σ' ∧ (∀ o, o ≠ 67 → o ≠ 72 → σ'.1 o = σ.1 o) ∧ ∀ k, k ≠ 6 → σ'.1 67 k = σ.1 67 k := by
    rw [f_X9_number_26, h1]
    by_cases e : ixF p.2 x p.1 < p.1
    · rw [if_neg (by rw [z_eq (by omega) (by omega)]; omega)]
      refine ⟨σ, rfl, ?_, fun _ _ _ => rfl, fun _ _ => rfl⟩
      unfold addS; rw [if_pos e]; exact ⟨h1, h2⟩
    · have e' : ixF p.2 x p.1 = p.1 := by omega
      rw [if_pos (by rw [e']), e']
      by_cases g : 150 < p.1
      · rw [if_pos (show (150 : Int32) < nI p.1 from (z_lt (a := 150) (by omega) (by omega)).mpr g)]
        refine ⟨σ, rfl, ?_, fun _ _ _ => rfl, fun _ _ => rfl⟩
        unfold addS; rw [if_neg e, if_pos g]; exact ⟨h1, h2⟩
      · rw [if_neg (show ¬ (150 : Int32) < nI p.1 from fun q => g ((z_lt (a := 150) (by omega) (by omega)).mp q)), z_st (by omega) (by omega), z_bi]
        refine ⟨_, rfl, ?_, fun o o1 o2 => ?_, fun k hk => ?_⟩
        · unfold addS; rw [if_neg e, if_neg g]
          refine ⟨?_, ?_⟩
          · show _ = nI (p.1 + 1)
            rw [s_I1, u_1, s_I2 _ _ _ (by omega), h1, show (1 : Int32) = nI 1 from rfl, z_add]
          · show ∀ i, i < p.1 + 1 → _ = nI (un p.2 p.1 x i)
            intro i hi
            rw [s_I2 _ _ _ (by omega), s_I1]; unfold upd un
            by_cases q : i = p.1
            · rw [if_pos q, if_pos q]
            · rw [if_neg q, if_neg q]; exact h2 i (by omega)
        · rw [s_I2 _ _ _ o1, s_I2 _ _ _ o2]
        · rw [s_I1, u_2 _ _ hk, s_I2 _ _ _ (by omega)]
  have key : ∀ i, i ≤ ixF p.2 x p.1 → ∀ n, ixF p.2 x p.1 < i + n → f_X9_number_2 n (nI x) (nI i) σ = f_X9_number_26 (nI x) (nI (ixF p.2 x p.1)) σ := by
    refine dn_ind ?_ ?_
    · intro n hn'
      obtain ⟨n, rfl⟩ : ∃ m, n = m + 1 := ⟨n - 1, by omega⟩
      rw [f_X9_number_2, h1]
      by_cases e : ixF p.2 x p.1 < p.1
      · rw [if_neg (by rw [z_le (by omega) (by omega)]; omega), z_ld (by omega) (by omega), z_bi, h2 _ e, ixF_at _ e, if_pos rfl]
      · rw [if_pos (by rw [z_le (by omega) (by omega)]; omega)]
    · intro i hi ih n hn'
      obtain ⟨n, rfl⟩ : ∃ m, n = m + 1 := ⟨n - 1, by omega⟩
      have b1 := hg.2.1 i (by omega)
      rw [f_X9_number_2, h1, if_neg (by rw [z_le (by omega) (by omega)]; omega), z_ld (by omega) (by omega), z_bi, h2 i (by omega), if_neg (by rw [z_eq (by omega) (by omega)]; exact ixF_no _ i hi), show (1 : Int32) = nI 1 from rfl, z_add]
      exact ih n (by omega)
  have k := key 0 (by omega) FU (by have := FU_b; omega)
  rw [show nI 0 = (0 : Int32) from rfl] at k
  rw [f_X9_number, k]
  exact s26
