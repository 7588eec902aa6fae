-- spans, ways, first turns
def mxF (f : Nat → Nat) : Nat → Nat
  | 0 => 0
  | n + 1 => max (mxF f n) (f n)
theorem mxF_ge (f : Nat → Nat) {n k : Nat} (h : k < n) : f k ≤ mxF f n := by
  induction n with
  | zero => omega
  | succ n ih =>
    rw [mxF]
    by_cases e : k = n
    · subst e; omega
    · have := ih (by omega); omega
theorem mxF_le {f : Nat → Nat} {n b : Nat} (h : ∀ k, k < n → f k ≤ b) : mxF f n ≤ b := by
  induction n with
  | zero => exact Nat.zero_le _
  | succ n ih =>
    rw [mxF]
    have := ih (fun k hk => h k (by omega))
    have := h n (by omega)
    omega
theorem mxF_congr {f g : Nat → Nat} {n : Nat} (h : ∀ k, k < n → f k = g k) : mxF f n = mxF g n := by
  induction n with
  | zero => rfl
  | succ n ih => rw [mxF, mxF, ih (fun k hk => h k (by omega)), h n (by omega)]
theorem mxF_at {f : Nat → Nat} {n : Nat} : mxF f n = 0 ∨ ∃ k, k < n ∧ mxF f n = f k := by
  induction n with
  | zero => exact Or.inl rfl
  | succ n ih =>
    rw [mxF]
    by_cases e : mxF f n ≤ f n
    · exact Or.inr ⟨n, by omega, by omega⟩
    · rcases ih with q | ⟨k, hk, q⟩
      · omega
      · exact Or.inr ⟨k, by omega, by omega⟩
/-- the greatest turn held, and 1 -/
def tp (m : Nat) : Nat := if m.testBit 3 then 4 else if m.testBit 2 then 3 else if m.testBit 1 then 2 else if m.testBit 0 then 1 else 0
def hun (c : Cf) (i : Nat) : Nat := (hu c i 0 ||| hu c i 1) ||| hu c i 2
def sp (c : Cf) (i : Nat) : Nat := max (la c i) (tp (hun c i))
theorem tp_le (m : Nat) : tp m ≤ 4 := by unfold tp; repeat' split
                                         all_goals omega
theorem sp_b {c : Cf} (w : WF c) {i : Nat} (hi : i < c 23) : 1 ≤ sp c i ∧ sp c i ≤ 5 := by
  have := w.p_la hi
  have := tp_le (hun c i)
  unfold sp
  omega
/-- how many turns i is behind j at the least, if it needs it -/
def dd (c : Cf) (i j : Nat) : Nat := if ct c i j = 1 then la c j else 0
theorem dd_le {c : Cf} (w : WF c) {i j : Nat} (hj : j < c 23) : dd c i j ≤ 5 := by
  have := w.p_la hj
  unfold dd
  split <;> omega
def Wf (c : Cf) : Nat → Nat → Nat
  | 0, x => sp c x
  | k + 1, x => max (sp c x) (mxF (fun j => if ct c j x ≠ 0 then dd c j x + Wf c k j else 0) (c 23))
def Ef (c : Cf) : Nat → Nat → Nat
  | 0, _ => 0
  | k + 1, x => mxF (fun j => if ct c x j ≠ 0 then dd c x j + Ef c k j else 0) (c 23)
def wy (c : Cf) (x : Nat) : Nat := Wf c 6 x
def ea (c : Cf) (x : Nat) : Nat := Ef c 6 x
theorem ct_nd {c : Cf} {i j : Nat} (h : ct c i j ≠ 0) : nd c i j ≠ 0 := by
  intro e
  apply h
  unfold ct
  rw [e]
  split <;> rfl
/-- a rank below the number of instructions -/
theorem rank_n {c : Cf} (w : WF c) : ∃ r : Nat → Nat, (∀ i, i < c 23 → r i < c 23) ∧ ∀ i j, i < 6 → j < 6 → nd c i j ≠ 0 → r j < r i := by
  obtain ⟨r, hr⟩ := w.p_rk
  have hn := w.p_n
  refine ⟨fun x => fb_ct (fun y => decide (r y < r x)) (c 23), fun i hi => ?_, fun i j hi hj hd => ?_⟩
  · have h1 : fb_ct (fun y => decide (r y < r i)) (c 23) < fb_ct (fun _ => true) (c 23) := ct_ssub (fun k _ _ => rfl) hi (by simp) rfl
    have h2 := ct_le (fun _ => true) (c 23)
    show fb_ct (fun y => decide (r y < r i)) (c 23) < c 23
    omega
  · have h1 := hr i j hi hj hd
    have hj' : j < c 23 := by
      rcases Nat.lt_or_ge j (c 23) with q | q
      · exact q
      · exact absurd (w.p_nz hi hj (Or.inr (Or.inl q))) hd
    refine ct_ssub (x := j) (fun k _ hk => ?_) hj' (by simp) (by simpa using h1)
    have hk : r k < r j := by simpa using hk
    show decide (r k < r i) = true
    simp only [decide_eq_true_eq]
    omega
theorem Wf_rest {c : Cf} (w : WF c) {r : Nat → Nat} (h1 : ∀ i, i < c 23 → r i < c 23) (h2 : ∀ i j, i < 6 → j < 6 → nd c i j ≠ 0 → r j < r i) : ∀ (k x : Nat), x < c 23 → c 23 - 1 - r x ≤ k → Wf c (k + 1) x = Wf c k x := by
  have hn := w.p_n
  intro k
  induction k with
  | zero =>
    intro x hx hk
    have := h1 x hx
    rw [Wf, Wf]
    have : mxF (fun j => if ct c j x ≠ 0 then dd c j x + Wf c 0 j else 0) (c 23) ≤ 0 := by
      refine mxF_le (fun j hj => ?_)
      by_cases q : ct c j x ≠ 0
      · have a1 := h2 j x (by omega) (by omega) (ct_nd q)
        have a2 := h1 j hj
        omega
      · rw [if_neg q]; exact Nat.le_refl _
    omega
  | succ k ih =>
    intro x hx hk
    rw [Wf]
    conv => rhs; rw [Wf]
    congr 1
    refine mxF_congr (fun j hj => ?_)
    by_cases q : ct c j x ≠ 0
    · have a1 := h2 j x (by omega) (by omega) (ct_nd q)
      have a2 := h1 j hj
      rw [if_pos q, if_pos q, ih j hj (by omega)]
    · rw [if_neg q, if_neg q]
theorem Ef_rest {c : Cf} (w : WF c) {r : Nat → Nat} (h2 : ∀ i j, i < 6 → j < 6 → nd c i j ≠ 0 → r j < r i) : ∀ (k x : Nat), x < c 23 → r x ≤ k → Ef c (k + 1) x = Ef c k x := by
  have hn := w.p_n
  intro k
  induction k with
  | zero =>
    intro x hx hk
    rw [Ef, Ef]
    have : mxF (fun j => if ct c x j ≠ 0 then dd c x j + Ef c 0 j else 0) (c 23) ≤ 0 := by
      refine mxF_le (fun j hj => ?_)
      by_cases q : ct c x j ≠ 0
      · have a1 := h2 x j (by omega) (by omega) (ct_nd q)
        omega
      · rw [if_neg q]; exact Nat.le_refl _
    omega
  | succ k ih =>
    intro x hx hk
    rw [Ef]
    conv => rhs; rw [Ef]
    refine mxF_congr (fun j hj => ?_)
    by_cases q : ct c x j ≠ 0
    · have a1 := h2 x j (by omega) (by omega) (ct_nd q)
      rw [if_pos q, if_pos q, ih j hj (by omega)]
    · rw [if_neg q, if_neg q]
theorem Wf_more {c : Cf} (w : WF c) {k x : Nat} (hx : x < c 23) (hk : c 23 - 1 ≤ k) : Wf c k x = wy c x := by
  obtain ⟨r, h1, h2⟩ := rank_n w
  have hn := w.p_n
  have up : ∀ d, Wf c (c 23 - 1 + d) x = Wf c (c 23 - 1) x := by
    intro d
    induction d with
    | zero => rfl
    | succ d ih => rw [show c 23 - 1 + (d + 1) = (c 23 - 1 + d) + 1 by omega, Wf_rest w h1 h2 _ x hx (by omega), ih]
  have e1 := up (k - (c 23 - 1))
  have e2 := up (6 - (c 23 - 1))
  rw [show c 23 - 1 + (k - (c 23 - 1)) = k by omega] at e1
  rw [show c 23 - 1 + (6 - (c 23 - 1)) = 6 by omega] at e2
  unfold wy
  rw [e1, e2]
theorem Ef_more {c : Cf} (w : WF c) {k x : Nat} (hx : x < c 23) (hk : c 23 - 1 ≤ k) : Ef c k x = ea c x := by
  obtain ⟨r, h1, h2⟩ := rank_n w
  have hn := w.p_n
  have hrx := h1 x hx
  have up : ∀ d, Ef c (c 23 - 1 + d) x = Ef c (c 23 - 1) x := by
    intro d
    induction d with
    | zero => rfl
    | succ d ih => rw [show c 23 - 1 + (d + 1) = (c 23 - 1 + d) + 1 by omega, Ef_rest w h2 _ x hx (by omega), ih]
  have e1 := up (k - (c 23 - 1))
  have e2 := up (6 - (c 23 - 1))
  rw [show c 23 - 1 + (k - (c 23 - 1)) = k by omega] at e1
  rw [show c 23 - 1 + (6 - (c 23 - 1)) = 6 by omega] at e2
  unfold ea
  rw [e1, e2]
/-- the equations of ways and first turns -/
theorem wy_eq {c : Cf} (w : WF c) {x : Nat} (hx : x < c 23) : wy c x = max (sp c x) (mxF (fun j => if ct c j x ≠ 0 then dd c j x + wy c j else 0) (c 23)) := by
  have h := Wf_more w hx (k := 7) (by have := w.p_n; omega)
  rw [← h, Wf]
  rfl
theorem ea_eq {c : Cf} (w : WF c) {x : Nat} (hx : x < c 23) : ea c x = mxF (fun j => if ct c x j ≠ 0 then dd c x j + ea c j else 0) (c 23) := by
  have h := Ef_more w hx (k := 7) (by have := w.p_n; omega)
  rw [← h, Ef]
  rfl
theorem wy_sp {c : Cf} (w : WF c) {x : Nat} (hx : x < c 23) : sp c x ≤ wy c x := by rw [wy_eq w hx]; omega
theorem wy_step {c : Cf} (w : WF c) {i j : Nat} (hi : i < c 23) (hj : j < c 23) (h : ct c i j ≠ 0) : dd c i j + wy c i ≤ wy c j := by
  have := mxF_ge (fun k => if ct c k j ≠ 0 then dd c k j + wy c k else 0) hi
  rw [if_pos h] at this
  rw [wy_eq w hj]
  omega
theorem ea_step {c : Cf} (w : WF c) {i j : Nat} (hi : i < c 23) (hj : j < c 23) (h : ct c i j ≠ 0) : dd c i j + ea c j ≤ ea c i := by
  have := mxF_ge (fun k => if ct c i k ≠ 0 then dd c i k + ea c k else 0) hj
  rw [if_pos h] at this
  rw [ea_eq w hi]
  exact this
theorem Wf_b {c : Cf} (w : WF c) : ∀ k x, x < c 23 → Wf c k x ≤ 5 + 5 * k := by
  intro k
  induction k with
  | zero => intro x hx; rw [Wf]; have := sp_b w hx; omega
  | succ k ih =>
    intro x hx
    rw [Wf]
    have h1 := sp_b w hx
    have h2 : mxF (fun j => if ct c j x ≠ 0 then dd c j x + Wf c k j else 0) (c 23) ≤ 5 + 5 * (k + 1) := by
      refine mxF_le (fun j hj => ?_)
      by_cases q : ct c j x ≠ 0
      · rw [if_pos q]
        have := dd_le w (i := j) hx
        have := ih j hj
        omega
      · rw [if_neg q]; omega
    omega
theorem wy_b {c : Cf} (w : WF c) {x : Nat} (hx : x < c 23) : wy c x ≤ 35 := Wf_b w 6 x hx
theorem Ef_b {c : Cf} (w : WF c) : ∀ k x, x < c 23 → Ef c k x ≤ 5 * k := by
  intro k
  induction k with
  | zero => intro x hx; rw [Ef]; omega
  | succ k ih =>
    intro x hx
    rw [Ef]
    refine mxF_le (fun j hj => ?_)
    by_cases q : ct c x j ≠ 0
    · rw [if_pos q]
      have := dd_le w (i := x) hj
      have := ih j hj
      omega
    · rw [if_neg q]; omega
theorem ea_b {c : Cf} (w : WF c) {x : Nat} (hx : x < c 23) : ea c x ≤ 30 := Ef_b w 6 x hx
-- rounds as the programs do them
abbrev WE : Type := (Nat → Nat) × (Nat → Nat)
def un (f : Nat → Nat) (k v : Nat) : Nat → Nat := fun j => if j = k then v else f j
def rlx (c : Cf) (i j : Nat) (p : WE) : WE := if ct c i j = 0 then p else (un p.1 j (max (p.1 j) (dd c i j + p.1 i)), un p.2 i (max (p.2 i) (dd c i j + p.2 j)))
def rlJ (c : Cf) (i : Nat) (p : WE) : Nat → WE
  | 0 => p
  | j + 1 => rlx c i j (rlJ c i p j)
def rlI (c : Cf) (p : WE) : Nat → WE
  | 0 => p
  | i + 1 => rlJ c i (rlI c p i) (c 23)
def rlN (c : Cf) : Nat → WE
  | 0 => (sp c, fun _ => 0)
  | t + 1 => rlI c (rlN c t) (c 23)
def UB (c : Cf) (p : WE) : Prop := ∀ x, x < c 23 → p.1 x ≤ wy c x ∧ p.2 x ≤ ea c x
theorem rlx_UB {c : Cf} (w : WF c) {i j : Nat} (hi : i < c 23) (hj : j < c 23) {p : WE} (h : UB c p) : UB c (rlx c i j p) := by
  unfold rlx
  by_cases q : ct c i j = 0
  · rw [if_pos q]; exact h
  · rw [if_neg q]
    intro x hx
    have h1 := wy_step w hi hj q
    have h2 := ea_step w hi hj q
    have a := h i hi
    have b := h j hj
    have d := h x hx
    show un p.1 j _ x ≤ _ ∧ un p.2 i _ x ≤ _
    unfold un
    refine ⟨?_, ?_⟩
    · split
      · rename_i e; subst e; omega
      · exact d.1
    · split
      · rename_i e; subst e; omega
      · exact d.2
theorem rlJ_UB {c : Cf} (w : WF c) {i : Nat} (hi : i < c 23) {p : WE} (h : UB c p) : ∀ m, m ≤ c 23 → UB c (rlJ c i p m) := by
  intro m
  induction m with
  | zero => intro _; exact h
  | succ m ih => intro hm; exact rlx_UB w hi (by omega) (ih (by omega))
theorem rlI_UB {c : Cf} (w : WF c) {p : WE} (h : UB c p) : ∀ m, m ≤ c 23 → UB c (rlI c p m) := by
  intro m
  induction m with
  | zero => intro _; exact h
  | succ m ih => intro hm; exact rlJ_UB w (by omega) (ih (by omega)) _ (Nat.le_refl _)
theorem rlN_UB {c : Cf} (w : WF c) : ∀ t, UB c (rlN c t) := by
  intro t
  induction t with
  | zero => intro x hx; exact ⟨wy_sp w hx, Nat.zero_le _⟩
  | succ t ih => exact rlI_UB w ih _ (Nat.le_refl _)
def geW (p q : WE) : Prop := ∀ x, p.1 x ≤ q.1 x ∧ p.2 x ≤ q.2 x
theorem geW.rf (p : WE) : geW p p := fun _ => ⟨Nat.le_refl _, Nat.le_refl _⟩
theorem geW.tr {p q r : WE} (h : geW p q) (h' : geW q r) : geW p r := fun x => ⟨Nat.le_trans (h x).1 (h' x).1, Nat.le_trans (h x).2 (h' x).2⟩
theorem rlx_ge (c : Cf) (i j : Nat) (p : WE) : geW p (rlx c i j p) := by
  unfold rlx
  split
  · exact geW.rf p
  · intro x
    show _ ≤ un p.1 j _ x ∧ _ ≤ un p.2 i _ x
    unfold un
    refine ⟨?_, ?_⟩
    · split
      · rename_i e; subst e; omega
      · omega
    · split
      · rename_i e; subst e; omega
      · omega
theorem rlJ_ge (c : Cf) (i : Nat) (p : WE) {m m' : Nat} (h : m ≤ m') : geW (rlJ c i p m) (rlJ c i p m') := by
  induction m' with
  | zero => rw [show m = 0 by omega]; exact geW.rf _
  | succ m' ih =>
    by_cases e : m = m' + 1
    · rw [e]; exact geW.rf _
    · exact (ih (by omega)).tr (rlx_ge _ _ _ _)
theorem rlI_ge (c : Cf) (p : WE) {m m' : Nat} (h : m ≤ m') : geW (rlI c p m) (rlI c p m') := by
  induction m' with
  | zero => rw [show m = 0 by omega]; exact geW.rf _
  | succ m' ih =>
    by_cases e : m = m' + 1
    · rw [e]; exact geW.rf _
    · exact (ih (by omega)).tr (rlJ_ge c m' (rlI c p m') (m := 0) (Nat.zero_le _))
/-- behind a round every relaxing has been done once, over what was there before or more -/
theorem rl_one (c : Cf) (p : WE) {i j : Nat} (hi : i < c 23) (hj : j < c 23) (h : ct c i j ≠ 0) : dd c i j + p.1 i ≤ (rlI c p (c 23)).1 j ∧ dd c i j + p.2 j ≤ (rlI c p (c 23)).2 i := by
  have g1 : geW p (rlI c p i) := rlI_ge c p (m := 0) (Nat.zero_le _)
  have g2 : geW (rlI c p i) (rlJ c i (rlI c p i) j) := rlJ_ge c i (rlI c p i) (m := 0) (Nat.zero_le _)
  have g3 : geW (rlJ c i (rlI c p i) (j + 1)) (rlJ c i (rlI c p i) (c 23)) := rlJ_ge c i _ (by omega)
  have g4 : geW (rlI c p (i + 1)) (rlI c p (c 23)) := rlI_ge c p (by omega)
  have e1 : dd c i j + (rlJ c i (rlI c p i) j).1 i ≤ (rlJ c i (rlI c p i) (j + 1)).1 j := by
    rw [rlJ, rlx, if_neg h]
    show _ ≤ un _ j _ j
    unfold un
    rw [if_pos rfl]
    omega
  have e2 : dd c i j + (rlJ c i (rlI c p i) j).2 j ≤ (rlJ c i (rlI c p i) (j + 1)).2 i := by
    rw [rlJ, rlx, if_neg h]
    show _ ≤ un _ i _ i
    unfold un
    rw [if_pos rfl]
    omega
  have a1 := (g1 i).1
  have a2 := (g2 i).1
  have a3 := (g3 j).1
  have a4 := (g4 j).1
  have b1 := (g1 j).2
  have b2 := (g2 j).2
  have b3 := (g3 i).2
  have b4 := (g4 i).2
  have x1 : (rlI c p (i + 1)).1 j = (rlJ c i (rlI c p i) (c 23)).1 j := rfl
  have x2 : (rlI c p (i + 1)).2 i = (rlJ c i (rlI c p i) (c 23)).2 i := rfl
  omega
theorem rlN_LB {c : Cf} (w : WF c) : ∀ t x, x < c 23 → Wf c t x ≤ (rlN c t).1 x ∧ Ef c t x ≤ (rlN c t).2 x := by
  intro t
  induction t with
  | zero => intro x hx; exact ⟨Nat.le_refl _, Nat.le_refl _⟩
  | succ t ih =>
    intro x hx
    have g0 : ∀ s, geW (rlN c 0) (rlN c s) := by
      intro s
      induction s with
      | zero => exact geW.rf _
      | succ s ihs => exact ihs.tr (rlI_ge c _ (m := 0) (Nat.zero_le _))
    refine ⟨?_, ?_⟩
    · rw [Wf]
      have h1 : sp c x ≤ (rlN c (t + 1)).1 x := (g0 (t + 1) x).1
      have h2 : mxF (fun j => if ct c j x ≠ 0 then dd c j x + Wf c t j else 0) (c 23) ≤ (rlN c (t + 1)).1 x := by
        refine mxF_le (fun j hj => ?_)
        by_cases q : ct c j x ≠ 0
        · rw [if_pos q]
          have := (rl_one c (rlN c t) hj hx q).1
          have := (ih j hj).1
          show _ ≤ (rlI c (rlN c t) (c 23)).1 x
          omega
        · rw [if_neg q]; exact Nat.zero_le _
      omega
    · rw [Ef]
      refine mxF_le (fun j hj => ?_)
      by_cases q : ct c x j ≠ 0
      · rw [if_pos q]
        have := (rl_one c (rlN c t) hx hj q).2
        have := (ih j hj).2
        show _ ≤ (rlI c (rlN c t) (c 23)).2 x
        omega
      · rw [if_neg q]; exact Nat.zero_le _
theorem rlN_end {c : Cf} (w : WF c) {t x : Nat} (ht : c 23 - 1 ≤ t) (hx : x < c 23) : (rlN c t).1 x = wy c x ∧ (rlN c t).2 x = ea c x := by
  have h1 := rlN_UB w t x hx
  have h2 := rlN_LB w t x hx
  rw [Wf_more w hx ht, Ef_more w hx ht] at h2
  omega
