-- the sum is left as it is
def oA (s : Nat → Int64) (X : Option HS) : Prop := ∀ r, X = some r → r.2 67 = s
def oB (s : Nat → Int64) (X : Option (Int32 × HS)) : Prop := ∀ r, X = some r → r.2.2 67 = s
theorem oA_n {s : Nat → Int64} : oA s none := fun _ h => by cases h
theorem oB_n {s : Nat → Int64} : oB s none := fun _ h => by cases h
theorem oA_s {s : Nat → Int64} {σ : HS} (h : σ.2 67 = s) : oA s (some σ) := fun r q => by cases q; exact h
theorem oB_s {s : Nat → Int64} {v : Int32} {σ : HS} (h : σ.2 67 = s) : oB s (some (v, σ)) := fun r q => by cases q; exact h
theorem oA_i {s : Nat → Int64} {c : Prop} [Decidable c] {a b : Option HS} (h : oA s a) (h' : oA s b) : oA s (if c then a else b) := by split; exact h; exact h'
theorem oB_i {s : Nat → Int64} {c : Prop} [Decidable c] {a b : Option (Int32 × HS)} (h : oB s a) (h' : oB s b) : oB s (if c then a else b) := by split; exact h; exact h'
theorem oA_0 {s : Nat → Int64} {X : Option Int32} {g : Int32 → Option HS} (h : ∀ v, oA s (g v)) : oA s (X.bind g) := by cases X with
  | none => exact oA_n
  | some v => exact h v
theorem oB_0 {s : Nat → Int64} {X : Option Int32} {g : Int32 → Option (Int32 × HS)} (h : ∀ v, oB s (g v)) : oB s (X.bind g) := by cases X with
  | none => exact oB_n
  | some v => exact h v
theorem oA_j {s : Nat → Int64} {X : Option Int64} {g : Int64 → Option HS} (h : ∀ v, oA s (g v)) : oA s (X.bind g) := by cases X with
  | none => exact oA_n
  | some v => exact h v
theorem oB_j {s : Nat → Int64} {X : Option Int64} {g : Int64 → Option (Int32 × HS)} (h : ∀ v, oB s (g v)) : oB s (X.bind g) := by cases X with
  | none => exact oB_n
  | some v => exact h v
theorem oA_a {s : Nat → Int64} {X : Option HS} {g : HS → Option HS} (h0 : oA s X) (h : ∀ v : HS, v.2 67 = s → oA s (g v)) : oA s (X.bind g) := by cases X with
  | none => exact oA_n
  | some v => exact h v (h0 v rfl)
theorem oB_a {s : Nat → Int64} {X : Option HS} {g : HS → Option (Int32 × HS)} (h0 : oA s X) (h : ∀ v : HS, v.2 67 = s → oB s (g v)) : oB s (X.bind g) := by cases X with
  | none => exact oB_n
  | some v => exact h v (h0 v rfl)
theorem oA_b {s : Nat → Int64} {X : Option (Int32 × HS)} {g : Int32 × HS → Option HS} (h0 : oB s X) (h : ∀ v : Int32 × HS, v.2.2 67 = s → oA s (g v)) : oA s (X.bind g) := by cases X with
  | none => exact oA_n
  | some v => exact h v (h0 v rfl)
theorem oB_b {s : Nat → Int64} {X : Option (Int32 × HS)} {g : Int32 × HS → Option (Int32 × HS)} (h0 : oB s X) (h : ∀ v : Int32 × HS, v.2.2 67 = s → oB s (g v)) : oB s (X.bind g) := by cases X with
  | none => exact oB_n
  | some v => exact h v (h0 v rfl)
theorem oA_st {s : Nat → Int64} {σ : HS} {o n : Nat} {i x : Int32} (h : σ.2 67 = s) : oA s (stI σ o n i x) := by unfold stI; exact oA_i (oA_s h) oA_n
theorem oA_sj {s : Nat → Int64} {σ : HS} {n : Nat} {i : Int32} {x : Int64} (h : σ.2 67 = s) : oA s (stJ σ 79 n i x) := by unfold stJ; exact oA_i (oA_s h) oA_n
theorem oS_I {s : Nat → Int64} {σ : HS} {o k : Nat} {x : Int32} (h : σ.2 67 = s) : (sI σ o k x).2 67 = s := h
theorem u_X9_has {s : Nat → Int64} (x0 : Int32) (x1 : Int32) (σ : HS) (h : σ.2 67 = s) : oB s (f_X9_has x0 x1 σ) := by
  rw [f_X9_has]
  with_reducible repeat' (first | assumption | (intro _) | (refine oS_I ?_) | (refine oB_s ?_) | (refine oA_s ?_) | (refine oA_st ?_) | (refine oA_sj ?_) | (refine oA_i ?_ ?_) | (refine oB_i ?_ ?_) | (refine oA_0 (fun _ => ?_)) | (refine oB_0 (fun _ => ?_)) | (refine oA_j (fun _ => ?_)) | (refine oB_j (fun _ => ?_)) | (refine oA_a ?_ (fun _ _ => ?_)) | (refine oB_a ?_ (fun _ _ => ?_)) | (refine oA_b ?_ (fun _ _ => ?_)) | (refine oB_b ?_ (fun _ _ => ?_)))
theorem u_X9_ofKind {s : Nat → Int64} (x1 : Int32) (x2 : Int32) (σ : HS) (h : σ.2 67 = s) : oB s (f_X9_ofKind x1 x2 σ) := by
  rw [f_X9_ofKind]
  with_reducible repeat' (first | assumption | (intro _) | (refine oS_I ?_) | (refine oB_s ?_) | (refine oA_s ?_) | (refine oA_st ?_) | (refine oA_sj ?_) | (refine oA_i ?_ ?_) | (refine oB_i ?_ ?_) | (refine oA_0 (fun _ => ?_)) | (refine oB_0 (fun _ => ?_)) | (refine oA_j (fun _ => ?_)) | (refine oB_j (fun _ => ?_)) | (refine oA_a ?_ (fun _ _ => ?_)) | (refine oB_a ?_ (fun _ _ => ?_)) | (refine oA_b ?_ (fun _ _ => ?_)) | (refine oB_b ?_ (fun _ _ => ?_)))
theorem u_X9_ofOne {s : Nat → Int64} (x1 : Int32) (x2 : Int32) (σ : HS) (h : σ.2 67 = s) : oB s (f_X9_ofOne x1 x2 σ) := by
  rw [f_X9_ofOne]
  with_reducible repeat' (first | assumption | (intro _) | (refine oS_I ?_) | (refine oB_s ?_) | (refine oA_s ?_) | (refine oA_st ?_) | (refine oA_sj ?_) | (refine oA_i ?_ ?_) | (refine oB_i ?_ ?_) | (refine oA_0 (fun _ => ?_)) | (refine oB_0 (fun _ => ?_)) | (refine oA_j (fun _ => ?_)) | (refine oB_j (fun _ => ?_)) | (refine oA_a ?_ (fun _ _ => ?_)) | (refine oB_a ?_ (fun _ _ => ?_)) | (refine oA_b ?_ (fun _ _ => ?_)) | (refine oB_b ?_ (fun _ _ => ?_)) | (apply u_X9_ofKind))
theorem u_X9_latency {s : Nat → Int64} (x1 : Int32) (σ : HS) (h : σ.2 67 = s) : oB s (f_X9_latency x1 σ) := by
  rw [f_X9_latency]
  with_reducible repeat' (first | assumption | (intro _) | (refine oS_I ?_) | (refine oB_s ?_) | (refine oA_s ?_) | (refine oA_st ?_) | (refine oA_sj ?_) | (refine oA_i ?_ ?_) | (refine oB_i ?_ ?_) | (refine oA_0 (fun _ => ?_)) | (refine oB_0 (fun _ => ?_)) | (refine oA_j (fun _ => ?_)) | (refine oB_j (fun _ => ?_)) | (refine oA_a ?_ (fun _ _ => ?_)) | (refine oB_a ?_ (fun _ _ => ?_)) | (refine oA_b ?_ (fun _ _ => ?_)) | (refine oB_b ?_ (fun _ _ => ?_)) | (apply u_X9_ofOne))
theorem u_X9_needOf {s : Nat → Int64} (x1 : Int32) (x2 : Int32) (σ : HS) (h : σ.2 67 = s) : oB s (f_X9_needOf x1 x2 σ) := by
  rw [f_X9_needOf]
  with_reducible repeat' (first | assumption | (intro _) | (refine oS_I ?_) | (refine oB_s ?_) | (refine oA_s ?_) | (refine oA_st ?_) | (refine oA_sj ?_) | (refine oA_i ?_ ?_) | (refine oB_i ?_ ?_) | (refine oA_0 (fun _ => ?_)) | (refine oB_0 (fun _ => ?_)) | (refine oA_j (fun _ => ?_)) | (refine oB_j (fun _ => ?_)) | (refine oA_a ?_ (fun _ _ => ?_)) | (refine oB_a ?_ (fun _ _ => ?_)) | (refine oA_b ?_ (fun _ _ => ?_)) | (refine oB_b ?_ (fun _ _ => ?_)))
theorem u_X9_counts {s : Nat → Int64} (x1 : Int32) (x2 : Int32) (σ : HS) (h : σ.2 67 = s) : oB s (f_X9_counts x1 x2 σ) := by
  rw [f_X9_counts]
  with_reducible repeat' (first | assumption | (intro _) | (refine oS_I ?_) | (refine oB_s ?_) | (refine oA_s ?_) | (refine oA_st ?_) | (refine oA_sj ?_) | (refine oA_i ?_ ?_) | (refine oB_i ?_ ?_) | (refine oA_0 (fun _ => ?_)) | (refine oB_0 (fun _ => ?_)) | (refine oA_j (fun _ => ?_)) | (refine oB_j (fun _ => ?_)) | (refine oA_a ?_ (fun _ _ => ?_)) | (refine oB_a ?_ (fun _ _ => ?_)) | (refine oA_b ?_ (fun _ _ => ?_)) | (refine oB_b ?_ (fun _ _ => ?_)) | (apply u_X9_needOf))
theorem u_X9_holds {s : Nat → Int64} (x1 : Int32) (σ : HS) (h : σ.2 67 = s) : oB s (f_X9_holds x1 σ) := by
  rw [f_X9_holds]
  with_reducible repeat' (first | assumption | (intro _) | (refine oS_I ?_) | (refine oB_s ?_) | (refine oA_s ?_) | (refine oA_st ?_) | (refine oA_sj ?_) | (refine oA_i ?_ ?_) | (refine oB_i ?_ ?_) | (refine oA_0 (fun _ => ?_)) | (refine oB_0 (fun _ => ?_)) | (refine oA_j (fun _ => ?_)) | (refine oB_j (fun _ => ?_)) | (refine oA_a ?_ (fun _ _ => ?_)) | (refine oB_a ?_ (fun _ _ => ?_)) | (refine oA_b ?_ (fun _ _ => ?_)) | (refine oB_b ?_ (fun _ _ => ?_)) | (apply u_X9_ofKind))
theorem u_X9_read {s : Nat → Int64} (x1 : Int32) (x2 : Int32) (σ : HS) (h : σ.2 67 = s) : oB s (f_X9_read x1 x2 σ) := by
  rw [f_X9_read]
  with_reducible repeat' (first | assumption | (intro _) | (refine oS_I ?_) | (refine oB_s ?_) | (refine oA_s ?_) | (refine oA_st ?_) | (refine oA_sj ?_) | (refine oA_i ?_ ?_) | (refine oB_i ?_ ?_) | (refine oA_0 (fun _ => ?_)) | (refine oB_0 (fun _ => ?_)) | (refine oA_j (fun _ => ?_)) | (refine oB_j (fun _ => ?_)) | (refine oA_a ?_ (fun _ _ => ?_)) | (refine oB_a ?_ (fun _ _ => ?_)) | (refine oA_b ?_ (fun _ _ => ?_)) | (refine oB_b ?_ (fun _ _ => ?_)) | (apply u_X9_holds))
theorem u_X9_number_26 {s : Nat → Int64} (x1 : Int32) (x2 : Int32) (σ : HS) (h : σ.2 67 = s) : oB s (f_X9_number_26 x1 x2 σ) := by
  rw [f_X9_number_26]
  with_reducible repeat' (first | assumption | (intro _) | (refine oS_I ?_) | (refine oB_s ?_) | (refine oA_s ?_) | (refine oA_st ?_) | (refine oA_sj ?_) | (refine oA_i ?_ ?_) | (refine oB_i ?_ ?_) | (refine oA_0 (fun _ => ?_)) | (refine oB_0 (fun _ => ?_)) | (refine oA_j (fun _ => ?_)) | (refine oB_j (fun _ => ?_)) | (refine oA_a ?_ (fun _ _ => ?_)) | (refine oB_a ?_ (fun _ _ => ?_)) | (refine oA_b ?_ (fun _ _ => ?_)) | (refine oB_b ?_ (fun _ _ => ?_)))
theorem u_X9_number_2 {s : Nat → Int64} : ∀ (n : Nat) (x0 x1 : Int32) (σ : HS), σ.2 67 = s → oB s (f_X9_number_2 n x0 x1 σ) := by
  intro n
  induction n with
  | zero => intros; exact oB_n
  | succ n ih =>
    intro x0 x1 σ h
    rw [f_X9_number_2]
    with_reducible repeat' (first | assumption | (intro _) | (refine oS_I ?_) | (refine oB_s ?_) | (refine oA_s ?_) | (refine oA_st ?_) | (refine oA_sj ?_) | (refine oA_i ?_ ?_) | (refine oB_i ?_ ?_) | (refine oA_0 (fun _ => ?_)) | (refine oB_0 (fun _ => ?_)) | (refine oA_j (fun _ => ?_)) | (refine oB_j (fun _ => ?_)) | (refine oA_a ?_ (fun _ _ => ?_)) | (refine oB_a ?_ (fun _ _ => ?_)) | (refine oA_b ?_ (fun _ _ => ?_)) | (refine oB_b ?_ (fun _ _ => ?_)) | (apply ih) | (apply u_X9_number_26))
theorem u_X9_number {s : Nat → Int64} (x1 : Int32) (σ : HS) (h : σ.2 67 = s) : oB s (f_X9_number x1 σ) := by
  rw [f_X9_number]
  with_reducible repeat' (first | assumption | (intro _) | (refine oS_I ?_) | (refine oB_s ?_) | (refine oA_s ?_) | (refine oA_st ?_) | (refine oA_sj ?_) | (refine oA_i ?_ ?_) | (refine oB_i ?_ ?_) | (refine oA_0 (fun _ => ?_)) | (refine oB_0 (fun _ => ?_)) | (refine oA_j (fun _ => ?_)) | (refine oB_j (fun _ => ?_)) | (refine oA_a ?_ (fun _ _ => ?_)) | (refine oB_a ?_ (fun _ _ => ?_)) | (refine oA_b ?_ (fun _ _ => ?_)) | (refine oB_b ?_ (fun _ _ => ?_)) | (apply u_X9_number_2))
theorem u_X9_findStates_61 {s : Nat → Int64} (rec : Int32 → Int32 → HS → Option (HS)) (hrec : ∀ y0 y1 (τ : HS), τ.2 67 = s → oA s (rec y0 y1 τ)) (x1 : Int32) (x2 : Int32) (t0 : Int32) (σ : HS) (h : σ.2 67 = s) : oA s (f_X9_findStates_61 rec x1 x2 t0 σ) := by
  rw [f_X9_findStates_61]
  with_reducible repeat' (first | assumption | (intro _) | (refine oS_I ?_) | (refine oB_s ?_) | (refine oA_s ?_) | (refine oA_st ?_) | (refine oA_sj ?_) | (refine oA_i ?_ ?_) | (refine oB_i ?_ ?_) | (refine oA_0 (fun _ => ?_)) | (refine oB_0 (fun _ => ?_)) | (refine oA_j (fun _ => ?_)) | (refine oB_j (fun _ => ?_)) | (refine oA_a ?_ (fun _ _ => ?_)) | (refine oB_a ?_ (fun _ _ => ?_)) | (refine oA_b ?_ (fun _ _ => ?_)) | (refine oB_b ?_ (fun _ _ => ?_)) | (apply hrec) | (apply u_X9_read) | (apply u_X9_number))
theorem u_X9_findStates_34 {s : Nat → Int64} (k : Int32 → HS → Option (HS)) (hk : ∀ y0 (τ : HS), τ.2 67 = s → oA s (k y0 τ)) : ∀ (n : Nat) (x0 x1 : Int32) (σ : HS), σ.2 67 = s → oA s (f_X9_findStates_34 k n x0 x1 σ) := by
  intro n
  induction n with
  | zero => intros; exact oA_n
  | succ n ih =>
    intro x0 x1 σ h
    rw [f_X9_findStates_34]
    with_reducible repeat' (first | assumption | (intro _) | (refine oS_I ?_) | (refine oB_s ?_) | (refine oA_s ?_) | (refine oA_st ?_) | (refine oA_sj ?_) | (refine oA_i ?_ ?_) | (refine oB_i ?_ ?_) | (refine oA_0 (fun _ => ?_)) | (refine oB_0 (fun _ => ?_)) | (refine oA_j (fun _ => ?_)) | (refine oB_j (fun _ => ?_)) | (refine oA_a ?_ (fun _ _ => ?_)) | (refine oB_a ?_ (fun _ _ => ?_)) | (refine oA_b ?_ (fun _ _ => ?_)) | (refine oB_b ?_ (fun _ _ => ?_)) | (apply hk) | (apply ih) | (apply u_X9_findStates_61))
theorem u_X9_findStates_14 {s : Nat → Int64} : ∀ (n : Nat) (x0 : Int32) (σ : HS), σ.2 67 = s → oA s (f_X9_findStates_14 n x0 σ) := by
  intro n
  induction n with
  | zero => intros; exact oA_n
  | succ n ih =>
    intro x0 σ h
    rw [f_X9_findStates_14]
    with_reducible repeat' (first | assumption | (intro _) | (refine oS_I ?_) | (refine oB_s ?_) | (refine oA_s ?_) | (refine oA_st ?_) | (refine oA_sj ?_) | (refine oA_i ?_ ?_) | (refine oB_i ?_ ?_) | (refine oA_0 (fun _ => ?_)) | (refine oB_0 (fun _ => ?_)) | (refine oA_j (fun _ => ?_)) | (refine oB_j (fun _ => ?_)) | (refine oA_a ?_ (fun _ _ => ?_)) | (refine oB_a ?_ (fun _ _ => ?_)) | (refine oA_b ?_ (fun _ _ => ?_)) | (refine oB_b ?_ (fun _ _ => ?_)) | (apply ih) | (apply u_X9_findStates_34))
theorem u_X9_findStates {s : Nat → Int64} (σ : HS) (h : σ.2 67 = s) : oA s (f_X9_findStates σ) := by
  rw [f_X9_findStates]
  with_reducible repeat' (first | assumption | (intro _) | (refine oS_I ?_) | (refine oB_s ?_) | (refine oA_s ?_) | (refine oA_st ?_) | (refine oA_sj ?_) | (refine oA_i ?_ ?_) | (refine oB_i ?_ ?_) | (refine oA_0 (fun _ => ?_)) | (refine oB_0 (fun _ => ?_)) | (refine oA_j (fun _ => ?_)) | (refine oB_j (fun _ => ?_)) | (refine oA_a ?_ (fun _ _ => ?_)) | (refine oB_a ?_ (fun _ _ => ?_)) | (refine oA_b ?_ (fun _ _ => ?_)) | (refine oB_b ?_ (fun _ _ => ?_)) | (apply u_X9_findStates_14))
theorem u_X9_areAlike_79 {s : Nat → Int64} (rec : Int32 → Int32 → Int32 → Int32 → HS → Option (Int32 × HS)) (hrec : ∀ y0 y1 y2 y3 (τ : HS), τ.2 67 = s → oB s (rec y0 y1 y2 y3 τ)) (x1 : Int32) (x2 : Int32) (x4 : Int32) (x5 : Int32) (x6 : Int32) (σ : HS) (h : σ.2 67 = s) : oB s (f_X9_areAlike_79 rec x1 x2 x4 x5 x6 σ) := by
  rw [f_X9_areAlike_79]
  with_reducible repeat' (first | assumption | (intro _) | (refine oS_I ?_) | (refine oB_s ?_) | (refine oA_s ?_) | (refine oA_st ?_) | (refine oA_sj ?_) | (refine oA_i ?_ ?_) | (refine oB_i ?_ ?_) | (refine oA_0 (fun _ => ?_)) | (refine oB_0 (fun _ => ?_)) | (refine oA_j (fun _ => ?_)) | (refine oB_j (fun _ => ?_)) | (refine oA_a ?_ (fun _ _ => ?_)) | (refine oB_a ?_ (fun _ _ => ?_)) | (refine oA_b ?_ (fun _ _ => ?_)) | (refine oB_b ?_ (fun _ _ => ?_)) | (apply hrec))
theorem u_X9_areAlike_24 {s : Nat → Int64} : ∀ (n : Nat) (x0 x1 x2 x3 : Int32) (σ : HS), σ.2 67 = s → oB s (f_X9_areAlike_24 n x0 x1 x2 x3 σ) := by
  intro n
  induction n with
  | zero => intros; exact oB_n
  | succ n ih =>
    intro x0 x1 x2 x3 σ h
    rw [f_X9_areAlike_24]
    with_reducible repeat' (first | assumption | (intro _) | (refine oS_I ?_) | (refine oB_s ?_) | (refine oA_s ?_) | (refine oA_st ?_) | (refine oA_sj ?_) | (refine oA_i ?_ ?_) | (refine oB_i ?_ ?_) | (refine oA_0 (fun _ => ?_)) | (refine oB_0 (fun _ => ?_)) | (refine oA_j (fun _ => ?_)) | (refine oB_j (fun _ => ?_)) | (refine oA_a ?_ (fun _ _ => ?_)) | (refine oB_a ?_ (fun _ _ => ?_)) | (refine oA_b ?_ (fun _ _ => ?_)) | (refine oB_b ?_ (fun _ _ => ?_)) | (apply ih) | (apply u_X9_areAlike_79))
theorem u_X9_areAlike {s : Nat → Int64} (x1 : Int32) (x2 : Int32) (σ : HS) (h : σ.2 67 = s) : oB s (f_X9_areAlike x1 x2 σ) := by
  rw [f_X9_areAlike]
  with_reducible repeat' (first | assumption | (intro _) | (refine oS_I ?_) | (refine oB_s ?_) | (refine oA_s ?_) | (refine oA_st ?_) | (refine oA_sj ?_) | (refine oA_i ?_ ?_) | (refine oB_i ?_ ?_) | (refine oA_0 (fun _ => ?_)) | (refine oB_0 (fun _ => ?_)) | (refine oA_j (fun _ => ?_)) | (refine oB_j (fun _ => ?_)) | (refine oA_a ?_ (fun _ _ => ?_)) | (refine oB_a ?_ (fun _ _ => ?_)) | (refine oA_b ?_ (fun _ _ => ?_)) | (refine oB_b ?_ (fun _ _ => ?_)) | (apply u_X9_areAlike_24))
theorem u_X9_findClasses_57 {s : Nat → Int64} (k : Int32 → Int32 → Int32 → HS → Option (HS)) (hk : ∀ y0 y1 y2 (τ : HS), τ.2 67 = s → oA s (k y0 y1 y2 τ)) : ∀ (n : Nat) (x0 x1 x2 : Int32) (σ : HS), σ.2 67 = s → oA s (f_X9_findClasses_57 k n x0 x1 x2 σ) := by
  intro n
  induction n with
  | zero => intros; exact oA_n
  | succ n ih =>
    intro x0 x1 x2 σ h
    rw [f_X9_findClasses_57]
    with_reducible repeat' (first | assumption | (intro _) | (refine oS_I ?_) | (refine oB_s ?_) | (refine oA_s ?_) | (refine oA_st ?_) | (refine oA_sj ?_) | (refine oA_i ?_ ?_) | (refine oB_i ?_ ?_) | (refine oA_0 (fun _ => ?_)) | (refine oB_0 (fun _ => ?_)) | (refine oA_j (fun _ => ?_)) | (refine oB_j (fun _ => ?_)) | (refine oA_a ?_ (fun _ _ => ?_)) | (refine oB_a ?_ (fun _ _ => ?_)) | (refine oA_b ?_ (fun _ _ => ?_)) | (refine oB_b ?_ (fun _ _ => ?_)) | (apply hk) | (apply ih) | (apply u_X9_areAlike))
theorem u_X9_findClasses_97 {s : Nat → Int64} (rec : Int32 → Int32 → HS → Option (HS)) (hrec : ∀ y0 y1 (τ : HS), τ.2 67 = s → oA s (rec y0 y1 τ)) (x1 : Int32) (x2 : Int32) (x3 : Int32) (t0 : Int32) (t1 : Int32) (σ : HS) (h : σ.2 67 = s) : oA s (f_X9_findClasses_97 rec x1 x2 x3 t0 t1 σ) := by
  rw [f_X9_findClasses_97]
  with_reducible repeat' (first | assumption | (intro _) | (refine oS_I ?_) | (refine oB_s ?_) | (refine oA_s ?_) | (refine oA_st ?_) | (refine oA_sj ?_) | (refine oA_i ?_ ?_) | (refine oB_i ?_ ?_) | (refine oA_0 (fun _ => ?_)) | (refine oB_0 (fun _ => ?_)) | (refine oA_j (fun _ => ?_)) | (refine oB_j (fun _ => ?_)) | (refine oA_a ?_ (fun _ _ => ?_)) | (refine oB_a ?_ (fun _ _ => ?_)) | (refine oA_b ?_ (fun _ _ => ?_)) | (refine oB_b ?_ (fun _ _ => ?_)) | (apply hrec))
theorem u_X9_findClasses_77 {s : Nat → Int64} (rec : Int32 → Int32 → HS → Option (HS)) (hrec : ∀ y0 y1 (τ : HS), τ.2 67 = s → oA s (rec y0 y1 τ)) (x1 : Int32) (x2 : Int32) (x3 : Int32) (σ : HS) (h : σ.2 67 = s) : oA s (f_X9_findClasses_77 rec x1 x2 x3 σ) := by
  rw [f_X9_findClasses_77]
  with_reducible repeat' (first | assumption | (intro _) | (refine oS_I ?_) | (refine oB_s ?_) | (refine oA_s ?_) | (refine oA_st ?_) | (refine oA_sj ?_) | (refine oA_i ?_ ?_) | (refine oB_i ?_ ?_) | (refine oA_0 (fun _ => ?_)) | (refine oB_0 (fun _ => ?_)) | (refine oA_j (fun _ => ?_)) | (refine oB_j (fun _ => ?_)) | (refine oA_a ?_ (fun _ _ => ?_)) | (refine oB_a ?_ (fun _ _ => ?_)) | (refine oA_b ?_ (fun _ _ => ?_)) | (refine oB_b ?_ (fun _ _ => ?_)) | (apply hrec) | (apply u_X9_findClasses_97))
theorem u_X9_findClasses_47 {s : Nat → Int64} (k : Int32 → HS → Option (HS)) (hk : ∀ y0 (τ : HS), τ.2 67 = s → oA s (k y0 τ)) : ∀ (n : Nat) (x0 x1 : Int32) (σ : HS), σ.2 67 = s → oA s (f_X9_findClasses_47 k n x0 x1 σ) := by
  intro n
  induction n with
  | zero => intros; exact oA_n
  | succ n ih =>
    intro x0 x1 σ h
    rw [f_X9_findClasses_47]
    with_reducible repeat' (first | assumption | (intro _) | (refine oS_I ?_) | (refine oB_s ?_) | (refine oA_s ?_) | (refine oA_st ?_) | (refine oA_sj ?_) | (refine oA_i ?_ ?_) | (refine oB_i ?_ ?_) | (refine oA_0 (fun _ => ?_)) | (refine oB_0 (fun _ => ?_)) | (refine oA_j (fun _ => ?_)) | (refine oB_j (fun _ => ?_)) | (refine oA_a ?_ (fun _ _ => ?_)) | (refine oB_a ?_ (fun _ _ => ?_)) | (refine oA_b ?_ (fun _ _ => ?_)) | (refine oB_b ?_ (fun _ _ => ?_)) | (apply hk) | (apply ih) | (apply u_X9_findClasses_57) | (apply u_X9_findClasses_77))
theorem u_X9_findClasses_119 {s : Nat → Int64} (k : Int32 → HS → Option (HS)) (hk : ∀ y0 (τ : HS), τ.2 67 = s → oA s (k y0 τ)) : ∀ (n : Nat) (x0 x1 : Int32) (σ : HS), σ.2 67 = s → oA s (f_X9_findClasses_119 k n x0 x1 σ) := by
  intro n
  induction n with
  | zero => intros; exact oA_n
  | succ n ih =>
    intro x0 x1 σ h
    rw [f_X9_findClasses_119]
    with_reducible repeat' (first | assumption | (intro _) | (refine oS_I ?_) | (refine oB_s ?_) | (refine oA_s ?_) | (refine oA_st ?_) | (refine oA_sj ?_) | (refine oA_i ?_ ?_) | (refine oB_i ?_ ?_) | (refine oA_0 (fun _ => ?_)) | (refine oB_0 (fun _ => ?_)) | (refine oA_j (fun _ => ?_)) | (refine oB_j (fun _ => ?_)) | (refine oA_a ?_ (fun _ _ => ?_)) | (refine oB_a ?_ (fun _ _ => ?_)) | (refine oA_b ?_ (fun _ _ => ?_)) | (refine oB_b ?_ (fun _ _ => ?_)) | (apply hk) | (apply ih))
theorem u_X9_findClasses_30 {s : Nat → Int64} : ∀ (n : Nat) (x0 : Int32) (σ : HS), σ.2 67 = s → oA s (f_X9_findClasses_30 n x0 σ) := by
  intro n
  induction n with
  | zero => intros; exact oA_n
  | succ n ih =>
    intro x0 σ h
    rw [f_X9_findClasses_30]
    with_reducible repeat' (first | assumption | (intro _) | (refine oS_I ?_) | (refine oB_s ?_) | (refine oA_s ?_) | (refine oA_st ?_) | (refine oA_sj ?_) | (refine oA_i ?_ ?_) | (refine oB_i ?_ ?_) | (refine oA_0 (fun _ => ?_)) | (refine oB_0 (fun _ => ?_)) | (refine oA_j (fun _ => ?_)) | (refine oB_j (fun _ => ?_)) | (refine oA_a ?_ (fun _ _ => ?_)) | (refine oB_a ?_ (fun _ _ => ?_)) | (refine oA_b ?_ (fun _ _ => ?_)) | (refine oB_b ?_ (fun _ _ => ?_)) | (apply ih) | (apply u_X9_findClasses_47) | (apply u_X9_findClasses_119))
theorem u_X9_findClasses_7 {s : Nat → Int64} : ∀ (n : Nat) (x0 : Int32) (σ : HS), σ.2 67 = s → oA s (f_X9_findClasses_7 n x0 σ) := by
  intro n
  induction n with
  | zero => intros; exact oA_n
  | succ n ih =>
    intro x0 σ h
    rw [f_X9_findClasses_7]
    with_reducible repeat' (first | assumption | (intro _) | (refine oS_I ?_) | (refine oB_s ?_) | (refine oA_s ?_) | (refine oA_st ?_) | (refine oA_sj ?_) | (refine oA_i ?_ ?_) | (refine oB_i ?_ ?_) | (refine oA_0 (fun _ => ?_)) | (refine oB_0 (fun _ => ?_)) | (refine oA_j (fun _ => ?_)) | (refine oB_j (fun _ => ?_)) | (refine oA_a ?_ (fun _ _ => ?_)) | (refine oB_a ?_ (fun _ _ => ?_)) | (refine oA_b ?_ (fun _ _ => ?_)) | (refine oB_b ?_ (fun _ _ => ?_)) | (apply ih) | (apply u_X9_findClasses_30))
theorem u_X9_findClasses {s : Nat → Int64} (σ : HS) (h : σ.2 67 = s) : oA s (f_X9_findClasses σ) := by
  rw [f_X9_findClasses]
  with_reducible repeat' (first | assumption | (intro _) | (refine oS_I ?_) | (refine oB_s ?_) | (refine oA_s ?_) | (refine oA_st ?_) | (refine oA_sj ?_) | (refine oA_i ?_ ?_) | (refine oB_i ?_ ?_) | (refine oA_0 (fun _ => ?_)) | (refine oB_0 (fun _ => ?_)) | (refine oA_j (fun _ => ?_)) | (refine oB_j (fun _ => ?_)) | (refine oA_a ?_ (fun _ _ => ?_)) | (refine oB_a ?_ (fun _ _ => ?_)) | (refine oA_b ?_ (fun _ _ => ?_)) | (refine oB_b ?_ (fun _ _ => ?_)) | (apply u_X9_findClasses_7))
theorem u_X9_isMuch_30 {s : Nat → Int64} (σ : HS) (h : σ.2 67 = s) : oB s (f_X9_isMuch_30 σ) := by
  rw [f_X9_isMuch_30]
  with_reducible repeat' (first | assumption | (intro _) | (refine oS_I ?_) | (refine oB_s ?_) | (refine oA_s ?_) | (refine oA_st ?_) | (refine oA_sj ?_) | (refine oA_i ?_ ?_) | (refine oB_i ?_ ?_) | (refine oA_0 (fun _ => ?_)) | (refine oB_0 (fun _ => ?_)) | (refine oA_j (fun _ => ?_)) | (refine oB_j (fun _ => ?_)) | (refine oA_a ?_ (fun _ _ => ?_)) | (refine oB_a ?_ (fun _ _ => ?_)) | (refine oA_b ?_ (fun _ _ => ?_)) | (refine oB_b ?_ (fun _ _ => ?_)))
theorem u_X9_isMuch {s : Nat → Int64} (σ : HS) (h : σ.2 67 = s) : oB s (f_X9_isMuch σ) := by
  rw [f_X9_isMuch]
  with_reducible repeat' (first | assumption | (intro _) | (refine oS_I ?_) | (refine oB_s ?_) | (refine oA_s ?_) | (refine oA_st ?_) | (refine oA_sj ?_) | (refine oA_i ?_ ?_) | (refine oB_i ?_ ?_) | (refine oA_0 (fun _ => ?_)) | (refine oB_0 (fun _ => ?_)) | (refine oA_j (fun _ => ?_)) | (refine oB_j (fun _ => ?_)) | (refine oA_a ?_ (fun _ _ => ?_)) | (refine oB_a ?_ (fun _ _ => ?_)) | (refine oA_b ?_ (fun _ _ => ?_)) | (refine oB_b ?_ (fun _ _ => ?_)) | (apply u_X9_findStates) | (apply u_X9_isMuch_30) | (apply u_X9_findClasses))
theorem u_X9_span_30 {s : Nat → Int64} : ∀ (n : Nat) (x0 x1 x2 : Int32) (σ : HS), σ.2 67 = s → oB s (f_X9_span_30 n x0 x1 x2 σ) := by
  intro n
  induction n with
  | zero => intros; exact oB_n
  | succ n ih =>
    intro x0 x1 x2 σ h
    rw [f_X9_span_30]
    with_reducible repeat' (first | assumption | (intro _) | (refine oS_I ?_) | (refine oB_s ?_) | (refine oA_s ?_) | (refine oA_st ?_) | (refine oA_sj ?_) | (refine oA_i ?_ ?_) | (refine oB_i ?_ ?_) | (refine oA_0 (fun _ => ?_)) | (refine oB_0 (fun _ => ?_)) | (refine oA_j (fun _ => ?_)) | (refine oB_j (fun _ => ?_)) | (refine oA_a ?_ (fun _ _ => ?_)) | (refine oB_a ?_ (fun _ _ => ?_)) | (refine oA_b ?_ (fun _ _ => ?_)) | (refine oB_b ?_ (fun _ _ => ?_)) | (apply ih) | (apply u_X9_has))
theorem u_X9_span {s : Nat → Int64} (x1 : Int32) (σ : HS) (h : σ.2 67 = s) : oB s (f_X9_span x1 σ) := by
  rw [f_X9_span]
  with_reducible repeat' (first | assumption | (intro _) | (refine oS_I ?_) | (refine oB_s ?_) | (refine oA_s ?_) | (refine oA_st ?_) | (refine oA_sj ?_) | (refine oA_i ?_ ?_) | (refine oB_i ?_ ?_) | (refine oA_0 (fun _ => ?_)) | (refine oB_0 (fun _ => ?_)) | (refine oA_j (fun _ => ?_)) | (refine oB_j (fun _ => ?_)) | (refine oA_a ?_ (fun _ _ => ?_)) | (refine oB_a ?_ (fun _ _ => ?_)) | (refine oA_b ?_ (fun _ _ => ?_)) | (refine oB_b ?_ (fun _ _ => ?_)) | (apply u_X9_ofOne) | (apply u_X9_latency) | (apply u_X9_span_30))
theorem u_X9_behind {s : Nat → Int64} (x1 : Int32) (x2 : Int32) (σ : HS) (h : σ.2 67 = s) : oB s (f_X9_behind x1 x2 σ) := by
  rw [f_X9_behind]
  with_reducible repeat' (first | assumption | (intro _) | (refine oS_I ?_) | (refine oB_s ?_) | (refine oA_s ?_) | (refine oA_st ?_) | (refine oA_sj ?_) | (refine oA_i ?_ ?_) | (refine oB_i ?_ ?_) | (refine oA_0 (fun _ => ?_)) | (refine oB_0 (fun _ => ?_)) | (refine oA_j (fun _ => ?_)) | (refine oB_j (fun _ => ?_)) | (refine oA_a ?_ (fun _ _ => ?_)) | (refine oB_a ?_ (fun _ _ => ?_)) | (refine oA_b ?_ (fun _ _ => ?_)) | (refine oB_b ?_ (fun _ _ => ?_)) | (apply u_X9_latency))
theorem u_X9_findWays_134 {s : Nat → Int64} (rec : Int32 → Int32 → Int32 → HS → Option (HS)) (hrec : ∀ y0 y1 y2 (τ : HS), τ.2 67 = s → oA s (rec y0 y1 y2 τ)) (x1 : Int32) (x2 : Int32) (x3 : Int32) (x4 : Int32) (t0 : Int32) (t1 : Int32) (σ : HS) (h : σ.2 67 = s) : oA s (f_X9_findWays_134 rec x1 x2 x3 x4 t0 t1 σ) := by
  rw [f_X9_findWays_134]
  with_reducible repeat' (first | assumption | (intro _) | (refine oS_I ?_) | (refine oB_s ?_) | (refine oA_s ?_) | (refine oA_st ?_) | (refine oA_sj ?_) | (refine oA_i ?_ ?_) | (refine oB_i ?_ ?_) | (refine oA_0 (fun _ => ?_)) | (refine oB_0 (fun _ => ?_)) | (refine oA_j (fun _ => ?_)) | (refine oB_j (fun _ => ?_)) | (refine oA_a ?_ (fun _ _ => ?_)) | (refine oB_a ?_ (fun _ _ => ?_)) | (refine oA_b ?_ (fun _ _ => ?_)) | (refine oB_b ?_ (fun _ _ => ?_)) | (apply hrec))
theorem u_X9_findWays_60 {s : Nat → Int64} (k : Int32 → Int32 → HS → Option (HS)) (hk : ∀ y0 y1 (τ : HS), τ.2 67 = s → oA s (k y0 y1 τ)) : ∀ (n : Nat) (x0 x1 x2 : Int32) (σ : HS), σ.2 67 = s → oA s (f_X9_findWays_60 k n x0 x1 x2 σ) := by
  intro n
  induction n with
  | zero => intros; exact oA_n
  | succ n ih =>
    intro x0 x1 x2 σ h
    rw [f_X9_findWays_60]
    with_reducible repeat' (first | assumption | (intro _) | (refine oS_I ?_) | (refine oB_s ?_) | (refine oA_s ?_) | (refine oA_st ?_) | (refine oA_sj ?_) | (refine oA_i ?_ ?_) | (refine oB_i ?_ ?_) | (refine oA_0 (fun _ => ?_)) | (refine oB_0 (fun _ => ?_)) | (refine oA_j (fun _ => ?_)) | (refine oB_j (fun _ => ?_)) | (refine oA_a ?_ (fun _ _ => ?_)) | (refine oB_a ?_ (fun _ _ => ?_)) | (refine oA_b ?_ (fun _ _ => ?_)) | (refine oB_b ?_ (fun _ _ => ?_)) | (apply hk) | (apply ih) | (apply u_X9_counts) | (apply u_X9_behind) | (apply u_X9_findWays_134))
theorem u_X9_findWays_47 {s : Nat → Int64} (k : Int32 → HS → Option (HS)) (hk : ∀ y0 (τ : HS), τ.2 67 = s → oA s (k y0 τ)) : ∀ (n : Nat) (x0 x1 : Int32) (σ : HS), σ.2 67 = s → oA s (f_X9_findWays_47 k n x0 x1 σ) := by
  intro n
  induction n with
  | zero => intros; exact oA_n
  | succ n ih =>
    intro x0 x1 σ h
    rw [f_X9_findWays_47]
    with_reducible repeat' (first | assumption | (intro _) | (refine oS_I ?_) | (refine oB_s ?_) | (refine oA_s ?_) | (refine oA_st ?_) | (refine oA_sj ?_) | (refine oA_i ?_ ?_) | (refine oB_i ?_ ?_) | (refine oA_0 (fun _ => ?_)) | (refine oB_0 (fun _ => ?_)) | (refine oA_j (fun _ => ?_)) | (refine oB_j (fun _ => ?_)) | (refine oA_a ?_ (fun _ _ => ?_)) | (refine oB_a ?_ (fun _ _ => ?_)) | (refine oA_b ?_ (fun _ _ => ?_)) | (refine oB_b ?_ (fun _ _ => ?_)) | (apply hk) | (apply ih) | (apply u_X9_findWays_60))
theorem u_X9_findWays_39 {s : Nat → Int64} : ∀ (n : Nat) (x0 : Int32) (σ : HS), σ.2 67 = s → oA s (f_X9_findWays_39 n x0 σ) := by
  intro n
  induction n with
  | zero => intros; exact oA_n
  | succ n ih =>
    intro x0 σ h
    rw [f_X9_findWays_39]
    with_reducible repeat' (first | assumption | (intro _) | (refine oS_I ?_) | (refine oB_s ?_) | (refine oA_s ?_) | (refine oA_st ?_) | (refine oA_sj ?_) | (refine oA_i ?_ ?_) | (refine oB_i ?_ ?_) | (refine oA_0 (fun _ => ?_)) | (refine oB_0 (fun _ => ?_)) | (refine oA_j (fun _ => ?_)) | (refine oB_j (fun _ => ?_)) | (refine oA_a ?_ (fun _ _ => ?_)) | (refine oB_a ?_ (fun _ _ => ?_)) | (refine oA_b ?_ (fun _ _ => ?_)) | (refine oB_b ?_ (fun _ _ => ?_)) | (apply ih) | (apply u_X9_findWays_47))
theorem u_X9_findWays_2 {s : Nat → Int64} : ∀ (n : Nat) (x0 : Int32) (σ : HS), σ.2 67 = s → oA s (f_X9_findWays_2 n x0 σ) := by
  intro n
  induction n with
  | zero => intros; exact oA_n
  | succ n ih =>
    intro x0 σ h
    rw [f_X9_findWays_2]
    with_reducible repeat' (first | assumption | (intro _) | (refine oS_I ?_) | (refine oB_s ?_) | (refine oA_s ?_) | (refine oA_st ?_) | (refine oA_sj ?_) | (refine oA_i ?_ ?_) | (refine oB_i ?_ ?_) | (refine oA_0 (fun _ => ?_)) | (refine oB_0 (fun _ => ?_)) | (refine oA_j (fun _ => ?_)) | (refine oB_j (fun _ => ?_)) | (refine oA_a ?_ (fun _ _ => ?_)) | (refine oB_a ?_ (fun _ _ => ?_)) | (refine oA_b ?_ (fun _ _ => ?_)) | (refine oB_b ?_ (fun _ _ => ?_)) | (apply ih) | (apply u_X9_findWays_39) | (apply u_X9_span))
theorem u_X9_findWays {s : Nat → Int64} (σ : HS) (h : σ.2 67 = s) : oA s (f_X9_findWays σ) := by
  rw [f_X9_findWays]
  with_reducible repeat' (first | assumption | (intro _) | (refine oS_I ?_) | (refine oB_s ?_) | (refine oA_s ?_) | (refine oA_st ?_) | (refine oA_sj ?_) | (refine oA_i ?_ ?_) | (refine oB_i ?_ ?_) | (refine oA_0 (fun _ => ?_)) | (refine oB_0 (fun _ => ?_)) | (refine oA_j (fun _ => ?_)) | (refine oB_j (fun _ => ?_)) | (refine oA_a ?_ (fun _ _ => ?_)) | (refine oB_a ?_ (fun _ _ => ?_)) | (refine oA_b ?_ (fun _ _ => ?_)) | (refine oB_b ?_ (fun _ _ => ?_)) | (apply u_X9_findWays_2))
theorem u_X9_heldTurns_18 {s : Nat → Int64} (k : Int32 → Int32 → Int32 → HS → Option (Int32 × HS)) (hk : ∀ y0 y1 y2 (τ : HS), τ.2 67 = s → oB s (k y0 y1 y2 τ)) : ∀ (n : Nat) (x0 x1 x2 x3 : Int32) (σ : HS), σ.2 67 = s → oB s (f_X9_heldTurns_18 k n x0 x1 x2 x3 σ) := by
  intro n
  induction n with
  | zero => intros; exact oB_n
  | succ n ih =>
    intro x0 x1 x2 x3 σ h
    rw [f_X9_heldTurns_18]
    with_reducible repeat' (first | assumption | (intro _) | (refine oS_I ?_) | (refine oB_s ?_) | (refine oA_s ?_) | (refine oA_st ?_) | (refine oA_sj ?_) | (refine oA_i ?_ ?_) | (refine oB_i ?_ ?_) | (refine oA_0 (fun _ => ?_)) | (refine oB_0 (fun _ => ?_)) | (refine oA_j (fun _ => ?_)) | (refine oB_j (fun _ => ?_)) | (refine oA_a ?_ (fun _ _ => ?_)) | (refine oB_a ?_ (fun _ _ => ?_)) | (refine oA_b ?_ (fun _ _ => ?_)) | (refine oB_b ?_ (fun _ _ => ?_)) | (apply hk) | (apply ih) | (apply u_X9_ofOne) | (apply u_X9_has))
theorem u_X9_heldTurns_4 {s : Nat → Int64} : ∀ (n : Nat) (x0 x1 x2 : Int32) (σ : HS), σ.2 67 = s → oB s (f_X9_heldTurns_4 n x0 x1 x2 σ) := by
  intro n
  induction n with
  | zero => intros; exact oB_n
  | succ n ih =>
    intro x0 x1 x2 σ h
    rw [f_X9_heldTurns_4]
    with_reducible repeat' (first | assumption | (intro _) | (refine oS_I ?_) | (refine oB_s ?_) | (refine oA_s ?_) | (refine oA_st ?_) | (refine oA_sj ?_) | (refine oA_i ?_ ?_) | (refine oB_i ?_ ?_) | (refine oA_0 (fun _ => ?_)) | (refine oB_0 (fun _ => ?_)) | (refine oA_j (fun _ => ?_)) | (refine oB_j (fun _ => ?_)) | (refine oA_a ?_ (fun _ _ => ?_)) | (refine oB_a ?_ (fun _ _ => ?_)) | (refine oA_b ?_ (fun _ _ => ?_)) | (refine oB_b ?_ (fun _ _ => ?_)) | (apply ih) | (apply u_X9_heldTurns_18))
theorem u_X9_heldTurns {s : Nat → Int64} (x1 : Int32) (σ : HS) (h : σ.2 67 = s) : oB s (f_X9_heldTurns x1 σ) := by
  rw [f_X9_heldTurns]
  with_reducible repeat' (first | assumption | (intro _) | (refine oS_I ?_) | (refine oB_s ?_) | (refine oA_s ?_) | (refine oA_st ?_) | (refine oA_sj ?_) | (refine oA_i ?_ ?_) | (refine oB_i ?_ ?_) | (refine oA_0 (fun _ => ?_)) | (refine oB_0 (fun _ => ?_)) | (refine oA_j (fun _ => ?_)) | (refine oB_j (fun _ => ?_)) | (refine oA_a ?_ (fun _ _ => ?_)) | (refine oB_a ?_ (fun _ _ => ?_)) | (refine oA_b ?_ (fun _ _ => ?_)) | (refine oB_b ?_ (fun _ _ => ?_)) | (apply u_X9_heldTurns_4))
theorem u_X9_boundOf_72 {s : Nat → Int64} : ∀ (n : Nat) (x0 x1 : Int32) (σ : HS), σ.2 67 = s → oB s (f_X9_boundOf_72 n x0 x1 σ) := by
  intro n
  induction n with
  | zero => intros; exact oB_n
  | succ n ih =>
    intro x0 x1 σ h
    rw [f_X9_boundOf_72]
    with_reducible repeat' (first | assumption | (intro _) | (refine oS_I ?_) | (refine oB_s ?_) | (refine oA_s ?_) | (refine oA_st ?_) | (refine oA_sj ?_) | (refine oA_i ?_ ?_) | (refine oB_i ?_ ?_) | (refine oA_0 (fun _ => ?_)) | (refine oB_0 (fun _ => ?_)) | (refine oA_j (fun _ => ?_)) | (refine oB_j (fun _ => ?_)) | (refine oA_a ?_ (fun _ _ => ?_)) | (refine oB_a ?_ (fun _ _ => ?_)) | (refine oA_b ?_ (fun _ _ => ?_)) | (refine oB_b ?_ (fun _ _ => ?_)) | (apply ih) | (apply u_X9_heldTurns))
theorem u_X9_boundOf_32 {s : Nat → Int64} : ∀ (n : Nat) (x0 x1 : Int32) (σ : HS), σ.2 67 = s → oB s (f_X9_boundOf_32 n x0 x1 σ) := by
  intro n
  induction n with
  | zero => intros; exact oB_n
  | succ n ih =>
    intro x0 x1 σ h
    rw [f_X9_boundOf_32]
    with_reducible repeat' (first | assumption | (intro _) | (refine oS_I ?_) | (refine oB_s ?_) | (refine oA_s ?_) | (refine oA_st ?_) | (refine oA_sj ?_) | (refine oA_i ?_ ?_) | (refine oB_i ?_ ?_) | (refine oA_0 (fun _ => ?_)) | (refine oB_0 (fun _ => ?_)) | (refine oA_j (fun _ => ?_)) | (refine oB_j (fun _ => ?_)) | (refine oA_a ?_ (fun _ _ => ?_)) | (refine oB_a ?_ (fun _ _ => ?_)) | (refine oA_b ?_ (fun _ _ => ?_)) | (refine oB_b ?_ (fun _ _ => ?_)) | (apply ih) | (apply u_X9_boundOf_72))
theorem u_X9_boundOf {s : Nat → Int64} (σ : HS) (h : σ.2 67 = s) : oB s (f_X9_boundOf σ) := by
  rw [f_X9_boundOf]
  with_reducible repeat' (first | assumption | (intro _) | (refine oS_I ?_) | (refine oB_s ?_) | (refine oA_s ?_) | (refine oA_st ?_) | (refine oA_sj ?_) | (refine oA_i ?_ ?_) | (refine oB_i ?_ ?_) | (refine oA_0 (fun _ => ?_)) | (refine oB_0 (fun _ => ?_)) | (refine oA_j (fun _ => ?_)) | (refine oB_j (fun _ => ?_)) | (refine oA_a ?_ (fun _ _ => ?_)) | (refine oB_a ?_ (fun _ _ => ?_)) | (refine oA_b ?_ (fun _ _ => ?_)) | (refine oB_b ?_ (fun _ _ => ?_)) | (apply u_X9_findWays) | (apply u_X9_boundOf_32))
theorem u_X9_isFree_5 {s : Nat → Int64} : ∀ (n : Nat) (x0 x1 x2 x3 : Int32) (σ : HS), σ.2 67 = s → oB s (f_X9_isFree_5 n x0 x1 x2 x3 σ) := by
  intro n
  induction n with
  | zero => intros; exact oB_n
  | succ n ih =>
    intro x0 x1 x2 x3 σ h
    rw [f_X9_isFree_5]
    with_reducible repeat' (first | assumption | (intro _) | (refine oS_I ?_) | (refine oB_s ?_) | (refine oA_s ?_) | (refine oA_st ?_) | (refine oA_sj ?_) | (refine oA_i ?_ ?_) | (refine oB_i ?_ ?_) | (refine oA_0 (fun _ => ?_)) | (refine oB_0 (fun _ => ?_)) | (refine oA_j (fun _ => ?_)) | (refine oB_j (fun _ => ?_)) | (refine oA_a ?_ (fun _ _ => ?_)) | (refine oB_a ?_ (fun _ _ => ?_)) | (refine oA_b ?_ (fun _ _ => ?_)) | (refine oB_b ?_ (fun _ _ => ?_)) | (apply ih) | (apply u_X9_ofOne))
theorem u_X9_isFree {s : Nat → Int64} (x1 : Int32) (x2 : Int32) (σ : HS) (h : σ.2 67 = s) : oB s (f_X9_isFree x1 x2 σ) := by
  rw [f_X9_isFree]
  with_reducible repeat' (first | assumption | (intro _) | (refine oS_I ?_) | (refine oB_s ?_) | (refine oA_s ?_) | (refine oA_st ?_) | (refine oA_sj ?_) | (refine oA_i ?_ ?_) | (refine oB_i ?_ ?_) | (refine oA_0 (fun _ => ?_)) | (refine oB_0 (fun _ => ?_)) | (refine oA_j (fun _ => ?_)) | (refine oB_j (fun _ => ?_)) | (refine oA_a ?_ (fun _ _ => ?_)) | (refine oB_a ?_ (fun _ _ => ?_)) | (refine oA_b ?_ (fun _ _ => ?_)) | (refine oB_b ?_ (fun _ _ => ?_)) | (apply u_X9_isFree_5))
theorem u_X9_exchange_2 {s : Nat → Int64} : ∀ (n : Nat) (x0 x1 x2 : Int32) (σ : HS), σ.2 67 = s → oA s (f_X9_exchange_2 n x0 x1 x2 σ) := by
  intro n
  induction n with
  | zero => intros; exact oA_n
  | succ n ih =>
    intro x0 x1 x2 σ h
    rw [f_X9_exchange_2]
    with_reducible repeat' (first | assumption | (intro _) | (refine oS_I ?_) | (refine oB_s ?_) | (refine oA_s ?_) | (refine oA_st ?_) | (refine oA_sj ?_) | (refine oA_i ?_ ?_) | (refine oB_i ?_ ?_) | (refine oA_0 (fun _ => ?_)) | (refine oB_0 (fun _ => ?_)) | (refine oA_j (fun _ => ?_)) | (refine oB_j (fun _ => ?_)) | (refine oA_a ?_ (fun _ _ => ?_)) | (refine oB_a ?_ (fun _ _ => ?_)) | (refine oA_b ?_ (fun _ _ => ?_)) | (refine oB_b ?_ (fun _ _ => ?_)) | (apply ih) | (apply u_X9_ofOne))
theorem u_X9_exchange {s : Nat → Int64} (x1 : Int32) (x2 : Int32) (σ : HS) (h : σ.2 67 = s) : oA s (f_X9_exchange x1 x2 σ) := by
  rw [f_X9_exchange]
  with_reducible repeat' (first | assumption | (intro _) | (refine oS_I ?_) | (refine oB_s ?_) | (refine oA_s ?_) | (refine oA_st ?_) | (refine oA_sj ?_) | (refine oA_i ?_ ?_) | (refine oB_i ?_ ?_) | (refine oA_0 (fun _ => ?_)) | (refine oB_0 (fun _ => ?_)) | (refine oA_j (fun _ => ?_)) | (refine oB_j (fun _ => ?_)) | (refine oA_a ?_ (fun _ _ => ?_)) | (refine oB_a ?_ (fun _ _ => ?_)) | (refine oA_b ?_ (fun _ _ => ?_)) | (refine oB_b ?_ (fun _ _ => ?_)) | (apply u_X9_exchange_2))
theorem u_X9_clearAll_22 {s : Nat → Int64} : ∀ (n : Nat) (x0 : Int32) (σ : HS), σ.2 67 = s → oA s (f_X9_clearAll_22 n x0 σ) := by
  intro n
  induction n with
  | zero => intros; exact oA_n
  | succ n ih =>
    intro x0 σ h
    rw [f_X9_clearAll_22]
    with_reducible repeat' (first | assumption | (intro _) | (refine oS_I ?_) | (refine oB_s ?_) | (refine oA_s ?_) | (refine oA_st ?_) | (refine oA_sj ?_) | (refine oA_i ?_ ?_) | (refine oB_i ?_ ?_) | (refine oA_0 (fun _ => ?_)) | (refine oB_0 (fun _ => ?_)) | (refine oA_j (fun _ => ?_)) | (refine oB_j (fun _ => ?_)) | (refine oA_a ?_ (fun _ _ => ?_)) | (refine oB_a ?_ (fun _ _ => ?_)) | (refine oA_b ?_ (fun _ _ => ?_)) | (refine oB_b ?_ (fun _ _ => ?_)) | (apply ih))
theorem u_X9_clearAll_2 {s : Nat → Int64} : ∀ (n : Nat) (x0 : Int32) (σ : HS), σ.2 67 = s → oA s (f_X9_clearAll_2 n x0 σ) := by
  intro n
  induction n with
  | zero => intros; exact oA_n
  | succ n ih =>
    intro x0 σ h
    rw [f_X9_clearAll_2]
    with_reducible repeat' (first | assumption | (intro _) | (refine oS_I ?_) | (refine oB_s ?_) | (refine oA_s ?_) | (refine oA_st ?_) | (refine oA_sj ?_) | (refine oA_i ?_ ?_) | (refine oB_i ?_ ?_) | (refine oA_0 (fun _ => ?_)) | (refine oB_0 (fun _ => ?_)) | (refine oA_j (fun _ => ?_)) | (refine oB_j (fun _ => ?_)) | (refine oA_a ?_ (fun _ _ => ?_)) | (refine oB_a ?_ (fun _ _ => ?_)) | (refine oA_b ?_ (fun _ _ => ?_)) | (refine oB_b ?_ (fun _ _ => ?_)) | (apply ih) | (apply u_X9_clearAll_22))
theorem u_X9_clearAll {s : Nat → Int64} (σ : HS) (h : σ.2 67 = s) : oA s (f_X9_clearAll σ) := by
  rw [f_X9_clearAll]
  with_reducible repeat' (first | assumption | (intro _) | (refine oS_I ?_) | (refine oB_s ?_) | (refine oA_s ?_) | (refine oA_st ?_) | (refine oA_sj ?_) | (refine oA_i ?_ ?_) | (refine oB_i ?_ ?_) | (refine oA_0 (fun _ => ?_)) | (refine oB_0 (fun _ => ?_)) | (refine oA_j (fun _ => ?_)) | (refine oB_j (fun _ => ?_)) | (refine oA_a ?_ (fun _ _ => ?_)) | (refine oB_a ?_ (fun _ _ => ?_)) | (refine oA_b ?_ (fun _ _ => ?_)) | (refine oB_b ?_ (fun _ _ => ?_)) | (apply u_X9_clearAll_2))
theorem u_X9_mayBegin_126 {s : Nat → Int64} (x4 : Int32) (x5 : Int32) (σ : HS) (h : σ.2 67 = s) : oB s (f_X9_mayBegin_126 x4 x5 σ) := by
  rw [f_X9_mayBegin_126]
  with_reducible repeat' (first | assumption | (intro _) | (refine oS_I ?_) | (refine oB_s ?_) | (refine oA_s ?_) | (refine oA_st ?_) | (refine oA_sj ?_) | (refine oA_i ?_ ?_) | (refine oB_i ?_ ?_) | (refine oA_0 (fun _ => ?_)) | (refine oB_0 (fun _ => ?_)) | (refine oA_j (fun _ => ?_)) | (refine oB_j (fun _ => ?_)) | (refine oA_a ?_ (fun _ _ => ?_)) | (refine oB_a ?_ (fun _ _ => ?_)) | (refine oA_b ?_ (fun _ _ => ?_)) | (refine oB_b ?_ (fun _ _ => ?_)))
theorem u_X9_mayBegin_97 {s : Nat → Int64} (rec : Int32 → Int32 → Int32 → Int32 → Int32 → Int32 → HS → Option (Int32 × HS)) (hrec : ∀ y0 y1 y2 y3 y4 y5 (τ : HS), τ.2 67 = s → oB s (rec y0 y1 y2 y3 y4 y5 τ)) (x1 : Int32) (x2 : Int32) (x3 : Int32) (x4 : Int32) (x6 : Int32) (t0 : Int32) (σ : HS) (h : σ.2 67 = s) : oB s (f_X9_mayBegin_97 rec x1 x2 x3 x4 x6 t0 σ) := by
  rw [f_X9_mayBegin_97]
  with_reducible repeat' (first | assumption | (intro _) | (refine oS_I ?_) | (refine oB_s ?_) | (refine oA_s ?_) | (refine oA_st ?_) | (refine oA_sj ?_) | (refine oA_i ?_ ?_) | (refine oB_i ?_ ?_) | (refine oA_0 (fun _ => ?_)) | (refine oB_0 (fun _ => ?_)) | (refine oA_j (fun _ => ?_)) | (refine oB_j (fun _ => ?_)) | (refine oA_a ?_ (fun _ _ => ?_)) | (refine oB_a ?_ (fun _ _ => ?_)) | (refine oA_b ?_ (fun _ _ => ?_)) | (refine oB_b ?_ (fun _ _ => ?_)) | (apply hrec))
theorem u_X9_mayBegin_92 {s : Nat → Int64} (rec : Int32 → Int32 → Int32 → Int32 → Int32 → Int32 → HS → Option (Int32 × HS)) (hrec : ∀ y0 y1 y2 y3 y4 y5 (τ : HS), τ.2 67 = s → oB s (rec y0 y1 y2 y3 y4 y5 τ)) (x1 : Int32) (x2 : Int32) (x3 : Int32) (x4 : Int32) (x6 : Int32) (σ : HS) (h : σ.2 67 = s) : oB s (f_X9_mayBegin_92 rec x1 x2 x3 x4 x6 σ) := by
  rw [f_X9_mayBegin_92]
  with_reducible repeat' (first | assumption | (intro _) | (refine oS_I ?_) | (refine oB_s ?_) | (refine oA_s ?_) | (refine oA_st ?_) | (refine oA_sj ?_) | (refine oA_i ?_ ?_) | (refine oB_i ?_ ?_) | (refine oA_0 (fun _ => ?_)) | (refine oB_0 (fun _ => ?_)) | (refine oA_j (fun _ => ?_)) | (refine oB_j (fun _ => ?_)) | (refine oA_a ?_ (fun _ _ => ?_)) | (refine oB_a ?_ (fun _ _ => ?_)) | (refine oA_b ?_ (fun _ _ => ?_)) | (refine oB_b ?_ (fun _ _ => ?_)) | (apply hrec) | (apply u_X9_mayBegin_97))
theorem u_X9_mayBegin_96 {s : Nat → Int64} (rec : Int32 → Int32 → Int32 → Int32 → Int32 → Int32 → HS → Option (Int32 × HS)) (hrec : ∀ y0 y1 y2 y3 y4 y5 (τ : HS), τ.2 67 = s → oB s (rec y0 y1 y2 y3 y4 y5 τ)) (x1 : Int32) (x2 : Int32) (x3 : Int32) (x4 : Int32) (x6 : Int32) (σ : HS) (h : σ.2 67 = s) : oB s (f_X9_mayBegin_96 rec x1 x2 x3 x4 x6 σ) := by
  rw [f_X9_mayBegin_96]
  with_reducible repeat' (first | assumption | (intro _) | (refine oS_I ?_) | (refine oB_s ?_) | (refine oA_s ?_) | (refine oA_st ?_) | (refine oA_sj ?_) | (refine oA_i ?_ ?_) | (refine oB_i ?_ ?_) | (refine oA_0 (fun _ => ?_)) | (refine oB_0 (fun _ => ?_)) | (refine oA_j (fun _ => ?_)) | (refine oB_j (fun _ => ?_)) | (refine oA_a ?_ (fun _ _ => ?_)) | (refine oB_a ?_ (fun _ _ => ?_)) | (refine oA_b ?_ (fun _ _ => ?_)) | (refine oB_b ?_ (fun _ _ => ?_)) | (apply hrec) | (apply u_X9_mayBegin_97))
theorem u_X9_mayBegin_68 {s : Nat → Int64} (rec : Int32 → Int32 → Int32 → Int32 → Int32 → Int32 → HS → Option (Int32 × HS)) (hrec : ∀ y0 y1 y2 y3 y4 y5 (τ : HS), τ.2 67 = s → oB s (rec y0 y1 y2 y3 y4 y5 τ)) (x1 : Int32) (x2 : Int32) (x3 : Int32) (x4 : Int32) (x6 : Int32) (x8 : Int32) (σ : HS) (h : σ.2 67 = s) : oB s (f_X9_mayBegin_68 rec x1 x2 x3 x4 x6 x8 σ) := by
  rw [f_X9_mayBegin_68]
  with_reducible repeat' (first | assumption | (intro _) | (refine oS_I ?_) | (refine oB_s ?_) | (refine oA_s ?_) | (refine oA_st ?_) | (refine oA_sj ?_) | (refine oA_i ?_ ?_) | (refine oB_i ?_ ?_) | (refine oA_0 (fun _ => ?_)) | (refine oB_0 (fun _ => ?_)) | (refine oA_j (fun _ => ?_)) | (refine oB_j (fun _ => ?_)) | (refine oA_a ?_ (fun _ _ => ?_)) | (refine oB_a ?_ (fun _ _ => ?_)) | (refine oA_b ?_ (fun _ _ => ?_)) | (refine oB_b ?_ (fun _ _ => ?_)) | (apply hrec) | (apply u_X9_mayBegin_92) | (apply u_X9_behind) | (apply u_X9_mayBegin_96))
theorem u_X9_mayBegin_14 {s : Nat → Int64} : ∀ (n : Nat) (x0 x1 x2 x3 x4 x5 : Int32) (σ : HS), σ.2 67 = s → oB s (f_X9_mayBegin_14 n x0 x1 x2 x3 x4 x5 σ) := by
  intro n
  induction n with
  | zero => intros; exact oB_n
  | succ n ih =>
    intro x0 x1 x2 x3 x4 x5 σ h
    rw [f_X9_mayBegin_14]
    with_reducible repeat' (first | assumption | (intro _) | (refine oS_I ?_) | (refine oB_s ?_) | (refine oA_s ?_) | (refine oA_st ?_) | (refine oA_sj ?_) | (refine oA_i ?_ ?_) | (refine oB_i ?_ ?_) | (refine oA_0 (fun _ => ?_)) | (refine oB_0 (fun _ => ?_)) | (refine oA_j (fun _ => ?_)) | (refine oB_j (fun _ => ?_)) | (refine oA_a ?_ (fun _ _ => ?_)) | (refine oB_a ?_ (fun _ _ => ?_)) | (refine oA_b ?_ (fun _ _ => ?_)) | (refine oB_b ?_ (fun _ _ => ?_)) | (apply ih) | (apply u_X9_mayBegin_126) | (apply u_X9_counts) | (apply u_X9_mayBegin_68) | (apply u_X9_behind) | (apply u_X9_mayBegin_96))
theorem u_X9_mayBegin {s : Nat → Int64} (x1 : Int32) (x2 : Int32) (x3 : Int32) (σ : HS) (h : σ.2 67 = s) : oB s (f_X9_mayBegin x1 x2 x3 σ) := by
  rw [f_X9_mayBegin]
  with_reducible repeat' (first | assumption | (intro _) | (refine oS_I ?_) | (refine oB_s ?_) | (refine oA_s ?_) | (refine oA_st ?_) | (refine oA_sj ?_) | (refine oA_i ?_ ?_) | (refine oB_i ?_ ?_) | (refine oA_0 (fun _ => ?_)) | (refine oB_0 (fun _ => ?_)) | (refine oA_j (fun _ => ?_)) | (refine oB_j (fun _ => ?_)) | (refine oA_a ?_ (fun _ _ => ?_)) | (refine oB_a ?_ (fun _ _ => ?_)) | (refine oA_b ?_ (fun _ _ => ?_)) | (refine oB_b ?_ (fun _ _ => ?_)) | (apply u_X9_isFree) | (apply u_X9_mayBegin_14))
theorem u_X9_isFound_150 {s : Nat → Int64} (x2 : Int32) (x3 : Int32) (σ : HS) (h : σ.2 67 = s) : oB s (f_X9_isFound_150 x2 x3 σ) := by
  rw [f_X9_isFound_150]
  with_reducible repeat' (first | assumption | (intro _) | (refine oS_I ?_) | (refine oB_s ?_) | (refine oA_s ?_) | (refine oA_st ?_) | (refine oA_sj ?_) | (refine oA_i ?_ ?_) | (refine oB_i ?_ ?_) | (refine oA_0 (fun _ => ?_)) | (refine oB_0 (fun _ => ?_)) | (refine oA_j (fun _ => ?_)) | (refine oB_j (fun _ => ?_)) | (refine oA_a ?_ (fun _ _ => ?_)) | (refine oB_a ?_ (fun _ _ => ?_)) | (refine oA_b ?_ (fun _ _ => ?_)) | (refine oB_b ?_ (fun _ _ => ?_)))
theorem u_X9_isFound_73 {s : Nat → Int64} (k : Int32 → Int32 → Int32 → Int32 → HS → Option (Int32 × HS)) (hk : ∀ y0 y1 y2 y3 (τ : HS), τ.2 67 = s → oB s (k y0 y1 y2 y3 τ)) : ∀ (n : Nat) (x0 x1 x2 x3 : Int32) (σ : HS), σ.2 67 = s → oB s (f_X9_isFound_73 k n x0 x1 x2 x3 σ) := by
  intro n
  induction n with
  | zero => intros; exact oB_n
  | succ n ih =>
    intro x0 x1 x2 x3 σ h
    rw [f_X9_isFound_73]
    with_reducible repeat' (first | assumption | (intro _) | (refine oS_I ?_) | (refine oB_s ?_) | (refine oA_s ?_) | (refine oA_st ?_) | (refine oA_sj ?_) | (refine oA_i ?_ ?_) | (refine oB_i ?_ ?_) | (refine oA_0 (fun _ => ?_)) | (refine oB_0 (fun _ => ?_)) | (refine oA_j (fun _ => ?_)) | (refine oB_j (fun _ => ?_)) | (refine oA_a ?_ (fun _ _ => ?_)) | (refine oB_a ?_ (fun _ _ => ?_)) | (refine oA_b ?_ (fun _ _ => ?_)) | (refine oB_b ?_ (fun _ _ => ?_)) | (apply hk) | (apply ih) | (apply u_X9_mayBegin))
theorem u_X9_isFound_103 {s : Nat → Int64} (rec : Int32 → Int32 → Int32 → HS → Option (Int32 × HS)) (hrec : ∀ y0 y1 y2 (τ : HS), τ.2 67 = s → oB s (rec y0 y1 y2 τ)) (x1 : Int32) (x2 : Int32) (x3 : Int32) (x4 : Int32) (σ : HS) (h : σ.2 67 = s) : oB s (f_X9_isFound_103 rec x1 x2 x3 x4 σ) := by
  rw [f_X9_isFound_103]
  with_reducible repeat' (first | assumption | (intro _) | (refine oS_I ?_) | (refine oB_s ?_) | (refine oA_s ?_) | (refine oA_st ?_) | (refine oA_sj ?_) | (refine oA_i ?_ ?_) | (refine oB_i ?_ ?_) | (refine oA_0 (fun _ => ?_)) | (refine oB_0 (fun _ => ?_)) | (refine oA_j (fun _ => ?_)) | (refine oB_j (fun _ => ?_)) | (refine oA_a ?_ (fun _ _ => ?_)) | (refine oB_a ?_ (fun _ _ => ?_)) | (refine oA_b ?_ (fun _ _ => ?_)) | (refine oB_b ?_ (fun _ _ => ?_)) | (apply hrec) | (apply u_X9_exchange))
theorem u_X9_isFound_44 {s : Nat → Int64} (rec : Int32 → Int32 → Int32 → HS → Option (Int32 × HS)) (hrec : ∀ y0 y1 y2 (τ : HS), τ.2 67 = s → oB s (rec y0 y1 y2 τ)) (x1 : Int32) (x2 : Int32) (x3 : Int32) (σ : HS) (h : σ.2 67 = s) : oB s (f_X9_isFound_44 rec x1 x2 x3 σ) := by
  rw [f_X9_isFound_44]
  with_reducible repeat' (first | assumption | (intro _) | (refine oS_I ?_) | (refine oB_s ?_) | (refine oA_s ?_) | (refine oA_st ?_) | (refine oA_sj ?_) | (refine oA_i ?_ ?_) | (refine oB_i ?_ ?_) | (refine oA_0 (fun _ => ?_)) | (refine oB_0 (fun _ => ?_)) | (refine oA_j (fun _ => ?_)) | (refine oB_j (fun _ => ?_)) | (refine oA_a ?_ (fun _ _ => ?_)) | (refine oB_a ?_ (fun _ _ => ?_)) | (refine oA_b ?_ (fun _ _ => ?_)) | (refine oB_b ?_ (fun _ _ => ?_)) | (apply hrec) | (apply u_X9_isFound_73) | (apply u_X9_isFound_103))
theorem u_X9_isFound_14 {s : Nat → Int64} : ∀ (n : Nat) (x0 x1 x2 : Int32) (σ : HS), σ.2 67 = s → oB s (f_X9_isFound_14 n x0 x1 x2 σ) := by
  intro n
  induction n with
  | zero => intros; exact oB_n
  | succ n ih =>
    intro x0 x1 x2 σ h
    rw [f_X9_isFound_14]
    with_reducible repeat' (first | assumption | (intro _) | (refine oS_I ?_) | (refine oB_s ?_) | (refine oA_s ?_) | (refine oA_st ?_) | (refine oA_sj ?_) | (refine oA_i ?_ ?_) | (refine oB_i ?_ ?_) | (refine oA_0 (fun _ => ?_)) | (refine oB_0 (fun _ => ?_)) | (refine oA_j (fun _ => ?_)) | (refine oB_j (fun _ => ?_)) | (refine oA_a ?_ (fun _ _ => ?_)) | (refine oB_a ?_ (fun _ _ => ?_)) | (refine oA_b ?_ (fun _ _ => ?_)) | (refine oB_b ?_ (fun _ _ => ?_)) | (apply ih) | (apply u_X9_isFound_150) | (apply u_X9_isFound_44) | (apply u_X9_exchange))
theorem u_X9_isFound {s : Nat → Int64} (x1 : Int32) (σ : HS) (h : σ.2 67 = s) : oB s (f_X9_isFound x1 σ) := by
  rw [f_X9_isFound]
  with_reducible repeat' (first | assumption | (intro _) | (refine oS_I ?_) | (refine oB_s ?_) | (refine oA_s ?_) | (refine oA_st ?_) | (refine oA_sj ?_) | (refine oA_i ?_ ?_) | (refine oB_i ?_ ?_) | (refine oA_0 (fun _ => ?_)) | (refine oB_0 (fun _ => ?_)) | (refine oA_j (fun _ => ?_)) | (refine oB_j (fun _ => ?_)) | (refine oA_a ?_ (fun _ _ => ?_)) | (refine oB_a ?_ (fun _ _ => ?_)) | (refine oA_b ?_ (fun _ _ => ?_)) | (refine oB_b ?_ (fun _ _ => ?_)) | (apply u_X9_clearAll) | (apply u_X9_isFound_14))
theorem u_X9_lengthOf_4 {s : Nat → Int64} : ∀ (n : Nat) (x0 x1 : Int32) (σ : HS), σ.2 67 = s → oB s (f_X9_lengthOf_4 n x0 x1 σ) := by
  intro n
  induction n with
  | zero => intros; exact oB_n
  | succ n ih =>
    intro x0 x1 σ h
    rw [f_X9_lengthOf_4]
    with_reducible repeat' (first | assumption | (intro _) | (refine oS_I ?_) | (refine oB_s ?_) | (refine oA_s ?_) | (refine oA_st ?_) | (refine oA_sj ?_) | (refine oA_i ?_ ?_) | (refine oB_i ?_ ?_) | (refine oA_0 (fun _ => ?_)) | (refine oB_0 (fun _ => ?_)) | (refine oA_j (fun _ => ?_)) | (refine oB_j (fun _ => ?_)) | (refine oA_a ?_ (fun _ _ => ?_)) | (refine oB_a ?_ (fun _ _ => ?_)) | (refine oA_b ?_ (fun _ _ => ?_)) | (refine oB_b ?_ (fun _ _ => ?_)) | (apply ih) | (apply u_X9_span))
theorem u_X9_lengthOf {s : Nat → Int64} (σ : HS) (h : σ.2 67 = s) : oB s (f_X9_lengthOf σ) := by
  rw [f_X9_lengthOf]
  with_reducible repeat' (first | assumption | (intro _) | (refine oS_I ?_) | (refine oB_s ?_) | (refine oA_s ?_) | (refine oA_st ?_) | (refine oA_sj ?_) | (refine oA_i ?_ ?_) | (refine oB_i ?_ ?_) | (refine oA_0 (fun _ => ?_)) | (refine oB_0 (fun _ => ?_)) | (refine oA_j (fun _ => ?_)) | (refine oB_j (fun _ => ?_)) | (refine oA_a ?_ (fun _ _ => ?_)) | (refine oB_a ?_ (fun _ _ => ?_)) | (refine oA_b ?_ (fun _ _ => ?_)) | (refine oB_b ?_ (fun _ _ => ?_)) | (apply u_X9_lengthOf_4))
theorem u_X9_findBest_5 {s : Nat → Int64} : ∀ (n : Nat) (x0 : Int32) (σ : HS), σ.2 67 = s → oB s (f_X9_findBest_5 n x0 σ) := by
  intro n
  induction n with
  | zero => intros; exact oB_n
  | succ n ih =>
    intro x0 σ h
    rw [f_X9_findBest_5]
    with_reducible repeat' (first | assumption | (intro _) | (refine oS_I ?_) | (refine oB_s ?_) | (refine oA_s ?_) | (refine oA_st ?_) | (refine oA_sj ?_) | (refine oA_i ?_ ?_) | (refine oB_i ?_ ?_) | (refine oA_0 (fun _ => ?_)) | (refine oB_0 (fun _ => ?_)) | (refine oA_j (fun _ => ?_)) | (refine oB_j (fun _ => ?_)) | (refine oA_a ?_ (fun _ _ => ?_)) | (refine oB_a ?_ (fun _ _ => ?_)) | (refine oA_b ?_ (fun _ _ => ?_)) | (refine oB_b ?_ (fun _ _ => ?_)) | (apply ih) | (apply u_X9_isFound) | (apply u_X9_lengthOf))
theorem u_X9_findBest {s : Nat → Int64} (σ : HS) (h : σ.2 67 = s) : oB s (f_X9_findBest σ) := by
  rw [f_X9_findBest]
  with_reducible repeat' (first | assumption | (intro _) | (refine oS_I ?_) | (refine oB_s ?_) | (refine oA_s ?_) | (refine oA_st ?_) | (refine oA_sj ?_) | (refine oA_i ?_ ?_) | (refine oB_i ?_ ?_) | (refine oA_0 (fun _ => ?_)) | (refine oB_0 (fun _ => ?_)) | (refine oA_j (fun _ => ?_)) | (refine oB_j (fun _ => ?_)) | (refine oA_a ?_ (fun _ _ => ?_)) | (refine oB_a ?_ (fun _ _ => ?_)) | (refine oA_b ?_ (fun _ _ => ?_)) | (refine oB_b ?_ (fun _ _ => ?_)) | (apply u_X9_boundOf) | (apply u_X9_findBest_5))
theorem u_X9_rank_25 {s : Nat → Int64} : ∀ (n : Nat) (x0 x1 x2 : Int32) (σ : HS), σ.2 67 = s → oB s (f_X9_rank_25 n x0 x1 x2 σ) := by
  intro n
  induction n with
  | zero => intros; exact oB_n
  | succ n ih =>
    intro x0 x1 x2 σ h
    rw [f_X9_rank_25]
    with_reducible repeat' (first | assumption | (intro _) | (refine oS_I ?_) | (refine oB_s ?_) | (refine oA_s ?_) | (refine oA_st ?_) | (refine oA_sj ?_) | (refine oA_i ?_ ?_) | (refine oB_i ?_ ?_) | (refine oA_0 (fun _ => ?_)) | (refine oB_0 (fun _ => ?_)) | (refine oA_j (fun _ => ?_)) | (refine oB_j (fun _ => ?_)) | (refine oA_a ?_ (fun _ _ => ?_)) | (refine oB_a ?_ (fun _ _ => ?_)) | (refine oA_b ?_ (fun _ _ => ?_)) | (refine oB_b ?_ (fun _ _ => ?_)) | (apply ih) | (apply u_X9_counts))
theorem u_X9_rank {s : Nat → Int64} (x1 : Int32) (x2 : Int32) (σ : HS) (h : σ.2 67 = s) : oB s (f_X9_rank x1 x2 σ) := by
  rw [f_X9_rank]
  with_reducible repeat' (first | assumption | (intro _) | (refine oS_I ?_) | (refine oB_s ?_) | (refine oA_s ?_) | (refine oA_st ?_) | (refine oA_sj ?_) | (refine oA_i ?_ ?_) | (refine oB_i ?_ ?_) | (refine oA_0 (fun _ => ?_)) | (refine oB_0 (fun _ => ?_)) | (refine oA_j (fun _ => ?_)) | (refine oB_j (fun _ => ?_)) | (refine oA_a ?_ (fun _ _ => ?_)) | (refine oB_a ?_ (fun _ _ => ?_)) | (refine oA_b ?_ (fun _ _ => ?_)) | (refine oB_b ?_ (fun _ _ => ?_)) | (apply u_X9_rank_25))
theorem u_X9_findOrder_15 {s : Nat → Int64} (k : Int32 → Int32 → Int32 → HS → Option (HS)) (hk : ∀ y0 y1 y2 (τ : HS), τ.2 67 = s → oA s (k y0 y1 y2 τ)) : ∀ (n : Nat) (x0 x1 x2 : Int32) (σ : HS), σ.2 67 = s → oA s (f_X9_findOrder_15 k n x0 x1 x2 σ) := by
  intro n
  induction n with
  | zero => intros; exact oA_n
  | succ n ih =>
    intro x0 x1 x2 σ h
    rw [f_X9_findOrder_15]
    with_reducible repeat' (first | assumption | (intro _) | (refine oS_I ?_) | (refine oB_s ?_) | (refine oA_s ?_) | (refine oA_st ?_) | (refine oA_sj ?_) | (refine oA_i ?_ ?_) | (refine oB_i ?_ ?_) | (refine oA_0 (fun _ => ?_)) | (refine oB_0 (fun _ => ?_)) | (refine oA_j (fun _ => ?_)) | (refine oB_j (fun _ => ?_)) | (refine oA_a ?_ (fun _ _ => ?_)) | (refine oB_a ?_ (fun _ _ => ?_)) | (refine oA_b ?_ (fun _ _ => ?_)) | (refine oB_b ?_ (fun _ _ => ?_)) | (apply hk) | (apply ih) | (apply u_X9_rank))
theorem u_X9_findOrder_2 {s : Nat → Int64} : ∀ (n : Nat) (x0 x1 : Int32) (σ : HS), σ.2 67 = s → oA s (f_X9_findOrder_2 n x0 x1 σ) := by
  intro n
  induction n with
  | zero => intros; exact oA_n
  | succ n ih =>
    intro x0 x1 σ h
    rw [f_X9_findOrder_2]
    with_reducible repeat' (first | assumption | (intro _) | (refine oS_I ?_) | (refine oB_s ?_) | (refine oA_s ?_) | (refine oA_st ?_) | (refine oA_sj ?_) | (refine oA_i ?_ ?_) | (refine oB_i ?_ ?_) | (refine oA_0 (fun _ => ?_)) | (refine oB_0 (fun _ => ?_)) | (refine oA_j (fun _ => ?_)) | (refine oB_j (fun _ => ?_)) | (refine oA_a ?_ (fun _ _ => ?_)) | (refine oB_a ?_ (fun _ _ => ?_)) | (refine oA_b ?_ (fun _ _ => ?_)) | (refine oB_b ?_ (fun _ _ => ?_)) | (apply ih) | (apply u_X9_findOrder_15))
theorem u_X9_findOrder {s : Nat → Int64} (x1 : Int32) (σ : HS) (h : σ.2 67 = s) : oA s (f_X9_findOrder x1 σ) := by
  rw [f_X9_findOrder]
  with_reducible repeat' (first | assumption | (intro _) | (refine oS_I ?_) | (refine oB_s ?_) | (refine oA_s ?_) | (refine oA_st ?_) | (refine oA_sj ?_) | (refine oA_i ?_ ?_) | (refine oB_i ?_ ?_) | (refine oA_0 (fun _ => ?_)) | (refine oB_0 (fun _ => ?_)) | (refine oA_j (fun _ => ?_)) | (refine oB_j (fun _ => ?_)) | (refine oA_a ?_ (fun _ _ => ?_)) | (refine oB_a ?_ (fun _ _ => ?_)) | (refine oA_b ?_ (fun _ _ => ?_)) | (refine oB_b ?_ (fun _ _ => ?_)) | (apply u_X9_findOrder_2))
theorem u_X9_isReady_5 {s : Nat → Int64} : ∀ (n : Nat) (x0 x1 x2 x3 : Int32) (σ : HS), σ.2 67 = s → oB s (f_X9_isReady_5 n x0 x1 x2 x3 σ) := by
  intro n
  induction n with
  | zero => intros; exact oB_n
  | succ n ih =>
    intro x0 x1 x2 x3 σ h
    rw [f_X9_isReady_5]
    with_reducible repeat' (first | assumption | (intro _) | (refine oS_I ?_) | (refine oB_s ?_) | (refine oA_s ?_) | (refine oA_st ?_) | (refine oA_sj ?_) | (refine oA_i ?_ ?_) | (refine oB_i ?_ ?_) | (refine oA_0 (fun _ => ?_)) | (refine oB_0 (fun _ => ?_)) | (refine oA_j (fun _ => ?_)) | (refine oB_j (fun _ => ?_)) | (refine oA_a ?_ (fun _ _ => ?_)) | (refine oB_a ?_ (fun _ _ => ?_)) | (refine oA_b ?_ (fun _ _ => ?_)) | (refine oB_b ?_ (fun _ _ => ?_)) | (apply ih) | (apply u_X9_counts) | (apply u_X9_behind))
theorem u_X9_isReady {s : Nat → Int64} (x1 : Int32) (x2 : Int32) (σ : HS) (h : σ.2 67 = s) : oB s (f_X9_isReady x1 x2 σ) := by
  rw [f_X9_isReady]
  with_reducible repeat' (first | assumption | (intro _) | (refine oS_I ?_) | (refine oB_s ?_) | (refine oA_s ?_) | (refine oA_st ?_) | (refine oA_sj ?_) | (refine oA_i ?_ ?_) | (refine oB_i ?_ ?_) | (refine oA_0 (fun _ => ?_)) | (refine oB_0 (fun _ => ?_)) | (refine oA_j (fun _ => ?_)) | (refine oB_j (fun _ => ?_)) | (refine oA_a ?_ (fun _ _ => ?_)) | (refine oB_a ?_ (fun _ _ => ?_)) | (refine oA_b ?_ (fun _ _ => ?_)) | (refine oB_b ?_ (fun _ _ => ?_)) | (apply u_X9_isReady_5))
theorem u_X9_findRanked_34 {s : Nat → Int64} (k : Int32 → Int32 → HS → Option (Int32 × HS)) (hk : ∀ y0 y1 (τ : HS), τ.2 67 = s → oB s (k y0 y1 τ)) : ∀ (n : Nat) (x0 x1 x2 x3 : Int32) (σ : HS), σ.2 67 = s → oB s (f_X9_findRanked_34 k n x0 x1 x2 x3 σ) := by
  intro n
  induction n with
  | zero => intros; exact oB_n
  | succ n ih =>
    intro x0 x1 x2 x3 σ h
    rw [f_X9_findRanked_34]
    with_reducible repeat' (first | assumption | (intro _) | (refine oS_I ?_) | (refine oB_s ?_) | (refine oA_s ?_) | (refine oA_st ?_) | (refine oA_sj ?_) | (refine oA_i ?_ ?_) | (refine oB_i ?_ ?_) | (refine oA_0 (fun _ => ?_)) | (refine oB_0 (fun _ => ?_)) | (refine oA_j (fun _ => ?_)) | (refine oB_j (fun _ => ?_)) | (refine oA_a ?_ (fun _ _ => ?_)) | (refine oB_a ?_ (fun _ _ => ?_)) | (refine oA_b ?_ (fun _ _ => ?_)) | (refine oB_b ?_ (fun _ _ => ?_)) | (apply hk) | (apply ih) | (apply u_X9_isReady) | (apply u_X9_isFree) | (apply u_X9_exchange))
theorem u_X9_findRanked_17 {s : Nat → Int64} : ∀ (n : Nat) (x0 x1 : Int32) (σ : HS), σ.2 67 = s → oB s (f_X9_findRanked_17 n x0 x1 σ) := by
  intro n
  induction n with
  | zero => intros; exact oB_n
  | succ n ih =>
    intro x0 x1 σ h
    rw [f_X9_findRanked_17]
    with_reducible repeat' (first | assumption | (intro _) | (refine oS_I ?_) | (refine oB_s ?_) | (refine oA_s ?_) | (refine oA_st ?_) | (refine oA_sj ?_) | (refine oA_i ?_ ?_) | (refine oB_i ?_ ?_) | (refine oA_0 (fun _ => ?_)) | (refine oB_0 (fun _ => ?_)) | (refine oA_j (fun _ => ?_)) | (refine oB_j (fun _ => ?_)) | (refine oA_a ?_ (fun _ _ => ?_)) | (refine oB_a ?_ (fun _ _ => ?_)) | (refine oA_b ?_ (fun _ _ => ?_)) | (refine oB_b ?_ (fun _ _ => ?_)) | (apply ih) | (apply u_X9_lengthOf) | (apply u_X9_findRanked_34))
theorem u_X9_findRanked {s : Nat → Int64} (x1 : Int32) (σ : HS) (h : σ.2 67 = s) : oB s (f_X9_findRanked x1 σ) := by
  rw [f_X9_findRanked]
  with_reducible repeat' (first | assumption | (intro _) | (refine oS_I ?_) | (refine oB_s ?_) | (refine oA_s ?_) | (refine oA_st ?_) | (refine oA_sj ?_) | (refine oA_i ?_ ?_) | (refine oB_i ?_ ?_) | (refine oA_0 (fun _ => ?_)) | (refine oB_0 (fun _ => ?_)) | (refine oA_j (fun _ => ?_)) | (refine oB_j (fun _ => ?_)) | (refine oA_a ?_ (fun _ _ => ?_)) | (refine oB_a ?_ (fun _ _ => ?_)) | (refine oA_b ?_ (fun _ _ => ?_)) | (refine oB_b ?_ (fun _ _ => ?_)) | (apply u_X9_findWays) | (apply u_X9_findOrder) | (apply u_X9_clearAll) | (apply u_X9_findRanked_17))
theorem u_X9_aboutOne_97 {s : Nat → Int64} (rec : Int32 → Int32 → Int32 → Int32 → HS → Option (Int32 × HS)) (hrec : ∀ y0 y1 y2 y3 (τ : HS), τ.2 67 = s → oB s (rec y0 y1 y2 y3 τ)) (x1 : Int32) (x2 : Int32) (x4 : Int32) (t0 : Int32) (t1 : Int32) (t2 : Int32) (σ : HS) (h : σ.2 67 = s) : oB s (f_X9_aboutOne_97 rec x1 x2 x4 t0 t1 t2 σ) := by
  rw [f_X9_aboutOne_97]
  with_reducible repeat' (first | assumption | (intro _) | (refine oS_I ?_) | (refine oB_s ?_) | (refine oA_s ?_) | (refine oA_st ?_) | (refine oA_sj ?_) | (refine oA_i ?_ ?_) | (refine oB_i ?_ ?_) | (refine oA_0 (fun _ => ?_)) | (refine oB_0 (fun _ => ?_)) | (refine oA_j (fun _ => ?_)) | (refine oB_j (fun _ => ?_)) | (refine oA_a ?_ (fun _ _ => ?_)) | (refine oB_a ?_ (fun _ _ => ?_)) | (refine oA_b ?_ (fun _ _ => ?_)) | (refine oB_b ?_ (fun _ _ => ?_)) | (apply hrec))
theorem u_X9_aboutOne_67 {s : Nat → Int64} : ∀ (n : Nat) (x0 x1 x2 x3 : Int32) (σ : HS), σ.2 67 = s → oB s (f_X9_aboutOne_67 n x0 x1 x2 x3 σ) := by
  intro n
  induction n with
  | zero => intros; exact oB_n
  | succ n ih =>
    intro x0 x1 x2 x3 σ h
    rw [f_X9_aboutOne_67]
    with_reducible repeat' (first | assumption | (intro _) | (refine oS_I ?_) | (refine oB_s ?_) | (refine oA_s ?_) | (refine oA_st ?_) | (refine oA_sj ?_) | (refine oA_i ?_ ?_) | (refine oB_i ?_ ?_) | (refine oA_0 (fun _ => ?_)) | (refine oB_0 (fun _ => ?_)) | (refine oA_j (fun _ => ?_)) | (refine oB_j (fun _ => ?_)) | (refine oA_a ?_ (fun _ _ => ?_)) | (refine oB_a ?_ (fun _ _ => ?_)) | (refine oA_b ?_ (fun _ _ => ?_)) | (refine oB_b ?_ (fun _ _ => ?_)) | (apply ih) | (apply u_X9_needOf) | (apply u_X9_aboutOne_97))
theorem u_X9_aboutOne {s : Nat → Int64} (x1 : Int32) (x2 : Int32) (σ : HS) (h : σ.2 67 = s) : oB s (f_X9_aboutOne x1 x2 σ) := by
  rw [f_X9_aboutOne]
  with_reducible repeat' (first | assumption | (intro _) | (refine oS_I ?_) | (refine oB_s ?_) | (refine oA_s ?_) | (refine oA_st ?_) | (refine oA_sj ?_) | (refine oA_i ?_ ?_) | (refine oB_i ?_ ?_) | (refine oA_0 (fun _ => ?_)) | (refine oB_0 (fun _ => ?_)) | (refine oA_j (fun _ => ?_)) | (refine oB_j (fun _ => ?_)) | (refine oA_a ?_ (fun _ _ => ?_)) | (refine oB_a ?_ (fun _ _ => ?_)) | (refine oA_b ?_ (fun _ _ => ?_)) | (refine oB_b ?_ (fun _ _ => ?_)) | (apply u_X9_findWays) | (apply u_X9_aboutOne_67))
