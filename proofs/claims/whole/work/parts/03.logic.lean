-- values, cells, the world of all cells
def hs_rl (ad : Nat → Nat) (v : Value) : Value := match v with
  | .ref i => .ref (ad i)
  | w => w
theorem hs_rl_cat (ad : Nat → Nat) (v : Value) : (hs_rl ad v).category = v.category := by cases v <;> rfl
def hs_fv (G : HG) (σ : HS) (i k t : Nat) : Value := match t with
  | 0 => .int (σ.1 i k)
  | 1 => .long (σ.2 i k)
  | t + 2 => .ref (G.2.2.1 t)
def hs_cell (G : HG) (σ : HS) (i : Nat) : va_E := match hs_shp i with
  | .inl (0, n) => .inl (G.2.2.2.1, n, .inl (σ.1 i))
  | .inl (1, n) => .inl (G.2.2.2.2.1, n, .inr (.inl (σ.2 i)))
  | .inl (_ + 2, n) => .inl (G.2.2.2.2.2, n, .inr (.inr (.inr (.inr (fun j => some (G.2.2.1 (13 + 5 * j)))))))
  | .inr (ci, tg) => .inr (ci, tg.mapIdx (fun k t => hs_fv G σ i k t))
def hs_w (G : HG) (σ : HS) : va_W := (List.range hs_N).map (fun i => (G.2.2.1 i, hs_cell G σ i))
abbrev hs_D (G : HG) : va_G := (G.1, G.2.1)
def hs_ty (G : HG) : List (ClassId × FieldType) := [(G.2.2.2.1, .int), (G.2.2.2.2.1, .long), (G.2.2.2.2.2, .object "UnitTurns$Setup")]
def hs_inj (G : HG) : Prop := ∀ i j, i < hs_N → j < hs_N → G.2.2.1 i = G.2.2.1 j → i = j
theorem hs_at (G : HG) (σ : HS) {i : Nat} (h : i < hs_N) : (hs_w G σ)[i]? = some (G.2.2.1 i, hs_cell G σ i) := by
  simp [hs_w, List.getElem?_map, List.getElem?_range h]
theorem hs_at_inv {G : HG} {σ : HS} {i : Nat} {q : Nat × va_E} (h : (hs_w G σ)[i]? = some q) : i < hs_N ∧ q = (G.2.2.1 i, hs_cell G σ i) := by
  by_cases hi : i < hs_N
  · rw [hs_at G σ hi] at h
    exact ⟨hi, (Option.some.inj h).symm⟩
  · exfalso
    have : (hs_w G σ)[i]? = none := by simp [hs_w]; omega
    rw [this] at h
    cases h
theorem hs_dis {G : HG} {σ : HS} {A : Nat → Prop} (hj : hs_inj G) (hA : ∀ i, i < hs_N → A (G.2.2.1 i)) : va_D A (hs_w G σ) := by
  refine ⟨fun i j p q hp hq e => ?_, fun k q hq => ?_⟩
  · obtain ⟨h1, rfl⟩ := hs_at_inv hp
    obtain ⟨h2, rfl⟩ := hs_at_inv hq
    exact hj i j h1 h2 e
  · obtain ⟨h1, rfl⟩ := hs_at_inv hq
    exact hA k h1
-- writing
def sA (σ : HS) (o : Nat) (f : Nat → Int32) : HS := (fun a => if a = o then f else σ.1 a, σ.2)
def sI (σ : HS) (o k : Nat) (x : Int32) : HS := sA σ o (upd (σ.1 o) k x)
def sB (σ : HS) (o : Nat) (f : Nat → Int64) : HS := (σ.1, fun a => if a = o then f else σ.2 a)
def sL (σ : HS) (o k : Nat) (x : Int64) : HS := sB σ o (vp_updL (σ.2 o) k x)
theorem hs_cell_ne {G : HG} {σ : HS} {o i : Nat} {f : Nat → Int32} (h : i ≠ o) : hs_cell G (sA σ o f) i = hs_cell G σ i := by
  simp only [hs_cell, hs_fv, sA, if_neg h]
theorem hs_cell_neB {G : HG} {σ : HS} {o i : Nat} {f : Nat → Int64} (h : i ≠ o) : hs_cell G (sB σ o f) i = hs_cell G σ i := by
  simp only [hs_cell, hs_fv, sB, if_neg h]
theorem hs_w_set {G : HG} {σ σ' : HS} {o : Nat} {e : va_E} (h : ∀ i, i ≠ o → hs_cell G σ' i = hs_cell G σ i) (ho : hs_cell G σ' o = e) : (hs_w G σ).set o (G.2.2.1 o, e) = hs_w G σ' := by
  apply List.ext_getElem?
  intro i
  by_cases hi : i < hs_N
  · rw [List.getElem?_set, hs_at G σ' hi]
    by_cases hio : o = i
    · subst hio
      have : o < (hs_w G σ).length := by simp [hs_w]; exact hi
      simp [this, ho]
    · simp only [if_neg hio]
      rw [hs_at G σ hi, h i (fun e => hio e.symm)]
  · have h1 : ((hs_w G σ).set o (G.2.2.1 o, e))[i]? = none := by simp [hs_w]; omega
    have h2 : (hs_w G σ')[i]? = none := by simp [hs_w]; omega
    rw [h1, h2]
def hs_AI (o n : Nat) : Prop := o < hs_N ∧ hs_shp o = .inl (0, n)
def hs_AL (o n : Nat) : Prop := o < hs_N ∧ hs_shp o = .inl (1, n)
def hs_AR (o n : Nat) : Prop := o < hs_N ∧ hs_shp o = .inl (2, n)
def hs_OB (o ci : Nat) (tg : List Nat) : Prop := o < hs_N ∧ hs_shp o = .inr (ci, tg)
theorem hs_atI {G : HG} {σ : HS} {o n : Nat} (h : hs_AI o n) : (hs_w G σ)[o]? = some (G.2.2.1 o, .inl (G.2.2.2.1, n, .inl (σ.1 o))) := by
  rw [hs_at G σ h.1]; simp only [hs_cell, h.2]
theorem hs_atL {G : HG} {σ : HS} {o n : Nat} (h : hs_AL o n) : (hs_w G σ)[o]? = some (G.2.2.1 o, .inl (G.2.2.2.2.1, n, .inr (.inl (σ.2 o)))) := by
  rw [hs_at G σ h.1]; simp only [hs_cell, h.2]
theorem hs_atR {G : HG} {σ : HS} {o n : Nat} (h : hs_AR o n) : (hs_w G σ)[o]? = some (G.2.2.1 o, .inl (G.2.2.2.2.2, n, .inr (.inr (.inr (.inr (fun j => some (G.2.2.1 (13 + 5 * j)))))))) := by
  rw [hs_at G σ h.1]; simp only [hs_cell, h.2]
theorem hs_atO {G : HG} {σ : HS} {o ci : Nat} {tg : List Nat} (h : hs_OB o ci tg) : (hs_w G σ)[o]? = some (G.2.2.1 o, .inr (ci, tg.mapIdx (fun k t => hs_fv G σ o k t))) := by
  rw [hs_at G σ h.1]; simp only [hs_cell, h.2]
theorem hs_setI {G : HG} {σ : HS} {o n k : Nat} {x : Int32} (h : hs_AI o n) : (hs_w G σ).set o (G.2.2.1 o, .inl (G.2.2.2.1, n, .inl (upd (σ.1 o) k x))) = hs_w G (sI σ o k x) :=
  hs_w_set (fun i hi => hs_cell_ne hi) (by simp [hs_cell, h.2, sI, sA])
theorem hs_setA {G : HG} {σ : HS} {o n : Nat} {f : Nat → Int32} (h : hs_AI o n) : (hs_w G σ).set o (G.2.2.1 o, .inl (G.2.2.2.1, n, .inl f)) = hs_w G (sA σ o f) :=
  hs_w_set (fun i hi => hs_cell_ne hi) (by simp [hs_cell, h.2, sA])
theorem hs_setL {G : HG} {σ : HS} {o n k : Nat} {x : Int64} (h : hs_AL o n) : (hs_w G σ).set o (G.2.2.1 o, .inl (G.2.2.2.2.1, n, .inr (.inl (vp_updL (σ.2 o) k x)))) = hs_w G (sL σ o k x) :=
  hs_w_set (fun i hi => hs_cell_neB hi) (by simp [hs_cell, h.2, sL, sB])
theorem hs_setF {G : HG} {σ : HS} {o ci k : Nat} {tg : List Nat} {x : Int32} (h : hs_OB o ci tg) (hk : tg[k]? = some 0) : (hs_w G σ).set o (G.2.2.1 o, .inr (ci, (tg.mapIdx (fun k t => hs_fv G σ o k t)).set k (.int x))) = hs_w G (sI σ o k x) := by
  refine hs_w_set (fun i hi => hs_cell_ne hi) ?_
  simp only [hs_cell, h.2]
  refine congrArg (fun l => Sum.inr (ci, l)) ?_
  apply List.ext_getElem?
  intro i
  rw [List.getElem?_set, List.getElem?_mapIdx, List.getElem?_mapIdx]
  by_cases e : k = i
  · subst e
    have : k < (tg.mapIdx (fun k t => hs_fv G σ o k t)).length := by
      have := (List.getElem?_eq_some_iff.mp hk).1
      simpa using this
    rw [if_pos rfl, if_pos this, hk]
    simp [hs_fv, sI, sA, upd]
  · simp only [if_neg e]
    cases ht : tg[i]? with
    | none => rfl
    | some t =>
      have e' : ¬ i = k := fun h => e h.symm
      match t with
      | 0 => simp [hs_fv, sI, sA, upd, e']
      | 1 => simp [hs_fv, sI, sA]
      | t + 2 => simp [hs_fv]
theorem hs_setFL {G : HG} {σ : HS} {o ci k : Nat} {tg : List Nat} {x : Int64} (h : hs_OB o ci tg) (hk : tg[k]? = some 1) : (hs_w G σ).set o (G.2.2.1 o, .inr (ci, (tg.mapIdx (fun k t => hs_fv G σ o k t)).set k (.long x))) = hs_w G (sL σ o k x) := by
  refine hs_w_set (fun i hi => hs_cell_neB hi) ?_
  simp only [hs_cell, h.2]
  refine congrArg (fun l => Sum.inr (ci, l)) ?_
  apply List.ext_getElem?
  intro i
  rw [List.getElem?_set, List.getElem?_mapIdx, List.getElem?_mapIdx]
  by_cases e : k = i
  · subst e
    have : k < (tg.mapIdx (fun k t => hs_fv G σ o k t)).length := by
      have := (List.getElem?_eq_some_iff.mp hk).1
      simpa using this
    rw [if_pos rfl, if_pos this, hk]
    simp [hs_fv, sL, sB, vp_updL]
  · simp only [if_neg e]
    cases ht : tg[i]? with
    | none => rfl
    | some t =>
      have e' : ¬ i = k := fun h => e h.symm
      match t with
      | 0 => simp [hs_fv, sL, sB]
      | 1 => simp [hs_fv, sL, sB, vp_updL, e']
      | t + 2 => simp [hs_fv]
-- locals
def hs_lv (ad : Nat → Nat) (A : Array Slot) (nL : Nat) (ls : List (Option Value)) : Prop := A.size = nL ∧ lv_wf A ∧ ∀ (i : Nat) (v : Value), ls[i]? = some (some v) → A[i]? = some (Slot.val (hs_rl ad v))
def hs_pr (ad : Nat → Nat) : Nat → List (Option Value) → List (Nat × Value)
  | _, [] => []
  | i, none :: r => hs_pr ad (i + 1) r
  | i, some v :: r => (i, hs_rl ad v) :: hs_pr ad (i + 1) r
theorem hs_pr_mem {ad : Nat → Nat} : ∀ (ls : List (Option Value)) (b : Nat) (q : Nat × Value), q ∈ hs_pr ad b ls ↔ ∃ i v, ls[i]? = some (some v) ∧ q = (b + i, hs_rl ad v) := by
  intro ls
  induction ls with
  | nil => intro b q; simp [hs_pr]
  | cons a r ih =>
    intro b q
    cases a with
    | none =>
      rw [hs_pr, ih]
      constructor
      · rintro ⟨i, v, h, e⟩
        exact ⟨i + 1, v, by simpa using h, by rw [e]; congr 1; omega⟩
      · rintro ⟨i, v, h, e⟩
        cases i with
        | zero => simp at h
        | succ i => exact ⟨i, v, by simpa using h, by rw [e]; congr 1; omega⟩
    | some w =>
      rw [hs_pr, List.mem_cons, ih]
      constructor
      · rintro (e | ⟨i, v, h, e⟩)
        · exact ⟨0, w, by simp, by rw [e]; rfl⟩
        · exact ⟨i + 1, v, by simpa using h, by rw [e]; congr 1; omega⟩
      · rintro ⟨i, v, h, e⟩
        cases i with
        | zero =>
          left
          simp at h
          rw [e, h]
          rfl
        | succ i => exact Or.inr ⟨i, v, by simpa using h, by rw [e]; congr 1; omega⟩
theorem hs_lv_has {ad : Nat → Nat} {A : Array Slot} {nL : Nat} {ls : List (Option Value)} : hs_lv ad A nL ls ↔ lv_has A nL (hs_pr ad 0 ls) := by
  constructor
  · rintro ⟨h1, h2, h3⟩
    refine ⟨h1, h2, fun q hq => ?_⟩
    obtain ⟨i, v, h, rfl⟩ := (hs_pr_mem ls 0 q).mp hq
    simpa using h3 i v h
  · rintro ⟨h1, h2, h3⟩
    refine ⟨h1, h2, fun i v h => ?_⟩
    simpa using h3 (0 + i, hs_rl ad v) ((hs_pr_mem ls 0 _).mpr ⟨i, v, h, rfl⟩)
/-- no long begins right ahead of place i -/
def hs_no2 (ls : List (Option Value)) (i : Nat) : Bool := match i with
  | 0 => true
  | j + 1 => match ls[j]? with
    | some (some v) => v.category == 1
    | _ => true
theorem hs_lv_st {ad : Nat → Nat} {A : Array Slot} {nL : Nat} {ls : List (Option Value)} {i : Nat} {w : Value} (hn : hs_no2 ls i = true)
    (h : lv_has A nL ((i, hs_rl ad w) :: (hs_pr ad 0 ls).filter (fun q => !(q.1 == i) && !(q.1 + 1 == i && q.2.category == 2)))) : hs_lv ad A nL (ls.set i (some w)) := by
  obtain ⟨h1, h2, h3⟩ := h
  refine ⟨h1, h2, fun j v hj => ?_⟩
  rw [List.getElem?_set] at hj
  by_cases e : i = j
  · subst e
    by_cases hl : i < ls.length
    · rw [if_pos rfl, if_pos hl] at hj
      cases hj
      exact h3 (i, hs_rl ad w) List.mem_cons_self
    · rw [if_pos rfl, if_neg hl] at hj
      cases hj
  · rw [if_neg e] at hj
    refine h3 (j, hs_rl ad v) (List.mem_cons_of_mem _ (List.mem_filter.mpr ⟨(hs_pr_mem ls 0 _).mpr ⟨j, v, hj, by simp⟩, ?_⟩))
    have e1 : (j == i) = false := by simp; exact fun q => e q.symm
    simp only [e1, Bool.not_false, Bool.true_and, hs_rl_cat]
    cases hji : (j + 1 == i) with
    | false => rfl
    | true =>
      have : i = j + 1 := by simp at hji; omega
      subst this
      simp only [hs_no2, hj] at hn
      have hc : v.category = 1 := by simpa using hn
      simp [hc]
theorem hs_lv_stL {ad : Nat → Nat} {A : Array Slot} {nL : Nat} {ls : List (Option Value)} {i : Nat} {x : Int64} (hn : hs_no2 ls i = true)
    (h : lv_has A nL ((i, Value.long x) :: (hs_pr ad 0 ls).filter (fun q => !(q.1 == i) && (!(q.1 == i + 1) && !(q.1 + 1 == i && q.2.category == 2))))) : hs_lv ad A nL ((ls.set i (some (.long x))).set (i + 1) none) := by
  obtain ⟨h1, h2, h3⟩ := h
  refine ⟨h1, h2, fun j v hj => ?_⟩
  rw [List.getElem?_set] at hj
  by_cases e2 : i + 1 = j
  · rw [if_pos e2] at hj
    split at hj <;> cases hj
  · rw [if_neg e2, List.getElem?_set] at hj
    by_cases e : i = j
    · subst e
      by_cases hl : i < ls.length
      · rw [if_pos rfl, if_pos hl] at hj
        cases hj
        exact h3 (i, Value.long x) List.mem_cons_self
      · rw [if_pos rfl, if_neg hl] at hj
        cases hj
    · rw [if_neg e] at hj
      refine h3 (j, hs_rl ad v) (List.mem_cons_of_mem _ (List.mem_filter.mpr ⟨(hs_pr_mem ls 0 _).mpr ⟨j, v, hj, by simp⟩, ?_⟩))
      have e1 : (j == i) = false := by simp; exact fun q => e q.symm
      have e3 : (j == i + 1) = false := by simp; exact fun q => e2 q.symm
      simp only [e1, e3, Bool.not_false, Bool.true_and, hs_rl_cat]
      cases hji : (j + 1 == i) with
      | false => rfl
      | true =>
        have : i = j + 1 := by simp at hji; omega
        subst this
        simp only [hs_no2, hj] at hn
        have hc : v.category = 1 := by simpa using hn
        simp [hc]
-- the words
def hs_tbl : List Cond := lw_tbl.filter goodWord
abbrev hs_NW : Type := String × Nat × MethodName × String
def hs_nest : List hs_NW := [("UnitTurns", 11, ⟨"UnitTurns$Setup", "<init>", "()V"⟩, "UnitTurns"), ("UnitTurns$Trail", 17, ⟨"UnitTurns$Setup", "<init>", "()V"⟩, "UnitTurns"), ("UnitTurns", 28, ⟨"UnitTurns$Chart", "<init>", "()V"⟩, "UnitTurns"), ("UnitTurns", 35, ⟨"UnitTurns$Block", "<init>", "()V"⟩, "UnitTurns"), ("UnitTurns", 42, ⟨"UnitTurns$Ranks", "<init>", "()V"⟩, "UnitTurns"), ("UnitTurns", 49, ⟨"UnitTurns$Search", "<init>", "()V"⟩, "UnitTurns"), ("UnitTurns$Search", 26, ⟨"UnitTurns$Rows", "<init>", "()V"⟩, "UnitTurns"), ("UnitTurns", 56, ⟨"UnitTurns$Script", "<init>", "()V"⟩, "UnitTurns"), ("UnitTurns$Chart", 49, ⟨"UnitTurns", "passed", "(II)I"⟩, "UnitTurns"), ("UnitTurns$Chart", 45, ⟨"UnitTurns", "unitOf", "(II)I"⟩, "UnitTurns"), ("UnitTurns$Setup", 57, ⟨"UnitTurns", "pair", "(II)I"⟩, "UnitTurns"), ("UnitTurns$Block", 98, ⟨"UnitTurns", "passed", "(II)I"⟩, "UnitTurns"), ("UnitTurns$Block", 67, ⟨"UnitTurns", "pair", "(II)I"⟩, "UnitTurns"), ("UnitTurns$Block", 78, ⟨"UnitTurns", "unitOf", "(II)I"⟩, "UnitTurns"), ("UnitTurns$Search", 74, ⟨"UnitTurns", "pair", "(II)I"⟩, "UnitTurns"), ("UnitTurns$Rows", 38, ⟨"UnitTurns", "pair", "(II)I"⟩, "UnitTurns"), ("UnitTurns$Ranks", 51, ⟨"UnitTurns", "pair", "(II)I"⟩, "UnitTurns")]
def hs_Nest (U : State) : Prop := ∀ q ∈ hs_nest, va_Nw (.methodLinkNest q.1 q.2.1 q.2.2.1 q.2.2.2) U
theorem hs_Nest.warm {s U : State} (hW : s.WarmedH U.vm) (h : hs_Nest s) : hs_Nest U := fun q hq => va_Nw.warmM hW (h q hq)
theorem hs_Nest.same {s U : State} (e : s.vm = U.vm) (h : hs_Nest s) : hs_Nest U := fun q hq => va_Nw.same rfl e (h q hq)
def hs_In (G : HG) (σ : HS) (U : State) : Prop := va_P (hs_D G) vwCl (hs_w G σ) U.heap ∧ va_K (hs_D G) vwCl (hs_ty G) U ∧ hs_Nest U
def hs_A (G : HG) : Nat → Prop := fun q => ∃ i, i < hs_N ∧ q = G.2.2.1 i
def hs_rm (d : Nat) : Room := { frames := d, cells := 0, slots := 0, locals := 64 * d }
def hs_Pc (G : HG) (av : List Value) (σ : HS) : Array Value → State → Prop := va_Pc (av.map (hs_rl G.2.2.1)) (fun U => hs_In G σ U ∧ hs_inj G)
def hs_Qc (G : HG) (rs : Option Value × HS) : Array Value → State → Outcome → State → Prop := fun _ st oc t => oc = .returned rs.1 ∧ hs_In G rs.2 t ∧ va_F (hs_A G) st t
def hs_ws (y : MethodName) (cc : ByteArray) (nL : Nat) (ret : Option FieldType) : List Cond := .code y cc nL ret :: hs_tbl
/-- the contract of a method: called with av over σ it returns, with rs.1, over rs.2 -/
def hs_Spec (d : Nat) (y : MethodName) (cc : ByteArray) (nL : Nat) (ret : Option FieldType) (av : List Value) (σ : HS) (rs : Option Value × HS) : Prop :=
  ∀ (l : Launch) (G : HG), Met l y (hs_ws y cc nL ret) (hs_rm d) (hs_Pc G av σ) (hs_Qc G rs) 0 0 (hs_A G)
-- what a walk ends in: room, cells, slots; what holds of the frame; which cells may be written; the end
abbrev HZ : Type := Room × Nat × Nat × (HG → State → Array Value → Method → Prop) × (HG → State → Nat → Prop) × (HG → State → Array Value → List Frame → State → Prop)
def hs_C (own : String) (cc : ByteArray) (nL : Nat) (Z : HZ) (p : Program) (s : State) (m : MethodId) (args : Array Value) (meth : Method) (c : Code) (G : HG) : Prop :=
  p.tables.exec = Jvm.exec ∧ c.code = cc ∧ c.maxLocals = nL ∧ s.vm.findClass own = some m.cls ∧ (∀ w ∈ hs_tbl, w.before args s = true) ∧ hs_Nest s ∧ va_K (hs_D G) vwCl (hs_ty G) s ∧ hs_inj G ∧ (∀ i, i < hs_N → Z.2.2.2.2.1 G s (G.2.2.1 i)) ∧ Z.2.2.2.1 G s args meth
def hs_H (Z : HZ) (s : State) (G : HG) (σ : HS) (H : Heap) (locs : List Loc) : Prop := va_P (hs_D G) vwCl (hs_w G σ) H ∧ va_S (Z.2.2.2.2.1 G s) s.heap H locs
def PW (own : String) (cc : ByteArray) (nL : Nat) (Z : HZ) (pc : Nat) (ls : List (Option Value)) (st : List Value) (σ : HS) : Prop :=
  ∀ (p : Program) (l : Launch) (e : Env) (s : State) (m : MethodId) (args : Array Value) (below : List Frame) (meth : Method) (c : Code) (G : HG) (H : Heap) (locs : List Loc) (A : Array Slot),
    hs_C own cc nL Z p s m args meth c G → hs_H Z s G σ H locs → hs_lv G.2.2.1 A nL ls → W p l e Z.1 s m args below meth c H locs Z.2.1 Z.2.2.1 (Z.2.2.2.2.2 G s args below) (F0 m pc A (st.map (hs_rl G.2.2.1)))
def hs_zM (d : Nat) (ret : Option FieldType) (rs : Option Value × HS) : HZ :=
  (hs_rm d, 0, 0, fun _ _ _ meth => meth.sig.returnType = ret ∧ meth.locks = false, fun G _ => hs_A G, fun G s args below => MQ below (hs_Qc G rs) args s 0 0 (hs_A G))
def Dc (cc : ByteArray) (pc : Nat) (i : Instr) (n pc' : Nat) : Prop := decode cc pc = .ok (i, n) ∧ pc + n = pc'
section PWr
variable {own : String} {cc : ByteArray} {nL : Nat} {Z : HZ} {pc pc' : Nat} {ls : List (Option Value)} {st : List Value} {σ : HS}
theorem pw_drop {ls' : List (Option Value)} (h : ∀ (i : Nat) (v : Value), ls'[i]? = some (some v) → ls[i]? = some (some v)) (k : PW own cc nL Z pc ls' st σ) : PW own cc nL Z pc ls st σ := by
  intro p l e s m args below meth c G H locs A C D L
  exact k p l e s m args below meth c G H locs A C D ⟨L.1, L.2.1, fun i v hi => L.2.2 i v (h i v hi)⟩
theorem pw_iload_n {kk : Fin 4} {x : Int32} (hd : Dc cc pc (.iload_n kk) 1 pc') (hl : ls[(kk : Nat)]? = some (some (.int x))) (k : PW own cc nL Z pc' ls (.int x :: st) σ) : PW own cc nL Z pc ls st σ := by
  intro p l e s m args below meth c G H locs A C D L
  obtain ⟨hd, rfl⟩ := hd
  exact lv_iload_n C.1 C.2.1 hd rfl (L.2.2 _ _ hl) (k p l e s m args below meth c G H locs A C D L)
theorem pw_iload {i : Nat} {x : Int32} (hd : Dc cc pc (.iload i) 2 pc') (hl : ls[i]? = some (some (.int x))) (k : PW own cc nL Z pc' ls (.int x :: st) σ) : PW own cc nL Z pc ls st σ := by
  intro p l e s m args below meth c G H locs A C D L
  obtain ⟨hd, rfl⟩ := hd
  exact lv_iload C.1 C.2.1 hd (L.2.2 _ _ hl) (k p l e s m args below meth c G H locs A C D L)
theorem pw_aload_n {kk : Fin 4} {x : Nat} (hd : Dc cc pc (.aload_n kk) 1 pc') (hl : ls[(kk : Nat)]? = some (some (.ref x))) (k : PW own cc nL Z pc' ls (.ref x :: st) σ) : PW own cc nL Z pc ls st σ := by
  intro p l e s m args below meth c G H locs A C D L
  obtain ⟨hd, rfl⟩ := hd
  exact lv_aload_n C.1 C.2.1 hd rfl (L.2.2 _ _ hl) (k p l e s m args below meth c G H locs A C D L)
theorem pw_aload {i : Nat} {x : Nat} (hd : Dc cc pc (.aload i) 2 pc') (hl : ls[i]? = some (some (.ref x))) (k : PW own cc nL Z pc' ls (.ref x :: st) σ) : PW own cc nL Z pc ls st σ := by
  intro p l e s m args below meth c G H locs A C D L
  obtain ⟨hd, rfl⟩ := hd
  exact lv_aload C.1 C.2.1 hd (L.2.2 _ _ hl) (k p l e s m args below meth c G H locs A C D L)
theorem pw_lload_n {kk : Fin 4} {x : Int64} (hd : Dc cc pc (.lload_n kk) 1 pc') (hl : ls[(kk : Nat)]? = some (some (.long x))) (k : PW own cc nL Z pc' ls (.long x :: st) σ) : PW own cc nL Z pc ls st σ := by
  intro p l e s m args below meth c G H locs A C D L
  obtain ⟨hd, rfl⟩ := hd
  exact lv_lload_n C.1 C.2.1 hd rfl (L.2.2 _ _ hl) (k p l e s m args below meth c G H locs A C D L)
theorem pw_lload {i : Nat} {x : Int64} (hd : Dc cc pc (.lload i) 2 pc') (hl : ls[i]? = some (some (.long x))) (k : PW own cc nL Z pc' ls (.long x :: st) σ) : PW own cc nL Z pc ls st σ := by
  intro p l e s m args below meth c G H locs A C D L
  obtain ⟨hd, rfl⟩ := hd
  exact lv_lload C.1 C.2.1 hd (L.2.2 _ _ hl) (k p l e s m args below meth c G H locs A C D L)
theorem pw_iconst {n : Int} {v : Int32} (hd : Dc cc pc (.iconst n) 1 pc') (hv : Int32.ofInt n = v) (k : PW own cc nL Z pc' ls (.int v :: st) σ) : PW own cc nL Z pc ls st σ := by
  intro p l e s m args below meth c G H locs A C D L
  obtain ⟨hd, rfl⟩ := hd
  exact lv_iconst C.1 C.2.1 hd hv (k p l e s m args below meth c G H locs A C D L)
theorem pw_bipush {n : Int} {v : Int32} (hd : Dc cc pc (.bipush n) 2 pc') (hv : (Int8.ofInt n).toInt32 = v) (k : PW own cc nL Z pc' ls (.int v :: st) σ) : PW own cc nL Z pc ls st σ := by
  intro p l e s m args below meth c G H locs A C D L
  obtain ⟨hd, rfl⟩ := hd
  exact lv_bipush C.1 C.2.1 hd hv (k p l e s m args below meth c G H locs A C D L)
theorem pw_sipush {n : Int} {v : Int32} (hd : Dc cc pc (.sipush n) 3 pc') (hv : (Int16.ofInt n).toInt32 = v) (k : PW own cc nL Z pc' ls (.int v :: st) σ) : PW own cc nL Z pc ls st σ := by
  intro p l e s m args below meth c G H locs A C D L
  obtain ⟨hd, rfl⟩ := hd
  exact lv_sipush C.1 C.2.1 hd hv (k p l e s m args below meth c G H locs A C D L)
theorem pw_lconst {n : Fin 2} {v : Int64} (hd : Dc cc pc (.lconst n) 1 pc') (hv : Int64.ofNat (n : Nat) = v) (k : PW own cc nL Z pc' ls (.long v :: st) σ) : PW own cc nL Z pc ls st σ := by
  intro p l e s m args below meth c G H locs A C D L
  obtain ⟨hd, rfl⟩ := hd
  exact lv_lconst C.1 C.2.1 hd hv (k p l e s m args below meth c G H locs A C D L)
theorem pw_ldc {ix : Nat} {v : Int32} (hd : Dc cc pc (.ldc ix) 2 pc') (hc : Cond.constant own ix v ∈ hs_tbl) (k : PW own cc nL Z pc' ls (.int v :: st) σ) : PW own cc nL Z pc ls st σ := by
  intro p l e s m args below meth c G H locs A C D L
  obtain ⟨hd, rfl⟩ := hd
  exact lv_ldc C.1 C.2.1 C.2.2.2.1 (C.2.2.2.2.1 _ hc) hd (k p l e s m args below meth c G H locs A C D L)
theorem pw_ldc2 {ix : Nat} {v : Int64} (hd : Dc cc pc (.ldc2_w ix) 3 pc') (hc : Cond.constantLong own ix v ∈ hs_tbl) (k : PW own cc nL Z pc' ls (.long v :: st) σ) : PW own cc nL Z pc ls st σ := by
  intro p l e s m args below meth c G H locs A C D L
  obtain ⟨hd, rfl⟩ := hd
  exact lv_ldc2 C.1 C.2.1 C.2.2.2.1 (C.2.2.2.2.1 _ hc) hd (k p l e s m args below meth c G H locs A C D L)
theorem pw_iadd {x y : Int32} (hd : Dc cc pc .iadd 1 pc')  (k : PW own cc nL Z pc' ls (.int (x + y) :: st) σ) : PW own cc nL Z pc ls (.int y :: .int x :: st) σ := by
  intro p l e s m args below meth c G H locs A C D L
  obtain ⟨hd, rfl⟩ := hd
  exact lv_iadd C.1 C.2.1 hd (k p l e s m args below meth c G H locs A C D L)
theorem pw_isub {x y : Int32} (hd : Dc cc pc .isub 1 pc')  (k : PW own cc nL Z pc' ls (.int (x - y) :: st) σ) : PW own cc nL Z pc ls (.int y :: .int x :: st) σ := by
  intro p l e s m args below meth c G H locs A C D L
  obtain ⟨hd, rfl⟩ := hd
  exact lv_isub C.1 C.2.1 hd (k p l e s m args below meth c G H locs A C D L)
theorem pw_imul {x y : Int32} (hd : Dc cc pc .imul 1 pc')  (k : PW own cc nL Z pc' ls (.int (x * y) :: st) σ) : PW own cc nL Z pc ls (.int y :: .int x :: st) σ := by
  intro p l e s m args below meth c G H locs A C D L
  obtain ⟨hd, rfl⟩ := hd
  exact lv_imul C.1 C.2.1 hd (k p l e s m args below meth c G H locs A C D L)
theorem pw_iand {x y : Int32} (hd : Dc cc pc .iand 1 pc')  (k : PW own cc nL Z pc' ls (.int (x &&& y) :: st) σ) : PW own cc nL Z pc ls (.int y :: .int x :: st) σ := by
  intro p l e s m args below meth c G H locs A C D L
  obtain ⟨hd, rfl⟩ := hd
  exact lv_iand C.1 C.2.1 hd (k p l e s m args below meth c G H locs A C D L)
theorem pw_ior {x y : Int32} (hd : Dc cc pc .ior 1 pc')  (k : PW own cc nL Z pc' ls (.int (x ||| y) :: st) σ) : PW own cc nL Z pc ls (.int y :: .int x :: st) σ := by
  intro p l e s m args below meth c G H locs A C D L
  obtain ⟨hd, rfl⟩ := hd
  exact lv_ior C.1 C.2.1 hd (k p l e s m args below meth c G H locs A C D L)
theorem pw_ixor {x y : Int32} (hd : Dc cc pc .ixor 1 pc')  (k : PW own cc nL Z pc' ls (.int (x ^^^ y) :: st) σ) : PW own cc nL Z pc ls (.int y :: .int x :: st) σ := by
  intro p l e s m args below meth c G H locs A C D L
  obtain ⟨hd, rfl⟩ := hd
  exact lv_ixor C.1 C.2.1 hd (k p l e s m args below meth c G H locs A C D L)
theorem pw_ishl {x y : Int32} (hd : Dc cc pc .ishl 1 pc')  (k : PW own cc nL Z pc' ls (.int (x <<< (y &&& 31)) :: st) σ) : PW own cc nL Z pc ls (.int y :: .int x :: st) σ := by
  intro p l e s m args below meth c G H locs A C D L
  obtain ⟨hd, rfl⟩ := hd
  exact lv_ishl C.1 C.2.1 hd (k p l e s m args below meth c G H locs A C D L)
theorem pw_ishr {x y : Int32} (hd : Dc cc pc .ishr 1 pc')  (k : PW own cc nL Z pc' ls (.int (x >>> (y &&& 31)) :: st) σ) : PW own cc nL Z pc ls (.int y :: .int x :: st) σ := by
  intro p l e s m args below meth c G H locs A C D L
  obtain ⟨hd, rfl⟩ := hd
  exact lv_ishr C.1 C.2.1 hd (k p l e s m args below meth c G H locs A C D L)
theorem pw_idiv {x y : Int32} (hd : Dc cc pc .idiv 1 pc') (hne : ¬ y = 0) (k : PW own cc nL Z pc' ls (.int (x / y) :: st) σ) : PW own cc nL Z pc ls (.int y :: .int x :: st) σ := by
  intro p l e s m args below meth c G H locs A C D L
  obtain ⟨hd, rfl⟩ := hd
  exact lv_idiv C.1 C.2.1 hd hne (k p l e s m args below meth c G H locs A C D L)
theorem pw_irem {x y : Int32} (hd : Dc cc pc .irem 1 pc') (hne : ¬ y = 0) (k : PW own cc nL Z pc' ls (.int (x - x / y * y) :: st) σ) : PW own cc nL Z pc ls (.int y :: .int x :: st) σ := by
  intro p l e s m args below meth c G H locs A C D L
  obtain ⟨hd, rfl⟩ := hd
  exact lv_irem C.1 C.2.1 hd hne (k p l e s m args below meth c G H locs A C D L)
theorem pw_iushr {x y : Int32} (hd : Dc cc pc .iushr 1 pc')  (k : PW own cc nL Z pc' ls (.int ((x.toUInt32 >>> (y.toUInt32 &&& Int32.toUInt32 31)).toInt32) :: st) σ) : PW own cc nL Z pc ls (.int y :: .int x :: st) σ := by
  intro p l e s m args below meth c G H locs A C D L
  obtain ⟨hd, rfl⟩ := hd
  exact lv_iushr C.1 C.2.1 hd rfl (k p l e s m args below meth c G H locs A C D L)
theorem pw_ladd {x y : Int64} (hd : Dc cc pc .ladd 1 pc')  (k : PW own cc nL Z pc' ls (.long (x + y) :: st) σ) : PW own cc nL Z pc ls (.long y :: .long x :: st) σ := by
  intro p l e s m args below meth c G H locs A C D L
  obtain ⟨hd, rfl⟩ := hd
  exact lv_ladd C.1 C.2.1 hd (k p l e s m args below meth c G H locs A C D L)
theorem pw_lmul {x y : Int64} (hd : Dc cc pc .lmul 1 pc')  (k : PW own cc nL Z pc' ls (.long (x * y) :: st) σ) : PW own cc nL Z pc ls (.long y :: .long x :: st) σ := by
  intro p l e s m args below meth c G H locs A C D L
  obtain ⟨hd, rfl⟩ := hd
  exact lv_lmul C.1 C.2.1 hd (k p l e s m args below meth c G H locs A C D L)
theorem pw_land {x y : Int64} (hd : Dc cc pc .land 1 pc')  (k : PW own cc nL Z pc' ls (.long (x &&& y) :: st) σ) : PW own cc nL Z pc ls (.long y :: .long x :: st) σ := by
  intro p l e s m args below meth c G H locs A C D L
  obtain ⟨hd, rfl⟩ := hd
  exact lv_land C.1 C.2.1 hd (k p l e s m args below meth c G H locs A C D L)
theorem pw_lxor {x y : Int64} (hd : Dc cc pc .lxor 1 pc')  (k : PW own cc nL Z pc' ls (.long (x ^^^ y) :: st) σ) : PW own cc nL Z pc ls (.long y :: .long x :: st) σ := by
  intro p l e s m args below meth c G H locs A C D L
  obtain ⟨hd, rfl⟩ := hd
  exact lv_lxor C.1 C.2.1 hd (k p l e s m args below meth c G H locs A C D L)
theorem pw_lshl {x : Int64} {y : Int32} (hd : Dc cc pc .lshl 1 pc')  (k : PW own cc nL Z pc' ls (.long (x <<< (y.toInt64 &&& 63)) :: st) σ) : PW own cc nL Z pc ls (.int y :: .long x :: st) σ := by
  intro p l e s m args below meth c G H locs A C D L
  obtain ⟨hd, rfl⟩ := hd
  exact lv_lshl C.1 C.2.1 hd rfl (k p l e s m args below meth c G H locs A C D L)
theorem pw_i2l {x : Int32} (hd : Dc cc pc .i2l 1 pc')  (k : PW own cc nL Z pc' ls (.long x.toInt64 :: st) σ) : PW own cc nL Z pc ls (.int x :: st) σ := by
  intro p l e s m args below meth c G H locs A C D L
  obtain ⟨hd, rfl⟩ := hd
  exact lv_i2l C.1 C.2.1 hd rfl (k p l e s m args below meth c G H locs A C D L)
theorem pw_lcmp {x y : Int64} (hd : Dc cc pc .lcmp 1 pc')  (k : PW own cc nL Z pc' ls (.int (lg_cmp x y) :: st) σ) : PW own cc nL Z pc ls (.long y :: .long x :: st) σ := by
  intro p l e s m args below meth c G H locs A C D L
  obtain ⟨hd, rfl⟩ := hd
  exact W.lcmp C.1 C.2.1 hd (k p l e s m args below meth c G H locs A C D L)
theorem pw_dup {v : Value} (hd : Dc cc pc .dup 1 pc') (hc : v.category = 1) (k : PW own cc nL Z pc' ls (v :: v :: st) σ) : PW own cc nL Z pc ls (v :: st) σ := by
  intro p l e s m args below meth c G H locs A C D L
  obtain ⟨hd, rfl⟩ := hd
  exact lv_dup C.1 C.2.1 hd (by rw [hs_rl_cat]; exact hc) (k p l e s m args below meth c G H locs A C D L)
theorem pw_pop {v : Value} (hd : Dc cc pc .pop 1 pc') (hc : v.category = 1) (k : PW own cc nL Z pc' ls st σ) : PW own cc nL Z pc ls (v :: st) σ := by
  intro p l e s m args below meth c G H locs A C D L
  obtain ⟨hd, rfl⟩ := hd
  exact lv_pop C.1 C.2.1 hd (by rw [hs_rl_cat]; exact hc) (k p l e s m args below meth c G H locs A C D L)
theorem pw_dup2 {v w : Value} (hd : Dc cc pc .dup2 1 pc') (hv : v.category = 1) (hw : w.category = 1) (k : PW own cc nL Z pc' ls (v :: w :: v :: w :: st) σ) : PW own cc nL Z pc ls (v :: w :: st) σ := by
  intro p l e s m args below meth c G H locs A C D L
  obtain ⟨hd, rfl⟩ := hd
  exact lv_dup2_11 C.1 C.2.1 hd (by rw [hs_rl_cat]; exact hv) (by rw [hs_rl_cat]; exact hw) (k p l e s m args below meth c G H locs A C D L)
theorem pw_goto {off : Int} {n : Nat} (hd : Dc cc pc (.goto off) 3 n) (ht : (pc : Int) + off = (pc' : Int)) (k : PW own cc nL Z pc' ls st σ) : PW own cc nL Z pc ls st σ := by
  intro p l e s m args below meth c G H locs A C D L
  exact lv_goto C.1 C.2.1 hd.1 ht (k p l e s m args below meth c G H locs A C D L)
theorem pw_icmp_eq {x y : Int32} {off : Int} {tgt : Nat} (hd : Dc cc pc (.if_icmp .eq off) 3 pc') (ht : (pc : Int) + off = (tgt : Int)) (kt : (x = y) → PW own cc nL Z tgt ls st σ) (kf : ¬ (x = y) → PW own cc nL Z pc' ls st σ) : PW own cc nL Z pc ls (.int y :: .int x :: st) σ := by
  intro p l e s m args below meth c G H locs A C D L
  obtain ⟨hd, rfl⟩ := hd
  exact lv_icmp_eq C.1 C.2.1 hd ht (fun h => kt h p l e s m args below meth c G H locs A C D L) (fun h => kf h p l e s m args below meth c G H locs A C D L)
theorem pw_if_eq {x : Int32} {off : Int} {tgt : Nat} (hd : Dc cc pc (.ifCond .eq off) 3 pc') (ht : (pc : Int) + off = (tgt : Int)) (kt : (x = 0) → PW own cc nL Z tgt ls st σ) (kf : ¬ (x = 0) → PW own cc nL Z pc' ls st σ) : PW own cc nL Z pc ls (.int x :: st) σ := by
  intro p l e s m args below meth c G H locs A C D L
  obtain ⟨hd, rfl⟩ := hd
  exact lv_if_eq C.1 C.2.1 hd ht (fun h => kt h p l e s m args below meth c G H locs A C D L) (fun h => kf h p l e s m args below meth c G H locs A C D L)
theorem pw_icmp_ne {x y : Int32} {off : Int} {tgt : Nat} (hd : Dc cc pc (.if_icmp .ne off) 3 pc') (ht : (pc : Int) + off = (tgt : Int)) (kt : ¬ x = y → PW own cc nL Z tgt ls st σ) (kf : x = y → PW own cc nL Z pc' ls st σ) : PW own cc nL Z pc ls (.int y :: .int x :: st) σ := by
  intro p l e s m args below meth c G H locs A C D L
  obtain ⟨hd, rfl⟩ := hd
  exact lv_icmp_ne C.1 C.2.1 hd ht (fun h => kt h p l e s m args below meth c G H locs A C D L) (fun h => kf h p l e s m args below meth c G H locs A C D L)
theorem pw_if_ne {x : Int32} {off : Int} {tgt : Nat} (hd : Dc cc pc (.ifCond .ne off) 3 pc') (ht : (pc : Int) + off = (tgt : Int)) (kt : ¬ x = 0 → PW own cc nL Z tgt ls st σ) (kf : x = 0 → PW own cc nL Z pc' ls st σ) : PW own cc nL Z pc ls (.int x :: st) σ := by
  intro p l e s m args below meth c G H locs A C D L
  obtain ⟨hd, rfl⟩ := hd
  exact lv_if_ne C.1 C.2.1 hd ht (fun h => kt h p l e s m args below meth c G H locs A C D L) (fun h => kf h p l e s m args below meth c G H locs A C D L)
theorem pw_icmp_lt {x y : Int32} {off : Int} {tgt : Nat} (hd : Dc cc pc (.if_icmp .lt off) 3 pc') (ht : (pc : Int) + off = (tgt : Int)) (kt : (x < y) → PW own cc nL Z tgt ls st σ) (kf : ¬ (x < y) → PW own cc nL Z pc' ls st σ) : PW own cc nL Z pc ls (.int y :: .int x :: st) σ := by
  intro p l e s m args below meth c G H locs A C D L
  obtain ⟨hd, rfl⟩ := hd
  exact lv_icmp_lt C.1 C.2.1 hd ht (fun h => kt h p l e s m args below meth c G H locs A C D L) (fun h => kf h p l e s m args below meth c G H locs A C D L)
theorem pw_if_lt {x : Int32} {off : Int} {tgt : Nat} (hd : Dc cc pc (.ifCond .lt off) 3 pc') (ht : (pc : Int) + off = (tgt : Int)) (kt : (x < 0) → PW own cc nL Z tgt ls st σ) (kf : ¬ (x < 0) → PW own cc nL Z pc' ls st σ) : PW own cc nL Z pc ls (.int x :: st) σ := by
  intro p l e s m args below meth c G H locs A C D L
  obtain ⟨hd, rfl⟩ := hd
  exact lv_if_lt C.1 C.2.1 hd ht (fun h => kt h p l e s m args below meth c G H locs A C D L) (fun h => kf h p l e s m args below meth c G H locs A C D L)
theorem pw_icmp_ge {x y : Int32} {off : Int} {tgt : Nat} (hd : Dc cc pc (.if_icmp .ge off) 3 pc') (ht : (pc : Int) + off = (tgt : Int)) (kt : (y ≤ x) → PW own cc nL Z tgt ls st σ) (kf : ¬ (y ≤ x) → PW own cc nL Z pc' ls st σ) : PW own cc nL Z pc ls (.int y :: .int x :: st) σ := by
  intro p l e s m args below meth c G H locs A C D L
  obtain ⟨hd, rfl⟩ := hd
  exact lv_icmp_ge C.1 C.2.1 hd ht (fun h => kt h p l e s m args below meth c G H locs A C D L) (fun h => kf h p l e s m args below meth c G H locs A C D L)
theorem pw_if_ge {x : Int32} {off : Int} {tgt : Nat} (hd : Dc cc pc (.ifCond .ge off) 3 pc') (ht : (pc : Int) + off = (tgt : Int)) (kt : (0 ≤ x) → PW own cc nL Z tgt ls st σ) (kf : ¬ (0 ≤ x) → PW own cc nL Z pc' ls st σ) : PW own cc nL Z pc ls (.int x :: st) σ := by
  intro p l e s m args below meth c G H locs A C D L
  obtain ⟨hd, rfl⟩ := hd
  exact lv_if_ge C.1 C.2.1 hd ht (fun h => kt h p l e s m args below meth c G H locs A C D L) (fun h => kf h p l e s m args below meth c G H locs A C D L)
theorem pw_icmp_gt {x y : Int32} {off : Int} {tgt : Nat} (hd : Dc cc pc (.if_icmp .gt off) 3 pc') (ht : (pc : Int) + off = (tgt : Int)) (kt : (y < x) → PW own cc nL Z tgt ls st σ) (kf : ¬ (y < x) → PW own cc nL Z pc' ls st σ) : PW own cc nL Z pc ls (.int y :: .int x :: st) σ := by
  intro p l e s m args below meth c G H locs A C D L
  obtain ⟨hd, rfl⟩ := hd
  exact lv_icmp_gt C.1 C.2.1 hd ht (fun h => kt h p l e s m args below meth c G H locs A C D L) (fun h => kf h p l e s m args below meth c G H locs A C D L)
theorem pw_if_gt {x : Int32} {off : Int} {tgt : Nat} (hd : Dc cc pc (.ifCond .gt off) 3 pc') (ht : (pc : Int) + off = (tgt : Int)) (kt : (0 < x) → PW own cc nL Z tgt ls st σ) (kf : ¬ (0 < x) → PW own cc nL Z pc' ls st σ) : PW own cc nL Z pc ls (.int x :: st) σ := by
  intro p l e s m args below meth c G H locs A C D L
  obtain ⟨hd, rfl⟩ := hd
  exact lv_if_gt C.1 C.2.1 hd ht (fun h => kt h p l e s m args below meth c G H locs A C D L) (fun h => kf h p l e s m args below meth c G H locs A C D L)
theorem pw_icmp_le {x y : Int32} {off : Int} {tgt : Nat} (hd : Dc cc pc (.if_icmp .le off) 3 pc') (ht : (pc : Int) + off = (tgt : Int)) (kt : (x ≤ y) → PW own cc nL Z tgt ls st σ) (kf : ¬ (x ≤ y) → PW own cc nL Z pc' ls st σ) : PW own cc nL Z pc ls (.int y :: .int x :: st) σ := by
  intro p l e s m args below meth c G H locs A C D L
  obtain ⟨hd, rfl⟩ := hd
  exact lv_icmp_le C.1 C.2.1 hd ht (fun h => kt h p l e s m args below meth c G H locs A C D L) (fun h => kf h p l e s m args below meth c G H locs A C D L)
theorem pw_if_le {x : Int32} {off : Int} {tgt : Nat} (hd : Dc cc pc (.ifCond .le off) 3 pc') (ht : (pc : Int) + off = (tgt : Int)) (kt : (x ≤ 0) → PW own cc nL Z tgt ls st σ) (kf : ¬ (x ≤ 0) → PW own cc nL Z pc' ls st σ) : PW own cc nL Z pc ls (.int x :: st) σ := by
  intro p l e s m args below meth c G H locs A C D L
  obtain ⟨hd, rfl⟩ := hd
  exact lv_if_le C.1 C.2.1 hd ht (fun h => kt h p l e s m args below meth c G H locs A C D L) (fun h => kf h p l e s m args below meth c G H locs A C D L)
theorem pw_istore_n {kk : Fin 4} {i : Nat} {x : Int32} {ls' : List (Option Value)} (hd : Dc cc pc (.istore_n kk) 1 pc') (hi : (kk : Nat) = i) (hn : i < nL) (h2 : hs_no2 ls i = true) (hs : ls.set i (some (.int x)) = ls') (k : PW own cc nL Z pc' ls' st σ) : PW own cc nL Z pc ls (.int x :: st) σ := by
  intro p l e s m args below meth c G H locs A C D L
  obtain ⟨hd, rfl⟩ := hd
  subst hs
  exact lv_istore_n C.1 C.2.1 hd hi (hs_lv_has.mp L) hn rfl (fun A' hA => k p l e s m args below meth c G H locs A' C D (hs_lv_st (w := .int x) h2 hA))
theorem pw_istore {i : Nat} {x : Int32} {ls' : List (Option Value)} (hd : Dc cc pc (.istore i) 2 pc') (hn : i < nL) (h2 : hs_no2 ls i = true) (hs : ls.set i (some (.int x)) = ls') (k : PW own cc nL Z pc' ls' st σ) : PW own cc nL Z pc ls (.int x :: st) σ := by
  intro p l e s m args below meth c G H locs A C D L
  obtain ⟨hd, rfl⟩ := hd
  subst hs
  exact lv_istore C.1 C.2.1 hd (hs_lv_has.mp L) hn rfl (fun A' hA => k p l e s m args below meth c G H locs A' C D (hs_lv_st (w := .int x) h2 hA))
theorem pw_astore_n {kk : Fin 4} {i : Nat} {x : Nat} {ls' : List (Option Value)} (hd : Dc cc pc (.astore_n kk) 1 pc') (hi : (kk : Nat) = i) (hn : i < nL) (h2 : hs_no2 ls i = true) (hs : ls.set i (some (.ref x)) = ls') (k : PW own cc nL Z pc' ls' st σ) : PW own cc nL Z pc ls (.ref x :: st) σ := by
  intro p l e s m args below meth c G H locs A C D L
  obtain ⟨hd, rfl⟩ := hd
  subst hs
  exact lv_astore_n C.1 C.2.1 hd hi (hs_lv_has.mp L) hn rfl (fun A' hA => k p l e s m args below meth c G H locs A' C D (hs_lv_st (w := .ref x) h2 hA))
theorem pw_lstore_n {kk : Fin 4} {i : Nat} {x : Int64} {ls' : List (Option Value)} (hd : Dc cc pc (.lstore_n kk) 1 pc') (hi : (kk : Nat) = i) (hn : i + 1 < nL) (h2 : hs_no2 ls i = true) (hs : (ls.set i (some (.long x))).set (i + 1) none = ls') (k : PW own cc nL Z pc' ls' st σ) : PW own cc nL Z pc ls (.long x :: st) σ := by
  intro p l e s m args below meth c G H locs A C D L
  obtain ⟨hd, rfl⟩ := hd
  subst hs
  exact lv_lstore_n C.1 C.2.1 hd hi (hs_lv_has.mp L) hn rfl (fun A' hA => k p l e s m args below meth c G H locs A' C D (hs_lv_stL h2 hA))
theorem pw_iinc {i : Nat} {n : Int} {x v : Int32} {ls' : List (Option Value)} (hd : Dc cc pc (.iinc i n) 3 pc') (hn : i < nL) (hl : ls[i]? = some (some (.int x))) (hv : Int32.ofInt n = v) (h2 : hs_no2 ls i = true) (hs : ls.set i (some (.int (x + v))) = ls') (k : PW own cc nL Z pc' ls' st σ) : PW own cc nL Z pc ls st σ := by
  intro p l e s m args below meth c G H locs A C D L
  obtain ⟨hd, rfl⟩ := hd
  subst hs; subst hv
  obtain ⟨j, hj⟩ := List.getElem?_of_mem ((hs_pr_mem (ad := G.2.2.1) ls 0 (i, .int x)).mpr ⟨i, .int x, hl, by simp [hs_rl]⟩)
  exact lv_iinc C.1 C.2.1 hd (hs_lv_has.mp L) hj rfl hn rfl (fun A' hA => k p l e s m args below meth c G H locs A' C D (hs_lv_st (w := .int (x + Int32.ofInt n)) h2 hA))
theorem pw_tin {dflt lo hi : Int} {offs : Array Int} {n n' : Nat} {x : Int32} {off : Int} (hd : Dc cc pc (.tableswitch dflt lo hi offs) n n') (h1 : ¬ x.toInt < lo) (h2 : ¬ hi < x.toInt) (ho : offs[(x.toInt - lo).toNat]? = some off) (ht : (pc : Int) + off = (pc' : Int)) (k : PW own cc nL Z pc' ls st σ) : PW own cc nL Z pc ls (.int x :: st) σ := by
  intro p l e s m args below meth c G H locs A C D L
  exact lv_tableIn C.1 C.2.1 hd.1 h1 h2 ho ht (k p l e s m args below meth c G H locs A C D L)
theorem pw_tout {dflt lo hi : Int} {offs : Array Int} {n n' : Nat} {x : Int32} (hd : Dc cc pc (.tableswitch dflt lo hi offs) n n') (h : x.toInt < lo ∨ hi < x.toInt) (ht : (pc : Int) + dflt = (pc' : Int)) (k : PW own cc nL Z pc' ls st σ) : PW own cc nL Z pc ls (.int x :: st) σ := by
  intro p l e s m args below meth c G H locs A C D L
  exact lv_tableOut C.1 C.2.1 hd.1 h ht (k p l e s m args below meth c G H locs A C D L)
theorem pw_look {dflt : Int} {ps : Array (Int × Int)} {n n' : Nat} {x : Int32} {off : Int} (hd : Dc cc pc (.lookupswitch dflt ps) n n') (hp : (ps.toList.zip (ps.toList.drop 1)).all (fun (a, next) => a.1 < next.1) = true) (ho : Op.lookupswitch.offset ps.toList dflt x.toInt = off) (ht : (pc : Int) + off = (pc' : Int)) (k : PW own cc nL Z pc' ls st σ) : PW own cc nL Z pc ls (.int x :: st) σ := by
  intro p l e s m args below meth c G H locs A C D L
  exact lv_lookup C.1 C.2.1 hd.1 hp ho ht (k p l e s m args below meth c G H locs A C D L)
theorem pw_iald {o n : Nat} {i : Int32} (hd : Dc cc pc .iaload 1 pc') (ho : hs_AI o n) (hin : vp_in i n) (k : PW own cc nL Z pc' ls (.int (σ.1 o i.toNatClampNeg) :: st) σ) : PW own cc nL Z pc ls (.int i :: .ref o :: st) σ := by
  intro p l e s m args below meth c G H locs A C D L
  obtain ⟨hd, rfl⟩ := hd
  exact va_iald (a := G.2.2.1 o) (ws := hs_w G σ) C.1 C.2.1 C.2.2.2.2.2.2.1 D.1 o 0 (hs_atI ho) rfl hin hd (k p l e s m args below meth c G H locs A C D L)
theorem pw_lald {o n : Nat} {i : Int32} (hd : Dc cc pc .laload 1 pc') (ho : hs_AL o n) (hin : vp_in i n) (k : PW own cc nL Z pc' ls (.long (σ.2 o i.toNatClampNeg) :: st) σ) : PW own cc nL Z pc ls (.int i :: .ref o :: st) σ := by
  intro p l e s m args below meth c G H locs A C D L
  obtain ⟨hd, rfl⟩ := hd
  exact va_lald (a := G.2.2.1 o) (ws := hs_w G σ) C.1 C.2.1 C.2.2.2.2.2.2.1 D.1 o 1 (hs_atL ho) rfl hin hd (k p l e s m args below meth c G H locs A C D L)
theorem pw_aald {o n : Nat} {i : Int32} (hd : Dc cc pc .aaload 1 pc') (ho : hs_AR o n) (hin : vp_in i n) (k : PW own cc nL Z pc' ls (.ref (13 + 5 * i.toNatClampNeg) :: st) σ) : PW own cc nL Z pc ls (.int i :: .ref o :: st) σ := by
  intro p l e s m args below meth c G H locs A C D L
  obtain ⟨hd, rfl⟩ := hd
  exact va_aldq (a := G.2.2.1 o) (ws := hs_w G σ) C.1 C.2.1 C.2.2.2.2.2.2.1 D.1 o 2 (hs_atR ho) rfl hin hd (k p l e s m args below meth c G H locs A C D L)
theorem pw_alen {o n : Nat} {v : Int32} (hd : Dc cc pc .arraylength 1 pc') (ho : hs_AI o n) (hv : Int32.ofNat n = v) (k : PW own cc nL Z pc' ls (.int v :: st) σ) : PW own cc nL Z pc ls (.ref o :: st) σ := by
  intro p l e s m args below meth c G H locs A C D L
  obtain ⟨hd, rfl⟩ := hd
  exact va_alen (a := G.2.2.1 o) (ws := hs_w G σ) C.1 C.2.1 C.2.2.2.2.2.2.1 D.1 o 0 (hs_atI ho) rfl hv hd (k p l e s m args below meth c G H locs A C D L)
theorem pw_iast {o n : Nat} {i x : Int32} (hd : Dc cc pc .iastore 1 pc') (ho : hs_AI o n) (hin : vp_in i n) (k : PW own cc nL Z pc' ls st (sI σ o i.toNatClampNeg x)) : PW own cc nL Z pc ls (.int x :: .int i :: .ref o :: st) σ := by
  intro p l e s m args below meth c G H locs A C D L
  obtain ⟨hd, rfl⟩ := hd
  refine va_iast (a := G.2.2.1 o) (ws := hs_w G σ) C.1 C.2.1 C.2.2.2.2.2.2.1 D.1 (hs_dis C.2.2.2.2.2.2.2.1 C.2.2.2.2.2.2.2.2.1) D.2 o 0 (hs_atI ho) rfl hin hd (fun H1 locs1 hP hD hS => ?_)
  rw [hs_setI ho] at hP
  exact k p l e s m args below meth c G H1 locs1 A C ⟨hP, hS⟩ L
theorem pw_last {o n : Nat} {i : Int32} {x : Int64} (hd : Dc cc pc .lastore 1 pc') (ho : hs_AL o n) (hin : vp_in i n) (k : PW own cc nL Z pc' ls st (sL σ o i.toNatClampNeg x)) : PW own cc nL Z pc ls (.long x :: .int i :: .ref o :: st) σ := by
  intro p l e s m args below meth c G H locs A C D L
  obtain ⟨hd, rfl⟩ := hd
  refine va_last (a := G.2.2.1 o) (ws := hs_w G σ) C.1 C.2.1 C.2.2.2.2.2.2.1 D.1 (hs_dis C.2.2.2.2.2.2.2.1 C.2.2.2.2.2.2.2.2.1) D.2 o 1 (hs_atL ho) rfl hin hd (fun H1 locs1 hP hD hS => ?_)
  rw [hs_setL ho] at hP
  exact k p l e s m args below meth c G H1 locs1 A C ⟨hP, hS⟩ L
end PWr
def hs_FL (own : String) (ix ci k : Nat) : Prop := ∃ (C : String) (T : u_T) (N : Nat) (ty0 : Nat → FieldType), vwCl[ci]? = some (C, T, N) ∧ k < N ∧ Cond.fieldLink own ix (T k).1 (T k).2.1 (T k).2.2.1 ∈ hs_tbl ∧ (∀ w ∈ u_ws C T N, w ∈ hs_tbl) ∧ (∀ k, k < N → parseFieldDescriptor (T k).2.2.1 = some (ty0 k)) ∧ (∀ a, a < N → ∀ b, b < N → a ≠ b → (T a).2.1 ≠ (T b).2.1)
def hs_FW (own : String) (ix ci k : Nat) (ty : FieldType) : Prop := ∃ (C : String) (T : u_T) (N : Nat) (ty0 : Nat → FieldType), vwCl[ci]? = some (C, T, N) ∧ k < N ∧ Cond.fieldLink own ix (T k).1 (T k).2.1 (T k).2.2.1 ∈ hs_tbl ∧ (∀ w ∈ u_ws C T N, w ∈ hs_tbl) ∧ (∀ k, k < N → parseFieldDescriptor (T k).2.2.1 = some (ty0 k)) ∧ (∀ a, a < N → ∀ b, b < N → a ≠ b → (T a).2.1 ≠ (T b).2.1) ∧ (T k).2.2.2 = false ∧ parseFieldDescriptor (T k).2.2.1 = some ty
section PWf
variable {own : String} {cc : ByteArray} {nL : Nat} {Z : HZ} {pc pc' : Nat} {ls : List (Option Value)} {st : List Value} {σ : HS}
theorem pw_getI {ix ci kf o : Nat} {tg : List Nat} (hd : Dc cc pc (.getfield ix) 3 pc') (hf : hs_FL own ix ci kf) (ho : hs_OB o ci tg) (ht : tg[kf]? = some 0) (k : PW own cc nL Z pc' ls (.int (σ.1 o kf) :: st) σ) : PW own cc nL Z pc ls (.ref o :: st) σ := by
  intro p l e s m args below meth c G H locs A C D L
  obtain ⟨hd, rfl⟩ := hd
  obtain ⟨CC, T, N, ty0, h1, h2, h3, h4, h5, h6⟩ := hf
  refine va_get (a := G.2.2.1 o) (ws := hs_w G σ) (fs := tg.mapIdx (fun k t => hs_fv G σ o k t)) C.1 C.2.1 C.2.2.2.2.1 h4 C.2.2.2.1 C.2.2.2.2.2.2.1 D.1 o (hs_atO ho) h1 kf h2 (C.2.2.2.2.1 _ h3) (fun _ h => h) (v := hs_rl G.2.2.1 (.int (σ.1 o kf))) ?_ hd (k p l e s m args below meth c G H locs A C D L)
  rw [List.getElem?_mapIdx, ht]
  rfl
theorem pw_getL {ix ci kf o : Nat} {tg : List Nat} (hd : Dc cc pc (.getfield ix) 3 pc') (hf : hs_FL own ix ci kf) (ho : hs_OB o ci tg) (ht : tg[kf]? = some 1) (k : PW own cc nL Z pc' ls (.long (σ.2 o kf) :: st) σ) : PW own cc nL Z pc ls (.ref o :: st) σ := by
  intro p l e s m args below meth c G H locs A C D L
  obtain ⟨hd, rfl⟩ := hd
  obtain ⟨CC, T, N, ty0, h1, h2, h3, h4, h5, h6⟩ := hf
  refine va_get (a := G.2.2.1 o) (ws := hs_w G σ) (fs := tg.mapIdx (fun k t => hs_fv G σ o k t)) C.1 C.2.1 C.2.2.2.2.1 h4 C.2.2.2.1 C.2.2.2.2.2.2.1 D.1 o (hs_atO ho) h1 kf h2 (C.2.2.2.2.1 _ h3) (fun _ h => h) (v := hs_rl G.2.2.1 (.long (σ.2 o kf))) ?_ hd (k p l e s m args below meth c G H locs A C D L)
  rw [List.getElem?_mapIdx, ht]
  rfl
theorem pw_getR {ix ci kf o r : Nat} {tg : List Nat} (hd : Dc cc pc (.getfield ix) 3 pc') (hf : hs_FL own ix ci kf) (ho : hs_OB o ci tg) (ht : tg[kf]? = some (r + 2)) (k : PW own cc nL Z pc' ls (.ref r :: st) σ) : PW own cc nL Z pc ls (.ref o :: st) σ := by
  intro p l e s m args below meth c G H locs A C D L
  obtain ⟨hd, rfl⟩ := hd
  obtain ⟨CC, T, N, ty0, h1, h2, h3, h4, h5, h6⟩ := hf
  refine va_get (a := G.2.2.1 o) (ws := hs_w G σ) (fs := tg.mapIdx (fun k t => hs_fv G σ o k t)) C.1 C.2.1 C.2.2.2.2.1 h4 C.2.2.2.1 C.2.2.2.2.2.2.1 D.1 o (hs_atO ho) h1 kf h2 (C.2.2.2.2.1 _ h3) (fun _ h => h) (v := hs_rl G.2.2.1 (.ref r)) ?_ hd (k p l e s m args below meth c G H locs A C D L)
  rw [List.getElem?_mapIdx, ht]
  rfl
theorem pw_putI {ix ci kf o : Nat} {tg : List Nat} {x : Int32} (hd : Dc cc pc (.putfield ix) 3 pc') (hf : hs_FW own ix ci kf .int) (ho : hs_OB o ci tg) (ht : tg[kf]? = some 0) (k : PW own cc nL Z pc' ls st (sI σ o kf x)) : PW own cc nL Z pc ls (.int x :: .ref o :: st) σ := by
  intro p l e s m args below meth c G H locs A C D L
  obtain ⟨hd, rfl⟩ := hd
  obtain ⟨CC, T, N, ty0, h1, h2, h3, h4, h5, h6, h7, h8⟩ := hf
  refine va_put (a := G.2.2.1 o) (ws := hs_w G σ) (fs := tg.mapIdx (fun k t => hs_fv G σ o k t)) (v := .int x) C.1 C.2.1 C.2.2.2.2.1 h4 ty0 h5 h6 C.2.2.2.1 C.2.2.2.2.2.2.1 D.1 (hs_dis C.2.2.2.2.2.2.2.1 C.2.2.2.2.2.2.2.2.1) D.2 o (hs_atO ho) h1 kf h2 (C.2.2.2.2.1 _ h3) (fun _ h => h) h7 h8 rfl rfl ?_ hd (fun H1 locs1 hP hD hS => ?_)
  · simpa using (List.getElem?_eq_some_iff.mp ht).1
  · rw [hs_setF ho ht] at hP
    exact k p l e s m args below meth c G H1 locs1 A C ⟨hP, hS⟩ L
theorem pw_putZ {ix ci kf o : Nat} {tg : List Nat} {x : Int32} (hd : Dc cc pc (.putfield ix) 3 pc') (hf : hs_FW own ix ci kf .boolean) (ho : hs_OB o ci tg) (ht : tg[kf]? = some 0) (hx : narrow .boolean (.int x) = .int x) (hy : fits .boolean (.int x) = true) (k : PW own cc nL Z pc' ls st (sI σ o kf x)) : PW own cc nL Z pc ls (.int x :: .ref o :: st) σ := by
  intro p l e s m args below meth c G H locs A C D L
  obtain ⟨hd, rfl⟩ := hd
  obtain ⟨CC, T, N, ty0, h1, h2, h3, h4, h5, h6, h7, h8⟩ := hf
  refine va_put (a := G.2.2.1 o) (ws := hs_w G σ) (fs := tg.mapIdx (fun k t => hs_fv G σ o k t)) (v := .int x) C.1 C.2.1 C.2.2.2.2.1 h4 ty0 h5 h6 C.2.2.2.1 C.2.2.2.2.2.2.1 D.1 (hs_dis C.2.2.2.2.2.2.2.1 C.2.2.2.2.2.2.2.2.1) D.2 o (hs_atO ho) h1 kf h2 (C.2.2.2.2.1 _ h3) (fun _ h => h) h7 h8 hx hy ?_ hd (fun H1 locs1 hP hD hS => ?_)
  · simpa using (List.getElem?_eq_some_iff.mp ht).1
  · rw [hs_setF ho ht] at hP
    exact k p l e s m args below meth c G H1 locs1 A C ⟨hP, hS⟩ L
theorem pw_putJ {ix ci kf o : Nat} {tg : List Nat} {x : Int64} (hd : Dc cc pc (.putfield ix) 3 pc') (hf : hs_FW own ix ci kf .long) (ho : hs_OB o ci tg) (ht : tg[kf]? = some 1) (k : PW own cc nL Z pc' ls st (sL σ o kf x)) : PW own cc nL Z pc ls (.long x :: .ref o :: st) σ := by
  intro p l e s m args below meth c G H locs A C D L
  obtain ⟨hd, rfl⟩ := hd
  obtain ⟨CC, T, N, ty0, h1, h2, h3, h4, h5, h6, h7, h8⟩ := hf
  refine va_put (a := G.2.2.1 o) (ws := hs_w G σ) (fs := tg.mapIdx (fun k t => hs_fv G σ o k t)) (v := .long x) C.1 C.2.1 C.2.2.2.2.1 h4 ty0 h5 h6 C.2.2.2.1 C.2.2.2.2.2.2.1 D.1 (hs_dis C.2.2.2.2.2.2.2.1 C.2.2.2.2.2.2.2.2.1) D.2 o (hs_atO ho) h1 kf h2 (C.2.2.2.2.1 _ h3) (fun _ h => h) h7 h8 rfl rfl ?_ hd (fun H1 locs1 hP hD hS => ?_)
  · simpa using (List.getElem?_eq_some_iff.mp ht).1
  · rw [hs_setFL ho ht] at hP
    exact k p l e s m args below meth c G H1 locs1 A C ⟨hP, hS⟩ L
end PWf
-- returns, calls, contracts
section PWc
variable {own : String} {cc : ByteArray} {nL : Nat} {Z : HZ} {pc pc' : Nat} {ls : List (Option Value)} {st : List Value} {σ : HS}
theorem pw_iret {d : Nat} {x : Int32} (hd : Dc cc pc .ireturn 1 pc') : PW own cc nL (hs_zM d (some .int) (some (.int x), σ)) pc ls [.int x] σ := by
  intro p l e s m args below meth c G H locs A C D L
  obtain ⟨hx, hb, hml, hown, hts, hne, hK, hj, hA, hr, hlocks⟩ := C
  exact W.iret (v := x) hx hb hr (fun t ht hW => ⟨rfl, ⟨by rw [ht]; exact D.1, va_K.moved hW.alike hK, hne.warm hW⟩, D.2.F ht⟩) D.2.2.2 hd.1 hlocks
theorem pw_zret {d : Nat} {x : Int32} (hd : Dc cc pc .ireturn 1 pc') (hn : narrow .boolean (.int x) = .int x) : PW own cc nL (hs_zM d (some .boolean) (some (.int x), σ)) pc ls [.int x] σ := by
  intro p l e s m args below meth c G H locs A C D L
  obtain ⟨hx, hb, hml, hown, hts, hne, hK, hj, hA, hr, hlocks⟩ := C
  exact W.zret (v := x) hx hb hr hn (fun t ht hW => ⟨rfl, ⟨by rw [ht]; exact D.1, va_K.moved hW.alike hK, hne.warm hW⟩, D.2.F ht⟩) D.2.2.2 hd.1 hlocks
theorem pw_lret {d : Nat} {x : Int64} (hd : Dc cc pc .lreturn 1 pc') : PW own cc nL (hs_zM d (some .long) (some (.long x), σ)) pc ls [.long x] σ := by
  intro p l e s m args below meth c G H locs A C D L
  obtain ⟨hx, hb, hml, hown, hts, hne, hK, hj, hA, hr, hlocks⟩ := C
  exact W.lret (v := x) hx hb hr (fun t ht hW => ⟨rfl, ⟨by rw [ht]; exact D.1, va_K.moved hW.alike hK, hne.warm hW⟩, D.2.F ht⟩) D.2.2.2 hd.1 hlocks
theorem pw_vret {d : Nat} (hd : Dc cc pc .return_ 1 pc') : PW own cc nL (hs_zM d none (none, σ)) pc ls [] σ := by
  intro p l e s m args below meth c G H locs A C D L
  obtain ⟨hx, hb, hml, hown, hts, hne, hK, hj, hA, hr, hlocks⟩ := C
  exact W.vret hx hb hr (fun t ht hW => ⟨rfl, ⟨by rw [ht]; exact D.1, va_K.moved hW.alike hK, hne.warm hW⟩, D.2.F ht⟩) D.2.2.2 hd.1 hlocks
end PWc
theorem hs_args_lv (ad : Nat → Nat) : ∀ (av : List Value) (b : Nat), (∀ v ∈ av, v.category = 1) → ∀ (i : Nat) (v : Value), av[i]? = some v → (b + i, hs_rl ad v) ∈ lv_args b (av.map (hs_rl ad)) := by
  intro av
  induction av with
  | nil => intro b _ i v h; simp at h
  | cons a r ih =>
    intro b hc i v h
    have ha : (hs_rl ad a).category = 1 := by rw [hs_rl_cat]; exact hc a List.mem_cons_self
    rw [List.map_cons, lv_args, if_neg (by omega)]
    cases i with
    | zero => simp at h; rw [h]; exact List.mem_cons_self
    | succ i =>
      have := ih (b + 1) (fun v hv => hc v (List.mem_cons_of_mem _ hv)) i v (by simpa using h)
      rw [show b + (i + 1) = b + 1 + i by omega]
      exact List.mem_cons_of_mem _ this
theorem hs_sl_len (ad : Nat → Nat) : ∀ (av : List Value), (∀ v ∈ av, v.category = 1) → (lg_sl (av.map (hs_rl ad))).length = av.length := by
  intro av
  induction av with
  | nil => intro _; rfl
  | cons a r ih =>
    intro hc
    have ha : (hs_rl ad a).category = 1 := by rw [hs_rl_cat]; exact hc a List.mem_cons_self
    have := ih (fun v hv => hc v (List.mem_cons_of_mem _ hv))
    simp [lg_sl, ha] at this ⊢
    omega
theorem hs_ofW {l : Launch} {y : MethodName} {ws ws' : List Cond} {rm : Room} {Pc : Array Value → State → Prop} {Qc : Array Value → State → Outcome → State → Prop} {mc ms : Nat} {free : Addr → Prop} {cc : ByteArray} {maxL : Nat} {ret : Option FieldType}
    (hy : plainFor y = true) (hw : ws = Cond.code y cc maxL ret :: ws')
    (body : ∀ p e s m args below meth c s₁, BodyLoose p l y (headSpec ws rm) cc maxL ret e s m args below meth c s₁ → c.maxLocals = maxL → Pc args s →
      W p l e (headSpec ws rm).room s m args below meth c s.heap [] 0 0 (MQ below Qc args s mc ms free) (entryFrame m args maxL)) : Met l y ws rm Pc Qc mc ms free := by
  refine MetFree.of_bodySF (code := cc) (maxLocals := maxL) (ret := ret) hy ?_ ?_
  · intro args s m h hn
    obtain ⟨meth, c, h1, h2, h3, h4, h5, h6, -, -⟩ := Cond.code_spec hn (atoms_spec (ws := ws) h _ (by rw [hw]; exact List.mem_cons_self))
    exact ⟨meth, c, h1, h2, h3, h4, h5, h6⟩
  · intro p e s m args below meth c s₁ B hml hP _
    have hh0 : s₁.heap = s.heap := by rw [B.state]; rfl
    obtain ⟨t, a1, o, b1, b2, b3⟩ := body p e s m args below meth c s₁ B hml hP s₁ hh0 (Stand.of_body B)
    exact ⟨t, o, a1, b1, b2, ⟨b3.1, b3.2⟩⟩
/-- a method's contract out of a walk from its entry -/
theorem hs_spec {d : Nat} {y : MethodName} {cc : ByteArray} {nL : Nat} {ret : Option FieldType} {av : List Value} {σ : HS} {rs : Option Value × HS} (hy : plainFor y = true) (hc : ∀ v ∈ av, v.category = 1) (hn : av.length ≤ nL)
    (h : PW y.cls cc nL (hs_zM d ret rs) 0 (av.map some ++ List.replicate (nL - av.length) none) [] σ) : hs_Spec d y cc nL ret av σ rs := by
  intro l G
  refine hs_ofW (cc := cc) (maxL := nL) (ret := ret) hy rfl ?_
  intro p e s m args below meth c s₁ B hml hv
  obtain ⟨rfl, ⟨hP, hK, hN⟩, hj⟩ := hv
  have hts := atoms_spec (ws := hs_ws y cc nL ret) B.pre
  have hl := lv_entry (av.map (hs_rl G.2.2.1)) (n := nL) (by rw [hs_sl_len _ _ hc]; exact hn)
  rw [lg_entry_eq]
  refine h p l e s m _ below meth c G s.heap [] _ ⟨B.exec, B.bytes, hml, findClass_of_methodNamed B.named, fun w hw => hts w (List.mem_cons_of_mem _ hw), hN, hK, hj, fun i hi => ⟨i, hi, rfl⟩, B.returns, B.notSynchronized⟩ ⟨hP, va_S.rf⟩ ⟨hl.1, hl.2.1, fun i v hi => ?_⟩
  have hi' : av[i]? = some v := by
    rw [List.getElem?_append] at hi
    split at hi
    · simpa [List.getElem?_map] using hi
    · simp [List.getElem?_replicate] at hi
  have := hl.2.2 _ (hs_args_lv G.2.2.1 av 0 hc i v hi')
  simpa using this
theorem hs_good : ∀ w ∈ hs_tbl, goodWord w = true := fun w hw => (List.mem_filter.mp hw).2
theorem hs_GoodIn {y : MethodName} {cc : ByteArray} {nL : Nat} {ret : Option FieldType} (h : Cond.code y cc nL ret ∈ hs_tbl) : GoodIn hs_tbl (hs_ws y cc nL ret) := by
  intro w hw
  rcases List.mem_cons.mp hw with e | hw
  · subst e
    exact ⟨h, good_of_word (hs_good _ h)⟩
  · exact ⟨hw, good_of_word (hs_good _ hw)⟩
/-- the words of a call: the code, what the call links -/
def hs_MB (own : String) (ix : Nat) (y : MethodName) (cc : ByteArray) (nL : Nat) (ret : Option FieldType) (n : Nat) : Prop :=
  Cond.code y cc nL ret ∈ hs_tbl ∧ Cond.initialized y.cls ∈ hs_tbl ∧ Cond.methodLink own ix y ∈ hs_tbl ∧ (y.cls ≠ "java/lang/invoke/MethodHandle" ∧ y.cls ≠ "java/lang/invoke/VarHandle" ∧ (parseMethodDescriptor y.desc).map (fun d => d.parameters.length) = some n) ∧ nL ≤ 45
def hs_MV (own : String) (ix : Nat) (y : MethodName) (cc : ByteArray) (nL : Nat) (ret : Option FieldType) (n ci : Nat) : Prop :=
  hs_MB own ix y cc nL ret n ∧ Cond.instanceMethod y ∈ hs_tbl ∧ Cond.selects y.cls y y ∈ hs_tbl ∧ ∃ q : vw_C, vwCl[ci]? = some q ∧ q.1 = y.cls
def hs_MS (own : String) (ix : Nat) (y : MethodName) (cc : ByteArray) (nL : Nat) (ret : Option FieldType) (n : Nat) : Prop :=
  hs_MB own ix y cc nL ret n ∧ Cond.static y ∈ hs_tbl
def hs_MN (own : String) (ix : Nat) (y : MethodName) (host : String) (cc : ByteArray) (nL : Nat) (ret : Option FieldType) (n : Nat) : Prop :=
  Cond.code y cc nL ret ∈ hs_tbl ∧ Cond.initialized y.cls ∈ hs_tbl ∧ (own, ix, y, host) ∈ hs_nest ∧ (y.cls ≠ "java/lang/invoke/MethodHandle" ∧ y.cls ≠ "java/lang/invoke/VarHandle" ∧ (parseMethodDescriptor y.desc).map (fun d => d.parameters.length) = some n) ∧ nL ≤ 45 ∧ Cond.static y ∈ hs_tbl
theorem hs_blind (G : HG) (av : List Value) (σ : HS) : FrameBlind (hs_Pc G av σ) := by
  intro a U g mk ⟨h1, ⟨hP, hK, hN⟩, hj⟩
  exact ⟨h1, ⟨hP, va_K.moved (u := U) (U := U.calling g mk a) (Vm.Alike.refl U.vm) hK, hN.same (U := U.calling g mk a) rfl⟩, hj⟩
section PWd
variable {own : String} {cc : ByteArray} {nL : Nat} {Z : HZ} {pc pc' : Nat} {ls : List (Option Value)} {st : List Value} {σ : HS}
/-- behind a call -/
theorem hs_after {p : Program} {l : Launch} {e : Env} {s : State} {m : MethodId} {args : Array Value} {below : List Frame} {meth : Method} {c : Code} {G : HG} {H : Heap} {locs : List Loc} {A : Array Slot} {v : Option Value} {σ' : HS} {st0 rest : List Value} {a : Array Value}
    (C : hs_C own cc nL Z p s m args meth c G) (D : hs_H Z s G σ H locs) (L : hs_lv G.2.2.1 A nL ls) (hv : ∀ w, v = some w → hs_rl G.2.2.1 w = w)
    (hr : va_Run p l e Z.1 s m args below meth c H locs Z.2.1 Z.2.2.1 0 0 (F0 m pc A st0) (rest.map (hs_rl G.2.2.1)) (hs_Qc G (v, σ') a) (hs_A G))
    (k : PW own cc nL Z (pc + 3) ls (v.toList ++ rest) σ') : W p l e Z.1 s m args below meth c H locs Z.2.1 Z.2.2.1 (Z.2.2.2.2.2 G s args below) (F0 m pc A st0) := by
  intro T hT X
  obtain ⟨v', st₀, t, T', LL, h0, X', hL, e1, e2, ⟨hv', ⟨hP, hK, hN⟩, hz, hk⟩, go⟩ := hr T hT X
  obtain rfl : v' = v := by cases hv'; rfl
  rw [h0] at hz hk
  have hA := C.2.2.2.2.2.2.2.2.1
  have hS : va_S (Z.2.2.2.2.1 G s) s.heap T'.heap (locs ++ LL) := ⟨Nat.le_trans D.2.1 (by rw [e1]; exact hz), fun q h1 h2 => by
      rw [e1, hk q (Nat.lt_of_lt_of_le h1 D.2.1) (fun z => h2 (by obtain ⟨i, hi, rfl⟩ := z; exact hA i hi))]; exact D.2.2.1 q h1 h2, fun q hq => by
      rcases List.mem_append.mp hq with h | h
      · exact D.2.2.2 q h
      · obtain ⟨i, hi, e⟩ := hL q h
        rw [e]; exact hA i hi⟩
  obtain ⟨t2, a1, b1⟩ := k p l e s m args below meth c G T'.heap (locs ++ LL) A C ⟨by rw [e1]; exact hP, hS⟩ L T' rfl X'
  refine ⟨t2, go t2 ?_, b1⟩
  have : (v'.toList ++ rest).map (hs_rl G.2.2.1) = v'.toList ++ rest.map (hs_rl G.2.2.1) := by
    cases v' with
    | none => rfl
    | some w => simp [hv w rfl]
  rw [this] at a1
  exact a1
def hs_isV (v : Option Value) : Prop := ∀ (ad : Nat → Nat) (w : Value), v = some w → hs_rl ad w = w
theorem hs_isV_none : hs_isV none := fun _ _ h => by cases h
theorem hs_isV_int {x : Int32} : hs_isV (some (.int x)) := fun _ _ h => by cases h; rfl
theorem hs_isV_long {x : Int64} : hs_isV (some (.long x)) := fun _ _ h => by cases h; rfl
theorem hs_sum {ad : Nat → Nat} {rest : List Value} : ((rest.map (hs_rl ad)).map fun v => v.category).sum = (rest.map fun v => v.category).sum := by
  rw [List.map_map]; congr 1; apply List.map_congr_left; intro v _; exact hs_rl_cat ad v
theorem pw_callV {d ix ci nL' o n : Nat} {y : MethodName} {cc' : ByteArray} {ret : Option FieldType} {tg : List Nat} {As rest : List Value} {v : Option Value} {σ' : HS} (hd : Dc cc pc (.invokevirtual ix) 3 pc') (hR : d + 1 ≤ Z.1.frames ∧ 64 * d + 64 ≤ Z.1.locals ∧ Z.2.1 ≤ Z.1.cells ∧ Z.2.2.1 ≤ Z.1.slots) (hm : hs_MV own ix y cc' nL' ret n ci) (ho : hs_OB o ci tg) (hn : As.length = n) (hs : hs_Spec d y cc' nL' ret (.ref o :: As) σ (v, σ')) (hv : hs_isV v) (hw : (rest.map fun v => v.category).sum ≤ 8)
    (k : PW own cc nL Z pc' ls (v.toList ++ rest) σ') : PW own cc nL Z pc ls (As.reverse ++ .ref o :: rest) σ := by
  intro p l e s m args below meth c G H locs A C D L
  obtain ⟨hd, rfl⟩ := hd
  obtain ⟨⟨w1, w2, w3, w4, w5⟩, w6, w7, q, w8, w9⟩ := hm
  have hts := C.2.2.2.2.1
  have cb : CallB Z.1 s args own ix y cc' nL' ret (hs_ws y cc' nL' ret) (hs_rm d) 0 0 n := callB_of n hts (hs_GoodIn w1) rfl rfl rfl (hts _ w2) (hts _ w3) w4 ⟨hR.1, by have := hR.2.1; simp only [hs_rm]; omega⟩
  refine hs_after (a := (Value.ref (G.2.2.1 o) :: As.map (hs_rl G.2.2.1)).toArray) (rest := rest) C D L (hv _) (va_runV (C := y.cls) (b := G.2.2.1 o) (As := As.map (hs_rl G.2.2.1)) ⟨C.1, C.2.1, C.2.2.1, C.2.2.2.1, hts⟩ (hs l G) ⟨cb, hts _ w6, hts _ w7⟩ ⟨hs_blind G _ σ, ?_, fun U hU hW => ⟨rfl, ⟨by rw [hU]; exact D.1, va_K.moved hW.alike C.2.2.2.2.2.2.1, C.2.2.2.2.2.1.warm hW⟩, C.2.2.2.2.2.2.2.1⟩⟩ rfl (by simpa using hn) L.1 (by simp [hs_rl]) (lv_room (by rw [hs_sum]; exact hw)) hd hR.2.2) k
  have := va_recv C.2.2.2.2.2.2.1 D.1 w8 (hs_atO ho)
  rw [w9] at this
  exact this
theorem pw_callS {d ix nL' n : Nat} {y : MethodName} {cc' : ByteArray} {ret : Option FieldType} {As rest : List Value} {v : Option Value} {σ' : HS} (hd : Dc cc pc (.invokestatic ix) 3 pc') (hR : d + 1 ≤ Z.1.frames ∧ 64 * d + 64 ≤ Z.1.locals ∧ Z.2.1 ≤ Z.1.cells ∧ Z.2.2.1 ≤ Z.1.slots) (hm : hs_MS own ix y cc' nL' ret n) (hn : As.length = n) (hs : hs_Spec d y cc' nL' ret As σ (v, σ')) (hv : hs_isV v) (hw : (rest.map fun v => v.category).sum ≤ 8)
    (k : PW own cc nL Z pc' ls (v.toList ++ rest) σ') : PW own cc nL Z pc ls (As.reverse ++ rest) σ := by
  intro p l e s m args below meth c G H locs A C D L
  obtain ⟨hd, rfl⟩ := hd
  obtain ⟨⟨w1, w2, w3, w4, w5⟩, w6⟩ := hm
  have hts := C.2.2.2.2.1
  have cb : CallB Z.1 s args own ix y cc' nL' ret (hs_ws y cc' nL' ret) (hs_rm d) 0 0 n := callB_of n hts (hs_GoodIn w1) rfl rfl rfl (hts _ w2) (hts _ w3) w4 ⟨hR.1, by have := hR.2.1; simp only [hs_rm]; omega⟩
  exact hs_after (a := (As.map (hs_rl G.2.2.1)).toArray) (rest := rest) C D L (hv _) (va_runS (As := As.map (hs_rl G.2.2.1)) ⟨C.1, C.2.1, C.2.2.1, C.2.2.2.1, hts⟩ (hs l G) ⟨cb, hts _ w6⟩ ⟨hs_blind G _ σ, fun U hU hW => ⟨rfl, ⟨by rw [hU]; exact D.1, va_K.moved hW.alike C.2.2.2.2.2.2.1, C.2.2.2.2.2.1.warm hW⟩, C.2.2.2.2.2.2.2.1⟩⟩ rfl (by simpa using hn) L.1 (by simp) (lv_room (by rw [hs_sum]; exact hw)) hd hR.2.2) k
theorem pw_callN {d ix nL' n : Nat} {y : MethodName} {host : String} {cc' : ByteArray} {ret : Option FieldType} {As rest : List Value} {v : Option Value} {σ' : HS} (hd : Dc cc pc (.invokestatic ix) 3 pc') (hR : d + 1 ≤ Z.1.frames ∧ 64 * d + 64 ≤ Z.1.locals ∧ Z.2.1 ≤ Z.1.cells ∧ Z.2.2.1 ≤ Z.1.slots) (hm : hs_MN own ix y host cc' nL' ret n) (hn : As.length = n) (hs : hs_Spec d y cc' nL' ret As σ (v, σ')) (hv : hs_isV v) (hw : (rest.map fun v => v.category).sum ≤ 8)
    (k : PW own cc nL Z pc' ls (v.toList ++ rest) σ') : PW own cc nL Z pc ls (As.reverse ++ rest) σ := by
  intro p l e s m args below meth c G H locs A C D L
  obtain ⟨hd, rfl⟩ := hd
  obtain ⟨w1, w2, w3, w4, w5, w6⟩ := hm
  have hts := C.2.2.2.2.1
  have cb : va_CN Z.1 s args own ix y host cc' nL' ret (hs_ws y cc' nL' ret) (hs_rm d) 0 0 n := va_cnB n hts (hs_GoodIn w1) rfl rfl rfl (C.2.2.2.2.2.1 _ w3) (hts _ w2) w4 ⟨hR.1, by have := hR.2.1; simp only [hs_rm]; omega⟩
  exact hs_after (a := (As.map (hs_rl G.2.2.1)).toArray) (rest := rest) C D L (hv _) (va_runSN (As := As.map (hs_rl G.2.2.1)) ⟨C.1, C.2.1, C.2.2.1, C.2.2.2.1, hts⟩ (hs l G) ⟨cb, hts _ w6, trivial⟩ ⟨hs_blind G _ σ, fun U hU hW => ⟨rfl, ⟨by rw [hU]; exact D.1, va_K.moved hW.alike C.2.2.2.2.2.2.1, C.2.2.2.2.2.1.warm hW⟩, C.2.2.2.2.2.2.2.1⟩⟩ rfl (by simpa using hn) L.1 (by simp) (lv_room (by rw [hs_sum]; exact hw)) hd hR.2.2) k
theorem pw_copy {ix o0 o1 n0 n1 : Nat} {n : Int32} (hd : Dc cc pc (.invokestatic ix) 3 pc') (hR : 1 ≤ Z.1.frames ∧ 30 ≤ Z.1.locals) (hm : Cond.methodLink own ix arraycopyName ∈ hs_tbl ∧ Cond.native arraycopyName ∈ hs_tbl ∧ Cond.static arraycopyName ∈ hs_tbl ∧ Cond.initialized "java/lang/System" ∈ hs_tbl) (h0 : hs_AI o0 n0) (h1 : hs_AI o1 n1) (hn : ¬ n < 0 ∧ n.toNatClampNeg ≤ n0 ∧ n.toNatClampNeg ≤ n1)
    (hw : (st.map fun v => v.category).sum ≤ 8) (k : PW own cc nL Z pc' ls st (sA σ o1 (va_cpy (σ.1 o0) (σ.1 o1) 0 0 n.toNatClampNeg))) : PW own cc nL Z pc ls (.int n :: .int 0 :: .ref o1 :: .int 0 :: .ref o0 :: st) σ := by
  intro p l e s m args below meth c G H locs A C D L
  obtain ⟨hd, rfl⟩ := hd
  have hts := C.2.2.2.2.1
  refine va_copyi (sp := 0) (dp := 0) (ty := .int) (a := G.2.2.1 o1) (a0 := G.2.2.1 o0) (ws := hs_w G σ) C.1 C.2.1 (by rw [C.2.2.1, L.1]) C.2.2.2.1 (hts _ hm.1) (hts _ hm.2.1) (hts _ hm.2.2.1) (hts _ hm.2.2.2) C.2.2.2.2.2.2.1 D.1 (hs_dis C.2.2.2.2.2.2.2.1 C.2.2.2.2.2.2.2.2.1) D.2 o0 o1 0 0 (hs_atI h0) (hs_atI h1) rfl rfl rfl (by decide) (by decide) hn.1 ?_ ?_ (fun _ _ => rfl) hR.1 ?_ hd (fun H1 locs1 hP hD hS => ?_)
  · show (0 : Int32).toNatClampNeg + _ ≤ _
    have : (0 : Int32).toNatClampNeg = 0 := by decide
    omega
  · show (0 : Int32).toNatClampNeg + _ ≤ _
    have : (0 : Int32).toNatClampNeg = 0 := by decide
    omega
  · rw [hs_sum]
    have : nativeFrameWords "java/lang/System" "arraycopy" 5 = 7 := by decide +kernel
    have := hR.2
    omega
  · rw [show (0 : Int32).toNatClampNeg = 0 by decide, hs_setA h1] at hP
    exact k p l e s m args below meth c G H1 locs1 A C ⟨hP, hS⟩ L
theorem pw_ldcw {ix : Nat} {v : Int32} (hd : Dc cc pc (.ldc_w ix) 3 pc') (hc : Cond.constant own ix v ∈ hs_tbl) (k : PW own cc nL Z pc' ls (.int v :: st) σ) : PW own cc nL Z pc ls st σ := by
  intro p l e s m args below meth c G H locs A C D L
  obtain ⟨hd, rfl⟩ := hd
  exact lv_ldcw C.1 C.2.1 C.2.2.2.1 (C.2.2.2.2.1 _ hc) hd (k p l e s m args below meth c G H locs A C D L)
end PWd
