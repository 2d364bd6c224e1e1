/-! A picture of the heap: cells by fixed places; ints, longs and the two references that change in three functions of place and index. -/
abbrev Mem : Type := (Nat → Nat → Int32) × (Nat → Nat → Int64) × (Nat → Nat → Nat)
def gI (μ : Mem) (p k : Nat) : Int32 := μ.1 p k
def gL (μ : Mem) (p k : Nat) : Int64 := μ.2.1 p k
def gR (μ : Mem) (p k : Nat) : Nat := μ.2.2 p k
def sI (μ : Mem) (p k : Nat) (v : Int32) : Mem := (fun a b => if a = p ∧ b = k then v else μ.1 a b, μ.2.1, μ.2.2)
def sL (μ : Mem) (p k : Nat) (v : Int64) : Mem := (μ.1, fun a b => if a = p ∧ b = k then v else μ.2.1 a b, μ.2.2)
def sR (μ : Mem) (p k : Nat) (v : Nat) : Mem := (μ.1, μ.2.1, fun a b => if a = p ∧ b = k then v else μ.2.2 a b)
/-- an index within a row, as the machine asks -/
def inb (i : Int32) (n : Nat) : Bool := decide (¬ (i < 0 ∨ n ≤ i.toNatClampNeg))
abbrev tn (i : Int32) : Nat := i.toNatClampNeg
def ck {α : Type} (b : Bool) (o : Option α) : Option α := match b with
  | true => o
  | false => none
def lt' {α β : Sort _} (a : α) (f : α → β) : β := f a
def isb (v : Int32) : Bool := decide (v = 0 ∨ v = 1)
theorem inb_in {i : Int32} {n : Nat} (h : inb i n = true) : vp_in i n := by
  unfold vp_in
  exact of_decide_eq_true h
theorem ck_some {α : Type} {b : Bool} {o : Option α} {a : α} (h : ck b o = some a) : b = true ∧ o = some a := by
  cases b with
  | true => exact ⟨rfl, h⟩
  | false => exact absurd h (by simp [ck])
-- shapes: a row (how many, which kind), or an object (class, kinds of its fields: 0 an int, 1 a long, 2 a reference that changes, n + 3 the place n)
abbrev Shp : Type := (Nat × Nat) ⊕ (Nat × List Nat)
def fv (ad : Nat → Nat) (μ : Mem) (p k : Nat) : Nat → Value
  | 0 => .int (μ.1 p k)
  | 1 => .long (μ.2.1 p k)
  | 2 => .ref (ad (μ.2.2 p k))
  | n + 3 => .ref (ad n)
def cellOf (ad : Nat → Nat) (kA : Nat → ClassId) (μ : Mem) (p : Nat) : Shp → va_E
  | .inl (n, 0) => .inl (kA 0, n, .inl (μ.1 p))
  | .inl (n, 1) => .inl (kA 1, n, .inr (.inl (μ.2.1 p)))
  | .inl (n, 2) => .inl (kA 2, n, .inl (μ.1 p))
  | .inl (n, 3) => .inl (kA 3, n, .inl (μ.1 p))
  | .inl (n, _) => .inl (kA 4, n, .inr (.inr (.inr (.inr (fun i => some (ad (2 + 3 * i)))))))
  | .inr (ci, ks) => .inr (ci, ks.mapIdx (fun k t => fv ad μ p k t))
def wl (sh : List Shp) (ad : Nat → Nat) (kA : Nat → ClassId) (μ : Mem) : va_W := sh.mapIdx (fun p x => (ad p, cellOf ad kA μ p x))
theorem wl_get {sh : List Shp} {ad : Nat → Nat} {kA : Nat → ClassId} {μ : Mem} {p : Nat} {x : Shp} (h : sh[p]? = some x) : (wl sh ad kA μ)[p]? = some (ad p, cellOf ad kA μ p x) := by
  unfold wl
  rw [List.getElem?_mapIdx, h]
  rfl
theorem cellOf_cong {ad : Nat → Nat} {kA : Nat → ClassId} {μ ν : Mem} {p : Nat} (h1 : μ.1 p = ν.1 p) (h2 : μ.2.1 p = ν.2.1 p) (h3 : μ.2.2 p = ν.2.2 p) (x : Shp) : cellOf ad kA μ p x = cellOf ad kA ν p x := by
  rcases x with ⟨n, t⟩ | ⟨ci, ks⟩
  · match t with
    | 0 => simp [cellOf, h1]
    | 1 => simp [cellOf, h2]
    | 2 => simp [cellOf, h1]
    | 3 => simp [cellOf, h1]
    | t + 4 => simp [cellOf]
  · simp only [cellOf]
    congr 2
    have e : (fun k t => fv ad μ p k t) = (fun k t => fv ad ν p k t) := by
      funext k t
      match t with
      | 0 => simp [fv, h1]
      | 1 => simp [fv, h2]
      | 2 => simp [fv, h3]
      | t + 3 => simp [fv]
    rw [e]
theorem wl_set {sh : List Shp} {ad : Nat → Nat} {kA : Nat → ClassId} {μ ν : Mem} {p : Nat} {x : Shp} {e : va_E} (h : sh[p]? = some x) (h1 : ∀ q, q ≠ p → μ.1 q = ν.1 q) (h2 : ∀ q, q ≠ p → μ.2.1 q = ν.2.1 q) (h3 : ∀ q, q ≠ p → μ.2.2 q = ν.2.2 q) (he : cellOf ad kA ν p x = e) : (wl sh ad kA μ).set p (ad p, e) = wl sh ad kA ν := by
  apply List.ext_getElem?
  intro j
  have hl : p < (wl sh ad kA μ).length := by
    have := (List.getElem?_eq_some_iff.mp (wl_get (ad := ad) (kA := kA) (μ := μ) h)).1
    exact this
  by_cases hj : j = p
  · subst hj
    rw [List.getElem?_set_self hl, wl_get h, he]
  · rw [List.getElem?_set_ne (Ne.symm hj)]
    unfold wl
    rw [List.getElem?_mapIdx, List.getElem?_mapIdx]
    cases hs : sh[j]? with
    | none => rfl
    | some y =>
      simp only [Option.map_some]
      rw [cellOf_cong (h1 j hj) (h2 j hj) (h3 j hj) y]
theorem sI_at {μ : Mem} {p k : Nat} {v : Int32} : (sI μ p k v).1 p = upd (μ.1 p) k v := by
  funext b
  simp [sI, upd]
theorem sL_at {μ : Mem} {p k : Nat} {v : Int64} : (sL μ p k v).2.1 p = vp_updL (μ.2.1 p) k v := by
  funext b
  simp [sL, vp_updL]
theorem sI_off {μ : Mem} {p k q : Nat} {v : Int32} (h : q ≠ p) : μ.1 q = (sI μ p k v).1 q := by
  funext b
  simp [sI, h]
theorem sL_off {μ : Mem} {p k q : Nat} {v : Int64} (h : q ≠ p) : μ.2.1 q = (sL μ p k v).2.1 q := by
  funext b
  simp [sL, h]
theorem sR_off {μ : Mem} {p k q : Nat} {v : Nat} (h : q ≠ p) : μ.2.2 q = (sR μ p k v).2.2 q := by
  funext b
  simp [sR, h]
theorem wl_fldI {sh : List Shp} {ad : Nat → Nat} {kA : Nat → ClassId} {μ : Mem} {p k : Nat} {v : Int32} {ci : Nat} {ks : List Nat} (h : sh[p]? = some (.inr (ci, ks))) (hk : ks[k]? = some 0) : (wl sh ad kA μ).set p (ad p, .inr (ci, (ks.mapIdx (fun k t => fv ad μ p k t)).set k (.int v))) = wl sh ad kA (sI μ p k v) := by
  refine wl_set h (fun q hq => sI_off hq) (fun q hq => rfl) (fun q hq => rfl) ?_
  simp only [cellOf]
  congr 2
  apply List.ext_getElem?
  intro j
  have hl : k < (ks.mapIdx (fun k t => fv ad μ p k t)).length := by simpa using (List.getElem?_eq_some_iff.mp hk).1
  by_cases hj : j = k
  · subst hj
    rw [List.getElem?_set_self hl, List.getElem?_mapIdx, hk]
    simp [fv, sI]
  · rw [List.getElem?_set_ne (Ne.symm hj), List.getElem?_mapIdx, List.getElem?_mapIdx]
    cases hs : ks[j]? with
    | none => rfl
    | some t =>
      simp only [Option.map_some]
      match t with
      | 0 => simp [fv, sI, hj]
      | 1 => simp [fv, sI]
      | 2 => simp [fv, sI]
      | t + 3 => simp [fv]
theorem wl_fldL {sh : List Shp} {ad : Nat → Nat} {kA : Nat → ClassId} {μ : Mem} {p k : Nat} {v : Int64} {ci : Nat} {ks : List Nat} (h : sh[p]? = some (.inr (ci, ks))) (hk : ks[k]? = some 1) : (wl sh ad kA μ).set p (ad p, .inr (ci, (ks.mapIdx (fun k t => fv ad μ p k t)).set k (.long v))) = wl sh ad kA (sL μ p k v) := by
  refine wl_set h (fun q hq => rfl) (fun q hq => sL_off hq) (fun q hq => rfl) ?_
  simp only [cellOf]
  congr 2
  apply List.ext_getElem?
  intro j
  have hl : k < (ks.mapIdx (fun k t => fv ad μ p k t)).length := by simpa using (List.getElem?_eq_some_iff.mp hk).1
  by_cases hj : j = k
  · subst hj
    rw [List.getElem?_set_self hl, List.getElem?_mapIdx, hk]
    simp [fv, sL]
  · rw [List.getElem?_set_ne (Ne.symm hj), List.getElem?_mapIdx, List.getElem?_mapIdx]
    cases hs : ks[j]? with
    | none => rfl
    | some t =>
      simp only [Option.map_some]
      match t with
      | 0 => simp [fv, sL]
      | 1 => simp [fv, sL, hj]
      | 2 => simp [fv, sL]
      | t + 3 => simp [fv]
theorem wl_fldR {sh : List Shp} {ad : Nat → Nat} {kA : Nat → ClassId} {μ : Mem} {p k v : Nat} {ci : Nat} {ks : List Nat} (h : sh[p]? = some (.inr (ci, ks))) (hk : ks[k]? = some 2) : (wl sh ad kA μ).set p (ad p, .inr (ci, (ks.mapIdx (fun k t => fv ad μ p k t)).set k (.ref (ad v)))) = wl sh ad kA (sR μ p k v) := by
  refine wl_set h (fun q hq => rfl) (fun q hq => rfl) (fun q hq => sR_off hq) ?_
  simp only [cellOf]
  congr 2
  apply List.ext_getElem?
  intro j
  have hl : k < (ks.mapIdx (fun k t => fv ad μ p k t)).length := by simpa using (List.getElem?_eq_some_iff.mp hk).1
  by_cases hj : j = k
  · subst hj
    rw [List.getElem?_set_self hl, List.getElem?_mapIdx, hk]
    simp [fv, sR]
  · rw [List.getElem?_set_ne (Ne.symm hj), List.getElem?_mapIdx, List.getElem?_mapIdx]
    cases hs : ks[j]? with
    | none => rfl
    | some t =>
      simp only [Option.map_some]
      match t with
      | 0 => simp [fv, sR]
      | 1 => simp [fv, sR]
      | 2 => simp [fv, sR, hj]
      | t + 3 => simp [fv]
theorem wl_arrI {sh : List Shp} {ad : Nat → Nat} {kA : Nat → ClassId} {μ : Mem} {p k n t : Nat} {v : Int32} (h : sh[p]? = some (.inl (n, t))) (ht : t = 0 ∨ t = 2 ∨ t = 3) : (wl sh ad kA μ).set p (ad p, .inl (kA t, n, .inl (upd (μ.1 p) k v))) = wl sh ad kA (sI μ p k v) := by
  refine wl_set h (fun q hq => sI_off hq) (fun q hq => rfl) (fun q hq => rfl) ?_
  rcases ht with rfl | rfl | rfl <;> simp only [cellOf, sI_at]
theorem wl_arrL {sh : List Shp} {ad : Nat → Nat} {kA : Nat → ClassId} {μ : Mem} {p k n : Nat} {v : Int64} (h : sh[p]? = some (.inl (n, 1))) : (wl sh ad kA μ).set p (ad p, .inl (kA 1, n, .inr (.inl (vp_updL (μ.2.1 p) k v)))) = wl sh ad kA (sL μ p k v) := by
  refine wl_set h (fun q hq => rfl) (fun q hq => sL_off hq) (fun q hq => rfl) ?_
  simp only [cellOf, sL_at]
theorem wl_D {sh : List Shp} {ad : Nat → Nat} {kA : Nat → ClassId} {A : Nat → Prop} (μ ν : Mem) (h : va_D A (wl sh ad kA μ)) : va_D A (wl sh ad kA ν) := by
  have key : ∀ (k : Nat) (q : Nat × va_E), (wl sh ad kA ν)[k]? = some q → ∃ q', (wl sh ad kA μ)[k]? = some q' ∧ q'.1 = q.1 := by
    intro k q hk
    unfold wl at hk ⊢
    rw [List.getElem?_mapIdx] at hk ⊢
    cases hs : sh[k]? with
    | none => rw [hs] at hk; cases hk
    | some x =>
      rw [hs] at hk
      simp only [Option.map_some] at hk ⊢
      cases hk
      exact ⟨_, rfl, rfl⟩
  refine ⟨fun i j x y hi hj hxy => ?_, fun k q hk => ?_⟩
  · obtain ⟨x', h1, e1⟩ := key i x hi
    obtain ⟨y', h2, e2⟩ := key j y hj
    exact h.1 i j x' y' h1 h2 (by rw [e1, e2]; exact hxy)
  · obtain ⟨q', h1, e1⟩ := key k q hk
    rw [← e1]
    exact h.2 k q' h1
