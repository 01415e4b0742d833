/-! THE WORLD: the cells of the pure memory in the machine's heap -/
abbrev zE : Type := va_G × (Nat → ClassId) × (Nat → Nat) × Nat
def zAd (E : zE) : Nat → Nat := E.2.2.1
def zA (E : zE) : Nat → Prop := fun q => E.2.2.2 ≤ q
def zTys (E : zE) : List (ClassId × FieldType) := [(E.2.1 0, .int), (E.2.1 1, .byte), (E.2.1 2, .long), (E.2.1 3, .object "MilkDays$Days")]
def zFl (ad : Nat → Nat) (r : Nat → Int32) (k : Nat) : Nat → List (Option Nat) → List Value
  | _, [] => []
  | j, none :: t => .int (r j) :: zFl ad r k (j + 1) t
  | j, some o :: t => .ref (ad (k + o)) :: zFl ad r k (j + 1) t
def zCont (E : zE) (r : Nat → Int32) (k : Nat) : va_E := match zShapes[k]? with
  | some (.inl ci) => .inr (ci, zFl (zAd E) r k 0 (zFk ci))
  | some (.inr (0, n)) => .inl (E.2.1 0, (n, .inl r))
  | some (.inr (1, n)) => .inl (E.2.1 1, (n, .inl r))
  | some (.inr (2, n)) => .inl (E.2.1 2, (n, .inr (.inl (fun j => (r j).toInt64))))
  | some (.inr (_, n)) => .inl (E.2.1 3, (n, .inr (.inr (.inr (.inr (fun i => some (zAd E (k + 1 + 5 * i))))))))
  | none => .inr (0, [])
def zWs (E : zE) (u : zM) : va_W := (List.range 143).map fun k => (zAd E k, zCont E (u k) k)
def zH (E : zE) (u : zM) (H : Heap) : Prop := va_P E.1 vwCl (zWs E u) H ∧ va_D (zA E) (zWs E u) ∧ E.2.2.2 ≤ H.size
def zB (E : zE) (u : zM) (U : State) : Prop := va_K E.1 vwCl (zTys E) U ∧ zH E u U.heap
def zCv (ad : Nat → Nat) : Value → Value
  | .ref k => .ref (ad k)
  | v => v
def zCl (ad : Nat → Nat) (ls : zLs) : zLs := ls.map fun q => (q.1, zCv ad q.2)
def zRet (v : Option Value) : Prop := v = none ∨ ∃ r, v = some (.int r)
def zQ (E : zE) (Q : Option Value → zM → Prop) : Array Value → State → Outcome → State → Prop := fun _ st oc t => (∃ (v : Option Value) (u : zM), oc = .returned v ∧ zRet v ∧ Q v u ∧ zB E u t) ∧ va_F (zA E) st t
theorem zShapes_len : zShapes.length = 143 := by decide +kernel
theorem zSh_lt {x : Nat} {y : zSh} (h : zShapes[x]? = some y) : x < 143 := by
  have := (List.getElem?_eq_some_iff.mp h).1
  rw [zShapes_len] at this
  exact this
theorem zWs_at (E : zE) (u : zM) {k : Nat} (hk : k < 143) : (zWs E u)[k]? = some (zAd E k, zCont E (u k) k) := by
  simp only [zWs, List.getElem?_map, List.getElem?_range hk, Option.map_some]
theorem zWs_up (E : zE) (u : zM) {k : Nat} (hk : k < 143) (f : Nat → Int32) : (zWs E u).set k (zAd E k, zCont E f k) = zWs E (zRow u k f) := by
  apply List.ext_getElem?
  intro i
  rcases Nat.lt_or_ge i 143 with hi | hi
  · rw [zWs_at E _ hi]
    by_cases h : i = k
    · subst h
      rw [List.getElem?_set_self (by simp [zWs]; exact hk), zRow_self]
    · rw [List.getElem?_set_ne (Ne.symm h), zWs_at E u hi, zRow_ne u f h]
  · rw [List.getElem?_eq_none (by simp [zWs]; exact hi), List.getElem?_eq_none (by simp [zWs]; exact hi)]
theorem zFl_at (ad : Nat → Nat) (r : Nat → Int32) (k : Nat) (l : List (Option Nat)) : ∀ (i j : Nat), (zFl ad r k i l)[j]? = (l[j]?).map (fun o => match o with
    | none => .int (r (i + j))
    | some o => .ref (ad (k + o))) := by
  induction l with
  | nil => intro i j; simp [zFl]
  | cons a t ih =>
    intro i j
    cases j with
    | zero => cases a <;> simp [zFl]
    | succ j =>
      have e : i + 1 + j = i + (j + 1) := by omega
      cases a <;> simp [zFl, ih, e]
theorem zFl_len (ad : Nat → Nat) (r : Nat → Int32) (k : Nat) (l : List (Option Nat)) : ∀ i : Nat, (zFl ad r k i l).length = l.length := by
  induction l with
  | nil => intro i; rfl
  | cons a t ih => intro i; cases a <;> simp [zFl, ih]
theorem zFl_set (ad : Nat → Nat) (r : Nat → Int32) (k : Nat) (l : List (Option Nat)) {j : Nat} (h : l[j]? = some none) (v : Int32) : (zFl ad r k 0 l).set j (.int v) = zFl ad (upd r j v) k 0 l := by
  have hj := (List.getElem?_eq_some_iff.mp h).1
  apply List.ext_getElem?
  intro i
  by_cases hi : i = j
  · subst hi
    rw [List.getElem?_set_self (by rw [zFl_len]; exact hj), zFl_at, h]
    simp [upd]
  · rw [List.getElem?_set_ne (Ne.symm hi), zFl_at, zFl_at]
    congr 1
    funext o
    cases o
    · simp [upd, hi]
    · rfl
theorem zCv_cat (ad : Nat → Nat) (v : Value) : (zCv ad v).category = v.category := by cases v <;> rfl
theorem zCl_lk {ad : Nat → Nat} {ls : zLs} {i : Nat} {v : Value} {L : Array Slot} {n : Nat} (hl : lv_has L n (zCl ad ls)) (h : zLk ls i = some v) : L[i]? = some (.val (zCv ad v)) := by
  refine hl.2.2 (i, zCv ad v) ?_
  clear hl
  induction ls with
  | nil => simp [zLk] at h
  | cons a t ih =>
    obtain ⟨j, w⟩ := a
    unfold zLk at h
    by_cases hj : Nat.beq j i = true
    · rw [hj] at h
      have e := Nat.eq_of_beq_eq_true hj
      simp only [Option.some.injEq] at h
      subst e; subst h
      exact List.mem_cons_self
    · have hj2 : Nat.beq j i = false := Bool.eq_false_iff.mpr hj
      rw [hj2] at h
      exact List.mem_cons_of_mem _ (ih h)
theorem zCl_set (ad : Nat → Nat) (ls : zLs) (i : Nat) (v : Value) : (i, zCv ad v) :: (zCl ad ls).filter (fun q => !(q.1 == i) && !(q.1 + 1 == i && q.2.category == 2)) = zCl ad (zSet ls i v) := by
  simp only [zCl, zSet, List.map_cons, List.filter_map]
  congr 2
  apply List.filter_congr
  intro q _
  simp [Function.comp, zCv_cat]
section ZU
variable {s : State} {E : zE}
theorem zHup {u : zM} {H1 : Heap} {k : Nat} {f : Nat → Int32} (hk : k < 143) (hS : E.2.2.2 ≤ H1.size) (hP : va_P E.1 vwCl ((zWs E u).set k (zAd E k, zCont E f k)) H1) (hD : va_D (zA E) ((zWs E u).set k (zAd E k, zCont E f k))) : zH E (zRow u k f) H1 := by
  rw [zWs_up E u hk] at hP hD
  exact ⟨hP, hD, hS⟩
theorem zCont_o {u : Nat → Int32} {x a : Nat} (h : zShapes[x]? = some (.inl a)) : zCont E u x = .inr (a, zFl (zAd E) u x 0 (zFk a)) := by simp only [zCont, h]
theorem zCont_0 {u : Nat → Int32} {x n : Nat} (h : zShapes[x]? = some (.inr (0, n))) : zCont E u x = .inl (E.2.1 0, (n, .inl u)) := by simp only [zCont, h]
theorem zCont_1 {u : Nat → Int32} {x n : Nat} (h : zShapes[x]? = some (.inr (1, n))) : zCont E u x = .inl (E.2.1 1, (n, .inl u)) := by simp only [zCont, h]
theorem zCont_2 {u : Nat → Int32} {x n : Nat} (h : zShapes[x]? = some (.inr (2, n))) : zCont E u x = .inl (E.2.1 2, (n, .inr (.inl (fun j => (u j).toInt64)))) := by simp only [zCont, h]
theorem zCont_3 {u : Nat → Int32} {x n : Nat} (h : zShapes[x]? = some (.inr (3, n))) : zCont E u x = .inl (E.2.1 3, (n, .inr (.inr (.inr (.inr (fun i => some (zAd E (x + 1 + 5 * i)))))))) := by simp only [zCont, h]
end ZU
