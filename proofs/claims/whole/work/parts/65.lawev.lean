/-- THE LAW as the reference's row has it: codes, what they tell, lines -/
def lwC (W : Nat → Int32) (i : Nat) : Nat := (W (524 + 2 * i)).toNatClampNeg
def lwV (W : Nat → Int32) (i : Nat) : Nat := (W (525 + 2 * i)).toNatClampNeg
def lwK (W : Nat → Int32) (l : Nat) : Nat := (W (476 + 4 * l)).toNatClampNeg
def lwA (W : Nat → Int32) (l : Nat) : Nat := (W (476 + 4 * l + 1)).toNatClampNeg
def lwB (W : Nat → Int32) (l : Nat) : Nat := (W (476 + 4 * l + 2)).toNatClampNeg
def lwE (W : Nat → Int32) (l : Nat) : Nat := (W (476 + 4 * l + 3)).toNatClampNeg
/-- what a code puts on the stack -/
def lwF (W : Nat → Int32) (s c v : Nat) : Int32 :=
  if c = 0 then nI s else if c = 1 then W (163 + 9 * s) else if c = 2 then W (163 + 9 * s + 1) else if c = 3 then W (163 + 9 * s + 2) else if c = 4 then W (163 + 9 * s + 3) else if c = 5 then W (163 + 9 * s + 4)
  else if c = 6 then W (163 + 9 * s + 6) else if c = 7 then W 3 - W 3 / 7 * 7 else if c = 8 then W (163 + 9 * s + 8) else if c = 9 then (if W (163 + 9 * s + 7) = W 3 - W 3 / 7 * 7 then 1 else 0) else nI v
def lwO (c : Nat) (a b : Int32) : Int32 := if c = 11 then a + b else if c = 12 then (if a < b then 1 else 0) else if c = 13 then (if b < a then 1 else 0) else if c = 15 then (if a + b = 2 then 1 else 0) else (if 0 < a + b then 1 else 0)
def lwB2 (c : Nat) : List Int32 → List Int32
  | b :: a :: r => lwO c a b :: r
  | _ => []
def lwSt (F : Nat → Nat → Int32) (c v : Nat) (l : List Int32) : List Int32 :=
  if c ≤ 10 then F c v :: l else if c = 14 then (match l with
    | a :: r => (1 - a) :: r
    | [] => []) else lwB2 c l
def lwEv (F : Nat → Nat → Int32) (C V : Nat → Nat) (i : Nat) : Nat → List Int32
  | 0 => []
  | j + 1 => lwSt F (C (i + j)) (V (i + j)) (lwEv F C V i j)
/-- the sorts of what stands on the stack: true: 0 or 1 -/
def tyS (c : Nat) (l : List Bool) : Option (List Bool) :=
  if c ≤ 10 then (if l.length < 32 then some (decide (c = 8 ∨ c = 9) :: l) else none) else if c = 14 then (match l with
    | true :: r => some (true :: r)
    | _ => none) else if c = 11 then (match l with
    | false :: false :: r => some (false :: r)
    | _ => none) else if c = 12 ∨ c = 13 then (match l with
    | false :: false :: r => some (true :: r)
    | _ => none) else if c = 15 ∨ c = 16 then (match l with
    | true :: true :: r => some (true :: r)
    | _ => none) else none
def tyEv (C : Nat → Nat) (i : Nat) : Nat → Option (List Bool)
  | 0 => some []
  | j + 1 => (tyEv C i j).bind (tyS (C (i + j)))
def tyV : List Bool → List Int32 → Prop
  | [], [] => True
  | b :: r, x :: t => (b = true → x = 0 ∨ x = 1) ∧ tyV r t
  | _, _ => False
theorem tyV_len : ∀ (a : List Bool) (b : List Int32), tyV a b → b.length = a.length
  | [], [], _ => rfl
  | _ :: r, _ :: t, h => by rw [List.length_cons, List.length_cons, tyV_len r t h.2]
theorem tyEv_pre {C : Nat → Nat} {i j : Nat} {l : List Bool} (h : tyEv C i (j + 1) = some l) : ∃ m, tyEv C i j = some m ∧ tyS (C (i + j)) m = some l := by
  unfold tyEv at h
  cases q : tyEv C i j with
  | none => rw [q] at h; cases h
  | some m => rw [q] at h; exact ⟨m, rfl, h⟩
theorem tyEv_le {C : Nat → Nat} {i : Nat} : ∀ (k j : Nat) (l : List Bool), tyEv C i (j + k) = some l → ∃ m, tyEv C i j = some m
  | 0, j, l, h => ⟨l, h⟩
  | k + 1, j, l, h => by
    obtain ⟨m, h1, -⟩ := tyEv_pre (j := j + k) h
    exact tyEv_le k j m h1
theorem tyEv_cong {C D : Nat → Nat} {i : Nat} : ∀ j, (∀ k, k < i + j → C k = D k) → tyEv C i j = tyEv D i j
  | 0, _ => rfl
  | j + 1, h => by
    unfold tyEv
    rw [tyEv_cong j (fun k hk => h k (by omega)), h (i + j) (by omega)]
theorem i_01 (x : Int32) (h : x = 0 ∨ x = 1) : 1 - x = 0 ∨ 1 - x = 1 := by
  rcases h with rfl | rfl
  · exact Or.inr (by decide)
  · exact Or.inl (by decide)
theorem i_ite01 (p : Prop) [Decidable p] : (if p then (1 : Int32) else 0) = 0 ∨ (if p then (1 : Int32) else 0) = 1 := by
  split
  · exact Or.inr rfl
  · exact Or.inl rfl
/-- one code: the values keep their sorts -/
theorem tyS_v {F : Nat → Nat → Int32} (hF : ∀ c v, c = 8 ∨ c = 9 → F c v = 0 ∨ F c v = 1) {c v : Nat} {m l : List Bool} {s : List Int32} (h : tyS c m = some l) (hv : tyV m s) : tyV l (lwSt F c v s) := by
  unfold tyS at h
  unfold lwSt
  by_cases c1 : c ≤ 10
  · rw [if_pos c1] at h ⊢
    split at h
    · simp only [Option.some.injEq] at h
      subst h
      exact ⟨fun q => hF c v (by simpa using q), hv⟩
    · cases h
  · rw [if_neg c1] at h ⊢
    by_cases c2 : c = 14
    · rw [if_pos c2] at h ⊢
      split at h
      · rename_i r
        simp only [Option.some.injEq] at h
        subst h
        cases s with
        | nil => exact hv.elim
        | cons a t => exact ⟨fun _ => i_01 a (hv.1 rfl), hv.2⟩
      · cases h
    · rw [if_neg c2] at h ⊢
      have two : ∀ x y z r, m = x :: y :: r → l = z :: r → (z = true → ∀ a b, lwO c a b = 0 ∨ lwO c a b = 1) → tyV l (lwB2 c s) := by
        intro x y z r e1 e2 e3
        subst e1; subst e2
        cases s with
        | nil => exact hv.elim
        | cons b t => cases t with
          | nil => exact hv.2.elim
          | cons a t => exact ⟨fun q => e3 q a b, hv.2.2⟩
      by_cases c3 : c = 11
      · rw [if_pos c3] at h
        split at h
        · simp only [Option.some.injEq] at h
          exact two _ _ _ _ rfl h.symm (fun q => by cases q)
        · cases h
      · rw [if_neg c3] at h
        have ob : ∀ a b, lwO c a b = 0 ∨ lwO c a b = 1 := fun a b => by
          unfold lwO
          rw [if_neg c3]
          split
          · exact i_ite01 _
          · split
            · exact i_ite01 _
            · split
              · exact i_ite01 _
              · exact i_ite01 _
        by_cases c4 : c = 12 ∨ c = 13
        · rw [if_pos c4] at h
          split at h
          · simp only [Option.some.injEq] at h
            exact two _ _ _ _ rfl h.symm (fun _ => ob)
          · cases h
        · rw [if_neg c4] at h
          by_cases c5 : c = 15 ∨ c = 16
          · rw [if_pos c5] at h
            split at h
            · simp only [Option.some.injEq] at h
              exact two _ _ _ _ rfl h.symm (fun _ => ob)
            · cases h
          · rw [if_neg c5] at h; cases h
theorem tyEv_v {F : Nat → Nat → Int32} (hF : ∀ c v, c = 8 ∨ c = 9 → F c v = 0 ∨ F c v = 1) {C V : Nat → Nat} {i : Nat} : ∀ (j : Nat) (l : List Bool), tyEv C i j = some l → tyV l (lwEv F C V i j)
  | 0, l, h => by
    have : l = [] := by unfold tyEv at h; simpa using h.symm
    subst this
    trivial
  | j + 1, l, h => by
    obtain ⟨m, h1, h2⟩ := tyEv_pre h
    exact tyS_v hF h2 (tyEv_v hF j m h1)
theorem tyS_len {c : Nat} {m l : List Bool} (h : tyS c m = some l) (hm : m.length ≤ 32) : l.length ≤ 32 := by
  unfold tyS at h
  split at h
  · split at h
    · simp only [Option.some.injEq] at h; subst h; simp only [List.length_cons]; omega
    · cases h
  · split at h
    · split at h
      · simp only [Option.some.injEq] at h; subst h; exact hm
      · cases h
    · split at h
      · split at h
        · simp only [Option.some.injEq] at h; subst h; simp only [List.length_cons] at hm ⊢; omega
        · cases h
      · split at h
        · split at h
          · simp only [Option.some.injEq] at h; subst h; simp only [List.length_cons] at hm ⊢; omega
          · cases h
        · split at h
          · split at h
            · simp only [Option.some.injEq] at h; subst h; simp only [List.length_cons] at hm ⊢; omega
            · cases h
          · cases h
theorem tyEv_len {C : Nat → Nat} {i : Nat} : ∀ (j : Nat) (l : List Bool), tyEv C i j = some l → l.length ≤ 32
  | 0, l, h => by
    have : l = [] := by unfold tyEv at h; simpa using h.symm
    subst this
    exact Nat.zero_le _
  | j + 1, l, h => by
    obtain ⟨m, h1, h2⟩ := tyEv_pre h
    exact tyS_len h2 (tyEv_len j m h1)
/-- the stack's row holds a list, the last at 0 -/
def zStk (S : Nat → Int32) : List Int32 → Prop
  | [] => True
  | x :: r => S r.length = x ∧ zStk S r
theorem zStk_up {S : Nat → Int32} {j : Nat} {v : Int32} : ∀ l, l.length ≤ j → zStk S l → zStk (upd S j v) l
  | [], _, _ => trivial
  | x :: r, h, hs => by
    rw [List.length_cons] at h
    exact ⟨by rw [upd_ne _ _ (by omega)]; exact hs.1, zStk_up r (by omega) hs.2⟩
theorem zStk_cong {S T : Nat → Int32} : ∀ l, (∀ i, i < l.length → T i = S i) → zStk S l → zStk T l
  | [], _, _ => trivial
  | x :: r, h, hs => by
    rw [List.length_cons] at h
    exact ⟨(h r.length (by omega)).trans hs.1, zStk_cong r (fun i hi => h i (by omega)) hs.2⟩
def lwHold (F : Nat → Nat → Int32) (C V : Nat → Nat) (b e : Nat) : Bool := match lwEv F C V b (e - b) with
  | [] => true
  | x :: _ => decide (x = 1)
/-- the sum of the lines of a kind that hold, of the first so many -/
def lwSum (W : Nat → Int32) (kd s : Nat) (x : Int32) : Nat → Int32
  | 0 => x
  | l + 1 => if lwK W l = kd ∧ lwHold (lwF W s) (lwC W) (lwV W) (lwB W l) (lwE W l) = true then lwSum W kd s x l + nI (lwA W l) else lwSum W kd s x l
def lwBase (W : Nat → Int32) (kd : Nat) : Int32 := if kd = 0 then W 7 else if kd = 1 then W 8 else 0
/-- what a STEP pecks (0), breaks (1), sours (2) by -/
def lwBy (W : Nat → Int32) (kd s : Nat) : Int32 := if W 2 = 1 then lwSum W kd s (lwBase W kd) (W 475).toNatClampNeg else lwBase W kd
/-- the text of the law is a right one: L lines, S codes -/
def lwOk (W : Nat → Int32) (L S : Nat) : Prop := L ≤ 12 ∧ S ≤ 400 ∧ W 475 = nI L ∧ (∀ i, i < S → W (524 + 2 * i) = nI (lwC W i) ∧ lwC W i ≤ 16 ∧ W (525 + 2 * i) = nI (lwV W i) ∧ lwV W i ≤ 999) ∧
  ∀ l, l < L → (W (476 + 4 * l) = nI (lwK W l) ∧ lwK W l ≤ 2) ∧ (W (476 + 4 * l + 1) = nI (lwA W l) ∧ lwA W l ≤ 100) ∧ W (476 + 4 * l + 2) = nI (lwB W l) ∧ W (476 + 4 * l + 3) = nI (lwE W l) ∧ lwB W l ≤ lwE W l ∧ lwE W l ≤ S ∧ (lwE W l = lwB W l ∨ tyEv (lwC W) (lwB W l) (lwE W l - lwB W l) = some [true])
def lwWf (W : Nat → Int32) : Prop := W 2 = 1 → ∃ L S, lwOk W L S
/-- the class's code for the reference's -/
def lwD (c v : Nat) : Int32 := if c = 10 then nI v else [-8, -10, -11, -12, -13, -14, -16, -9, -18, -7, 0, -6, -4, -5, -3, -2, -1].getD c 0
/-- the class's LAW at k is the reference's -/
def lwRel (u : zM) (k : Nat) (W : Nat → Int32) : Prop := (¬ W 2 = 1 → u k 6 = -1) ∧ (W 2 = 1 → ∃ L S, lwOk W L S ∧ u k 6 = nI L ∧ (∀ i, i < S → u (k + 5) i = lwD (lwC W i) (lwV W i)) ∧
  ∀ l, l < L → u (k + 1) l = nI (lwK W l + 9) ∧ u (k + 2) l = nI (lwA W l) ∧ u (k + 3) l = nI (lwB W l) ∧ u (k + 4) l = nI (lwE W l))
