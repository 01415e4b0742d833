/-! a line of THE LAW, as numbers -/
abbrev lpL : Type := Nat × lpE × (Nat → Nat) × (Nat → Nat) × (Nat → Nat) × (Nat → Nat)
def nUp (f : Nat → Nat) (n v : Nat) : Nat → Nat := fun j => if j = n then v else f j
theorem nUp_at (f : Nat → Nat) (n v : Nat) : nUp f n v n = v := by unfold nUp; rw [if_pos rfl]
theorem nUp_ne (f : Nat → Nat) {n j : Nat} (v : Nat) (h : j ≠ n) : nUp f n v j = f j := by unfold nUp; rw [if_neg h]
def lkW (B : Nat → Nat) (L a : Nat) : Option Nat := if isW B L 2016 a = true then some 0 else if isW B L 2017 a = true then some 1 else if isW B L 2018 a = true then some 2 else none
/-- what stands behind the number -/
def liF (B : Nat → Nat) (L a : Nat) (e : lpE) : lpR := if isW B L 2019 a = true then lpAny B L 6 (nxB B L a) e else .inr (a, e)
def lnE (x : lpL) (kd v : Nat) (e : lpE) : lpL := (x.1 + 1, e, nUp x.2.2.1 x.1 kd, nUp x.2.2.2.1 x.1 v, nUp x.2.2.2.2.1 x.1 x.2.1.1, nUp x.2.2.2.2.2 x.1 e.1)
def lnR (x : lpL) (kd v : Nat) (r : lpR) : (Nat ⊕ Nat) × lpL := match r with
  | .inl f => (.inl f, x)
  | .inr s => (.inr s.1, lnE x kd v s.2)
def lnK (B : Nat → Nat) (L a : Nat) (x : lpL) (kd : Nat) : (Nat ⊕ Nat) × lpL := if nuK B L 0 100 1000 a = true then lnR x kd (nuV B L a) (liF B L (nxB B L a) x.2.1) else (.inl a, x)
def lnS (B : Nat → Nat) (L : Nat) (s : (Nat ⊕ Nat) × lpL) : (Nat ⊕ Nat) × lpL := match s.1 with
  | .inl f => (.inl f, s.2)
  | .inr a => match lkW B L a with
    | none => (.inl a, s.2)
    | some kd => lnK B L (nxB B L a) s.2 kd
/-- a right text of THE LAW so far -/
def lnO (x : lpL) (a : Nat) : Prop := x.2.1.1 < a + 1 ∧ (∀ i, i < x.2.1.1 → x.2.1.2.1 i ≤ 16 ∧ x.2.1.2.2 i ≤ 999) ∧ ∀ l, l < x.1 → x.2.2.1 l ≤ 2 ∧ x.2.2.2.1 l ≤ 100 ∧ x.2.2.2.2.1 l ≤ x.2.2.2.2.2 l ∧ x.2.2.2.2.2 l ≤ x.2.1.1 ∧ (x.2.2.2.2.2 l = x.2.2.2.2.1 l ∨ tyEv x.2.1.2.1 (x.2.2.2.2.1 l) (x.2.2.2.2.2 l - x.2.2.2.2.1 l) = some [true])
theorem lkW_b {B : Nat → Nat} {L a kd : Nat} (h : lkW B L a = some kd) : kd ≤ 2 ∧ ∃ k, zLtw k = true ∧ isW B L k a = true := by
  unfold lkW at h
  split at h
  · rename_i q; cases h; exact ⟨by decide, 2016, by decide +kernel, q⟩
  · split at h
    · rename_i q; cases h; exact ⟨by decide, 2017, by decide +kernel, q⟩
    · split at h
      · rename_i q; cases h; exact ⟨by decide, 2018, by decide +kernel, q⟩
      · cases h
/-- what a line's end leaves of the codes -/
def liG (B : Nat → Nat) (L a : Nat) (e : lpE) (a2 : Nat) (e2 : lpE) : Prop := a ≤ a2 ∧ a2 ≤ L ∧ skB B L a2 = a2 ∧ e2.1 + a ≤ e.1 + a2 ∧ e.1 ≤ e2.1 ∧ (∀ i, i < e.1 → e2.2.1 i = e.2.1 i ∧ e2.2.2 i = e.2.2 i) ∧ (∀ i, e.1 ≤ i → i < e2.1 → e2.2.1 i ≤ 16 ∧ e2.2.2 i ≤ 999) ∧ (e2.1 = e.1 ∨ tyEv e2.2.1 e.1 (e2.1 - e.1) = some [true])
theorem liF_g {B : Nat → Nat} {L a a2 : Nat} {e e2 : lpE} (ha : a ≤ L) (hs : skB B L a = a) (h : liF B L a e = .inr (a2, e2)) : liG B L a e a2 e2 := by
  unfold liF at h
  by_cases q : isW B L 2019 a = true
  · rw [if_pos q] at h
    have n0 := nxB_le (B := B) ha
    obtain ⟨p1, p2, p3, p4, p5, p6, p7, p8⟩ := lpAny_g B L 6 _ _ _ _ n0.2 h
    refine ⟨by omega, p2, p3, by omega, p5, p6, p7, Or.inr (p8 e.1 [] (Nat.le_refl _) ?_ (by decide))⟩
    rw [Nat.sub_self]; rfl
  · rw [if_neg q] at h
    obtain ⟨rfl, rfl⟩ := Prod.mk.inj (Sum.inr.inj h)
    exact ⟨Nat.le_refl _, ha, hs, Nat.le_refl _, Nat.le_refl _, fun i _ => ⟨rfl, rfl⟩, fun i h1 h2 => absurd h2 (by omega), Or.inl rfl⟩
theorem lnK_ok {B : Nat → Nat} {L a kd c : Nat} {x : lpL} (ha : a ≤ L) (hx : lnO x a) (hk : kd ≤ 2) (h : (lnK B L a x kd).1 = .inr c) : (lnK B L a x kd).2.1 = x.1 + 1 ∧ lnO (lnK B L a x kd).2 c := by
  unfold lnK at h ⊢
  cases q : nuK B L 0 100 1000 a
  · rw [q, if_neg (by decide)] at h; cases h
  · rw [q, if_pos rfl] at h
    rw [if_pos rfl]
    have kk := of_decide_eq_true q
    have n0 := nxB_le (B := B) ha
    have n1 := nxB_lt (B := B) kk.1
    have hs : skB B L (nxB B L a) = nxB B L a := skB_idem (teB_le (B := B) ha).2
    cases z : liF B L (nxB B L a) x.2.1 with
    | inl f => rw [z] at h; cases h
    | inr s =>
      obtain ⟨a2, e2⟩ := s
      rw [z] at h
      have h : (Sum.inr a2 : Nat ⊕ Nat) = .inr c := h
      obtain rfl : a2 = c := Sum.inr.inj h
      obtain ⟨p1, p2, p3, p4, p5, p6, p7, p8⟩ := liF_g n0.2 hs z
      obtain ⟨o1, o2, o3⟩ := hx
      refine ⟨rfl, ?_, fun i hi => ?_, fun l hl => ?_⟩
      · show e2.1 < a2 + 1; omega
      · have hi : i < e2.1 := hi
        show e2.2.1 i ≤ 16 ∧ e2.2.2 i ≤ 999
        by_cases y : i < x.2.1.1
        · rw [(p6 i y).1, (p6 i y).2]; exact o2 i y
        · exact p7 i (by omega) hi
      · have hl : l < x.1 + 1 := hl
        show nUp x.2.2.1 x.1 kd l ≤ 2 ∧ nUp x.2.2.2.1 x.1 (nuV B L a) l ≤ 100 ∧ nUp x.2.2.2.2.1 x.1 x.2.1.1 l ≤ nUp x.2.2.2.2.2 x.1 e2.1 l ∧ nUp x.2.2.2.2.2 x.1 e2.1 l ≤ e2.1 ∧ (nUp x.2.2.2.2.2 x.1 e2.1 l = nUp x.2.2.2.2.1 x.1 x.2.1.1 l ∨ tyEv e2.2.1 (nUp x.2.2.2.2.1 x.1 x.2.1.1 l) (nUp x.2.2.2.2.2 x.1 e2.1 l - nUp x.2.2.2.2.1 x.1 x.2.1.1 l) = some [true])
        by_cases y : l = x.1
        · subst y
          rw [nUp_at, nUp_at, nUp_at, nUp_at]
          exact ⟨hk, kk.2.2.2.2.1, p5, Nat.le_refl _, p8⟩
        · rw [nUp_ne _ _ y, nUp_ne _ _ y, nUp_ne _ _ y, nUp_ne _ _ y]
          obtain ⟨g1, g2, g3, g4, g5⟩ := o3 l (by omega)
          refine ⟨g1, g2, g3, by omega, g5.imp id (fun t => ?_)⟩
          rw [tyEv_cong (D := x.2.1.2.1) _ (fun k hk => (p6 k (by omega)).1)]
          exact t
theorem lnO.up {x : lpL} {a b : Nat} (h : lnO x a) (hb : a ≤ b) : lnO x b := ⟨by have := h.1; omega, h.2⟩
theorem lnS_ok {B : Nat → Nat} {L a c : Nat} {x : lpL} (ha : a ≤ L) (hx : lnO x a) (h : (lnS B L (.inr a, x)).1 = .inr c) : (lnS B L (.inr a, x)).2.1 = x.1 + 1 ∧ lnO (lnS B L (.inr a, x)).2 c := by
  have n0 := nxB_le (B := B) ha
  cases z : lkW B L a with
  | none =>
    have e : lnS B L (.inr a, x) = (.inl a, x) := by unfold lnS; dsimp only; rw [z]
    rw [e] at h; cases h
  | some kd =>
    have e : lnS B L (.inr a, x) = lnK B L (nxB B L a) x kd := by unfold lnS; dsimp only; rw [z]
    rw [e] at h ⊢
    exact lnK_ok n0.2 (hx.up n0.1) (lkW_b z).1 h
