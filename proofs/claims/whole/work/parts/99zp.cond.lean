/-! THE LAW's conditions: as numbers -/
abbrev lpE : Type := Nat × (Nat → Nat) × (Nat → Nat)
abbrev lpR : Type := Nat ⊕ (Nat × lpE)
def emE (e : lpE) (c v : Nat) : lpE := (e.1 + 1, (fun j => if j = e.1 then c else e.2.1 j), fun j => if j = e.1 then v else e.2.2 j)
def bdR (r : lpR) (f : Nat → lpE → lpR) : lpR := match r with
  | .inl x => .inl x
  | .inr s => f s.1 s.2
def lpWd (B : Nat → Nat) (L k c a : Nat) (e : lpE) (r : lpR) : lpR := if isW B L k a = true then .inr (nxB B L a, emE e c 0) else r
def lpWs (B : Nat → Nat) (L a : Nat) (e : lpE) : lpR := lpWd B L 2001 0 a e (lpWd B L 2029 1 a e (lpWd B L 2011 2 a e (lpWd B L 2010 3 a e (lpWd B L 2012 4 a e (lpWd B L 2030 5 a e (lpWd B L 2031 6 a e (lpWd B L 2032 7 a e (.inl a))))))))
def lpPart (B : Nat → Nat) (L a : Nat) (e : lpE) : lpR := if a < L ∧ soB (B a) = 1 then (if nuK B L 0 999 1000 a = true then .inr (nxB B L a, emE e 10 (nuV B L a)) else .inl a) else lpWs B L a e
def lpMore (B : Nat → Nat) (L : Nat) (f : Nat → lpE → lpR) (k c : Nat) : Nat → Nat → lpE → lpR
  | 0, a, e => .inr (a, e)
  | r + 1, a, e => if isW B L k a = true then bdR (f (nxB B L a) e) (fun a2 e2 => lpMore B L f k c r a2 (emE e2 c 0)) else .inr (a, e)
def lpSeq (B : Nat → Nat) (L : Nat) (f : Nat → lpE → lpR) (k c a : Nat) (e : lpE) : lpR := bdR (f a e) (fun a2 e2 => lpMore B L f k c 400 a2 e2)
def lpSum (B : Nat → Nat) (L : Nat) : Nat → lpE → lpR := lpSeq B L (lpPart B L) 2028 11
def lpCmp (B : Nat → Nat) (L a : Nat) (e : lpE) : lpR := bdR (lpSum B L a e) (fun a2 e2 => if isW B L 2026 a2 = true then bdR (lpSum B L (nxB B L a2) e2) (fun a3 e3 => .inr (a3, emE e3 12 0)) else if isW B L 2027 a2 = true then bdR (lpSum B L (nxB B L a2) e2) (fun a3 e3 => .inr (a3, emE e3 13 0)) else .inl a2)
def lpEnd (B : Nat → Nat) (L a : Nat) (e : lpE) : lpR := lpWd B L 2014 8 a e (lpWd B L 2025 9 a e (lpCmp B L a e))
def lpAt (B : Nat → Nat) (L : Nat) : Nat → Nat → lpE → lpR
  | 0, a, e => if isW B L 2022 a = true then .inl a else if isW B L 2023 a = true then .inl a else lpEnd B L a e
  | k + 1, a, e => if isW B L 2022 a = true then bdR (lpAt B L k (nxB B L a) e) (fun a2 e2 => .inr (a2, emE e2 14 0)) else if isW B L 2023 a = true then bdR (lpSeq B L (lpSeq B L (lpAt B L k) 2021 15) 2020 16 (nxB B L a) e) (fun a2 e2 => if isW B L 2024 a2 = true then .inr (nxB B L a2, e2) else .inl a2) else lpEnd B L a e
def lpAll (B : Nat → Nat) (L k : Nat) : Nat → lpE → lpR := lpSeq B L (lpAt B L k) 2021 15
def lpAny (B : Nat → Nat) (L k : Nat) : Nat → lpE → lpR := lpSeq B L (lpAll B L k) 2020 16
/-- what a right piece of a condition leaves: N places of the stack, of sort t -/
def lpG (B : Nat → Nat) (L N : Nat) (t : Bool) (a : Nat) (e : lpE) (a2 : Nat) (e2 : lpE) : Prop := a + 1 ≤ a2 ∧ a2 ≤ L ∧ skB B L a2 = a2 ∧ e2.1 + a ≤ e.1 + a2 ∧ e.1 ≤ e2.1 ∧ (∀ i, i < e.1 → e2.2.1 i = e.2.1 i ∧ e2.2.2 i = e.2.2 i) ∧ (∀ i, e.1 ≤ i → i < e2.1 → e2.2.1 i ≤ 16 ∧ e2.2.2 i ≤ 999) ∧
  ∀ b l, b ≤ e.1 → tyEv e.2.1 b (e.1 - b) = some l → l.length + N ≤ 32 → tyEv e2.2.1 b (e2.1 - b) = some (t :: l)
def lpGd (B : Nat → Nat) (L N : Nat) (t : Bool) (f : Nat → lpE → lpR) : Prop := ∀ a e a2 e2, a ≤ L → f a e = .inr (a2, e2) → lpG B L N t a e a2 e2
theorem bdR_a {r : lpR} {f : Nat → lpE → lpR} {s : Nat × lpE} (h : bdR r f = .inr s) : ∃ a e, r = .inr (a, e) ∧ f a e = .inr s := by
  cases r with
  | inl x => cases h
  | inr p => exact ⟨p.1, p.2, rfl, h⟩
theorem emE_ty {e : lpE} {c v b : Nat} {l : List Bool} (hb : b ≤ e.1) (h : tyEv e.2.1 b (e.1 - b) = some l) : tyEv (emE e c v).2.1 b ((emE e c v).1 - b) = tyS c l := by
  have e1 : (emE e c v).1 - b = (e.1 - b) + 1 := by show e.1 + 1 - b = _; omega
  rw [e1]
  show (tyEv (emE e c v).2.1 b (e.1 - b)).bind (tyS ((emE e c v).2.1 (b + (e.1 - b)))) = _
  have e2 : b + (e.1 - b) = e.1 := by omega
  rw [e2, tyEv_cong (D := e.2.1) (e.1 - b) (fun k hk => by show (if k = e.1 then c else e.2.1 k) = _; rw [if_neg (by omega)]), h]
  show tyS (if e.1 = e.1 then c else e.2.1 e.1) l = _
  rw [if_pos rfl]
theorem emE_o {e : lpE} {c v i : Nat} (h : i < e.1) : (emE e c v).2.1 i = e.2.1 i ∧ (emE e c v).2.2 i = e.2.2 i :=
  ⟨by show (if i = e.1 then c else e.2.1 i) = _; rw [if_neg (by omega)], by show (if i = e.1 then v else e.2.2 i) = _; rw [if_neg (by omega)]⟩
theorem emE_n (e : lpE) (c v : Nat) : (emE e c v).2.1 e.1 = c ∧ (emE e c v).2.2 e.1 = v :=
  ⟨by show (if e.1 = e.1 then c else e.2.1 e.1) = _; rw [if_pos rfl], by show (if e.1 = e.1 then v else e.2.2 e.1) = _; rw [if_pos rfl]⟩
/-- a thing that puts a value -/
theorem lpG.em {B : Nat → Nat} {L a c v : Nat} {e : lpE} (ha : a < L) (hc : c ≤ 10) (hv : v ≤ 999) : lpG B L 1 (decide (c = 8 ∨ c = 9)) a e (nxB B L a) (emE e c v) := by
  have n1 := nxB_lt (B := B) ha
  have n2 := nxB_le (B := B) (Nat.le_of_lt ha)
  have t := teB_le (B := B) (Nat.le_of_lt ha)
  refine ⟨n1, n2.2, skB_idem t.2, ?_, ?_, fun i hi => emE_o hi, fun i h1 h2 => ?_, fun b l hb hl hN => ?_⟩
  · show e.1 + 1 + a ≤ e.1 + nxB B L a; omega
  · show e.1 ≤ e.1 + 1; omega
  · have h2 : i < e.1 + 1 := h2
    obtain rfl : i = e.1 := by omega
    rw [(emE_n e c v).1, (emE_n e c v).2]
    exact ⟨by omega, hv⟩
  · rw [emE_ty hb hl]
    unfold tyS
    rw [if_pos hc, if_pos (by omega)]
theorem lpWd_g {B : Nat → Nat} {L k c a a2 N : Nat} {t : Bool} {e e2 : lpE} {r : lpR} (hk : zStr k) (ha : a ≤ L) (hc : c ≤ 10) (ht : t = decide (c = 8 ∨ c = 9)) (h : lpWd B L k c a e r = .inr (a2, e2)) (hN : 1 ≤ N) (hr : r = .inr (a2, e2) → lpG B L N t a e a2 e2) : lpG B L N t a e a2 e2 := by
  unfold lpWd at h
  by_cases q : isW B L k a = true
  · rw [if_pos q] at h
    have h := Sum.inr.inj h
    obtain ⟨rfl, rfl⟩ := Prod.mk.inj h
    have g := lpG.em (B := B) (e := e) (v := 0) (isW_lt hk ha q).2 hc (by decide)
    rw [← ht] at g
    exact ⟨g.1, g.2.1, g.2.2.1, g.2.2.2.1, g.2.2.2.2.1, g.2.2.2.2.2.1, g.2.2.2.2.2.2.1, fun b l hb hl hn => g.2.2.2.2.2.2.2 b l hb hl (by omega)⟩
  · rw [if_neg q] at h
    exact hr h
theorem lpPart_g (B : Nat → Nat) (L : Nat) : lpGd B L 1 false (lpPart B L) := by
  intro a e a2 e2 ha h
  unfold lpPart at h
  by_cases q : a < L ∧ soB (B a) = 1
  · rw [if_pos q] at h
    by_cases k : nuK B L 0 999 1000 a = true
    · rw [if_pos k] at h
      obtain ⟨rfl, rfl⟩ := Prod.mk.inj (Sum.inr.inj h)
      have kk := of_decide_eq_true k
      exact lpG.em q.1 (by decide) kk.2.2.2.2.1
    · rw [if_neg k] at h; cases h
  · rw [if_neg q] at h
    unfold lpWs at h
    refine lpWd_g ⟨by decide, by decide⟩ ha (by decide) (by decide) h (by decide) (fun h => ?_)
    refine lpWd_g ⟨by decide, by decide⟩ ha (by decide) (by decide) h (by decide) (fun h => ?_)
    refine lpWd_g ⟨by decide, by decide⟩ ha (by decide) (by decide) h (by decide) (fun h => ?_)
    refine lpWd_g ⟨by decide, by decide⟩ ha (by decide) (by decide) h (by decide) (fun h => ?_)
    refine lpWd_g ⟨by decide, by decide⟩ ha (by decide) (by decide) h (by decide) (fun h => ?_)
    refine lpWd_g ⟨by decide, by decide⟩ ha (by decide) (by decide) h (by decide) (fun h => ?_)
    refine lpWd_g ⟨by decide, by decide⟩ ha (by decide) (by decide) h (by decide) (fun h => ?_)
    refine lpWd_g ⟨by decide, by decide⟩ ha (by decide) (by decide) h (by decide) (fun h => ?_)
    cases h
/-- two pieces and a code that joins them -/
theorem lpG.join {B : Nat → Nat} {L N M a a1 a2 a3 c : Nat} {t s : Bool} {e e2 e3 : lpE} (g1 : lpG B L N t a e a2 e2) (ha : a2 + 1 ≤ a1) (g2 : lpG B L M t a1 e2 a3 e3) (hc : c ≤ 16) (hs : ∀ l, tyS c (t :: t :: l) = some (s :: l)) (hNM : N ≤ M + 1) : lpG B L (M + 1) s a e a3 (emE e3 c 0) := by
  obtain ⟨p1, p2, p3, p4, p5, p6, p7, p8⟩ := g1
  obtain ⟨q1, q2, q3, q4, q5, q6, q7, q8⟩ := g2
  refine ⟨by omega, q2, q3, ?_, ?_, fun i hi => ?_, fun i h1 h2 => ?_, fun b l hb hl hn => ?_⟩
  · show e3.1 + 1 + a ≤ e.1 + a3; omega
  · show e.1 ≤ e3.1 + 1; omega
  · have o := emE_o (e := e3) (c := c) (v := 0) (i := i) (by omega)
    exact ⟨o.1.trans ((q6 i (by omega)).1.trans (p6 i hi).1), o.2.trans ((q6 i (by omega)).2.trans (p6 i hi).2)⟩
  · have h2 : i < e3.1 + 1 := h2
    by_cases z : i = e3.1
    · subst z
      rw [(emE_n e3 c 0).1, (emE_n e3 c 0).2]
      exact ⟨hc, by decide⟩
    · have o := emE_o (e := e3) (c := c) (v := 0) (i := i) (by omega)
      rw [o.1, o.2]
      by_cases y : i < e2.1
      · rw [(q6 i y).1, (q6 i y).2]; exact p7 i h1 y
      · exact q7 i (by omega) (by omega)
  · have t2 := p8 b l hb hl (by omega)
    have t3 := q8 b (t :: l) (by omega) t2 (by rw [List.length_cons]; omega)
    rw [emE_ty (by omega) t3]
    exact hs l
theorem lpG.one {B : Nat → Nat} {L N a a2 c : Nat} {t s : Bool} {e e2 : lpE} (g : lpG B L N t a e a2 e2) (hc : c ≤ 16) (hs : ∀ l, tyS c (t :: l) = some (s :: l)) {a0 : Nat} (h0 : a0 + 1 ≤ a) : lpG B L N s a0 e a2 (emE e2 c 0) := by
  obtain ⟨p1, p2, p3, p4, p5, p6, p7, p8⟩ := g
  refine ⟨by omega, p2, p3, ?_, ?_, fun i hi => ?_, fun i h1 h2 => ?_, fun b l hb hl hn => ?_⟩
  · show e2.1 + 1 + a0 ≤ e.1 + a2; omega
  · show e.1 ≤ e2.1 + 1; omega
  · have o := emE_o (e := e2) (c := c) (v := 0) (i := i) (by omega)
    exact ⟨o.1.trans (p6 i hi).1, o.2.trans (p6 i hi).2⟩
  · have h2 : i < e2.1 + 1 := h2
    by_cases z : i = e2.1
    · subst z
      rw [(emE_n e2 c 0).1, (emE_n e2 c 0).2]
      exact ⟨hc, by decide⟩
    · have o := emE_o (e := e2) (c := c) (v := 0) (i := i) (by omega)
      rw [o.1, o.2]; exact p7 i h1 (by omega)
  · rw [emE_ty (by omega) (p8 b l hb hl hn)]
    exact hs l
theorem lpG.up {B : Nat → Nat} {L N M a a0 a2 a3 : Nat} {t : Bool} {e e2 : lpE} (g : lpG B L N t a e a2 e2) (h0 : a0 ≤ a) (h2 : a2 ≤ a3) (h3 : a3 ≤ L) (hs : skB B L a3 = a3) (hM : N ≤ M) : lpG B L M t a0 e a3 e2 := by
  obtain ⟨p1, p2, p3, p4, p5, p6, p7, p8⟩ := g
  exact ⟨by omega, h3, hs, by omega, p5, p6, p7, fun b l hb hl hn => p8 b l hb hl (by omega)⟩
theorem lpMore_g {B : Nat → Nat} {L N k c : Nat} {t : Bool} {f : Nat → lpE → lpR} (hf : lpGd B L N t f) (hk : zStr k) (hc : c ≤ 16) (hs : ∀ l, tyS c (t :: t :: l) = some (t :: l)) : ∀ r a0 e0 a e a2 e2, lpG B L (N + 1) t a0 e0 a e → lpMore B L f k c r a e = .inr (a2, e2) → lpG B L (N + 1) t a0 e0 a2 e2
  | 0, a0, e0, a, e, a2, e2, g, h => by
    have h : (Sum.inr (a, e) : lpR) = .inr (a2, e2) := h
    obtain ⟨rfl, rfl⟩ := Prod.mk.inj (Sum.inr.inj h)
    exact g
  | r + 1, a0, e0, a, e, a2, e2, g, h => by
    have h : (if isW B L k a = true then bdR (f (nxB B L a) e) (fun a2 e2 => lpMore B L f k c r a2 (emE e2 c 0)) else .inr (a, e)) = .inr (a2, e2) := h
    by_cases q : isW B L k a = true
    · rw [if_pos q] at h
      obtain ⟨a3, e3, h1, h2⟩ := bdR_a h
      have n := nxB_le (B := B) g.2.1
      have n1 := nxB_lt (B := B) (isW_lt hk g.2.1 q).2
      have g3 := hf _ _ _ _ n.2 h1
      exact lpMore_g hf hk hc hs r a0 e0 a3 (emE e3 c 0) a2 e2 (lpG.join g n1 g3 hc hs (Nat.le_refl _)) h2
    · rw [if_neg q] at h
      obtain ⟨rfl, rfl⟩ := Prod.mk.inj (Sum.inr.inj h)
      exact g
theorem lpSeq_g {B : Nat → Nat} {L N k c : Nat} {t : Bool} {f : Nat → lpE → lpR} (hf : lpGd B L N t f) (hk : zStr k) (hc : c ≤ 16) (hs : ∀ l, tyS c (t :: t :: l) = some (t :: l)) : lpGd B L (N + 1) t (lpSeq B L f k c) := by
  intro a e a2 e2 ha h
  unfold lpSeq at h
  obtain ⟨a3, e3, h1, h2⟩ := bdR_a h
  have g := hf _ _ _ _ ha h1
  exact lpMore_g hf hk hc hs 400 a e a3 e3 a2 e2 (g.up (Nat.le_refl _) (Nat.le_refl _) g.2.1 g.2.2.1 (Nat.le_succ _)) h2
theorem tyS_11 (l : List Bool) : tyS 11 (false :: false :: l) = some (false :: l) := rfl
theorem tyS_12 (l : List Bool) : tyS 12 (false :: false :: l) = some (true :: l) := rfl
theorem tyS_13 (l : List Bool) : tyS 13 (false :: false :: l) = some (true :: l) := rfl
theorem tyS_14 (l : List Bool) : tyS 14 (true :: l) = some (true :: l) := rfl
theorem tyS_15 (l : List Bool) : tyS 15 (true :: true :: l) = some (true :: l) := rfl
theorem tyS_16 (l : List Bool) : tyS 16 (true :: true :: l) = some (true :: l) := rfl
theorem lpSum_g (B : Nat → Nat) (L : Nat) : lpGd B L 2 false (lpSum B L) := lpSeq_g (lpPart_g B L) ⟨by decide, by decide⟩ (by decide) tyS_11
theorem lpCmp_g (B : Nat → Nat) (L : Nat) : lpGd B L 3 true (lpCmp B L) := by
  intro a e a2 e2 ha h
  unfold lpCmp at h
  obtain ⟨a3, e3, h1, h2⟩ := bdR_a h
  have g := lpSum_g B L _ _ _ _ ha h1
  have n := nxB_le (B := B) g.2.1
  by_cases q : isW B L 2026 a3 = true
  · rw [if_pos q] at h2
    have n1 := nxB_lt (B := B) (isW_lt ⟨by decide, by decide⟩ g.2.1 q).2
    obtain ⟨a4, e4, h3, h4⟩ := bdR_a h2
    obtain ⟨rfl, rfl⟩ := Prod.mk.inj (Sum.inr.inj h4)
    exact g.join n1 (lpSum_g B L _ _ _ _ n.2 h3) (by decide) tyS_12 (by decide)
  · rw [if_neg q] at h2
    by_cases q2 : isW B L 2027 a3 = true
    · rw [if_pos q2] at h2
      have n1 := nxB_lt (B := B) (isW_lt ⟨by decide, by decide⟩ g.2.1 q2).2
      obtain ⟨a4, e4, h3, h4⟩ := bdR_a h2
      obtain ⟨rfl, rfl⟩ := Prod.mk.inj (Sum.inr.inj h4)
      exact g.join n1 (lpSum_g B L _ _ _ _ n.2 h3) (by decide) tyS_13 (by decide)
    · rw [if_neg q2] at h2; cases h2
theorem lpEnd_g (B : Nat → Nat) (L N : Nat) (hN : 3 ≤ N) : lpGd B L N true (lpEnd B L) := by
  intro a e a2 e2 ha h
  unfold lpEnd at h
  refine lpWd_g ⟨by decide, by decide⟩ ha (by decide) (by decide) h (by omega) (fun h => ?_)
  refine lpWd_g ⟨by decide, by decide⟩ ha (by decide) (by decide) h (by omega) (fun h => ?_)
  have g := lpCmp_g B L _ _ _ _ ha h
  exact g.up (Nat.le_refl _) (Nat.le_refl _) g.2.1 g.2.2.1 hN
theorem lpAt_g (B : Nat → Nat) (L : Nat) : ∀ k, lpGd B L (2 * k + 3) true (lpAt B L k)
  | 0 => by
    intro a e a2 e2 ha h
    have h : (if isW B L 2022 a = true then .inl a else if isW B L 2023 a = true then .inl a else lpEnd B L a e : lpR) = .inr (a2, e2) := h
    by_cases q : isW B L 2022 a = true
    · rw [if_pos q] at h; cases h
    · rw [if_neg q] at h
      by_cases q2 : isW B L 2023 a = true
      · rw [if_pos q2] at h; cases h
      · rw [if_neg q2] at h
        exact lpEnd_g B L 3 (by decide) _ _ _ _ ha h
  | k + 1 => by
    intro a e a2 e2 ha h
    have ih := lpAt_g B L k
    have h : (if isW B L 2022 a = true then bdR (lpAt B L k (nxB B L a) e) (fun a2 e2 => .inr (a2, emE e2 14 0)) else if isW B L 2023 a = true then bdR (lpSeq B L (lpSeq B L (lpAt B L k) 2021 15) 2020 16 (nxB B L a) e) (fun a2 e2 => if isW B L 2024 a2 = true then .inr (nxB B L a2, e2) else .inl a2) else lpEnd B L a e : lpR) = .inr (a2, e2) := h
    have n := nxB_le (B := B) ha
    by_cases q : isW B L 2022 a = true
    · rw [if_pos q] at h
      have n1 := nxB_lt (B := B) (isW_lt ⟨by decide, by decide⟩ ha q).2
      obtain ⟨a3, e3, h1, h2⟩ := bdR_a h
      obtain ⟨rfl, rfl⟩ := Prod.mk.inj (Sum.inr.inj h2)
      have g := (ih _ _ _ _ n.2 h1).one (by decide) tyS_14 n1
      exact g.up (Nat.le_refl _) (Nat.le_refl _) g.2.1 g.2.2.1 (by omega)
    · rw [if_neg q] at h
      by_cases q2 : isW B L 2023 a = true
      · rw [if_pos q2] at h
        obtain ⟨a3, e3, h1, h2⟩ := bdR_a h
        have g := lpSeq_g (k := 2020) (c := 16) (lpSeq_g (k := 2021) (c := 15) ih ⟨by decide, by decide⟩ (by decide) tyS_15) ⟨by decide, by decide⟩ (by decide) tyS_16 _ _ _ _ n.2 h1
        by_cases q3 : isW B L 2024 a3 = true
        · rw [if_pos q3] at h2
          obtain ⟨rfl, rfl⟩ := Prod.mk.inj (Sum.inr.inj h2)
          have n3 := nxB_le (B := B) g.2.1
          exact g.up n.1 n3.1 n3.2 (skB_idem (teB_le (B := B) g.2.1).2) (by omega)
        · rw [if_neg q3] at h2; cases h2
      · rw [if_neg q2] at h
        exact lpEnd_g B L _ (by omega) _ _ _ _ ha h
theorem lpAll_g (B : Nat → Nat) (L k : Nat) : lpGd B L (2 * k + 4) true (lpAll B L k) := lpSeq_g (lpAt_g B L k) ⟨by decide, by decide⟩ (by decide) tyS_15
theorem lpAny_g (B : Nat → Nat) (L k : Nat) : lpGd B L (2 * k + 5) true (lpAny B L k) := lpSeq_g (lpAll_g B L k) ⟨by decide, by decide⟩ (by decide) tyS_16
