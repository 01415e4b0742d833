/-- the kind of a line -/
theorem s_sortD {d L f : Nat} {B : Nat → Nat} {u : zM} {Q : Option Value → zM → Prop} (hr : tkS u B L (.inl f)) (h : ∀ w x, tkF u w → tkS w B L (.inl f) → Q (some (.int x)) w) : zCall (d + 4) false 362 [.ref 1] u Q := by
  refine t2X8_readSort (k0 := 1) rfl ?_
  refine s_word (σ := .inl f) ⟨by decide, by decide⟩ hr (fun w1 f1 t1 => ⟨_, rfl, fun _ => ?_, fun z => absurd rfl z⟩)
  refine s_word (σ := .inl f) ⟨by decide, by decide⟩ t1 (fun w2 f2 t2 => ⟨_, rfl, fun _ => ?_, fun z => absurd rfl z⟩)
  exact s_needWord (σ := .inl f) ⟨by decide, by decide⟩ t2 (fun w3 f3 t3 => ⟨rfl, h w3 _ (f1.tr (f2.tr f3)) t3⟩)
theorem s_sortA {d L a : Nat} {B : Nat → Nat} {u : zM} {Q : Option Value → zM → Prop} (hr : tkA u B L a) (h0 : ∀ w x, tkF u w → lkW B L a = none → tkS w B L (.inl a) → Q (some (.int x)) w) (h1 : ∀ w kd x, tkF u w → lkW B L a = some kd → x = nI (kd + 9) → tkS w B L (.inr (nxB B L a)) → Q (some (.int x)) w) : zCall (d + 4) false 362 [.ref 1] u Q := by
  have e2 : ∀ j, sIs B L j (.inr a) = isW B L j a := fun _ => rfl
  refine t2X8_readSort (k0 := 1) rfl ?_
  refine s_word (σ := .inr a) ⟨by decide, by decide⟩ hr (fun w1 f1 t1 => ⟨_, rfl, ?_⟩)
  rw [e2]
  cases q1 : isW B L 2016 a
  · rw [nxW_no (σ := .inr a) q1] at t1
    refine ⟨fun _ => ?_, fun z => absurd rfl z⟩
    refine s_word (σ := .inr a) ⟨by decide, by decide⟩ t1 (fun w2 f2 t2 => ⟨_, rfl, ?_⟩)
    rw [e2]
    cases q2 : isW B L 2017 a
    · rw [nxW_no (σ := .inr a) q2] at t2
      refine ⟨fun _ => ?_, fun z => absurd rfl z⟩
      refine s_needWord (σ := .inr a) ⟨by decide, by decide⟩ t2 (fun w3 f3 t3 => ⟨rfl, ?_⟩)
      cases q3 : isW B L 2018 a
      · rw [nxN_f q3] at t3
        exact h0 w3 _ (f1.tr (f2.tr f3)) (by unfold lkW; rw [q1, q2, q3]; rfl) t3
      · rw [nxN_t q3] at t3
        exact h1 w3 2 _ (f1.tr (f2.tr f3)) (by unfold lkW; rw [q1, q2, q3]; rfl) rfl t3
    · rw [nxW_t q2] at t2
      exact ⟨fun z => absurd z (by decide), fun _ => h1 w2 1 _ (f1.tr f2) (by unfold lkW; rw [q1, q2]; rfl) rfl t2⟩
  · rw [nxW_t q1] at t1
    exact ⟨fun z => absurd z (by decide), fun _ => h1 w1 0 _ f1 (by unfold lkW; rw [q1]; rfl) rfl t1⟩
/-- a line, and what comes behind it -/
def dlLn (D : Nat) (u : zM) (K : zM → Prop) : Prop := zCI D 362 [.ref 1] u fun x6 w5 => zCI D 83 [.ref 1, .int 0, .int 100, .int (-1)] w5 fun x10 w9 => (zCV D 28 [.ref 31, .int x6, .int x10] w9 fun w11 => (zCI D 81 [.ref 1, .ref 2019] w11 fun x14 w13 => ((x14 = 0 → (zCV D 29 [.ref 31] w13 fun w15 => K w15)) ∧ (¬ x14 = 0 → (zCV D 89 [.ref 1, .ref 31, .int 0] w13 fun w17 => (zCV D 29 [.ref 31] w17 fun w19 => K w19))))))
set_option maxHeartbeats 1000000 in
theorem s_lawLineD {D L f : Nat} {B : Nat → Nat} {u0 u : zM} {K : zM → Prop} (hD : 27 ≤ D) (hF : dlF u0 u) (hr : tkS u B L (.inl f)) (h : ∀ w, dlF u0 w → tkS w B L (.inl f) → K w) : dlLn D u K := by
  obtain ⟨d, rfl⟩ : ∃ d, D = d + 4 := ⟨D - 4, by omega⟩
  have hT : ∀ {u w : zM}, tkF u w → dlF u w := fun h => ⟨fun c a _ => h.1 c a, h.2⟩
  refine s_sortD hr (fun w1 x f1 t1 => ⟨x, rfl, ?_⟩)
  exact dl_numD (d := d + 3) (by omega) (hF.tr (hT f1)) t1 h
set_option maxHeartbeats 1000000 in
theorem s_lawLineA {D L a : Nat} {B : Nat → Nat} {x : lpL} {u0 u : zM} {K : zM → Prop} (hD : 27 ≤ D) (hF : dlF u0 u) (hr : tkA u B L a) (hC : dvC u x.2.1) (hN : dvN u x) (hx : x.1 < 12) (he : x.2.1.1 < a + 1)
    (h : ∀ w, dlF u0 w → tkS w B L (lnS B L (.inr a, x)).1 → (∀ c, (lnS B L (.inr a, x)).1 = .inr c → dvN w (lnS B L (.inr a, x)).2 ∧ dvC w (lnS B L (.inr a, x)).2.2.1) → K w) : dlLn D u K := by
  obtain ⟨d, rfl⟩ : ∃ d, D = d + 4 := ⟨D - 4, by omega⟩
  have hT : ∀ {u w : zM}, tkF u w → dlF u w := fun h => ⟨fun c a _ => h.1 c a, h.2⟩
  have n0 := nxB_le (B := B) hr.2.1
  have kp : ∀ {w : zM}, tkF u w → dvN w x ∧ dvC w x.2.1 := fun {w} f => by
    refine ⟨?_, hC.f f⟩
    unfold dvN
    rw [f.1 31 (by decide), f.1 32 (by decide), f.1 33 (by decide), f.1 34 (by decide), f.1 35 (by decide)]
    exact hN
  have es : lnS B L (.inr a, x) = match lkW B L a with
    | none => (.inl a, x)
    | some kd => lnK B L (nxB B L a) x kd := rfl
  refine s_sortA hr (fun w1 y f1 ek t1 => ⟨y, rfl, ?_⟩) (fun w1 kd y f1 ek ey t1 => ⟨y, rfl, ?_⟩)
  · exact dl_numD (d := d + 3) (f := a) (by omega) (hF.tr (hT f1)) t1 (fun w g t => h w g (by rw [es, ek]; exact t) (fun c z => by rw [es, ek] at z; cases z))
  · exact dl_numA (d := d + 3) (kd := kd) (x := x) (u0 := u0) (a := nxB B L a) (by omega) (hF.tr (hT f1)) t1 (kp f1).2 (kp f1).1 hx (by omega) ey (fun w2 g t2 c2 => h w2 g (by rw [es, ek]; exact t2) (by rw [es, ek]; exact c2))
/-! the lines one behind another, counted -/
theorem s_atEndI {d L : Nat} {B : Nat → Nat} {σ : Nat ⊕ Nat} {u : zM} {Q : Option Value → zM → Prop} (t : tkS u B L σ) (h : ∀ w, tkF u w → tkS w B L (endS L σ) → Q none w) :
    zCI (d + 1) 77 [.ref 1] u fun x4 w3 => ((¬ x4 = 0 → Q none w3) ∧ (x4 = 0 → (zCV (d + 1) 78 [.ref 1] w3 fun w5 => Q none w5))) :=
  s_atEnd (α := Unit) (P := fun s w => tkS w B L s.1 ∧ tkF u w) (x := ()) (σ := σ) (fun s w g => g.1) (fun σ τ x v w g f t2 => ⟨t2, g.2.tr f⟩) ⟨t, tkF.rf u⟩ (fun w g => h w g.2 g.1)
theorem nxW_up {B : Nat → Nat} {L k b : Nat} {σ : Nat ⊕ Nat} {u : zM} (t : tkS u B L σ) (h : nxW B L k σ = .inr b) : ∃ a, σ = .inr a ∧ a ≤ b := by
  cases σ with
  | inl f => cases h
  | inr a =>
    refine ⟨a, rfl, ?_⟩
    have n := nxB_le (B := B) t.2.1
    have h : (if isW B L k a = true then .inr (nxB B L a) else .inr a : Nat ⊕ Nat) = .inr b := h
    split at h
    · have := Sum.inr.inj h; omega
    · have := Sum.inr.inj h; omega
theorem s_needEndI {d L : Nat} {B : Nat → Nat} {σ : Nat ⊕ Nat} {u : zM} {Q : Option Value → zM → Prop} (t : tkS u B L σ) (h : ∀ w, tkF u w → tkS w B L (endS L σ) → Q none w) : zCall (d + 2) false 361 [.ref 1, .int 0] u Q :=
  t2X7_needEnd (k0 := 1) rfl ⟨fun z => absurd rfl z, fun _ => s_atEndI t h⟩
theorem s_readLoopI {d L : Nat} {α : Type} {B : Nat → Nat} {step : (Nat ⊕ Nat) × α → (Nat ⊕ Nat) × α} {P : Nat → (Nat ⊕ Nat) × α → zM → Prop} {Q : Option Value → zM → Prop} (hP1 : ∀ i s u, P i s u → tkS u B L s.1) (hP2 : ∀ i σ τ x u w, P i (σ, x) u → tkF u w → tkS w B L τ → (∀ b, τ = .inr b → ∃ a, σ = .inr a ∧ a ≤ b) → P i (τ, x) w)
    (hl : ∀ i s u (K : zM → Prop), i < 12 → P i s u → (∀ w, P (i + 1) (step s) w → K w) → dlLn (d + 3) u K) :
    ∀ r s u i, i + r = 12 → P i s u → (∀ w j, j ≤ 12 → P j (rdAll step B L r s) w → Q none w) → zRun (d + 3) false zcX8_readLaw 0 Q 15 [(0, .ref 1), (1, .ref 31), (2, .int 1), (3, .int (nI i))] [] u
  | 0, s, u, i, hi, hP, h => by
    have g : zCV (d + 3) 361 [.ref 1, .int 1] u fun w => Q none w := by
      refine s_needEnd1 (d := d + 1) (hP1 _ _ _ hP) (fun w f t => ⟨rfl, h w i (by omega) (hP2 i s.1 (sFl s.1) s.2 u w hP f t (fun b z => ?_))⟩)
      cases y : s.1 with
      | inl g => rw [y] at z; cases z
      | inr g => rw [y] at z; cases z
    exact t2X8_readLaw_15 (k0 := 1) (k1 := 31) rfl rfl (br_t (by rw [nI_lit, nI_leI (by omega) (by omega)]; show 12 ≤ i; omega) g)
  | r + 1, s, u, i, hi, hP, h => by
    have go : ∀ w, P (i + 1) (step s) w → zCI (d + 3) 81 [.ref 1, .ref 2000] w fun x20 w19 => zRun (d + 3) false zcX8_readLaw 0 Q 15 [(0, .ref 1), (1, .ref 31), (2, .int x20), (3, .int (nI i + 1))] [] w19 := by
      intro w hw
      have ht := hP1 _ _ _ hw
      refine s_word ⟨by decide, by decide⟩ ht (fun w2 f2 t2 => ⟨_, rfl, ?_⟩)
      rw [nI_1 i]
      have e : rdAll step B L (r + 1) s = if sIs B L 2000 (step s).1 = true then rdAll step B L r (nxW B L 2000 (step s).1, (step s).2) else (endS L (step s).1, (step s).2) := rfl
      rw [e] at h
      cases q : sIs B L 2000 (step s).1
      · rw [q, if_neg (by decide)] at h
        rw [nxW_no q] at t2
        have g : zCV (d + 3) 361 [.ref 1, .int 0] w2 fun w => Q none w := s_needEndI (d := d + 1) t2 (fun w3 f3 t3 => ⟨rfl, h w3 (i + 1) (by omega) (hP2 (i + 1) (step s).1 _ (step s).2 _ _ hw (f2.tr f3) t3 (fun b z => ⟨b, endS_a z, Nat.le_refl _⟩))⟩)
        exact t2X8_readLaw_15 (k0 := 1) (k1 := 31) rfl rfl ⟨fun _ => g, fun _ => ⟨fun _ => g, fun z => absurd rfl z⟩⟩
      · rw [q, if_pos rfl] at h
        exact s_readLoopI hP1 hP2 hl r _ w2 (i + 1) (by omega) (hP2 (i + 1) (step s).1 _ (step s).2 _ _ hw f2 t2 (fun b z => nxW_up ht z)) h
    have g := hl i s u _ (by omega) hP go
    unfold dlLn at g
    exact t2X8_readLaw_15 (k0 := 1) (k1 := 31) rfl rfl (br_f (by rw [nI_lit, nI_leI (by omega) (by omega)]; show ¬ 12 ≤ i; omega) (br_f (by decide) g))
theorem s_readI {d L : Nat} {α : Type} {B : Nat → Nat} {step : (Nat ⊕ Nat) × α → (Nat ⊕ Nat) × α} {P : Nat → (Nat ⊕ Nat) × α → zM → Prop} {x : α} {u : zM} {Q : Option Value → zM → Prop} (hP1 : ∀ i s u, P i s u → tkS u B L s.1) (hP2 : ∀ i σ τ x u w, P i (σ, x) u → tkF u w → tkS w B L τ → (∀ b, τ = .inr b → ∃ a, σ = .inr a ∧ a ≤ b) → P i (τ, x) w)
    (hl : ∀ i s u (K : zM → Prop), i < 12 → P i s u → (∀ w, P (i + 1) (step s) w → K w) → dlLn (d + 3) u K)
    (hP : P 0 (.inr (skB B L 0), x) u) (h : ∀ w j, j ≤ 12 → P j (rdTx step B L 12 x) w → Q none w) : zCall (d + 4) false 88 [.ref 1, .ref 31] u Q := by
  have t := hP1 _ _ _ hP
  have t' := t
  obtain ⟨⟨h4, hL, hB⟩, ha, u3, u4, u2, sk⟩ := t
  refine t2X8_readLaw (k0 := 1) (k1 := 31) rfl rfl ?_
  refine tX7_atEnd (k0 := 1) rfl ?_
  rw [u3, hL, nI_ltI (by omega) (by omega)]
  refine ⟨fun z => ⟨_, rfl, fun z2 => absurd rfl z2, fun _ => ?_⟩, fun z => ⟨_, rfl, fun _ => ?_, fun z2 => absurd z2 (by decide)⟩⟩
  · have e : rdTx step B L 12 x = rdAll step B L 12 (.inr (skB B L 0), x) := by unfold rdTx; rw [if_neg (by omega)]
    rw [e] at h
    exact s_readLoopI hP1 hP2 hl 12 _ u 0 (by omega) hP h
  · have e : rdTx step B L 12 x = (.inr L, x) := by unfold rdTx; rw [if_pos (by omega)]
    rw [e] at h
    have el : skB B L 0 = L := by omega
    have g : zCV (d + 3) 361 [.ref 1, .int 0] u fun w => Q none w := s_needEndI (d := d + 1) t' (fun w3 f3 t3 => ⟨rfl, h w3 0 (Nat.zero_le _) (hP2 0 (.inr (skB B L 0)) (.inr L) x _ _ hP f3 (by
        have e2 : endS L (.inr (skB B L 0)) = .inr L := by
          show (if skB B L 0 = L then _ else _) = _
          rw [if_pos el, el]
        rw [← e2]; exact t3) (fun b z => ⟨skB B L 0, rfl, by have := Sum.inr.inj z; omega⟩))⟩)
    exact t2X8_readLaw_15 (k0 := 1) (k1 := 31) rfl rfl ⟨fun _ => g, fun _ => ⟨fun _ => g, fun z => absurd rfl z⟩⟩
def lw0 : lpL := (0, (0, fun _ => 0, fun _ => 0), fun _ => 0, fun _ => 0, fun _ => 0, fun _ => 0)
def lwT (B : Nat → Nat) (L : Nat) : (Nat ⊕ Nat) × lpL := rdTx (lnS B L) B L 12 lw0
/-- while THE LAW is read -/
def dwP (u1 : zM) (B : Nat → Nat) (L i : Nat) (s : (Nat ⊕ Nat) × lpL) (w : zM) : Prop := dlF u1 w ∧ tkS w B L s.1 ∧ ∀ a, s.1 = .inr a → dvN w s.2 ∧ dvC w s.2.2.1 ∧ lnO s.2 a ∧ s.2.1 = i
theorem s_lawRead {L : Nat} {B : Nat → Nat} {u : zM} {K : zM → Prop} (hD : zDtx u B L) (h6 : u 31 6 = 0) (h7 : u 31 7 = 0)
    (h : ∀ w, dlF u w → tkS w B L (lwT B L).1 → (∀ a, (lwT B L).1 = .inr a → dvN w (lwT B L).2 ∧ dvC w (lwT B L).2.2.1 ∧ lnO (lwT B L).2 a ∧ (lwT B L).2.1 ≤ 12) → K w) :
    zCV 59 75 [.ref 1] u fun w3 => zCV 59 88 [.ref 1, .ref 31] w3 fun w5 => K w5 := by
  refine s_startText hD (fun w3 f3 t3 => ⟨rfl, ?_⟩)
  have hT : ∀ {u w : zM}, tkF u w → dlF u w := fun h => ⟨fun c a _ => h.1 c a, h.2⟩
  refine s_readI (step := lnS B L) (P := dwP u B L) (x := lw0) (fun i s w g => g.2.1) (fun i σ τ x v w g f t hb => ⟨g.1.tr (hT f), t, fun b z => ?_⟩) (fun i s v K2 hi g hK => ?_) ⟨hT f3, t3, fun a _ => ⟨⟨?_, fun l hl => absurd hl (Nat.not_lt_zero _)⟩, ⟨?_, Nat.zero_le _, fun i hi => absurd hi (Nat.not_lt_zero _)⟩, ⟨Nat.succ_pos _, fun i hi => absurd hi (Nat.not_lt_zero _), fun l hl => absurd hl (Nat.not_lt_zero _)⟩, rfl⟩⟩ (fun w j hj g => ⟨rfl, h w g.1 g.2.1 (fun a z => ?_)⟩)
  · obtain ⟨a, ea, ab⟩ := hb b z
    obtain ⟨g1, g2, g3, g4⟩ := g.2.2 a ea
    refine ⟨?_, g2.f f, g3.up ab, g4⟩
    unfold dvN
    rw [f.1 31 (by decide), f.1 32 (by decide), f.1 33 (by decide), f.1 34 (by decide), f.1 35 (by decide)]
    exact g1
  · obtain ⟨σ, x⟩ := s
    cases σ with
    | inl f => exact s_lawLineD (by omega) g.1 g.2.1 (fun w f1 t1 => hK w ⟨f1, t1, fun a z => by cases z⟩)
    | inr a =>
      obtain ⟨g1, g2, g3, g4⟩ := g.2.2 a rfl
      have g4 : x.1 = i := g4
      refine s_lawLineA (x := x) (by omega) g.1 g.2.1 g2 g1 (by omega) g3.1 (fun w f1 t1 c1 => hK w ⟨f1, t1, fun c z => ?_⟩)
      obtain ⟨k1, k2⟩ := c1 c z
      obtain ⟨o1, o2⟩ := lnS_ok (show a ≤ L from g.2.1.2.1) g3 z
      exact ⟨k1, k2, o2, by rw [o1, g4]⟩
  · rw [f3.1 31 (by decide)]; exact h6
  · rw [f3.1 31 (by decide)]; exact h7
  · obtain ⟨g1, g2, g3, g4⟩ := g.2.2 a z
    exact ⟨g1, g2, g3, by show (rdTx (lnS B L) B L 12 lw0).2.1 ≤ 12; omega⟩
