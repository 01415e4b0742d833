set_option maxHeartbeats 1000000 in
theorem s_lawLineD {D L f : Nat} {B : Nat → Nat} {u0 u : zM} {K : zM → Prop} (hD : 27 ≤ D) (hF : dlF u0 u) (hr : tkS u B L (.inl f)) (h : ∀ w, dlF u0 w → tkS w B L (.inl f) → K w) : zCV D 88 [.ref 1, .ref 31] u K := by
  obtain ⟨d, rfl⟩ : ∃ d, D = d + 4 := ⟨D - 4, by omega⟩
  have hT : ∀ {u w : zM}, tkF u w → dlF u w := fun h => ⟨fun c a _ => h.1 c a, h.2⟩
  refine t2X8_readLawLine (k0 := 1) (k1 := 31) rfl rfl ?_
  refine s_word (σ := .inl f) ⟨by decide, by decide⟩ hr (fun w1 f1 t1 => ⟨_, rfl, fun _ => ?_, fun z => absurd rfl z⟩)
  refine s_word (σ := .inl f) ⟨by decide, by decide⟩ t1 (fun w2 f2 t2 => ⟨_, rfl, fun _ => ?_, fun z => absurd rfl z⟩)
  refine s_word (σ := .inl f) ⟨by decide, by decide⟩ t2 (fun w3 f3 t3 => ⟨_, rfl, fun _ => ?_, fun z => absurd rfl z⟩)
  refine s_fail (σ := .inl f) t3 (fun w4 f4 t4 => ⟨rfl, ?_⟩)
  exact dl_numD (d := d + 2) (by omega) (hF.tr (hT (f1.tr (f2.tr (f3.tr f4))))) t4 (fun w g t => ⟨rfl, h w g t⟩)
set_option maxHeartbeats 1000000 in
theorem s_lawLineA {D L a : Nat} {B : Nat → Nat} {x : lpL} {u0 u : zM} {K : zM → Prop} (hD : 27 ≤ D) (hF : dlF u0 u) (hr : tkA u B L a) (hC : dvC u x.2.1) (hN : dvN u x) (hx : x.1 < 12) (he : x.2.1.1 < a + 1)
    (h : ∀ w, dlF u0 w → tkS w B L (lnS B L (.inr a, x)).1 → (∀ c, (lnS B L (.inr a, x)).1 = .inr c → dvN w (lnS B L (.inr a, x)).2 ∧ dvC w (lnS B L (.inr a, x)).2.2.1) → K w) : zCV D 88 [.ref 1, .ref 31] u K := by
  obtain ⟨d, rfl⟩ : ∃ d, D = d + 4 := ⟨D - 4, by omega⟩
  have hT : ∀ {u w : zM}, tkF u w → dlF u w := fun h => ⟨fun c a _ => h.1 c a, h.2⟩
  have n0 := nxB_le (B := B) hr.2.1
  have kp : ∀ {w : zM}, tkF u w → dvN w x ∧ dvC w x.2.1 := fun {w} f => by
    refine ⟨?_, hC.f f⟩
    unfold dvN
    rw [f.1 31 (by decide), f.1 32 (by decide), f.1 33 (by decide), f.1 34 (by decide), f.1 35 (by decide)]
    exact hN
  have es : lnS B L (.inr a, x) = match lkW B L a with
    | none => (.inl a, x)
    | some kd => lnK B L (nxB B L a) x kd := rfl
  have e2 : ∀ j, sIs B L j (.inr a) = isW B L j a := fun _ => rfl
  -- a kind: its number
  have num : ∀ {w : zM} (kd : Nat) (SC : Int32), lkW B L a = some kd → SC = nI (kd + 9) → tkF u w → tkS w B L (.inr (nxB B L a)) → _ := fun {w} kd SC ek eS f t => dl_numA (d := d + 2) (kd := kd) (SC := SC) (x := x) (u0 := u0) (u := w) (a := nxB B L a) (K := fun w => (none : Option Value) = none ∧ K w) (by omega) (hF.tr (hT f)) t (kp f).2 (kp f).1 hx (by omega) eS (fun w2 g t2 c2 => ⟨rfl, h w2 g (by rw [es, ek]; exact t2) (by rw [es, ek]; exact c2)⟩)
  refine t2X8_readLawLine (k0 := 1) (k1 := 31) rfl rfl ?_
  refine s_word (σ := .inr a) ⟨by decide, by decide⟩ hr (fun w1 f1 t1 => ⟨_, rfl, ?_⟩)
  rw [e2]
  cases q1 : isW B L 2016 a
  · rw [nxW_no (σ := .inr a) q1] at t1
    refine ⟨fun _ => ?_, fun z => absurd rfl z⟩
    refine s_word (σ := .inr a) ⟨by decide, by decide⟩ t1 (fun w2 f2 t2 => ⟨_, rfl, ?_⟩)
    rw [e2]
    cases q2 : isW B L 2017 a
    · rw [nxW_no (σ := .inr a) q2] at t2
      refine ⟨fun _ => ?_, fun z => absurd rfl z⟩
      refine s_word (σ := .inr a) ⟨by decide, by decide⟩ t2 (fun w3 f3 t3 => ⟨_, rfl, ?_⟩)
      rw [e2]
      cases q3 : isW B L 2018 a
      · rw [nxW_no (σ := .inr a) q3] at t3
        refine ⟨fun _ => ?_, fun z => absurd rfl z⟩
        have ek : lkW B L a = none := by unfold lkW; rw [q1, q2, q3]; rfl
        refine s_fail (σ := .inr a) t3 (fun w4 f4 t4 => ⟨rfl, ?_⟩)
        exact dl_numD (d := d + 2) (f := a) (by omega) (hF.tr (hT (f1.tr (f2.tr (f3.tr f4))))) t4 (fun w g t => ⟨rfl, h w g (by rw [es, ek]; exact t) (fun c z => by rw [es, ek] at z; cases z)⟩)
      · rw [nxW_t q3] at t3
        exact ⟨fun z => absurd z (by decide), fun _ => num 2 _ (by unfold lkW; rw [q1, q2, q3]; rfl) rfl (f1.tr (f2.tr f3)) t3⟩
    · rw [nxW_t q2] at t2
      exact ⟨fun z => absurd z (by decide), fun _ => num 1 _ (by unfold lkW; rw [q1, q2]; rfl) rfl (f1.tr f2) t2⟩
  · rw [nxW_t q1] at t1
    exact ⟨fun z => absurd z (by decide), fun _ => num 0 _ (by unfold lkW; rw [q1]; rfl) rfl f1 t1⟩
/-! the lines one behind another, counted -/
theorem s_atEndI {d L : Nat} {B : Nat → Nat} {σ : Nat ⊕ Nat} {u : zM} {Q : Option Value → zM → Prop} (t : tkS u B L σ) (h : ∀ w, tkF u w → tkS w B L (endS L σ) → Q none w) :
    zCI (d + 1) 77 [.ref 1] u fun x4 w3 => ((¬ x4 = 0 → Q none w3) ∧ (x4 = 0 → (zCV (d + 1) 78 [.ref 1] w3 fun w5 => Q none w5))) :=
  s_atEnd (α := Unit) (P := fun s w => tkS w B L s.1 ∧ tkF u w) (x := ()) (σ := σ) (fun s w g => g.1) (fun σ τ x v w g f t2 => ⟨t2, g.2.tr f⟩) ⟨t, tkF.rf u⟩ (fun w g => h w g.2 g.1)
theorem nxW_up {B : Nat → Nat} {L k b : Nat} {σ : Nat ⊕ Nat} {u : zM} (t : tkS u B L σ) (h : nxW B L k σ = .inr b) : ∃ a, σ = .inr a ∧ a ≤ b := by
  cases σ with
  | inl f => cases h
  | inr a =>
    refine ⟨a, rfl, ?_⟩
    have n := nxB_le (B := B) t.2.1
    have h : (if isW B L k a = true then .inr (nxB B L a) else .inr a : Nat ⊕ Nat) = .inr b := h
    split at h
    · have := Sum.inr.inj h; omega
    · have := Sum.inr.inj h; omega
theorem s_readLoopI {d L N : Nat} {α : Type} {B : Nat → Nat} {a2 : Int32} {step : (Nat ⊕ Nat) × α → (Nat ⊕ Nat) × α} {P : Nat → (Nat ⊕ Nat) × α → zM → Prop} {Q : Option Value → zM → Prop} (hN : N ≤ 14) (hP1 : ∀ i s u, P i s u → tkS u B L s.1) (hP2 : ∀ i σ τ x u w, P i (σ, x) u → tkF u w → tkS w B L τ → (∀ b, τ = .inr b → ∃ a, σ = .inr a ∧ a ≤ b) → P i (τ, x) w)
    (hl : ∀ i s u (K : zM → Prop), i < N → P i s u → (∀ w, P (i + 1) (step s) w → K w) → ((a2 = 0 → zCV (d + 3) 85 [.ref 1, .ref 22] u K) ∧ (¬ a2 = 0 → zCV (d + 3) 88 [.ref 1, .ref 31] u K))) :
    ∀ r s u i, i + r = N → P i s u → (∀ w j, j ≤ N → P j (rdAll step B L r s) w → Q none w) → zRun (d + 3) false zcX8_read 0 Q 29 [(0, .ref 1), (1, .ref 22), (2, .int a2), (3, .int (nI N)), (4, .int 1), (5, .int (nI i))] [] u
  | 0, s, u, i, hi, hP, h => by
    refine t2X8_read_29 (k0 := 1) (k1 := 22) rfl rfl (br_t (by rw [nI_leI (by omega) (by omega)]; omega) ⟨fun _ => ?_, fun z => absurd z (by decide)⟩)
    refine s_fail (hP1 _ _ _ hP) (fun w f t => ⟨rfl, h w i (by omega) (hP2 i s.1 (sFl s.1) s.2 u w hP f t (fun b z => ?_))⟩)
    cases y : s.1 with
    | inl g => rw [y] at z; cases z
    | inr g => rw [y] at z; cases z
  | r + 1, s, u, i, hi, hP, h => by
    have go : ∀ w, P (i + 1) (step s) w → zCI (d + 3) 81 [.ref 1, .ref 2000] w fun x20 w19 => zRun (d + 3) false zcX8_read 0 Q 29 [(0, .ref 1), (1, .ref 22), (2, .int a2), (3, .int (nI N)), (4, .int x20), (5, .int (nI i + 1))] [] w19 := by
      intro w hw
      have ht := hP1 _ _ _ hw
      refine s_word ⟨by decide, by decide⟩ ht (fun w2 f2 t2 => ⟨_, rfl, ?_⟩)
      rw [nI_1 i]
      have e : rdAll step B L (r + 1) s = if sIs B L 2000 (step s).1 = true then rdAll step B L r (nxW B L 2000 (step s).1, (step s).2) else (endS L (step s).1, (step s).2) := rfl
      rw [e] at h
      cases q : sIs B L 2000 (step s).1
      · rw [q, if_neg (by decide)] at h
        rw [nxW_no q] at t2
        have g := s_atEndI (d := d + 2) (Q := Q) t2 (fun w3 f3 t3 => h w3 (i + 1) (by omega) (hP2 (i + 1) (step s).1 _ (step s).2 _ _ hw (f2.tr f3) t3 (fun b z => ⟨b, endS_a z, Nat.le_refl _⟩)))
        exact t2X8_read_29 (k0 := 1) (k1 := 22) rfl rfl ⟨fun _ => ⟨fun z => absurd rfl z, fun _ => g⟩, fun _ => br_t rfl ⟨fun z => absurd rfl z, fun _ => g⟩⟩
      · rw [q, if_pos rfl] at h
        exact s_readLoopI hN hP1 hP2 hl r _ w2 (i + 1) (by omega) (hP2 (i + 1) (step s).1 _ (step s).2 _ _ hw f2 t2 (fun b z => nxW_up ht z)) h
    have g := hl i s u _ (by omega) hP go
    exact t2X8_read_29 (k0 := 1) (k1 := 22) rfl rfl (br_f (by rw [nI_leI (by omega) (by omega)]; omega) (br_f (by decide) ⟨g.1, g.2⟩))
theorem s_readI {d L N : Nat} {α : Type} {B : Nat → Nat} {a2 : Int32} {step : (Nat ⊕ Nat) × α → (Nat ⊕ Nat) × α} {P : Nat → (Nat ⊕ Nat) × α → zM → Prop} {x : α} {u : zM} {Q : Option Value → zM → Prop} (hN : (a2 = 0 ∧ N = 14) ∨ (¬ a2 = 0 ∧ N = 12)) (hP1 : ∀ i s u, P i s u → tkS u B L s.1) (hP2 : ∀ i σ τ x u w, P i (σ, x) u → tkF u w → tkS w B L τ → (∀ b, τ = .inr b → ∃ a, σ = .inr a ∧ a ≤ b) → P i (τ, x) w)
    (hl : ∀ i s u (K : zM → Prop), i < N → P i s u → (∀ w, P (i + 1) (step s) w → K w) → ((a2 = 0 → zCV (d + 3) 85 [.ref 1, .ref 22] u K) ∧ (¬ a2 = 0 → zCV (d + 3) 88 [.ref 1, .ref 31] u K)))
    (hP : P 0 (.inr (skB B L 0), x) u) (h : ∀ w j, j ≤ N → P j (rdTx step B L N x) w → Q none w) : zCall (d + 4) false 84 [.ref 1, .ref 22, .int a2] u Q := by
  have t := hP1 _ _ _ hP
  have t' := t
  obtain ⟨⟨h4, hL, hB⟩, ha, u3, u4, u2, sk⟩ := t
  have main : ∀ b3, b3 = nI N → zCI (d + 3) 77 [.ref 1] u fun x2 w1 => ((¬ x2 = 0 → zRun (d + 3) false zcX8_read 0 Q 29 [(0, .ref 1), (1, .ref 22), (2, .int a2), (3, .int b3), (4, .int 0), (5, .int 0)] [] w1) ∧ (x2 = 0 → zRun (d + 3) false zcX8_read 0 Q 29 [(0, .ref 1), (1, .ref 22), (2, .int a2), (3, .int b3), (4, .int 1), (5, .int 0)] [] w1)) := by
    intro b3 eb
    subst eb
    refine tX7_atEnd (k0 := 1) rfl ?_
    rw [u3, hL, nI_ltI (by omega) (by omega)]
    refine ⟨fun z => ⟨_, rfl, fun z2 => absurd rfl z2, fun _ => ?_⟩, fun z => ⟨_, rfl, fun _ => ?_, fun z2 => absurd z2 (by decide)⟩⟩
    · have e : rdTx step B L N x = rdAll step B L N (.inr (skB B L 0), x) := by unfold rdTx; rw [if_neg (by omega)]
      rw [e] at h
      exact s_readLoopI (by omega) hP1 hP2 hl N _ u 0 (by omega) hP h
    · have e : rdTx step B L N x = (.inr L, x) := by unfold rdTx; rw [if_pos (by omega)]
      rw [e] at h
      have el : skB B L 0 = L := by omega
      have g := s_atEndI (d := d + 2) (Q := Q) t' (fun w3 f3 t3 => h w3 0 (Nat.zero_le _) (hP2 0 (.inr (skB B L 0)) (.inr L) x _ _ hP f3 (by
        have e2 : endS L (.inr (skB B L 0)) = .inr L := by
          show (if skB B L 0 = L then _ else _) = _
          rw [if_pos el, el]
        rw [← e2]; exact t3) (fun b z => ⟨skB B L 0, rfl, by have := Sum.inr.inj z; omega⟩)))
      exact t2X8_read_29 (k0 := 1) (k1 := 22) rfl rfl ⟨fun _ => ⟨fun z => absurd rfl z, fun _ => g⟩, fun _ => br_t rfl ⟨fun z => absurd rfl z, fun _ => g⟩⟩
  rcases hN with ⟨rfl, rfl⟩ | ⟨ha2, rfl⟩
  · exact t2X8_read (k0 := 1) (k1 := 22) rfl rfl (br_t rfl (main 14 rfl))
  · exact t2X8_read (k0 := 1) (k1 := 22) rfl rfl (br_f ha2 (main 12 rfl))
def lw0 : lpL := (0, (0, fun _ => 0, fun _ => 0), fun _ => 0, fun _ => 0, fun _ => 0, fun _ => 0)
def lwT (B : Nat → Nat) (L : Nat) : (Nat ⊕ Nat) × lpL := rdTx (lnS B L) B L 12 lw0
/-- while THE LAW is read -/
def dwP (u1 : zM) (B : Nat → Nat) (L i : Nat) (s : (Nat ⊕ Nat) × lpL) (w : zM) : Prop := dlF u1 w ∧ tkS w B L s.1 ∧ ∀ a, s.1 = .inr a → dvN w s.2 ∧ dvC w s.2.2.1 ∧ lnO s.2 a ∧ s.2.1 = i
theorem s_lawRead {L : Nat} {B : Nat → Nat} {u : zM} {K : zM → Prop} (hD : zDtx u B L) (h6 : u 31 6 = 0) (h7 : u 31 7 = 0)
    (h : ∀ w, dlF u w → tkS w B L (lwT B L).1 → (∀ a, (lwT B L).1 = .inr a → dvN w (lwT B L).2 ∧ dvC w (lwT B L).2.2.1 ∧ lnO (lwT B L).2 a ∧ (lwT B L).2.1 ≤ 12) → K w) :
    zCV 59 75 [.ref 1] u fun w3 => zCV 59 84 [.ref 1, .ref 22, .int 1] w3 fun w5 => K w5 := by
  refine s_startText hD (fun w3 f3 t3 => ⟨rfl, ?_⟩)
  have hT : ∀ {u w : zM}, tkF u w → dlF u w := fun h => ⟨fun c a _ => h.1 c a, h.2⟩
  refine s_readI (step := lnS B L) (P := dwP u B L) (N := 12) (x := lw0) (Or.inr ⟨by decide, rfl⟩) (fun i s w g => g.2.1) (fun i σ τ x v w g f t hb => ⟨g.1.tr (hT f), t, fun b z => ?_⟩) (fun i s v K2 hi g hK => ⟨fun z => absurd z (by decide), fun _ => ?_⟩) ⟨hT f3, t3, fun a _ => ⟨⟨?_, fun l hl => absurd hl (Nat.not_lt_zero _)⟩, ⟨?_, Nat.zero_le _, fun i hi => absurd hi (Nat.not_lt_zero _)⟩, ⟨Nat.succ_pos _, fun i hi => absurd hi (Nat.not_lt_zero _), fun l hl => absurd hl (Nat.not_lt_zero _)⟩, rfl⟩⟩ (fun w j hj g => ⟨rfl, h w g.1 g.2.1 (fun a z => ?_)⟩)
  · obtain ⟨a, ea, ab⟩ := hb b z
    obtain ⟨g1, g2, g3, g4⟩ := g.2.2 a ea
    refine ⟨?_, g2.f f, g3.up ab, g4⟩
    unfold dvN
    rw [f.1 31 (by decide), f.1 32 (by decide), f.1 33 (by decide), f.1 34 (by decide), f.1 35 (by decide)]
    exact g1
  · obtain ⟨σ, x⟩ := s
    cases σ with
    | inl f => exact s_lawLineD (by omega) g.1 g.2.1 (fun w f1 t1 => hK w ⟨f1, t1, fun a z => by cases z⟩)
    | inr a =>
      obtain ⟨g1, g2, g3, g4⟩ := g.2.2 a rfl
      have g4 : x.1 = i := g4
      refine s_lawLineA (x := x) (by omega) g.1 g.2.1 g2 g1 (by omega) g3.1 (fun w f1 t1 c1 => hK w ⟨f1, t1, fun c z => ?_⟩)
      obtain ⟨k1, k2⟩ := c1 c z
      obtain ⟨o1, o2⟩ := lnS_ok (show a ≤ L from g.2.1.2.1) g3 z
      exact ⟨k1, k2, o2, by rw [o1, g4]⟩
  · rw [f3.1 31 (by decide)]; exact h6
  · rw [f3.1 31 (by decide)]; exact h7
  · obtain ⟨g1, g2, g3, g4⟩ := g.2.2 a z
    exact ⟨g1, g2, g3, by show (rdTx (lnS B L) B L 12 lw0).2.1 ≤ 12; omega⟩
