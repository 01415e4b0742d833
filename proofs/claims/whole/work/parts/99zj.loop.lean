/-! the lines of a text, one behind another -/
def endS (L : Nat) (σ : Nat ⊕ Nat) : Nat ⊕ Nat := match σ with
  | .inl f => .inl f
  | .inr a => if a = L then .inr a else .inl a
def rdAll {α : Type} (step : (Nat ⊕ Nat) × α → (Nat ⊕ Nat) × α) (B : Nat → Nat) (L : Nat) : Nat → (Nat ⊕ Nat) × α → (Nat ⊕ Nat) × α
  | 0, s => (sFl s.1, s.2)
  | r + 1, s => if sIs B L 2000 (step s).1 = true then rdAll step B L r (nxW B L 2000 (step s).1, (step s).2) else (endS L (step s).1, (step s).2)
theorem s_atEnd {d L : Nat} {α : Type} {B : Nat → Nat} {P : (Nat ⊕ Nat) × α → zM → Prop} {x : α} {σ : Nat ⊕ Nat} {u : zM} {Q : Option Value → zM → Prop} (hP1 : ∀ s u, P s u → tkS u B L s.1) (hP2 : ∀ σ τ x u w, P (σ, x) u → tkF u w → tkS w B L τ → P (τ, x) w) (hP : P (σ, x) u) (h : ∀ w, P (endS L σ, x) w → Q none w) :
    zCI (d + 1) 77 [.ref 1] u fun x4 w3 => ((¬ x4 = 0 → Q none w3) ∧ (x4 = 0 → (zCV (d + 1) 78 [.ref 1] w3 fun w5 => Q none w5))) := by
  have t := hP1 _ _ hP
  obtain ⟨a, ha, u3, u4⟩ := t.at
  obtain ⟨h4, hL, hB⟩ := t.dtx
  refine tX7_atEnd (k0 := 1) rfl ?_
  rw [u3, hL, nI_ltI (by omega) (by omega)]
  refine ⟨fun z => ⟨_, rfl, fun z2 => absurd rfl z2, fun _ => s_fail t (fun w f t2 => ⟨rfl, ?_⟩)⟩, fun z => ⟨_, rfl, fun _ => ?_, fun z2 => absurd z2 (by decide)⟩⟩
  · have e : endS L σ = sFl σ := by
      cases σ with
      | inl f => rfl
      | inr b =>
        have eb : b = a := by
          have g := t.2.2.1
          rw [u3, nI_eq (by omega) (by have := t.2.1; omega)] at g
          exact g.symm
        show (if b = L then _ else _) = _
        rw [if_neg (by omega)]; rfl
    exact h w (by rw [e]; exact hP2 _ _ _ _ _ hP f t2)
  · have e : endS L σ = σ := by
      cases σ with
      | inl f => rfl
      | inr b =>
        have eb : b = a := by
          have g := t.2.2.1
          rw [u3, nI_eq (by omega) (by have := t.2.1; omega)] at g
          exact g.symm
        show (if b = L then _ else _) = _
        rw [if_pos (by omega)]
    exact h u (by rw [e]; exact hP)
/-- the text's end is wanted -/
theorem s_needEnd0 {d L : Nat} {α : Type} {B : Nat → Nat} {P : (Nat ⊕ Nat) × α → zM → Prop} {x : α} {σ : Nat ⊕ Nat} {u : zM} {Q : Option Value → zM → Prop} (hP1 : ∀ s u, P s u → tkS u B L s.1) (hP2 : ∀ σ τ x u w, P (σ, x) u → tkF u w → tkS w B L τ → P (τ, x) w) (hP : P (σ, x) u) (h : ∀ w, P (endS L σ, x) w → Q none w) : zCall (d + 2) false 361 [.ref 1, .int 0] u Q :=
  t2X7_needEnd (k0 := 1) rfl ⟨fun z => absurd rfl z, fun _ => s_atEnd hP1 hP2 hP h⟩
theorem s_needEnd1 {d L : Nat} {B : Nat → Nat} {σ : Nat ⊕ Nat} {u : zM} {Q : Option Value → zM → Prop} (hU : tkS u B L σ) (h : ∀ w, tkF u w → tkS w B L (sFl σ) → Q none w) : zCall (d + 2) false 361 [.ref 1, .int 1] u Q :=
  t2X7_needEnd (k0 := 1) rfl ⟨fun _ => s_fail hU (fun w f t => ⟨rfl, h w f t⟩), fun z => absurd z (by decide)⟩
theorem s_readEnd {d L : Nat} {α : Type} {B : Nat → Nat} {b3 : Int32} {P : (Nat ⊕ Nat) × α → zM → Prop} {x : α} {σ : Nat ⊕ Nat} {u : zM} {Q : Option Value → zM → Prop} (hP1 : ∀ s u, P s u → tkS u B L s.1) (hP2 : ∀ σ τ x u w, P (σ, x) u → tkF u w → tkS w B L τ → P (τ, x) w) (hP : P (σ, x) u) (h : ∀ w, P (endS L σ, x) w → Q none w) :
    zRun (d + 2) false zcX8_readSuburb 0 Q 15 [(0, .ref 1), (1, .ref 22), (2, .int 0), (3, .int b3)] [] u := by
  have g : zCV (d + 2) 361 [.ref 1, .int 0] u fun w => Q none w := s_needEnd0 (d := d) hP1 hP2 hP (fun w g => ⟨rfl, h w g⟩)
  exact t2X8_readSuburb_15 (k0 := 1) (k1 := 22) rfl rfl ⟨fun _ => g, fun _ => ⟨fun _ => g, fun z => absurd rfl z⟩⟩
theorem s_readLoop {d L : Nat} {α : Type} {B : Nat → Nat} {step : (Nat ⊕ Nat) × α → (Nat ⊕ Nat) × α} {P : (Nat ⊕ Nat) × α → zM → Prop} {Q : Option Value → zM → Prop} (hP1 : ∀ s u, P s u → tkS u B L s.1) (hP2 : ∀ σ τ x u w, P (σ, x) u → tkF u w → tkS w B L τ → P (τ, x) w)
    (hl : ∀ s u (K : zM → Prop), P s u → (∀ w, P (step s) w → K w) → zCV (d + 3) 85 [.ref 1, .ref 22] u K) :
    ∀ r s u i, i + r = 14 → P s u → (∀ w, P (rdAll step B L r s) w → Q none w) → zRun (d + 3) false zcX8_readSuburb 0 Q 15 [(0, .ref 1), (1, .ref 22), (2, .int 1), (3, .int (nI i))] [] u
  | 0, s, u, i, hi, hP, h => by
    have g : zCV (d + 3) 361 [.ref 1, .int 1] u fun w => Q none w := s_needEnd1 (d := d + 1) (hP1 _ _ hP) (fun w f t => ⟨rfl, h w (hP2 s.1 (sFl s.1) s.2 u w hP f t)⟩)
    exact t2X8_readSuburb_15 (k0 := 1) (k1 := 22) rfl rfl (br_t (by rw [nI_lit, nI_leI (by omega) (by omega)]; show 14 ≤ i; omega) g)
  | r + 1, s, u, i, hi, hP, h => by
    have go : ∀ w, P (step s) w → zCI (d + 3) 81 [.ref 1, .ref 2000] w fun x20 w19 => zRun (d + 3) false zcX8_readSuburb 0 Q 15 [(0, .ref 1), (1, .ref 22), (2, .int x20), (3, .int (nI i + 1))] [] w19 := by
      intro w hw
      refine s_word ⟨by decide, by decide⟩ (hP1 _ _ hw) (fun w2 f2 t2 => ⟨_, rfl, ?_⟩)
      rw [nI_1 i]
      have e : rdAll step B L (r + 1) s = if sIs B L 2000 (step s).1 = true then rdAll step B L r (nxW B L 2000 (step s).1, (step s).2) else (endS L (step s).1, (step s).2) := rfl
      rw [e] at h
      cases q : sIs B L 2000 (step s).1
      · rw [q, if_neg (by decide)] at h
        rw [nxW_no q] at t2
        exact s_readEnd hP1 hP2 (hP2 _ _ _ _ _ hw f2 t2) h
      · rw [q, if_pos rfl] at h
        exact s_readLoop hP1 hP2 hl r _ w2 (i + 1) (by omega) (hP2 (step s).1 _ (step s).2 _ _ hw f2 t2) h
    exact t2X8_readSuburb_15 (k0 := 1) (k1 := 22) rfl rfl (br_f (by rw [nI_lit, nI_leI (by omega) (by omega)]; show ¬ 14 ≤ i; omega) (br_f (by decide) (hl s u _ hP go)))
/-- what a text's reading gives -/
def rdTx {α : Type} (step : (Nat ⊕ Nat) × α → (Nat ⊕ Nat) × α) (B : Nat → Nat) (L N : Nat) (x : α) : (Nat ⊕ Nat) × α := if skB B L 0 = L then (.inr L, x) else rdAll step B L N (.inr (skB B L 0), x)
theorem s_read {d L : Nat} {α : Type} {B : Nat → Nat} {step : (Nat ⊕ Nat) × α → (Nat ⊕ Nat) × α} {P : (Nat ⊕ Nat) × α → zM → Prop} {x : α} {u : zM} {Q : Option Value → zM → Prop} (hP1 : ∀ s u, P s u → tkS u B L s.1) (hP2 : ∀ σ τ x u w, P (σ, x) u → tkF u w → tkS w B L τ → P (τ, x) w)
    (hl : ∀ s u (K : zM → Prop), P s u → (∀ w, P (step s) w → K w) → zCV (d + 3) 85 [.ref 1, .ref 22] u K)
    (hP : P (.inr (skB B L 0), x) u) (h : ∀ w, P (rdTx step B L 14 x) w → Q none w) : zCall (d + 4) false 84 [.ref 1, .ref 22] u Q := by
  have t := hP1 _ _ hP
  obtain ⟨⟨h4, hL, hB⟩, ha, u3, u4, u2, sk⟩ := t
  refine t2X8_readSuburb (k0 := 1) (k1 := 22) rfl rfl ?_
  refine tX7_atEnd (k0 := 1) rfl ?_
  rw [u3, hL, nI_ltI (by omega) (by omega)]
  refine ⟨fun z => ⟨_, rfl, fun z2 => absurd rfl z2, fun _ => ?_⟩, fun z => ⟨_, rfl, fun _ => ?_, fun z2 => absurd z2 (by decide)⟩⟩
  · have e : rdTx step B L 14 x = rdAll step B L 14 (.inr (skB B L 0), x) := by unfold rdTx; rw [if_neg (by omega)]
    rw [e] at h
    exact s_readLoop hP1 hP2 hl 14 _ u 0 (by omega) hP h
  · have e : rdTx step B L 14 x = (.inr L, x) := by unfold rdTx; rw [if_pos (by omega)]
    rw [e] at h
    have el : skB B L 0 = L := by omega
    have e2 : endS L (.inr (skB B L 0)) = .inr L := by
      show (if skB B L 0 = L then _ else _) = _
      rw [if_pos el, el]
    exact s_readEnd hP1 hP2 hP (fun w g => h w (by rw [← e2]; exact g))
theorem s_startText {d L : Nat} {B : Nat → Nat} {u : zM} {Q : Option Value → zM → Prop} (hU : zDtx u B L) (h : ∀ w, tkF u w → tkA w B L (skB B L 0) → Q none w) : zCall (d + 3) false 75 [.ref 1] u Q := by
  refine tX7_startText (k0 := 1) rfl (fun m1 e1 m2 e2 => ?_)
  obtain ⟨h4, hL, hB⟩ := hU
  have c2 : ∀ c, c ≠ 1 → m2 c = u c := fun c a => by rw [e2, zUp_k _ _ a, e1, zUp_k _ _ a]
  have t2 := skB_le (B := B) (Nat.zero_le L)
  refine s_goOn (t := 0) (L := L) (B := B) ⟨h4, by rw [e2, zUp_j _ _ (by decide), e1, zUp_j _ _ (by decide)]; exact hL, fun i hi => ⟨(hB i hi).1, by rw [c2 2 (by decide)]; exact (hB i hi).2⟩⟩ (by rw [e2, zUp_at]; rfl) (Nat.zero_le _) (fun w f g w3 w4 => ⟨rfl, h w ⟨fun c a => (f c a).trans (c2 c a), fun j a b c => ?_⟩ ?_⟩)
  · rw [g j b c, e2, zUp_j _ _ c, e1, zUp_j _ _ a]
  · refine ⟨⟨h4, ?_, fun i hi => ⟨(hB i hi).1, by rw [f 2 (by decide), c2 2 (by decide)]; exact (hB i hi).2⟩⟩, t2.2, w3, w4, ?_, skB_idem (Nat.zero_le _)⟩
    · rw [g 1 (by decide) (by decide), e2, zUp_j _ _ (by decide), e1, zUp_j _ _ (by decide)]; exact hL
    · rw [g 2 (by decide) (by decide), e2, zUp_j _ _ (by decide), e1, zUp_at]
/-! of the reference -/
theorem r_readLoop {d L N : Nat} {α : Type} {B : Nat → Nat} {a1 : Int32} {step : (Nat ⊕ Nat) × α → (Nat ⊕ Nat) × α} {R : Nat → Nat → α → zM → Prop} {F : zM → Prop} {Q : Option Value → zM → Prop} (hN : N ≤ 14) (hR1 : ∀ n a x u, R n a x u → rkA u B L a) (hR2 : ∀ n a b x u w, R n a x u → rkF u w → rkA w B L b → a ≤ b → R n b x w) (hF : ∀ n a x u w, R n a x u → rkF u w → F w)
    (hl : ∀ n a x u (K : Int32 → zM → Prop), n < N → R n a x u → (∀ f w, F w → (step (.inr a, x)).1 = .inl f → w 128 13 = nI f → K 0 w) → (∀ c w, (step (.inr a, x)).1 = .inr c → R (n + 1) c (step (.inr a, x)).2 w → K 1 w) → zCI (d + 4) 227 [.ref 128, .int a1, .int (nI n)] u K)
    (hz : ∀ a x u (K : Int32 → zM → Prop), R N a x u → (∀ w, F w → w 128 13 = nI a → K 0 w) → zCI (d + 4) 227 [.ref 128, .int a1, .int (nI N)] u K) :
    ∀ r n a x u, n + r = N → R n a x u → (∀ f w, F w → (rdAll step B L r (.inr a, x)).1 = .inl f → w 128 13 = nI f → Q (some (.int (-1))) w) → (∀ m c w, m ≤ N → (rdAll step B L r (.inr a, x)).1 = .inr c → R m c (rdAll step B L r (.inr a, x)).2 w → Q (some (.int (nI m))) w) →
      zRun (d + 4) false zcX12_readAll 1 Q 28 [(0, .ref 128), (1, .int a1), (2, .int (nI n))] [] u
  | 0, n, a, x, u, hn, hR, h0, h1 => by
    have en : n = N := by omega
    subst en
    refine tX12_readAll_28 (hz a x u _ hR (fun w fw bw => ⟨fun z => absurd rfl z, fun _ => h0 a w fw rfl bw⟩))
  | r + 1, n, a, x, u, hn, hR, h0, h1 => by
    have e : rdAll step B L (r + 1) (.inr a, x) = if sIs B L 2000 (step (.inr a, x)).1 = true then rdAll step B L r (nxW B L 2000 (step (.inr a, x)).1, (step (.inr a, x)).2) else (endS L (step (.inr a, x)).1, (step (.inr a, x)).2) := rfl
    rw [e] at h0 h1
    refine tX12_readAll_28 (hl n a x u _ (by omega) hR (fun f w fw ef bw => ⟨fun z => absurd rfl z, fun _ => ?_⟩) (fun c w ec hw => ⟨fun _ => ?_, fun z => absurd z (by decide)⟩))
    · rw [ef] at h0
      exact h0 f w fw rfl bw
    · rw [ec] at h0 h1
      have rc := hR1 _ _ _ _ hw
      have lc := rc.le
      obtain ⟨p, g, ep⟩ := rc
      refine s_blanks g (fun w2 f1 f2 b2 t2 => ⟨rfl, ?_⟩)
      have t2 : zRtx w2 B L c := by rw [← ep]; exact t2
      have b2 : w2 128 13 = nI c := by rw [← ep]; exact b2
      have rf : rkF w w2 := ⟨f1, f2⟩
      have hw2 := hR2 _ _ c _ _ _ hw rf ⟨c, t2, lc.2.1⟩ (Nat.le_refl _)
      dsimp only
      rw [t2.2.2.2.1, t2.2.2.1, nI_eq (by omega) (by omega)]
      by_cases q : c = L
      · refine ⟨fun z => absurd q z, fun _ => ?_⟩
        have no : sIs B L 2000 (.inr c) = false := by
          cases z : sIs B L 2000 (.inr c)
          · rfl
          · have := (isW_lt ⟨by decide, by decide⟩ lc.1 z).2
            omega
        rw [no, if_neg (by decide)] at h1
        rw [nI_1 n]
        exact h1 (n + 1) c w2 (by omega) (by show (if c = L then _ else _) = _; rw [if_pos q]) hw2
      · refine ⟨fun _ => ?_, fun z => absurd z q⟩
        refine s_isAt (lo := 59) (hi := 59) rfl rfl (by decide) (by decide) t2 ⟨_, rfl, ?_⟩
        have k1 : zTn (2000 - 2000) = 1 := by decide +kernel
        have k2 : zTc (2000 - 2000) 0 = nI 59 := by decide +kernel
        have k3 : soB 59 = 2 := by decide +kernel
        have ws := isW_s (B := B) (L := L) (k := 2000) (a := c) k1 k2 (by decide) k3 lc.1 (fun i hi => (t2.2.2.2.2 i hi).1)
        rw [← ws]
        cases z : isW B L 2000 c
        · refine ⟨fun z2 => absurd rfl z2, fun _ => ?_⟩
          rw [show sIs B L 2000 (.inr c) = false from z, if_neg (by decide)] at h0
          exact h0 c w2 (hF _ _ _ _ _ hw rf) (by show (if c = L then _ else _) = _; rw [if_neg q]) b2
        · refine ⟨fun _ => ?_, fun z2 => absurd z2 (by decide)⟩
          rw [show sIs B L 2000 (.inr c) = true from z, if_pos rfl, nxW_t z] at h0 h1
          have z' := z
          rw [ws, Bool.and_eq_true, decide_eq_true_eq] at z'
          have bc : B c = 59 := by have := of_decide_eq_true z'.2; omega
          have te : teB B L c = c + 1 := by unfold teB; rw [if_pos z'.1, bc, if_pos k3]
          rw [t2.2.2.2.1, nI_1 c, nI_1 n]
          obtain ⟨h4, hp, u12, u11, hB⟩ := t2
          have rf2 : rkF w2 (zUp w2 128 11 (nI (c + 1))) := ⟨fun c x => zUp_k _ _ x, fun j x _ => zUp_j _ _ x⟩
          have hw3 := hR2 _ _ (nxB B L c) _ _ _ hw2 rf2 ⟨c + 1, ⟨h4, by omega, (zUp_j _ _ (by decide)).trans u12, zUp_at _ _ _ _, by rw [zUp_k _ _ (by decide)]; exact hB⟩, by unfold nxB; rw [te]⟩ (nxB_le (B := B) lc.1).1
          exact r_readLoop hN hR1 hR2 hF hl hz r (n + 1) (nxB B L c) _ _ (by omega) hw3 h0 h1
