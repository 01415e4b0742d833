/-! THE LAW: the pair of calls -/
theorem rdN_row {W V : Nat → Int32} (e : ∀ k, 11 ≤ k → k < 155 → V k = W k) : rdN V = rdN W := by
  funext a b
  unfold rdN
  by_cases q : a < 12 ∧ b < 12
  · rw [if_pos q, if_pos q, e _ (by omega) (by omega)]
  · rw [if_neg q, if_neg q]
theorem zTrT.row3 {u : zM} {n : Nat} {W V : Nat → Int32} (e : ∀ k, 11 ≤ k → k < 155 → V k = W k) (e2 : ∀ s, V (163 + 9 * s) = W (163 + 9 * s)) (h : zTrT u n W) : zTrT u n V := by
  have a : zFar V = zFar W := by unfold zFar; rw [rdN_row e]
  have b : cnN V = cnN W := by funext s; unfold cnN; rw [e2 s]
  unfold zTrT
  rw [a, b]
  exact h
theorem zInv_row {u z : zM} {n : Nat} (hI : zInv u n) (f : ∀ c, zCare c = true → c ≠ 2 → c ≠ 135 → c ≠ 129 → z c = u c) (e : ∀ k, k < 1324 → z 129 k = u 129 k) (g6 : z 128 6 = u 128 6) (g7 : z 128 7 = u 128 7) (hT : zTp z) : zInv z n := by
  obtain ⟨c, l, t, p, i, k⟩ := hI
  have cr : ∀ x, (x = 0 ∨ (4 ≤ x ∧ x ≤ 18) ∨ (42 ≤ x ∧ x ≤ 56) ∨ (60 ≤ x ∧ x ≤ 122) ∨ x = 124 ∨ x = 130 ∨ x = 133 ∨ x = 134) → z x = u x := fun x hx => f x (by simp only [zCare, Bool.or_eq_true, Bool.and_eq_true, decide_eq_true_eq, beq_iff_eq]; omega) (by omega) (by omega) (by omega)
  have eb : zBase (u 129) (z 129) := ⟨fun k a b => e k (by omega), e 2 (by decide), e 0 (by decide), fun s hs => e _ (by omega)⟩
  refine ⟨⟨c.1.row (fun k a => e k (by omega)), fun a b ha hb => ?_, ?_, ?_⟩, ?_, hT, ?_, ?_, ?_, ?_⟩
  · rw [cr 134 (by omega), rdN_row (W := u 129) (fun k a b => e k (by omega))]; exact c.2.1 a b ha hb
  · exact (c.2.2.1.row (fun k a => e k (by omega))).congr (fun x a b => cr x (by omega))
  · exact (c.2.2.2.row (fun k a b => e k (by omega))).congr (cr 10 (by omega)) (cr 11 (by omega))
  · exact (l.row2 (e 2 (by decide)) (fun k a b => e k b)).congr (by rw [cr 12 (by omega)]) (fun x a b => cr x (by omega))
  · obtain ⟨A, N, hA, hN, a1, a2, a3, a4⟩ := p
    refine ⟨A, N, hA, hN, by rw [cr 0 (by omega)]; exact a1, by rw [g7]; exact a2, by rw [cr 0 (by omega)]; exact a3, fun j hj => ?_⟩
    obtain ⟨b1, b2, b3⟩ := a4 j hj
    have hm : (N + 12 - A + j) % 12 < 12 := Nat.mod_lt _ (by decide)
    rw [zAct.congr (cr 133 (by omega))]
    refine ⟨b1, b2.congr (fun c x y => cr c (by omega)), fun k x y => ?_, ?_, ?_, fun s hs => ?_⟩
    · rw [e k (by omega)]; exact b3.1 k x y
    · rw [e 2 (by decide)]; exact b3.2.1
    · rw [e 0 (by decide)]; exact b3.2.2.1
    · rw [e _ (by omega)]; exact b3.2.2.2 s hs
  · exact i.congr (by rw [cr 0 (by omega)]) g6 (cr 130 (by omega)) (fun x a b => cr x (by omega))
  · rcases k.1 with q | ⟨q1, q2⟩
    · exact Or.inl (by rw [cr 121 (by omega)]; exact q)
    · refine Or.inr ⟨by rw [cr 121 (by omega)]; exact q1, ?_⟩
      have g := zTrT.base c.1.1.1 eb q2
      unfold zTrT at g ⊢
      rw [cr 122 (by omega)]
      exact g
  · rw [cr 124 (by omega)]; exact k.2
/-- the law that was read -/
def lwV2 (V : Nat → Int32) (x : lpL) : Prop := V 475 = nI x.1 ∧ (∀ l, l < x.1 → V (476 + 4 * l) = nI (x.2.2.1 l) ∧ V (476 + 4 * l + 1) = nI (x.2.2.2.1 l) ∧ V (476 + 4 * l + 2) = nI (x.2.2.2.2.1 l) ∧ V (476 + 4 * l + 3) = nI (x.2.2.2.2.2 l)) ∧ ∀ i, i < x.2.1.1 → V (524 + 2 * i) = nI (x.2.1.2.1 i) ∧ V (525 + 2 * i) = nI (x.2.1.2.2 i)
theorem lw_ok {V : Nat → Int32} {x : lpL} {a : Nat} (h : lwV2 V x) (hO : lnO x a) (ha : a ≤ 400) (hn : x.1 ≤ 12) : lwOk V x.1 x.2.1.1 ∧ (∀ i, i < x.2.1.1 → lwC V i = x.2.1.2.1 i ∧ lwV V i = x.2.1.2.2 i) ∧ ∀ l, l < x.1 → lwK V l = x.2.2.1 l ∧ lwA V l = x.2.2.2.1 l ∧ lwB V l = x.2.2.2.2.1 l ∧ lwE V l = x.2.2.2.2.2 l := by
  obtain ⟨o1, o2, o3⟩ := hO
  obtain ⟨h1, h2, h3⟩ := h
  have cc : ∀ i, i < x.2.1.1 → lwC V i = x.2.1.2.1 i := fun i hi => by unfold lwC; rw [(h3 i hi).1, nI_clamp (by have := (o2 i hi).1; omega)]
  have cv : ∀ i, i < x.2.1.1 → lwV V i = x.2.1.2.2 i := fun i hi => by unfold lwV; rw [(h3 i hi).2, nI_clamp (by have := (o2 i hi).2; omega)]
  have kk : ∀ l, l < x.1 → lwK V l = x.2.2.1 l := fun l hl => by unfold lwK; rw [(h2 l hl).1, nI_clamp (by have := (o3 l hl).1; omega)]
  have aa : ∀ l, l < x.1 → lwA V l = x.2.2.2.1 l := fun l hl => by unfold lwA; rw [(h2 l hl).2.1, nI_clamp (by have := (o3 l hl).2.1; omega)]
  have bb : ∀ l, l < x.1 → lwB V l = x.2.2.2.2.1 l := fun l hl => by unfold lwB; rw [(h2 l hl).2.2.1, nI_clamp (by have := (o3 l hl).2.2.1; have := (o3 l hl).2.2.2.1; omega)]
  have ee : ∀ l, l < x.1 → lwE V l = x.2.2.2.2.2 l := fun l hl => by unfold lwE; rw [(h2 l hl).2.2.2, nI_clamp (by have := (o3 l hl).2.2.2.1; omega)]
  refine ⟨⟨hn, by omega, h1, fun i hi => ?_, fun l hl => ?_⟩, fun i hi => ⟨cc i hi, cv i hi⟩, fun l hl => ⟨kk l hl, aa l hl, bb l hl, ee l hl⟩⟩
  · rw [cc i hi, cv i hi]
    exact ⟨(h3 i hi).1, (o2 i hi).1, (h3 i hi).2, (o2 i hi).2⟩
  · obtain ⟨p1, p2, p3, p4, p5⟩ := o3 l hl
    obtain ⟨g1, g2, g3, g4⟩ := h2 l hl
    rw [kk l hl, aa l hl, bb l hl, ee l hl]
    refine ⟨⟨g1, p1⟩, ⟨g2, p2⟩, g3, g4, p3, p4, p5.imp id (fun t => ?_)⟩
    rw [tyEv_cong (D := x.2.1.2.1) _ (fun k hk => cc k (by omega))]
    exact t
theorem lw_rel {V : Nat → Int32} {w : zM} {x : lpL} {a : Nat} (h2 : V 2 = 1) (h : lwV2 V x) (hO : lnO x a) (ha : a ≤ 400) (hn : x.1 ≤ 12) (hN : dvN w x) (hC : dvC w x.2.1) : lwRel w 31 V := by
  obtain ⟨k1, k2, k3⟩ := lw_ok h hO ha hn
  refine ⟨fun q => absurd h2 q, fun _ => ⟨x.1, x.2.1.1, k1, hN.1, fun i hi => ?_, fun l hl => ?_⟩⟩
  · rw [(k2 i hi).1, (k2 i hi).2]
    exact hC.2.2 i hi
  · obtain ⟨j1, j2, j3, j4⟩ := k3 l hl
    rw [j1, j2, j3, j4]
    exact hN.2 l hl
def mlF (x z : zM) : Prop := (∀ c, c ≠ 128 → c ≠ 129 → z c = x c) ∧ (∀ j, j ≠ 0 → j ≠ 7 → j ≠ 10 → j ≠ 11 → j ≠ 12 → j ≠ 13 → j ≠ 14 → j ≠ 15 → j ≠ 17 → z 128 j = x 128 j) ∧ z 128 10 = 0
set_option maxHeartbeats 1000000 in
theorem m_law {L : Nat} {B : Nat → Nat} {x : zM} {Q : Option Value → zM → Prop} (h10 : x 128 10 = nI L) (h4 : L ≤ 400) (hB : ∀ i, i < L → B i < 256 ∧ x 135 i = (nI (B i)).toInt8.toInt32)
    (hd : ∀ f z, mlF x z → (lwT B L).1 = .inl f → (∀ k, k < 1324 → z 129 k = x 129 k) → z 128 7 = x 128 7 → z 128 0 = 1 → z 128 15 = nI f → Q (some (.int 0)) z)
    (ho : ∀ c z, mlF x z → (lwT B L).1 = .inr c → c ≤ 400 → lnO (lwT B L).2 c → (lwT B L).2.1 ≤ 12 → (∀ k, k < 475 → k ≠ 2 → z 129 k = x 129 k) → z 129 2 = 1 → lwV2 (z 129) (lwT B L).2 → z 128 7 = 0 → z 128 0 = 0 → z 128 15 = -1 → Q (some (.int (nI (lwT B L).2.1))) z) : zCall 60 false 230 [.ref 128] x Q := by
  refine tX12_law ?_
  refine r_lwAll (d := 27) h10 h4 hB (fun f w F e b => ⟨_, rfl, ?_⟩) (fun m c w hm e R => ⟨_, rfl, ?_⟩)
  · refine ⟨fun z => absurd z (by decide), fun _ => ⟨fun z => absurd z (by decide), fun _ => fun m7 e7 => ?_⟩⟩
    rw [b] at e7
    refine hd f _ ⟨fun c a b => ?_, fun j a1 a2 a3 a4 a5 a6 a7 a8 a9 => ?_, ?_⟩ e (fun k hk => ?_) ?_ (zUp_at _ _ _ _) ?_
    · rw [zUp_k _ _ a, e7, zUp_k _ _ a]; exact F.1 c a b
    · rw [zUp_j _ _ a1, e7, zUp_j _ _ a8]; exact F.2.1 j a1 a3 a4 a5 a6 a7 a9
    · rw [zUp_j _ _ (by decide), e7, zUp_j _ _ (by decide)]; exact F.2.2.2.2
    · rw [zUp_k _ _ (by decide), e7, zUp_k _ _ (by decide)]; exact F.2.2.1 k hk
    · rw [zUp_j _ _ (by decide), e7, zUp_j _ _ (by decide)]; exact F.2.1 7 (by decide) (by decide) (by decide) (by decide) (by decide) (by decide) (by decide)
    · rw [zUp_j _ _ (by decide), e7, zUp_at]
  · obtain ⟨F, tA, fC, fN, lO, em⟩ := R
    have le := tA.le
    obtain ⟨y, hy⟩ : ∃ y, y = (lwT B L).2 := ⟨_, rfl⟩
    rw [← hy] at fC fN lO em ho
    have em : y.1 = m := em
    refine ⟨fun _ => ⟨fun _ => fun m3 e3 => ?_, fun z => absurd (nI_pos' (by omega)) z⟩, fun z => absurd (nI_pos' (by omega)) z⟩
    obtain ⟨m4, e4⟩ : ∃ m4, m4 = zUp m3 129 1324 (nI m) := ⟨_, rfl⟩
    rw [← e4]
    have q9 : ∀ k, k ≠ 1324 → m4 129 k = w 129 k := fun k hk => by rw [e4, zUp_j _ _ hk, e3, zUp_k _ _ (by decide)]
    refine zFor (σ := zM) (Pr := fun i v => zRun 59 false zcX12_law 1 Q 52 [(0, .ref 128), (1, .int (nI m)), (2, .int (nI i))] [] v) (fun i v => (∀ c, c ≠ 129 → v c = m4 c) ∧ (∀ j, j < i → v 129 (475 + j) = m4 129 (1324 + j)) ∧ ∀ k, (k < 475 ∨ 1324 ≤ k) → v 129 k = m4 129 k) 849 (fun v hv => ?_) (fun i v hi hv ih => ?_) m4 ⟨fun _ _ => rfl, fun j hj => absurd hj (Nat.not_lt_zero _), fun _ _ => rfl⟩
    · obtain ⟨g1, g2, g3⟩ := hv
      refine tX12_law_52 (br_t (by decide) (fun m5 e5 => ?_))
      obtain ⟨z, ez⟩ : ∃ z, z = zUp m5 128 7 0 := ⟨_, rfl⟩
      rw [← ez, ← em]
      have z9 : ∀ k, k ≠ 2 → z 129 k = v 129 k := fun k hk => by rw [ez, zUp_k _ _ (by decide), e5, zUp_j _ _ hk]
      have zb : ∀ j, j < 849 → j ≠ 0 → z 129 (475 + j) = w 129 (1324 + j) := fun j hj h0 => by rw [z9 _ (by omega), g2 j hj, q9 _ (by omega)]
      have z8 : ∀ j, j ≠ 7 → z 128 j = m3 128 j := fun j hj => by rw [ez, zUp_j _ _ hj, e5, zUp_k _ _ (by decide), g1 128 (by decide), e4, zUp_k _ _ (by decide)]
      refine ho c z ⟨fun c a b => ?_, fun j a1 a2 a3 a4 a5 a6 a7 a8 a9 => ?_, ?_⟩ e (by omega) lO (by omega) (fun k hk h2 => ?_) ?_ ⟨?_, fun l hl => ?_, fun i hi => ?_⟩ ?_ ?_ ?_
      · rw [ez, zUp_k _ _ a, e5, zUp_k _ _ b, g1 c b, e4, zUp_k _ _ b, e3, zUp_k _ _ a]; exact F.1 c a b
      · rw [z8 j a2, e3, zUp_j _ _ a8]; exact F.2.1 j a1 a3 a4 a5 a6 a7 a9
      · rw [z8 10 (by decide), e3, zUp_j _ _ (by decide)]; exact F.2.2.2.2
      · rw [z9 k h2, g3 k (by omega), q9 k (by omega)]; exact F.2.2.1 k (by omega)
      · rw [ez, zUp_k _ _ (by decide), e5, zUp_at]
      · rw [z9 475 (by decide)]
        have g := g2 0 (by decide)
        rw [show 475 + 0 = 475 from rfl, show 1324 + 0 = 1324 from rfl] at g
        rw [g, e4, zUp_at, em]
      · obtain ⟨n1, n2, n3, n4⟩ := fN l hl
        have l12 : l < 12 := by omega
        refine ⟨?_, ?_, ?_, ?_⟩
        · rw [show 476 + 4 * l = 475 + (1 + 4 * l) by omega, zb _ (by omega) (by omega), show 1324 + (1 + 4 * l) = 1325 + 4 * l by omega]; exact n1
        · rw [show 476 + 4 * l + 1 = 475 + (2 + 4 * l) by omega, zb _ (by omega) (by omega), show 1324 + (2 + 4 * l) = 1325 + 4 * l + 1 by omega]; exact n2
        · rw [show 476 + 4 * l + 2 = 475 + (3 + 4 * l) by omega, zb _ (by omega) (by omega), show 1324 + (3 + 4 * l) = 1325 + 4 * l + 2 by omega]; exact n3
        · rw [show 476 + 4 * l + 3 = 475 + (4 + 4 * l) by omega, zb _ (by omega) (by omega), show 1324 + (4 + 4 * l) = 1325 + 4 * l + 3 by omega]; exact n4
      · have o1 := lO.1
        obtain ⟨n1, n2⟩ := fC.2 i hi
        refine ⟨?_, ?_⟩
        · rw [show 524 + 2 * i = 475 + (49 + 2 * i) by omega, zb _ (by omega) (by omega), show 1324 + (49 + 2 * i) = 1373 + 2 * i by omega]; exact n1
        · rw [show 525 + 2 * i = 475 + (50 + 2 * i) by omega, zb _ (by omega) (by omega), show 1324 + (50 + 2 * i) = 1373 + 2 * i + 1 by omega]; exact n2
      · rw [ez, zUp_at]
      · rw [z8 0 (by decide), e3, zUp_j _ _ (by decide)]; exact F.2.2.2.1
      · rw [z8 15 (by decide), e3, zUp_at]
    · obtain ⟨g1, g2, g3⟩ := hv
      refine tX12_law_52 ?_
      have i1 : (1324 : Int32) + nI i = nI (1324 + i) := by rw [show (1324 : Int32) = nI 1324 from rfl, nI_add]
      have i2 : (475 : Int32) + nI i = nI (475 + i) := by rw [show (475 : Int32) = nI 475 from rfl, nI_add]
      rw [i1, i2, nI_clamp (n := 1324 + i) (by omega), nI_clamp (n := 475 + i) (by omega), nI_1 i]
      refine br_f (by rw [nI_lit, nI_leI (by omega) (by omega)]; show ¬ 849 ≤ i; omega) ⟨vp_in_nI (by omega) (by decide), vp_in_nI (by omega) (by decide), ih _ ⟨fun c a => (zUp_k _ _ a).trans (g1 c a), fun j hj => ?_, fun k hk => (zUp_j _ _ (by omega)).trans (g3 k hk)⟩⟩
      by_cases q : j = i
      · rw [q, zUp_at]; exact g3 _ (by omega)
      · rw [zUp_j _ _ (by omega)]; exact g2 j (by omega)
set_option maxHeartbeats 2000000 in
theorem op_law : zOkT 110 230 [] [(1, 1)] := by
  intro u ⟨n, hI⟩
  have hI' := hI
  obtain ⟨⟨hR, hF, hDy, hSt⟩, hL, hT, hP, hM, hK⟩ := hI'
  obtain ⟨L, B, h4, t1, t2, b1, b2⟩ := hT.bytes
  have start : ∀ (K : zM → Prop) (m1 m2 : zM), m1 = zUp u 31 6 0 → m2 = zUp m1 31 7 0 → (∀ w, dlF u w → tkS w B L (lwT B L).1 → (∀ a, (lwT B L).1 = .inr a → dvN w (lwT B L).2 ∧ dvC w (lwT B L).2.2.1 ∧ lnO (lwT B L).2 a ∧ (lwT B L).2.1 ≤ 12) → K w) → zCV 59 75 [.ref 1] m2 fun w3 => zCV 59 88 [.ref 1, .ref 31] w3 fun w5 => K w5 := by
    intro K m1 m2 e1 e2 h
    have c2 : ∀ c, c ≠ 31 → m2 c = u c := fun c a => by rw [e2, zUp_k _ _ a, e1, zUp_k _ _ a]
    refine s_lawRead (L := L) (B := B) ⟨h4, by rw [c2 1 (by decide)]; exact t1, by rw [c2 2 (by decide)]; exact b1⟩ (by rw [e2, zUp_j _ _ (by decide), e1, zUp_at]) (by rw [e2, zUp_at]) (fun w f1 f2 f3 => h w ⟨fun c a b => (f1.1 c a b).trans (c2 c (by omega)), fun j a b c => (f1.2 j a b c).trans (by rw [c2 1 (by decide)])⟩ f2 f3)
  cases es : (lwT B L).1 with
  | inl f =>
    refine Or.inr (t2TX11_law (fun m1 e1 m2 e2 => start _ m1 m2 e1 e2 (fun w f1 f3 _ => ?_)))
    rw [es] at f3
    obtain ⟨-, hfL, w2, -⟩ := f3
    intro m7 e7
    have m2 : m7 1 2 = nI f := by rw [e7, zUp_j _ _ (by decide)]; exact w2
    refine ⟨fun z => absurd (m2.symm.trans z) (nI_nm1 (by omega)), fun _ => ?_⟩
    have mc : ∀ c, c ≠ 1 → (c < 31 ∨ 36 < c) → m7 c = u c := fun c a b => by rw [e7, zUp_k _ _ a]; exact f1.1 c a b
    refine m_law (L := L) (B := B) (by rw [mc 128 (by decide) (by omega)]; exact t2) h4 (by rw [mc 135 (by decide) (by omega)]; exact b2) (fun g z M e z9 z7 z0 z15 => ?_) (fun c z M e => ?_)
    · rw [es] at e
      obtain rfl : f = g := Sum.inl.inj e
      refine ⟨⟨n, zInv_row hI (fun c hc h2 h3 h9 => ?_) (fun k hk => ?_) ?_ ?_ ⟨⟨0, Nat.zero_le _, ?_, M.2.2, fun i hi => absurd hi (Nat.not_lt_zero _)⟩, ?_⟩⟩, 1, 1, rfl, by simp, z0⟩
      · have n1 : c ≠ 128 := fun z => by subst z; exact absurd hc (by decide)
        have n3 : c ≠ 1 := fun z => by subst z; exact absurd hc (by decide)
        have n4 : c < 31 ∨ 36 < c := by
          simp only [zCare, Bool.or_eq_true, Bool.and_eq_true, decide_eq_true_eq, beq_iff_eq] at hc; omega
        rw [M.1 c n1 h9, mc c n3 n4]
      · rw [z9 k hk, mc 129 (by decide) (by omega)]
      · rw [M.2.1 6 (by decide) (by decide) (by decide) (by decide) (by decide) (by decide) (by decide) (by decide) (by decide), mc 128 (by decide) (by omega)]
      · rw [z7, mc 128 (by decide) (by omega)]
      · rw [M.1 1 (by decide) (by decide), e7, zUp_at]; rfl
      · rw [M.1 1 (by decide) (by decide), m2, z15]
    · rw [es] at e; cases e
  | inr c =>
    refine Or.inl (t2X11_law (fun m1 e1 m2 e2 => start _ m1 m2 e1 e2 (fun w f1 f3 f4 => ?_)))
    rw [es] at f3
    obtain ⟨dN, dC, lO, x12⟩ := f4 c es
    have w2 := f3.2.2.2.2.1
    have c4 : c ≤ 400 := by have := f3.2.1; omega
    intro m7 e7
    have m2 : m7 1 2 = -1 := by rw [e7, zUp_j _ _ (by decide)]; exact w2
    have mc : ∀ c, c ≠ 1 → (c < 31 ∨ 36 < c) → m7 c = u c := fun c a b => by rw [e7, zUp_k _ _ a]; exact f1.1 c a b
    have m7c : ∀ c, c ≠ 1 → m7 c = w c := fun c a => by rw [e7, zUp_k _ _ a]
    refine ⟨fun _ => ?_, fun z => absurd m2 z⟩
    refine s_copyLaw (k0 := 12) (k1 := 31) rfl rfl (by omega) (fun w8 g1 g2 g3 => ⟨rfl, fun m10 e10 => ?_⟩)
    have a12 : m10 12 6 = nI (lwT B L).2.1 := by rw [e10, zUp_k _ _ (by decide), g2, m7c 31 (by decide)]; exact dN.1
    rw [a12]
    intro o
    obtain ⟨x, hx⟩ : ∃ x, x = zUp m10 142 0 o := ⟨_, rfl⟩
    rw [← hx]
    have xu : ∀ c, c ≠ 142 → c ≠ 0 → c ≠ 1 → (c < 12 ∨ 17 < c) → (c < 31 ∨ 36 < c) → x c = u c := fun c y a b d e => by rw [hx, zUp_k _ _ y, e10, zUp_k _ _ a, g1 c d, mc c b e]
    refine m_law (L := L) (B := B) (by rw [xu 128 (by decide) (by decide) (by decide) (by omega) (by omega)]; exact t2) h4 (by rw [xu 135 (by decide) (by decide) (by decide) (by omega) (by omega)]; exact b2) (fun g z M e => ?_) (fun c2 z M e _ _ _ z9 z2 zV z7 z0 z15 => ?_)
    · rw [es] at e; cases e
    · have x9 : x 129 = u 129 := xu 129 (by decide) (by decide) (by decide) (by omega) (by omega)
      rw [x9] at z9
      have zx : ∀ c, c ≠ 128 → c ≠ 129 → c ≠ 142 → z c = m10 c := fun c a b d => by rw [M.1 c a b, hx, zUp_k _ _ d]
      have zu : ∀ c, c ≠ 128 → c ≠ 129 → c ≠ 142 → c ≠ 0 → c ≠ 1 → (c < 12 ∨ 17 < c) → (c < 31 ∨ 36 < c) → z c = u c := fun c a b y d e f g => by rw [M.1 c a b]; exact xu c y d e f g
      have R' : zRg (z 129) n := by
        obtain ⟨g0, g1, g2, g3, g4, g5, g6, g7, g8, g9, ga, gb, gc, gd, ge, gf⟩ := hR
        have ez : ∀ k, k < 475 → k ≠ 2 → z 129 k = u 129 k := z9
        refine ⟨by rw [ez 0 (by omega) (by omega)]; exact g0, by rw [ez 1 (by omega) (by omega)]; exact g1, Or.inr z2, by rw [ez 3 (by omega) (by omega)]; exact g3, by rw [ez 4 (by omega) (by omega)]; exact g4, by rw [ez 5 (by omega) (by omega)]; exact g5, by rw [ez 6 (by omega) (by omega)]; exact g6, by rw [ez 7 (by omega) (by omega)]; exact g7, by rw [ez 8 (by omega) (by omega)]; exact g8, fun a b ha hb => ?_, fun a b ha hb => ?_, fun a ha => ?_, fun p hp => ?_, fun p q hp hq => ?_, fun t w ht hx h7 => ?_, fun t ht => ?_⟩
        · rw [ez _ (by omega) (by omega)]; exact g9 a b ha hb
        · rw [ez _ (by omega) (by omega), ez _ (by omega) (by omega)]; exact ga a b ha hb
        · rw [ez _ (by omega) (by omega)]; exact gb a ha
        · rw [ez _ (by omega) (by omega)]; exact gc p hp
        · rw [ez _ (by omega) (by omega), ez _ (by omega) (by omega)]; exact gd p q hp hq
        · rw [ez _ (by omega) (by omega)]; exact ge t w ht hx h7
        · rw [ez _ (by omega) (by omega)]; exact gf t ht
      have h8 := hR.1.1
      refine ⟨rfl, z0, n, ⟨R', fun a b ha hb => ?_, ?_, ?_⟩, ?_, ⟨⟨0, Nat.zero_le _, ?_, M.2.2, fun i hi => absurd hi (Nat.not_lt_zero _)⟩, ?_⟩, ?_, ?_, ?_, ?_⟩
      · rw [zu 134 (by decide) (by decide) (by decide) (by decide) (by decide) (by omega) (by omega), rdN_row (W := u 129) (fun k a b => z9 k (by omega) (by omega))]
        exact hF a b ha hb
      · refine (zDyV.row (W := u 129) (fun k a b _ _ => z9 k (by omega) b) ((zDyV.of hDy).congr (fun c a b => zu c (by omega) (by omega) (by omega) (by omega) (by omega) (by omega) (by omega)))).dy ?_
        exact (hDy.2.2.2.congr (zu 7 (by decide) (by decide) (by decide) (by decide) (by decide) (by omega) (by omega)) (zu (7 + 1) (by decide) (by decide) (by decide) (by decide) (by decide) (by omega) (by omega))).lrow (z9 9 (by omega) (by omega)) (fun k a b => z9 k (by omega) (by omega))
      · exact (hSt.row (fun k a b => z9 k (by omega) (by omega))).congr (zu (9 + 1) (by decide) (by decide) (by decide) (by decide) (by decide) (by omega) (by omega)) (zu (9 + 2) (by decide) (by decide) (by decide) (by decide) (by decide) (by omega) (by omega))
      · have l7 : lwRel m7 31 (z 129) := (lw_rel z2 zV lO c4 x12 dN dC).congr (by rw [m7c 31 (by decide)]) (fun c a b => m7c c (by omega))
        exact (g3 _ l7).congr (by rw [zx 12 (by decide) (by decide) (by decide), e10, zUp_k _ _ (by decide)]) (fun c a b => by rw [zx c (by omega) (by omega) (by omega), e10, zUp_k _ _ (by omega)])
      · rw [zx 1 (by decide) (by decide) (by decide), e10, zUp_k _ _ (by decide), g1 1 (by omega), e7, zUp_at]; rfl
      · rw [zx 1 (by decide) (by decide) (by decide), e10, zUp_k _ _ (by decide), g1 1 (by omega), m2, z15]
      · obtain ⟨A, N, hA, hN, p1, p2, p3, p4⟩ := hP
        refine ⟨0, N, Nat.zero_le _, hN, ?_, by rw [z7]; rfl, ?_, fun j hj => absurd hj (Nat.not_lt_zero _)⟩
        · rw [zx 0 (by decide) (by decide) (by decide), e10, zUp_at]; rfl
        · rw [zx 0 (by decide) (by decide) (by decide), e10, zUp_j _ _ (by decide), g1 0 (by omega), mc 0 (by decide) (by omega)]; exact p3
      · refine hM.congr ?_ ?_ (zu 130 (by decide) (by decide) (by decide) (by decide) (by decide) (by omega) (by omega)) (fun c a b => zu c (by omega) (by omega) (by omega) (by omega) (by omega) (by omega) (by omega))
        · rw [zx 0 (by decide) (by decide) (by decide), e10, zUp_j _ _ (by decide), g1 0 (by omega), mc 0 (by decide) (by omega)]
        · rw [M.2.1 6 (by decide) (by decide) (by decide) (by decide) (by decide) (by decide) (by decide) (by decide) (by decide), xu 128 (by decide) (by decide) (by decide) (by omega) (by omega)]
      · rw [zu 121 (by decide) (by decide) (by decide) (by decide) (by decide) (by omega) (by omega)]
        rcases hK.1 with q | ⟨q1, q2⟩
        · exact Or.inl q
        · refine Or.inr ⟨q1, ?_⟩
          have h2 : ∀ k, k ≠ 2 → upd (z 129) 2 (u 129 2) k = z 129 k := fun k a => upd_ne _ _ a
          have g := zTrT.base (V := upd (z 129) 2 (u 129 2)) h8 ⟨fun k a b => by rw [h2 k (by omega)]; exact z9 k (by omega) (by omega), upd_at _ _ _, by rw [h2 0 (by omega)]; exact z9 0 (by omega) (by omega), fun s hs => by rw [h2 _ (by omega)]; exact z9 _ (by omega) (by omega)⟩ q2
          have g2 := g.row3 (V := z 129) (fun k a b => (h2 k (by omega)).symm) (fun s => (h2 _ (by omega)).symm)
          unfold zTrT at g2 ⊢
          rw [zu 122 (by decide) (by decide) (by decide) (by decide) (by decide) (by omega) (by omega)]
          exact g2
      · rw [zu 124 (by decide) (by decide) (by decide) (by decide) (by decide) (by omega) (by omega)]; exact hK.2
