/-! a text of THE SUBURB is read: by the class -/
def sbP (u1 : zM) (B : Nat → Nat) (L : Nat) (s : (Nat ⊕ Nat) × (Nat → Int32)) (w : zM) : Prop := plP u1 w B L s ∧ ∃ n, n ≤ 8 ∧ s.2 0 = nI n
theorem s_sbRead {L n : Nat} {B : Nat → Nat} {u : zM} {K : zM → Prop} (hI : zInv u n) (hD : zDtx u B L)
    (h : ∀ w, (∀ c, c ≠ 1 → (c < 23 ∨ 36 < c) → w c = u c) → (∀ j, j ≠ 2 → j ≠ 3 → j ≠ 4 → w 1 j = u 1 j) → tkS w B L (rdTx (sbS B L) B L 14 (u 129)).1 → plD w (rdTx (sbS B L) B L 14 (u 129)).2 → zLg w 26 (u 129) → lwRel w 31 (u 129) → K w) :
    zCV 59 59 [.ref 22, .ref 3] u fun w1 => zCV 59 75 [.ref 1] w1 fun w3 => zCV 59 84 [.ref 1, .ref 22] w3 fun w5 => K w5 := by
  obtain ⟨⟨hR, -, hDy, hSt⟩, hL, -⟩ := hI
  refine s_copySub (k0 := 22) (k1 := 3) rfl rfl (by omega) (fun w1 f1 b1 l1 => ⟨rfl, ?_⟩)
  have S1 : zSb w1 22 (u 129) := b1 _ ⟨zDyV.of hDy, hSt, hL⟩
  have G1 : zLg w1 26 (u 129) := l1 _ hDy.2.2.2
  obtain ⟨h4, hL1, hB⟩ := hD
  refine s_startText (L := L) (B := B) ⟨h4, by rw [f1 1 (by omega)]; exact hL1, fun i hi => ⟨(hB i hi).1, by rw [f1 2 (by omega)]; exact (hB i hi).2⟩⟩ (fun w3 f3 t3 => ⟨rfl, ?_⟩)
  have D3 : plD w3 (u 129) := ⟨S1.1.congr (fun c a b => f3.1 c (by omega)), fun a b ha hb => by rw [f3.1 29 (by decide)]; exact S1.2.1.1 a b ha hb⟩
  refine s_read (step := sbS B L) (P := sbP w3 B L) (fun s x g => g.1.2.1) (fun σ τ V x z g f t => ⟨g.1.f f t, g.2⟩) (fun s x K2 g hK => ?_) ⟨⟨plF.rf w3, t3, D3⟩, n, hR.1.1, hR.1.2⟩ (fun w g => ⟨rfl, h w (fun c a b => ?_) (fun j a b c => ?_) g.1.2.1 g.1.2.2 ?_ ?_⟩)
  · obtain ⟨g1, m, hm, em⟩ := g
    have e : (s.2 0).toNatClampNeg = m := by rw [em, nI_clamp (by omega)]
    refine s_readPlainLine em hm g1.2.1 g1.2.2 (fun y gy => ⟨rfl, hK y ⟨⟨g1.1.tr gy.1, ?_⟩, ?_⟩⟩)
    · unfold sbS; rw [e]; exact gy.2
    · unfold sbS; rw [e]; exact plL_0 em hm
  · rw [g.1.1.1 c a (by omega) (by omega) (by omega) (by omega), f3.1 c a, f1 c (by omega)]
  · rw [g.1.1.2 j a b c, f3.2 j a b c, f1 1 (by omega)]
  · exact G1.congr (by rw [g.1.1.1 26 (by decide) (by decide) (by decide) (by decide) (by decide), f3.1 26 (by decide)]) (by rw [g.1.1.1 27 (by decide) (by decide) (by decide) (by decide) (by decide), f3.1 27 (by decide)])
  · exact S1.2.2.congr (by rw [g.1.1.1 31 (by decide) (by decide) (by decide) (by decide) (by decide), f3.1 31 (by decide)]) (fun c a b => by rw [g.1.1.1 c (by omega) (by omega) (by omega) (by omega) (by omega), f3.1 c (by omega)])
/-! by the reference -/
theorem r_readAll {d L N : Nat} {α : Type} {B : Nat → Nat} {a1 : Int32} {step : (Nat ⊕ Nat) × α → (Nat ⊕ Nat) × α} {R : Nat → Nat → α → zM → Prop} {F : zM → Prop} {x : α} {u : zM} {Q : Option Value → zM → Prop} (hN : N ≤ 14) (h10 : u 128 10 = nI L) (h4 : L ≤ 400) (hB : ∀ i, i < L → B i < 256 ∧ u 135 i = (nI (B i)).toInt8.toInt32)
    (hR0 : ∀ w, (∀ c, c ≠ 128 → w c = u c) → (∀ j, j ≠ 0 → j ≠ 10 → j ≠ 11 → j ≠ 12 → j ≠ 13 → j ≠ 17 → w 128 j = u 128 j) → w 128 0 = 0 → w 128 10 = 0 → w 128 17 = 0 → rkA w B L (skB B L 0) → R 0 (skB B L 0) x w)
    (hR1 : ∀ n a x u, R n a x u → rkA u B L a) (hR2 : ∀ n a b x u w, R n a x u → rkF u w → rkA w B L b → a ≤ b → R n b x w) (hF : ∀ n a x u w, R n a x u → rkF u w → F w)
    (hl : ∀ n a x u (K : Int32 → zM → Prop), n < N → R n a x u → (∀ f w, F w → (step (.inr a, x)).1 = .inl f → w 128 13 = nI f → K 0 w) → (∀ c w, (step (.inr a, x)).1 = .inr c → R (n + 1) c (step (.inr a, x)).2 w → K 1 w) → zCI (d + 4) 227 [.ref 128, .int a1, .int (nI n)] u K)
    (hz : ∀ a x u (K : Int32 → zM → Prop), R N a x u → (∀ w, F w → w 128 13 = nI a → K 0 w) → zCI (d + 4) 227 [.ref 128, .int a1, .int (nI N)] u K)
    (h0 : ∀ f w, F w → (rdTx step B L N x).1 = .inl f → w 128 13 = nI f → Q (some (.int (-1))) w)
    (h1 : ∀ m c w, m ≤ N → (rdTx step B L N x).1 = .inr c → R m c (rdTx step B L N x).2 w → Q (some (.int (nI m))) w) : zCall (d + 5) false 228 [.ref 128, .int a1] u Q := by
  refine tX12_readAll (fun m1 e1 m2 e2 m3 e3 m4 e4 m5 e5 => ?_)
  have c5 : ∀ c, c ≠ 128 → m5 c = u c := fun c a => by rw [e5, zUp_k _ _ a, e4, zUp_k _ _ a, e3, zUp_k _ _ a, e2, zUp_k _ _ a, e1, zUp_k _ _ a]
  have j5 : ∀ j, j ≠ 0 → j ≠ 10 → j ≠ 11 → j ≠ 12 → j ≠ 17 → m5 128 j = u 128 j := fun j a b c x y => by rw [e5, zUp_j _ _ y, e4, zUp_j _ _ c, e3, zUp_j _ _ b, e2, zUp_j _ _ x, e1, zUp_j _ _ a]
  have t5 : zRtx m5 B L 0 := by
    refine ⟨h4, Nat.zero_le _, ?_, ?_, ?_⟩
    · rw [e5, zUp_j _ _ (by decide), e4, zUp_j _ _ (by decide), e3, zUp_j _ _ (by decide), e2, zUp_at, e1, zUp_j _ _ (by decide)]; exact h10
    · rw [e5, zUp_j _ _ (by decide), e4, zUp_at]; rfl
    · rw [c5 135 (by decide)]; exact hB
  refine s_blanks t5 (fun w f1 f2 b t => ⟨rfl, ?_⟩)
  have t : zRtx w B L (skB B L 0) := t
  have b : w 128 13 = nI (skB B L 0) := b
  have le := skB_le (B := B) (Nat.zero_le L)
  have R0 : R 0 (skB B L 0) x w := by
    refine hR0 w (fun c a => (f1 c a).trans (c5 c a)) (fun j a b c x y z => (f2 j c y).trans (j5 j a b c x z)) ?_ ?_ ?_ ⟨_, t, skB_idem (Nat.zero_le _)⟩
    · rw [f2 0 (by decide) (by decide), e5, zUp_j _ _ (by decide), e4, zUp_j _ _ (by decide), e3, zUp_j _ _ (by decide), e2, zUp_j _ _ (by decide), e1, zUp_at]
    · rw [f2 10 (by decide) (by decide), e5, zUp_j _ _ (by decide), e4, zUp_j _ _ (by decide), e3, zUp_at]
    · rw [f2 17 (by decide) (by decide), e5, zUp_at]
  dsimp only
  rw [t.2.2.2.1, t.2.2.1, nI_eq (by omega) (by omega)]
  by_cases q : skB B L 0 = L
  · refine ⟨fun z => absurd q z, fun _ => ?_⟩
    have e : rdTx step B L N x = (.inr L, x) := by unfold rdTx; rw [if_pos q]
    rw [e] at h1
    exact h1 0 L w (Nat.zero_le _) rfl (by rw [q] at R0; exact R0)
  · refine ⟨fun _ => ?_, fun z => absurd z q⟩
    have e : rdTx step B L N x = rdAll step B L N (.inr (skB B L 0), x) := by unfold rdTx; rw [if_neg q]
    rw [e] at h0 h1
    exact r_readLoop hN hR1 hR2 hF hl hz N 0 (skB B L 0) x w (by omega) R0 h0 h1
def srF (u w : zM) : Prop := (∀ c, c ≠ 128 → c ≠ 129 → w c = u c) ∧ (∀ j, j ≠ 0 → j ≠ 10 → j ≠ 11 → j ≠ 12 → j ≠ 13 → j ≠ 17 → w 128 j = u 128 j) ∧ (∀ k, 475 ≤ k → w 129 k = u 129 k) ∧ w 128 0 = 0 ∧ w 128 10 = 0
theorem srF.r {u v w : zM} (h1 : srF u v) (h2 : rfF v w) : srF u w := ⟨fun c a b => (h2.1 c a b).trans (h1.1 c a b), fun j a b c x y z => (h2.2.1 j c y).trans (h1.2.1 j a b c x y z), fun k a => (h2.2.2 k a).trans (h1.2.2.1 k a), (h2.2.1 0 (by decide) (by decide)).trans h1.2.2.2.1, (h2.2.1 10 (by decide) (by decide)).trans h1.2.2.2.2⟩
def srR (u0 : zM) (B : Nat → Nat) (L : Nat) (_ : Nat) (a : Nat) (V : Nat → Int32) (w : zM) : Prop := srF u0 w ∧ rkA w B L a ∧ w 129 = V ∧ ∃ n, zRg V n
set_option maxHeartbeats 1000000 in
theorem r_sbAll {d L n : Nat} {B : Nat → Nat} {u : zM} {Q : Option Value → zM → Prop} (hR : zRg (u 129) n) (h10 : u 128 10 = nI L) (h4 : L ≤ 400) (hB : ∀ i, i < L → B i < 256 ∧ u 135 i = (nI (B i)).toInt8.toInt32)
    (h0 : ∀ f w, srF u w → (rdTx (sbS B L) B L 14 (u 129)).1 = .inl f → w 128 13 = nI f → Q (some (.int (-1))) w)
    (h1 : ∀ m c w, m ≤ 14 → (rdTx (sbS B L) B L 14 (u 129)).1 = .inr c → srF u w → w 129 = (rdTx (sbS B L) B L 14 (u 129)).2 → Q (some (.int (nI m))) w) : zCall (d + 9) false 228 [.ref 128, .int 1] u Q := by
  refine r_readAll (step := sbS B L) (R := srR u B L) (F := srF u) (N := 14) (x := u 129) (by decide) h10 h4 hB ?_ (fun m a V w g => g.2.1) (fun m a b V w z g f t _ => ⟨g.1.r f.r, t, by rw [f.1 129 (by decide)]; exact g.2.2.1, g.2.2.2⟩) (fun m a V w z g f => g.1.r f.r) ?_ ?_ h0 (fun m c w hm ec g => h1 m c w hm ec g.1 g.2.2.1)
  · intro w f1 f2 z0 z10 _ t
    exact ⟨⟨fun c a _ => f1 c a, f2, fun k _ => by rw [f1 129 (by decide)], z0, z10⟩, t, f1 129 (by decide), n, hR⟩
  · intro m a V w K hm g k0 k1
    obtain ⟨g1, g2, g3, p, hp⟩ := g
    have e : (V 0).toNatClampNeg = p := by rw [hp.1.2, nI_clamp (by have := hp.1.1; omega)]
    have es : sbS B L (.inr a, V) = plL B L p (.inr a) V := by unfold sbS; rw [e]
    rw [es] at k0 k1
    refine tX12_readLine ?_
    refine r_letters g2 (fun w2 f2 l2 => ⟨rfl, ⟨fun z => absurd z (by decide), fun _ => ⟨fun z => ?_, fun _ => ⟨fun z => absurd z (by decide), fun _ => ?_⟩⟩⟩⟩)
    · rw [nI_lit, nI_leI (by omega) (by omega)] at z
      have z : 14 ≤ m := z
      omega
    · have w9 : w2 129 = V := by rw [f2.1 129 (by decide)]; exact g3
      refine r_suburbLine (n := p) (by rw [w9]; exact hp.1.2) hp.1.1 l2 (fun x y gy => ⟨_, rfl, ?_⟩)
      rw [w9] at gy
      rcases gy.2 with ⟨f, ef, bf, rfl⟩ | ⟨c, ec, tc, yc, rfl⟩
      · exact ⟨fun _ => ⟨_, rfl, k0 f y ((g1.r f2.r).r gy.1) ef bf⟩, fun z => absurd rfl z⟩
      · exact ⟨fun z => absurd z (by decide), fun _ => ⟨_, rfl, k1 c y ec ⟨(g1.r f2.r).r gy.1, tc, yc, (plL_ok hp ec).2⟩⟩⟩
  · intro a V w K g k0
    refine tX12_readLine ?_
    refine r_letters g.2.1 (fun w2 f2 l2 => ⟨rfl, ⟨fun z => absurd z (by decide), fun _ => ⟨fun _ => ⟨_, rfl, k0 w2 (g.1.r f2.r) l2.2.1⟩, fun z => absurd (by decide) z⟩⟩⟩)
