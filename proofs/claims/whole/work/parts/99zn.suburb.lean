/-! THE SUBURB: the reference's text -/
def mbF (x z : zM) : Prop := (∀ c, c ≠ 128 → c ≠ 129 → c ≠ 131 → c ≠ 134 → z c = x c) ∧ (∀ j, j ≠ 0 → j ≠ 7 → j ≠ 10 → j ≠ 11 → j ≠ 12 → j ≠ 13 → j ≠ 15 → j ≠ 17 → z 128 j = x 128 j) ∧ z 128 10 = 0
theorem r_restore {d : Nat} {b1 : Int32} {W : Nat → Int32} {m : zM} {Q : Option Value → zM → Prop} (h31 : ∀ j, j < 1324 → m 131 j = W j) (hK : ∀ j, 1324 ≤ j → m 129 j = W j) (h : ∀ z, (∀ c, c ≠ 129 → z c = m c) → z 129 = W → Q (some (.int 0)) z) : zRun (d + 1) false zcX12_suburb 1 Q 92 [(0, .ref 128), (1, .int b1), (2, .int 0)] [] m := by
  refine zFor (σ := zM) (Pr := fun i x => zRun (d + 1) false zcX12_suburb 1 Q 92 [(0, .ref 128), (1, .int b1), (2, .int (nI i))] [] x) (fun i x => (∀ c, c ≠ 129 → x c = m c) ∧ (∀ j, j < i → x 129 j = W j) ∧ ∀ j, 1324 ≤ j → x 129 j = W j) 1324 (fun x hx => ?_) (fun i x hi hx ih => ?_) m ⟨fun _ _ => rfl, fun j hj => absurd hj (Nat.not_lt_zero _), hK⟩
  · obtain ⟨g1, g2, g3⟩ := hx
    refine tX12_suburb_92 (br_t (Int32.le_refl _) (h x g1 ?_))
    funext j
    by_cases q : j < 1324
    · exact g2 j q
    · exact g3 j (by omega)
  · obtain ⟨g1, g2, g3⟩ := hx
    refine tX12_suburb_92 ?_
    rw [nI_clamp (n := i) (by omega), nI_1 i, g1 131 (by decide), h31 i hi]
    refine br_f (by rw [nI_lit, nI_leI (by omega) (by omega)]; show ¬ 1324 ≤ i; omega) ⟨vp_in_nI (by omega) (by decide), vp_in_nI (by omega) (by decide), ih _ ⟨fun c a => (zUp_k _ _ a).trans (g1 c a), fun j hj => ?_, fun j hj => (zUp_j _ _ (by omega)).trans (g3 j hj)⟩⟩
    by_cases q : j = i
    · rw [q, zUp_at]
    · rw [zUp_j _ _ q]; exact g2 j (by omega)
def sbT (B : Nat → Nat) (L : Nat) (W : Nat → Int32) : (Nat ⊕ Nat) × (Nat → Int32) := rdTx (sbS B L) B L 14 W
theorem zRg.tx {W : Nat → Int32} {n t : Nat} (h : zRg W n) (ht : t ≤ 12) : zRg (upd W 1 (nI t)) n := by
  obtain ⟨g0, g1, g2, g3, g4, g5, g6, g7, g8, g9, ga, gb, gc, gd, ge, gf⟩ := h
  have e : ∀ k, k ≠ 1 → upd W 1 (nI t) k = W k := fun k a => upd_ne _ _ a
  refine ⟨by rw [e 0 (by omega)]; exact g0, ⟨t, ht, upd_at _ _ _⟩, by rw [e 2 (by omega)]; exact g2, by rw [e 3 (by omega)]; exact g3, by rw [e 4 (by omega)]; exact g4, by rw [e 5 (by omega)]; exact g5, by rw [e 6 (by omega)]; exact g6, by rw [e 7 (by omega)]; exact g7, by rw [e 8 (by omega)]; exact g8, fun a b ha hb => ?_, fun a b ha hb => ?_, fun a ha => ?_, fun p hp => ?_, fun p q hp hq => ?_, fun t w ht hx h7 => ?_, fun t ht => ?_⟩
  · rw [e _ (by omega)]; exact g9 a b ha hb
  · rw [e _ (by omega), e _ (by omega)]; exact ga a b ha hb
  · rw [e _ (by omega)]; exact gb a ha
  · rw [e _ (by omega)]; exact gc p hp
  · rw [e _ (by omega), e _ (by omega)]; exact gd p q hp hq
  · rw [e _ (by omega)]; exact ge t w ht hx h7
  · rw [e _ (by omega)]; exact gf t ht
theorem sbT_ok {B : Nat → Nat} {L n c : Nat} {W : Nat → Int32} (hR : zRg W n) (h : (sbT B L W).1 = .inr c) : sbR W (sbT B L W).2 := by
  unfold sbT rdTx at h ⊢
  by_cases q : skB B L 0 = L
  · rw [if_pos q]
    exact ⟨fun _ _ => rfl, n, hR⟩
  · rw [if_neg q] at h ⊢
    refine rdAll_ok (I := sbR W) (fun a V c2 hV hc => ?_) 14 _ _ c ⟨fun _ _ => rfl, n, hR⟩ h
    obtain ⟨k1, p, hp⟩ := hV
    have e : (V 0).toNatClampNeg = p := by rw [hp.1.2, nI_clamp (by have := hp.1.1; omega)]
    have es : sbS B L (.inr a, V) = plL B L p (.inr a) V := by unfold sbS; rw [e]
    rw [es] at hc ⊢
    have g := plL_ok hp hc
    exact ⟨fun k hk => (g.1 k hk).trans (k1 k hk), g.2⟩
set_option maxHeartbeats 1000000 in
theorem m_suburb {L n : Nat} {B : Nat → Nat} {x : zM} {Q : Option Value → zM → Prop} (hR : zRg (x 129) n) (h10 : x 128 10 = nI L) (h4 : L ≤ 400) (hB : ∀ i, i < L → B i < 256 ∧ x 135 i = (nI (B i)).toInt8.toInt32)
    (hd : ∀ f z, mbF x z → (sbT B L (x 129)).1 = .inl f → z 129 = x 129 → z 134 = x 134 → z 128 7 = x 128 7 → z 128 0 = 1 → z 128 15 = nI f → Q (some (.int 0)) z)
    (hf : ∀ c z, mbF x z → (sbT B L (x 129)).1 = .inr c → x 129 1 = 12 → z 129 = x 129 → z 134 = x 134 → z 128 7 = x 128 7 → z 128 0 = 2 → z 128 15 = -1 → Q (some (.int 0)) z)
    (ho : ∀ c z, mbF x z → (sbT B L (x 129)).1 = .inr c → ¬ x 129 1 = 12 → z 129 = upd (sbT B L (x 129)).2 1 (x 129 1 + 1) → (∀ a b, a < 12 → b < 12 → z 134 (12 * a + b) = nI (fwR (rdN (z 129)) 12 a b)) → z 128 7 = 0 → z 128 0 = 0 → z 128 15 = -1 → Q (some (.int (x 129 1 + 1))) z) : zCall 60 false 229 [.ref 128] x Q := by
  refine tX12_suburb ?_
  refine zFor (σ := zM) (Pr := fun i y => zRun 59 false zcX12_suburb 1 Q 2 [(0, .ref 128), (1, .int (nI i))] [] y) (fun i y => (∀ c, c ≠ 131 → y c = x c) ∧ ∀ j, j < i → y 131 j = x 129 j) 1324 (fun y hy => ?_) (fun i y hi hy ih => ?_) x ⟨fun _ _ => rfl, fun j hj => absurd hj (Nat.not_lt_zero _)⟩
  · obtain ⟨g1, g2⟩ := hy
    have y9 : y 129 = x 129 := g1 129 (by decide)
    refine tX12_suburb_2 (br_t (Int32.le_refl _) ?_)
    have fr : ∀ w, srF y w → mbF x (zUp w 128 15 (-1)) ∧ ∀ v, mbF x (zUp w 128 15 v) := fun w f => by
      have g : ∀ v, mbF x (zUp w 128 15 v) := fun v => ⟨fun c a b d e => by rw [zUp_k _ _ a, f.1 c a b, g1 c d], fun j a b c d e p q r => by rw [zUp_j _ _ q, f.2.1 j a c d e p r, g1 128 (by decide)], by rw [zUp_j _ _ (by decide)]; exact f.2.2.2.2⟩
      exact ⟨g _, g⟩
    refine r_sbAll (d := 50) (L := L) (B := B) (n := n) (by rw [y9]; exact hR) (by rw [g1 128 (by decide)]; exact h10) h4 (by rw [g1 135 (by decide)]; exact hB) (fun f w F e b => ⟨_, rfl, ?_⟩) (fun m c w hm e F w9 => ⟨_, rfl, ?_⟩)
    · rw [y9] at e
      refine ⟨fun z => absurd z (by decide), fun _ => ⟨fun z => absurd z (by decide), fun _ => fun m17 e17 => ?_⟩⟩
      rw [b] at e17
      refine r_restore (W := x 129) (fun j hj => ?_) (fun j hj => ?_) (fun z z1 z9 => ?_)
      · rw [zUp_k _ _ (by decide), e17, zUp_k _ _ (by decide), F.1 131 (by decide) (by decide)]; exact g2 j hj
      · rw [zUp_k _ _ (by decide), e17, zUp_k _ _ (by decide), F.2.2.1 j (by omega), y9]
      · have M := (fr w F).2 (nI f)
        rw [← e17] at M
        refine hd f z ⟨fun c a b c1 c2 => ?_, fun j a b c1 c2 c3 c4 c5 c6 => ?_, ?_⟩ e z9 ?_ ?_ ?_ ?_
        · rw [z1 c b, zUp_k _ _ a]; exact M.1 c a b c1 c2
        · rw [z1 128 (by decide), zUp_j _ _ a]; exact M.2.1 j a b c1 c2 c3 c4 c5 c6
        · rw [z1 128 (by decide), zUp_j _ _ (by decide)]; exact M.2.2
        · rw [z1 134 (by decide), zUp_k _ _ (by decide), e17, zUp_k _ _ (by decide), F.1 134 (by decide) (by decide), g1 134 (by decide)]
        · rw [z1 128 (by decide), zUp_j _ _ (by decide), e17, zUp_j _ _ (by decide), F.2.1 7 (by decide) (by decide) (by decide) (by decide) (by decide) (by decide), g1 128 (by decide)]
        · rw [z1 128 (by decide), zUp_at]
        · rw [z1 128 (by decide), zUp_j _ _ (by decide), e17, zUp_at]
    · rw [y9] at e w9
      have ok := sbT_ok hR e
      have w1 : w 129 1 = x 129 1 := by rw [w9]; exact ok.1 1 (Or.inl rfl)
      refine ⟨fun _ => ⟨fun _ => fun m3 e3 => ?_, fun z => absurd (nI_pos' (by omega)) z⟩, fun z => absurd (nI_pos' (by omega)) z⟩
      have m9 : m3 129 = w 129 := by rw [e3, zUp_k _ _ (by decide)]
      have M := (fr w F).1
      rw [← e3] at M
      rw [m9, w1]
      refine ⟨fun n12 => fun m4 e4 m5 e5 => ?_, fun is12 => ?_⟩
      · have m59 : m5 129 = upd (sbT B L (x 129)).2 1 (x 129 1 + 1) := by
          rw [e5, zUp_k _ _ (by decide), e4, zUp_row, m9, w9]; rfl
        obtain ⟨t, ht, et⟩ := hR.2.1
        have t11 : t < 12 := by
          rw [et] at n12
          have : t ≠ 12 := fun z => n12 (by rw [z]; rfl)
          omega
        obtain ⟨p, hp⟩ := ok.2
        have R5 : zRg (m5 129) p := by rw [m59, et, nI_1 t]; exact hp.tx (by omega)
        refine s_laysFars (r := rdN (m5 129)) (zRd_le R5) (fun a b ha hb => zRd_eq R5 ha hb) (fun z z1 z2 => ⟨rfl, ?_⟩)
        have z9 : z 129 = m5 129 := z1 129 (by decide)
        dsimp only
        rw [z9, m59, upd_at]
        refine ho c z ⟨fun c a b c1 c2 => ?_, fun j a b c1 c2 c3 c4 c5 c6 => ?_, ?_⟩ e n12 (by rw [z9, m59]) (by rw [z9]; exact z2) ?_ ?_ ?_
        · rw [z1 c c2, e5, zUp_k _ _ a, e4, zUp_k _ _ b]; exact M.1 c a b c1 c2
        · rw [z1 128 (by decide), e5, zUp_j _ _ b, e4, zUp_k _ _ (by decide)]; exact M.2.1 j a b c1 c2 c3 c4 c5 c6
        · rw [z1 128 (by decide), e5, zUp_j _ _ (by decide), e4, zUp_k _ _ (by decide)]; exact M.2.2
        · rw [z1 128 (by decide), e5, zUp_at]
        · rw [z1 128 (by decide), e5, zUp_j _ _ (by decide), e4, zUp_k _ _ (by decide), e3, zUp_j _ _ (by decide)]; exact F.2.2.2.1
        · rw [z1 128 (by decide), e5, zUp_j _ _ (by decide), e4, zUp_k _ _ (by decide), e3, zUp_at]
      · refine r_restore (W := x 129) (fun j hj => ?_) (fun j hj => ?_) (fun z z1 z9 => ?_)
        · rw [zUp_k _ _ (by decide), e3, zUp_k _ _ (by decide), F.1 131 (by decide) (by decide)]; exact g2 j hj
        · rw [zUp_k _ _ (by decide), e3, zUp_k _ _ (by decide), F.2.2.1 j (by omega), y9]
        · refine hf c z ⟨fun c a b c1 c2 => ?_, fun j a b c1 c2 c3 c4 c5 c6 => ?_, ?_⟩ e is12 z9 ?_ ?_ ?_ ?_
          · rw [z1 c b, zUp_k _ _ a]; exact M.1 c a b c1 c2
          · rw [z1 128 (by decide), zUp_j _ _ a]; exact M.2.1 j a b c1 c2 c3 c4 c5 c6
          · rw [z1 128 (by decide), zUp_j _ _ (by decide)]; exact M.2.2
          · rw [z1 134 (by decide), zUp_k _ _ (by decide), e3, zUp_k _ _ (by decide), F.1 134 (by decide) (by decide), g1 134 (by decide)]
          · rw [z1 128 (by decide), zUp_j _ _ (by decide), e3, zUp_j _ _ (by decide), F.2.1 7 (by decide) (by decide) (by decide) (by decide) (by decide) (by decide), g1 128 (by decide)]
          · rw [z1 128 (by decide), zUp_at]
          · rw [z1 128 (by decide), zUp_j _ _ (by decide), e3, zUp_at]
  · obtain ⟨g1, g2⟩ := hy
    refine tX12_suburb_2 ?_
    rw [nI_clamp (n := i) (by omega), nI_1 i, g1 129 (by decide)]
    refine br_f (by rw [nI_lit, nI_leI (by omega) (by omega)]; show ¬ 1324 ≤ i; omega) ⟨vp_in_nI (by omega) (by decide), vp_in_nI (by omega) (by decide), ih _ ⟨fun c a => (zUp_k _ _ a).trans (g1 c a), fun j hj => ?_⟩⟩
    by_cases q : j = i
    · rw [q, zUp_at]
    · rw [zUp_j _ _ q]; exact g2 j (by omega)
