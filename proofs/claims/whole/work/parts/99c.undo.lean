theorem lwOk.row {W V : Nat → Int32} {L S : Nat} (e : ∀ k, 475 ≤ k → k < 1324 → V k = W k) (h : lwOk W L S) : lwOk V L S ∧ (∀ i, i < S → lwC V i = lwC W i ∧ lwV V i = lwV W i) ∧ ∀ l, l < L → lwK V l = lwK W l ∧ lwA V l = lwA W l ∧ lwB V l = lwB W l ∧ lwE V l = lwE W l := by
  obtain ⟨o1, o2, o3, o4, o5⟩ := h
  have c : ∀ i, i < S → lwC V i = lwC W i := fun i hi => by unfold lwC; rw [e _ (by omega) (by omega)]
  have v : ∀ i, i < S → lwV V i = lwV W i := fun i hi => by unfold lwV; rw [e _ (by omega) (by omega)]
  have kk : ∀ l, l < L → lwK V l = lwK W l := fun l hl => by unfold lwK; rw [e _ (by omega) (by omega)]
  have aa : ∀ l, l < L → lwA V l = lwA W l := fun l hl => by unfold lwA; rw [e _ (by omega) (by omega)]
  have bb : ∀ l, l < L → lwB V l = lwB W l := fun l hl => by unfold lwB; rw [e _ (by omega) (by omega)]
  have dd : ∀ l, l < L → lwE V l = lwE W l := fun l hl => by unfold lwE; rw [e _ (by omega) (by omega)]
  refine ⟨⟨o1, o2, by rw [e 475 (by decide) (by decide)]; exact o3, fun i hi => ?_, fun l hl => ?_⟩, fun i hi => ⟨c i hi, v i hi⟩, fun l hl => ⟨kk l hl, aa l hl, bb l hl, dd l hl⟩⟩
  · rw [c i hi, v i hi, e _ (by omega) (by omega), e _ (by omega) (by omega)]; exact o4 i hi
  · obtain ⟨p1, p2, p3, p4, p5, p6, p7⟩ := o5 l hl
    rw [kk l hl, aa l hl, bb l hl, dd l hl, e _ (by omega) (by omega), e _ (by omega) (by omega), e _ (by omega) (by omega), e _ (by omega) (by omega)]
    refine ⟨p1, p2, p3, p4, p5, p6, p7.imp id (fun z => ?_)⟩
    rw [tyEv_cong (D := lwC W) _ (fun k hk => c k (by omega))]; exact z
theorem lwRel.row2 {u : zM} {k : Nat} {W V : Nat → Int32} (h2 : V 2 = W 2) (e : ∀ k, 475 ≤ k → k < 1324 → V k = W k) (h : lwRel u k W) : lwRel u k V := by
  refine ⟨fun q => h.1 (by rw [← h2]; exact q), fun q => ?_⟩
  obtain ⟨L, S, ok, r6, rc, rl⟩ := h.2 (by rw [← h2]; exact q)
  obtain ⟨k1, k2, k3⟩ := ok.row e
  refine ⟨L, S, k1, r6, fun i hi => by rw [(k2 i hi).1, (k2 i hi).2]; exact rc i hi, fun l hl => ?_⟩
  obtain ⟨j1, j2, j3, j4⟩ := k3 l hl
  rw [j1, j2, j3, j4]; exact rl l hl
theorem zSb.row {u : zM} {k : Nat} {W V : Nat → Int32} (e : ∀ k, k < 1324 → V k = W k) (h : zSb u k W) : zSb u k V :=
  ⟨h.1.row (fun i a _ _ _ => e i (by omega)), h.2.1.row (fun i a b => e i (by omega)), h.2.2.row2 (e 2 (by decide)) (fun i a b => e i b)⟩
theorem op_imageV (u : zM) (hI : zIv u) : zCall 60 false 160 [.ref 0] u fun v w => v = none ∧ zCall 60 false 183 [.ref 128] w fun v2 w2 => v2 = none ∧ zIv w2 := by
  obtain ⟨n, hI⟩ := hI
  have hR := hI.1.1
  refine t2X11_image ?_
  refine s_copySub (k0 := 41) (k1 := 3) rfl rfl (by omega) (fun w1 f1 b1 l1 => ⟨rfl, rfl, ?_⟩)
  obtain ⟨w, ew⟩ : ∃ w, w = zUp w1 0 4 1 := ⟨_, rfl⟩
  rw [← ew]
  have fw : ∀ c, c ≠ 0 → (c < 42 ∨ 55 < c) → w c = u c := fun c a b => by rw [ew, zUp_k _ _ a]; exact f1 c (by omega)
  refine tX12_image ?_
  refine zFor (σ := zM) (Pr := fun i x => zRun 59 false zcX12_image 0 _ 7 [(0, .ref 128), (1, .int (nI i))] [] x) (fun i x => (∀ c, c ≠ 128 → c ≠ 130 → x c = w c) ∧ (∀ j, j ≠ 0 → x 128 j = w 128 j) ∧ ∀ j, j < i → x 130 j = w 129 j) 1324 (fun x hx => ?_) (fun i x hi hx ih => ?_) (zUp w 128 0 0) ⟨fun c a _ => zUp_k _ _ a, fun j hj => zUp_j _ _ hj, fun j hj => absurd hj (Nat.not_lt_zero _)⟩
  · obtain ⟨g1, g2, g3⟩ := hx
    refine tX12_image_7 (br_t (Int32.le_refl _) ⟨rfl, n, ?_⟩)
    obtain ⟨z, ez⟩ : ∃ z, z = zUp x 128 6 1 := ⟨_, rfl⟩
    rw [← ez]
    have zw : ∀ c, c ≠ 128 → c ≠ 130 → z c = w c := fun c a b => by rw [ez, zUp_k _ _ a]; exact g1 c a b
    have zu : ∀ c, c ≠ 0 → (c < 42 ∨ 55 < c) → c ≠ 128 → c ≠ 130 → z c = u c := fun c a b x y => (zw c x y).trans (fw c a b)
    have z8 : ∀ j, j ≠ 0 → j ≠ 6 → z 128 j = u 128 j := fun j a b => by rw [ez, zUp_j _ _ b, g2 j a, fw 128 (by decide) (by decide)]
    have z0 : ∀ j, j ≠ 4 → z 0 j = u 0 j := fun j a => by rw [zw 0 (by decide) (by decide), ew, zUp_j _ _ a, f1 0 (by decide)]
    have e30 : ∀ j, j < 1324 → z 130 j = u 129 j := fun j hj => by rw [ez, zUp_k _ _ (by decide), g3 j hj, fw 129 (by decide) (by decide)]
    have e9 : z 129 = u 129 := zu 129 (by decide) (by decide) (by decide) (by decide)
    obtain ⟨c, l, t, p, i, k⟩ := hI
    refine ⟨?_, ?_, ?_, ?_, ?_, ?_⟩
    · refine ⟨by rw [e9]; exact c.1, fun a b ha hb => ?_, ?_, ?_⟩
      · rw [zu 134 (by decide) (by decide) (by decide) (by decide), e9]; exact c.2.1 a b ha hb
      · rw [e9]; exact c.2.2.1.congr (fun x a b => zu x (by omega) (by omega) (by omega) (by omega))
      · rw [e9]; exact c.2.2.2.congr (zu 10 (by decide) (by decide) (by decide) (by decide)) (zu 11 (by decide) (by decide) (by decide) (by decide))
    · rw [e9]; exact l.congr (by rw [zu 12 (by decide) (by decide) (by decide) (by decide)]) (fun y a b => zu y (by omega) (by omega) (by omega) (by omega))
    · exact t.congr (by rw [zu 1 (by decide) (by decide) (by decide) (by decide)]) (by rw [zu 1 (by decide) (by decide) (by decide) (by decide)]) (zu 2 (by decide) (by decide) (by decide) (by decide)) (zu 135 (by decide) (by decide) (by decide) (by decide)) (z8 10 (by decide) (by decide)) (z8 15 (by decide) (by decide))
    · exact p.congr (z0 7 (by decide)) (z0 6 (by decide)) (z8 7 (by decide) (by decide)) (zu 133 (by decide) (by decide) (by decide) (by decide)) e9 (fun y a b => zu y (by omega) (by omega) (by omega) (by omega))
    · refine ⟨1, by decide, ?_, ?_, fun _ => ⟨n, hR.row (fun j hj => e30 j (by omega)), ?_, ?_⟩⟩
      · rw [zw 0 (by decide) (by decide), ew, zUp_at]; rfl
      · rw [ez, zUp_at]; rfl
      · have b : zSb w1 41 (u 129) := b1 _ ⟨zDyV.of c.2.2.1, c.2.2.2, l⟩
        have b2 : zSb z 41 (u 129) := b.congr (fun y a d => by rw [zw y (by omega) (by omega), ew, zUp_k _ _ (by omega)]) (fun y a d => by rw [zw y (by omega) (by omega), ew, zUp_k _ _ (by omega)]) (by rw [zw 50 (by decide) (by decide), ew, zUp_k _ _ (by decide)]) (fun y a d => by rw [zw y (by omega) (by omega), ew, zUp_k _ _ (by omega)])
        exact b2.row e30
      · have b : zLg w1 45 (u 129) := l1 _ c.2.2.1.2.2.2
        exact (b.congr (w := z) (by rw [zw 45 (by decide) (by decide), ew, zUp_k _ _ (by decide)]) (by rw [zw 46 (by decide) (by decide), ew, zUp_k _ _ (by decide)])).row (fun j hj => e30 j (by omega))
    · unfold zTrK zTrT
      rw [zu 121 (by decide) (by decide) (by decide) (by decide), zu 122 (by decide) (by decide) (by decide) (by decide), zu 124 (by decide) (by decide) (by decide) (by decide), e9]
      exact k
  · obtain ⟨g1, g2, g3⟩ := hx
    refine tX12_image_7 ?_
    rw [nI_clamp (n := i) (by omega), nI_1 i, g1 129 (by decide) (by decide)]
    refine br_f (by rw [nI_lit, nI_leI (by omega) (by omega)]; omega) ⟨vp_in_nI (by omega) (by decide), vp_in_nI (by omega) (by decide), ?_⟩
    refine ih _ ⟨fun c a b => (zUp_k _ _ b).trans (g1 c a b), fun j hj => (zUp_kj _ _ (by decide)).trans (g2 j hj), fun j hj => ?_⟩
    by_cases q : j = i
    · rw [q, zUp_at]
    · rw [zUp_j _ _ q]; exact g3 j (by omega)
theorem op_back : zOkA 161 184 [] := by
  intro u ⟨n, hI⟩
  obtain ⟨c, l, t, p, i, k⟩ := hI
  obtain ⟨f, hf, i1, i2, i3⟩ := i
  refine t2X11_back ⟨fun q => ?_, fun q => ?_⟩
  · have f1 : f = 1 := by
      have : f = 0 ∨ f = 1 := by omega
      rcases this with rfl | rfl
      · exact absurd i1 q
      · rfl
    subst f1
    obtain ⟨m, r1, r2, r3⟩ := i3 rfl
    refine s_copySub (k0 := 3) (k1 := 41) rfl rfl (by omega) (fun w1 f1 b1 l1 => ⟨rfl, fun m3 j3 => ?_⟩)
    obtain ⟨w, ew⟩ : ∃ w, w = zUp m3 0 7 0 := ⟨_, rfl⟩
    rw [← ew]
    have fw : ∀ c, c ≠ 0 → c ≠ 121 → (c < 4 ∨ 17 < c) → w c = u c := fun c a b d => by rw [ew, zUp_k _ _ a, j3, zUp_k _ _ b]; exact f1 c (by omega)
    have w1' : ∀ c, c ≠ 0 → c ≠ 121 → w c = w1 c := fun c a b => by rw [ew, zUp_k _ _ a, j3, zUp_k _ _ b]
    refine tX12_back (fun m1 e1 => ⟨fun _ => ?_, fun z => absurd z ?_⟩)
    · refine zFor (σ := zM) (Pr := fun i x => zRun 59 false zcX12_back 2 _ 16 [(0, .ref 128), (1, .int (nI i))] [] x) (fun i x => (∀ c, c ≠ 129 → x c = m1 c) ∧ ∀ j, j < i → x 129 j = u 130 j) 1324 (fun x hx => ?_) (fun i x hi hx ih => ?_) m1 ⟨fun _ _ => rfl, fun j hj => absurd hj (Nat.not_lt_zero _)⟩
      · obtain ⟨g1, g2⟩ := hx
        refine tX12_back_16 (br_t (Int32.le_refl _) (fun y ey => ?_))
        have e9 : ∀ j, j < 1324 → y 129 j = u 130 j := fun j hj => by rw [ey, zUp_k _ _ (by decide)]; exact g2 j hj
        have R9 : zRg (y 129) m := r1.row (fun j hj => e9 j (by omega))
        refine s_laysFars (r := rdN (y 129)) (zRd_le R9) (fun a b ha hb => zRd_eq R9 ha hb) (fun z h1 h2 => ⟨rfl, rfl, m, ?_⟩)
        have zy9 : z 129 = y 129 := h1 129 (by decide)
        have zw : ∀ c, c ≠ 128 → c ≠ 129 → c ≠ 134 → z c = w c := fun c a b d => by rw [h1 c d, ey, zUp_k _ _ a, g1 c b, e1, zUp_k _ _ a]
        have zu : ∀ c, c ≠ 0 → c ≠ 121 → (c < 4 ∨ 17 < c) → c ≠ 128 → c ≠ 129 → c ≠ 134 → z c = u c := fun c a b d x y v => (zw c x y v).trans (fw c a b d)
        have z8 : ∀ j, j ≠ 0 → j ≠ 7 → z 128 j = u 128 j := fun j a b => by rw [h1 128 (by decide), ey, zUp_j _ _ b, g1 128 (by decide), e1, zUp_j _ _ a, fw 128 (by decide) (by decide) (by decide)]
        have z0 : ∀ j, j ≠ 7 → z 0 j = u 0 j := fun j a => by rw [zw 0 (by decide) (by decide) (by decide), ew, zUp_j _ _ a, j3, zUp_k _ _ (by decide), f1 0 (by decide)]
        have S3 : zSb z 3 (z 129) := by
          have b : zSb w1 3 (u 130) := b1 _ r2
          have b2 : zSb z 3 (u 130) := b.congr (fun q a d => by rw [zw q (by omega) (by omega) (by omega), w1' q (by omega) (by omega)]) (fun q a d => by rw [zw q (by omega) (by omega) (by omega), w1' q (by omega) (by omega)]) (by rw [zw 12 (by decide) (by decide) (by decide), w1' 12 (by decide) (by decide)]) (fun q a d => by rw [zw q (by omega) (by omega) (by omega), w1' q (by omega) (by omega)])
          rw [zy9]; exact b2.row e9
        have L3 : zLg z 7 (z 129) := by
          have b : zLg w1 7 (u 130) := l1 _ r3
          rw [zy9]
          exact (b.congr (w := z) (by rw [zw 7 (by decide) (by decide) (by decide), w1' 7 (by decide) (by decide)]) (by rw [zw 8 (by decide) (by decide) (by decide), w1' 8 (by decide) (by decide)])).row (fun j hj => e9 j (by omega))
        obtain ⟨A, N, hA, hN, p1, p2, p3, p4⟩ := p
        refine ⟨⟨by rw [zy9]; exact R9, fun a b ha hb => by rw [zy9]; exact h2 a b ha hb, S3.1.dy L3, S3.2.1⟩, S3.2.2, ?_, ?_, ?_, Or.inl ?_, by rw [zu 124 (by decide) (by decide) (by decide) (by decide) (by decide) (by decide)]; exact k.2⟩
        · exact t.congr (by rw [zu 1 (by decide) (by decide) (by decide) (by decide) (by decide) (by decide)]) (by rw [zu 1 (by decide) (by decide) (by decide) (by decide) (by decide) (by decide)]) (zu 2 (by decide) (by decide) (by decide) (by decide) (by decide) (by decide)) (zu 135 (by decide) (by decide) (by decide) (by decide) (by decide) (by decide)) (z8 10 (by decide) (by decide)) (z8 15 (by decide) (by decide))
        · refine ⟨0, N, by decide, hN, ?_, ?_, by rw [z0 6 (by decide)]; exact p3, fun j hj => absurd hj (Nat.not_lt_zero _)⟩
          · rw [zw 0 (by decide) (by decide) (by decide), ew, zUp_at]; rfl
          · rw [h1 128 (by decide), ey, zUp_at]; rfl
        · have I : zIm u := ⟨1, hf, i1, i2, i3⟩
          exact I.congr (z0 4 (by decide)) (z8 6 (by decide) (by decide)) (zu 130 (by decide) (by decide) (by decide) (by decide) (by decide) (by decide)) (fun q a d => zu q (by omega) (by omega) (by omega) (by omega) (by omega) (by omega))
        · rw [zw 121 (by decide) (by decide) (by decide), ew, zUp_k _ _ (by decide), j3, zUp_at]
      · obtain ⟨g1, g2⟩ := hx
        have r30 : x 130 = u 130 := by rw [g1 130 (by decide), e1, zUp_k _ _ (by decide), fw 130 (by decide) (by decide) (by decide)]
        refine tX12_back_16 ?_
        rw [nI_clamp (n := i) (by omega), nI_1 i, r30]
        refine br_f (by rw [nI_lit, nI_leI (by omega) (by omega)]; omega) ⟨vp_in_nI (by omega) (by decide), vp_in_nI (by omega) (by decide), ?_⟩
        refine ih _ ⟨fun c a => (zUp_k _ _ a).trans (g1 c a), fun j hj => ?_⟩
        by_cases q : j = i
        · rw [q, zUp_at]
        · rw [zUp_j _ _ q]; exact g2 j (by omega)
    · rw [e1, zUp_j _ _ (by decide), fw 128 (by decide) (by decide) (by decide), i2]; decide
  · have f0 : f = 0 := by
      have : f = 0 ∨ f = 1 := by omega
      rcases this with rfl | rfl
      · rfl
      · rw [i1] at q; exact absurd q (by decide)
    subst f0
    refine tX12_back (fun m1 e1 => ⟨fun z => absurd ?_ z, fun _ => ⟨rfl, n, ?_⟩⟩)
    · rw [e1, zUp_j _ _ (by decide), i2]; rfl
    · rw [e1]
      exact (zSame.m (u := u) (j := 0) 0 (by decide)).inv ⟨c, l, t, p, ⟨0, hf, i1, i2, i3⟩, k⟩
theorem op_undo : zOkA 159 186 [] := by
  intro u ⟨n, hI⟩
  have hI' := hI
  obtain ⟨c, l, t, ⟨A, N, hA, hN, p7, q7, p6, hP⟩, i, k⟩ := hI'
  have h8 := c.1.1.1
  have el : (((u 0 6) + 12) - 1) - (((u 0 6) + 12) - 1) / 12 * 12 = nI ((N + 11) % 12) := by
    have e0 : ((nI N + 12) - 1) = nI (N + 11) := by rw [nI_lit, nI_lit, nI_add, nI_sub (by omega)]; rfl
    rw [p6, e0, nI_lit, nI_rem (by omega) (by omega)]
  have hl : (N + 11) % 12 < 12 := Nat.mod_lt _ (by decide)
  refine t2X11_undo ?_
  rw [el, p7, nI_clamp (n := (N + 11) % 12) (by omega)]
  refine ⟨fun q => ?_, fun q => br_f (nI_pos (by omega)) ⟨vp_in_nI hl (by decide), vp_in_nI hl (by decide), ?_⟩⟩
  · rw [nI_lit, nI_ltI (by omega) (by omega)] at q
    obtain rfl : A = 0 := by omega
    refine tX12_undo (fun m1 e1 => ⟨fun z => absurd ?_ z, fun _ => ⟨rfl, n, ?_⟩⟩)
    · rw [e1, zUp_j _ _ (by decide), q7]; rfl
    · rw [e1]; exact (zSame.m (u := u) (j := 0) 0 (by decide)).inv hI
  · rw [nI_lit, nI_ltI (by omega) (by omega)] at q
    have A1 : 1 ≤ A := by omega
    obtain ⟨b1, b2, b3⟩ := hP (A - 1) (by omega)
    have ix : (N + 12 - A + (A - 1)) % 12 = (N + 11) % 12 := by congr 1; omega
    rw [ix] at b2
    have hs : zShapes[60 + 1 + 5 * ((N + 11) % 12)]? = some (.inl 1) := by
      have := zs_past (i := nI ((N + 11) % 12)) (vp_in_nI hl (by decide))
      rwa [nI_clamp (by omega)] at this
    refine s_copyDays (k0 := 4) rfl hs (by omega) (fun w1 f1 cp => ⟨rfl, fun m5 i5 => ?_⟩)
    have r7 : m5 0 7 = nI A := by rw [i5, zUp_j _ _ (by decide), f1 0 (by omega)]; exact p7
    have sA : nI A - 1 = nI (A - 1) := nI_sub (b := 1) A1
    rw [r7, sA]
    obtain ⟨w, ew⟩ : ∃ w, w = zUp m5 0 7 (nI (A - 1)) := ⟨_, rfl⟩
    rw [← ew]
    have fw : ∀ c, c ≠ 0 → (c < 4 ∨ 8 < c) → w c = u c := fun c a b => by rw [ew, zUp_k _ _ a, i5, zUp_k _ _ a]; exact f1 c (by omega)
    have D4 : zDy w 4 (zAct u (A - 1)) := ((cp.dy (zDyV.of b2)).dy (cp.lg b2.2.2.2)).congr (fun c a b => by rw [ew, zUp_k _ _ (by omega), i5, zUp_k _ _ (by omega)])
    refine tX12_undo (fun m1 e1 => ⟨fun _ => ?_, fun z => absurd z ?_⟩)
    · have r8 : m1 128 7 = nI A := by rw [e1, zUp_j _ _ (by decide), fw 128 (by decide) (by decide)]; exact q7
      rw [r8, sA]
      refine zFor (σ := zM) (Pr := fun i x => zRun 59 false zcX12_undo 2 _ 26 [(0, .ref 128), (1, .int (nI i))] [] x) (fun i x => (∀ c, c ≠ 129 → x c = (zUp m1 128 7 (nI (A - 1))) c) ∧ ∀ j, x 129 j = if j < i then zAct u (A - 1) j else u 129 j) 475 (fun x hx => ?_) (fun i x hi hx ih => ?_) (zUp m1 128 7 (nI (A - 1))) ⟨fun _ _ => rfl, fun j => by rw [if_neg (Nat.not_lt_zero _), zUp_k _ _ (by decide), e1, zUp_k _ _ (by decide), fw 129 (by decide) (by decide)]⟩
      · obtain ⟨g1, g2⟩ := hx
        refine tX12_undo_26 (br_t (Int32.le_refl _) ⟨rfl, n, ?_⟩)
        have e9 : ∀ j, j < 475 → x 129 j = zAct u (A - 1) j := fun j hj => by rw [g2, if_pos hj]
        have e9' : ∀ j, 475 ≤ j → x 129 j = u 129 j := fun j hj => by rw [g2, if_neg (by omega)]
        have xw : ∀ c, c ≠ 128 → c ≠ 129 → x c = w c := fun c a b => by rw [g1 c b, zUp_k _ _ a, e1, zUp_k _ _ a]
        have xu : ∀ c, c ≠ 0 → (c < 4 ∨ 8 < c) → c ≠ 128 → c ≠ 129 → x c = u c := fun c a b d e => (xw c d e).trans (fw c a b)
        have x8 : ∀ j, j ≠ 0 → j ≠ 7 → x 128 j = u 128 j := fun j a b => by rw [g1 128 (by decide), zUp_j _ _ b, e1, zUp_j _ _ a, fw 128 (by decide) (by decide)]
        have x0 : ∀ j, j ≠ 6 → j ≠ 7 → x 0 j = u 0 j := fun j a b => by rw [xw 0 (by decide) (by decide), ew, zUp_j _ _ b, i5, zUp_j _ _ a, f1 0 (by omega)]
        have R9 : zRg (x 129) n := b1.row e9
        have B9 : zBase (x 129) (u 129) := by
          have q1 : zBase (u 129) (x 129) := b3.row e9
          exact q1.sy
        refine ⟨⟨R9, ?_, ?_, ?_⟩, ?_, ?_, ?_, ?_, ?_⟩
        · intro a b ha hb
          rw [xu 134 (by decide) (by decide) (by decide) (by decide), c.2.1 a b ha hb, B9.rd]
        · exact (D4.congr (fun q a b => xw q (by omega) (by omega))).row e9
        · exact (c.2.2.2.congr (xu 10 (by decide) (by decide) (by decide) (by decide)) (xu 11 (by decide) (by decide) (by decide) (by decide))).row (fun y p q => (B9.1 y p q).symm)
        · exact (l.congr (w := x) (by rw [xu 12 (by decide) (by decide) (by decide) (by decide)]) (fun y p q => xu y (by omega) (by omega) (by omega) (by omega))).row B9.2.1.symm e9'
        · exact t.congr (by rw [xu 1 (by decide) (by decide) (by decide) (by decide)]) (by rw [xu 1 (by decide) (by decide) (by decide) (by decide)]) (xu 2 (by decide) (by decide) (by decide) (by decide)) (xu 135 (by decide) (by decide) (by decide) (by decide)) (x8 10 (by decide) (by decide)) (x8 15 (by decide) (by decide))
        · refine ⟨A - 1, (N + 11) % 12, by omega, hl, ?_, ?_, ?_, fun j hj => ?_⟩
          · rw [xw 0 (by decide) (by decide), ew, zUp_at]
          · rw [g1 128 (by decide), zUp_at]
          · rw [xw 0 (by decide) (by decide), ew, zUp_j _ _ (by decide), i5, zUp_at]
          · obtain ⟨d1, d2, d3⟩ := hP j (by omega)
            have hm : (N + 12 - A + j) % 12 < 12 := Nat.mod_lt _ (by decide)
            have ix2 : ((N + 11) % 12 + 12 - (A - 1) + j) % 12 = (N + 12 - A + j) % 12 := by omega
            rw [zAct.congr (xu 133 (by decide) (by decide) (by decide) (by decide)), ix2]
            exact ⟨d1, d2.congr (fun y p r => xu y (by omega) (by omega) (by omega) (by omega)), B9.tr d3⟩
        · exact i.congr (x0 4 (by decide) (by decide)) (x8 6 (by decide) (by decide)) (xu 130 (by decide) (by decide) (by decide) (by decide)) (fun y p q => xu y (by omega) (by omega) (by omega) (by omega))
        · have x1 := xu 121 (by decide) (by decide) (by decide) (by decide)
          have x2 := xu 122 (by decide) (by decide) (by decide) (by decide)
          have x4 := xu 124 (by decide) (by decide) (by decide) (by decide)
          obtain ⟨k, k0⟩ := k
          refine ⟨?_, by rw [x4]; exact k0⟩
          rcases k with k | ⟨k1, k2⟩
          · exact Or.inl (by rw [x1]; exact k)
          · refine Or.inr ⟨by rw [x1]; exact k1, ?_⟩
            have e : zTrT x n (u 129) := by
              intro set start p q
              rw [x2]; exact k2 set start p q
            exact zTrT.base h8 B9.sy e
      · obtain ⟨g1, g2⟩ := hx
        have r128 : x 128 7 = nI (A - 1) := by rw [g1 128 (by decide), zUp_at]
        have r133 : x 133 = u 133 := by rw [g1 133 (by decide), zUp_k _ _ (by decide), e1, zUp_k _ _ (by decide), fw 133 (by decide) (by decide)]
        have ek : (475 * (x 128 7)) + nI i = nI (475 * (A - 1) + i) := by rw [r128, nI_lit, nI_mul, nI_add]
        have bd : 475 * (A - 1) ≤ 475 * 11 := Nat.mul_le_mul_left _ (by omega)
        refine tX12_undo_26 ?_
        rw [ek, nI_clamp (n := 475 * (A - 1) + i) (by omega), nI_clamp (n := i) (by omega), nI_1 i, r133]
        refine br_f (by rw [nI_lit, nI_leI (by omega) (by omega)]; omega) ⟨vp_in_nI (by omega) (by decide), vp_in_nI (by omega) (by decide), ?_⟩
        refine ih _ ⟨fun c a => (zUp_k _ _ a).trans (g1 c a), fun j => ?_⟩
        by_cases y : j = i
        · rw [y, zUp_at, if_pos (by omega)]; rfl
        · rw [zUp_j _ _ y, g2 j]
          by_cases y2 : j < i
          · rw [if_pos y2, if_pos (by omega)]
          · rw [if_neg y2, if_neg (by omega)]
    · rw [e1, zUp_j _ _ (by decide), fw 128 (by decide) (by decide), q7]
      exact nI_ne0 (by omega) (by omega)
