theorem s_add {d k s : Nat} {a1 a2 a3 a4 : Int32} {V : Nat → Int32} {u : zM} {Q : Option Value → zM → Prop} (hk : zShapes[k]? = some (.inl 3)) (e1 : a1 = V 3) (e2 : a2 = nI s) (hl : zLg u k V)
    (h : ∀ w : zM, (∀ c, c ≠ k → c ≠ k + 1 → w c = u c) → zLg w k (pTell V s a3 a4) → Q none w) : zCall (d + 1) false 37 [.ref k, .int a1, .int a2, .int a3, .int a4] u Q := by
  subst e1; subst e2
  obtain ⟨L, N, hL, hN, g1, g2, g3, g4⟩ := hl
  have k0 : (nI N * 4) = nI (N * 4) := by rw [nI_lit, nI_mul]
  have k4 : nI (N * 4) + 4 = nI (N * 4 + 4) := by rw [nI_lit, nI_add]
  have k1 : nI (N * 4) + 1 = nI (N * 4 + 1) := by rw [nI_1]
  have k2 : nI (N * 4) + 2 = nI (N * 4 + 2) := by rw [nI_lit, nI_add]
  have k3 : nI (N * 4) + 3 = nI (N * 4 + 3) := by rw [nI_lit, nI_add]
  refine tX3_add hk ?_
  rw [g2, k0, k4, k1, k2, k3, nI_clamp (n := N * 4) (by omega), nI_clamp (n := N * 4 + 1) (by omega), nI_clamp (n := N * 4 + 2) (by omega), nI_clamp (n := N * 4 + 3) (by omega)]
  refine br_f (nI_pos (by omega)) (br_t (by rw [nI_lit, nI_leI (by omega) (by omega)]; omega) ⟨vp_in_nI (by omega) (by decide), fun m1 i1 => ⟨vp_in_nI (by omega) (by decide), fun m2 i2 => ⟨vp_in_nI (by omega) (by decide), fun m3 i3 => ⟨vp_in_nI (by omega) (by decide), fun m4 i4 m5 i5 => ?_⟩⟩⟩⟩)
  have r2 : m4 k 2 = nI N := by rw [i4, zUp_kj _ _ (by omega), i3, zUp_kj _ _ (by omega), i2, zUp_kj _ _ (by omega), i1, zUp_kj _ _ (by omega)]; exact g2
  have e60 : (nI N + 1) - (nI N + 1) / 60 * 60 = nI ((N + 1) % 60) := by rw [nI_1, nI_lit, nI_rem (by omega) (by omega)]
  rw [r2, e60] at i5
  have r1 : m5 k 1 = nI L := by rw [i5, zUp_j _ _ (by decide), i4, zUp_kj _ _ (by omega), i3, zUp_kj _ _ (by omega), i2, zUp_kj _ _ (by omega), i1, zUp_kj _ _ (by omega)]; exact g1
  have eL : (if nI L + 1 < 60 then nI L + 1 else 60) = nI (min (L + 1) 60) := i_cap (c := L) (k := 1) 60 (by omega) (by omega) (by omega)
  rw [r1, eL]
  have hm : (N + 1) % 60 < 60 := Nat.mod_lt _ (by decide)
  refine h _ (fun c a b => by rw [zUp_k _ _ a, i5, zUp_k _ _ a, i4, zUp_k _ _ b, i3, zUp_k _ _ b, i2, zUp_k _ _ b, i1, zUp_k _ _ b]) ⟨min (L + 1) 60, (N + 1) % 60, Nat.min_le_right _ _, hm, zUp_at _ _ _ _, ?_, ?_, fun i c hi hc => ?_⟩
  · rw [zUp_j _ _ (by decide), i5, zUp_at]
  · unfold pTell
    rw [if_pos rfl, g3, eL]
  · have cells : ∀ x, zUp m5 k 1 (nI (min (L + 1) 60)) (k + 1) x = upd (upd (upd (upd (u (k + 1)) (N * 4) (V 3)) (N * 4 + 1) (nI s)) (N * 4 + 2) a3) (N * 4 + 3) a4 x := fun x => by
      rw [zUp_kj _ _ (by omega), i5, zUp_kj _ _ (by omega), i4, zUp_row, i3, zUp_row, i2, zUp_row, i1, zUp_row]
    rw [cells]
    by_cases q : i = 0
    · subst q
      have e : ((N + 1) % 60 + 59 - 0) % 60 = N := by omega
      rw [e]
      have hc4 : c = 0 ∨ c = 1 ∨ c = 2 ∨ c = 3 := by omega
      rcases hc4 with rfl | rfl | rfl | rfl
      · rw [upd_ne _ _ (by omega), upd_ne _ _ (by omega), upd_ne _ _ (by omega)]; exact upd_at (u (k + 1)) (N * 4) (V 3)
      · rw [upd_ne _ _ (by omega), upd_ne _ _ (by omega), upd_at]; rfl
      · rw [upd_ne _ _ (by omega), upd_at]; rfl
      · rw [upd_at]; rfl
    · have e : ((N + 1) % 60 + 59 - i) % 60 = (N + 59 - (i - 1)) % 60 := by omega
      have ne : (N + 59 - (i - 1)) % 60 ≠ N := by omega
      have lt : (N + 59 - (i - 1)) % 60 < 60 := Nat.mod_lt _ (by decide)
      rw [e, upd_ne _ _ (by omega), upd_ne _ _ (by omega), upd_ne _ _ (by omega), upd_ne _ _ (by omega), g4 (i - 1) c (by omega) hc]
      unfold pTell
      rw [if_neg (by omega), if_neg (by omega), if_neg (by omega), if_neg (by omega), if_neg (by omega), if_pos (by omega)]
      congr 1; omega
/-- THE LOG of one morning -/
theorem s_writeLog {d n k : Nat} {W V : Nat → Int32} {u : zM} {Q : Option Value → zM → Prop} (hk : zShapes[k]? = some (.inl 6)) (hR : zRg W n) (hD : zDyV u (k + 1) V) (hV : zStp W V) (hx : zRX u (k + 16) (pRide W n)) (hy : zRY u (k + 16) (pRide W n)) (hl : zLg u (k + 4) V)
    (h : ∀ w : zM, (∀ c, c ≠ k + 4 → c ≠ k + 5 → w c = u c) → zLg w (k + 4) (pLogs W (pRide W n) V n) → Q none w) : zCall (d + 3) false 64 [.ref k] u Q := by
  have h8 := hR.1.1
  obtain ⟨K, p0, hK, hp, h5, h4, e1, e2⟩ := pRide_is hR n
  have inj := stN_inj hR
  have hs8 := stN_lt W
  have n0 : V 0 = W 0 := hV.1.1 0 (by decide) (by decide) (by decide) (by decide)
  refine t2X6_writeLog hk ?_
  refine zFor (σ := zM) (Pr := fun i w => zRun (d + 2) false zcX6_writeLog 0 Q 2 [(0, .ref k), (1, .int (nI i))] [] w) (fun i w => (∀ c, c ≠ k + 4 → c ≠ k + 5 → w c = u c) ∧ zLg w (k + 4) (pLogs W (pRide W n) V i)) n (fun w hw => ?_) (fun i w hi hw ih => ?_) u ⟨fun _ _ _ => rfl, hl⟩
  · refine t2X6_writeLog_2 hk ⟨fun _ => h w hw.1 hw.2, fun q => absurd ?_ q⟩
    rw [hw.1 (k + 1) (by omega) (by omega), hD.1.1, n0, hR.1.2]; exact Int32.le_refl _
  · obtain ⟨g1, g2⟩ := hw
    obtain ⟨s1, s2⟩ := stN_eq hR hi
    obtain ⟨s, es⟩ : ∃ s, s = stN W i := ⟨_, rfl⟩
    rw [← es] at s1 s2
    have hs : s < 8 := by omega
    obtain ⟨b, hb, eb⟩ := zRide_lf (F := zFar W) (K := K) (p0 := p0) (cn := cnN W) (no := zNo W) (st := stN W) s n
    have ati := zRide_at (F := zFar W) (K := K) (p0 := p0) (n := n) (cn := cnN W) (no := zNo W) (st := stN W) (j := i) hs8 inj n hi (Nat.le_refl _)
    rw [← e1] at eb ati
    rw [← es] at ati
    have pl : u (k + 1 + 2) i = nI s := (hD.2.2 i (by omega)).trans ((hV.1.1 (155 + i) (by omega) (by omega) (by omega) (by omega)).trans s1)
    have st : pLogs W (pRide W n) V (i + 1) = pLog1 (stN W) (pRide W n) (pLogs W (pRide W n) V i) i := rfl
    have ok := pLogs_ok (W := W) (r := pRide W n) hV.2.1 i
    refine t2X6_writeLog_2 hk ?_
    rw [g1 (k + 1) (by omega) (by omega), g1 (k + 1 + 2) (by omega) (by omega), g1 (k + 16 + 1) (by omega) (by omega), g1 (k + 16 + 2) (by omega) (by omega), hD.1.1, n0, hR.1.2, nI_clamp (n := i) (by omega), pl, nI_clamp (n := s) (by omega), hx.2.2.2 s hs, eb, nI_1 i]
    refine br_f (by rw [nI_leI (by omega) (by omega)]; omega) ⟨vp_in_nI (by omega) (by decide), vp_in_nI hs (by decide), fun q => ?_, fun q => ⟨vp_in_nI hs (by decide), vp_in_nI hs (by decide), ?_⟩⟩
    · rw [nI_lit, nI_leI (by omega) (by omega)] at q
      refine ih w ⟨g1, ?_⟩
      rw [st]
      unfold pLog1
      rw [← es, eb, if_neg (by rw [nI_lit, nI_ltI (by omega) (by omega)]; omega)]
      exact g2
    · rw [nI_lit, nI_leI (by omega) (by omega)] at q
      have came : tb (pRide W n).came s = true := by
        by_cases z : zGoes (zFar W) (cnN W) (zRide (zFar W) K (cnN W) (zNo W) (stN W) p0 i) s
        · exact (ati.1 z).1
        · have := (ati.2 z).2
          rw [eb] at this
          exact absurd this (nI_ne0 (by omega) (by omega))
      rw [hy s hs came]
      have dd : u (k + 1) 10 = pLogs W (pRide W n) V i 3 := by rw [ok.2.2]; exact hD.1.2.2.2.2.2.2.2.1
      refine s_add (s := s) (zs1_3 (zs6_1 hk)) dd rfl g2 (fun w2 a1 a2 => ⟨rfl, ?_⟩)
      refine ih w2 ⟨fun c c1 c2 => (a1 c c1 c2).trans (g1 c c1 c2), ?_⟩
      rw [st]
      unfold pLog1
      rw [← es, eb, if_pos (by rw [nI_lit, nI_ltI (by omega) (by omega)]; omega)]
      exact a2
theorem s_drinkAndSour {d n k : Nat} {W : Nat → Int32} {u : zM} {Q : Option Value → zM → Prop} (hk : zShapes[k]? = some (.inl 6)) (hR : zRg W n) (hS : zSb u k W)
    (h : ∀ w : zM, zFq k u w → (∀ c, c = k + 16 ∨ c = k + 17 ∨ c = k + 18 → w c = u c) → zSb w k (pEve W n) → Q none w) : zCall (d + 6) false 66 [.ref k] u Q := by
  have h8 := hR.1.1
  have hw := hS.2.2.wf
  have D := fun i hi => pDrinks_ok hR hw i hi
  have R1 := (D n (Nat.le_refl _)).rg hR
  have W1 := (D n (Nat.le_refl _)).1.wf hw
  have S := fun i hi => pSours_ok R1 W1 i hi
  refine t2X6_drinkAndSour hk ?_
  refine zFor (σ := zM) (Pr := fun i w => zRun (d + 5) false zcX6_drinkAndSour 0 Q 2 [(0, .ref k), (1, .int (nI i))] [] w) (fun i w => zFq k u w ∧ (∀ c, c = k + 16 ∨ c = k + 17 ∨ c = k + 18 → w c = u c) ∧ zSb w k (pAll pDrink W i)) n (fun w hx => ?_) (fun i w hi hx ih => ?_) u ⟨zFq.rf k u, fun _ _ => rfl, hS⟩
  · obtain ⟨f1, f0, f2⟩ := hx
    refine t2X6_drinkAndSour_2 hk ⟨fun _ => ?_, fun q => absurd ?_ q⟩
    · refine zFor (σ := zM) (Pr := fun i w => zRun (d + 5) false zcX6_drinkAndSour 0 Q 29 [(0, .ref k), (1, .int (nI i))] [] w) (fun i w => zFq k u w ∧ (∀ c, c = k + 16 ∨ c = k + 17 ∨ c = k + 18 → w c = u c) ∧ zSb w k (pAll pSour (pAll pDrink W n) i)) n (fun w hx => ?_) (fun i w hi hx ih => ?_) w ⟨f1, f0, f2⟩
      · obtain ⟨g1, g0, g2⟩ := hx
        have Rn := (S n (Nat.le_refl _)).rg R1
        refine t2X6_drinkAndSour_29 hk ⟨fun _ => ?_, fun q => absurd ?_ q⟩
        · have r : w (k + 1) 10 = pAll pSour (pAll pDrink W n) n 3 := g2.1.1.2.2.2.2.2.2.2.1
          rw [r]
          refine h _ (g1.tr (zFq.of (k + 1) (by omega) (fun c hc => zUp_k _ _ hc))) (fun c hc => (zUp_k _ _ (by omega)).trans (g0 c hc)) ?_
          have e : pEve W n = upd (pAll pSour (pAll pDrink W n) n) 3 (if pAll pSour (pAll pDrink W n) n 3 + 1 < 9999 then pAll pSour (pAll pDrink W n) n 3 + 1 else 9999) := rfl
          rw [e]
          generalize pAll pSour (pAll pDrink W n) n = X at g2 ⊢
          generalize (if X 3 + 1 < 9999 then X 3 + 1 else 9999) = v
          have F : zFx X (upd X 3 v) := zFx.num 3 v (by omega)
          refine ⟨?_, (g2.2.1.congr (zUp_k _ _ (by omega)) (zUp_k _ _ (by omega))).row (fun i a b => F.1 i (by omega) (by omega) (by omega) (by omega)), (g2.2.2.congr (zUp_kj _ _ (by omega)) (fun c a b => zUp_k _ _ (by omega))).row (F.1 2 (by decide) (by decide) (by decide) (by decide)) F.2.1⟩
          obtain ⟨⟨a1, a2, a3, a4, a5, a6, a7, a8, a9⟩, b, c⟩ := g2.1
          have e : ∀ j, j ≠ 3 → upd X 3 v j = X j := fun j hj => upd_ne _ _ hj
          refine ⟨⟨?_, ?_, ?_, ?_, ?_, ?_, ?_, ?_, ?_⟩, fun s x hs hx => ?_, fun p hp => ?_⟩
          · rw [zUp_j _ _ (by decide), e _ (by decide)]; exact a1
          · rw [zUp_j _ _ (by decide), e _ (by decide)]; exact a2
          · rw [zUp_j _ _ (by decide), e _ (by decide)]; exact a3
          · rw [zUp_j _ _ (by decide), e _ (by decide)]; exact a4
          · rw [zUp_j _ _ (by decide), e _ (by decide)]; exact a5
          · rw [zUp_j _ _ (by decide), e _ (by decide)]; exact a6
          · rw [zUp_j _ _ (by decide), e _ (by decide)]; exact a7
          · rw [zUp_at, upd_at]
          · rw [zUp_j _ _ (by decide), e _ (by decide)]; exact a9
          · rw [zUp_kj _ _ (by omega), e _ (by omega)]; exact b s x hs hx
          · rw [zUp_kj _ _ (by omega), e _ (by omega)]; exact c p hp
        · rw [g2.1.1.1, Rn.1.2]; exact Int32.le_refl _
      · obtain ⟨g1, g0, g2⟩ := hx
        have Ri := (S i (by omega)).rg R1
        have Wi := (S i (by omega)).1.wf W1
        have D9 := g2.1.1
        refine t2X6_drinkAndSour_29 hk ?_
        rw [D9.1, Ri.1.2, nI_1 i]
        refine br_f (by rw [nI_leI (by omega) (by omega)]; omega) ?_
        refine s_weigh (n := n) (kd := 2) (s := i) (W := pAll pSour (pAll pDrink W n) i) (zs6_9 hk) (zs6_1 hk) (by omega) rfl rfl (by decide) (by omega) Ri g2.2.2 D9.2.2.2.2.2.1 D9.2.2.2.2.2.2.1 D9.2.2.2.2.2.2.2.1 (fun x hx => g2.1.2.1 i x (by omega) hx) (fun w2 a1 a2 => ⟨_, rfl, ?_⟩)
        have S2 : zSb w2 k (pAll pSour (pAll pDrink W n) i) := g2.congr (fun c a b => a1 c (by omega) (by omega)) (fun c a b => a1 c (by omega) (by omega)) (a2 6 (by decide)) (fun c a b => a1 c (by omega) (by omega))
        refine s_turn (W := pAll pSour (pAll pDrink W n) i) (zs6_1 hk) rfl (by omega) S2.1 (fun w3 b1 b2 => ⟨rfl, ?_⟩)
        exact ih w3 ⟨(g1.tr (zFq.lw a1 a2)).tr (zFq.of (k + 1 + 1) (by omega) b1), fun c hc => (b1 c (by omega)).trans ((a1 c (by omega) (by omega)).trans (g0 c hc)), S2.dy b1 (pSour_ok (by omega) Ri Wi).1 b2⟩
    · have := (D n (Nat.le_refl _)).rg hR
      rw [f2.1.1.1, this.1.2]; exact Int32.le_refl _
  · obtain ⟨f1, f0, f2⟩ := hx
    have Ri := (D i (by omega)).rg hR
    refine t2X6_drinkAndSour_2 hk ?_
    rw [f2.1.1.1, Ri.1.2, nI_1 i]
    refine br_f (by rw [nI_leI (by omega) (by omega)]; omega) ?_
    refine s_drink (W := pAll pDrink W i) (zs6_1 hk) rfl (by omega) Ri.vs f2.1 (fun w3 b1 b2 => ⟨rfl, ?_⟩)
    exact ih w3 ⟨f1.tr (zFq.of (k + 1 + 1) (by omega) b1), fun c hc => (b1 c (by omega)).trans (f0 c hc), f2.dy b1 (pDrink_ok (by omega) Ri.vs).1 b2⟩
