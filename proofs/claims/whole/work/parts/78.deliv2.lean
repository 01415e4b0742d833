/-- one MORNING's way of the reference, with what is left -/
theorem s_delivers {d n : Nat} {u : zM} {Q : Option Value → zM → Prop} (hR : zRg (u 129) n) (hf : ∀ a b, a < 12 → b < 12 → u 134 (12 * a + b) = nI (zFar (u 129) a b))
    (h : ∀ w : zM, (∀ k, k ≠ 128 → k ≠ 129 → w k = u k) → (∀ j, j < 19 ∨ 23 < j → w 128 j = u 128 j) → w 129 = pDelL (u 129) n → Q (some (.int (nI (pRide (u 129) n).t))) w) : zCall (d + 6) false 251 [.ref 128] u Q := by
  have h8 := hR.1.1
  obtain ⟨K, hK, h5⟩ := hR.2.2.2.2.2.1
  obtain ⟨p0, hp, h4⟩ := hR.2.2.2.2.1
  obtain ⟨W, hW⟩ : ∃ W, W = u 129 := ⟨_, rfl⟩
  rw [← hW] at h hR hf h5 h4
  have eK : (W 5).toNatClampNeg = K := by rw [h5, nI_clamp (by omega)]
  have eP : (W 4).toNatClampNeg = p0 := by rw [h4, nI_clamp (by omega)]
  have hr : ∀ i, pRide W i = zRide (zFar W) K (cnN W) (zNo W) (stN W) p0 i := fun i => by unfold pRide zRdF; rw [eK, eP]
  have hs8 := stN_lt W
  have inj := stN_inj hR
  have at' := fun j hj => zRide_at (F := zFar W) (K := K) (p0 := p0) (n := n) (cn := cnN W) (no := zNo W) (st := stN W) (j := j) hs8 inj n hj (Nat.le_refl _)
  have pa := pDel_at (r := pRide W n) (W := W) n
  refine tX12_delivers (fun m1 i1 m2 i2 m3 i3 m4 i4 => ?_)
  have o2 : m2 129 5 = nI K := by rw [i2, zUp_kj _ _ (by decide), i1, zUp_kj _ _ (by decide), ← hW]; exact h5
  rw [o2] at i3
  rw [← hW, h4] at i2
  obtain ⟨w0, e0⟩ : ∃ w0, w0 = zUp m4 128 23 0 := ⟨_, rfl⟩
  rw [← e0]
  obtain ⟨g1, g2, g3, g4, g5, g6, g7⟩ := zUp5g (w := w0) (u := u) (c := 0) (p := nI p0) (t := nI K) (a := 0) (g := 0) (by rw [e0, i4, i3, i2, i1])
  refine zFor (σ := zM) (Pr := fun i w => zRun (d + 5) false zcX12_delivers 1 Q 14 [(0, .ref 128), (1, .int (nI (zRide (zFar W) K (cnN W) (zNo W) (stN W) p0 i).t)), (2, .int (nI i))] [] w)
    (fun i w => (∀ k, k ≠ 128 → k ≠ 129 → w k = u k) ∧ (∀ j, j < 19 ∨ 23 < j → w 128 j = u 128 j) ∧ zRM w K (zRide (zFar W) K (cnN W) (zNo W) (stN W) p0 i) ∧ zStp W (w 129) ∧ (∀ j x, j < i → x < 9 → w 129 (163 + 9 * stN W j + x) = pDel W n (163 + 9 * stN W j + x)) ∧ (∀ s x, s < 8 → x < 9 → (∀ j, j < i → stN W j ≠ s) → w 129 (163 + 9 * s + x) = W (163 + 9 * s + x)) ∧ ∀ k, (k < 163 ∨ 235 ≤ k) → w 129 k = pLogs W (pRide W n) W i k) n (fun w hw => ?_) (fun i w hi hw ih => ?_) w0 ⟨fun k a b => g1 k a, g2, ⟨g3, g4, g5, g6, g7⟩, ?_, fun j x hj => absurd hj (Nat.not_lt_zero _), fun s x hs hx _ => by rw [g1 129 (by decide), ← hW], fun k hk => by rw [g1 129 (by decide), ← hW]; rfl⟩
  · obtain ⟨f1, f2, f3, f4, f5, f6, f7⟩ := hw
    refine tX12_delivers_14 ⟨fun _ => ?_, fun q => absurd ?_ q⟩
    · rw [← hr n]
      refine h w f1 f2 ?_
      funext k
      unfold pDelL
      by_cases q : k < 163 ∨ 235 ≤ k
      · rw [f7 k q]
        exact pLogs_out (fun x hx => by rcases hx with hx | hx; exact (pa.1 x (by omega)).symm; exact ((pDel_at (r := pRide W n) (W := W) n).1 x (by omega)).symm) n k q
      · rw [pLogs_in (by omega) n]
        obtain ⟨s, x, hs, hx, rfl⟩ : ∃ s x, s < 8 ∧ x < 9 ∧ k = 163 + 9 * s + x := ⟨(k - 163) / 9, (k - 163) % 9, by omega, by omega, by omega⟩
        by_cases q2 : s < n
        · obtain ⟨j, hj, rfl⟩ := inj_surj n (stN W) (fun k hk => (stN_eq hR hk).2) inj s q2
          exact f5 j x hj hx
        · rw [f6 s x hs hx (fun j hj z => by have := (stN_eq hR hj).2; omega)]
          exact (pa.1 _ (by omega)).symm
    · have e : w 129 0 = W 0 := f4.1.1 0 (by decide) (by decide) (by decide) (by decide)
      rw [e, hR.1.2]; exact Int32.le_refl _
  · obtain ⟨f1, f2, f3, f4, f5, f6, f7⟩ := hw
    obtain ⟨r, er⟩ : ∃ r, r = zRide (zFar W) K (cnN W) (zNo W) (stN W) p0 i := ⟨_, rfl⟩
    obtain ⟨s, es⟩ : ∃ s, s = stN W i := ⟨_, rfl⟩
    obtain ⟨s1, s2⟩ := stN_eq hR hi
    have ok := zRide_ok (F := zFar W) (K := K) (p0 := p0) (no := zNo W) (st := stN W) (fun s => cnN_lt W s) i
    have yes := zRide_yes (F := zFar W) (K := K) (p0 := p0) (i := i) (cn := cnN W) (no := zNo W) (st := stN W)
    have non := zRide_no (F := zFar W) (K := K) (p0 := p0) (i := i) (cn := cnN W) (no := zNo W) (st := stN W)
    have ati := at' i hi
    rw [← hr n] at ati
    rw [← er] at ok f3 yes non ati ⊢
    rw [← es] at s1 s2 yes non ati
    have hs : s < 8 := by omega
    have e0 : w 129 0 = W 0 := f4.1.1 0 (by decide) (by decide) (by decide) (by decide)
    have e155 : w 129 (155 + i) = nI s := (f4.1.1 (155 + i) (by omega) (by omega) (by omega) (by omega)).trans s1
    have k5 : 155 + nI i = nI (155 + i) := by rw [nI_lit, nI_add]
    have Rw : zRg (w 129) n := f4.rg hR
    have Fw : zFar (w 129) = zFar W := f4.1.far
    have cw : cnN (w 129) s = cnN W s := f4.1.cn hs
    have nw : zNo (w 129) s = zNo W s := f4.1.no f4.2.2 hs
    have nots : ∀ j, j < i → stN W j ≠ s := fun j hj z => by have := inj j i (by omega) hi (by rw [z, es]); omega
    have p6 : ∃ p, p ≤ 20 ∧ w 129 6 = nI p := by rw [f4.1.1 6 (by decide) (by decide) (by decide) (by decide)]; exact hR.2.2.2.2.2.2.1
    refine tX12_delivers_14 ?_
    rw [e0, hR.1.2, k5, nI_clamp (n := 155 + i) (by omega), e155, nI_1 i]
    refine br_f (by rw [nI_leI (by omega) (by omega)]; omega) ⟨vp_in_nI (by omega) (by decide), ?_⟩
    refine s_goesToV (n := n) (K := K) (r := r) Rw (by rw [Fw, f1 134 (by decide) (by decide)]; exact hf) rfl hs f3 ok.1 (by omega) hK (fun w2 v a1 a2 a3 a4 => ⟨_, rfl, ?_⟩)
    rw [Fw, zGoTo_cong (no2 := zNo W) (cn2 := cnN W) cw nw] at a3
    rw [Fw, cw, nw] at a4
    have w29 : w2 129 = w 129 := a1 129 (by decide)
    by_cases q : zGoes (zFar W) (cnN W) r s
    · -- it goes there
      have g := yes q
      obtain ⟨c1, c2, c3⟩ := ati.1 q
      obtain ⟨b, hb⟩ : ∃ b, b = zBt K r.t (zNo W s) := ⟨_, rfl⟩
      have hbt : b ≤ K - r.t ∧ b ≤ 2 := by rw [hb]; unfold zBt; exact ⟨Nat.min_le_left _ _, Nat.le_trans (Nat.min_le_right _ _) (by split <;> omega)⟩
      have va : v = nI b := by rw [a4, hb]; exact if_pos q
      rw [← hb] at c2
      have g3 : zGoTo (zFar W) K (cnN W) (zNo W) r s = zRide (zFar W) K (cnN W) (zNo W) (stN W) p0 (i + 1) := by rw [er, es]; rfl
      rw [g3] at a3
      have g4 := ih
      have tt : (zRide (zFar W) K (cnN W) (zNo W) (stN W) p0 (i + 1)).t = r.t + b := by rw [g, ← hb]; rfl
      have pp : w2 128 20 = nI (zRide (zFar W) K (cnN W) (zNo W) (stN W) p0 (i + 1)).p := a3.2.1
      rw [tt] at g4
      subst va
      refine ⟨fun _ => ?_, fun z => absurd z (nI_m1 (by omega))⟩
      -- what stands behind the bottles
      have fin : ∀ w3 : zM, (∀ k, k ≠ 128 → k ≠ 129 → w3 k = u k) → (∀ j, j < 19 ∨ 23 < j → w3 128 j = u 128 j) → zRM w3 K (zRide (zFar W) K (cnN W) (zNo W) (stN W) p0 (i + 1)) → w3 129 = pLog1 (stN W) (pRide W n) (pRecv (w 129) s b) i → zRun (d + 5) false zcX12_delivers 1 Q 14 [(0, .ref 128), (1, .int (nI (r.t + b))), (2, .int (nI (i + 1)))] [] w3 := by
        intro w3 t1 t2 t3 t4
        have rc : zStp (w 129) (pRecv (w 129) s b) := pRecv_ok hs f4.2.1 p6
        have lg : zStp (pRecv (w 129) s b) (w3 129) := by
          rw [t4]; unfold pLog1
          split
          · exact pTell_fx rc.2.1
          · exact zStp.rf rc.2.1
        have inn : ∀ k, 163 ≤ k ∧ k < 235 → w3 129 k = pRecv (w 129) s b k := fun k hk => by rw [t4]; exact pLog1_in hk
        refine g4 w3 ⟨t1, t2, t3, f4.tr (rc.tr lg), fun j x hj hx => ?_, fun t x ht hx hn => ?_, fun k hk => ?_⟩
        · by_cases y : j = i
          · subst y
            rw [← es, inn _ (by omega), pRecv_dep (W := W) (f4.1.1 6 (by decide) (by decide) (by decide) (by decide)) (fun x hx => f6 s x hs hx nots) x hx]
            have e := pa.2 s x s2 hx
            have e2 : pDel W n (163 + 9 * s + x) = pCome (pRide W n) W s (163 + 9 * s + x) := e
            rw [e2]
            unfold pCome
            rw [if_pos c1, c2, nI_clamp (by omega)]
          · have ne := nots j (by omega)
            rw [inn _ (by have := hs8 j; omega), pRecv_out (by omega)]
            exact f5 j x (by omega) hx
        · have ne : s ≠ t := by rw [es]; exact hn i (by omega)
          rw [inn _ (by omega), pRecv_out (by omega)]
          exact f6 t x ht hx (fun j hj => hn j (by omega))
        · have e : pLogs W (pRide W n) W (i + 1) = pLog1 (stN W) (pRide W n) (pLogs W (pRide W n) W i) i := rfl
          rw [e, t4]
          have o : ∀ k, (k < 163 ∨ 235 ≤ k) → pRecv (w 129) s b k = pLogs W (pRide W n) W i k := fun k hk => by
            rw [pRecv_out (by omega)]; exact f7 k hk
          unfold pLog1
          split
          · exact pTell_out o k hk
          · exact o k hk
      refine zFor (σ := zM) (Pr := fun x w3 => zRun (d + 5) false zcX12_delivers 1 Q 47 [(0, .ref 128), (1, .int (nI r.t)), (2, .int (nI i)), (3, .int (nI s)), (4, .int (nI b)), (5, .int (nI x))] [] w3)
        (fun x w3 => (∀ k, k ≠ 128 → k ≠ 129 → w3 k = u k) ∧ w3 128 = w2 128 ∧ w3 129 = pGets (w 129) s x) b (fun w3 hw3 => ?_) (fun x w3 hx hw3 ihx => ?_) w2 ⟨fun k c1 c2 => (a1 k c1).trans (f1 k c1 c2), rfl, w29⟩
      · obtain ⟨t1, t2, t3⟩ := hw3
        have a5 : (163 + (9 * nI s)) + 5 = nI (163 + 9 * s + 5) := ix_w s 5
        have lf : (pRide W n).lf (stN W i) = nI b := by rw [← es]; exact c2
        have rsx : (pRide W n).rs (stN W i) = nI (zRide (zFar W) K (cnN W) (zNo W) (stN W) p0 (i + 1)).p := by rw [← es]; exact c3
        refine tX12_delivers_47 (br_t (Int32.le_refl _) ?_)
        rw [a5, ix_c hs (by decide), nI_add, nI_1 i]
        refine ⟨ix_v hs (by decide), fun z => ?_, fun z m1 j1 => ?_⟩
        · rw [nI_lit, nI_leI (by omega) (by omega)] at z
          refine fin _ (fun k c1 c2 => (zUp_k _ _ c2).trans (t1 k c1 c2)) (fun j hj => ?_) ?_ ?_
          · rw [zUp_kj _ _ (by decide), t2]; exact (a2 j hj).trans (f2 j hj)
          · unfold zRM
            rw [zUp_k _ _ (by decide), t2]; exact a3
          · rw [zUp_row, t3]
            unfold pLog1
            rw [lf, if_neg (by rw [nI_lit, nI_ltI (by omega) (by omega)]; omega)]; rfl
        · rw [nI_lit, nI_leI (by omega) (by omega)] at z
          have m20 : m1 128 20 = nI (zRide (zFar W) K (cnN W) (zNo W) (stN W) p0 (i + 1)).p := by rw [j1, zUp_kj _ _ (by decide), t2]; exact pp
          rw [m20]
          refine s_tells (s := s) rfl (fun w4 b1 b2 => ⟨rfl, ?_⟩)
          refine fin _ (fun k c1 c2 => (b1 k c2).trans (by rw [j1, zUp_k _ _ c2]; exact t1 k c1 c2)) (fun j hj => ?_) ?_ ?_
          · rw [b1 128 (by decide), j1, zUp_kj _ _ (by decide), t2]; exact (a2 j hj).trans (f2 j hj)
          · unfold zRM
            rw [b1 128 (by decide), j1, zUp_k _ _ (by decide), t2]; exact a3
          · rw [b2, j1, zUp_row, t3]
            unfold pLog1
            rw [lf, if_pos (by rw [nI_lit, nI_ltI (by omega) (by omega)]; omega), rsx, es]; rfl
      · obtain ⟨t1, t2, t3⟩ := hw3
        have a2' : (163 + (9 * nI s)) + 2 = nI (163 + 9 * s + 2) := ix_w s 2
        have a3' : (163 + (9 * nI s)) + 3 = nI (163 + 9 * s + 3) := ix_w s 3
        have a4' : (163 + (9 * nI s)) + 4 = nI (163 + 9 * s + 4) := ix_w s 4
        have v2 := ix_v (w := 2) hs (by decide)
        have v3 := ix_v (w := 3) hs (by decide)
        have v4 := ix_v (w := 4) hs (by decide)
        refine tX12_delivers_47 (br_f (by rw [nI_leI (by omega) (by omega)]; omega) ?_)
        rw [a2', a3', a4', ix_c (w := 2) hs (by decide), ix_c (w := 3) hs (by decide), ix_c (w := 4) hs (by decide), t3, nI_1 x]
        have st : pGets (w 129) s (x + 1) = pGet1 (pGets (w 129) s x) s := rfl
        refine ⟨v2, fun z => ⟨v4, v4, ?_⟩, fun z => ⟨v2, v2, fun m5 j5 => ⟨v3, v3, ?_⟩⟩⟩
        · refine ihx _ ⟨fun k c1 c2 => (zUp_k _ _ c2).trans (t1 k c1 c2), by rw [zUp_k _ _ (by decide)]; exact t2, ?_⟩
          rw [zUp_row, t3, st]
          unfold pGet1
          rw [if_pos z]
        · have r3 : m5 129 (163 + 9 * s + 3) = pGets (w 129) s x (163 + 9 * s + 3) := by rw [j5, zUp_j _ _ (by omega), t3]
          rw [r3]
          refine ihx _ ⟨fun k c1 c2 => (zUp_k _ _ c2).trans (by rw [j5, zUp_k _ _ c2]; exact t1 k c1 c2), by rw [zUp_k _ _ (by decide), j5, zUp_k _ _ (by decide)]; exact t2, ?_⟩
          rw [zUp_row, j5, zUp_row, t3, st]
          conv => rhs; unfold pGet1
          rw [if_neg z]
    · -- it is passed over
      have g := non q
      obtain ⟨c1, c2⟩ := ati.2 q
      have g3 : zGoTo (zFar W) K (cnN W) (zNo W) r s = zRide (zFar W) K (cnN W) (zNo W) (stN W) p0 (i + 1) := by rw [er, es]; rfl
      have va : v = -1 := by rw [a4]; exact if_neg q
      rw [g3] at a3
      have g4 := ih
      rw [g] at g4
      rw [g] at a3
      refine ⟨fun z => absurd va z, fun _ => g4 w2 ⟨fun k c1 c2 => (a1 k c1).trans (f1 k c1 c2), fun j hj => (a2 j hj).trans (f2 j hj), a3, by rw [w29]; exact f4, fun j x hj hx => ?_, fun t x ht hx hn => ?_, fun k hk => ?_⟩⟩
      · rw [w29]
        by_cases y : j = i
        · subst y
          rw [← es, f6 s x hs hx nots]
          have e2 : pDel W n (163 + 9 * s + x) = pCome (pRide W n) W s (163 + 9 * s + x) := pa.2 s x s2 hx
          rw [e2]
          unfold pCome
          rw [if_neg (by rw [c1]; decide)]
        · exact f5 j x (by omega) hx
      · rw [w29]; exact f6 t x ht hx (fun j hj => hn j (by omega))
      · have e : pLogs W (pRide W n) W (i + 1) = pLog1 (stN W) (pRide W n) (pLogs W (pRide W n) W i) i := rfl
        rw [w29, e]
        unfold pLog1
        rw [← es, c2, if_neg (by decide)]
        exact f7 k hk
  · rw [g1 129 (by decide), ← hW]; exact zStp.rf hR.vs
