theorem dv_ix (w s : Nat) : (nI w * 8) + nI s = nI (w * 8 + s) := by rw [nI_lit, nI_mul, nI_add]
theorem s_receive {d k s b : Nat} {W : Nat → Int32} {a1 a2 : Int32} {u : zM} {Q : Option Value → zM → Prop} (hk : zShapes[k]? = some (.inl 1)) (e1 : a1 = nI s) (e2 : a2 = nI b) (hs : s < 8) (hb : b ≤ 1000) (hV : zDyV u k W)
    (h : ∀ w : zM, (∀ c, c ≠ k + 1 → w c = u c) → zDyV w k (pRecv W s b) → Q none w) : zCall (d + 3) false 22 [.ref k, .int a1, .int a2] u Q := by
  subst e1; subst e2
  have c2 : ((2 : Int32) * 8) + nI s = nI (2 * 8 + s) := dv_ix 2 s
  have c3 : ((3 : Int32) * 8) + nI s = nI (3 * 8 + s) := dv_ix 3 s
  have c4 : ((4 : Int32) * 8) + nI s = nI (4 * 8 + s) := dv_ix 4 s
  have c5 : ((5 : Int32) * 8) + nI s = nI (5 * 8 + s) := dv_ix 5 s
  have vs : vp_in (nI s) 8 := vp_in_nI hs (by decide)
  refine tX1_receive hk ?_
  refine zFor (σ := zM) (Pr := fun i w => zRun (d + 2) false zcX1_receive 0 Q 2 [(0, .ref k), (1, .int (nI s)), (2, .int (nI b)), (3, .int (nI i))] [] w) (fun i w => (∀ c, c ≠ k + 1 → w c = u c) ∧ zDyV w k (pGets W s i)) b (fun w hw => ?_) (fun i w hi hw ih => ?_) u ⟨fun _ _ => rfl, hV⟩
  · refine tX1_receive_2 hk (br_t (Int32.le_refl _) ⟨vs, ?_⟩)
    rw [c5, nI_clamp (n := 5 * 8 + s) (by omega)]
    exact h _ (fun c hc => (zUp_k _ _ hc).trans (hw.1 c hc)) (hw.2.set 0 hs (by decide))
  · obtain ⟨f1, f2⟩ := hw
    have r2 := f2.2.1 s 2 hs (by decide)
    have r3 := f2.2.1 s 3 hs (by decide)
    have r4 := f2.2.1 s 4 hs (by decide)
    have r6 : w k 7 = pGets W s i 6 := f2.1.2.2.2.2.1
    have st : pGets W s (i + 1) = pGet1 (pGets W s i) s := rfl
    refine tX1_receive_2 hk ?_
    rw [c2, c3, c4, nI_clamp (n := 2 * 8 + s) (by omega), nI_clamp (n := 3 * 8 + s) (by omega), nI_clamp (n := 4 * 8 + s) (by omega), r2, r4, r6, nI_1 i]
    refine br_f (by rw [nI_leI (by omega) (by omega)]; omega) ⟨vs, fun q => ⟨vs, vs, ?_⟩, fun q => ⟨vs, fun m1 i1 => ⟨vs, vs, ?_⟩⟩⟩
    · refine ih _ ⟨fun c hc => (zUp_k _ _ hc).trans (f1 c hc), ?_⟩
      rw [st]
      unfold pGet1
      rw [if_pos q]
      exact f2.set _ hs (by decide)
    · have g : zDyV m1 k (upd (pGets W s i) (163 + 9 * s + 2) (pGets W s i (163 + 9 * s + 2) - pGets W s i 6)) := by rw [i1]; exact f2.set _ hs (by decide)
      have g3 := g.2.1 s 3 hs (by decide)
      rw [upd_ne _ _ (by omega)] at g3
      rw [g3]
      refine ih _ ⟨fun c hc => (zUp_k _ _ hc).trans (by rw [i1, zUp_k _ _ hc]; exact f1 c hc), ?_⟩
      rw [st]
      conv => rhs; unfold pGet1
      rw [if_neg q]
      exact g.set _ hs (by decide)
theorem s_take {d k s w0 : Nat} {W : Nat → Int32} {a1 a2 : Int32} {u : zM} {Q : Option Value → zM → Prop} (hk : zShapes[k]? = some (.inl 1)) (e1 : a1 = nI w0) (e2 : a2 = nI s) (hw : w0 < 9) (hs : s < 8) (hV : zDyV u k W)
    (h : ∀ w : zM, (∀ c, c ≠ k + 1 → w c = u c) → zDyV w k (upd W (163 + 9 * s + w0) (W (163 + 9 * s + w0) - 1)) → Q none w) : zCall (d + 2) false 21 [.ref k, .int a1, .int a2] u Q := by
  subst e1; subst e2
  refine tX1_take hk ?_
  rw [dv_ix, nI_clamp (n := w0 * 8 + s) (by omega), hV.2.1 s w0 hs hw]
  exact ⟨vp_in_nI hw (by decide), vp_in_nI hs (by decide), vp_in_nI hw (by decide), vp_in_nI hs (by decide), h _ (fun c hc => zUp_k _ _ hc) (hV.set _ hs hw)⟩
theorem s_addBottles {d k s w0 : Nat} {W : Nat → Int32} {a1 a2 a3 : Int32} {u : zM} {Q : Option Value → zM → Prop} (hk : zShapes[k]? = some (.inl 1)) (e1 : a1 = nI w0) (e2 : a2 = nI s) (hw : w0 < 9) (hs : s < 8) (hV : zDyV u k W)
    (h : ∀ w : zM, (∀ c, c ≠ k + 1 → w c = u c) → zDyV w k (upd W (163 + 9 * s + w0) (if W (163 + 9 * s + w0) + a3 < 9 then W (163 + 9 * s + w0) + a3 else 9)) → Q none w) : zCall (d + 2) false 20 [.ref k, .int a1, .int a2, .int a3] u Q := by
  subst e1; subst e2
  refine tX1_addBottles hk ?_
  rw [dv_ix, nI_clamp (n := w0 * 8 + s) (by omega), hV.2.1 s w0 hs hw]
  exact ⟨vp_in_nI hw (by decide), vp_in_nI hs (by decide), vp_in_nI hw (by decide), vp_in_nI hs (by decide), h _ (fun c hc => zUp_k _ _ hc) (hV.set _ hs hw)⟩
theorem s_drink {d k s : Nat} {W : Nat → Int32} {a1 : Int32} {u : zM} {Q : Option Value → zM → Prop} (hk : zShapes[k]? = some (.inl 1)) (e1 : a1 = nI s) (hs : s < 8) (hv : zVs W) (hV : zDyV u k W)
    (h : ∀ w : zM, (∀ c, c ≠ k + 1 → w c = u c) → zDyV w k (pDrink W s) → Q none w) : zCall (d + 3) false 23 [.ref k, .int a1] u Q := by
  subst e1
  obtain ⟨f, hf, ef⟩ := hv s 3 hs (by omega) (by omega)
  obtain ⟨o, ho, eo⟩ := hv s 4 hs (by omega) (by omega)
  obtain ⟨e, he, ee⟩ := hv s 5 hs (by omega) (by omega)
  have hf' : f ≤ 9 := hf
  have ho' : o ≤ 9 := ho
  have he' : e ≤ 99 := he
  have c3 : ((3 : Int32) * 8) + nI s = nI (3 * 8 + s) := dv_ix 3 s
  have c4 : ((4 : Int32) * 8) + nI s = nI (4 * 8 + s) := dv_ix 4 s
  have c5 : ((5 : Int32) * 8) + nI s = nI (5 * 8 + s) := dv_ix 5 s
  have c6 : ((6 : Int32) * 8) + nI s = nI (6 * 8 + s) := dv_ix 6 s
  have vs : vp_in (nI s) 8 := vp_in_nI hs (by decide)
  have o0 : nI o = 0 ↔ nI o ≤ 0 := by
    rw [nI_lit, nI_leI (by omega) (by omega), nI_eq (by omega) (by omega)]; omega
  have f0 : nI f = 0 ↔ nI f ≤ 0 := by
    rw [nI_lit, nI_leI (by omega) (by omega), nI_eq (by omega) (by omega)]; omega
  -- what follows a bottle that was drunk
  have fin : ∀ w1 : zM, ∀ x, x = 3 ∨ x = 4 → (∀ c, c ≠ k + 1 → w1 c = u c) → zDyV w1 k (upd W (163 + 9 * s + x) (W (163 + 9 * s + x) - 1)) → pDrink W s = upd (upd (upd W (163 + 9 * s + x) (W (163 + 9 * s + x) - 1)) (163 + 9 * s + 5) (if W (163 + 9 * s + 5) + 1 < 99 then W (163 + 9 * s + 5) + 1 else 99)) (163 + 9 * s + 6) 0 →
      vp_in (nI s) 8 ∧ vp_in (nI s) 8 ∧ ∀ m3 : zM, m3 = zUp w1 (k + 1) (5 * 8 + s) (if w1 (k + 1) (5 * 8 + s) + 1 < 99 then w1 (k + 1) (5 * 8 + s) + 1 else 99) → vp_in (nI s) 8 ∧ Q none (zUp m3 (k + 1) (6 * 8 + s) 0) := by
    intro w1 x hx g1 g2 g3
    refine ⟨vs, vs, fun m3 i3 => ⟨vs, ?_⟩⟩
    have r5 := g2.2.1 s 5 hs (by decide)
    rw [upd_ne _ _ (by omega)] at r5
    rw [r5] at i3
    refine h _ (fun c hc => (zUp_k _ _ hc).trans (by rw [i3, zUp_k _ _ hc]; exact g1 c hc)) ?_
    rw [g3, i3]
    exact (g2.set _ hs (by decide)).set _ hs (by decide)
  refine t2X1_drink hk ?_
  rw [c3, c4, c5, c6, nI_clamp (n := 3 * 8 + s) (by omega), nI_clamp (n := 4 * 8 + s) (by omega), nI_clamp (n := 5 * 8 + s) (by omega), nI_clamp (n := 6 * 8 + s) (by omega), hV.2.1 s 3 hs (by decide), hV.2.1 s 4 hs (by decide), hV.2.1 s 6 hs (by decide), ef, eo]
  refine ⟨vs, fun q => ⟨vs, fun q2 => absurd (o0.mpr q2) q, fun q2 => ?_⟩, fun q => ⟨vs, fun q3 => ⟨vs, fun q2 => ?_, fun q2 => absurd (o0.mp q) q2⟩, fun q3 => ⟨vs, vs, ?_⟩⟩⟩
  · refine s_take (w0 := 4) hk rfl rfl (by decide) hs hV (fun w1 g1 g2 => ⟨rfl, ?_⟩)
    refine fin w1 4 (Or.inr rfl) g1 g2 ?_
    unfold pDrink
    rw [eo, if_neg q2]
  · refine s_take (w0 := 3) hk rfl rfl (by decide) hs hV (fun w1 g1 g2 => ⟨rfl, ?_⟩)
    refine fin w1 3 (Or.inl rfl) g1 g2 ?_
    unfold pDrink
    rw [eo, if_pos q2, ef, if_neg (fun z => q3 (f0.mpr z))]
  · refine h _ (fun c hc => zUp_k _ _ hc) ?_
    have e : pDrink W s = upd W (163 + 9 * s + 6) (if W (163 + 9 * s + 6) + 1 < 99 then W (163 + 9 * s + 6) + 1 else 99) := by
      unfold pDrink
      rw [eo, if_pos (o0.mp q), ef, if_pos (f0.mp q3), ee, i_cap990 he']
      congr 1
      funext j
      by_cases y : j = 163 + 9 * s + 5
      · rw [y, upd_at, ee]
      · rw [upd_ne _ _ y]
    rw [e]
    exact hV.set _ hs (by decide)
theorem s_turn {d k s : Nat} {W : Nat → Int32} {a1 a2 : Int32} {u : zM} {Q : Option Value → zM → Prop} (hk : zShapes[k]? = some (.inl 1)) (e1 : a1 = nI s) (hs : s < 8) (hV : zDyV u k W)
    (h : ∀ w : zM, (∀ c, c ≠ k + 1 → w c = u c) → zDyV w k (pTurn W s a2) → Q none w) : zCall (d + 3) false 24 [.ref k, .int a1, .int a2] u Q := by
  subst e1
  have c3 : ((3 : Int32) * 8) + nI s = nI (3 * 8 + s) := dv_ix 3 s
  have c4 : ((4 : Int32) * 8) + nI s = nI (4 * 8 + s) := dv_ix 4 s
  have vs : vp_in (nI s) 8 := vp_in_nI hs (by decide)
  refine tX1_turn hk ?_
  rw [c3, c4, nI_clamp (n := 3 * 8 + s) (by omega), nI_clamp (n := 4 * 8 + s) (by omega), hV.2.1 s 4 hs (by decide)]
  refine ⟨vs, vs, fun m1 i1 => ⟨vs, vs, vs, fun m2 i2 => ⟨vs, ?_⟩⟩⟩
  have g : zDyV m1 k (upd W (163 + 9 * s + 4) (pTurn0 W s a2)) := by rw [i1]; exact hV.set _ hs (by decide)
  have g4 := g.2.1 s 4 hs (by decide)
  have g3 := g.2.1 s 3 hs (by decide)
  rw [upd_at] at g4
  rw [upd_ne _ _ (by omega)] at g3
  rw [g4, g3] at i2
  refine h _ (fun c hc => (zUp_k _ _ hc).trans (by rw [i2, zUp_k _ _ hc, i1, zUp_k _ _ hc])) ?_
  rw [i2]
  exact (g.set _ hs (by decide)).set _ hs (by decide)
theorem tb_m15 : ∀ t, t < 32 → tb 32767 t = decide (t < 15) := by decide +kernel
theorem i_draw (x : Int32) : ((x.toUInt32 >>> ((16 : Int32).toUInt32 &&& Int32.toUInt32 31)).toInt32) &&& 32767 = (x >>> ((16 : Int32) &&& 31)) &&& 32767 := by
  refine tb_ext (fun t ht => ?_)
  rw [tb_and, tb_and, tb_m15 t ht]
  by_cases q : t < 15
  · rw [decide_eq_true q, Bool.and_true, Bool.and_true]
    have e1 : ((x.toUInt32 >>> ((16 : Int32).toUInt32 &&& Int32.toUInt32 31)).toInt32).toBitVec = x.toBitVec >>> 16 := by
      show (x.toUInt32 >>> ((16 : Int32).toUInt32 &&& Int32.toUInt32 31)).toBitVec = x.toBitVec >>> 16
      rw [UInt32.toBitVec_shiftRight]
      rfl
    have e2 : (x >>> ((16 : Int32) &&& 31)).toBitVec = x.toBitVec.sshiftRight 16 := by
      rw [Int32.toBitVec_shiftRight]
      rfl
    unfold tb
    rw [e1, e2, BitVec.getLsbD_ushiftRight, BitVec.getLsbD_sshiftRight]
    have : 16 + t < 32 := by omega
    simp [this]
    omega
  · rw [decide_eq_false q, Bool.and_false, Bool.and_false]
theorem s_draw {d k : Nat} {W : Nat → Int32} {u : zM} {Q : Option Value → zM → Prop} (hk : zShapes[k]? = some (.inl 1)) (hV : zDyV u k W)
    (h : ∀ (w : zM) (x : Int32), (∀ c, c ≠ k → w c = u c) → (∀ j, j ≠ 11 → w k j = u k j) → zDyV w k (pSeed W) → x - x / 100 * 100 = pDraw (pSeed W) → Q (some (.int x)) w) : zCall (d + 1) false 25 [.ref k] u Q := by
  refine tX1_draw hk (fun m1 i1 => ?_)
  have r : u k 11 = W 10 := hV.1.2.2.2.2.2.2.2.2
  rw [r] at i1
  have m11 : m1 k 11 = pSeed W 10 := by rw [i1, zUp_at]; unfold pSeed; rw [upd_at]
  rw [m11, i_draw]
  refine h _ _ (fun c hc => by rw [i1, zUp_k _ _ hc]) (fun j hj => by rw [i1, zUp_j _ _ hj]) ?_ rfl
  obtain ⟨⟨a1, a2, a3, a4, a5, a6, a7, a8, a9⟩, b, c⟩ := hV
  have e : ∀ j, j ≠ 10 → pSeed W j = W j := fun j hj => by unfold pSeed; rw [upd_ne _ _ hj]
  refine ⟨⟨?_, ?_, ?_, ?_, ?_, ?_, ?_, ?_, m11⟩, fun s w hs hw => ?_, fun p hp => ?_⟩
  · rw [i1, zUp_j _ _ (by decide), e _ (by decide)]; exact a1
  · rw [i1, zUp_j _ _ (by decide), e _ (by decide)]; exact a2
  · rw [i1, zUp_j _ _ (by decide), e _ (by decide)]; exact a3
  · rw [i1, zUp_j _ _ (by decide), e _ (by decide)]; exact a4
  · rw [i1, zUp_j _ _ (by decide), e _ (by decide)]; exact a5
  · rw [i1, zUp_j _ _ (by decide), e _ (by decide)]; exact a6
  · rw [i1, zUp_j _ _ (by decide), e _ (by decide)]; exact a7
  · rw [i1, zUp_j _ _ (by decide), e _ (by decide)]; exact a8
  · rw [i1, zUp_kj _ _ (by omega), e _ (by omega)]; exact b s w hs hw
  · rw [i1, zUp_kj _ _ (by omega), e _ (by omega)]; exact c p hp
