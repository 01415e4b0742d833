theorem ix_w (s w : Nat) : (163 + (9 * nI s)) + nI w = nI (163 + 9 * s + w) := by rw [nI_lit, nI_lit, nI_mul, nI_add, nI_add]
theorem ix_v {s w : Nat} (hs : s < 8) (hw : w ≤ 8) : vp_in (nI (163 + 9 * s + w)) 2173 := vp_in_nI (by omega) (by decide)
theorem ix_c {s w : Nat} (hs : s < 8) (hw : w ≤ 8) : (nI (163 + 9 * s + w)).toNatClampNeg = 163 + 9 * s + w := nI_clamp (by omega)
theorem s_drinks {d s : Nat} {a1 : Int32} {u : zM} {Q : Option Value → zM → Prop} (e1 : a1 = nI s) (hs : s < 8) (h : ∀ w : zM, (∀ c, c ≠ 129 → w c = u c) → w 129 = pDrink (u 129) s → Q none w) : zCall (d + 4) false 253 [.ref 128, .int a1] u Q := by
  subst e1
  have a3 : (163 + (9 * nI s)) + 3 = nI (163 + 9 * s + 3) := ix_w s 3
  have a4 : (163 + (9 * nI s)) + 4 = nI (163 + 9 * s + 4) := ix_w s 4
  have a5 : (163 + (9 * nI s)) + 5 = nI (163 + 9 * s + 5) := ix_w s 5
  have a6 : (163 + (9 * nI s)) + 6 = nI (163 + 9 * s + 6) := ix_w s 6
  have v3 := ix_v (w := 3) hs (by decide)
  have v4 := ix_v (w := 4) hs (by decide)
  have v5 := ix_v (w := 5) hs (by decide)
  have v6 := ix_v (w := 6) hs (by decide)
  refine tX12_drinks ?_
  rw [a3, a4, a5, a6, ix_c (w := 3) hs (by decide), ix_c (w := 4) hs (by decide), ix_c (w := 5) hs (by decide), ix_c (w := 6) hs (by decide)]
  unfold pDrink at h
  refine ⟨v4, fun q => ⟨v3, fun q2 => ⟨v5, v5, fun m1 e1 => ⟨v6, v6, ?_⟩⟩, fun q2 => ⟨v3, v3, fun m1 e1 => ⟨v5, v5, fun m2 e2 => ⟨v6, ?_⟩⟩⟩⟩, fun q => ⟨v4, fun q2 => absurd q2 q, fun q2 => ⟨v4, v4, fun m1 e1 => ⟨v5, v5, fun m2 e2 => ⟨v6, ?_⟩⟩⟩⟩⟩
  · rw [if_pos q, if_pos q2] at h
    have r : m1 129 (163 + 9 * s + 6) = u 129 (163 + 9 * s + 6) := by rw [e1, zUp_j _ _ (by omega)]
    rw [r]
    exact h _ (fun c hc => by rw [zUp_k _ _ hc, e1, zUp_k _ _ hc]) (by rw [zUp_row, e1, zUp_row])
  · rw [if_pos q, if_neg q2] at h
    have r : m1 129 (163 + 9 * s + 5) = u 129 (163 + 9 * s + 5) := by rw [e1, zUp_j _ _ (by omega)]
    rw [r] at e2
    exact h _ (fun c hc => by rw [zUp_k _ _ hc, e2, zUp_k _ _ hc, e1, zUp_k _ _ hc]) (by rw [zUp_row, e2, zUp_row, e1, zUp_row])
  · rw [if_neg q] at h
    have r : m1 129 (163 + 9 * s + 5) = u 129 (163 + 9 * s + 5) := by rw [e1, zUp_j _ _ (by omega)]
    rw [r] at e2
    exact h _ (fun c hc => by rw [zUp_k _ _ hc, e2, zUp_k _ _ hc, e1, zUp_k _ _ hc]) (by rw [zUp_row, e2, zUp_row, e1, zUp_row])
theorem s_turnsOld {d n s : Nat} {a1 : Int32} {u : zM} {Q : Option Value → zM → Prop} (e1 : a1 = nI s) (hs : s < 8) (hR : zRg (u 129) n) (hw : lwWf (u 129)) (h : ∀ w : zM, (∀ c, c ≠ 129 → c ≠ 137 → w c = u c) → w 129 = pSour (u 129) s → Q none w) : zCall (d + 7) false 254 [.ref 128, .int a1] u Q := by
  subst e1
  have a3 : (163 + (9 * nI s)) + 3 = nI (163 + 9 * s + 3) := ix_w s 3
  have a4 : (163 + (9 * nI s)) + 4 = nI (163 + 9 * s + 4) := ix_w s 4
  have v3 := ix_v (w := 3) hs (by decide)
  have v4 := ix_v (w := 4) hs (by decide)
  refine tX12_turnsOld ?_
  rw [a3, a4, ix_c (w := 3) hs (by decide), ix_c (w := 4) hs (by decide)]
  refine ⟨v4, s_byLaw (kd := 2) rfl rfl (by decide) hs hR hw (fun w1 g => ⟨_, rfl, v4, fun m3 i3 => ⟨v3, v4, v4, fun m4 i4 => ⟨v3, ?_⟩⟩⟩)⟩
  have g9 := g 129 (by decide)
  have r4 : m3 129 (163 + 9 * s + 4) = pTurn0 (u 129) s (lwBy (u 129) 2 s) := by rw [i3, zUp_at]; rfl
  have r3 : m3 129 (163 + 9 * s + 3) = u 129 (163 + 9 * s + 3) := by rw [i3, zUp_j _ _ (by omega), g9]
  rw [r4, r3] at i4
  refine h _ (fun c hc hd => by rw [zUp_k _ _ hc, i4, zUp_k _ _ hc, i3, zUp_k _ _ hc]; exact g c hd) ?_
  rw [zUp_row, i4, zUp_row, i3, zUp_row, g9]; rfl
theorem lwBy_seed {W : Nat → Int32} {v : Int32} {kd s : Nat} : lwBy (upd W 10 v) kd s = lwBy W kd s := by
  have e : ∀ k, k ≠ 10 → upd W 10 v k = W k := fun k hk => upd_ne _ _ hk
  have c : lwC (upd W 10 v) = lwC W := funext fun i => by unfold lwC; rw [e _ (by omega)]
  have vv : lwV (upd W 10 v) = lwV W := funext fun i => by unfold lwV; rw [e _ (by omega)]
  have k : ∀ l, lwK (upd W 10 v) l = lwK W l := fun l => by unfold lwK; rw [e _ (by omega)]
  have a : ∀ l, lwA (upd W 10 v) l = lwA W l := fun l => by unfold lwA; rw [e _ (by omega)]
  have b : ∀ l, lwB (upd W 10 v) l = lwB W l := fun l => by unfold lwB; rw [e _ (by omega)]
  have d : ∀ l, lwE (upd W 10 v) l = lwE W l := fun l => by unfold lwE; rw [e _ (by omega)]
  have f : lwF (upd W 10 v) s = lwF W s := by
    funext x y
    unfold lwF
    rw [e _ (by omega), e _ (by omega), e _ (by omega), e _ (by omega), e _ (by omega), e _ (by omega), e 3 (by omega), e _ (by omega), e _ (by omega)]
  have sm : ∀ x l, lwSum (upd W 10 v) kd s x l = lwSum W kd s x l := by
    intro x l
    induction l with
    | zero => rfl
    | succ l ih => unfold lwSum; rw [c, vv, k, a, b, d, f, ih]
  have bs : lwBase (upd W 10 v) kd = lwBase W kd := by unfold lwBase; rw [e 7 (by omega), e 8 (by omega)]
  unfold lwBy
  rw [bs, sm, e 2 (by omega), e 475 (by omega)]
theorem pPeck_f {W : Nat → Int32} {s : Nat} : (pPeck W s) (163 + 9 * s + 3) = if lwBy (pSeed W) 0 s ≤ pDraw (pSeed W) then W (163 + 9 * s + 3) else W (163 + 9 * s + 3) - 1 := by
  unfold pPeck
  split
  · unfold pSeed; rw [upd_ne _ _ (by omega)]
  · rw [upd_ne _ _ (by omega), upd_at]
/-- the breaking of the reference, behind the birds -/
theorem s_isPecked {d n s : Nat} {a1 : Int32} {u : zM} {Q : Option Value → zM → Prop} (e1 : a1 = nI s) (hs : s < 8) (hR : zRg (u 129) n) (hw : lwWf (u 129)) (h : ∀ w : zM, (∀ c, c ≠ 129 → c ≠ 137 → w c = u c) → w 129 = pBird (u 129) s → Q none w) : zCall (d + 7) false 252 [.ref 128, .int a1] u Q := by
  subst e1
  have a3 : (163 + (9 * nI s)) + 3 = nI (163 + 9 * s + 3) := ix_w s 3
  have a4 : (163 + (9 * nI s)) + 4 = nI (163 + 9 * s + 4) := ix_w s 4
  have v3 := ix_v (w := 3) hs (by decide)
  have v4 := ix_v (w := 4) hs (by decide)
  refine tX12_isPecked ?_
  rw [a3, a4, ix_c (w := 3) hs (by decide), ix_c (w := 4) hs (by decide)]
  refine ⟨v3, fun q => fun m1 i1 => ?_, fun q => h u (fun _ _ _ => rfl) (by unfold pBird; rw [if_pos q])⟩
  have r1 : m1 129 = pSeed (u 129) := by rw [i1, zUp_row]; rfl
  have R1 : zRg (m1 129) n := by rw [r1]; exact (pSeed_ok hR.vs).rg hR
  have W1 : lwWf (m1 129) := by rw [r1]; exact (pSeed_ok hR.vs).1.wf hw
  have PK := pPeck_ok hs hR.vs q
  -- what comes behind the birds
  have fin : ∀ x : zM, (∀ c, c ≠ 129 → c ≠ 137 → x c = u c) → x 129 = pPeck (u 129) s →
      (x 129 (163 + 9 * s + 3) ≤ 0 → Q none x) ∧ (¬ x 129 (163 + 9 * s + 3) ≤ 0 → ∀ m : zM, m = zUp x 129 10 ((1103515245 * x 129 10) + 12345) →
        zCI (d + 6) 235 [.ref 128, .int 1, .int (nI s)] m fun y w => (y ≤ ((m 129 10 >>> ((16 : Int32) &&& 31)) &&& 32767) - ((m 129 10 >>> ((16 : Int32) &&& 31)) &&& 32767) / 100 * 100 → Q none w) ∧ (¬ y ≤ ((m 129 10 >>> ((16 : Int32) &&& 31)) &&& 32767) - ((m 129 10 >>> ((16 : Int32) &&& 31)) &&& 32767) / 100 * 100 → vp_in (nI (163 + 9 * s + 3)) 2173 ∧ vp_in (nI (163 + 9 * s + 3)) 2173 ∧ Q none (zUp w 129 (163 + 9 * s + 3) (w 129 (163 + 9 * s + 3) - 1)))) := by
    intro x f1 f2
    have hb : pBird (u 129) s = pBreak (pPeck (u 129) s) s := if_neg q
    refine ⟨fun q2 => h x f1 ?_, fun q2 m im => ?_⟩
    · rw [hb, f2]
      unfold pBreak
      rw [← f2, if_pos q2]
    · have rm : m 129 = pSeed (x 129) := by rw [im, zUp_row]; rfl
      have Rx : zRg (x 129) n := by rw [f2]; exact PK.rg hR
      have Wx : lwWf (x 129) := by rw [f2]; exact PK.1.wf hw
      refine s_byLaw (n := n) (kd := 1) rfl rfl (by decide) hs (by rw [rm]; exact (pSeed_ok Rx.vs).rg Rx) (by rw [rm]; exact (pSeed_ok Rx.vs).1.wf Wx) (fun w g => ⟨_, rfl, ?_⟩)
      have g9 : w 129 = m 129 := g 129 (by decide)
      have fr : ∀ c, c ≠ 129 → c ≠ 137 → w c = u c := fun c hc hd => by rw [g c hd, im, zUp_k _ _ hc]; exact f1 c hc hd
      have bk : pBreak (x 129) s = if lwBy (pSeed (x 129)) 1 s ≤ pDraw (pSeed (x 129)) then pSeed (x 129) else upd (pSeed (x 129)) (163 + 9 * s + 3) (x 129 (163 + 9 * s + 3) - 1) := by
        unfold pBreak; rw [if_neg q2]
      rw [rm]
      refine ⟨fun z => h w fr ?_, fun z => ⟨v3, v3, h _ (fun c hc hd => (zUp_k _ _ hc).trans (fr c hc hd)) ?_⟩⟩
      · have z2 : lwBy (pSeed (x 129)) 1 s ≤ pDraw (pSeed (x 129)) := z
        rw [hb, ← f2, bk, if_pos z2, g9, rm]
      · have z2 : ¬ lwBy (pSeed (x 129)) 1 s ≤ pDraw (pSeed (x 129)) := z
        rw [hb, ← f2, bk, if_neg z2, zUp_row, g9, rm]
        congr 1
        unfold pSeed
        rw [upd_ne _ _ (by omega)]
  refine s_byLaw (n := n) (kd := 0) rfl rfl (by decide) hs R1 W1 (fun w2 g => ⟨_, rfl, ?_⟩)
  have g9 : w2 129 = pSeed (u 129) := (g 129 (by decide)).trans r1
  have fr : ∀ c, c ≠ 129 → c ≠ 137 → w2 c = u c := fun c hc hd => by rw [g c hd, i1, zUp_k _ _ hc]
  rw [r1]
  refine ⟨fun z => ⟨v3, ?_⟩, fun z => ⟨v3, v3, fun m9 i9 => ⟨v4, v4, fun m10 i10 => ⟨v3, ?_⟩⟩⟩⟩
  · have e : pPeck (u 129) s = pSeed (u 129) := if_pos z
    exact fin w2 fr (by rw [g9, e])
  · have e : pPeck (u 129) s = upd (upd (pSeed (u 129)) (163 + 9 * s + 3) (u 129 (163 + 9 * s + 3) - 1)) (163 + 9 * s + 4) (if u 129 (163 + 9 * s + 4) + 1 < 9 then u 129 (163 + 9 * s + 4) + 1 else 9) := if_neg z
    have k3 : w2 129 (163 + 9 * s + 3) = u 129 (163 + 9 * s + 3) := by rw [g9]; unfold pSeed; rw [upd_ne _ _ (by omega)]
    have k4 : m9 129 (163 + 9 * s + 4) = u 129 (163 + 9 * s + 4) := by rw [i9, zUp_j _ _ (by omega), g9]; unfold pSeed; rw [upd_ne _ _ (by omega)]
    rw [k3] at i9
    rw [k4] at i10
    exact fin m10 (fun c hc hd => by rw [i10, zUp_k _ _ hc, i9, zUp_k _ _ hc]; exact fr c hc hd) (by rw [i10, zUp_row, i9, zUp_row, g9, e])
