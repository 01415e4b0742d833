/-- what a morning keeps in bounds -/
def zMg (W V : Nat → Int32) : Prop := zFx W V ∧ zVs V ∧ ∃ t, t ≤ 9999 ∧ V 3 = nI t
theorem zStp.mg {W V : Nat → Int32} {n : Nat} (hR : zRg W n) (h : zStp W V) : zMg W V := ⟨h.1, h.2.1, by rw [h.2.2]; exact hR.2.2.2.1⟩
theorem zMg.rg {W V : Nat → Int32} {n : Nat} (hR : zRg W n) (h : zMg W V) : zRg V n := hR.fx h.1 h.2.1 h.2.2
theorem zMg.tr {W V U : Nat → Int32} (h1 : zMg W V) (h2 : zMg V U) : zMg W U := ⟨h1.1.tr h2.1, h2.2⟩
theorem zMg.rf {W : Nat → Int32} {n : Nat} (hR : zRg W n) : zMg W W := (zStp.rf hR.vs).mg hR
theorem pDay_ok {W : Nat → Int32} {n : Nat} (hR : zRg W n) : zMg W (pDay W) := by
  obtain ⟨t, ht, e⟩ := hR.2.2.2.1
  refine ⟨zFx.num 3 _ (by omega), hR.vs.num (by omega), min (t + 1) 9999, by omega, ?_⟩
  unfold pDay
  rw [upd_at, e]
  exact i_cap (c := t) (k := 1) 9999 (by omega) (by omega) (by omega)
theorem pDrinks_ok {W : Nat → Int32} {n : Nat} (hR : zRg W n) (hw : lwWf W) : ∀ i, i ≤ n → zStp W (pAll pDrink W i) := pAll_ok hR hw (fun V s hs hV _ => pDrink_ok (by have := hR.1.1; omega) hV.vs)
theorem pSours_ok {W : Nat → Int32} {n : Nat} (hR : zRg W n) (hw : lwWf W) : ∀ i, i ≤ n → zStp W (pAll pSour W i) := pAll_ok hR hw (fun V s hs hV hw => pSour_ok (by have := hR.1.1; omega) hV hw)
theorem pBirds_ok {W : Nat → Int32} {n : Nat} (hR : zRg W n) (hw : lwWf W) : ∀ i, i ≤ n → zStp W (pAll pBird W i) := pAll_ok hR hw (fun V s hs hV _ => pBird_ok (by have := hR.1.1; omega) hV.vs)
theorem pEve_ok {W : Nat → Int32} {n : Nat} (hR : zRg W n) (hw : lwWf W) : zMg W (pEve W n) := by
  have h1 := pDrinks_ok hR hw n (Nat.le_refl _)
  have R1 := h1.rg hR
  have W1 := h1.1.wf hw
  have h2 := pSours_ok R1 W1 n (Nat.le_refl _)
  exact ((h1.mg hR).tr (h2.mg R1)).tr (pDay_ok (h2.rg R1))
def pMid (calm : Bool) (W : Nat → Int32) (n : Nat) : Nat → Int32 := if calm = true then W else pAll pBird W n
theorem pMid_ok {calm : Bool} {W : Nat → Int32} {n : Nat} (hR : zRg W n) (hw : lwWf W) : zStp W (pMid calm W n) := by
  unfold pMid
  split
  · exact zStp.rf hR.vs
  · exact pBirds_ok hR hw n (Nat.le_refl _)
theorem pMorn_is (calm : Bool) (W : Nat → Int32) (n : Nat) : pMorn calm W n = pEve (pMid calm (pDelL W n) n) n := rfl
theorem pMornQ_is (calm : Bool) (W : Nat → Int32) (n : Nat) : pMornQ calm W n = pEve (pMid calm (pDel W n) n) n := rfl
theorem pMorn_ok {calm : Bool} {W : Nat → Int32} {n : Nat} (hR : zRg W n) (hw : lwWf W) : zMg W (pMorn calm W n) := by
  have h1 := pDelL_ok hR
  have R1 := h1.rg hR
  have W1 := h1.1.wf hw
  have h2 := pMid_ok (calm := calm) R1 W1
  have R2 := h2.rg R1
  have W2 := h2.1.wf W1
  rw [pMorn_is]
  exact ((h1.mg hR).tr (h2.mg R1)).tr (pEve_ok R2 W2)
def pGo (calm : Bool) (W : Nat → Int32) (n : Nat) : Nat → Nat → Int32
  | 0 => W
  | i + 1 => pMorn calm (pGo calm W n i) n
def pSum (calm : Bool) (W : Nat → Int32) (n : Nat) : Nat → Nat
  | 0 => 0
  | i + 1 => pSum calm W n i + (pRide (pGo calm W n i) n).t
theorem pGo_ok {calm : Bool} {W : Nat → Int32} {n : Nat} (hR : zRg W n) (hw : lwWf W) : ∀ i, zMg W (pGo calm W n i)
  | 0 => zMg.rf hR
  | i + 1 => by
    have ih := pGo_ok (calm := calm) hR hw i
    exact ih.tr (pMorn_ok (ih.rg hR) (ih.1.wf hw))
def zCm (calm : Bool) : Int32 := if calm = true then 1 else 0
theorem s_oneMorning {d n : Nat} {calm : Bool} {a1 : Int32} {u : zM} {Q : Option Value → zM → Prop} (e1 : a1 = zCm calm) (hR : zRg (u 129) n) (hw : lwWf (u 129)) (hf : ∀ a b, a < 12 → b < 12 → u 134 (12 * a + b) = nI (zFar (u 129) a b))
    (h : ∀ w : zM, (∀ k, k ≠ 128 → k ≠ 129 → k ≠ 137 → w k = u k) → (∀ j, j < 19 ∨ 23 < j → w 128 j = u 128 j) → w 129 = pMorn calm (u 129) n → Q (some (.int (nI (pRide (u 129) n).t))) w) : zCall (d + 8) false 255 [.ref 128, .int a1] u Q := by
  subst e1
  have h8 := hR.1.1
  obtain ⟨W, hW⟩ : ∃ W, W = u 129 := ⟨_, rfl⟩
  have R1 : zRg (pDelL (u 129) n) n := (pDelL_ok hR).rg hR
  have W1 : lwWf (pDelL (u 129) n) := (pDelL_ok hR).1.wf hw
  have R2 : zRg (pMid calm (pDelL (u 129) n) n) n := (pMid_ok (calm := calm) R1 W1).rg R1
  have W2 : lwWf (pMid calm (pDelL (u 129) n) n) := (pMid_ok (calm := calm) R1 W1).1.wf W1
  have R3 := fun i hi => (pDrinks_ok R2 W2 i hi).rg R2
  have W3 := fun i hi => (pDrinks_ok R2 W2 i hi).1.wf W2
  have R4 := fun i hi => (pSours_ok (R3 n (Nat.le_refl _)) (W3 n (Nat.le_refl _)) i hi).rg (R3 n (Nat.le_refl _))
  have W4 := fun i hi => (pSours_ok (R3 n (Nat.le_refl _)) (W3 n (Nat.le_refl _)) i hi).1.wf (W3 n (Nat.le_refl _))
  refine tX12_oneMorning ?_
  refine s_delivers hR hf (fun w1 f1 f2 f3 => ⟨_, rfl, ?_⟩)
  dsimp only
  obtain ⟨T, hT⟩ : ∃ T, T = nI (pRide (u 129) n).t := ⟨_, rfl⟩
  rw [← hT] at h ⊢
  -- from the steps that drink on
  have rest : ∀ w2 : zM, (∀ k, k ≠ 128 → k ≠ 129 → k ≠ 137 → w2 k = u k) → (∀ j, j < 19 ∨ 23 < j → w2 128 j = u 128 j) → w2 129 = pMid calm (pDelL (u 129) n) n → zRun (d + 7) false zcX12_oneMorning 1 Q 32 [(0, .ref 128), (1, .int (zCm calm)), (2, .int T), (3, .int 0)] [] w2 := by
    intro w2 g1 g2 g3
    refine zFor (σ := zM) (Pr := fun i w => zRun (d + 7) false zcX12_oneMorning 1 Q 32 [(0, .ref 128), (1, .int (zCm calm)), (2, .int T), (3, .int (nI i))] [] w)
      (fun i w => (∀ k, k ≠ 128 → k ≠ 129 → k ≠ 137 → w k = u k) ∧ (∀ j, j < 19 ∨ 23 < j → w 128 j = u 128 j) ∧ w 129 = pAll pDrink (pMid calm (pDelL (u 129) n) n) i) n (fun w hx => ?_) (fun i w hi hx ih => ?_) w2 ⟨g1, g2, g3⟩
    · obtain ⟨k1, k2, k3⟩ := hx
      refine tX12_oneMorning_32 ⟨fun _ => ?_, fun q => absurd ?_ q⟩
      · refine zFor (σ := zM) (Pr := fun i w => zRun (d + 7) false zcX12_oneMorning 1 Q 53 [(0, .ref 128), (1, .int (zCm calm)), (2, .int T), (3, .int (nI i))] [] w)
          (fun i w => (∀ k, k ≠ 128 → k ≠ 129 → k ≠ 137 → w k = u k) ∧ (∀ j, j < 19 ∨ 23 < j → w 128 j = u 128 j) ∧ w 129 = pAll pSour (pAll pDrink (pMid calm (pDelL (u 129) n) n) n) i) n (fun w hx => ?_) (fun i w hi hx ih => ?_) w ⟨k1, k2, k3⟩
        · obtain ⟨l1, l2, l3⟩ := hx
          refine tX12_oneMorning_53 ⟨fun _ => ?_, fun q => absurd ?_ q⟩
          · refine h _ (fun k a b c => (zUp_k _ _ b).trans (l1 k a b c)) (fun j hj => by rw [zUp_kj _ _ (by decide)]; exact l2 j hj) ?_
            rw [zUp_row, pMorn_is, l3]; rfl
          · rw [l3, (R4 n (Nat.le_refl _)).1.2]; exact Int32.le_refl _
        · obtain ⟨l1, l2, l3⟩ := hx
          refine tX12_oneMorning_53 ?_
          rw [nI_1 i]
          refine br_f (by rw [l3, (R4 i (by omega)).1.2, nI_leI (by omega) (by omega)]; omega) ?_
          refine s_turnsOld (n := n) rfl (by omega) (by rw [l3]; exact R4 i (by omega)) (by rw [l3]; exact W4 i (by omega)) (fun w3 a b => ⟨rfl, ?_⟩)
          refine ih w3 ⟨fun k p q r => (a k q r).trans (l1 k p q r), fun j hj => by rw [a 128 (by decide) (by decide)]; exact l2 j hj, ?_⟩
          rw [b, l3]; rfl
      · rw [k3, (R3 n (Nat.le_refl _)).1.2]; exact Int32.le_refl _
    · obtain ⟨k1, k2, k3⟩ := hx
      refine tX12_oneMorning_32 ?_
      rw [nI_1 i]
      refine br_f (by rw [k3, (R3 i (by omega)).1.2, nI_leI (by omega) (by omega)]; omega) ?_
      refine s_drinks rfl (by omega) (fun w3 a b => ⟨rfl, ?_⟩)
      refine ih w3 ⟨fun k p q r => (a k q).trans (k1 k p q r), fun j hj => by rw [a 128 (by decide)]; exact k2 j hj, ?_⟩
      rw [b, k3]; rfl
  cases calm with
  | true =>
    refine tX12_oneMorning_7 ⟨fun _ => rest w1 (fun k a b c => f1 k a b) f2 (by rw [f3]; rfl), fun _ => ⟨fun _ => rest w1 (fun k a b c => f1 k a b) f2 (by rw [f3]; rfl), fun q => absurd q (by decide)⟩⟩
  | false =>
    refine zFor (σ := zM) (Pr := fun i w => zRun (d + 7) false zcX12_oneMorning 1 Q 7 [(0, .ref 128), (1, .int (zCm false)), (2, .int T), (3, .int (nI i))] [] w)
      (fun i w => (∀ k, k ≠ 128 → k ≠ 129 → k ≠ 137 → w k = u k) ∧ (∀ j, j < 19 ∨ 23 < j → w 128 j = u 128 j) ∧ w 129 = pAll pBird (pDelL (u 129) n) i) n (fun w hx => ?_) (fun i w hi hx ih => ?_) w1 ⟨fun k a b c => f1 k a b, f2, f3⟩
    · obtain ⟨l1, l2, l3⟩ := hx
      refine tX12_oneMorning_7 ⟨fun _ => rest w l1 l2 (by rw [l3]; rfl), fun q => absurd ?_ q⟩
      rw [l3, ((pBirds_ok R1 W1 n (Nat.le_refl _)).rg R1).1.2]; exact Int32.le_refl _
    · obtain ⟨l1, l2, l3⟩ := hx
      have Rb := (pBirds_ok R1 W1 i (by omega)).rg R1
      have Wb := (pBirds_ok R1 W1 i (by omega)).1.wf W1
      refine tX12_oneMorning_7 ?_
      rw [nI_1 i]
      refine br_f (by rw [l3, Rb.1.2, nI_leI (by omega) (by omega)]; omega) ⟨fun q => absurd rfl q, fun _ => ?_⟩
      refine s_isPecked (n := n) rfl (by omega) (by rw [l3]; exact Rb) (by rw [l3]; exact Wb) (fun w3 a b => ⟨rfl, ?_⟩)
      refine ih w3 ⟨fun k p q r => (a k q r).trans (l1 k p q r), fun j hj => by rw [a 128 (by decide) (by decide)]; exact l2 j hj, ?_⟩
      rw [b, l3]; rfl
theorem s_goesOn {d n m : Nat} {calm : Bool} {a1 a2 : Int32} {u : zM} {Q : Option Value → zM → Prop} (e1 : a1 = nI m) (e2 : a2 = zCm calm) (hm : m ≤ 60) (hR : zRg (u 129) n) (hw : lwWf (u 129)) (hf : ∀ a b, a < 12 → b < 12 → u 134 (12 * a + b) = nI (zFar (u 129) a b))
    (h : ∀ w : zM, (∀ k, k ≠ 128 → k ≠ 129 → k ≠ 137 → w k = u k) → (∀ j, j < 19 ∨ 23 < j → w 128 j = u 128 j) → w 129 = pGo calm (u 129) n m → Q (some (.int (nI (pSum calm (u 129) n m)))) w) : zCall (d + 9) false 256 [.ref 128, .int a1, .int a2] u Q := by
  subst e1; subst e2
  refine tX12_goesOn ?_
  refine zFor (σ := zM) (Pr := fun i w => zRun (d + 8) false zcX12_goesOn 1 Q 5 [(0, .ref 128), (1, .int (nI m)), (2, .int (zCm calm)), (3, .int (nI (pSum calm (u 129) n i))), (4, .int (nI i))] [] w)
    (fun i w => (∀ k, k ≠ 128 → k ≠ 129 → k ≠ 137 → w k = u k) ∧ (∀ j, j < 19 ∨ 23 < j → w 128 j = u 128 j) ∧ w 129 = pGo calm (u 129) n i) m (fun w hx => ?_) (fun i w hi hx ih => ?_) u ⟨fun _ _ _ _ => rfl, fun _ _ => rfl, rfl⟩
  · exact tX12_goesOn_5 (br_t (Int32.le_refl _) (h w hx.1 hx.2.1 hx.2.2))
  · obtain ⟨l1, l2, l3⟩ := hx
    have G := pGo_ok (calm := calm) hR hw i
    refine tX12_goesOn_5 ?_
    rw [nI_1 i]
    refine br_f (by rw [nI_leI (by omega) (by omega)]; omega) ?_
    refine s_oneMorning (n := n) rfl (by rw [l3]; exact G.rg hR) (by rw [l3]; exact G.1.wf hw) (by rw [l3, G.1.far, l1 134 (by decide) (by decide) (by decide)]; exact hf) (fun w2 a b c => ⟨_, rfl, ?_⟩)
    dsimp only
    rw [nI_add, l3]
    exact ih w2 ⟨fun k p q r => (a k p q r).trans (l1 k p q r), fun j hj => (b j hj).trans (l2 j hj), by rw [c, l3]; rfl⟩
theorem s_keepsAll {d : Nat} {u : zM} {Q : Option Value → zM → Prop} (h : ∀ w : zM, (∀ k, k ≠ 132 → w k = u k) → (∀ j, j < 475 → w 132 j = u 129 j) → Q none w) : zCall (d + 1) false 257 [.ref 128] u Q := by
  refine tX12_keepsAll ?_
  refine zFor (σ := zM) (Pr := fun i w => zRun d false zcX12_keepsAll 0 Q 2 [(0, .ref 128), (1, .int (nI i))] [] w) (fun i w => (∀ k, k ≠ 132 → w k = u k) ∧ ∀ j, j < i → w 132 j = u 129 j) 475 (fun w hx => ?_) (fun i w hi hx ih => ?_) u ⟨fun _ _ => rfl, fun j hj => absurd hj (Nat.not_lt_zero _)⟩
  · exact tX12_keepsAll_2 (br_t (Int32.le_refl _) (h w hx.1 hx.2))
  · refine tX12_keepsAll_2 ?_
    rw [nI_1 i, nI_clamp (n := i) (by omega), hx.1 129 (by decide)]
    refine br_f (by rw [nI_lit, nI_leI (by omega) (by omega)]; omega) ⟨vp_in_nI (by omega) (by decide), vp_in_nI (by omega) (by decide), ?_⟩
    refine ih _ ⟨fun k hk => (zUp_k _ _ hk).trans (hx.1 k hk), fun j hj => ?_⟩
    by_cases q : j = i
    · rw [q, zUp_at]
    · rw [zUp_j _ _ q]; exact hx.2 j (by omega)
theorem s_bringsBack {d : Nat} {u : zM} {Q : Option Value → zM → Prop} (h : ∀ w : zM, (∀ k, k ≠ 129 → w k = u k) → (∀ j, w 129 j = if j < 475 then u 132 j else u 129 j) → Q none w) : zCall (d + 1) false 258 [.ref 128] u Q := by
  refine tX12_bringsBack ?_
  refine zFor (σ := zM) (Pr := fun i w => zRun d false zcX12_bringsBack 0 Q 2 [(0, .ref 128), (1, .int (nI i))] [] w) (fun i w => (∀ k, k ≠ 129 → w k = u k) ∧ ∀ j, w 129 j = if j < i then u 132 j else u 129 j) 475 (fun w hx => ?_) (fun i w hi hx ih => ?_) u ⟨fun _ _ => rfl, fun j => by rw [if_neg (Nat.not_lt_zero _)]⟩
  · exact tX12_bringsBack_2 (br_t (Int32.le_refl _) (h w hx.1 hx.2))
  · refine tX12_bringsBack_2 ?_
    rw [nI_1 i, nI_clamp (n := i) (by omega), hx.1 132 (by decide)]
    refine br_f (by rw [nI_lit, nI_leI (by omega) (by omega)]; omega) ⟨vp_in_nI (by omega) (by decide), vp_in_nI (by omega) (by decide), ?_⟩
    refine ih _ ⟨fun k hk => (zUp_k _ _ hk).trans (hx.1 k hk), fun j => ?_⟩
    by_cases q : j = i
    · rw [q, zUp_at, if_pos (by omega)]
    · rw [zUp_j _ _ q, hx.2 j]
      by_cases q2 : j < i
      · rw [if_pos q2, if_pos (by omega)]
      · rw [if_neg q2, if_neg (by omega)]
