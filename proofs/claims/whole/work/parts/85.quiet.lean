theorem pLogs_ne {W : Nat → Int32} {r : zR} {V : Nat → Int32} {k : Nat} (h : (k ≠ 9 ∧ k < 235) ∨ 475 ≤ k) : ∀ i, pLogs W r V i k = V k
  | 0 => rfl
  | i + 1 => by
    have ih := pLogs_ne (W := W) (r := r) (V := V) h i
    show pLog1 (stN W) r (pLogs W r V i) i k = V k
    unfold pLog1
    split
    · unfold pTell
      rw [if_neg (by omega), if_neg (by omega), if_neg (by omega), if_neg (by omega), if_neg (by omega), if_neg (by omega)]; exact ih
    · exact ih
theorem zSb.nl {u : zM} {k : Nat} {W V : Nat → Int32} (h : ∀ i, (i ≠ 9 ∧ i < 235) ∨ 475 ≤ i → V i = W i) (hS : zSb u k W) : zSb u k V :=
  ⟨hS.1.row (fun i a b c d => h i (by omega)), hS.2.1.row (fun i a b => h i (by omega)), hS.2.2.row (h 2 (by omega)) (fun i a => h i (by omega))⟩
theorem s_oneQuiet {d n k : Nat} {W : Nat → Int32} {u : zM} {Q : Option Value → zM → Prop} (hk : zShapes[k]? = some (.inl 6)) (hR : zRg W n) (hS : zSb u k W)
    (h : ∀ w2 : zM, zFq k u w2 → zSb w2 k (pMorn true W n) → zRX w2 (k + 16) (pRide W n) → Q none w2) : zCI (d + 6) 63 [.ref k] u fun _ w1 => zCV (d + 6) 66 [.ref k] w1 fun w3 => Q none w3 := by
  have hw := hS.2.2.wf
  refine s_deliver (d := d + 1) hk hR hS (fun w1 f1 _ f3 f4 _ => ⟨_, rfl, ?_⟩)
  have f5 : zSb w1 k (pDelL W n) := f3.nl (fun i hi => pLogs_ne hi n)
  have R1 : zRg (pDelL W n) n := (pDelL_ok hR).rg hR
  refine s_drinkAndSour (d := d) (W := pDelL W n) hk R1 f5 (fun w2 g1 g2 g3 => ⟨rfl, ?_⟩)
  refine h w2 (f1.tr g1) g3 ?_
  unfold zRX
  rw [g2 _ (by omega), g2 _ (by omega)]
  exact f4
theorem s_quietMornings {d n k m : Nat} {W : Nat → Int32} {a1 : Int32} {u : zM} {Q : Option Value → zM → Prop} (hk : zShapes[k]? = some (.inl 6)) (e1 : a1 = nI m) (hm : m ≤ 60) (hR : zRg W n) (hS : zSb u k W)
    (h : ∀ w : zM, zFq k u w → zSb w k (pGo true W n m) → (∀ j, m = j + 1 → zRX w (k + 16) (pRide (pGo true W n j) n)) → Q none w) : zCall (d + 7) false 67 [.ref k, .int a1] u Q := by
  subst e1
  have hw := hS.2.2.wf
  refine tX6_quietMornings hk ?_
  refine zFor (σ := zM) (Pr := fun i w => zRun (d + 6) false zcX6_quietMornings 0 Q 2 [(0, .ref k), (1, .int (nI m)), (2, .int (nI i))] [] w) (fun i w => zFq k u w ∧ zSb w k (pGo true W n i) ∧ ∀ j, i = j + 1 → zRX w (k + 16) (pRide (pGo true W n j) n)) m (fun w hx => ?_) (fun i w hi hx ih => ?_) u ⟨zFq.rf k u, hS, fun j hj => by omega⟩
  · exact tX6_quietMornings_2 hk (br_t (Int32.le_refl _) (h w hx.1 hx.2.1 hx.2.2))
  · obtain ⟨f1, f2, -⟩ := hx
    have G := pGo_ok (calm := true) hR hw i
    refine tX6_quietMornings_2 hk ?_
    rw [nI_1 i]
    refine br_f (by rw [nI_leI (by omega) (by omega)]; omega) ?_
    exact s_oneQuiet (Q := fun _ w3 => zRun (d + 6) false zcX6_quietMornings 0 Q 2 [(0, .ref k), (1, .int (nI m)), (2, .int (nI (i + 1)))] [] w3) hk (G.rg hR) f2 (fun w2 g1 g2 g3 => ih w2 ⟨f1.tr g1, g2, fun j hj => by
      obtain rfl : i = j := by omega
      exact g3⟩)
theorem s_wildMornings {d n k m : Nat} {W : Nat → Int32} {a1 : Int32} {u : zM} {Q : Option Value → zM → Prop} (hk : zShapes[k]? = some (.inl 6)) (e1 : a1 = nI m) (hm : m ≤ 60) (hR : zRg W n) (hS : zSb u k W)
    (h : ∀ w : zM, zFq k u w → zSb w k (pGo false W n m) → Q none w) : zCall (d + 7) false 68 [.ref k, .int a1] u Q := by
  subst e1
  have hw := hS.2.2.wf
  refine tX6_wildMornings hk ?_
  refine zFor (σ := zM) (Pr := fun i w => zRun (d + 6) false zcX6_wildMornings 0 Q 2 [(0, .ref k), (1, .int (nI m)), (2, .int (nI i))] [] w) (fun i w => zFq k u w ∧ zSb w k (pGo false W n i)) m (fun w hx => ?_) (fun i w hi hx ih => ?_) u ⟨zFq.rf k u, hS⟩
  · exact tX6_wildMornings_2 hk (br_t (Int32.le_refl _) (h w hx.1 hx.2))
  · obtain ⟨f1, f2⟩ := hx
    have G := pGo_ok (calm := false) hR hw i
    have Ri := G.rg hR
    have Wi := G.1.wf hw
    refine tX6_wildMornings_2 hk ?_
    rw [nI_1 i]
    refine br_f (by rw [nI_leI (by omega) (by omega)]; omega) ?_
    refine s_deliver (d := d + 1) hk Ri f2 (fun w1 g1 _ g3 _ _ => ⟨_, rfl, ?_⟩)
    have g5 : zSb w1 k (pDelL (pGo false W n i) n) := g3.nl (fun x hx => pLogs_ne hx n)
    have R1 := (pDelL_ok Ri).rg Ri
    have W1 := (pDelL_ok Ri).1.wf Wi
    refine s_birdsAndFrost (W := pDelL (pGo false W n i) n) hk R1 g5 (fun w2 a1 _ a3 => ⟨rfl, ?_⟩)
    have R2 := (pBirds_ok R1 W1 n (Nat.le_refl _)).rg R1
    refine s_drinkAndSour (W := pAll pBird (pDelL (pGo false W n i) n) n) hk R2 a3 (fun w3 b1 _ b3 => ⟨rfl, ?_⟩)
    exact ih w3 ⟨((f1.tr g1).tr a1).tr b1, b3⟩
