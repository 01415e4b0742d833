theorem s_birdsAndFrost {d n k : Nat} {W : Nat → Int32} {u : zM} {Q : Option Value → zM → Prop} (hk : zShapes[k]? = some (.inl 6)) (hR : zRg W n) (hS : zSb u k W)
    (h : ∀ w : zM, zFq k u w → (∀ c, c = k + 4 ∨ c = k + 5 ∨ c = k + 16 ∨ c = k + 17 ∨ c = k + 18 → w c = u c) → zSb w k (pAll pBird W n) → Q none w) : zCall (d + 6) false 65 [.ref k] u Q := by
  have h8 := hR.1.1
  have hw := hS.2.2.wf
  have B := fun i hi => pBirds_ok hR hw i hi
  refine t2X6_birdsAndFrost hk ?_
  refine zFor (σ := zM) (Pr := fun i w => zRun (d + 5) false zcX6_birdsAndFrost 0 Q 2 [(0, .ref k), (1, .int (nI i))] [] w) (fun i w => zFq k u w ∧ (∀ c, c = k + 4 ∨ c = k + 5 ∨ c = k + 16 ∨ c = k + 17 ∨ c = k + 18 → w c = u c) ∧ zSb w k (pAll pBird W i)) n (fun w hx => ?_) (fun i w hi hx ih => ?_) u ⟨zFq.rf k u, fun _ _ => rfl, hS⟩
  · refine t2X6_birdsAndFrost_2 hk ⟨fun _ => h w hx.1 hx.2.1 hx.2.2, fun q => absurd ?_ q⟩
    have := (B n (Nat.le_refl _)).rg hR
    rw [hx.2.2.1.1.1, this.1.2]; exact Int32.le_refl _
  · obtain ⟨f1, f0, f2⟩ := hx
    have Ri := (B i (by omega)).rg hR
    obtain ⟨V, hV⟩ : ∃ V, V = pAll pBird W i := ⟨_, rfl⟩
    have st : pAll pBird W (i + 1) = pBird V i := by rw [hV]; rfl
    rw [← hV] at f2 Ri
    rw [st] at ih
    have hi8 : i < 8 := by omega
    have c3 : ((3 : Int32) * 8) + nI i = nI (3 * 8 + i) := dv_ix 3 i
    have vs : vp_in (nI i) 8 := vp_in_nI hi8 (by decide)
    obtain ⟨f, hf, ef⟩ := Ri.vs i 3 hi8 (by omega) (by omega)
    have hf' : f ≤ 9 := hf
    have f00 : nI f = 0 ↔ nI f ≤ 0 := by
      rw [nI_lit, nI_leI (by omega) (by omega), nI_eq (by omega) (by omega)]; omega
    -- a weighing
    have weigh : ∀ (kd : Nat) (a : Int32) (w : zM) (X : Nat → Int32) (G : Int32 → zM → Prop), a = nI (kd + 9) → kd ≤ 2 → zFq k u w → (∀ c, c = k + 4 ∨ c = k + 5 ∨ c = k + 16 ∨ c = k + 17 ∨ c = k + 18 → w c = u c) → zRg X n → zSb w k X → (∀ w2, zFq k u w2 → (∀ c, c = k + 4 ∨ c = k + 5 ∨ c = k + 16 ∨ c = k + 17 ∨ c = k + 18 → w2 c = u c) → zSb w2 k X → (∀ c, c ≠ k + 9 → c ≠ k + 9 + 6 → w2 c = w c) → G (lwBy X kd i) w2) → zCI (d + 5) 32 [.ref (k + 9), .int a, .ref (k + 1), .int (nI i)] w G := by
      intro kd a w X G ea hkd g1 g0 RX SX hG
      have D9 := SX.1.1
      refine s_weigh (d := d + 1) (n := n) (kd := kd) (s := i) (W := X) (zs6_9 hk) (zs6_1 hk) (by omega) ea rfl hkd hi8 RX SX.2.2 D9.2.2.2.2.2.1 D9.2.2.2.2.2.2.1 D9.2.2.2.2.2.2.2.1 (fun x hx => SX.1.2.1 i x hi8 hx) (fun w2 a1 a2 => ⟨_, rfl, ?_⟩)
      exact hG w2 (g1.tr (zFq.lw a1 a2)) (fun c hc => (a1 c (by omega) (by omega)).trans (g0 c hc)) (SX.congr (fun c a b => a1 c (by omega) (by omega)) (fun c a b => a1 c (by omega) (by omega)) (a2 6 (by decide)) (fun c a b => a1 c (by omega) (by omega))) a1
    have draw : ∀ (w : zM) (X : Nat → Int32) (G : Int32 → zM → Prop), zFq k u w → (∀ c, c = k + 4 ∨ c = k + 5 ∨ c = k + 16 ∨ c = k + 17 ∨ c = k + 18 → w c = u c) → zRg X n → zSb w k X → (∀ w2 x, zFq k u w2 → (∀ c, c = k + 4 ∨ c = k + 5 ∨ c = k + 16 ∨ c = k + 17 ∨ c = k + 18 → w2 c = u c) → zSb w2 k (pSeed X) → (∀ c, c ≠ k + 1 → w2 c = w c) → x - x / 100 * 100 = pDraw (pSeed X) → G x w2) → zCI (d + 5) 25 [.ref (k + 1)] w G := by
      intro w X G g1 g0 RX SX hG
      refine s_draw (d := d + 4) (zs6_1 hk) SX.1 (fun w2 x a1 a2 a3 a4 => ⟨_, rfl, ?_⟩)
      have F := (pSeed_ok RX.vs).1
      refine hG w2 x (g1.tr (zFq.of (k + 1) (by omega) a1)) (fun c hc => (a1 c (by omega)).trans (g0 c hc)) ⟨a3, ?_, ?_⟩ a1 a4
      · exact (SX.2.1.congr (a1 _ (by omega)) (a1 _ (by omega))).row (fun i a b => F.1 i (by omega) (by omega) (by omega) (by omega))
      · exact (SX.2.2.congr (by rw [a1 _ (by omega)]) (fun c a b => a1 c (by omega))).row (F.1 2 (by decide) (by decide) (by decide) (by decide)) F.2.1
    -- what comes behind the birds
    have frost : ∀ (w : zM) (X : Nat → Int32), pBird V i = pBreak X i → zFq k u w → (∀ c, c = k + 4 ∨ c = k + 5 ∨ c = k + 16 ∨ c = k + 17 ∨ c = k + 18 → w c = u c) → zRg X n → zSb w k X →
        (w (k + 1 + 1) (3 * 8 + i) ≤ 0 → zRun (d + 5) false zcX6_birdsAndFrost 0 Q 2 [(0, .ref k), (1, .int (nI (i + 1)))] [] w) ∧ (¬ w (k + 1 + 1) (3 * 8 + i) ≤ 0 → zCI (d + 5) 25 [.ref (k + 1)] w fun x26 w25 => zCI (d + 5) 32 [.ref (k + 9), .int 10, .ref (k + 1), .int (nI i)] w25 fun x28 w27 => (x28 ≤ (x26 - x26 / 100 * 100) → zRun (d + 5) false zcX6_birdsAndFrost 0 Q 2 [(0, .ref k), (1, .int (nI (i + 1)))] [] w27) ∧ (¬ x28 ≤ (x26 - x26 / 100 * 100) → zCV (d + 5) 21 [.ref (k + 1), .int 3, .int (nI i)] w27 fun w29 => zRun (d + 5) false zcX6_birdsAndFrost 0 Q 2 [(0, .ref k), (1, .int (nI (i + 1)))] [] w29)) := by
      intro w X eX g1 g0 RX SX
      have r3 : w (k + 1 + 1) (3 * 8 + i) = X (163 + 9 * i + 3) := SX.1.2.1 i 3 hi8 (by decide)
      rw [r3]
      refine ⟨fun q => ih w ⟨g1, g0, ?_⟩, fun q => draw w X _ g1 g0 RX SX (fun w2 x h1 h0 h2 _ h3 => weigh 1 10 w2 (pSeed X) _ rfl (by decide) h1 h0 ((pSeed_ok RX.vs).rg RX) h2 (fun w4 j1 j0 j2 _ => ⟨fun z => ih w4 ⟨j1, j0, ?_⟩, fun z => ?_⟩))⟩
      · rw [eX]; unfold pBreak; rw [if_pos q]; exact SX
      · rw [h3] at z
        rw [eX]; unfold pBreak; rw [if_neg q, if_pos z]; exact j2
      · rw [h3] at z
        refine s_take (w0 := 3) (W := pSeed X) (zs6_1 hk) rfl rfl (by decide) hi8 j2.1 (fun w5 a1 a2 => ⟨rfl, ih w5 ⟨j1.tr (zFq.of (k + 1 + 1) (by omega) a1), fun c hc => (a1 c (by omega)).trans (j0 c hc), ?_⟩⟩)
        have e : pBird V i = upd (pSeed X) (163 + 9 * i + 3) (pSeed X (163 + 9 * i + 3) - 1) := by
          rw [eX]
          have e3 : pSeed X (163 + 9 * i + 3) = X (163 + 9 * i + 3) := by unfold pSeed; rw [upd_ne _ _ (by omega)]
          rw [e3]
          unfold pBreak; rw [if_neg q, if_neg z]
        rw [e]
        exact j2.dy a1 (zFx.val i 3 _ hi8 (by omega) (by omega)) a2
    refine t2X6_birdsAndFrost_2 hk ?_
    rw [f2.1.1.1, Ri.1.2, c3, nI_clamp (n := 3 * 8 + i) (by omega), nI_1 i]
    have r3 : w (k + 1 + 1) (3 * 8 + i) = V (163 + 9 * i + 3) := f2.1.2.1 i 3 hi8 (by decide)
    refine br_f (by rw [nI_leI (by omega) (by omega)]; omega) ⟨vs, fun q => ⟨vs, fun _ => ?_, fun z => absurd q z⟩, fun q => ?_⟩
    · refine ih w ⟨f1, f0, ?_⟩
      rw [r3, ef] at q
      unfold pBird
      rw [ef, if_pos (f00.mpr q)]
      exact f2
    · have q0 : ¬ V (163 + 9 * i + 3) = 0 := by rw [r3, ef] at q; rw [ef]; exact fun z => q (f00.mp z)
      have PK := pPeck_ok hi8 Ri.vs q0
      have eX : pBird V i = pBreak (pPeck V i) i := if_neg q0
      have RP := PK.rg Ri
      refine draw w V _ f1 f0 Ri f2 (fun w2 x h1 h0 h2 _ h3 => weigh 0 9 w2 (pSeed V) _ rfl (by decide) h1 h0 ((pSeed_ok Ri.vs).rg Ri) h2 (fun w4 j1 j0 j2 _ => ⟨fun z => ⟨vs, frost w4 (pPeck V i) eX j1 j0 RP ?_⟩, fun z => ?_⟩))
      · rw [h3] at z
        have e : pPeck V i = pSeed V := if_pos z
        rw [e]; exact j2
      · rw [h3] at z
        have e3 : pSeed V (163 + 9 * i + 3) = V (163 + 9 * i + 3) := by unfold pSeed; rw [upd_ne _ _ (by omega)]
        have e4 : pSeed V (163 + 9 * i + 4) = V (163 + 9 * i + 4) := by unfold pSeed; rw [upd_ne _ _ (by omega)]
        have e : pPeck V i = upd (upd (pSeed V) (163 + 9 * i + 3) (V (163 + 9 * i + 3) - 1)) (163 + 9 * i + 4) (if V (163 + 9 * i + 4) + 1 < 9 then V (163 + 9 * i + 4) + 1 else 9) := if_neg z
        refine s_take (w0 := 3) (W := pSeed V) (zs6_1 hk) rfl rfl (by decide) hi8 j2.1 (fun w5 a1 a2 => ⟨rfl, ?_⟩)
        have j3 : zSb w5 k (upd (pSeed V) (163 + 9 * i + 3) (pSeed V (163 + 9 * i + 3) - 1)) := j2.dy a1 (zFx.val i 3 _ hi8 (by omega) (by omega)) a2
        refine s_addBottles (w0 := 4) (W := upd (pSeed V) (163 + 9 * i + 3) (pSeed V (163 + 9 * i + 3) - 1)) (zs6_1 hk) rfl rfl (by decide) hi8 j3.1 (fun w6 b1 b2 => ⟨rfl, vs, ?_⟩)
        have j4 := j3.dy b1 (zFx.val i 4 _ hi8 (by omega) (by omega)) b2
        rw [upd_ne _ _ (by omega), e3, e4, ← e] at j4
        exact frost w6 (pPeck V i) eX ((j1.tr (zFq.of (k + 1 + 1) (by omega) a1)).tr (zFq.of (k + 1 + 1) (by omega) b1)) (fun c hc => (b1 c (by omega)).trans ((a1 c (by omega)).trans (j0 c hc))) RP j4
