theorem s_goOn {d L t : Nat} {B : Nat → Nat} {u : zM} {Q : Option Value → zM → Prop} (hU : zDtx u B L) (ht : u 1 4 = nI t) (htL : t ≤ L)
    (h : ∀ w, (∀ c, c ≠ 1 → w c = u c) → (∀ f, f ≠ 3 → f ≠ 4 → w 1 f = u 1 f) → w 1 3 = nI (skB B L t) → w 1 4 = nI (teB B L (skB B L t)) → Q none w) : zCall (d + 2) false 76 [.ref 1] u Q := by
  have hU' := hU
  obtain ⟨h4, hL, hB⟩ := hU'
  refine tX7_goOn (k0 := 1) rfl ?_
  have go : ∀ r i (w : zM), i + r = L → (∀ c, c ≠ 1 → w c = u c) → (∀ f, f ≠ 3 → w 1 f = u 1 f) → w 1 3 = nI i → runB (inB 32 32) B r i = skB B L t → zRun (d + 1) false zcX7_goOn 0 Q 8 [(0, .ref 1)] [] w := by
    intro r
    induction r with
    | zero =>
      intro i w hi f g t3 e
      have e0 : runB (inB 32 32) B 0 i = i := rfl
      rw [e0] at e
      have wL : w 1 1 = nI L := (g 1 (by decide)).trans hL
      have le : (w 1 1) ≤ (w 1 3) := by rw [wL, t3, nI_leI (by omega) (by omega)]; omega
      refine tX7_goOn_8 (k0 := 1) rfl (br_t le (br_t le (fun m1 e1 => ?_)))
      have m3 : m1 1 3 = nI i := by rw [e1, zUp_j _ _ (by decide)]; exact t3
      have mL : m1 1 1 = nI L := by rw [e1, zUp_j _ _ (by decide)]; exact wL
      have m4 : m1 1 4 = nI i := by rw [e1, zUp_at]; exact t3
      refine s_byteAt1 (k0 := 1) (p := i) (L := L) rfl m3 mL h4 (by omega) (by omega) ⟨_, rfl, ?_⟩
      refine s_sortOf1 ⟨_, rfl, ?_⟩
      have te : teB B L i = i := by unfold teB; rw [if_neg (by omega)]
      refine tX7_goOn_85 (k0 := 1) rfl (br_t (by rw [mL, m4, nI_leI (by omega) (by omega)]; omega) (h m1 (fun c a => by rw [e1, zUp_k _ _ a]; exact f c a) (fun j a b => by rw [e1, zUp_j _ _ b]; exact g j a) (by rw [m3, e]) (by rw [m4, ← e, te])))
    | succ r ih =>
      intro i w hi f g t3 e
      have l : runB (inB 32 32) B (r + 1) i = if inB 32 32 (B i) = true then runB (inB 32 32) B r (i + 1) else i := rfl
      rw [l] at e
      obtain ⟨b1, b2⟩ := hB i (by omega)
      have wL : w 1 1 = nI L := (g 1 (by decide)).trans hL
      have nle : ¬ (w 1 1) ≤ (w 1 3) := by rw [wL, t3, nI_leI (by omega) (by omega)]; omega
      have v : w 2 i = nI (B i) := by rw [f 2 (by decide)]; exact b2
      refine tX7_goOn_8 (k0 := 1) rfl (br_f nle ?_)
      refine s_byteAt (k0 := 1) (i := i) (L := L) rfl t3 wL h4 (by omega) ⟨_, rfl, ?_⟩
      refine ⟨fun q => br_f nle (fun m1 e1 => ?_), fun q => ?_⟩
      · have ne : ¬ inB 32 32 (B i) = true := fun z => q (by
          have z := of_decide_eq_true z
          have : B i = 32 := by omega
          show w 2 i = 32
          rw [v, this]; rfl)
        rw [if_neg ne] at e
        have m3 : m1 1 3 = nI i := by rw [e1, zUp_j _ _ (by decide)]; exact t3
        have mL : m1 1 1 = nI L := by rw [e1, zUp_j _ _ (by decide)]; exact wL
        have m4 : m1 1 4 = nI (i + 1) := by rw [e1, zUp_at, t3, nI_1]
        have mc : ∀ c, c ≠ 1 → m1 c = u c := fun c a => by rw [e1, zUp_k _ _ a]; exact f c a
        have mv : m1 2 i = nI (B i) := by rw [mc 2 (by decide)]; exact b2
        refine s_byteAt (k0 := 1) (i := i) (L := L) rfl m3 mL h4 (by omega) ⟨_, rfl, ?_⟩
        refine s_sortOf (b := B i) mv b1 ⟨_, rfl, ?_⟩
        refine goOn_to (a := i) (j := 0) (L := L) (B := B) ⟨h4, mL, fun j hj => by rw [mc 2 (by decide)]; exact hB j hj⟩ (by omega) rfl (fun w2 f2 g2 t2 => ?_) m4
        refine h w2 (fun c a => (f2 c a).trans (mc c a)) (fun j a b => by rw [g2 j b, e1, zUp_j _ _ b]; exact g j a) (by rw [g2 3 (by decide), m3, e]) (by rw [t2, e])
      · have ye : inB 32 32 (B i) = true := by
          have q : w 2 i = nI 32 := q
          rw [v, nI_eq (by omega) (by omega)] at q
          exact decide_eq_true (by omega)
        rw [if_pos ye] at e
        rw [t3, nI_1 i]
        exact ih (i + 1) _ (by omega) (fun c x => (zUp_k _ _ x).trans (f c x)) (fun j x => (zUp_j _ _ x).trans (g j x)) (zUp_at _ _ _ _) e
  exact go (L - t) t _ (by omega) (fun c a => zUp_k _ _ a) (fun j a => zUp_j _ _ a) (by rw [zUp_at]; exact ht) rfl
