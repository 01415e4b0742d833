/-- where the thing that begins at a ends -/
def teB (B : Nat → Nat) (L a : Nat) : Nat := if a < L then (if soB (B a) = 2 then a + 1 else runB (fun b => soB b == soB (B a)) B (L - (a + 1)) (a + 1)) else a
theorem soB_le (b : Nat) : soB b ≤ 2 := by unfold soB; split <;> (try split) <;> omega
/-- the class's tape: its bytes -/
def zDtx (u : zM) (B : Nat → Nat) (L : Nat) : Prop := L ≤ 400 ∧ u 1 1 = nI L ∧ ∀ i, i < L → B i < 256 ∧ u 2 i = nI (B i)
theorem goOn_to {d L a j : Nat} {B : Nat → Nat} {b1 : Int32} {u : zM} {Q : Option Value → zM → Prop} (hU : zDtx u B L) (ha : a < L) (e1 : b1 = nI (soB (B a)))
    (h : ∀ w, (∀ c, c ≠ 1 → w c = u c) → (∀ f, f ≠ 4 → w 1 f = u 1 f) → w 1 4 = nI (teB B L a) → Q none w) (hj : u 1 4 = nI (a + 1)) : zRun (d + 1) false zcX7_goOn 0 Q 85 [(0, .ref 1), (1, .int b1)] [] u := by
  subst e1
  obtain ⟨h4, hL, hB⟩ := hU
  have so := soB_le (B a)
  have go : ∀ r i (w : zM), i + r = L → (∀ c, c ≠ 1 → w c = u c) → (∀ f, f ≠ 4 → w 1 f = u 1 f) → w 1 4 = nI i → soB (B a) ≠ 2 → runB (fun b => soB b == soB (B a)) B r i = teB B L a → zRun (d + 1) false zcX7_goOn 0 Q 85 [(0, .ref 1), (1, .int (nI (soB (B a))))] [] w := by
    intro r
    induction r with
    | zero =>
      intro i w hi f g t n2 e
      have e0 : runB (fun b => soB b == soB (B a)) B 0 i = i := rfl
      rw [e0] at e
      refine tX7_goOn_85 (k0 := 1) rfl (br_t (by rw [g 1 (by decide), hL, t, nI_leI (by omega) (by omega)]; omega) (h w f g ?_))
      rw [t, e]
    | succ r ih =>
      intro i w hi f g t n2 e
      have l : runB (fun b => soB b == soB (B a)) B (r + 1) i = if (soB (B i) == soB (B a)) = true then runB (fun b => soB b == soB (B a)) B r (i + 1) else i := rfl
      rw [l] at e
      obtain ⟨b1, b2⟩ := hB i (by omega)
      have so2 := soB_le (B i)
      refine tX7_goOn_85 (k0 := 1) rfl (br_f (by rw [g 1 (by decide), hL, t, nI_leI (by omega) (by omega)]; omega) (br_f (nI_ne (a := soB (B a)) (b := 2) (by omega) (by decide) n2) ?_))
      refine s_byteAt (k0 := 1) (i := i) (L := L) rfl t ((g 1 (by decide)).trans hL) h4 (by omega) ⟨_, rfl, ?_⟩
      have v : w 2 i = nI (B i) := by rw [f 2 (by decide)]; exact b2
      refine s_sortOf (b := B i) v b1 ⟨_, rfl, ?_⟩
      dsimp only
      rw [t, nI_1 i]
      refine ⟨fun q => h w f g ?_, fun q => ?_⟩
      · have ne : ¬ (soB (B i) == soB (B a)) = true := fun z => q (by rw [eq_of_beq z])
        rw [if_neg ne] at e
        rw [t, e]
      · rw [nI_eq (by omega) (by omega)] at q
        rw [if_pos (by rw [q]; exact beq_self_eq_true _)] at e
        exact ih (i + 1) _ (by omega) (fun c x => (zUp_k _ _ x).trans (f c x)) (fun j x => (zUp_j _ _ x).trans (g j x)) (zUp_at _ _ _ _) n2 e
  by_cases q : soB (B a) = 2
  · have e : teB B L a = a + 1 := by unfold teB; rw [if_pos ha, if_pos q]
    have hh := h u (fun _ _ => rfl) (fun _ _ => rfl) (by rw [hj, e])
    rw [q]
    exact tX7_goOn_85 (k0 := 1) rfl ⟨fun _ => hh, fun _ => br_t rfl hh⟩
  · exact go (L - (a + 1)) (a + 1) u (by omega) (fun _ _ => rfl) (fun _ _ => rfl) hj q (by unfold teB; rw [if_pos ha, if_neg q])
