def skB (B : Nat → Nat) (L p : Nat) : Nat := runB (inB 32 32) B (L - p) p
def ltB (B : Nat → Nat) (L p : Nat) : Nat := runB (inB 97 122) B (L - p) p
theorem skB_le {B : Nat → Nat} {L p : Nat} (h : p ≤ L) : p ≤ skB B L p ∧ skB B L p ≤ L := by
  have := runB_le (P := inB 32 32) (B := B) (L - p) p
  unfold skB; omega
theorem ltB_le {B : Nat → Nat} {L p : Nat} (h : p ≤ L) : p ≤ ltB B L p ∧ ltB B L p ≤ L := by
  have := runB_le (P := inB 97 122) (B := B) (L - p) p
  unfold ltB; omega
/-- the letters of the reference: from the first that is no blank -/
theorem s_letters {d L p : Nat} {B : Nat → Nat} {u : zM} {Q : Option Value → zM → Prop} (hU : zRtx u B L p)
    (h : ∀ w, (∀ c, c ≠ 128 → w c = u c) → (∀ j, j ≠ 11 → j ≠ 13 → w 128 j = u 128 j) → w 128 13 = nI (skB B L p) → zRtx w B L (ltB B L (skB B L p)) → Q none w) : zCall (d + 3) false 205 [.ref 128] u Q := by
  refine tX12_letters ?_
  refine s_blanks hU (fun w1 f1 g1 b1 t1 => ⟨rfl, ?_⟩)
  have go : ∀ r i (w : zM), i + r = L → (∀ c, c ≠ 128 → w c = u c) → (∀ j, j ≠ 11 → j ≠ 13 → w 128 j = u 128 j) → w 128 13 = nI (skB B L p) → zRtx w B L i → runB (inB 97 122) B r i = ltB B L (skB B L p) → zRun (d + 2) false zcX12_letters 0 Q 4 [(0, .ref 128)] [] w := by
    intro r
    induction r with
    | zero =>
      intro i w hi f g b t e
      refine tX12_letters_4 ?_
      refine s_isAt (lo := 97) (hi := 122) rfl rfl (by decide) (by decide) t ⟨_, rfl, ?_⟩
      rw [decide_eq_false (by omega), Bool.false_and]
      refine br_t rfl (h w f g b ?_)
      have e0 : runB (inB 97 122) B 0 i = i := rfl
      rw [← e, e0]; exact t
    | succ r ih =>
      intro i w hi f g b t e
      have l : runB (inB 97 122) B (r + 1) i = if inB 97 122 (B i) = true then runB (inB 97 122) B r (i + 1) else i := rfl
      rw [l] at e
      refine tX12_letters_4 ?_
      refine s_isAt (lo := 97) (hi := 122) rfl rfl (by decide) (by decide) t ⟨_, rfl, ?_⟩
      rw [decide_eq_true (show i < L by omega), Bool.true_and]
      obtain ⟨t1, t2, t3, t4, t5⟩ := t
      cases x : inB 97 122 (B i)
      · rw [x, if_neg (by decide)] at e
        refine br_t rfl (h w f g b ?_)
        rw [← e]; exact ⟨t1, t2, t3, t4, t5⟩
      · rw [x, if_pos rfl] at e
        refine br_f (by decide) ?_
        rw [t4, nI_1 i]
        refine ih (i + 1) _ (by omega) (fun c a => (zUp_k _ _ a).trans (f c a)) (fun j a b => (zUp_j _ _ a).trans (g j a b)) ((zUp_j _ _ (by decide)).trans b) ⟨t1, by omega, (zUp_j _ _ (by decide)).trans t3, zUp_at _ _ _ _, ?_⟩ e
        rw [zUp_k _ _ (by decide)]; exact t5
  have hq := (skB_le (B := B) hU.2.1).2
  exact go (L - skB B L p) (skB B L p) w1 (by omega) f1 g1 b1 t1 rfl
