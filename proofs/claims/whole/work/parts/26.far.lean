theorem zFor {σ : Type} {Pr : Nat → σ → Prop} (inv : Nat → σ → Prop) (N : Nat) (hx : ∀ s, inv N s → Pr N s) (hs : ∀ i s, i < N → inv i s → (∀ s', inv (i + 1) s' → Pr (i + 1) s') → Pr i s) (s : σ) (h : inv 0 s) : Pr 0 s := by
  have key : ∀ (j i : Nat) (s : σ), i + j = N → inv i s → Pr i s := by
    intro j
    induction j with
    | zero => intro i s e hi; obtain rfl : i = N := by omega
              exact hx s hi
    | succ j ih => intro i s e hi; exact hs i s (by omega) hi (fun s' h' => ih (i + 1) s' (by omega) h')
  exact key N 0 s (by omega) h
theorem nI_min {a b : Nat} (ha : a < 2 ^ 31) (hb : b < 2 ^ 31) : (if nI b < nI a then nI b else nI a) = nI (min a b) := by
  by_cases h : b < a
  · rw [if_pos ((nI_ltI hb ha).mpr h), Nat.min_eq_right (by omega)]
  · rw [if_neg (fun q => h ((nI_ltI hb ha).mp q)), Nat.min_eq_left (by omega)]
theorem s_laysFars {d : Nat} {r : Nat → Nat → Nat} {u : zM} {Q : Option Value → zM → Prop} (hr : ∀ a b, r a b ≤ 9) (hu : ∀ a b, a < 12 → b < 12 → u 129 (11 + 12 * a + b) = nI (r a b))
    (h : ∀ w : zM, (∀ c, c ≠ 134 → w c = u c) → (∀ a b, a < 12 → b < 12 → w 134 (12 * a + b) = nI (fwR r 12 a b)) → Q none w) : zCall (d + 2) false 198 [.ref 128] u Q := by
  have hle := fun k a b => fw_le r hr k a b
  refine tX12_laysFars ?_
  refine zFor (σ := zM) (Pr := fun i w => zRun (d + 1) false zcX12_laysFars 0 Q 2 [(0, .ref 128), (1, .int (nI i))] [] w)
    (fun i w => (∀ c, c ≠ 134 → w c = u c) ∧ ∀ a b, a < i → b < 12 → w 134 (12 * a + b) = nI (fwR r 0 a b)) 12 (fun w hw => ?_) (fun i w hi hw ih => ?_) u ⟨fun _ _ => rfl, fun a b ha => absurd ha (Nat.not_lt_zero _)⟩
  · -- the second pass
    refine tX12_laysFars_2 ⟨fun _ => ?_, fun c => absurd (by decide) c⟩
    refine zFor (σ := zM) (Pr := fun i w => zRun (d + 1) false zcX12_laysFars 0 Q 78 [(0, .ref 128), (1, .int (nI i))] [] w)
      (fun i w => (∀ c, c ≠ 134 → w c = u c) ∧ ∀ a b, a < 12 → b < 12 → w 134 (12 * a + b) = nI (fwR r i a b)) 12 (fun w hw => ?_) (fun c w hc hw ihc => ?_) w hw
    · exact tX12_laysFars_78 ⟨fun _ => h w hw.1 hw.2, fun c => absurd (by decide) c⟩
    · refine tX12_laysFars_78 ⟨fun q => absurd q (by rw [nI_lit, nI_leI (by omega) (by omega)]; omega), fun _ => ?_⟩
      refine zFor (σ := zM) (Pr := fun i w => zRun (d + 1) false zcX12_laysFars 0 Q 86 [(0, .ref 128), (1, .int (nI c)), (2, .int (nI i))] [] w)
        (fun i w => (∀ c, c ≠ 134 → w c = u c) ∧ ∀ a b, a < 12 → b < 12 → w 134 (12 * a + b) = nI (if a < i then fwR r (c + 1) a b else fwR r c a b)) 12 (fun w hw => ?_) (fun i w hi hw ihi => ?_) w ⟨hw.1, fun a b ha hb => by rw [if_neg (Nat.not_lt_zero _)]; exact hw.2 a b ha hb⟩
      · refine tX12_laysFars_86 ⟨fun _ => ?_, fun c => absurd (by decide) c⟩
        rw [nI_1]
        exact ihc w ⟨hw.1, fun a b ha hb => by rw [hw.2 a b ha hb, if_pos ha]⟩
      · refine tX12_laysFars_86 ⟨fun q => absurd q (by rw [nI_lit, nI_leI (by omega) (by omega)]; omega), fun _ => ?_⟩
        refine zFor (σ := zM) (Pr := fun j w => zRun (d + 1) false zcX12_laysFars 0 Q 94 [(0, .ref 128), (1, .int (nI c)), (2, .int (nI i)), (3, .int (nI j))] [] w)
          (fun j w => (∀ c, c ≠ 134 → w c = u c) ∧ ∀ a b, a < 12 → b < 12 → w 134 (12 * a + b) = nI (if a < i ∨ (a = i ∧ b < j) then fwR r (c + 1) a b else fwR r c a b)) 12 (fun w hw => ?_) (fun j w hj hw ihj => ?_) w ⟨hw.1, fun a b ha hb => by rw [hw.2 a b ha hb]; congr 1; by_cases q : a < i <;> simp [q]⟩
        · refine tX12_laysFars_94 ⟨fun _ => ?_, fun c => absurd (by decide) c⟩
          rw [nI_1]
          exact ihi w ⟨hw.1, fun a b ha hb => by
            rw [hw.2 a b ha hb]; congr 1
            by_cases q : a < i + 1
            · rw [if_pos q, if_pos (by omega)]
            · rw [if_neg q, if_neg (by omega)]⟩
        · refine tX12_laysFars_94 ⟨fun q => absurd q (by rw [nI_lit, nI_leI (by omega) (by omega)]; omega), fun _ => ?_⟩
          have l1 := hle c i j
          have l2 := hle c i c
          have l3 := hle c c j
          have e1 : w 134 (12 * i + j) = nI (fwR r c i j) := by rw [hw.2 i j hi hj, if_neg (by omega)]
          have e2 : w 134 (12 * i + c) = nI (fwR r c i c) := by
            rw [hw.2 i c hi hc]
            split
            · rw [fw_col]
            · rfl
          have e3 : w 134 (12 * c + j) = nI (fwR r c c j) := by
            rw [hw.2 c j hc hj]
            split
            · rw [fw_row]
            · rfl
          simp (disch := omega) only [nI_lit, nI_mul, nI_add, nI_clamp, vp_nI, e1, e2, e3, nI_min]
          refine ⟨by omega, by omega, by omega, by omega, ihj _ ⟨fun q hq => by rw [zUp_k _ _ hq]; exact hw.1 q hq, fun a b ha hb => ?_⟩⟩
          by_cases q : a = i ∧ b = j
          · obtain ⟨rfl, rfl⟩ := q
            rw [zUp_at, if_pos (by omega)]
            rfl
          · rw [zUp_j _ _ (by omega), hw.2 a b ha hb]
            congr 1
            by_cases q2 : a < i ∨ (a = i ∧ b < j)
            · rw [if_pos q2, if_pos (by omega)]
            · rw [if_neg q2, if_neg (by omega)]
  · refine tX12_laysFars_2 ⟨fun q => absurd q (by rw [nI_lit, nI_leI (by omega) (by omega)]; omega), fun _ => ?_⟩
    refine zFor (σ := zM) (Pr := fun j w => zRun (d + 1) false zcX12_laysFars 0 Q 10 [(0, .ref 128), (1, .int (nI i)), (2, .int (nI j))] [] w)
      (fun j w => (∀ c, c ≠ 134 → w c = u c) ∧ ∀ a b, (a < i ∨ (a = i ∧ b < j)) → b < 12 → w 134 (12 * a + b) = nI (fwR r 0 a b)) 12 (fun w hw => ?_) (fun j w hj hw ihj => ?_) w ⟨hw.1, fun a b ha hb => hw.2 a b (by omega) hb⟩
    · refine tX12_laysFars_10 ⟨fun _ => ?_, fun c => absurd (by decide) c⟩
      rw [nI_1]
      exact ih w ⟨hw.1, fun a b ha hb => hw.2 a b (by omega) hb⟩
    · refine tX12_laysFars_10 ⟨fun q => absurd q (by rw [nI_lit, nI_leI (by omega) (by omega)]; omega), fun _ => ?_⟩
      have e0 : w 129 (11 + 12 * i + j) = nI (r i j) := by rw [hw.1 _ (by omega)]; exact hu i j hi hj
      have hrij := hr i j
      have fin : ∀ x : Int32, x = nI (fwR r 0 i j) → (∀ c, c ≠ 134 → zUp w 134 (12 * i + j) x c = u c) ∧ ∀ a b, (a < i ∨ (a = i ∧ b < j + 1)) → b < 12 → zUp w 134 (12 * i + j) x 134 (12 * a + b) = nI (fwR r 0 a b) := by
        intro x hx
        refine ⟨fun q hq => by rw [zUp_k _ _ hq]; exact hw.1 q hq, fun a b ha hb => ?_⟩
        by_cases q : a = i ∧ b = j
        · obtain ⟨rfl, rfl⟩ := q
          rw [zUp_at]; exact hx
        · rw [zUp_j _ _ (by omega)]
          exact hw.2 a b (by omega) hb
      simp (disch := omega) only [nI_lit, nI_mul, nI_add, nI_clamp, vp_nI, e0, nI_leI, nI_eq]
      refine ⟨fun hij => ⟨by omega, fun h0 => ⟨by omega, ihj _ (fin _ ?_)⟩, fun h0 => ⟨by omega, by omega, ihj _ (fin _ ?_)⟩⟩, fun hij => ⟨by omega, ihj _ (fin _ ?_)⟩⟩
      · unfold fwR; rw [if_neg hij, if_neg (by omega)]
      · unfold fwR; rw [if_neg hij, if_pos (by omega)]
      · unfold fwR; rw [if_pos hij]
