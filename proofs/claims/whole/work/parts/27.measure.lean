theorem s_shorten {d k0 a c : Nat} {F : Nat → Nat → Nat} {a1 a2 : Int32} {u : zM} {Q : Option Value → zM → Prop} (hk : zShapes[k0]? = some (.inl 5)) (e1 : a1 = nI a) (e2 : a2 = nI c) (ha : a < 12) (hc : c < 12) (hF : ∀ x y, F x y ≤ 1000) (h0 : F c c = 0) (hu : ∀ x y, x < 12 → y < 12 → u (k0 + 2) (x * 12 + y) = nI (F x y))
    (h : ∀ w : zM, (∀ q, q ≠ k0 + 2 → w q = u q) → (∀ x y, x < 12 → y < 12 → w (k0 + 2) (x * 12 + y) = nI (if x = a then min (F a y) (F a c + F c y) else F x y)) → Q none w) : zCall (d + 3) false 56 [.ref k0, .int a1, .int a2] u Q := by
  subst e1; subst e2
  have hac := hF a c
  refine tX5_shorten hk ?_
  simp (disch := omega) only [nI_lit, nI_mul, nI_add, nI_clamp, vp_nI, hu a c ha hc]
  refine ⟨ha, hc, ?_⟩
  refine zFor (σ := zM) (Pr := fun j w => zRun (d + 2) false zcX5_shorten 0 Q 10 [(0, .ref k0), (1, .int (nI a)), (2, .int (nI c)), (3, .int (nI (F a c))), (4, .int (nI j))] [] w)
    (fun j w => (∀ q, q ≠ k0 + 2 → w q = u q) ∧ ∀ x y, x < 12 → y < 12 → w (k0 + 2) (x * 12 + y) = nI (if x = a ∧ y < j then min (F a y) (F a c + F c y) else F x y)) 12 (fun w hw => ?_) (fun j w hj hw ih => ?_) u ⟨fun _ _ => rfl, fun x y hx hy => by rw [hu x y hx hy, if_neg (by omega)]⟩
  · refine tX5_shorten_10 hk ⟨fun _ => h w hw.1 (fun x y hx hy => ?_), fun q => absurd (by decide) q⟩
    rw [hw.2 x y hx hy]
    congr 1
    by_cases q : x = a
    · rw [if_pos ⟨q, hy⟩, if_pos q]
    · rw [if_neg (fun z => q z.1), if_neg q]
  · refine tX5_shorten_10 hk ⟨fun q => absurd q (by rw [nI_lit, nI_leI (by omega) (by omega)]; omega), fun _ => ?_⟩
    have l1 := hF a j
    have l2 := hF c j
    have g1 : w (k0 + 2) (a * 12 + j) = nI (F a j) := by rw [hw.2 a j ha hj, if_neg (by omega)]
    have g2 : w (k0 + 2) (c * 12 + j) = nI (F c j) := by rw [hw.2 c j hc hj, if_neg (by omega)]
    have keep : 1000 ≤ F a c ∨ F a j ≤ F a c + F c j → ∀ x y, x < 12 → y < 12 → w (k0 + 2) (x * 12 + y) = nI (if x = a ∧ y < j + 1 then min (F a y) (F a c + F c y) else F x y) := by
      intro hh x y hx hy
      rw [hw.2 x y hx hy]
      congr 1
      by_cases q : x = a ∧ y < j
      · rw [if_pos q, if_pos (by omega)]
      · rw [if_neg q]
        by_cases q2 : x = a ∧ y < j + 1
        · obtain ⟨rfl, q3⟩ := q2
          obtain rfl : y = j := by omega
          rw [if_pos ⟨rfl, by omega⟩]
          omega
        · rw [if_neg q2]
    simp (disch := omega) only [nI_lit, nI_mul, nI_add, nI_clamp, vp_nI, g1, g2, nI_leI, nI_ltI]
    refine ⟨fun hh => h w hw.1 (fun x y hx hy => ?_), fun hh => ⟨hc, hj, fun q => absurd q (Nat.not_lt_zero _), fun _ => ⟨fun q => absurd q (by omega), fun _ => ⟨ha, hj, fun g => ?_, fun g => ⟨by omega, ?_⟩⟩⟩⟩⟩
    · rw [hw.2 x y hx hy]
      congr 1
      have l3 := hF x y
      have l4 := hF a y
      by_cases q : x = a
      · subst q
        rw [if_pos rfl]
        split
        · rfl
        · omega
      · rw [if_neg q, if_neg (fun z => q z.1)]
    · exact ih w ⟨hw.1, keep (Or.inr g)⟩
    · refine ih _ ⟨fun q hq => by rw [zUp_k _ _ hq]; exact hw.1 q hq, fun x y hx hy => ?_⟩
      by_cases q : x = a ∧ y = j
      · obtain ⟨rfl, rfl⟩ := q
        rw [zUp_at, if_pos ⟨rfl, by omega⟩, Nat.min_eq_right (by omega)]
      · rw [zUp_j _ _ (by omega), hw.2 x y hx hy]
        congr 1
        by_cases q2 : x = a ∧ y < j
        · rw [if_pos q2, if_pos (by omega)]
        · rw [if_neg q2, if_neg (by omega)]
theorem s_measure {d k0 : Nat} {r : Nat → Nat → Nat} {u : zM} {Q : Option Value → zM → Prop} (hk : zShapes[k0]? = some (.inl 5)) (hr : ∀ a b, r a b ≤ 9) (hu : ∀ x y, x < 12 → y < 12 → u (k0 + 1) (x * 12 + y) = nI (r x y))
    (h : ∀ w : zM, (∀ q, q ≠ k0 + 2 → w q = u q) → (∀ x y, x < 12 → y < 12 → w (k0 + 2) (x * 12 + y) = nI (min 1000 (fwR r 12 x y))) → Q none w) : zCall (d + 4) false 55 [.ref k0] u Q := by
  refine tX5_measure hk ?_
  refine zFor (σ := zM) (Pr := fun i w => zRun (d + 3) false zcX5_measure 0 Q 2 [(0, .ref k0), (1, .int (nI i))] [] w)
    (fun n w => (∀ q, q ≠ k0 + 2 → w q = u q) ∧ ∀ x y, x < 12 → y < 12 → x * 12 + y < n → w (k0 + 2) (x * 12 + y) = nI (if 0 < r x y then r x y else 1000)) 144 (fun w hw => ?_) (fun n w hn hw ih => ?_) u ⟨fun _ _ => rfl, fun x y _ _ hq => absurd hq (Nat.not_lt_zero _)⟩
  · refine tX5_measure_2 hk ⟨fun _ => ?_, fun q => absurd (by decide) q⟩
    refine zFor (σ := zM) (Pr := fun i w => zRun (d + 3) false zcX5_measure 0 Q 44 [(0, .ref k0), (1, .int (nI i))] [] w)
      (fun n w => (∀ q, q ≠ k0 + 2 → w q = u q) ∧ ∀ x y, x < 12 → y < 12 → w (k0 + 2) (x * 12 + y) = nI (if x = y ∧ x < n then 0 else if 0 < r x y then r x y else 1000)) 12 (fun w hw => ?_) (fun n w hn hw ih => ?_) w ⟨hw.1, fun x y hx hy => by rw [hw.2 x y hx hy (by omega)]; congr 1; rw [if_neg (show ¬ (x = y ∧ x < 0) by omega)]⟩
    · refine tX5_measure_44 hk ⟨fun _ => ?_, fun q => absurd (by decide) q⟩
      refine zFor (σ := zM) (Pr := fun i w => zRun (d + 3) false zcX5_measure 0 Q 70 [(0, .ref k0), (1, .int (nI i))] [] w)
        (fun n w => (∀ q, q ≠ k0 + 2 → w q = u q) ∧ ∀ x y, x < 12 → y < 12 → w (k0 + 2) (x * 12 + y) = nI (min 1000 (fwR r n x y))) 12 (fun w hw => ?_) (fun c w hc hw ih => ?_) w ⟨hw.1, fun x y hx hy => ?_⟩
      · exact tX5_measure_70 hk ⟨fun _ => h w hw.1 hw.2, fun q => absurd (by decide) q⟩
      · refine tX5_measure_70 hk ⟨fun q => absurd q (by rw [nI_lit, nI_leI (by omega) (by omega)]; omega), fun _ => ?_⟩
        refine zFor (σ := zM) (Pr := fun i w => zRun (d + 3) false zcX5_measure 0 Q 78 [(0, .ref k0), (1, .int (nI c)), (2, .int (nI i))] [] w)
          (fun n w => (∀ q, q ≠ k0 + 2 → w q = u q) ∧ ∀ x y, x < 12 → y < 12 → w (k0 + 2) (x * 12 + y) = nI (if x < n then min 1000 (fwR r (c + 1) x y) else min 1000 (fwR r c x y))) 12 (fun w hw => ?_) (fun i w hi hw ih2 => ?_) w ⟨hw.1, fun x y hx hy => by rw [if_neg (Nat.not_lt_zero _)]; exact hw.2 x y hx hy⟩
        · refine tX5_measure_78 hk ⟨fun _ => ?_, fun q => absurd (by decide) q⟩
          rw [nI_1]
          exact ih w ⟨hw.1, fun x y hx hy => by rw [hw.2 x y hx hy, if_pos hx]⟩
        · refine tX5_measure_78 hk ⟨fun q => absurd q (by rw [nI_lit, nI_leI (by omega) (by omega)]; omega), fun _ => ?_⟩
          refine s_shorten (F := fun x y => if x < i then min 1000 (fwR r (c + 1) x y) else min 1000 (fwR r c x y)) hk rfl rfl hi hc (fun x y => ?_) ?_ hw.2 (fun w2 f1 f2 => ⟨rfl, ?_⟩)
          · try dsimp only
            split <;> exact Nat.min_le_left _ _
          · try dsimp only
            rw [fw_diag, fw_diag, Nat.min_zero, ite_self]
          · rw [nI_1]
            refine ih2 w2 ⟨fun q hq => by rw [f1 q hq]; exact hw.1 q hq, fun x y hx hy => ?_⟩
            rw [f2 x y hx hy]
            congr 1
            try dsimp only
            by_cases q : x = i
            · subst q
              rw [if_pos rfl, if_neg (Nat.lt_irrefl _), if_neg (Nat.lt_irrefl _), if_pos (Nat.lt_succ_self _)]
              have e1 : (if c < x then min 1000 (fwR r (c + 1) c y) else min 1000 (fwR r c c y)) = min 1000 (fwR r c c y) := by
                rw [fw_row, ite_self]
              rw [e1]
              show _ = min 1000 (min (fwR r c x y) (fwR r c x c + fwR r c c y))
              omega
            · rw [if_neg q]
              by_cases q2 : x < i
              · rw [if_pos q2, if_pos (by omega)]
              · rw [if_neg q2, if_neg (by omega)]
      · rw [hw.2 x y hx hy]
        congr 1
        unfold fwR
        have := hr x y
        by_cases q : x = y
        · rw [if_pos ⟨q, hx⟩, if_pos q]; rfl
        · rw [if_neg (fun z => q z.1), if_neg q]
          split <;> omega
    · refine tX5_measure_44 hk ⟨fun q => absurd q (by rw [nI_lit, nI_leI (by omega) (by omega)]; omega), fun _ => ?_⟩
      simp (disch := omega) only [nI_lit, nI_mul, nI_add, nI_clamp, vp_nI]
      refine ⟨by omega, ih _ ⟨fun q hq => by rw [zUp_k _ _ hq]; exact hw.1 q hq, fun x y hx hy => ?_⟩⟩
      by_cases q : x = n ∧ y = n
      · obtain ⟨rfl, rfl⟩ := q
        rw [zUp_at, if_pos ⟨rfl, by omega⟩]
      · rw [zUp_j _ _ (by omega), hw.2 x y hx hy]
        congr 1
        by_cases q2 : x = y ∧ x < n
        · rw [if_pos q2, if_pos (show x = y ∧ x < n + 1 by omega)]
        · rw [if_neg q2, if_neg (show ¬ (x = y ∧ x < n + 1) by omega)]
  · refine tX5_measure_2 hk ⟨fun q => absurd q (by rw [nI_lit, nI_leI (by omega) (by omega)]; omega), fun _ => ?_⟩
    have hd : (n / 12) * 12 + n % 12 = n := by omega
    have e0 : w (k0 + 1) n = nI (r (n / 12) (n % 12)) := by
      rw [hw.1 _ (by omega)]
      have := hu (n / 12) (n % 12) (by omega) (by omega)
      rwa [hd] at this
    have hrn := hr (n / 12) (n % 12)
    have fin : ∀ z : Int32, z = nI (if 0 < r (n / 12) (n % 12) then r (n / 12) (n % 12) else 1000) → (∀ q, q ≠ k0 + 2 → zUp w (k0 + 2) n z q = u q) ∧ ∀ x y, x < 12 → y < 12 → x * 12 + y < n + 1 → zUp w (k0 + 2) n z (k0 + 2) (x * 12 + y) = nI (if 0 < r x y then r x y else 1000) := by
      intro z hz
      refine ⟨fun q hq => by rw [zUp_k _ _ hq]; exact hw.1 q hq, fun x y hx hy hxy => ?_⟩
      by_cases q : x * 12 + y = n
      · have q1 : n / 12 = x := by omega
        have q2 : n % 12 = y := by omega
        rw [q, zUp_at, hz, q1, q2]
      · rw [zUp_j _ _ q]
        exact hw.2 x y hx hy (by omega)
    simp (disch := omega) only [nI_lit, nI_mul, nI_add, nI_clamp, vp_nI, e0, nI_leI]
    refine ⟨hn, fun g => ⟨hn, ih _ (fin _ ?_)⟩, fun g => ⟨hn, hn, ih _ (fin _ ?_)⟩⟩
    · rw [if_neg (by omega)]
    · rw [if_pos (by omega)]
