theorem s_isSeen {d n L : Nat} {B : Nat → Nat} {u : zM} {Q : Option Value → zM → Prop} (hL : u 128 12 = nI L) (h4 : L ≤ 400) (hB : ∀ i, i < L → B i < 256 ∧ u 135 i = (nI (B i)).toInt8.toInt32) (hn : u 129 0 = nI n) (h8 : n ≤ 8)
    (h : Q (some (.int (if hOk B n L = true then 1 else 0))) u) : zCall (d + 3) false 296 [.ref 128] u Q := by
  have no : ∀ b : Int32, ¬ hOk B n L = true → zRun (d + 2) false zcX12_isSeen 2 Q 26 [(0, .ref 128), (1, .int 0), (2, .int b)] [] u := fun b z => by
    rw [if_neg z] at h
    exact tX12_isSeen_26 ⟨fun _ => ⟨Or.inl rfl, h⟩, fun _ => ⟨fun _ => ⟨Or.inl rfl, h⟩, fun y => absurd rfl y⟩⟩
  have e2 : (nI L - nI L / 2 * 2) = nI (L % 2) := by rw [nI_lit, nI_rem (by omega) (by omega)]
  refine tX12_isSeen ?_
  rw [hL, e2]
  by_cases q2 : L % 2 = 0
  · by_cases q1 : L ≤ 40
    · have go : ∀ r j, j + r = L / 2 → hG B n j = true → zRun (d + 2) false zcX12_isSeen 2 Q 26 [(0, .ref 128), (1, .int 1), (2, .int (nI (2 * j)))] [] u := by
        intro r
        induction r with
        | zero =>
          intro j hj g
          obtain rfl : j = L / 2 := by omega
          have ok : hOk B n L = true := Bool.and_eq_true_iff.mpr ⟨decide_eq_true ⟨q1, q2⟩, g⟩
          rw [if_pos ok] at h
          exact tX12_isSeen_26 (br_t (by rw [hL, nI_leI (by omega) (by omega)]; omega) ⟨Or.inr rfl, h⟩)
        | succ r ih =>
          intro j hj g
          obtain ⟨x1, x2⟩ := hB (2 * j) (by omega)
          obtain ⟨z1, z2⟩ := hB (2 * j + 1) (by omega)
          have bad : ¬ (B (2 * j) < n ∧ B (2 * j + 1) ≤ 1) → ¬ hOk B n L = true := fun z => hOk_f (j := j + 1) (by omega) (fun y => z (of_decide_eq_true (Bool.and_eq_true_iff.mp y).2))
          have good : B (2 * j) < n → B (2 * j + 1) ≤ 1 → hG B n (j + 1) = true := fun a b => Bool.and_eq_true_iff.mpr ⟨g, decide_eq_true ⟨a, b⟩⟩
          refine tX12_isSeen_26 (br_f (by rw [hL, nI_leI (by omega) (by omega)]; omega) (br_f (by decide) ⟨vp_in_nI (by omega) (by decide), ?_⟩))
          rw [nI_clamp (n := 2 * j) (by omega), x2, nI_1, nI_clamp (n := 2 * j + 1) (by omega), z2, nI_2, hn]
          rcases s8_ex _ x1 with ⟨y1, y2⟩ | ⟨y1, y2⟩
          · rw [y2]
            refine br_f (nI_pos (by omega)) ⟨fun q => no _ (bad (fun z => n_top h8 z.1 q)), fun q => ⟨vp_in_nI (by omega) (by decide), ?_⟩⟩
            have lt : B (2 * j) < n := by
              by_cases z : n ≤ B (2 * j)
              · exact absurd (i_top2 h8 (Or.inr (by rw [nI_leI (by omega) (by omega)]; exact z)) (nI_pos (by omega))) q
              · omega
            rcases s8_ex _ z1 with ⟨y3, y4⟩ | ⟨y3, y4⟩
            · rw [y4]
              refine br_f (nI_pos (by omega)) ⟨fun q2 => ?_, fun q2 => ?_⟩
              · rw [nI_lit, nI_ltI (by omega) (by omega)] at q2
                exact no _ (bad (fun z => by have := z.2; omega))
              · rw [nI_lit, nI_ltI (by omega) (by omega)] at q2
                exact ih (j + 1) (by omega) (good lt (by omega))
            · exact br_t y4 (no _ (bad (by omega)))
          · exact br_t y2 (no _ (bad (by omega)))
      exact ⟨fun z => absurd (by rw [q2]; rfl) z, fun _ => br_f (by rw [nI_lit, nI_ltI (by omega) (by omega)]; omega) (go (L / 2) 0 (by omega) rfl)⟩
    · exact ⟨fun z => absurd (by rw [q2]; rfl) z, fun _ => br_t (by rw [nI_lit, nI_ltI (by omega) (by omega)]; omega) (no _ (fun z => q1 (of_decide_eq_true (Bool.and_eq_true_iff.mp z).1).1))⟩
  · exact ⟨fun _ => no _ (fun z => q2 (of_decide_eq_true (Bool.and_eq_true_iff.mp z).1).2), fun z => absurd z (nI_ne (a := L % 2) (b := 0) (by omega) (by decide) q2)⟩
/-- the STEPS that charge c gives to -/
def gvV (W : Nat → Int32) (K n c : Nat) : Int32 := (zRdF W K c n).gave
theorem s_laysGiven {d n K : Nat} {u : zM} {Q : Option Value → zM → Prop} (hR : zRg (u 129) n) (hf : ∀ a b, a < 12 → b < 12 → u 134 (12 * a + b) = nI (zFar (u 129) a b)) (hK : K ≤ 99) (hK5 : u 129 5 = nI K)
    (h : ∀ w, (∀ c, c ≠ 128 → c ≠ 139 → w c = u c) → (∀ j, j < 19 ∨ 23 < j → w 128 j = u 128 j) → (∀ i, i < 201 → w 139 i = gvV (u 129) K n i) → Q none w) : zCall (d + 6) false 297 [.ref 128] u Q := by
  refine tX12_laysGiven ?_
  refine zFor (σ := zM) (Pr := fun i w => zRun (d + 5) false zcX12_laysGiven 0 Q 2 [(0, .ref 128), (1, .int (nI i))] [] w) (fun i w => (∀ c, c ≠ 128 → c ≠ 139 → w c = u c) ∧ (∀ j, j < 19 ∨ 23 < j → w 128 j = u 128 j) ∧ ∀ k, k < i → w 139 k = gvV (u 129) K n k) 201 (fun w hw => ?_) (fun i w hi hw ih => ?_) u ⟨fun _ _ _ => rfl, fun _ _ => rfl, fun k hk => absurd hk (Nat.not_lt_zero _)⟩
  · exact tX12_laysGiven_2 (br_t (by decide) (h w hw.1 hw.2.1 hw.2.2))
  · obtain ⟨f1, f2, f3⟩ := hw
    have e9 : w 129 = u 129 := f1 129 (by decide) (by decide)
    refine tX12_laysGiven_2 (br_f (by rw [nI_lit, nI_ltI (by omega) (by omega)]; omega) ?_)
    refine s_rides (n := n) (K := K) (p0 := i) (by rw [e9]; exact hR) (by rw [e9, f1 134 (by decide) (by decide)]; exact hf) rfl (by omega) hK (by rw [e9]; exact hK5) (fun w2 g1 g2 g3 => ⟨rfl, vp_in_nI (by omega) (by decide), ?_⟩)
    rw [nI_clamp (n := i) (by omega), nI_1 i]
    refine ih _ ⟨fun c a b => by rw [zUp_k _ _ b, g1 c a]; exact f1 c a b, fun j hj => by rw [zUp_k _ _ (by decide), g2 j hj]; exact f2 j hj, fun k hk => ?_⟩
    by_cases q : k = i
    · rw [q, zUp_at, g3.2.2.2.2, e9]; rfl
    · rw [zUp_j _ _ q, g1 139 (by decide)]; exact f3 k (by omega)
theorem s_fitsR {d n L c : Nat} {g : Int32} {B : Nat → Nat} {a1 : Int32} {u : zM} {Q : Option Value → zM → Prop} (e1 : a1 = nI c) (hc : c < 201) (hg : u 139 c = g) (hL : u 128 12 = nI L) (h4 : L ≤ 400) (hB : ∀ i, i < L → B i < 256 ∧ u 135 i = (nI (B i)).toInt8.toInt32) (h8 : n ≤ 8) (ok : hOk B n L = true)
    (h : Q (some (.int (i01 (fr B g (L / 2))))) u) : zCall (d + 2) false 298 [.ref 128, .int a1] u Q := by
  subst e1
  have o := Bool.and_eq_true_iff.mp ok
  have o1 := of_decide_eq_true o.1
  have b01 : ∀ x : Bool, i01 x = 0 ∨ i01 x = 1 := fun x => by cases x <;> simp [i01]
  refine tX12_fits ?_
  refine zFor (σ := Int32) (Pr := fun j x => zRun (d + 1) false zcX12_fits 2 Q 4 [(0, .ref 128), (1, .int (nI c)), (2, .int x), (3, .int (nI (2 * j)))] [] u) (fun j x => x = i01 (fr B g j)) (L / 2) (fun x hx => ?_) (fun j x hj hx ih => ?_) 1 rfl
  · refine tX12_fits_4 (br_t (by rw [hL, nI_leI (by omega) (by omega)]; omega) ?_)
    rw [hx]
    exact ⟨b01 _, h⟩
  · obtain ⟨x1, x2⟩ := hB (2 * j) (by omega)
    obtain ⟨z1, z2⟩ := hB (2 * j + 1) (by omega)
    obtain ⟨y1, y2⟩ := hG_at hj o.2
    have s1 : (nI (B (2 * j))).toInt8.toInt32 = nI (B (2 * j)) := by
      rcases s8_ex _ x1 with q | q
      · exact q.2
      · have := q.1; omega
    have s2 : (nI (B (2 * j + 1))).toInt8.toInt32 = nI (B (2 * j + 1)) := by
      rcases s8_ex _ z1 with q | q
      · exact q.2
      · have := q.1; omega
    refine tX12_fits_4 (br_f (by rw [hL, nI_leI (by omega) (by omega)]; omega) ?_)
    rw [nI_clamp (n := c) (by omega), hg, nI_clamp (n := 2 * j) (by omega), x2, s1, nI_1, nI_clamp (n := 2 * j + 1) (by omega), z2, s2, nI_2]
    have t1 := tb_sh1 g (j := B (2 * j)) (by omega)
    have va : vp_in (nI c) 201 := vp_in_nI (by omega) (by decide)
    have vb : vp_in (nI (2 * j)) 400 := vp_in_nI (by omega) (by decide)
    have vc : vp_in (nI (2 * j + 1)) 400 := vp_in_nI (by omega) (by decide)
    have st : ∀ y : Bool, fr B g (j + 1) = y → ∀ v : Int32, v = i01 y → zRun (d + 1) false zcX12_fits 2 Q 4 [(0, .ref 128), (1, .int (nI c)), (2, .int v), (3, .int (nI (2 * (j + 1))))] [] u := fun y hy v hv => ih v (by rw [hy]; exact hv)
    have e : fr B g (j + 1) = (fr B g j && (tb g (B (2 * j)) == decide (B (2 * j + 1) = 1))) := rfl
    have b1 : nI (B (2 * j + 1)) = 1 ↔ B (2 * j + 1) = 1 := nI_eq (a := B (2 * j + 1)) (b := 1) (by omega) (by decide)
    refine ⟨fun q => st false ?_ _ rfl, fun q => ⟨va, vb, fun q2 => ⟨vc, fun q3 => st true ?_ _ rfl, fun q3 => st false ?_ _ rfl⟩, fun q2 => ⟨vc, fun q3 => st false ?_ _ rfl, fun q3 => st true ?_ _ rfl⟩⟩⟩
    · have : fr B g j = false := by
        cases z : fr B g j
        · rfl
        · rw [hx, z] at q; exact absurd q (by decide)
      rw [e, this]; rfl
    all_goals
      have f : fr B g j = true := by
        cases z : fr B g j
        · rw [hx, z] at q; exact absurd rfl q
        · rfl
      rw [b1] at q3
      rw [t1] at q2
      rw [e, f, Bool.true_and]
    · rw [decide_eq_false q3]
      cases z : tb g (B (2 * j))
      · rfl
      · exact absurd z q2
    · rw [decide_eq_true q3]
      cases z : tb g (B (2 * j))
      · rfl
      · exact absurd z q2
    · rw [decide_eq_false q3, q2]; rfl
    · rw [decide_eq_true q3, q2]; rfl
