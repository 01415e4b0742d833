theorem s_byLaw {d n kd s : Nat} {a1 a2 : Int32} {u : zM} {Q : Option Value → zM → Prop} (e1 : a1 = nI kd) (e2 : a2 = nI s) (hk : kd ≤ 2) (hs : s < 8) (hR : zRg (u 129) n) (hwf : lwWf (u 129))
    (h : ∀ w : zM, (∀ c, c ≠ 137 → w c = u c) → Q (some (.int (lwBy (u 129) kd s))) w) : zCall (d + 6) false 235 [.ref 128, .int a1, .int a2] u Q := by
  subst e1; subst e2
  have main : zRun (d + 5) false zcX12_byLaw 1 Q 34 [(0, .ref 128), (1, .int (nI kd)), (2, .int (nI s)), (3, .int (lwBase (u 129) kd)), (4, .int 0)] [] u := by
    by_cases h2 : u 129 2 = 1
    · obtain ⟨L, S, hok⟩ := hwf h2
      have hL := hok.1
      have h4 := hok.2.2.1
      refine zFor (σ := zM) (Pr := fun j w => zRun (d + 5) false zcX12_byLaw 1 Q 34 [(0, .ref 128), (1, .int (nI kd)), (2, .int (nI s)), (3, .int (lwSum (u 129) kd s (lwBase (u 129) kd) j)), (4, .int (nI j))] [] w) (fun j w => ∀ c, c ≠ 137 → w c = u c) L (fun w hw => ?_) (fun j w hj hw ih => ?_) u (fun _ _ => rfl)
      · refine tX12_byLaw_34 ?_
        rw [hw 129 (by decide), h2, h4]
        refine ⟨fun q => absurd rfl q, fun _ => ⟨fun _ => ?_, fun q => absurd (Int32.le_refl _) q⟩⟩
        have e : lwBy (u 129) kd s = lwSum (u 129) kd s (lwBase (u 129) kd) L := by
          unfold lwBy
          rw [if_pos h2, h4, nI_clamp (by omega)]
        have h3 := h w hw
        rw [e] at h3
        exact h3
      · have w9 := hw 129 (by decide)
        obtain ⟨⟨p1, p2⟩, ⟨p3, p4⟩, -⟩ := hok.2.2.2.2 j hj
        have k0 : (476 + (4 * nI j)) = nI (476 + 4 * j) := by rw [nI_lit, nI_lit, nI_mul, nI_add]
        have k1 : nI (476 + 4 * j) + 1 = nI (476 + 4 * j + 1) := by rw [nI_1]
        have no : ¬ (lwK (u 129) j = kd ∧ lwHold (lwF (u 129) s) (lwC (u 129)) (lwV (u 129)) (lwB (u 129) j) (lwE (u 129) j) = true) → lwSum (u 129) kd s (lwBase (u 129) kd) (j + 1) = lwSum (u 129) kd s (lwBase (u 129) kd) j := fun q => by
          conv => lhs; unfold lwSum
          rw [if_neg q]
        refine tX12_byLaw_34 ?_
        rw [w9, h2, h4, k0, k1, nI_clamp (n := 476 + 4 * j) (by omega), nI_clamp (n := 476 + 4 * j + 1) (by omega), p1, nI_1 j]
        refine ⟨fun q => absurd rfl q, fun _ => br_f (by rw [nI_leI (by omega) (by omega)]; omega) ⟨vp_in_nI (by omega) (by decide), fun q => ?_, fun q => ?_⟩⟩
        · rw [nI_eq (by omega) (by omega)] at q
          have h5 := ih w hw
          rw [no (fun z => q z.1)] at h5
          exact h5
        · rw [nI_eq (by omega) (by omega)] at q
          refine s_holdsLine (n := n) (l := j) (L := L) (S := S) rfl rfl (by rw [w9]; exact hR) hs (by rw [w9]; exact hok) hj (fun w2 g => ⟨_, rfl, ?_⟩)
          have g2 : ∀ c, c ≠ 137 → w2 c = u c := fun c hc => (g c hc).trans (hw c hc)
          dsimp only
          rw [w9, g2 129 (by decide), p3]
          have h5 := ih w2 g2
          refine ⟨fun z => ?_, fun z => ⟨vp_in_nI (by omega) (by decide), ?_⟩⟩
          · rw [no (fun y => by rw [if_pos y.2] at z; exact absurd z (by decide))] at h5
            exact h5
          · have yes : lwSum (u 129) kd s (lwBase (u 129) kd) (j + 1) = lwSum (u 129) kd s (lwBase (u 129) kd) j + nI (lwA (u 129) j) := by
              conv => lhs; unfold lwSum
              rw [if_pos ⟨q, Decidable.byContradiction (fun y => by rw [if_neg y] at z; exact absurd rfl z)⟩]
            rw [yes] at h5
            exact h5
    · refine tX12_byLaw_34 ⟨fun _ => ?_, fun q => absurd q h2⟩
      have e : lwBy (u 129) kd s = lwBase (u 129) kd := by
        unfold lwBy
        rw [if_neg h2]
      have h3 := h u (fun _ _ => rfl)
      rw [e] at h3
      exact h3
  refine tX12_byLaw ⟨fun q => ⟨fun q2 => ?_, fun q2 => ?_⟩, fun q => ?_⟩
  · have e : lwBase (u 129) kd = 0 := by
      unfold lwBase
      rw [if_neg (fun z => q (by rw [z]; rfl)), if_neg (fun z => q2 (by rw [z]; rfl))]
    rw [e] at main
    exact main
  · have hk1 : kd = 1 := (nI_eq (a := kd) (b := 1) (by omega) (by omega)).mp q2
    subst hk1
    exact main
  · have hk1 : kd = 0 := (nI_eq (a := kd) (b := 0) (by omega) (by omega)).mp q
    subst hk1
    exact main
theorem s_weigh {d n k0 k3 kd s : Nat} {W : Nat → Int32} {a1 a3 : Int32} {u : zM} {Q : Option Value → zM → Prop} (hk : zShapes[k0]? = some (.inl 2)) (hk3 : zShapes[k3]? = some (.inl 1)) (hkk : k3 + 1 < k0) (e1 : a1 = nI (kd + 9)) (e3 : a3 = nI s) (hkd : kd ≤ 2) (hs : s < 8) (hR : zRg W n)
    (hrel : lwRel u k0 W) (h7 : u k3 8 = W 7) (h8 : u k3 9 = W 8) (hday : u k3 10 = W 3) (hval : ∀ w, w < 9 → u (k3 + 1) (w * 8 + s) = W (163 + 9 * s + w))
    (h : ∀ w : zM, (∀ c, c ≠ k0 → c ≠ k0 + 6 → w c = u c) → (∀ j, j ≠ 8 → w k0 j = u k0 j) → Q (some (.int (lwBy W kd s))) w) : zCall (d + 4) false 32 [.ref k0, .int a1, .ref k3, .int a3] u Q := by
  subst e1; subst e3
  have main : zRun (d + 3) false zcX2_weigh 1 Q 32 [(0, .ref k0), (1, .int (nI (kd + 9))), (2, .ref k3), (3, .int (nI s)), (4, .int (lwBase W kd)), (5, .int 0)] [] u := by
    by_cases h2 : W 2 = 1
    · obtain ⟨L, S, hok, r6, rc, rl⟩ := hrel.2 h2
      have hL := hok.1
      have h4 := hok.2.2.1
      refine zFor (σ := zM) (Pr := fun j w => zRun (d + 3) false zcX2_weigh 1 Q 32 [(0, .ref k0), (1, .int (nI (kd + 9))), (2, .ref k3), (3, .int (nI s)), (4, .int (lwSum W kd s (lwBase W kd) j)), (5, .int (nI j))] [] w) (fun j w => (∀ c, c ≠ k0 → c ≠ k0 + 6 → w c = u c) ∧ (∀ j, j ≠ 8 → w k0 j = u k0 j)) L (fun w hw => ?_) (fun j w hj hw ih => ?_) u ⟨fun _ _ _ => rfl, fun _ _ => rfl⟩
      · refine tX2_weigh_32 hk hk3 ?_
        rw [hw.2 6 (by decide), r6]
        refine br_t (Int32.le_refl _) ?_
        have e : lwBy W kd s = lwSum W kd s (lwBase W kd) L := by
          unfold lwBy
          rw [if_pos h2, h4, nI_clamp (by omega)]
        have h3 := h w hw.1 hw.2
        rw [e] at h3
        exact h3
      · obtain ⟨g1, g2⟩ := hw
        obtain ⟨⟨p1, p2⟩, ⟨p3, p4⟩, p5, p6, p7, p8, p9⟩ := hok.2.2.2.2 j hj
        obtain ⟨r1, r2, r3, r4⟩ := rl j hj
        have no : ¬ (lwK W j = kd ∧ lwHold (lwF W s) (lwC W) (lwV W) (lwB W j) (lwE W j) = true) → lwSum W kd s (lwBase W kd) (j + 1) = lwSum W kd s (lwBase W kd) j := fun q => by
          conv => lhs; unfold lwSum
          rw [if_neg q]
        have hS := hok.2.1
        refine tX2_weigh_32 hk hk3 ?_
        rw [g2 6 (by decide), r6, nI_clamp (n := j) (by omega), g1 (k0 + 1) (by omega) (by omega), g1 (k0 + 3) (by omega) (by omega), g1 (k0 + 4) (by omega) (by omega), r1, r3, r4, nI_1 j]
        refine br_f (by rw [nI_leI (by omega) (by omega)]; omega) (br_f (by rw [nI_lit, nI_leI (by omega) (by omega)]; omega) ⟨vp_in_nI (by omega) (by decide), fun q => ?_, fun q => ⟨vp_in_nI (by omega) (by decide), vp_in_nI (by omega) (by decide), ?_⟩⟩)
        · rw [nI_eq (by omega) (by omega)] at q
          have h5 := ih w ⟨g1, g2⟩
          rw [no (fun z => q (by omega))] at h5
          exact h5
        · rw [nI_eq (by omega) (by omega)] at q
          refine s_applies (n := n) (b := lwB W j) (e := lwE W j) (S := S) (W := W) hk hk3 hkk rfl rfl rfl hs hR hS (fun i hi => ⟨(hok.2.2.2.1 i hi).2.1, by rw [g1 (k0 + 5) (by omega) (by omega)]; exact rc i hi, (hok.2.2.2.1 i hi).2.2.2⟩) p7 p8 p9 (by rw [g1 k3 (by omega) (by omega)]; exact hday) (fun x hx => by rw [g1 (k3 + 1) (by omega) (by omega)]; exact hval x hx) (fun w2 f1 f2 => ⟨_, rfl, ?_⟩)
          have f3 : ∀ c, c ≠ k0 → c ≠ k0 + 6 → w2 c = u c := fun c c1 c2 => (f1 c c1 c2).trans (g1 c c1 c2)
          have f4 : ∀ j, j ≠ 8 → w2 k0 j = u k0 j := fun j c1 => (f2 j c1).trans (g2 j c1)
          dsimp only
          rw [f3 (k0 + 2) (by omega) (by omega), r2]
          have h5 := ih w2 ⟨f3, f4⟩
          refine ⟨fun z => ?_, fun z => ⟨vp_in_nI (by omega) (by decide), ?_⟩⟩
          · rw [no (fun y => by rw [if_pos y.2] at z; exact absurd z (by decide))] at h5
            exact h5
          · have yes : lwSum W kd s (lwBase W kd) (j + 1) = lwSum W kd s (lwBase W kd) j + nI (lwA W j) := by
              conv => lhs; unfold lwSum
              rw [if_pos ⟨by omega, Decidable.byContradiction (fun y => by rw [if_neg y] at z; exact absurd rfl z)⟩]
            rw [yes] at h5
            exact h5
    · refine tX2_weigh_32 hk hk3 ?_
      rw [hrel.1 h2]
      refine br_t (by decide) ?_
      have e : lwBy W kd s = lwBase W kd := by
        unfold lwBy
        rw [if_neg h2]
      have h3 := h u (fun _ _ _ => rfl) (fun _ _ => rfl)
      rw [e] at h3
      exact h3
  refine tX2_weigh hk hk3 ⟨fun q => ⟨fun q2 => ?_, fun q2 => ?_⟩, fun q => ?_⟩
  · have e : lwBase W kd = 0 := by
      unfold lwBase
      rw [if_neg (fun z => q (by rw [z]; rfl)), if_neg (fun z => q2 (by rw [z]; rfl))]
    rw [e] at main
    exact main
  · have hk1 : kd + 9 = 10 := (nI_eq (a := kd + 9) (b := 10) (by omega) (by omega)).mp q2
    obtain rfl : kd = 1 := by omega
    rw [h8]
    exact main
  · have hk1 : kd + 9 = 9 := (nI_eq (a := kd + 9) (b := 9) (by omega) (by omega)).mp q
    obtain rfl : kd = 0 := by omega
    rw [h7]
    exact main
