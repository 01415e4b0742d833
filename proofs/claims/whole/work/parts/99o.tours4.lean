def ptV (W : Nat → Int32) (n : Nat) : Nat → Nat × Nat
  | 0 => (2 ^ n - 1, 8)
  | k + 1 => ((ptV W n k).1 - 2 ^ ffV (pDv W n (ptV W n k).1 (cnO W (ptV W n k).2)) n 0, ffV (pDv W n (ptV W n k).1 (cnO W (ptV W n k).2)) n 0)
def PIv (W : Nat → Int32) (n k : Nat) : Prop := (ptV W n k).1 < 2 ^ n ∧ pc8 (ptV W n k).1 = n - k ∧ (((ptV W n k).2 < n ∧ (ptV W n k).1.testBit (ptV W n k).2 = false) ∨ (ptV W n k).2 = 8) ∧ trDv W n (ptV W n k).1 (cnO W (ptV W n k).2) < 1000
theorem pt_ex {W : Nat → Int32} {n k : Nat} (hk : k < n) (h : PIv W n k) : pDv W n (ptV W n k).1 (cnO W (ptV W n k).2) (ffV (pDv W n (ptV W n k).1 (cnO W (ptV W n k).2)) n 0) = true ∧ ffV (pDv W n (ptV W n k).1 (cnO W (ptV W n k).2)) n 0 < n := by
  obtain ⟨h1, h2, h3, h4⟩ := h
  have ne : (ptV W n k).1 ≠ 0 := fun z => by
    rw [z] at h2
    have : pc8 0 = 0 := by decide
    omega
  unfold trDv at h4
  rw [trR_s ne] at h4
  obtain ⟨s, s1, s2, s3⟩ := trMin_at n h4
  have s3 := s3.trans (trR_s (F := fun a b => min 1000 (zFar W a b)) (cn := cnN W) (C := 1000) (n := n) (c := cnO W (ptV W n k).2) ne).symm
  have := ff_spec (p := pDv W n (ptV W n k).1 (cnO W (ptV W n k).2)) n 0 ⟨s, Nat.zero_le _, by omega, by
    unfold pDv trDv
    rw [Bool.and_eq_true_iff]
    exact ⟨s2, decide_eq_true s3⟩⟩
  exact ⟨this.1, by omega⟩
theorem pt_step {W : Nat → Int32} {n k : Nat} (h8 : n ≤ 8) (hk : k < n) (h : PIv W n k) : PIv W n (k + 1) := by
  obtain ⟨e1, e2⟩ := pt_ex hk h
  obtain ⟨h1, h2, h3, h4⟩ := h
  have p2 := p2_le h8
  obtain ⟨s, es⟩ : ∃ s, s = ffV (pDv W n (ptV W n k).1 (cnO W (ptV W n k).2)) n 0 := ⟨_, rfl⟩
  have l : ptV W n (k + 1) = ((ptV W n k).1 - 2 ^ s, s) := by rw [es]; rfl
  rw [← es] at e1 e2
  obtain ⟨b1, b2⟩ := Bool.and_eq_true_iff.mp e1
  have b2 := of_decide_eq_true b2
  have lt := bit_lt b1
  have r := pc8_rm _ (by omega) s (by omega) b1
  unfold PIv
  rw [l]
  refine ⟨by dsimp only; omega, by dsimp only; omega, Or.inl ⟨e2, bit_off _ (by omega) s (by omega) b1⟩, ?_⟩
  dsimp only
  have ce : cnO W s = cnN W s := if_neg (by omega)
  rw [ce]
  omega
theorem pt_ok {W : Nat → Int32} {n : Nat} (h8 : n ≤ 8) (h : trDv W n (2 ^ n - 1) 0 < 1000) : ∀ k, k ≤ n → PIv W n k
  | 0, _ => ⟨by have := Nat.two_pow_pos n; show 2 ^ n - 1 < 2 ^ n; omega, pc8_all n h8, Or.inr rfl, h⟩
  | k + 1, hk => pt_step h8 (by omega) (pt_ok h8 h k (by omega))
theorem s_stepOfFirst {d n : Nat} {a2 res : Int32} {W : Nat → Int32} {u : zM} {Q : Option Value → zM → Prop} (hU : zTu u W n) (hT : zTb u W n (2 ^ n)) (hD : trDv W n (2 ^ n - 1) 0 < 1000) (r1 : ∀ k, k < n → a2 = nI k → res = nI (ptV W n (k + 1)).2) (r2 : (∀ k, k < n → ¬ a2 = nI k) → res = -1)
    (h : Q (some (.int res)) u) : zCall (d + 5) false 101 [.ref 121, .ref 3, .int a2] u Q := by
  have hu := hU.2.1
  have h8 := hU.1.1.1
  have p2 := p2_le h8
  refine tX9_stepOfFirst (k0 := 121) (k1 := 3) rfl rfl ?_
  rw [show (3 + 1 : Nat) = 4 from rfl, hu, sl_m n h8]
  have go : ∀ r k, k + r = n → (∀ j, j < k → ¬ a2 = nI j) → zRun (d + 4) false zcX9_stepOfFirst 1 Q 19 [(0, .ref 121), (1, .ref 3), (2, .int a2), (3, .int (nI (ptV W n k).1)), (4, .int (nI (ptV W n k).2)), (5, .int (nI k))] [] u := by
    intro r
    induction r with
    | zero =>
      intro k hk hn
      refine tX9_stepOfFirst_19 (k0 := 121) (k1 := 3) rfl rfl (br_t (by rw [show (3 + 1 : Nat) = 4 from rfl, hu, nI_leI (by omega) (by omega)]; omega) ?_)
      rw [r2 (fun j hj => hn j (by omega))] at h
      exact h
    | succ r ih =>
      intro k hk hn
      have P := pt_ok h8 hD k (by omega)
      obtain ⟨e1, e2⟩ := pt_ex (by omega) P
      have b1 := (Bool.and_eq_true_iff.mp e1).1
      refine tX9_stepOfFirst_19 (k0 := 121) (k1 := 3) rfl rfl (br_f (by rw [show (3 + 1 : Nat) = 4 from rfl, hu, nI_leI (by omega) (by omega)]; omega) ?_)
      refine s_firstStep (W := W) hU hT P.1 P.2.2.1 ⟨_, rfl, ?_⟩
      have l : ptV W n (k + 1) = ((ptV W n k).1 - 2 ^ ffV (pDv W n (ptV W n k).1 (cnO W (ptV W n k).2)) n 0, ffV (pDv W n (ptV W n k).1 (cnO W (ptV W n k).2)) n 0) := rfl
      have P1 := P.1
      dsimp only
      rw [bit_rm _ (by omega) _ (by omega) b1, nI_1 k]
      refine ⟨fun q => ?_, fun q => ?_⟩
      · have := ih (k + 1) (by omega) (fun j hj => by
          by_cases z : j = k
          · subst z; exact fun y => q y.symm
          · exact hn j (by omega))
        rw [l] at this
        exact this
      · rw [r1 k (by omega) q.symm, l] at h
        exact h
  exact go n 0 (by omega) (fun j hj => absurd hj (Nat.not_lt_zero _))
/-! the reference's table -/
def zRu (u : zM) (W : Nat → Int32) (n : Nat) : Prop := zRg W n ∧ u 129 = W ∧ ∀ a b, a < 12 → b < 12 → u 134 (12 * a + b) = nI (zFar W a b)
def zTe (u : zM) (W : Nat → Int32) (n k : Nat) : Prop := ∀ set start, set < k → (start < n ∨ start = 8) → u 138 (start * 256 + set) = nI (trRf W n set (cnO W start))
theorem trRf_le {W : Nat → Int32} {n set c : Nat} (hR : zRg W n) : trRf W n set c ≤ 1000000 := by
  unfold trRf
  by_cases q : set = 0
  · subst q
    rw [trR_0]
    exact zFar_le hR _ _
  · rw [trR_s q]; exact trMin_le _
theorem s_restBy {d n set fm to D : Nat} {W : Nat → Int32} {u : zM} {Q : Option Value → zM → Prop} (hU : zRu u W n) (h2 : set < 256) (hf : fm < 9) (hs : to < 8) (hb : set.testBit to = true) (ht : u 138 (to * 256 + (set - 2 ^ to)) = nI D)
    (h : Q (some (.int (nI (zFar W (cnO W fm) (cnN W to) + D)))) u) : zCall (d + 5) false 276 [.ref 128, .int (nI set), .int (nI fm), .int (nI to)] u Q := by
  obtain ⟨hR, h9, hF⟩ := hU
  have lt := cnN_lt W to
  have lf := cnN_lt W fm
  have l2 := bit_lt hb
  have a1 : (163 + (9 * nI to)) + 0 = nI (163 + 9 * to + 0) := ix_w to 0
  have w1 : u 129 (163 + 9 * to + 0) = nI (cnN W to) := by rw [h9]; exact cnN_eq hR hs
  have e2 : nI (to * 256) + nI (set - 2 ^ to) = nI (to * 256 + (set - 2 ^ to)) := by rw [nI_add]
  have v1 : vp_in (nI (163 + 9 * to + 0)) 2173 := ix_v hs (by decide)
  have v2 : vp_in (nI (to * 256 + (set - 2 ^ to))) 2304 := vp_in_nI (by omega) (by decide)
  refine tX12_restBy ?_
  rw [a1, ix_c (s := to) (w := 0) hs (by decide), w1, bit_rm set h2 to hs hb, sl_8 to (by omega), e2, nI_clamp (n := to * 256 + (set - 2 ^ to)) (by omega), ht]
  by_cases q8 : fm = 8
  · have e8 : cnO W fm = 0 := if_pos q8
    rw [e8] at h
    subst q8
    have c1 : (12 * nI (cnN W to)) + 0 = nI (12 * cnN W to + 0) := by rw [Int32.add_zero, nI_lit, nI_mul]; rfl
    have sy : zFar W 0 (cnN W to) = zFar W (cnN W to) 0 := fw_sym _ (zRd_sym hR) _ _ _
    rw [c1, nI_clamp (n := 12 * cnN W to + 0) (by omega), hF (cnN W to) 0 lt (by decide), nI_add]
    rw [sy] at h
    exact ⟨fun z => absurd rfl z, fun _ => ⟨v1, vp_in_nI (by omega) (by decide), v2, h⟩⟩
  · have e8 : cnO W fm = cnN W fm := if_neg q8
    rw [e8] at h
    have a2 : (163 + (9 * nI fm)) + 0 = nI (163 + 9 * fm + 0) := ix_w fm 0
    have w2 : u 129 (163 + 9 * fm + 0) = nI (cnN W fm) := by rw [h9]; exact cnN_eq hR (by omega)
    have c1 : (12 * nI (cnN W fm)) + nI (cnN W to) = nI (12 * cnN W fm + cnN W to) := by rw [nI_lit, nI_mul, nI_add]
    rw [a2, ix_c (s := fm) (w := 0) (by omega) (by decide), w2, c1, nI_clamp (n := 12 * cnN W fm + cnN W to) (by omega), hF _ _ lf lt, nI_add]
    exact ⟨fun _ => ⟨ix_v (by omega) (by decide), v1, vp_in_nI (by omega) (by decide), v2, h⟩, fun z => absurd z (nI_ne (a := fm) (b := 8) (by omega) (by decide) q8)⟩
theorem s_laysRest {d n : Nat} {W : Nat → Int32} {u : zM} {Q : Option Value → zM → Prop} (hU : zRu u W n) (h : ∀ w, (∀ c, c ≠ 138 → w c = u c) → zTe w W n (2 ^ n) → Q none w) : zCall (d + 6) false 277 [.ref 128] u Q := by
  obtain ⟨hR, h9, hF⟩ := hU
  have h8 := hR.1.1
  have p2 := p2_le h8
  have pp := Nat.two_pow_pos n
  refine t2X12_laysRest ?_
  refine zFor (σ := zM) (Pr := fun i m => zRun (d + 5) false zcX12_laysRest 0 Q 2 [(0, .ref 128), (1, .int (nI i))] [] m) (fun i m => (∀ c, c ≠ 138 → m c = u c) ∧ zTe m W n i) (2 ^ n) (fun m hm => ?_) (fun set m hset hm ih => ?_) u ⟨fun _ _ => rfl, fun set start hh _ => absurd hh (Nat.not_lt_zero _)⟩
  · have m9 : m 129 0 = nI n := by rw [hm.1 129 (by decide), h9]; exact hR.1.2
    refine t2X12_laysRest_2 (br_t ?_ (h m hm.1 hm.2))
    rw [m9, sl_m n h8, nI_ltI (by omega) (by omega)]
    omega
  · obtain ⟨f, T⟩ := hm
    have h256 : set < 256 := by omega
    have m9 : m 129 0 = nI n := by rw [f 129 (by decide), h9]; exact hR.1.2
    refine t2X12_laysRest_2 (br_f ?_ ?_)
    · rw [m9, sl_m n h8, nI_ltI (by omega) (by omega)]
      omega
    refine zFor (σ := zM) (Pr := fun s m => zRun (d + 5) false zcX12_laysRest 0 Q 12 [(0, .ref 128), (1, .int (nI set)), (2, .int (nI s))] [] m) (fun s m => (∀ c, c ≠ 138 → m c = u c) ∧ zTe m W n set ∧ ∀ start, start < s → (start < n ∨ start = 8) → m 138 (start * 256 + set) = nI (trRf W n set (cnO W start))) 9 (fun m hm => ?_) (fun s m hs hm ih2 => ?_) m ⟨f, T, fun start hh _ => absurd hh (Nat.not_lt_zero _)⟩
    · obtain ⟨f, T, R⟩ := hm
      refine t2X12_laysRest_12 (br_t (by decide) ?_)
      rw [nI_1 set]
      refine ih m ⟨f, fun st start a b => ?_⟩
      by_cases z : st = set
      · subst z; exact R start (by omega) b
      · exact T st start (by omega) b
    · obtain ⟨f, T, R⟩ := hm
      have m9 : m 129 = W := by rw [f 129 (by decide), h9]
      have m0 : m 129 0 = nI n := by rw [m9]; exact hR.1.2
      have hU2 : zRu m W n := ⟨hR, m9, by rw [f 134 (by decide)]; exact hF⟩
      have c12 := cnO_lt W s
      have e2 : nI s <<< ((8 : Int32) &&& 31) + nI set = nI (s * 256 + set) := by rw [sl_8 s hs, nI_add]
      have inner : ∀ x0 : Int32, ((s < n ∨ s = 8) → x0 = nI (if set = 0 then zFar W (cnO W s) 0 else 1000000)) → zRun (d + 5) false zcX12_laysRest 0 Q 59 [(0, .ref 128), (1, .int (nI set)), (2, .int (nI s)), (3, .int x0), (4, .int 0)] [] m := by
        intro x0 hx0
        refine zFor (σ := Int32) (Pr := fun i x => zRun (d + 5) false zcX12_laysRest 0 Q 59 [(0, .ref 128), (1, .int (nI set)), (2, .int (nI s)), (3, .int x), (4, .int (nI i))] [] m) (fun i x => (s < n ∨ s = 8) → x = nI (if set = 0 then zFar W (cnO W s) 0 else trMin 1000000 (fun t => set.testBit t) (fun t => zFar W (cnO W s) (cnN W t) + trRf W n (set - 2 ^ t) (cnN W t)) i)) n (fun x hx => ?_) (fun i x hi hx ih3 => ?_) x0 hx0
        · refine t2X12_laysRest_59 (br_t (by rw [m0]; exact Int32.le_refl _) ?_)
          rw [e2, nI_clamp (n := s * 256 + set) (by omega), nI_1 s]
          refine ⟨vp_in_nI (by omega) (by decide), ih2 _ ⟨fun c a => (zUp_k _ _ a).trans (f c a), fun st start a b => ?_, fun start a b => ?_⟩⟩
          · rw [zUp_j _ _ (by omega)]; exact T st start a b
          · by_cases z : start = s
            · subst z
              rw [zUp_at, hx b]
              congr 1
              unfold trRf
              by_cases q : set = 0
              · rw [if_pos q, q, trR_0]
              · rw [if_neg q, trR_s q]
            · rw [zUp_j _ _ (by omega)]; exact R start (by omega) b
        · have bt := bit_at set h256 i (by omega)
          refine t2X12_laysRest_59 (br_f (by rw [m0, nI_leI (by omega) (by omega)]; omega) ?_)
          rw [bt, nI_1 i, m0]
          have l : ∀ g : Nat → Nat, trMin 1000000 (fun t => set.testBit t) g (i + 1) = if set.testBit i = true then min (trMin 1000000 (fun t => set.testBit t) g i) (g i) else trMin 1000000 (fun t => set.testBit t) g i := fun _ => rfl
          cases b : set.testBit i
          · refine ⟨fun _ => ih3 x (fun v => ?_), fun z => absurd z (by decide)⟩
            rw [hx v, l, b]
            rfl
          · refine ⟨fun z => absurd rfl z, fun _ => ?_⟩
            have lt := bit_lt b
            have set0 : set ≠ 0 := by omega
            have en := T (set - 2 ^ i) i lt (Or.inl hi)
            have ce : cnO W i = cnN W i := if_neg (by omega)
            rw [ce] at en
            have rl := trRf_le (n := n) (set := set - 2 ^ i) (c := cnN W i) hR
            have fl := zFar_le hR (cnO W s) (cnN W i)
            have by_ : (s < n ∨ s = 8) → zCI (d + 5) 276 [.ref 128, .int (nI set), .int (nI s), .int (nI i)] m fun x2 w1 => zRun (d + 5) false zcX12_laysRest 0 Q 59 [(0, .ref 128), (1, .int (nI set)), (2, .int (nI s)), (3, .int (if x2 < x then x2 else x)), (4, .int (nI (i + 1)))] [] w1 := fun v => by
              refine s_restBy (D := trRf W n (set - 2 ^ i) (cnN W i)) hU2 h256 hs (by omega) b en ⟨_, rfl, ih3 _ (fun _ => ?_)⟩
              have e := hx v
              rw [if_neg set0] at e
              have ml := trMin_le (C := 1000000) (p := fun t => set.testBit t) (f := fun t => zFar W (cnO W s) (cnN W t) + trRf W n (set - 2 ^ t) (cnN W t)) i
              rw [if_neg set0, l, if_pos b, e]
              by_cases z : zFar W (cnO W s) (cnN W i) + trRf W n (set - 2 ^ i) (cnN W i) < trMin 1000000 (fun t => set.testBit t) (fun t => zFar W (cnO W s) (cnN W t) + trRf W n (set - 2 ^ t) (cnN W t)) i
              · rw [if_pos (by rw [nI_ltI (by omega) (by omega)]; exact z)]; congr 1; omega
              · rw [if_neg (by rw [nI_ltI (by omega) (by omega)]; exact z)]; congr 1; omega
            refine ⟨fun q => by_ (Or.inr ((nI_eq (a := s) (b := 8) (by omega) (by decide)).mp q)), fun q => ⟨fun q2 => ih3 x (fun v => ?_), fun q2 => by_ (Or.inl ?_)⟩⟩
            · rw [nI_leI (by omega) (by omega)] at q2
              rcases v with v | v
              · exact absurd v (by omega)
              · exact absurd (by rw [v]; rfl) q
            · rw [nI_leI (by omega) (by omega)] at q2
              omega
      refine t2X12_laysRest_12 (br_f (by rw [nI_lit, nI_ltI (by omega) (by omega)]; omega) ?_)
      rw [m0]
      refine ⟨fun q => ⟨fun q2 => ⟨fun q3 => inner _ (fun v => ?_), fun q3 => inner _ (fun v => ?_)⟩, fun q2 => ?_⟩, fun q => inner _ (fun v => ?_)⟩
      · rw [nI_leI (by omega) (by omega)] at q2
        rcases v with v | v
        · exact absurd v (by omega)
        · exact absurd (by rw [v]; rfl) q3
      · rw [nI_lit, nI_leI (by omega) (by omega)] at q
        have s8 : s = 8 := (nI_eq (a := s) (b := 8) (by omega) (by decide)).mp q3
        have e8 : cnO W s = 0 := if_pos s8
        have z0 : zFar W 0 0 = 0 := fw_diag _ _ _
        rw [if_pos (by omega), e8, z0]
        rfl
      · rw [nI_lit, nI_leI (by omega) (by omega)] at q
        rw [nI_leI (by omega) (by omega)] at q2
        have a1 : (163 + (9 * nI s)) + 0 = nI (163 + 9 * s + 0) := ix_w s 0
        have w1 : m 129 (163 + 9 * s + 0) = nI (cnN W s) := by rw [m9]; exact cnN_eq hR (by omega)
        have lt := cnN_lt W s
        have c1 : (12 * nI (cnN W s)) + 0 = nI (12 * cnN W s + 0) := by rw [Int32.add_zero, nI_lit, nI_mul]; rfl
        rw [a1, ix_c (s := s) (w := 0) (by omega) (by decide), w1, c1, nI_clamp (n := 12 * cnN W s + 0) (by omega), hU2.2.2 (cnN W s) 0 lt (by decide)]
        refine ⟨ix_v (by omega) (by decide), vp_in_nI (by omega) (by decide), inner _ (fun v => ?_)⟩
        have e8 : cnO W s = cnN W s := if_neg (by omega)
        rw [if_pos (by omega), e8]
      · rw [nI_lit, nI_leI (by omega) (by omega)] at q
        rw [if_neg (by omega)]
        rfl
