/-! step: the share, the outer ones, the place -/
def shV (W : Nat → Int32) (n s : Nat) : Int32 := if zsm (fun t => W (163 + 9 * t + 2)) n = 0 then 0 else 100 * W (163 + 9 * s + 2) / zsm (fun t => W (163 + 9 * t + 2)) n
theorem sh_nat {W : Nat → Int32} {n : Nat} (hR : zRg W n) : ∃ c, c ≤ 9999 * 8 ∧ zsm (fun t => W (163 + 9 * t + 2)) n = nI c := by
  have h8 := hR.1.1
  obtain ⟨c, hc, ec⟩ := zsm_nat (f := fun t => W (163 + 9 * t + 2)) (B := 9999) n (fun t ht => hR.2.2.2.2.2.2.2.2.2.2.2.2.2.2.1 t 2 (by omega) (by decide) (by decide))
  have : 9999 * n ≤ 9999 * 8 := Nat.mul_le_mul_left _ h8
  exact ⟨c, by omega, ec⟩
theorem s_share {d n s : Nat} {W : Nat → Int32} {u : zM} {Q : Option Value → zM → Prop} (hR : zRg W n) (hu : u 4 3 = nI n) (hV : ∀ t w, t < 8 → w < 9 → u 5 (w * 8 + t) = W (163 + 9 * t + w)) (hs : s < 8) (h : Q (some (.int (shV W n s))) u) : zCall (d + 3) false 173 [.ref 0, .int (nI s)] u Q := by
  have h8 := hR.1.1
  obtain ⟨c, hc, ec⟩ := sh_nat hR
  have c2 : ((2 : Int32) * 8) + nI s = nI (2 * 8 + s) := dv_ix 2 s
  refine tX11_shareOf ?_
  refine s_sum (w := 2) rfl rfl (by decide) hu h8 ⟨_, rfl, ?_⟩
  dsimp only
  rw [zsm_congr (q := fun t => W (163 + 9 * t + 2)) n (fun t ht => hV t 2 (by omega) (by decide)), c2, nI_clamp (n := 2 * 8 + s) (by omega), hV s 2 hs (by decide)]
  unfold shV at h
  rw [ec] at h ⊢
  by_cases q : c = 0
  · subst q
    rw [if_pos (show nI 0 = 0 from rfl)] at h
    exact br_t (by decide) h
  · have ne : ¬ nI c = 0 := nI_ne (a := c) (b := 0) (by omega) (by decide) q
    rw [if_neg ne, Int32.mul_comm] at h
    exact br_f (by rw [nI_lit, nI_leI (by omega) (by omega)]; omega) ⟨vp_in_nI (by omega) (by decide), ne, h⟩
theorem s_shareOf {d n s : Nat} {u : zM} {Q : Option Value → zM → Prop} (hR : zRg (u 129) n) (hs : s < 8) (h : Q (some (.int (shV (u 129) n s))) u) : zCall (d + 4) false 237 [.ref 128, .int (nI s)] u Q := by
  have h8 := hR.1.1
  have c2 : (163 + (9 * nI s)) + 2 = nI (163 + 9 * s + 2) := ix_w s 2
  refine tX12_shareOf ?_
  refine s_sumOf (w := 2) rfl (by decide) hR.1.2 h8 ⟨_, rfl, ?_⟩
  dsimp only
  rw [c2, ix_c (s := s) (w := 2) hs (by decide)]
  unfold shV at h
  refine ⟨fun q => ⟨ix_v hs (by decide), q, by rw [if_neg q] at h; exact h⟩, fun q => by rw [if_pos q] at h; exact h⟩
def ouP (W : Nat → Int32) (s t : Nat) : Bool := decide (zFar W (cnN W s) 0 < zFar W (cnN W t) 0 ∧ zFar W (cnN W t) 0 < 1000)
theorem zct_t {p : Nat → Bool} {i : Nat} (q : p i = true) : zct p (i + 1) = zct p i + 1 := by
  show zct p i + (if p i = true then 1 else 0) = _
  rw [if_pos q]
theorem zct_f {p : Nat → Bool} {i : Nat} (q : ¬ p i = true) : zct p (i + 1) = zct p i := by
  show zct p i + (if p i = true then 1 else 0) = _
  rw [if_neg q]; rfl
theorem s_outer {d n s : Nat} {W : Nat → Int32} {u : zM} {Q : Option Value → zM → Prop} (hR : zRg W n) (hu : u 4 3 = nI n) (hV : ∀ t w, t < 8 → w < 9 → u 5 (w * 8 + t) = W (163 + 9 * t + w)) (hS : ∀ a b, a < 12 → b < 12 → u 11 (a * 12 + b) = nI (min 1000 (zFar W a b))) (hs : s < 8) (h : Q (some (.int (nI (zct (ouP W s) n)))) u) : zCall (d + 4) false 174 [.ref 0, .int (nI s)] u Q := by
  have h8 := hR.1.1
  have far : ∀ t, t < 8 → vp_in (u 5 ((((0 : Int32) * 8) + nI t).toNatClampNeg)) 12 ∧ u 11 ((((0 : Int32) * 12) + (u 5 ((((0 : Int32) * 8) + nI t).toNatClampNeg))).toNatClampNeg) = nI (min 1000 (zFar W (cnN W t) 0)) := by
    intro t ht
    have c0 : ((0 : Int32) * 8) + nI t = nI (0 * 8 + t) := dv_ix 0 t
    have c1 : ((0 : Int32) * 12) + nI (cnN W t) = nI (cnN W t) := by rw [Int32.zero_mul, Int32.zero_add]
    have e : u 5 (0 * 8 + t) = nI (cnN W t) := by rw [hV t 0 ht (by decide)]; exact cnN_eq hR ht
    have lt := cnN_lt W t
    rw [c0, nI_clamp (n := 0 * 8 + t) (by omega), e, c1, nI_clamp (n := cnN W t) (by omega)]
    refine ⟨vp_in_nI (by omega) (by decide), ?_⟩
    have := hS 0 (cnN W t) (by decide) lt
    rw [Nat.zero_mul, Nat.zero_add] at this
    have sy : zFar W 0 (cnN W t) = zFar W (cnN W t) 0 := fw_sym _ (zRd_sym hR) _ _ _
    rw [this, sy]
  refine tX11_outerOf ⟨vp_in_nI (by omega) (by decide), (far s hs).1, ?_⟩
  rw [(far s hs).2]
  refine zFor (σ := Int32) (Pr := fun i x => zRun (d + 3) false zcX11_outerOf 1 Q 14 [(0, .ref 0), (1, .int (nI s)), (2, .int (nI (min 1000 (zFar W (cnN W s) 0)))), (3, .int x), (4, .int (nI i))] [] u) (fun i x => x = nI (zct (ouP W s) i)) n (fun x hx => ?_) (fun i x hi hx ih => ?_) 0 rfl
  · refine tX11_outerOf_14 (br_t (by rw [hu]; exact Int32.le_refl _) ?_)
    rw [hx]; exact h
  · refine tX11_outerOf_14 (br_f (by rw [hu, nI_leI (by omega) (by omega)]; omega) ⟨vp_in_nI (by omega) (by decide), (far i (by omega)).1, ?_⟩)
    rw [(far i (by omega)).2, nI_1 i]
    by_cases q : ouP W s i = true
    · have q2 := of_decide_eq_true q
      refine br_f (by rw [nI_leI (by omega) (by omega)]; omega) (br_f (by rw [nI_lit, nI_leI (by omega) (by omega)]; omega) (ih _ ?_))
      rw [hx, zct_t q, nI_1]
    · have e : x = nI (zct (ouP W s) (i + 1)) := by rw [hx, zct_f q]
      refine ⟨fun _ => ih _ e, fun z => ⟨fun _ => ih _ e, fun z2 => ?_⟩⟩
      rw [nI_leI (by omega) (by omega)] at z
      rw [nI_lit, nI_leI (by omega) (by omega)] at z2
      exact absurd (decide_eq_true (p := zFar W (cnN W s) 0 < zFar W (cnN W i) 0 ∧ zFar W (cnN W i) 0 < 1000) ⟨by omega, by omega⟩) q
theorem s_outerOf {d n s : Nat} {u : zM} {Q : Option Value → zM → Prop} (hR : zRg (u 129) n) (hf : ∀ a b, a < 12 → b < 12 → u 134 (12 * a + b) = nI (zFar (u 129) a b)) (hs : s < 8) (h : Q (some (.int (nI (zct (ouP (u 129) s) n)))) u) : zCall (d + 4) false 238 [.ref 128, .int (nI s)] u Q := by
  have h8 := hR.1.1
  obtain ⟨W, eW⟩ : ∃ W, W = u 129 := ⟨_, rfl⟩
  rw [← eW] at hR hf h
  have far : ∀ t, t < 8 → vp_in ((163 + (9 * nI t)) + 0) 2173 ∧ vp_in ((12 * (u 129 (((163 + (9 * nI t)) + 0).toNatClampNeg))) + 0) 144 ∧ u 134 (((12 * (u 129 (((163 + (9 * nI t)) + 0).toNatClampNeg))) + 0).toNatClampNeg) = nI (zFar W (cnN W t) 0) := by
    intro t ht
    have a0 : (163 + (9 * nI t)) + 0 = nI (163 + 9 * t + 0) := ix_w t 0
    have c1 : (12 * nI (cnN W t)) + 0 = nI (12 * cnN W t) := by rw [Int32.add_zero, nI_lit, nI_mul]
    have e : u 129 (163 + 9 * t + 0) = nI (cnN W t) := by rw [← eW]; exact cnN_eq hR ht
    have lt := cnN_lt W t
    rw [a0, ix_c (s := t) (w := 0) ht (by decide), e, c1, nI_clamp (n := 12 * cnN W t) (by omega)]
    exact ⟨ix_v ht (by decide), vp_in_nI (by omega) (by decide), hf (cnN W t) 0 lt (by decide)⟩
  have le : ∀ t, zFar W (cnN W t) 0 ≤ 1000000 := fun t => zFar_le hR _ _
  refine tX12_outerOf ?_
  refine zFor (σ := Int32) (Pr := fun i x => zRun (d + 3) false zcX12_outerOf 1 Q 4 [(0, .ref 128), (1, .int (nI s)), (2, .int x), (3, .int (nI i))] [] u) (fun i x => x = nI (zct (ouP W s) i)) n (fun x hx => ?_) (fun i x hi hx ih => ?_) 0 rfl
  · refine tX12_outerOf_4 (br_t (by rw [← eW, hR.1.2]; exact Int32.le_refl _) ?_)
    rw [hx]; exact h
  · have ls := le s
    have li := le i
    have fs := far s hs
    have fi := far i (by omega)
    refine tX12_outerOf_4 (br_f (by rw [← eW, hR.1.2, nI_leI (by omega) (by omega)]; omega) ⟨fs.1, fs.2.1, ?_⟩)
    rw [fs.2.2, fi.2.2, nI_1 i, Int32.add_zero]
    by_cases q : ouP W s i = true
    · have q2 := of_decide_eq_true q
      refine br_f (by rw [nI_lit, nI_leI (by omega) (by omega)]; omega) ⟨fi.1, fi.2.1, br_f (by rw [nI_lit, nI_leI (by omega) (by omega)]; omega) ⟨fi.1, fi.2.1, fs.1, fs.2.1, br_f (by rw [nI_leI (by omega) (by omega)]; omega) (ih _ ?_)⟩⟩
      rw [hx, zct_t q, nI_1]
    · have e : x = nI (zct (ouP W s) (i + 1)) := by rw [hx, zct_f q]
      refine ⟨fun _ => ih _ e, fun z => ⟨fi.1, fi.2.1, fun _ => ih _ e, fun z2 => ⟨fi.1, fi.2.1, fs.1, fs.2.1, fun _ => ih _ e, fun z3 => ?_⟩⟩⟩
      rw [nI_lit, nI_leI (by omega) (by omega)] at z2
      rw [nI_leI (by omega) (by omega)] at z3
      have c := zFar_99 hR (cnN W i) 0 (cnN_lt W i) (by decide)
      exact absurd (decide_eq_true (p := zFar W (cnN W s) 0 < zFar W (cnN W i) 0 ∧ zFar W (cnN W i) 0 < 1000) ⟨by omega, by omega⟩) q
theorem s_place {d n p0 s k0 : Nat} {u : zM} {Q : Option Value → zM → Prop} (hk : zShapes[k0]? = some (.inl 1)) (hu : u k0 3 = nI n) (h8 : n ≤ 8) (hp : p0 < n) (he : u (k0 + 2) p0 = nI s) (hn : ∀ p, p < p0 → ¬ u (k0 + 2) p = nI s) (h : Q (some (.int (nI p0))) u) : zCall (d + 2) false 10 [.ref k0, .int (nI s)] u Q := by
  refine tX1_placeOf hk ?_
  refine zFor (σ := Unit) (Pr := fun i _ => zRun (d + 1) false zcX1_placeOf 1 Q 2 [(0, .ref k0), (1, .int (nI s)), (2, .int (nI i))] [] u) (fun _ _ => True) p0 (fun _ _ => ?_) (fun i _ hi _ ih => ?_) () trivial
  · refine tX1_placeOf_2 hk (br_f (by rw [hu, nI_leI (by omega) (by omega)]; omega) ⟨vp_in_nI (by omega) (by decide), ?_⟩)
    rw [nI_clamp (n := p0) (by omega)]
    exact ⟨fun q => absurd he q, fun _ => h⟩
  · refine tX1_placeOf_2 hk (br_f (by rw [hu, nI_leI (by omega) (by omega)]; omega) ⟨vp_in_nI (by omega) (by decide), ?_⟩)
    rw [nI_clamp (n := i) (by omega), nI_1 i]
    exact ⟨fun _ => ih () trivial, fun q => absurd q (hn i hi)⟩
theorem s_placeOf {d n p0 s : Nat} {u : zM} {Q : Option Value → zM → Prop} (h8 : n ≤ 8) (hp : p0 < n) (he : u 129 (155 + p0) = nI s) (hn : ∀ p, p < p0 → ¬ u 129 (155 + p) = nI s) (h : Q (some (.int (nI p0))) u) : zCall (d + 2) false 192 [.ref 128, .int (nI s)] u Q := by
  refine tX12_placeOf ?_
  have e : ∀ i, (155 : Int32) + nI i = nI (155 + i) := fun i => by rw [nI_lit, nI_add]
  refine zFor (σ := Unit) (Pr := fun i _ => zRun (d + 1) false zcX12_placeOf 1 Q 2 [(0, .ref 128), (1, .int (nI s)), (2, .int (nI i))] [] u) (fun _ _ => True) p0 (fun _ _ => ?_) (fun i _ hi _ ih => ?_) () trivial
  · refine tX12_placeOf_2 ?_
    rw [e, nI_clamp (n := 155 + p0) (by omega)]
    exact ⟨vp_in_nI (by omega) (by decide), fun _ => h, fun q => absurd he q⟩
  · refine tX12_placeOf_2 ?_
    rw [e, nI_clamp (n := 155 + i) (by omega), nI_1 i]
    exact ⟨vp_in_nI (by omega) (by decide), fun q => absurd q (hn i hi), fun _ => ih () trivial⟩
theorem d_step {n s x : Nat} {u : zM} {Q : Option Value → zM → Prop} (hu : u 4 3 = nI n) (hs : s < n) (h8 : n ≤ 8) (hx : x < 15) (hA : x < 9 → Q (some (.int (u 5 (x * 8 + s)))) u) (hB : ∀ kd, kd ≤ 2 → x = kd + 9 → zCI 59 32 [.ref 12, .int (nI (kd + 9)), .ref 4, .int (nI s)] u fun v w => Q (some (.int v)) w)
    (hC : x = 12 → zCI 59 173 [.ref 0, .int (nI s)] u fun v w => Q (some (.int v)) w) (hD : x = 13 → zCI 59 174 [.ref 0, .int (nI s)] u fun v w => Q (some (.int v)) w) (hE : x = 14 → zCI 59 10 [.ref 4, .int (nI s)] u fun v w => Q (some (.int v)) w) : zCall 60 false 112 [.ref 0, .int (nI s), .int (nI x)] u Q := by
  have pos := nI_pos' (n := s) (by omega)
  have lt : nI s < u 4 3 := by rw [hu]; exact nI_lt hs (by omega)
  have ex : (nI x * 8) + nI s = nI (x * 8 + s) := dv_ix x s
  refine tX11_step ⟨pos, lt, br_f (nI_pos (by omega)) (br_t (by rw [nI_lit, nI_leI (by omega) (by omega)]; omega) ?_)⟩
  rw [ex, nI_clamp (n := x * 8 + s) (by omega), nI_toInt (by omega)]
  refine ⟨fun q => ⟨vp_in_nI (by omega) (by decide), vp_in_nI (by omega) (by decide), hA (by omega)⟩, fun q => ?_, fun q => ?_, fun q => ?_, fun q => hC (by omega), fun q => hD (by omega), fun q => hE (by omega), trivial⟩
  · obtain rfl : x = 9 := by omega
    exact hB 0 (by decide) rfl
  · obtain rfl : x = 10 := by omega
    exact hB 1 (by decide) rfl
  · obtain rfl : x = 11 := by omega
    exact hB 2 (by decide) rfl
theorem r_step {n s x : Nat} {u : zM} {Q : Option Value → zM → Prop} (hn : u 129 0 = nI n) (hs : s < n) (h8 : n ≤ 8) (hx : x < 15) (hA : x < 9 → Q (some (.int (u 129 (163 + 9 * s + x)))) (zUp u 128 0 0)) (hB : ∀ kd, kd ≤ 2 → x = kd + 9 → zCI 59 235 [.ref 128, .int (nI kd), .int (nI s)] (zUp u 128 0 0) fun v w => Q (some (.int v)) w)
    (hC : x = 12 → zCI 59 237 [.ref 128, .int (nI s)] (zUp u 128 0 0) fun v w => Q (some (.int v)) w) (hD : x = 13 → zCI 59 238 [.ref 128, .int (nI s)] (zUp u 128 0 0) fun v w => Q (some (.int v)) w) (hE : x = 14 → zCI 59 192 [.ref 128, .int (nI s)] (zUp u 128 0 0) fun v w => Q (some (.int v)) w) : zCall 60 false 239 [.ref 128, .int (nI s), .int (nI x)] u Q := by
  have ex := ix_w s x
  have ns := n_top h8 hs
  have a0 : (163 + (9 * nI s)) + 0 = nI (163 + 9 * s) := ix_w s 0
  refine tX12_step (fun m1 e1 => ?_)
  have m9 : m1 129 = u 129 := by rw [e1, zUp_k _ _ (by decide)]
  rw [m9, hn, ex, a0, nI_clamp (n := 163 + 9 * s + x) (by omega), nI_clamp (n := 163 + 9 * s) (by omega), nI_toInt (by omega)]
  clear m9
  subst e1
  have V : vp_in (nI (163 + 9 * s + x)) 2173 := vp_in_nI (by omega) (by decide)
  refine br_f (nI_pos (by omega)) (br_f ns (br_f (nI_pos (by omega)) (br_f (by rw [nI_lit, nI_ltI (by omega) (by omega)]; omega) ?_)))
  refine ⟨fun q => absurd q (by omega), fun q => ⟨vp_in_nI (by omega) (by decide), ?_⟩, fun q => ⟨V, hA (by omega)⟩, fun q => ⟨V, hA (by omega)⟩, fun q => ⟨V, hA (by omega)⟩, fun q => ⟨V, hA (by omega)⟩, fun q => ⟨V, hA (by omega)⟩, fun q => ⟨V, hA (by omega)⟩, fun q => ⟨V, hA (by omega)⟩, fun q => ⟨V, hA (by omega)⟩, fun q => hB 0 (by decide) (by omega), fun q => hB 1 (by decide) (by omega), fun q => hB 2 (by decide) (by omega), fun q => hC (by omega), fun q => hD (by omega), fun q => hE (by omega), trivial⟩
  obtain rfl : x = 0 := by omega
  exact hA (by decide)
theorem op_step (a b : Int32) : zOkT 112 239 [.int a, .int b] [(2, 1), (5, 2)] := by
  intro u ⟨n, hI⟩
  have hR := hI.1.1
  have hw := hI.2.1.wf
  have D := hI.1.2.2.1
  have h8 := hR.1.1
  have hu : u 4 3 = nI n := D.1.1.trans hR.1.2
  rcases i_cases a n (by omega) with ⟨s, hs, rfl⟩ | ha
  · have ns := n_top h8 hs
    rcases i_cases b 15 (by decide) with ⟨x, hx, rfl⟩ | hb
    · have e9 : ∀ o : Int32, (zUp (zUp u 142 0 o) 128 0 0) 129 = u 129 := fun o => by rw [zUp_k _ _ (by decide), zUp_k _ _ (by decide)]
      have r0 : ∀ (w1 : zM) (o : Int32), w1 129 = u 129 → (zUp w1 142 0 o) 129 0 = nI n := fun w1 o e => by rw [zUp_k _ _ (by decide), e]; exact hR.1.2
      refine Or.inl (d_step hu hs h8 hx (fun q => ?_) (fun kd hk q => ?_) (fun q => ?_) (fun q => ?_) (fun q => ?_))
      · intro o
        refine r_step (r0 u o rfl) hs h8 hx (fun _ => ⟨?_, K0 hI (fun c _ => rfl)⟩) (fun kd _ e => absurd q (by omega)) (fun e => absurd q (by omega)) (fun e => absurd q (by omega)) (fun e => absurd q (by omega))
        rw [zUp_k _ _ (by decide), D.2.1 s x (by omega) q]
      · refine s_weighI (kd := kd) hI rfl rfl hk (by omega) (fun w1 G => ⟨_, rfl, fun o => ?_⟩)
        have g9 : w1 129 = u 129 := G.1 129 (by decide) (by decide)
        have m9 : (zUp (zUp w1 142 0 o) 128 0 0) 129 = u 129 := by rw [zUp_k _ _ (by decide), zUp_k _ _ (by decide), g9]
        refine r_step (r0 w1 o g9) hs h8 hx (fun e => absurd q (by omega)) (fun k2 hk2 e => ?_) (fun e => absurd q (by omega)) (fun e => absurd q (by omega)) (fun e => absurd q (by omega))
        obtain rfl : kd = k2 := by omega
        refine s_byLaw (n := n) (kd := kd) rfl rfl hk (by omega) (by rw [m9]; exact hR) (by rw [m9]; exact hw) (fun w2 f2 => ⟨_, rfl, ?_, K0 (G.inv hI) f2⟩)
        rw [m9]
      · refine s_share hR hu D.2.1 (by omega) ⟨_, rfl, fun o => ?_⟩
        refine r_step (r0 u o rfl) hs h8 hx (fun e => absurd q (by omega)) (fun k2 hk2 e => absurd q (by omega)) (fun e => ?_) (fun e => absurd q (by omega)) (fun e => absurd q (by omega))
        refine s_shareOf (n := n) (by rw [e9]; exact hR) (by omega) ⟨_, rfl, ?_, K0 hI (fun c _ => rfl)⟩
        rw [e9]
      · refine s_outer hR hu D.2.1 (hI.1.2.2.2.2) (by omega) ⟨_, rfl, fun o => ?_⟩
        refine r_step (r0 u o rfl) hs h8 hx (fun e => absurd q (by omega)) (fun k2 hk2 e => absurd q (by omega)) (fun e => absurd q (by omega)) (fun e => ?_) (fun e => absurd q (by omega))
        refine s_outerOf (n := n) (by rw [e9]; exact hR) (fun a b ha hb => by rw [e9, zUp_k _ _ (by decide), zUp_k _ _ (by decide)]; exact hI.1.2.1 a b ha hb) (by omega) ⟨_, rfl, ?_, K0 hI (fun c _ => rfl)⟩
        rw [e9]
      · obtain ⟨p0, hp, ep⟩ := inj_surj n (stN (u 129)) (fun k hk => (stN_eq hR hk).2) (fun j k hj hk e => hR.2.2.2.2.2.2.2.2.2.2.2.2.2.1 j k hj hk (by rw [(stN_eq hR hj).1, (stN_eq hR hk).1, e])) s hs
        have he : u 129 (155 + p0) = nI s := by rw [(stN_eq hR hp).1, ep]
        have hn : ∀ p, p < p0 → ¬ u 129 (155 + p) = nI s := fun p hp2 z => by
          have := hR.2.2.2.2.2.2.2.2.2.2.2.2.2.1 p p0 (by omega) hp (by rw [z, he])
          omega
        refine s_place rfl hu h8 hp (by rw [D.2.2.1 p0 (by omega)]; exact he) (fun p hp2 => by rw [D.2.2.1 p (by omega)]; exact hn p hp2) ⟨_, rfl, fun o => ?_⟩
        refine r_step (r0 u o rfl) hs h8 hx (fun e => absurd q (by omega)) (fun k2 hk2 e => absurd q (by omega)) (fun e => absurd q (by omega)) (fun e => absurd q (by omega)) (fun e => ?_)
        exact s_placeOf h8 hp (by rw [e9]; exact he) (fun p hp2 => by rw [e9]; exact hn p hp2) ⟨_, rfl, rfl, K0 hI (fun c _ => rfl)⟩
    · have fin : zCall 60 false 239 [.ref 128, .int (nI s), .int b] u fun _ w2 => zIv w2 ∧ ∃ E c : Int32, (some (Value.int 5) : Option Value) = some (.int E) ∧ (E, c) ∈ [((2 : Int32), (1 : Int32)), (5, 2)] ∧ w2 128 0 = c := by
        refine tX12_step (fun m1 e1 => ?_)
        have n0 : m1 129 0 = nI n := by rw [e1, zUp_k _ _ (by decide)]; exact hR.1.2
        rw [n0]
        exact br_f (nI_pos (by omega)) (br_f ns ⟨fun _ => zThrI hI e1 (by simp), fun q => ⟨fun _ => zThrI hI e1 (by simp), fun q2 => absurd (i_lim (n := 14) (by decide) hb q) q2⟩⟩)
      have pos := nI_pos' (n := s) (by omega)
      have lt : nI s < u 4 3 := by rw [hu]; exact nI_lt hs (by omega)
      exact Or.inr (tTX11_step (Or.inr ⟨pos, lt, fun _ => fin, fun q => ⟨fun q2 => absurd (i_lim (n := 14) (by decide) hb q) (Int32.not_lt.mpr q2), fun _ => fin⟩⟩))
  · refine Or.inr (tTX11_step (Or.inl ⟨by rw [hu]; exact ha, ?_⟩))
    refine tX12_step (fun m1 e1 => ?_)
    have n0 : m1 129 0 = nI n := by rw [e1, zUp_k _ _ (by decide)]; exact hR.1.2
    rw [n0]
    exact ⟨fun _ => zThrI hI e1 (by simp), fun q => ⟨fun _ => zThrI hI e1 (by simp), fun q2 => absurd (i_top2 h8 ha q) q2⟩⟩
