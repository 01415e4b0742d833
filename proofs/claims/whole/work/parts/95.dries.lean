theorem zor_0 {p : Nat → Bool} {n : Nat} (h8 : n ≤ 8) : zor p n = 0 ↔ ∀ s, s < n → p s = false := by
  constructor
  · intro h s hs
    have := zor_tb p (t := s) (by omega) n (by omega)
    rw [h, tb_0, decide_eq_true hs, Bool.true_and] at this
    exact this.symm
  · intro h
    refine tb_ext (fun t ht => ?_)
    rw [zor_tb p ht n (by omega), tb_0]
    by_cases q : t < n
    · rw [h t q, Bool.and_false]
    · rw [decide_eq_false q, Bool.false_and]
def pDry (W : Nat → Int32) (s : Nat) : Bool := decide (0 < W (163 + 9 * s + 6))
theorem s_dryOnesM {d n : Nat} {W : Nat → Int32} {u : zM} {Q : Option Value → zM → Prop} (hR : zRg W n) (e9 : u 129 = W) (h : Q (some (.int (zor (pDry W) n))) u) : zCall (d + 3) false 289 [.ref 128] u Q := by
  subst e9
  exact s_dryOnes hR.1.2 hR.1.1 h
theorem pGo_fx {W : Nat → Int32} {n : Nat} (hR : zRg W n) (hw : lwWf W) (i : Nat) : zRg (pGo true W n i) n ∧ lwWf (pGo true W n i) ∧ zFx W (pGo true W n i) := ⟨(pGo_ok hR hw i).rg hR, (pGo_ok hR hw i).1.wf hw, (pGo_ok hR hw i).1⟩
theorem m_dries {n D : Nat} {a v : Int32} {u : zM} (hI : zInv u n) (hD : D ≤ 60) (h1 : ∀ j, j < D → ∀ s, s < n → pDry (pGo true (u 129) n (j + 1)) s = false)
    (h2 : (D = 60 ∧ v = -1) ∨ (D < 60 ∧ ∃ l, l < n ∧ pDry (pGo true (u 129) n (D + 1)) l = true ∧ (∀ i, i < l → pDry (pGo true (u 129) n (D + 1)) i = false) ∧ v = if a = 0 then nI (D + 1) else nI l)) :
    zCall 60 false 290 [.ref 128, .int a] u fun v2 z => v2 = some (.int v) ∧ zSame u z := by
  have hR := hI.1.1
  have hw := hI.2.1.wf
  have h8 := hR.1.1
  have G := fun i => pGo_fx hR hw i
  refine tX12_dries (fun m1 e1 => ?_)
  refine s_keep e1 (fun w3 M3 => ⟨rfl, ?_⟩)
  have end_ : ∀ (w : zM) (W : Nat → Int32), zMd u w W → zFx (u 129) W → zCV 59 258 [.ref 128] w fun w3 => (some (Value.int v) : Option Value) = some (.int v) ∧ zSame u w3 := fun w W hM hF => s_bring hM hF (fun w5 M5 => ⟨rfl, rfl, M5.same⟩)
  refine zFor (σ := zM) (Pr := fun i w => zRun 59 false zcX12_dries 1 _ 13 [(0, .ref 128), (1, .int a), (2, .int (-1)), (3, .int (nI (i + 1)))] [] w) (fun i w => zMd u w (pGo true (u 129) n i)) D (fun w hM => ?_) (fun i w hi hM ih => ?_) w3 M3
  · rcases h2 with ⟨rfl, rfl⟩ | ⟨hlt, l, hl, p1, p2, ev⟩
    · exact tX12_dries_13 ⟨fun _ => end_ w _ hM (G 60).2.2, fun q => absurd (by decide) q⟩
    · refine tX12_dries_13 (br_f (by rw [nI_lit, nI_ltI (by omega) (by omega)]; omega) ⟨fun q => absurd rfl q, fun _ => ?_⟩)
      refine s_oneM (calm := true) (n := n) rfl hM (G D).1 (G D).2.1 (G D).2.2 hI.1.2.1 (fun w5 M5 => ⟨_, rfl, ?_⟩)
      have e9 : w5 129 = pGo true (u 129) n (D + 1) := M5.2.2.2.1
      refine s_dryOnesM (G (D + 1)).1 e9 ⟨_, rfl, ?_⟩
      have ne : ¬ zor (pDry (pGo true (u 129) n (D + 1))) n = 0 := fun z => by
        rw [(zor_0 h8).mp z l hl] at p1; cases p1
      rw [nI_1 (D + 1)]
      refine ⟨fun q => absurd q ne, fun _ => ⟨fun q0 => ?_, fun q0 => ?_⟩⟩
      · rw [if_pos q0] at ev
        rw [← ev]
        exact tX12_dries_13 ⟨fun _ => end_ w5 _ M5 (G (D + 1)).2.2, fun _ => ⟨fun _ => end_ w5 _ M5 (G (D + 1)).2.2, fun z => absurd z (by rw [ev]; exact nI_m1 (by omega))⟩⟩
      · rw [if_neg q0] at ev
        refine s_dryOnesM (G (D + 1)).1 e9 ⟨_, rfl, ?_⟩
        obtain ⟨x, hx, ex⟩ := zor_nat (pDry (pGo true (u 129) n (D + 1))) n h8
        have p256 : 2 ^ n ≤ 2 ^ 8 := Nat.pow_le_pow_right (by decide) h8
        rw [ex] at ne ⊢
        refine s_ntz rfl (by omega) (Nat.pos_of_ne_zero (fun z => ne (by rw [z]; rfl))) (fun l2 k1 k2 k3 => ⟨_, rfl, ?_⟩)
        have tbx : ∀ t, t < 32 → tb (nI x) t = (decide (t < n) && pDry (pGo true (u 129) n (D + 1)) t) := fun t ht => by rw [← ex]; exact zor_tb _ ht n (by omega)
        have el : l2 = l := by
          rcases Nat.lt_trichotomy l2 l with q | q | q
          · rw [tbx l2 (by omega), p2 l2 q, Bool.and_false] at k2; cases k2
          · exact q
          · have := k3 l q
            rw [tbx l (by omega), p1, decide_eq_true hl] at this; cases this
        rw [el, ← ev]
        exact tX12_dries_13 ⟨fun _ => end_ w5 _ M5 (G (D + 1)).2.2, fun _ => ⟨fun _ => end_ w5 _ M5 (G (D + 1)).2.2, fun z => absurd z (by rw [ev]; exact nI_m1 (by omega))⟩⟩
  · refine tX12_dries_13 (br_f (by rw [nI_lit, nI_ltI (by omega) (by omega)]; omega) ⟨fun q => absurd rfl q, fun _ => ?_⟩)
    refine s_oneM (calm := true) (n := n) rfl hM (G i).1 (G i).2.1 (G i).2.2 hI.1.2.1 (fun w5 M5 => ⟨_, rfl, ?_⟩)
    have e9 : w5 129 = pGo true (u 129) n (i + 1) := M5.2.2.2.1
    refine s_dryOnesM (G (i + 1)).1 e9 ⟨_, rfl, ?_⟩
    rw [nI_1 (i + 1)]
    exact br_t ((zor_0 h8).mpr (h1 i hi)) (ih w5 M5)
theorem op_dries (a : Int32) : zAskA 134 290 [.int a] := by
  intro u n hI
  have hR := hI.1.1
  have hw := hI.2.1.wf
  have h8 := hR.1.1
  have G := fun i => pGo_fx hR hw i
  refine t2X11_dries ?_
  refine s_draft hI (fun w1 d1 b1 => ⟨rfl, ?_⟩)
  have fin : ∀ (w : zM) (D : Nat) (v : Int32), zDf u w → D ≤ 60 → (∀ j, j < D → ∀ s, s < n → pDry (pGo true (u 129) n (j + 1)) s = false) → ((D = 60 ∧ v = -1) ∨ (D < 60 ∧ ∃ l, l < n ∧ pDry (pGo true (u 129) n (D + 1)) l = true ∧ (∀ i, i < l → pDry (pGo true (u 129) n (D + 1)) i = false) ∧ v = if a = 0 then nI (D + 1) else nI l)) → zSame u w ∧ zCall 60 false 290 [.ref 128, .int a] w fun v2 w2 => v2 = some (.int v) ∧ zSame w w2 := by
    intro w D v hD g1 g2 g3
    have S := hD.same
    have e9 : w 129 = u 129 := hD 129 (by decide)
    exact ⟨S, m_dries (S.inv hI) g1 (by rw [e9]; exact g2) (by rw [e9]; exact g3)⟩
  refine zFor (σ := zM) (Pr := fun i w => zRun 59 false zcX11_dries 1 _ 13 [(0, .ref 0), (1, .int a), (2, .int (nI (i + 1)))] [] w) (fun i w => zDf u w ∧ zSb w 22 (pGo true (u 129) n i) ∧ ∀ j, j < i → ∀ s, s < n → pDry (pGo true (u 129) n (j + 1)) s = false) 60 (fun w hx => ?_) (fun i w hi hx ih => ?_) w1 ⟨d1, b1, fun j hj => absurd hj (Nat.not_lt_zero _)⟩
  · exact t2X11_dries_13 (br_t (by decide) (fin w 60 _ hx.1 (Nat.le_refl _) hx.2.2 (Or.inl ⟨rfl, rfl⟩)))
  · obtain ⟨f1, f2, f3⟩ := hx
    refine t2X11_dries_13 (br_f (by rw [nI_lit, nI_ltI (by omega) (by omega)]; omega) ?_)
    refine s_quietMornings (k := 22) (m := 1) rfl rfl (by omega) (G i).1 f2 (fun w2 q2 b2 _ => ⟨rfl, ?_⟩)
    have e1 : pGo true (pGo true (u 129) n i) n 1 = pGo true (u 129) n (i + 1) := rfl
    rw [e1] at b2
    have d2 : zDf u w2 := f1.tr q2.df
    have hn : w2 23 3 = nI n := b2.1.1.1.trans (G (i + 1)).1.1.2
    refine zFor (σ := Unit) (Pr := fun j _ => zRun 59 false zcX11_dries 1 _ 29 [(0, .ref 0), (1, .int a), (2, .int (nI (i + 1))), (3, .int (nI j))] [] w2) (fun j _ => ∀ s, s < j → pDry (pGo true (u 129) n (i + 1)) s = false) n (fun _ hj => ?_) (fun j _ hj hx ihj => ?_) () (fun s hs => absurd hs (Nat.not_lt_zero _))
    · refine t2X11_dries_29 ⟨fun _ => ?_, fun q => absurd ?_ q⟩
      · rw [nI_1 (i + 1)]
        refine ih w2 ⟨d2, b2, fun j2 hj2 s hs => ?_⟩
        by_cases q : j2 = i
        · subst q; exact hj s hs
        · exact f3 j2 (by omega) s hs
      · rw [hn]; exact Int32.le_refl _
    · have c6 : ((6 : Int32) * 8) + nI j = nI (6 * 8 + j) := dv_ix 6 j
      refine t2X11_dries_29 ?_
      rw [hn, c6, nI_clamp (n := 6 * 8 + j) (by omega), nI_1 j, show w2 24 (6 * 8 + j) = pGo true (u 129) n (i + 1) (163 + 9 * j + 6) from b2.1.2.1 j 6 (by omega) (by decide)]
      refine br_f (by rw [nI_leI (by omega) (by omega)]; omega) ⟨vp_in_nI (by omega) (by decide), fun q => ?_, fun q => ?_⟩
      · refine ihj () (fun s hs => ?_)
        by_cases y : s = j
        · subst y
          unfold pDry
          rw [decide_eq_false (Int32.not_lt.mpr q)]
        · exact hx s (by omega)
      · have pj : pDry (pGo true (u 129) n (i + 1)) j = true := by unfold pDry; rw [decide_eq_true (Int32.not_le.mp q)]
        refine ⟨fun q0 => fin w2 i _ d2 (by omega) f3 (Or.inr ⟨hi, j, hj, pj, hx, by rw [if_pos q0]⟩), fun q0 => fin w2 i _ d2 (by omega) f3 (Or.inr ⟨hi, j, hj, pj, hx, by rw [if_neg q0]⟩)⟩
theorem m_owes {n s D : Nat} {v : Int32} {u : zM} (hI : zInv u n) (hs : s < n) (hD : D ≤ 61) (h1 : ∀ j, j < D → ¬ pGo true (u 129) n j (163 + 9 * s + 2) < u 129 6) (h2 : (D = 61 ∧ v = -1) ∨ (D ≤ 60 ∧ pGo true (u 129) n D (163 + 9 * s + 2) < u 129 6 ∧ v = nI D)) :
    zCall 60 false 291 [.ref 128, .int (nI s)] u fun v2 z => v2 = some (.int v) ∧ z 128 0 = 0 ∧ zSame u z := by
  have hR := hI.1.1
  have hw := hI.2.1.wf
  have h8 := hR.1.1
  have G := fun i => pGo_fx hR hw i
  refine tX12_owes (fun m1 e1 => ?_)
  have n0 : m1 129 0 = nI n := by rw [e1, zUp_k _ _ (by decide)]; exact hR.1.2
  rw [n0]
  have ns : ¬ nI n - 1 < nI s := by
    rw [nI_lit, nI_sub (by show 1 ≤ n; omega), nI_ltI (by omega) (by omega)]
    show ¬ n - 1 < s
    omega
  refine br_f (nI_pos (by omega)) (br_f ns ?_)
  refine s_keep e1 (fun w3 M3 => ⟨rfl, ?_⟩)
  have a2 : (163 + (9 * nI s)) + 2 = nI (163 + 9 * s + 2) := ix_w s 2
  have end_ : ∀ (w : zM) (W : Nat → Int32), zMd u w W → zFx (u 129) W → zCV 59 258 [.ref 128] w fun w3 => (some (Value.int v) : Option Value) = some (.int v) ∧ w3 128 0 = 0 ∧ zSame u w3 := fun w W hM hF => s_bring hM hF (fun w5 M5 => ⟨rfl, rfl, M5.2.2.1, M5.same⟩)
  have p6 : ∀ i, pGo true (u 129) n i 6 = u 129 6 := fun i => (G i).2.2.1 6 (by decide) (by decide) (by decide) (by decide)
  refine zFor (σ := zM) (Pr := fun i w => zRun 59 false zcX12_owes 1 _ 28 [(0, .ref 128), (1, .int (nI s)), (2, .int (-1)), (3, .int (nI i))] [] w) (fun i w => zMd u w (pGo true (u 129) n i)) D (fun w hM => ?_) (fun i w hi hM ih => ?_) w3 M3
  · rcases h2 with ⟨rfl, rfl⟩ | ⟨hlt, hc, ev⟩
    · exact tX12_owes_28 ⟨fun _ => end_ w _ hM (G 61).2.2, fun q => absurd (by decide) q⟩
    · refine tX12_owes_28 ?_
      rw [a2, ix_c (w := 2) (by omega) (by decide), hM.2.2.2.1, p6, nI_1 D]
      refine br_f (by rw [nI_lit, nI_ltI (by omega) (by omega)]; omega) ⟨fun q => absurd rfl q, fun _ => ⟨ix_v (by omega) (by decide), br_f (Int32.not_le.mpr hc) ?_⟩⟩
      refine s_oneM (calm := true) (n := n) rfl hM (G D).1 (G D).2.1 (G D).2.2 hI.1.2.1 (fun w5 M5 => ⟨_, rfl, ?_⟩)
      rw [← ev]
      exact tX12_owes_28 ⟨fun _ => end_ w5 _ M5 (G (D + 1)).2.2, fun _ => ⟨fun _ => end_ w5 _ M5 (G (D + 1)).2.2, fun z => absurd z (by rw [ev]; exact nI_m1 (by omega))⟩⟩
  · refine tX12_owes_28 ?_
    rw [a2, ix_c (w := 2) (by omega) (by decide), hM.2.2.2.1, p6, nI_1 i]
    refine br_f (by rw [nI_lit, nI_ltI (by omega) (by omega)]; omega) ⟨fun q => absurd rfl q, fun _ => ⟨ix_v (by omega) (by decide), br_t (Int32.not_lt.mp (h1 i hi)) ?_⟩⟩
    exact s_oneM (calm := true) (n := n) rfl hM (G i).1 (G i).2.1 (G i).2.2 hI.1.2.1 (fun w5 M5 => ⟨_, rfl, ih w5 M5⟩)
theorem op_owes (a : Int32) : zAskI 135 291 [.int a] [(2, 1)] := by
  intro u n hI
  have hR := hI.1.1
  have hw := hI.2.1.wf
  have h8 := hR.1.1
  have hu : u 4 3 = nI n := hI.1.2.2.1.1.1.trans hR.1.2
  have G := fun i => pGo_fx hR hw i
  rcases i_cases a n (by omega) with ⟨s, hs, rfl⟩ | ha
  · refine Or.inl (t2X11_owes ⟨nI_pos' (by omega), by rw [hu]; exact nI_lt hs (by omega), ?_⟩)
    refine s_draft hI (fun w1 d1 b1 => ⟨rfl, ?_⟩)
    have fin : ∀ (w : zM) (D : Nat) (v : Int32), zDf u w → D ≤ 61 → (∀ j, j < D → ¬ pGo true (u 129) n j (163 + 9 * s + 2) < u 129 6) → ((D = 61 ∧ v = -1) ∨ (D ≤ 60 ∧ pGo true (u 129) n D (163 + 9 * s + 2) < u 129 6 ∧ v = nI D)) → zSame u w ∧ ∀ o : Int32, zCall 60 false 291 [.ref 128, .int (nI s)] (zUp w 142 0 o) fun v2 w2 => v2 = some (.int v) ∧ w2 128 0 = 0 ∧ zSame w w2 := by
      intro w D v hD g1 g2 g3
      refine ⟨hD.same, fun o => ?_⟩
      have S := hD.same.tr (zSame.o o)
      have S2 : zSame w (zUp w 142 0 o) := zSame.o o
      have e9 : (zUp w 142 0 o) 129 = u 129 := S.1 129 (by decide)
      exact zCall_m 60 false _ _ _ _ _ (fun v2 z y => ⟨y.1, y.2.1, S2.tr y.2.2⟩) (m_owes (S.inv hI) hs g1 (by rw [e9]; exact g2) (by rw [e9]; exact g3))
    refine zFor (σ := zM) (Pr := fun i w => zRun 59 false zcX11_owes 1 _ 18 [(0, .ref 0), (1, .int (nI s)), (2, .int (nI i))] [] w) (fun i w => zDf u w ∧ zSb w 22 (pGo true (u 129) n i) ∧ ∀ j, j < i → ¬ pGo true (u 129) n j (163 + 9 * s + 2) < u 129 6) 61 (fun w hx => ?_) (fun i w hi hx ih => ?_) w1 ⟨d1, b1, fun j hj => absurd hj (Nat.not_lt_zero _)⟩
    · exact t2X11_owes_18 (br_t (by decide) (fin w 61 _ hx.1 (Nat.le_refl _) hx.2.2 (Or.inl ⟨rfl, rfl⟩)))
    · obtain ⟨f1, f2, f3⟩ := hx
      have c2 : ((2 : Int32) * 8) + nI s = nI (2 * 8 + s) := dv_ix 2 s
      have r7 : w 23 7 = u 129 6 := f2.1.1.2.2.2.2.1.trans ((G i).2.2.1 6 (by decide) (by decide) (by decide) (by decide))
      have r2 : w 24 (2 * 8 + s) = pGo true (u 129) n i (163 + 9 * s + 2) := f2.1.2.1 s 2 (by omega) (by decide)
      refine t2X11_owes_18 ?_
      rw [c2, nI_clamp (n := 2 * 8 + s) (by omega), r7, r2, nI_1 i]
      refine br_f (by rw [nI_lit, nI_ltI (by omega) (by omega)]; omega) ⟨vp_in_nI (by omega) (by decide), fun q => ?_, fun q => fin w i _ f1 (by omega) f3 (Or.inr ⟨by omega, Int32.not_le.mp q, rfl⟩)⟩
      refine s_quietMornings (k := 22) (m := 1) rfl rfl (by omega) (G i).1 f2 (fun w2 q2 b2 _ => ⟨rfl, ?_⟩)
      have e1 : pGo true (pGo true (u 129) n i) n 1 = pGo true (u 129) n (i + 1) := rfl
      rw [e1] at b2
      refine ih w2 ⟨f1.tr q2.df, b2, fun j hj => ?_⟩
      by_cases y : j = i
      · subst y; exact Int32.not_lt.mpr q
      · exact f3 j (by omega)
  · refine Or.inr (tTX11_owes (Or.inl ⟨by rw [hu]; exact ha, zSame.rf u, ?_⟩))
    refine tX12_owes (fun m1 e1 => ?_)
    have n0 : m1 129 0 = nI n := by rw [e1, zUp_k _ _ (by decide)]; exact hR.1.2
    rw [n0]
    exact ⟨fun _ => zThr e1 (by simp), fun q => ⟨fun _ => zThr e1 (by simp), fun q2 => absurd (i_top2 h8 ha q) q2⟩⟩
