theorem i_60 {a : Int32} (h : a < 0 ∨ nI 61 ≤ a) : a < 0 ∨ 60 < a := by
  by_cases q : a < 0
  · exact Or.inl q
  · exact Or.inr (i_lim (n := 60) (by decide) h q)
theorem op_holds (a : Int32) : zAskI 137 294 [.int a] [(1, 1)] := by
  intro u n hI
  have hR := hI.1.1
  have hw := hI.2.1.wf
  rcases i_cases a 61 (by decide) with ⟨m, hm, rfl⟩ | hb
  · refine Or.inl (t2X11_holds ⟨vp_in_nI hm (by decide), ?_⟩)
    refine s_draft hI (fun w1 d1 b1 => ⟨rfl, ?_⟩)
    refine s_quietMornings (k := 22) (m := m) rfl rfl (by omega) hR b1 (fun w2 q2 b2 _ => ⟨rfl, ?_⟩)
    have D2 := d1.tr q2.df
    refine s_bottles (W := pGo true (u 129) n m) rfl ((pGo_ok hR hw m).rg hR) b2.1 ⟨_, rfl, D2.same, fun o => ?_⟩
    have S := D2.same.tr (zSame.o o)
    have S2 : zSame w2 (zUp w2 142 0 o) := zSame.o o
    obtain ⟨x, ex⟩ : ∃ x, x = zUp w2 142 0 o := ⟨_, rfl⟩
    rw [← ex] at S S2 ⊢
    have I2 := S.inv hI
    have e9 : x 129 = u 129 := S.1 129 (by decide)
    rw [← e9] at hR hw ⊢
    have G := pGo_ok (calm := true) hR hw m
    refine tX12_holds (fun m1 e1 => br_f (nI_pos (by omega)) (br_f (by rw [nI_lit, nI_ltI (by omega) (by omega)]; omega) ?_))
    refine s_keep e1 (fun w3 M3 => ⟨rfl, ?_⟩)
    refine s_go (calm := true) (m := m) rfl rfl (by omega) M3 hR hw (zFx.rf _) I2.1.2.1 (fun w4 M4 => ⟨_, rfl, ?_⟩)
    refine s_bottlesNow (n := n) (by rw [M4.2.2.2.1]; exact G.rg hR) ⟨_, rfl, ?_⟩
    refine s_bring M4 G.1 (fun w5 M5 => ⟨rfl, ?_, M5.2.2.1, S2.tr M5.same⟩)
    rw [M4.2.2.2.1]
  · refine Or.inr (tTX11_holds (Or.inl ⟨i_60 hb, zSame.rf u, ?_⟩))
    exact tX12_holds (fun m1 e1 => ⟨fun _ => zThr e1 (by simp), fun q => ⟨fun _ => zThr e1 (by simp), fun q2 => absurd (i_lim (n := 60) (by decide) hb q) q2⟩⟩)
theorem s_drySteps2 {d n k : Nat} {W : Nat → Int32} {u : zM} {Q : Option Value → zM → Prop} (hk : zShapes[k]? = some (.inl 1)) (hR : zRg W n) (hV : zDyV u k W) (h : Q (some (.int (zor (fun s => decide (0 < W (163 + 9 * s + 6))) n))) u) : zCall (d + 2) false 17 [.ref k] u Q := by
  have h8 := hR.1.1
  refine s_drySteps hk (hV.1.1.trans hR.1.2) h8 ?_
  rw [zor_congr n (q := fun s => decide (0 < W (163 + 9 * s + 6))) (fun s hs => by
    have e := hV.2.1 s 6 (by omega) (by decide)
    rw [show 6 * 8 + s = 48 + s by omega] at e
    rw [e])]
  exact h
theorem op_trial (a b : Int32) : zAskI 139 319 [.int a, .int b] [(1, 1)] := by
  intro u n hI
  have hR := hI.1.1
  have hw := hI.2.1.wf
  rcases i_cases a 61 (by decide) with ⟨m, hm, rfl⟩ | hb
  · refine Or.inl (t2X11_trial ⟨vp_in_nI hm (by decide), ?_⟩)
    refine s_draft hI (fun w1 d1 b1 => ⟨rfl, ?_⟩)
    refine s_wildMornings (k := 22) (m := m) rfl rfl (by omega) hR b1 (fun w2 q2 b2 => ⟨rfl, ?_⟩)
    have D2 := d1.tr q2.df
    have G0 := (pGo_ok (calm := false) hR hw m).rg hR
    have ref : ∀ o : Int32, zCall 60 false 319 [.ref 128, .int (nI m), .int b] (zUp w2 142 0 o) fun v2 z => v2 = some (.int (if b = 0 then pBot (pGo false (u 129) n m) n else zor (fun s => decide (0 < pGo false (u 129) n m (163 + 9 * s + 6))) n)) ∧ z 128 0 = 0 ∧ zSame w2 z := by
      intro o
      have S := D2.same.tr (zSame.o o)
      have S2 : zSame w2 (zUp w2 142 0 o) := zSame.o o
      obtain ⟨x, ex⟩ : ∃ x, x = zUp w2 142 0 o := ⟨_, rfl⟩
      rw [← ex] at S S2 ⊢
      have I2 := S.inv hI
      have e9 : x 129 = u 129 := S.1 129 (by decide)
      rw [← e9] at hR hw ⊢
      have G := pGo_ok (calm := false) hR hw m
      refine tX12_trial (fun m1 e1 => br_f (nI_pos (by omega)) (br_f (by rw [nI_lit, nI_ltI (by omega) (by omega)]; omega) ?_))
      refine s_keep e1 (fun w3 M3 => ⟨rfl, ?_⟩)
      refine s_go (calm := false) (m := m) rfl rfl (by omega) M3 hR hw (zFx.rf _) I2.1.2.1 (fun w4 M4 => ⟨_, rfl, ?_⟩)
      refine ⟨fun q => ?_, fun q => ?_⟩
      · refine s_bottlesNow (n := n) (by rw [M4.2.2.2.1]; exact G.rg hR) ⟨_, rfl, ?_⟩
        refine s_bring M4 G.1 (fun w5 M5 => ⟨rfl, ?_, M5.2.2.1, S2.tr M5.same⟩)
        rw [M4.2.2.2.1, if_pos q]
      · refine s_dryOnes (n := n) (by rw [M4.2.2.2.1]; exact (G.rg hR).1.2) hR.1.1 ⟨_, rfl, ?_⟩
        refine s_bring M4 G.1 (fun w5 M5 => ⟨rfl, ?_, M5.2.2.1, S2.tr M5.same⟩)
        rw [M4.2.2.2.1, if_neg q]
    refine ⟨fun q => ?_, fun q => ?_⟩
    · refine s_bottles (W := pGo false (u 129) n m) rfl G0 b2.1 ⟨_, rfl, D2.same, fun o => ?_⟩
      have := ref o
      rw [if_pos q] at this
      exact this
    · refine s_drySteps2 (W := pGo false (u 129) n m) rfl G0 b2.1 ⟨_, rfl, D2.same, fun o => ?_⟩
      have := ref o
      rw [if_neg q] at this
      exact this
  · refine Or.inr (tTX11_trial (Or.inl ⟨i_60 hb, zSame.rf u, ?_⟩))
    exact tX12_trial (fun m1 e1 => ⟨fun _ => zThr e1 (by simp), fun q => ⟨fun _ => zThr e1 (by simp), fun q2 => absurd (i_lim (n := 60) (by decide) hb q) q2⟩⟩)
theorem m_ahead {n s m w0 : Nat} {c : Int32} {u : zM} (hI : zInv u n) (hs : s < n) (hm : m ≤ 60) (hc : (c = nI 0 ∧ w0 = 3) ∨ (c = nI 1 ∧ w0 = 4) ∨ (c = nI 2 ∧ w0 = 2) ∨ (c = nI 3 ∧ w0 = 6)) : zCall 60 false 295 [.ref 128, .int (nI s), .int (nI m), .int c] u fun v2 z => v2 = some (.int (pGo true (u 129) n m (163 + 9 * s + w0))) ∧ z 128 0 = 0 ∧ zSame u z := by
  have hR := hI.1.1
  have hw := hI.2.1.wf
  have h8 := hR.1.1
  have G := pGo_ok (calm := true) hR hw m
  have a2 : (163 + (9 * nI s)) + 2 = nI (163 + 9 * s + 2) := ix_w s 2
  have a3 : (163 + (9 * nI s)) + 3 = nI (163 + 9 * s + 3) := ix_w s 3
  have a4 : (163 + (9 * nI s)) + 4 = nI (163 + 9 * s + 4) := ix_w s 4
  have a6 : (163 + (9 * nI s)) + 6 = nI (163 + 9 * s + 6) := ix_w s 6
  refine tX12_ahead (fun m1 e1 => ?_)
  have n0 : m1 129 0 = nI n := by rw [e1, zUp_k _ _ (by decide)]; exact hR.1.2
  have c0 : ¬ c < 0 := by rcases hc with ⟨rfl, -⟩ | ⟨rfl, -⟩ | ⟨rfl, -⟩ | ⟨rfl, -⟩ <;> decide
  have c3 : ¬ 3 < c := by rcases hc with ⟨rfl, -⟩ | ⟨rfl, -⟩ | ⟨rfl, -⟩ | ⟨rfl, -⟩ <;> decide
  rw [n0, a2, a3, a4, a6, ix_c (w := 2) (by omega) (by decide), ix_c (w := 3) (by omega) (by decide), ix_c (w := 4) (by omega) (by decide), ix_c (w := 6) (by omega) (by decide)]
  have ns : ¬ nI n - 1 < nI s := by
    rw [nI_lit, nI_sub (by show 1 ≤ n; omega), nI_ltI (by omega) (by omega)]
    show ¬ n - 1 < s
    omega
  refine br_f (nI_pos (by omega)) (br_f ns (br_f (nI_pos (by omega)) (br_f (by rw [nI_lit, nI_ltI (by omega) (by omega)]; omega) (br_f c0 (br_f c3 ?_)))))
  refine s_keep e1 (fun w3 M3 => ⟨rfl, ?_⟩)
  refine s_go (calm := true) (m := m) rfl rfl hm M3 hR hw (zFx.rf _) hI.1.2.1 (fun w4 M4 => ⟨_, rfl, ?_⟩)
  dsimp only
  rw [M4.2.2.2.1]
  have fin : ∀ z, z = w0 → zCV 59 258 [.ref 128] w4 fun w6 => (some (Value.int (pGo true (u 129) n m (163 + 9 * s + z))) : Option Value) = some (.int (pGo true (u 129) n m (163 + 9 * s + w0))) ∧ w6 128 0 = 0 ∧ zSame u w6 := fun z hz => by
    subst hz
    exact s_bring M4 G.1 (fun w5 M5 => ⟨rfl, rfl, M5.2.2.1, M5.same⟩)
  rcases hc with ⟨rfl, rfl⟩ | ⟨rfl, rfl⟩ | ⟨rfl, rfl⟩ | ⟨rfl, rfl⟩
  · exact ⟨fun q => absurd rfl q, fun _ => ⟨ix_v (by omega) (by decide), fin 3 rfl⟩⟩
  · exact ⟨fun _ => ⟨fun q => absurd rfl q, fun _ => ⟨ix_v (by omega) (by decide), fin 4 rfl⟩⟩, fun q => absurd q (by decide)⟩
  · exact ⟨fun _ => ⟨fun _ => ⟨fun q => absurd rfl q, fun _ => ⟨ix_v (by omega) (by decide), fin 2 rfl⟩⟩, fun q => absurd q (by decide)⟩, fun q => absurd q (by decide)⟩
  · exact ⟨fun _ => ⟨fun _ => ⟨fun _ => ⟨ix_v (by omega) (by decide), fin 6 rfl⟩, fun q => absurd q (by decide)⟩, fun q => absurd q (by decide)⟩, fun q => absurd q (by decide)⟩
theorem op_ahead (a b c : Int32) : zAskI 138 295 [.int a, .int b, .int c] [(2, 1), (1, 2), (5, 3)] := by
  intro u n hI
  have hR := hI.1.1
  have hw := hI.2.1.wf
  have h8 := hR.1.1
  have hu : u 4 3 = nI n := hI.1.2.2.1.1.1.trans hR.1.2
  rcases i_cases a n (by omega) with ⟨s, hs, rfl⟩ | ha
  · have pos := nI_pos' (n := s) (by omega)
    have lt : nI s < u 4 3 := by rw [hu]; exact nI_lt hs (by omega)
    have ns : ¬ nI n - 1 < nI s := by
      rw [nI_lit, nI_sub (by show 1 ≤ n; omega), nI_ltI (by omega) (by omega)]
      show ¬ n - 1 < s
      omega
    rcases i_cases b 61 (by decide) with ⟨m, hm, rfl⟩ | hb
    · rcases i_cases c 4 (by decide) with ⟨x, hx, rfl⟩ | hc
      · refine Or.inl (t2X11_ahead ⟨pos, lt, vp_in_nI hm (by decide), br_f (nI_pos (by omega)) (br_t (by rw [nI_lit, nI_leI (by omega) (by omega)]; omega) ?_)⟩)
        refine s_draft hI (fun w1 d1 b1 => ⟨rfl, ?_⟩)
        refine s_quietMornings (k := 22) (m := m) rfl rfl (by omega) hR b1 (fun w2 q2 b2 _ => ⟨rfl, ?_⟩)
        have D2 := d1.tr q2.df
        have fin : ∀ (w0 : Nat) (v : Int32), w0 < 9 → v = w2 24 (w0 * 8 + s) → ((nI x = nI 0 ∧ w0 = 3) ∨ (nI x = nI 1 ∧ w0 = 4) ∨ (nI x = nI 2 ∧ w0 = 2) ∨ (nI x = nI 3 ∧ w0 = 6)) → zSame u w2 ∧ ∀ o : Int32, zCall 60 false 295 [.ref 128, .int (nI s), .int (nI m), .int (nI x)] (zUp w2 142 0 o) fun v2 z => v2 = some (.int v) ∧ z 128 0 = 0 ∧ zSame w2 z := by
          intro w0 v hw0 hv hc
          refine ⟨D2.same, fun o => ?_⟩
          have S := D2.same.tr (zSame.o o)
          have S2 : zSame w2 (zUp w2 142 0 o) := zSame.o o
          have e9 : (zUp w2 142 0 o) 129 = u 129 := S.1 129 (by decide)
          refine zCall_m 60 false _ _ _ _ _ (fun v2 z y => ⟨?_, y.2.1, S2.tr y.2.2⟩) (m_ahead (S.inv hI) hs (by omega) hc)
          rw [y.1, e9, hv]
          congr 2
          exact (b2.1.2.1 s w0 (by omega) hw0).symm
        have c2 : ((2 : Int32) * 8) + nI s = nI (2 * 8 + s) := dv_ix 2 s
        have c3 : ((3 : Int32) * 8) + nI s = nI (3 * 8 + s) := dv_ix 3 s
        have c4 : ((4 : Int32) * 8) + nI s = nI (4 * 8 + s) := dv_ix 4 s
        have c6 : ((6 : Int32) * 8) + nI s = nI (6 * 8 + s) := dv_ix 6 s
        rw [c2, c3, c4, c6, nI_clamp (n := 2 * 8 + s) (by omega), nI_clamp (n := 3 * 8 + s) (by omega), nI_clamp (n := 4 * 8 + s) (by omega), nI_clamp (n := 6 * 8 + s) (by omega), nI_toInt (by omega)]
        have vs : vp_in (nI s) 8 := vp_in_nI (by omega) (by decide)
        refine ⟨fun q => ⟨vs, fin 6 _ (by decide) rfl (Or.inr (Or.inr (Or.inr ⟨by congr 1; omega, rfl⟩)))⟩, fun q => ⟨vs, fin 3 _ (by decide) rfl (Or.inl ⟨by congr 1; omega, rfl⟩)⟩, fun q => ⟨vs, fin 4 _ (by decide) rfl (Or.inr (Or.inl ⟨by congr 1; omega, rfl⟩))⟩, fun q => ⟨vs, fin 2 _ (by decide) rfl (Or.inr (Or.inr (Or.inl ⟨by congr 1; omega, rfl⟩)))⟩, trivial⟩
      · refine Or.inr (tTX11_ahead (Or.inr ⟨pos, lt, Or.inr ⟨vp_in_nI hm (by decide), ?_⟩⟩))
        have ref : zSame u u ∧ zCall 60 false 295 [.ref 128, .int (nI s), .int (nI m), .int c] u fun _ w2 => zSame u w2 ∧ ∃ E c', some (Value.int 5) = some (.int E) ∧ (E, c') ∈ [((2 : Int32), (1 : Int32)), (1, 2), (5, 3)] ∧ w2 128 0 = c' := by
          refine ⟨zSame.rf u, tX12_ahead (fun m1 e1 => ?_)⟩
          have n0 : m1 129 0 = nI n := by rw [e1, zUp_k _ _ (by decide)]; exact hR.1.2
          rw [n0]
          exact br_f (nI_pos (by omega)) (br_f ns (br_f (nI_pos (by omega)) (br_f (by rw [nI_lit, nI_ltI (by omega) (by omega)]; omega) ⟨fun _ => zThr e1 (by simp), fun q => ⟨fun _ => zThr e1 (by simp), fun q2 => absurd (i_lim (n := 3) (by decide) hc q) q2⟩⟩)))
        refine ⟨fun _ => ref, fun q => ⟨fun q2 => absurd (i_lim (n := 3) (by decide) hc q) (Int32.not_lt.mpr q2), fun _ => ref⟩⟩
    · refine Or.inr (tTX11_ahead (Or.inr ⟨pos, lt, Or.inl ⟨i_60 hb, zSame.rf u, ?_⟩⟩))
      refine tX12_ahead (fun m1 e1 => ?_)
      have n0 : m1 129 0 = nI n := by rw [e1, zUp_k _ _ (by decide)]; exact hR.1.2
      rw [n0]
      exact br_f (nI_pos (by omega)) (br_f ns ⟨fun _ => zThr e1 (by simp), fun q => ⟨fun _ => zThr e1 (by simp), fun q2 => absurd (i_lim (n := 60) (by decide) hb q) q2⟩⟩)
  · refine Or.inr (tTX11_ahead (Or.inl ⟨by rw [hu]; exact ha, zSame.rf u, ?_⟩))
    refine tX12_ahead (fun m1 e1 => ?_)
    have n0 : m1 129 0 = nI n := by rw [e1, zUp_k _ _ (by decide)]; exact hR.1.2
    rw [n0]
    exact ⟨fun _ => zThr e1 (by simp), fun q => ⟨fun _ => zThr e1 (by simp), fun q2 => absurd (i_top2 h8 ha q) q2⟩⟩
