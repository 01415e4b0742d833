theorem zRide_cong {F : Nat → Nat → Nat} {K p0 : Nat} {cn cn2 : Nat → Nat} {no no2 : Nat → Bool} {st st2 : Nat → Nat} (h8 : ∀ k, st k < 8) (h1 : ∀ t, t < 8 → cn2 t = cn t) (h2 : ∀ t, t < 8 → no2 t = no t) : ∀ i, (∀ k, k < i → st2 k = st k) → zRide F K cn2 no2 st2 p0 i = zRide F K cn no st p0 i
  | 0, _ => rfl
  | i + 1, h => by
    have ih := zRide_cong (F := F) (K := K) (p0 := p0) h8 h1 h2 i (fun k hk => h k (by omega))
    show zGoTo F K cn2 no2 (zRide F K cn2 no2 st2 p0 i) (st2 i) = zGoTo F K cn no (zRide F K cn no st p0 i) (st i)
    rw [ih, h i (by omega)]
    exact zGoTo_cong (h1 _ (h8 i)) (h2 _ (h8 i))
/-- what the rides hang on -/
def zRe (W V : Nat → Int32) : Prop := (∀ k, k < 163 → k ≠ 9 → k ≠ 10 → V k = W k) ∧ ∀ t, t < 8 → V (163 + 9 * t) = W (163 + 9 * t) ∧ V (163 + 9 * t + 7) = W (163 + 9 * t + 7)
theorem pRide_re {W V : Nat → Int32} {n : Nat} (hR : zRg W n) (h : zRe W V) : pRide V n = pRide W n := by
  have h8 := hR.1.1
  have e : rdN V = rdN W := by
    funext a b
    unfold rdN
    by_cases q : a < 12 ∧ b < 12
    · rw [if_pos q, if_pos q, h.1 _ (by omega) (by omega) (by omega)]
    · rw [if_neg q, if_neg q]
  have eF : zFar V = zFar W := by unfold zFar; rw [e]
  unfold pRide zRdF
  rw [h.1 5 (by decide) (by decide) (by decide), h.1 4 (by decide) (by decide) (by decide), eF]
  refine zRide_cong (stN_lt W) (fun t ht => ?_) (fun t ht => ?_) n (fun k hk => ?_)
  · unfold cnN; rw [(h.2 t ht).1]
  · unfold zNo; rw [(h.2 t ht).2, h.1 3 (by decide) (by decide) (by decide)]
  · unfold stN; rw [h.1 (155 + k) (by omega) (by omega) (by omega)]
theorem pMorn_3 {W : Nat → Int32} {n : Nat} (hR : zRg W n) (hw : lwWf W) : pMorn true W n 3 = if W 3 + 1 < 9999 then W 3 + 1 else 9999 := by
  have h1 := pDelL_ok hR
  have R1 := h1.rg hR
  have W1 := h1.1.wf hw
  have h2 := pDrinks_ok R1 W1 n (Nat.le_refl _)
  have h3 := pSours_ok (h2.rg R1) (h2.1.wf W1) n (Nat.le_refl _)
  have e : pMorn true W n = pDay (pAll pSour (pAll pDrink (pDelL W n) n) n) := rfl
  rw [e]
  unfold pDay
  rw [upd_at, h3.2.2, h2.2.2, h1.2.2]
theorem pMorn_re {W V : Nat → Int32} {n : Nat} (hR : zRg W n) (hw : lwWf W) (hR2 : zRg V n) (hw2 : lwWf V) (h : zRe W V) : zRe (pMorn true W n) (pMorn true V n) := by
  have f1 := (pMorn_ok (calm := true) hR hw).1
  have f2 := (pMorn_ok (calm := true) hR2 hw2).1
  refine ⟨fun k h1 h2 h3 => ?_, fun t ht => ⟨?_, ?_⟩⟩
  · by_cases q : k = 3
    · subst q
      rw [pMorn_3 hR hw, pMorn_3 hR2 hw2, h.1 3 (by decide) (by decide) (by decide)]
    · rw [f1.1 k h1 q h2 h3, f2.1 k h1 q h2 h3]; exact h.1 k h1 h2 h3
  · rw [(f1.2.2 t ht).1, (f2.2.2 t ht).1]; exact (h.2 t ht).1
  · rw [(f1.2.2 t ht).2.2.1, (f2.2.2 t ht).2.2.1]; exact (h.2 t ht).2
theorem pDrinks_2 {W : Nat → Int32} {s : Nat} : ∀ i, pAll pDrink W i (163 + 9 * s + 2) = W (163 + 9 * s + 2)
  | 0 => rfl
  | i + 1 => by
    have ih := pDrinks_2 (W := W) (s := s) i
    show pDrink (pAll pDrink W i) i (163 + 9 * s + 2) = _
    unfold pDrink
    split
    · split
      · rw [upd_ne _ _ (by omega), upd_ne _ _ (by omega)]; exact ih
      · rw [upd_ne _ _ (by omega), upd_ne _ _ (by omega), upd_ne _ _ (by omega)]; exact ih
    · rw [upd_ne _ _ (by omega), upd_ne _ _ (by omega), upd_ne _ _ (by omega)]; exact ih
theorem pSours_2 {W : Nat → Int32} {s : Nat} : ∀ i, pAll pSour W i (163 + 9 * s + 2) = W (163 + 9 * s + 2)
  | 0 => rfl
  | i + 1 => by
    have ih := pSours_2 (W := W) (s := s) i
    show pSour (pAll pSour W i) i (163 + 9 * s + 2) = _
    unfold pSour pTurn
    rw [upd_ne _ _ (by omega), upd_ne _ _ (by omega), upd_ne _ _ (by omega)]; exact ih
theorem pGets_2 {W : Nat → Int32} {s c p : Nat} (ec : W (163 + 9 * s + 2) = nI c) (ep : W 6 = nI p) (hc : c ≤ 9999) (hp : p ≤ 20) : ∀ b, p * b ≤ c → pGets W s b (163 + 9 * s + 2) = nI (c - p * b)
  | 0, _ => by rw [Nat.mul_zero]; exact ec
  | b + 1, h => by
    have e : p * (b + 1) = p * b + p := Nat.mul_succ p b
    have ih := pGets_2 ec ep hc hp b (by omega)
    have e6 : pGets W s b 6 = nI p := (pGets_out (by omega) b).trans ep
    show pGet1 (pGets W s b) s (163 + 9 * s + 2) = _
    unfold pGet1
    rw [ih, e6, if_neg (by rw [nI_ltI (by omega) (by omega)]; omega), upd_ne _ _ (by omega), upd_at, nI_sub (by omega)]
    congr 1; omega
theorem zRide_lf0 {F : Nat → Nat → Nat} {K p0 : Nat} {cn : Nat → Nat} {no : Nat → Bool} {st : Nat → Nat} (hs : ∀ k, st k < 8) {s : Nat} (h8 : s < 8) : ∀ i, tb (zRide F K cn no st p0 i).came s = false → (zRide F K cn no st p0 i).lf s = 0
  | 0, _ => rfl
  | i + 1, h => by
    by_cases q : zGoes F cn (zRide F K cn no st p0 i) (st i)
    · rw [zRide_yes q] at h ⊢
      have h2 : tb ((zRide F K cn no st p0 i).came ||| zBit (st i)) s = false := h
      rw [tb_or, tb_bit _ (hs i) s (by omega), Bool.or_eq_false_iff, decide_eq_false_iff_not] at h2
      show upd (zRide F K cn no st p0 i).lf (st i) _ s = 0
      rw [upd_ne _ _ h2.2]
      exact zRide_lf0 hs h8 i h2.1
    · rw [zRide_no q] at h ⊢
      exact zRide_lf0 hs h8 i h
/-- how many bottles a step gets on a day -/
def pGot (W : Nat → Int32) (n s : Nat) : Nat := ((pRide W n).lf s).toNatClampNeg
theorem pGot_is {W : Nat → Int32} {n s : Nat} (hR : zRg W n) : pGot W n s ≤ 2 ∧ (pRide W n).lf s = nI (pGot W n s) := by
  obtain ⟨K, p0, -, -, -, -, e, -⟩ := pRide_is hR n
  obtain ⟨b, hb, eb⟩ := zRide_lf (F := zFar W) (K := K) (p0 := p0) (cn := cnN W) (no := zNo W) (st := stN W) s n
  rw [← e] at eb
  unfold pGot
  rw [eb, nI_clamp (by omega)]
  exact ⟨hb, rfl⟩
theorem pMorn_2 {W : Nat → Int32} {n s c p : Nat} (hR : zRg W n) (hs : s < n) (ec : W (163 + 9 * s + 2) = nI c) (ep : W 6 = nI p) (hc : c ≤ 9999) (hp : p ≤ 20) (hb : p * pGot W n s ≤ c) : pMorn true W n (163 + 9 * s + 2) = nI (c - p * pGot W n s) := by
  have h8 := hR.1.1
  have e : pMorn true W n = pDay (pAll pSour (pAll pDrink (pDelL W n) n) n) := rfl
  rw [e]
  unfold pDay
  rw [upd_ne _ _ (by omega), pSours_2, pDrinks_2]
  unfold pDelL
  rw [pLogs_ne (by omega) n]
  have ed : pDel W n (163 + 9 * s + 2) = pCome (pRide W n) W s (163 + 9 * s + 2) := (pDel_at (r := pRide W n) (W := W) n).2 s 2 hs (by decide)
  rw [ed]
  unfold pCome
  by_cases q : tb (pRide W n).came s = true
  · rw [if_pos q]
    unfold pRecv
    rw [upd_ne _ _ (by omega)]
    exact pGets_2 ec ep hc hp _ hb
  · rw [if_neg q]
    obtain ⟨K, p0, -, -, -, -, e2, -⟩ := pRide_is hR n
    have l0 : (pRide W n).lf s = 0 := by
      rw [e2] at q ⊢
      exact zRide_lf0 (stN_lt W) (by omega) n (by simpa using q)
    have g0 : pGot W n s = 0 := by unfold pGot; rw [l0]; rfl
    rw [g0, Nat.mul_zero]; exact ec
def pHad (W : Nat → Int32) (n s : Nat) : Nat → Nat
  | 0 => 0
  | i + 1 => pHad W n s i + pGot (pGo true W n i) n s
theorem pHad_le {W : Nat → Int32} {n s : Nat} (hR : zRg W n) (hw : lwWf W) : ∀ i, pHad W n s i ≤ 2 * i
  | 0 => Nat.le_refl _
  | i + 1 => by
    have ih := pHad_le (s := s) hR hw i
    have g := (pGot_is (s := s) (pGo_fx hR hw i).1).1
    show pHad W n s i + pGot (pGo true W n i) n s ≤ _
    omega
/-- with credit enough, all that is left is paid -/
theorem pPaid {W V : Nat → Int32} {n s p : Nat} (hR : zRg W n) (hw : lwWf W) (hR2 : zRg V n) (hw2 : lwWf V) (h : zRe W V) (hs : s < n) (e2 : V (163 + 9 * s + 2) = nI 9999) (ep : W 6 = nI p) (hp : p ≤ 20) : ∀ i, i ≤ 60 → zRe (pGo true W n i) (pGo true V n i) ∧ pGo true V n i (163 + 9 * s + 2) = nI (9999 - p * pHad W n s i)
  | 0, _ => ⟨h, by rw [show pHad W n s 0 = 0 from rfl, Nat.mul_zero]; exact e2⟩
  | i + 1, hi => by
    obtain ⟨h1, h2⟩ := pPaid hR hw hR2 hw2 h hs e2 ep hp i (by omega)
    have G1 := pGo_fx hR hw i
    have G2 := pGo_fx hR2 hw2 i
    have eg : pGot (pGo true V n i) n s = pGot (pGo true W n i) n s := by unfold pGot; rw [pRide_re G1.1 h1]
    have g2 := (pGot_is (s := s) G1.1).1
    have hl := pHad_le (s := s) hR hw i
    have m1 : p * pHad W n s i ≤ 20 * 120 := Nat.mul_le_mul hp (by omega)
    have m2 : p * pGot (pGo true W n i) n s ≤ 20 * 2 := Nat.mul_le_mul hp g2
    have e6 : pGo true V n i 6 = nI p := by rw [h1.1 6 (by decide) (by decide) (by decide), G1.2.2.1 6 (by decide) (by decide) (by decide) (by decide)]; exact ep
    refine ⟨pMorn_re G1.1 G1.2.1 G2.1 G2.2.1 h1, ?_⟩
    show pMorn true (pGo true V n i) n (163 + 9 * s + 2) = _
    rw [pMorn_2 G2.1 hs h2 e6 (by omega) hp (by rw [eg]; omega), eg]
    congr 1
    show 9999 - p * pHad W n s i - p * pGot (pGo true W n i) n s = 9999 - p * (pHad W n s i + pGot (pGo true W n i) n s)
    rw [Nat.mul_add]; omega
theorem m_pays {n s m p : Nat} {u : zM} (hI : zInv u n) (hs : s < n) (hm : m ≤ 60) (ep : u 129 6 = nI p) (hp : p ≤ 20) : zCall 60 false 292 [.ref 128, .int (nI s), .int (nI m)] u fun v2 z => v2 = some (.int (if p * (pHad (u 129) n s m + 1) ≤ 999 then nI (p * (pHad (u 129) n s m + 1)) else -1)) ∧ z 128 0 = 0 ∧ zSame u z := by
  have hR := hI.1.1
  have hw := hI.2.1.wf
  have h8 := hR.1.1
  have F : zFx (u 129) (upd (u 129) (163 + 9 * s + 2) (nI 9999)) := zFx.val s 2 _ (by omega) (by omega) (by omega)
  have ST : zStp (u 129) (upd (u 129) (163 + 9 * s + 2) (nI 9999)) := (zStp.rf hR.vs).up 2 (by omega) (by omega) (by omega) (c := 9999) (Nat.le_refl _) rfl
  have RE : zRe (u 129) (upd (u 129) (163 + 9 * s + 2) (nI 9999)) := ⟨fun k a _ _ => upd_ne _ _ (by omega), fun t ht => ⟨upd_ne _ _ (by omega), upd_ne _ _ (by omega)⟩⟩
  have PP := (pPaid hR hw (ST.rg hR) (F.wf hw) RE hs (upd_at _ _ _) ep hp m hm).2
  have hl := pHad_le (s := s) hR hw m
  have m1 : p * pHad (u 129) n s m ≤ 20 * 120 := Nat.mul_le_mul hp (by omega)
  have a2 : (163 + (9 * nI s)) + 2 = nI (163 + 9 * s + 2) := ix_w s 2
  refine tX12_pays (fun m1 e1 => ?_)
  have n0 : m1 129 0 = nI n := by rw [e1, zUp_k _ _ (by decide)]; exact hR.1.2
  have ns : ¬ nI n - 1 < nI s := by
    rw [nI_lit, nI_sub (by show 1 ≤ n; omega), nI_ltI (by omega) (by omega)]
    show ¬ n - 1 < s
    omega
  rw [n0, a2, ix_c (w := 2) (by omega) (by decide)]
  refine br_f (nI_pos (by omega)) (br_f ns (br_f (nI_pos (by omega)) (br_f (by rw [nI_lit, nI_ltI (by omega) (by omega)]; omega) ?_)))
  refine s_keep e1 (fun w3 M3 => ⟨rfl, ix_v (by omega) (by decide), fun m4 i4 => ?_⟩)
  have M4 : zMd u m4 (upd (u 129) (163 + 9 * s + 2) (nI 9999)) := by
    obtain ⟨f1, f2, f3, f4, f5⟩ := M3
    refine ⟨fun k x y z t => by rw [i4, zUp_k _ _ y]; exact f1 k x y z t, fun j x y => by rw [i4, zUp_kj _ _ (by decide)]; exact f2 j x y, by rw [i4, zUp_kj _ _ (by decide)]; exact f3, by rw [i4, zUp_row, f4]; rfl, fun j hj => by rw [i4, zUp_kj _ _ (by decide)]; exact f5 j hj⟩
  refine s_go (calm := true) (m := m) rfl rfl hm M4 (ST.rg hR) (F.wf hw) F hI.1.2.1 (fun w5 M5 => ⟨_, rfl, ix_v (by omega) (by decide), ?_⟩)
  refine s_bring M5 (F.tr (pGo_fx (ST.rg hR) (F.wf hw) m).2.2) (fun w6 M6 => ⟨rfl, ?_⟩)
  have e5 : w5 129 (163 + 9 * s + 2) = nI (9999 - p * pHad (u 129) n s m) := by rw [M5.2.2.2.1]; exact PP
  have e6 : w6 129 6 = nI p := by rw [M6.2.2.2.1]; exact ep
  have ev : (9999 - w5 129 (163 + 9 * s + 2)) + w6 129 6 = nI (p * (pHad (u 129) n s m + 1)) := by
    rw [e5, e6, nI_lit, nI_sub (by show 9999 - p * pHad (u 129) n s m ≤ 9999; omega), nI_add]
    congr 1
    show 9999 - (9999 - p * pHad (u 129) n s m) + p = p * (pHad (u 129) n s m + 1)
    rw [Nat.mul_succ]; omega
  have ml : p * (pHad (u 129) n s m + 1) ≤ 20 * 121 := Nat.mul_le_mul hp (by omega)
  dsimp only
  rw [ev]
  refine ⟨fun q => ⟨?_, M6.2.2.1, M6.same⟩, fun q => ⟨?_, M6.2.2.1, M6.same⟩⟩
  · rw [nI_lit, nI_leI (by omega) (by omega)] at q
    rw [if_pos q]
  · rw [nI_lit, nI_leI (by omega) (by omega)] at q
    rw [if_neg q]
theorem op_pays (a b : Int32) : zAskI 136 292 [.int a, .int b] [(2, 1), (1, 2)] := by
  intro u n hI
  have hR := hI.1.1
  have hw := hI.2.1.wf
  have h8 := hR.1.1
  have hu : u 4 3 = nI n := hI.1.2.2.1.1.1.trans hR.1.2
  obtain ⟨p, hp, ep⟩ := hR.2.2.2.2.2.2.1
  rcases i_cases a n (by omega) with ⟨s, hs, rfl⟩ | ha
  · have pos := nI_pos' (n := s) (by omega)
    have lt : nI s < u 4 3 := by rw [hu]; exact nI_lt hs (by omega)
    have ns : ¬ nI n - 1 < nI s := by
      rw [nI_lit, nI_sub (by show 1 ≤ n; omega), nI_ltI (by omega) (by omega)]
      show ¬ n - 1 < s
      omega
    rcases i_cases b 61 (by decide) with ⟨m, hm, rfl⟩ | hb
    · refine Or.inl (t2X11_pays ⟨pos, lt, vp_in_nI hm (by decide), ?_⟩)
      refine s_draft hI (fun w1 d1 b1 => ⟨rfl, ?_⟩)
      refine zFor (σ := zM) (Pr := fun i w => zRun 59 false zcX11_pays 1 _ 25 [(0, .ref 0), (1, .int (nI s)), (2, .int (nI m)), (3, .int (nI (pHad (u 129) n s i))), (4, .int (nI i))] [] w) (fun i w => zDf u w ∧ zSb w 22 (pGo true (u 129) n i)) m (fun w hx => ?_) (fun i w hi hx ih => ?_) w1 ⟨d1, b1⟩
      · obtain ⟨f1, f2⟩ := hx
        have r7 : w 4 7 = nI p := by rw [f1 4 (by decide), hI.1.2.2.1.1.2.2.2.2.1]; exact ep
        have hl := pHad_le (s := s) hR hw m
        have ml : p * (pHad (u 129) n s m + 1) ≤ 20 * 121 := Nat.mul_le_mul hp (by omega)
        have fin : ∀ v, v = (if p * (pHad (u 129) n s m + 1) ≤ 999 then nI (p * (pHad (u 129) n s m + 1)) else -1) → zSame u w ∧ ∀ o : Int32, zCall 60 false 292 [.ref 128, .int (nI s), .int (nI m)] (zUp w 142 0 o) fun v2 w2 => v2 = some (.int v) ∧ w2 128 0 = 0 ∧ zSame w w2 := by
          intro v hv
          refine ⟨f1.same, fun o => ?_⟩
          have S := f1.same.tr (zSame.o o)
          have S2 : zSame w (zUp w 142 0 o) := zSame.o o
          have e9 : (zUp w 142 0 o) 129 = u 129 := S.1 129 (by decide)
          have h := m_pays (S.inv hI) hs (m := m) (p := p) (by omega) (by rw [e9]; exact ep) hp
          rw [e9] at h
          exact zCall_m 60 false _ _ _ _ _ (fun v2 z y => ⟨by rw [y.1, hv], y.2.1, S2.tr y.2.2⟩) h
        refine t2X11_pays_25 (br_t (Int32.le_refl _) ?_)
        rw [r7, nI_1, nI_mul]
        refine ⟨fun q => fin _ ?_, fun q => fin _ ?_⟩
        · rw [nI_lit, nI_leI (by omega) (by omega)] at q
          rw [if_pos q]
        · rw [nI_lit, nI_leI (by omega) (by omega)] at q
          rw [if_neg q]
      · obtain ⟨f1, f2⟩ := hx
        have G := pGo_fx hR hw i
        refine t2X11_pays_25 (br_f (by rw [nI_leI (by omega) (by omega)]; omega) ?_)
        refine s_quietMornings (k := 22) (m := 1) rfl rfl (by omega) G.1 f2 (fun w2 q2 b2 x2 => ⟨rfl, vp_in_nI (by omega) (by decide), ?_⟩)
        have e1 : pGo true (pGo true (u 129) n i) n 1 = pGo true (u 129) n (i + 1) := rfl
        rw [e1] at b2
        have l2 : w2 39 s = nI (pGot (pGo true (u 129) n i) n s) := ((x2 0 rfl).2.2.2 s (by omega)).trans (pGot_is (s := s) G.1).2
        rw [nI_clamp (n := s) (by omega), l2, nI_add, nI_1 i]
        exact ih w2 ⟨f1.tr q2.df, b2⟩
    · refine Or.inr (tTX11_pays (Or.inr ⟨pos, lt, Or.inl ⟨i_60 hb, zSame.rf u, ?_⟩⟩))
      refine tX12_pays (fun m1 e1 => ?_)
      have n0 : m1 129 0 = nI n := by rw [e1, zUp_k _ _ (by decide)]; exact hR.1.2
      rw [n0]
      exact br_f (nI_pos (by omega)) (br_f ns ⟨fun _ => zThr e1 (by simp), fun q => ⟨fun _ => zThr e1 (by simp), fun q2 => absurd (i_lim (n := 60) (by decide) hb q) q2⟩⟩)
  · refine Or.inr (tTX11_pays (Or.inl ⟨by rw [hu]; exact ha, zSame.rf u, ?_⟩))
    refine tX12_pays (fun m1 e1 => ?_)
    have n0 : m1 129 0 = nI n := by rw [e1, zUp_k _ _ (by decide)]; exact hR.1.2
    rw [n0]
    exact ⟨fun _ => zThr e1 (by simp), fun q => ⟨fun _ => zThr e1 (by simp), fun q2 => absurd (i_top2 h8 ha q) q2⟩⟩
