def spF (a2 : Int32) (B : Nat → Int32) : Nat → Int32
  | 0 => -1
  | i + 1 => if spF a2 B i = -1 then B (i + 1) else if a2 = 0 then (if B (i + 1) < spF a2 B i then B (i + 1) else spF a2 B i) else (if spF a2 B i < B (i + 1) then B (i + 1) else spF a2 B i)
theorem spF_nat {a2 : Int32} {B : Nat → Int32} (h : ∀ i, ∃ c, c ≤ 1000 ∧ B i = nI c) : ∀ i, 0 < i → ∃ c, c ≤ 1000 ∧ spF a2 B i = nI c
  | 0, q => absurd q (Nat.lt_irrefl _)
  | i + 1, _ => by
    unfold spF
    split
    · exact h _
    · rename_i q
      have hi : 0 < i := by
        rcases Nat.eq_zero_or_pos i with z | z
        · subst z; exact absurd rfl q
        · exact z
      have ih := spF_nat (a2 := a2) h i hi
      split
      · split
        · exact h _
        · exact ih
      · split
        · exact h _
        · exact ih
def spB (W : Nat → Int32) (n m i : Nat) : Int32 := pBot (pGo false (upd W 10 (nI i)) n m) n
theorem zDyV.sd {w : zM} {k : Nat} {W : Nat → Int32} (x : Int32) (h : zDyV w k W) : zDyV (zUp w k 11 x) k (upd W 10 x) := by
  obtain ⟨⟨a1, a2, a3, a4, a5, a6, a7, a8, a9⟩, b, c⟩ := h
  have e : ∀ j, j ≠ 10 → upd W 10 x j = W j := fun j hj => upd_ne _ _ hj
  refine ⟨⟨?_, ?_, ?_, ?_, ?_, ?_, ?_, ?_, ?_⟩, fun s y hs hy => ?_, fun p hp => ?_⟩
  · rw [zUp_j _ _ (by decide), e _ (by decide)]; exact a1
  · rw [zUp_j _ _ (by decide), e _ (by decide)]; exact a2
  · rw [zUp_j _ _ (by decide), e _ (by decide)]; exact a3
  · rw [zUp_j _ _ (by decide), e _ (by decide)]; exact a4
  · rw [zUp_j _ _ (by decide), e _ (by decide)]; exact a5
  · rw [zUp_j _ _ (by decide), e _ (by decide)]; exact a6
  · rw [zUp_j _ _ (by decide), e _ (by decide)]; exact a7
  · rw [zUp_j _ _ (by decide), e _ (by decide)]; exact a8
  · rw [zUp_at, upd_at]
  · rw [zUp_kj _ _ (by omega), e _ (by omega)]; exact b s y hs hy
  · rw [zUp_kj _ _ (by omega), e _ (by omega)]; exact c p hp
theorem zSb.sd {w : zM} {k : Nat} {W : Nat → Int32} (x : Int32) (h : zSb w k W) : zSb (zUp w (k + 1) 11 x) k (upd W 10 x) := by
  have F : zFx W (upd W 10 x) := zFx.num 10 x (by omega)
  refine ⟨h.1.sd x, (h.2.1.congr (zUp_k _ _ (by omega)) (zUp_k _ _ (by omega))).row (fun i a b => F.1 i (by omega) (by omega) (by omega) (by omega)), (h.2.2.congr (zUp_kj _ _ (by omega)) (fun c a b => zUp_k _ _ (by omega))).row (F.1 2 (by decide) (by decide) (by decide) (by decide)) F.2.1⟩
theorem m_span {n m : Nat} {b : Int32} {u : zM} (hI : zInv u n) (hm : m ≤ 60) : zCall 60 false 320 [.ref 128, .int (nI m), .int b] u fun v2 z => v2 = some (.int (spF b (spB (u 129) n m) 6)) ∧ z 128 0 = 0 ∧ zSame u z := by
  have hR := hI.1.1
  have hw := hI.2.1.wf
  have RS : ∀ i, zStp (u 129) (upd (u 129) 10 (nI i)) := fun i => (zStp.rf hR.vs).sd
  have G := fun i => pGo_ok (calm := false) ((RS i).rg hR) ((RS i).1.wf hw) m
  have GR := fun i => (G i).rg ((RS i).rg hR)
  have Bn : ∀ i, ∃ c, c ≤ 1000 ∧ spB (u 129) n m i = nI c := fun i => pBot_nat (GR i)
  refine tX12_span (fun m1 e1 => br_f (nI_pos (by omega)) (br_f (by rw [nI_lit, nI_ltI (by omega) (by omega)]; omega) ?_))
  refine s_keep e1 (fun w3 M3 => ⟨rfl, ?_⟩)
  refine zFor (σ := zM) (Pr := fun i w => zRun 59 false zcX12_span 1 _ 28 [(0, .ref 128), (1, .int (nI m)), (2, .int b), (3, .int (spF b (spB (u 129) n m) i)), (4, .int (nI (i + 1)))] [] w) (fun i w => zMd u w (u 129)) 6 (fun w hM => ?_) (fun i w hi hM ih => ?_) w3 M3
  · exact tX12_span_28 (br_t (by decide) ⟨rfl, hM.2.2.1, hM.same⟩)
  · refine tX12_span_28 (br_f (by rw [nI_lit, nI_ltI (by omega) (by omega)]; omega) (fun m4 i4 => ?_))
    have M4 : zMd u m4 (upd (u 129) 10 (nI (i + 1))) := by
      obtain ⟨f1, f2, f3, f4, f5⟩ := hM
      refine ⟨fun k x y z t => by rw [i4, zUp_k _ _ y]; exact f1 k x y z t, fun j x y => by rw [i4, zUp_kj _ _ (by decide)]; exact f2 j x y, by rw [i4, zUp_kj _ _ (by decide)]; exact f3, by rw [i4, zUp_row, f4], fun j hj => by rw [i4, zUp_kj _ _ (by decide)]; exact f5 j hj⟩
    refine s_go (calm := false) (m := m) rfl rfl hm M4 ((RS (i + 1)).rg hR) ((RS (i + 1)).1.wf hw) (RS (i + 1)).1 hI.1.2.1 (fun w5 M5 => ⟨_, rfl, ?_⟩)
    refine s_bottlesNow (n := n) (by rw [M5.2.2.2.1]; exact GR (i + 1)) ⟨_, rfl, ?_⟩
    refine s_bring M5 ((RS (i + 1)).1.tr (G (i + 1)).1) (fun w6 M6 => ⟨rfl, ?_⟩)
    have ex : pBot (w5 129) n = spB (u 129) n m (i + 1) := by rw [M5.2.2.2.1]; rfl
    rw [ex, nI_1 (i + 1)]
    have h6 := ih w6 M6
    have st : spF b (spB (u 129) n m) (i + 1) = if spF b (spB (u 129) n m) i = -1 then spB (u 129) n m (i + 1) else if b = 0 then (if spB (u 129) n m (i + 1) < spF b (spB (u 129) n m) i then spB (u 129) n m (i + 1) else spF b (spB (u 129) n m) i) else (if spF b (spB (u 129) n m) i < spB (u 129) n m (i + 1) then spB (u 129) n m (i + 1) else spF b (spB (u 129) n m) i) := rfl
    rw [st] at h6
    rcases Nat.eq_zero_or_pos i with z | z
    · subst z
      have z0 : spF b (spB (u 129) n m) 0 = -1 := rfl
      rw [z0] at h6 ⊢
      rw [if_pos rfl] at h6
      exact br_f (by decide) h6
    · obtain ⟨c, hc, ec⟩ := spF_nat (a2 := b) Bn i z
      have ne : ¬ spF b (spB (u 129) n m) i = -1 := by rw [ec]; exact nI_m1 (by omega)
      rw [if_neg ne] at h6
      refine br_t (by rw [ec]; exact nI_pos' (by omega)) ⟨fun q => ?_, fun q => ?_⟩
      · rw [if_pos q] at h6; exact h6
      · rw [if_neg q] at h6; exact h6
theorem op_span (a b : Int32) : zAskI 140 320 [.int a, .int b] [(1, 1)] := by
  intro u n hI
  have hR := hI.1.1
  have hw := hI.2.1.wf
  rcases i_cases a 61 (by decide) with ⟨m, hm, rfl⟩ | hb
  · have RS : ∀ i, zStp (u 129) (upd (u 129) 10 (nI i)) := fun i => (zStp.rf hR.vs).sd
    have G := fun i => pGo_ok (calm := false) ((RS i).rg hR) ((RS i).1.wf hw) m
    have GR := fun i => (G i).rg ((RS i).rg hR)
    refine Or.inl (t2X11_span ⟨vp_in_nI hm (by decide), ?_⟩)
    refine zFor (σ := zM) (Pr := fun i w => zRun 59 false zcX11_span 1 _ 9 [(0, .ref 0), (1, .int (nI m)), (2, .int b), (3, .int (spF b (spB (u 129) n m) i)), (4, .int (nI (i + 1)))] [] w) (fun i w => zDf u w) 6 (fun w hD => ?_) (fun i w hi hD ih => ?_) u (fun _ _ => rfl)
    · refine t2X11_span_9 (br_t (by decide) ⟨hD.same, fun o => ?_⟩)
      have S := hD.same.tr (zSame.o o)
      have S2 : zSame w (zUp w 142 0 o) := zSame.o o
      have e9 : (zUp w 142 0 o) 129 = u 129 := S.1 129 (by decide)
      have h := m_span (b := b) (S.inv hI) (m := m) (by omega)
      rw [e9] at h
      exact zCall_m 60 false _ _ _ _ _ (fun v2 z y => ⟨y.1, y.2.1, S2.tr y.2.2⟩) h
    · have Iw := hD.same.inv hI
      have e9 : w 129 = u 129 := hD 129 (by decide)
      refine t2X11_span_9 (br_f (by rw [nI_lit, nI_ltI (by omega) (by omega)]; omega) ?_)
      refine s_draft Iw (fun w1 d1 b1 => ⟨rfl, fun m3 i3 => ?_⟩)
      rw [e9] at b1
      have b3 : zSb m3 22 (upd (u 129) 10 (nI (i + 1))) := by rw [i3]; exact b1.sd _
      have d3 : zDf u m3 := hD.tr (d1.tr (fun c hc => by rw [i3, zUp_k _ _ (by omega)]))
      refine s_wildMornings (k := 22) (m := m) rfl rfl (by omega) ((RS (i + 1)).rg hR) b3 (fun w4 q4 b4 => ⟨rfl, ?_⟩)
      refine s_bottles (W := pGo false (upd (u 129) 10 (nI (i + 1))) n m) rfl (GR (i + 1)) b4.1 ⟨_, rfl, ?_⟩
      have ex : pBot (pGo false (upd (u 129) 10 (nI (i + 1))) n m) n = spB (u 129) n m (i + 1) := rfl
      rw [ex, nI_1 (i + 1)]
      have h6 := ih w4 (d3.tr q4.df)
      have st : spF b (spB (u 129) n m) (i + 1) = if spF b (spB (u 129) n m) i = -1 then spB (u 129) n m (i + 1) else if b = 0 then (if spB (u 129) n m (i + 1) < spF b (spB (u 129) n m) i then spB (u 129) n m (i + 1) else spF b (spB (u 129) n m) i) else (if spF b (spB (u 129) n m) i < spB (u 129) n m (i + 1) then spB (u 129) n m (i + 1) else spF b (spB (u 129) n m) i) := rfl
      rw [st] at h6
      refine ⟨fun q => ?_, fun q => ⟨fun q0 => ⟨fun q1 => ?_, fun q1 => ?_⟩, fun q0 => ⟨fun q1 => ?_, fun q1 => ?_⟩⟩⟩
      · rw [if_pos q] at h6; exact h6
      · rw [if_neg q, if_pos q0, if_neg (Int32.not_lt.mpr q1)] at h6; exact h6
      · rw [if_neg q, if_pos q0, if_pos (Int32.not_le.mp q1)] at h6; exact h6
      · rw [if_neg q, if_neg q0, if_neg (Int32.not_lt.mpr q1)] at h6; exact h6
      · rw [if_neg q, if_neg q0, if_pos (Int32.not_le.mp q1)] at h6; exact h6
  · refine Or.inr (tTX11_span (Or.inl ⟨i_60 hb, zSame.rf u, ?_⟩))
    exact tX12_span (fun m1 e1 => ⟨fun _ => zThr e1 (by simp), fun q => ⟨fun _ => zThr e1 (by simp), fun q2 => absurd (i_lim (n := 60) (by decide) hb q) q2⟩⟩)
