/-- a value is told, on both sides -/
theorem tell_ok {n s w0 A N : Nat} {v : Int32} {u : zM} (hI : zInv u n) (hA : A ≤ 12) (hN : N < 12) (p7 : u 0 7 = nI A) (q7 : u 128 7 = nI A) (p6 : u 0 6 = nI N) (hs : s < n) (hw : w0 < 9) (h0 : w0 ≠ 0) (h1 : w0 ≠ 7 → ∃ c, c ≤ zVb w0 ∧ v = nI c) (h2 : w0 = 7 → v = -1 ∨ ∃ c, c ≤ 6 ∧ v = nI c) :
    zCI 59 172 [.ref 0, .int (nI w0), .int (nI s), .int v] u fun r w => zActD u w A N ∧ r = u 129 (163 + 9 * s + w0) ∧ ∀ X : zM, (∀ c, c < 142 → X c = w c) → zActD u X A N → ∀ m1 : zM, m1 = zUp X 128 0 0 → zCI 59 261 [.ref 128, .int (nI s), .int (nI w0), .int v] m1 fun r2 z => r2 = r ∧ zActM u X z A ∧ zRg (z 129) n ∧ zDy w 4 (z 129) ∧ zBase (z 129) (u 129) ∧ ∀ k, 475 ≤ k → z 129 k = u 129 k := by
  have hC := hI.1
  have h8 := hC.1.1.1
  refine tX11_tell ?_
  refine d_remember hC hA hN p7 p6 (fun w1 D1 sm => ⟨rfl, ?_⟩)
  have r5 : w1 5 (w0 * 8 + s) = u 129 (163 + 9 * s + w0) := by rw [sm 5 (by decide) (by decide)]; exact hC.2.2.1.2.1 s w0 (by omega) hw
  dsimp only
  rw [dv_ix, nI_clamp (n := w0 * 8 + s) (by clear h1 h2; omega), r5]
  obtain ⟨F1, F2, F3, F4, F5⟩ := act_fin (s := s) (w0 := w0) (v := v) hC hN D1 sm (by omega) hw h0 h1 h2
  clear h1 h2
  refine ⟨vp_in_nI hw (by decide), vp_in_nI (by omega) (by decide), vp_in_nI hw (by decide), vp_in_nI (by omega) (by decide), _, rfl, F1, rfl, fun X hX hDX m1 e1 => ?_⟩
  obtain ⟨x9, x3, x8⟩ := hDX.e hN (fun c _ => rfl)
  have ei : (163 + (9 * nI s)) + nI w0 = nI (163 + 9 * s + w0) := ix_w s w0
  refine tX12_isChanged ?_
  rw [ei, nI_clamp (n := 163 + 9 * s + w0) (by omega)]
  refine m_rem e1 x9 x3 x8 q7 hA (fun z M z9 => ⟨rfl, vp_in_nI (by omega) (by decide), vp_in_nI (by omega) (by decide), _, rfl, by rw [z9], M.ch (fun c _ a _ => zUp_k _ _ a) (fun j _ => zUp_kj _ _ (by decide)), ?_⟩)
  rw [zUp_row, z9]
  exact ⟨F3, F2, F4, F5⟩
theorem i_m17 {b : Int32} (h : ¬ b = -1) (h2 : b < 0 ∨ nI 7 ≤ b) : (b < -1 ∨ 6 < b) := by
  rcases h2 with h2 | h2
  · refine Or.inl ?_
    rw [Int32.lt_iff_toInt_lt] at h2 ⊢
    have e0 : (0 : Int32).toInt = 0 := by decide
    have e1 : (-1 : Int32).toInt = -1 := by decide
    have ne : b.toInt ≠ -1 := fun z => h (Int32.toInt_inj.mp (by rw [z, e1]))
    omega
  · by_cases q : b < 0
    · rw [Int32.le_iff_toInt_le] at h2
      rw [Int32.lt_iff_toInt_lt] at q
      have e0 : (0 : Int32).toInt = 0 := by decide
      have e7 : (nI 7).toInt = 7 := by decide
      omega
    · exact Or.inr (i_lim (n := 6) (by decide) (Or.inr h2) q)
theorem op_note (a b : Int32) : zOkT 118 262 [.int a, .int b] [(2, 1)] := by
  intro u ⟨n, hI⟩
  have hI' := hI
  obtain ⟨hC, -, -, ⟨A, N, hA, hN, p7, q7, p6, hP⟩, -, -⟩ := hI'
  have hR := hC.1
  have h8 := hR.1.1
  have hu : u 4 3 = nI n := hC.2.2.1.1.1.trans hR.1.2
  rcases i_cases a n (by omega) with ⟨s, hs, rfl⟩ | ha
  · have pos := nI_pos' (n := s) (by omega)
    have lt : nI s < u 4 3 := by rw [hu]; exact nI_lt hs (by omega)
    have ns := i_notop h8 hs
    by_cases hb : b = -1 ∨ ∃ y, y ≤ 6 ∧ b = nI y
    · refine Or.inl (act_ok hI A N hA hN hP ?_)
      have T := tell_ok (w0 := 7) (v := b) hI hA hN p7 q7 p6 hs (by decide) (by decide) (fun q => absurd rfl q) (fun _ => hb)
      have b1 : ¬ b < -1 ∧ ¬ 6 < b := by
        rcases hb with rfl | ⟨y, hy, rfl⟩
        · exact ⟨by decide, by decide⟩
        · refine ⟨fun z => ?_, by rw [nI_lit, nI_ltI (by omega) (by omega)]; omega⟩
          exact absurd (Int32.lt_trans z (by decide)) (nI_pos (n := y) (by omega))
      have fin : zCI 59 172 [.ref 0, .int 7, .int (nI s), .int b] u fun x2 w1 => zActD u w1 A N ∧ ∀ X : zM, (∀ c, c < 142 → X c = w1 c) → zActD u X A N → zCall 60 false 262 [.ref 128, .int (nI s), .int b] X fun v2 z => v2 = some (.int x2) ∧ zActM u X z A ∧ zRg (z 129) n ∧ zDy w1 4 (z 129) ∧ zBase (z 129) (u 129) ∧ ∀ k, 475 ≤ k → z 129 k = u 129 k := by
        refine zCI_m (fun r w y => ⟨y.1, fun X hX hDX => ?_⟩) T
        obtain ⟨x9, x3, x8⟩ := hDX.e hN (fun c _ => rfl)
        refine tX12_note (fun m1 e1 => ?_)
        have n0 : m1 129 0 = nI n := by rw [e1, zUp_k _ _ (by decide), x9]; exact hR.1.2
        rw [n0]
        refine br_f (nI_pos (by omega)) (br_f ns (br_f b1.1 (br_f b1.2 ?_)))
        exact zCI_m (fun r2 z y2 => ⟨by rw [y2.1], y2.2⟩) (y.2.2 X hX hDX m1 e1)
      refine tX11_note ⟨pos, lt, fun q => fin, fun q => ⟨?_, fin⟩⟩
      rcases hb with rfl | ⟨y, hy, rfl⟩
      · exact absurd rfl q
      · exact vp_in_nI (by omega) (by decide)
    · have nb : ¬ b = -1 := fun z => hb (Or.inl z)
      have hb2 : b < 0 ∨ nI 7 ≤ b := by
        rcases i_cases b 7 (by decide) with ⟨y, hy, rfl⟩ | z
        · exact absurd (Or.inr ⟨y, by omega, rfl⟩) hb
        · exact z
      have hb3 := i_m17 nb hb2
      refine Or.inr (tTX11_note (Or.inr ⟨pos, lt, ⟨fun q => absurd q nb, fun _ => Or.inl ⟨hb2, ?_⟩⟩⟩))
      refine tX12_note (fun m1 e1 => ?_)
      have n0 : m1 129 0 = nI n := by rw [e1, zUp_k _ _ (by decide)]; exact hR.1.2
      rw [n0]
      exact br_f (nI_pos (by omega)) (br_f ns ⟨fun _ => m_thr1 hI e1 (by simp), fun q => ⟨fun _ => m_thr1 hI e1 (by simp), fun q2 => absurd (hb3.resolve_left q) q2⟩⟩)
  · refine Or.inr (tTX11_note (Or.inl ⟨by rw [hu]; exact ha, ?_⟩))
    refine tX12_note (fun m1 e1 => ?_)
    have n0 : m1 129 0 = nI n := by rw [e1, zUp_k _ _ (by decide)]; exact hR.1.2
    rw [n0]
    exact ⟨fun _ => m_thr1 hI e1 (by simp), fun q => ⟨fun _ => m_thr1 hI e1 (by simp), fun q2 => absurd (i_top2 h8 ha q) q2⟩⟩
theorem op_kind (a b : Int32) : zOkT 119 263 [.int a, .int b] [(2, 1)] := by
  intro u ⟨n, hI⟩
  have hI' := hI
  obtain ⟨hC, -, -, ⟨A, N, hA, hN, p7, q7, p6, hP⟩, -, -⟩ := hI'
  have hR := hC.1
  have h8 := hR.1.1
  have hu : u 4 3 = nI n := hC.2.2.1.1.1.trans hR.1.2
  rcases i_cases a n (by omega) with ⟨s, hs, rfl⟩ | ha
  · have pos := nI_pos' (n := s) (by omega)
    have lt : nI s < u 4 3 := by rw [hu]; exact nI_lt hs (by omega)
    have ns := i_notop h8 hs
    rcases i_cases b 4 (by decide) with ⟨y, hy, rfl⟩ | hb
    · refine Or.inl (act_ok hI A N hA hN hP ?_)
      have T := tell_ok (w0 := 1) (v := nI y) hI hA hN p7 q7 p6 hs (by decide) (by decide) (fun _ => ⟨y, show y ≤ 3 by omega, rfl⟩) (fun q => absurd q (by decide))
      refine tX11_kind ⟨pos, lt, vp_in_nI hy (by decide), ?_⟩
      refine zCI_m (fun r w y => ⟨y.1, fun X hX hDX => ?_⟩) T
      obtain ⟨x9, x3, x8⟩ := hDX.e hN (fun c _ => rfl)
      refine tX12_kind (fun m1 e1 => ?_)
      have n0 : m1 129 0 = nI n := by rw [e1, zUp_k _ _ (by decide), x9]; exact hR.1.2
      rw [n0]
      refine br_f (nI_pos (by omega)) (br_f ns (br_f (nI_pos (by omega)) (br_f (by rw [nI_lit, nI_ltI (by omega) (by omega)]; omega) ?_)))
      exact zCI_m (fun r2 z y2 => ⟨by rw [y2.1], y2.2⟩) (y.2.2 X hX hDX m1 e1)
    · refine Or.inr (tTX11_kind (Or.inr ⟨pos, lt, Or.inl ⟨hb, ?_⟩⟩))
      refine tX12_kind (fun m1 e1 => ?_)
      have n0 : m1 129 0 = nI n := by rw [e1, zUp_k _ _ (by decide)]; exact hR.1.2
      rw [n0]
      exact br_f (nI_pos (by omega)) (br_f ns ⟨fun _ => m_thr1 hI e1 (by simp), fun q => ⟨fun _ => m_thr1 hI e1 (by simp), fun q2 => absurd (i_lim (n := 3) (by decide) hb q) q2⟩⟩)
  · refine Or.inr (tTX11_kind (Or.inl ⟨by rw [hu]; exact ha, ?_⟩))
    refine tX12_kind (fun m1 e1 => ?_)
    have n0 : m1 129 0 = nI n := by rw [e1, zUp_k _ _ (by decide)]; exact hR.1.2
    rw [n0]
    exact ⟨fun _ => m_thr1 hI e1 (by simp), fun q => ⟨fun _ => m_thr1 hI e1 (by simp), fun q2 => absurd (i_top2 h8 ha q) q2⟩⟩
/-- a number of a row below 9, of no base -/
theorem zRg.num {W : Nat → Int32} {n j : Nat} {v : Int32} (h : zRg W n) (hj : j = 4 ∨ j = 5) (h4 : j = 4 → ∃ t, t ≤ 200 ∧ v = nI t) (h5 : j = 5 → ∃ t, t ≤ 99 ∧ v = nI t) : zRg (upd W j v) n := by
  obtain ⟨g0, g1, g2, g3, g4, g5, g6, g7, g8, g9, ga, gb, gc, gd, ge, gf⟩ := h
  have e : ∀ k, k ≠ 4 → k ≠ 5 → upd W j v k = W k := fun k a b => upd_ne _ _ (by clear h4 h5; omega)
  refine ⟨by rw [e 0 (by decide) (by decide)]; exact g0, by rw [e 1 (by decide) (by decide)]; exact g1, by rw [e 2 (by decide) (by decide)]; exact g2, by rw [e 3 (by decide) (by decide)]; exact g3, ?_, ?_, by rw [e 6 (by decide) (by decide)]; exact g6, by rw [e 7 (by decide) (by decide)]; exact g7, by rw [e 8 (by decide) (by decide)]; exact g8, fun a b ha hb => ?_, fun a b ha hb => ?_, fun a ha => ?_, fun p hp => ?_, fun p q hp hq => ?_, fun t w ht hx h7 => ?_, fun t ht => ?_⟩
  · by_cases q : j = 4
    · subst q; rw [upd_at]; exact h4 rfl
    · rw [upd_ne _ _ (Ne.symm q)]; exact g4
  · by_cases q : j = 5
    · subst q; rw [upd_at]; exact h5 rfl
    · rw [upd_ne _ _ (Ne.symm q)]; exact g5
  all_goals clear h4 h5
  · rw [e _ (by omega) (by omega)]; exact g9 a b ha hb
  · rw [e _ (by omega) (by omega), e _ (by omega) (by omega)]; exact ga a b ha hb
  · rw [e _ (by omega) (by omega)]; exact gb a ha
  · rw [e _ (by omega) (by omega)]; exact gc p hp
  · rw [e _ (by omega) (by omega), e _ (by omega) (by omega)]; exact gd p q hp hq
  · rw [e _ (by omega) (by omega)]; exact ge t w ht hx h7
  · rw [e _ (by omega) (by omega)]; exact gf t ht
theorem zDy.num {u : zM} {k j f : Nat} {W : Nat → Int32} (v : Int32) (hj : (j = 4 ∧ f = 5) ∨ (j = 5 ∧ f = 6)) (h : zDy u k W) : zDy (zUp u k f v) k (upd W j v) := by
  obtain ⟨⟨a1, a2, a3, a4, a5, a6, a7, a8, a9⟩, b, c, d⟩ := h
  have e : ∀ i, i ≠ 4 → i ≠ 5 → upd W j v i = W i := fun i x y => upd_ne _ _ (by omega)
  have g : ∀ i, i ≠ 5 → i ≠ 6 → zUp u k f v k i = u k i := fun i x y => zUp_j _ _ (by omega)
  refine ⟨⟨?_, ?_, ?_, ?_, ?_, ?_, ?_, ?_, ?_⟩, fun s y hs hy => ?_, fun p hp => ?_, ?_⟩
  · rw [g _ (by decide) (by decide), e _ (by decide) (by decide)]; exact a1
  · rw [g _ (by decide) (by decide), e _ (by decide) (by decide)]; exact a2
  · rcases hj with ⟨rfl, rfl⟩ | ⟨rfl, rfl⟩
    · rw [zUp_at, upd_at]
    · rw [zUp_j _ _ (by decide), upd_ne _ _ (by decide)]; exact a3
  · rcases hj with ⟨rfl, rfl⟩ | ⟨rfl, rfl⟩
    · rw [zUp_j _ _ (by decide), upd_ne _ _ (by decide)]; exact a4
    · rw [zUp_at, upd_at]
  · rw [g _ (by decide) (by decide), e _ (by decide) (by decide)]; exact a5
  · rw [g _ (by decide) (by decide), e _ (by decide) (by decide)]; exact a6
  · rw [g _ (by decide) (by decide), e _ (by decide) (by decide)]; exact a7
  · rw [g _ (by decide) (by decide), e _ (by decide) (by decide)]; exact a8
  · rw [g _ (by decide) (by decide), e _ (by decide) (by decide)]; exact a9
  · rw [zUp_kj _ _ (by omega), e _ (by omega) (by omega)]; exact b s y hs hy
  · rw [zUp_kj _ _ (by omega), e _ (by omega) (by omega)]; exact c p hp
  · exact (d.congr (zUp_k _ _ (by omega)) (zUp_k _ _ (by omega))).lrow (e _ (by decide) (by decide)) (fun i x y => e i (by omega) (by omega))
theorem op_charge (a : Int32) : zOkT 121 266 [.int a] [(1, 1)] := by
  intro u ⟨n, hI⟩
  have hI' := hI
  obtain ⟨hC, -, -, ⟨A, N, hA, hN, p7, q7, p6, hP⟩, -, -⟩ := hI'
  have hR := hC.1
  rcases i_cases a 201 (by decide) with ⟨y, hy, rfl⟩ | ha
  · refine Or.inl (act_ok hI A N hA hN hP ?_)
    refine tX11_charge (br_f (nI_pos (by omega)) (br_t (by rw [nI_lit, nI_leI (by omega) (by omega)]; omega) ?_))
    refine d_remember hC hA hN p7 p6 (fun w1 D1 sm => ⟨rfl, D1.ch hN (fun c _ x _ _ => zUp_k _ _ (by omega)) (fun j _ => by rw [zUp_k _ _ (by decide)]), fun X hX hDX => ?_⟩)
    obtain ⟨x9, x3, x8⟩ := hDX.e hN (fun c _ => rfl)
    refine tX12_charge (fun m1 e1 => br_f (nI_pos (by omega)) (br_f (by rw [nI_lit, nI_ltI (by omega) (by omega)]; omega) ?_))
    refine m_rem e1 x9 x3 x8 q7 hA (fun z M z9 => ⟨rfl, ?_, M.ch (fun c _ x _ => zUp_k _ _ x) (fun j _ => zUp_kj _ _ (by decide)), ?_⟩)
    · rw [z9, sm 4 (by decide) (by decide), hC.2.2.1.1.2.2.1]
    · rw [zUp_row, z9]
      exact ⟨hR.num (Or.inl rfl) (fun _ => ⟨y, by omega, rfl⟩) (fun q => absurd q (by decide)), (hC.2.2.1.congr (fun c x _ => sm c x (by omega))).num (nI y) (Or.inl ⟨rfl, rfl⟩), ⟨fun k p q => (upd_ne _ _ (by omega)).symm, (upd_ne _ _ (by omega)).symm, (upd_ne _ _ (by omega)).symm, fun t ht => (upd_ne _ _ (by omega)).symm⟩, fun k hk => upd_ne _ _ (by omega)⟩
  · have th : zCall 60 false 266 [.ref 128, .int a] u fun _ w2 => zIv w2 ∧ ∃ E c, some (Value.int 1) = some (.int E) ∧ (E, c) ∈ [((1 : Int32), (1 : Int32))] ∧ w2 128 0 = c := by
      refine tX12_charge (fun m1 e1 => ⟨fun _ => m_thr1 hI e1 (by simp), fun q => ⟨fun _ => m_thr1 hI e1 (by simp), fun q2 => absurd (i_lim (n := 200) (by decide) ha q) q2⟩⟩)
    exact Or.inr (tTX11_charge ⟨fun _ => th, fun q => ⟨fun q2 => absurd (i_lim (n := 200) (by decide) ha q) (Int32.not_lt.mpr q2), fun _ => th⟩⟩)
theorem op_crates (a : Int32) : zOkT 122 267 [.int a] [(1, 1)] := by
  intro u ⟨n, hI⟩
  have hI' := hI
  obtain ⟨hC, -, -, ⟨A, N, hA, hN, p7, q7, p6, hP⟩, -, -⟩ := hI'
  have hR := hC.1
  rcases i_cases a 100 (by decide) with ⟨y, hy, rfl⟩ | ha
  · refine Or.inl (act_ok hI A N hA hN hP ?_)
    refine tX11_crates (br_f (nI_pos (by omega)) (br_t (by rw [nI_lit, nI_leI (by omega) (by omega)]; omega) ?_))
    refine d_remember hC hA hN p7 p6 (fun w1 D1 sm => ⟨rfl, D1.ch hN (fun c _ x _ _ => zUp_k _ _ (by omega)) (fun j _ => by rw [zUp_k _ _ (by decide)]), fun X hX hDX => ?_⟩)
    obtain ⟨x9, x3, x8⟩ := hDX.e hN (fun c _ => rfl)
    refine tX12_crates (fun m1 e1 => br_f (nI_pos (by omega)) (br_f (by rw [nI_lit, nI_ltI (by omega) (by omega)]; omega) ?_))
    refine m_rem e1 x9 x3 x8 q7 hA (fun z M z9 => ⟨rfl, ?_, M.ch (fun c _ x _ => zUp_k _ _ x) (fun j _ => zUp_kj _ _ (by decide)), ?_⟩)
    · rw [z9, sm 4 (by decide) (by decide), hC.2.2.1.1.2.2.2.1]
    · rw [zUp_row, z9]
      exact ⟨hR.num (Or.inr rfl) (fun q => absurd q (by decide)) (fun _ => ⟨y, by omega, rfl⟩), (hC.2.2.1.congr (fun c x _ => sm c x (by omega))).num (nI y) (Or.inr ⟨rfl, rfl⟩), ⟨fun k p q => (upd_ne _ _ (by omega)).symm, (upd_ne _ _ (by omega)).symm, (upd_ne _ _ (by omega)).symm, fun t ht => (upd_ne _ _ (by omega)).symm⟩, fun k hk => upd_ne _ _ (by omega)⟩
  · have th : zCall 60 false 267 [.ref 128, .int a] u fun _ w2 => zIv w2 ∧ ∃ E c, some (Value.int 1) = some (.int E) ∧ (E, c) ∈ [((1 : Int32), (1 : Int32))] ∧ w2 128 0 = c := by
      refine tX12_crates (fun m1 e1 => ⟨fun _ => m_thr1 hI e1 (by simp), fun q => ⟨fun _ => m_thr1 hI e1 (by simp), fun q2 => absurd (i_lim (n := 99) (by decide) ha q) q2⟩⟩)
    exact Or.inr (tTX11_crates ⟨fun _ => th, fun q => ⟨fun q2 => absurd (i_lim (n := 99) (by decide) ha q) (Int32.not_lt.mpr q2), fun _ => th⟩⟩)
