theorem zRg.set {W : Nat → Int32} {n s w0 : Nat} {v : Int32} (h : zRg W n) (hs : s < 8) (hw : w0 < 9) (h1 : w0 ≠ 7 → ∃ c, c ≤ zVb w0 ∧ v = nI c) (h2 : w0 = 7 → v = -1 ∨ ∃ c, c ≤ 6 ∧ v = nI c) : zRg (upd W (163 + 9 * s + w0) v) n := by
  obtain ⟨g0, g1, g2, g3, g4, g5, g6, g7, g8, g9, ga, gb, gc, gd, ge, gf⟩ := h
  have e : ∀ k, k < 163 → upd W (163 + 9 * s + w0) v k = W k := fun k hk => upd_ne _ _ (by omega)
  refine ⟨by rw [e 0 (by decide)]; exact g0, by rw [e 1 (by decide)]; exact g1, by rw [e 2 (by decide)]; exact g2, by rw [e 3 (by decide)]; exact g3, by rw [e 4 (by decide)]; exact g4, by rw [e 5 (by decide)]; exact g5, by rw [e 6 (by decide)]; exact g6, by rw [e 7 (by decide)]; exact g7, by rw [e 8 (by decide)]; exact g8, fun a b ha hb => ?_, fun a b ha hb => ?_, fun a ha => ?_, fun p hp => ?_, fun p q hp hq => ?_, fun t w ht hx h7 => ?_, fun t ht => ?_⟩
  · rw [e _ (by omega)]; exact g9 a b ha hb
  · rw [e _ (by omega), e _ (by omega)]; exact ga a b ha hb
  · rw [e _ (by omega)]; exact gb a ha
  · rw [e _ (by omega)]; exact gc p hp
  · rw [e _ (by omega), e _ (by omega)]; exact gd p q hp hq
  · by_cases q : 163 + 9 * t + w = 163 + 9 * s + w0
    · obtain rfl : w = w0 := by omega
      rw [q, upd_at]; exact h1 h7
    · rw [upd_ne _ _ q]; exact ge t w ht hx h7
  · by_cases q : 163 + 9 * t + 7 = 163 + 9 * s + w0
    · obtain rfl : w0 = 7 := by omega
      rw [q, upd_at]; exact h2 rfl
    · rw [upd_ne _ _ q]; exact gf t ht
theorem zLg.lrow {u : zM} {k : Nat} {W V : Nat → Int32} (e9 : V 9 = W 9) (e : ∀ k, 235 ≤ k → k < 475 → V k = W k) (h : zLg u k W) : zLg u k V := by
  obtain ⟨L, N, hL, hN, g1, g2, g3, g4⟩ := h
  exact ⟨L, N, hL, hN, g1, g2, by rw [e9]; exact g3, fun i c hi hc => by rw [e _ (by omega) (by omega)]; exact g4 i c hi hc⟩
theorem zDy.set {u : zM} {k s w : Nat} {W : Nat → Int32} (v : Int32) (hs : s < 8) (hw : w < 9) (h : zDy u k W) : zDy (zUp u (k + 1) (w * 8 + s) v) k (upd W (163 + 9 * s + w) v) :=
  ((zDyV.of h).set v hs hw).dy ((h.2.2.2.congr (zUp_k _ _ (by omega)) (zUp_k _ _ (by omega))).lrow (upd_ne _ _ (by omega)) (fun x a b => upd_ne _ _ (by omega)))
/-- the reference remembers -/
theorem m_rem {d A : Nat} {u x m1 : zM} {Q : Option Value → zM → Prop} (e1 : m1 = zUp x 128 0 0) (e9 : x 129 = u 129) (e3 : x 133 = u 133) (e8 : ∀ j, x 128 j = u 128 j) (h7 : u 128 7 = nI A) (hA : A ≤ 12) (h : ∀ z, zActM u x z A → z 129 = u 129 → Q none z) : zCall (d + 1) false 185 [.ref 128] m1 Q := by
  refine m_remembers (A := A) (by rw [e1, zUp_j _ _ (by decide), e8]; exact h7) hA (fun z f1 f2 f3 f4 => ?_)
  refine h z ⟨fun c a b x2 y => by rw [f1 c a x2, e1, zUp_k _ _ a], by rw [f2 0 (by decide), e1, zUp_at], fun j a b c => by rw [f2 j b, e1, zUp_j _ _ a, e8], f3, fun j k hj hk => ?_⟩ (by rw [f1 129 (by decide) (by decide), e1, zUp_k _ _ (by decide), e9])
  rw [f4 j k hj hk, e1, zUp_k _ _ (by decide), zUp_k _ _ (by decide), e9, e3]
theorem zActM.ch {u x z y : zM} {A : Nat} (h : zActM u x z A) (f : ∀ c, c ≠ 128 → c ≠ 129 → c ≠ 137 → y c = z c) (g : ∀ j, (j < 19 ∨ 23 < j) → y 128 j = z 128 j) : zActM u x y A := by
  obtain ⟨b1, b2, b3, b4, b5⟩ := h
  refine ⟨fun c p q r s => (f c p q s).trans (b1 c p q r s), (g 0 (by decide)).trans b2, fun j p q r => (g j r).trans (b3 j p q r), (g 7 (by decide)).trans b4, fun j k hj hk => ?_⟩
  rw [f 133 (by decide) (by decide) (by decide)]
  exact b5 j k hj hk
theorem i_notop {n s : Nat} (hn : n ≤ 8) (hs : s < n) : ¬ nI n - 1 < nI s := by
  rw [nI_lit, nI_sub (by show 1 ≤ n; omega), nI_ltI (by omega) (by omega)]
  show ¬ n - 1 < s
  omega
/-- a pair of calls that act, of steps and numbers that are there -/
theorem act_ok {x m n : Nat} {as : List Value} {u : zM} (hI : zInv u n) (A N : Nat) (hA : A ≤ 12) (hN : N < 12) (hP : ∀ j, j < A → zRg (zAct u j) n ∧ zDy u (61 + 5 * ((N + 12 - A + j) % 12)) (zAct u j) ∧ zBase (u 129) (zAct u j))
    (h : zCall 60 false x (.ref 0 :: as) u fun v w => zActD u w A N ∧ ∀ X : zM, (∀ c, c < 142 → X c = w c) → zActD u X A N → zCall 60 false m (.ref 128 :: as) X fun v2 z => v2 = v ∧ zActM u X z A ∧ zRg (z 129) n ∧ zDy w 4 (z 129) ∧ zBase (z 129) (u 129) ∧ ∀ k, 475 ≤ k → z 129 k = u 129 k) :
    zCall 60 false x (.ref 0 :: as) u fun v w => ∀ o : Int32, zCall 60 false m (.ref 128 :: as) (zUp w 142 0 o) fun v2 w2 => v2 = v ∧ w2 128 0 = 0 ∧ zIv w2 :=
  zCall_m 60 false _ _ _ _ _ (fun v w y o => by
    have hD : zActD u (zUp w 142 0 o) A N := y.1.ch hN (fun c a _ _ _ => zUp_k _ _ (by omega)) (fun j _ => by rw [zUp_k _ _ (by decide)])
    refine zCall_m 60 false _ _ _ _ _ (fun v2 z y2 => ?_) (y.2 (zUp w 142 0 o) (fun c a => zUp_k _ _ (by omega)) hD)
    obtain ⟨r1, r2, r3, r4, r5, r6⟩ := y2
    exact ⟨r1, r2.2.1, n, zInv_act hI hA hN hP hD r2 r3 (r4.congr (fun c a b => zUp_k _ _ (by omega))) r5 r6⟩) h
theorem zActD.e {u w X : zM} {A N : Nat} (hN : N < 12) (h : zActD u w A N) (hX : ∀ c, c < 142 → X c = w c) : X 129 = u 129 ∧ X 133 = u 133 ∧ ∀ j, X 128 j = u 128 j := by
  refine ⟨?_, ?_, fun j => ?_⟩
  · rw [hX 129 (by decide)]; exact h.1 129 (by decide) (by decide) (by omega) (by decide) (by decide) (by decide)
  · rw [hX 133 (by decide)]; exact h.1 133 (by decide) (by decide) (by omega) (by decide) (by decide) (by decide)
  · rw [hX 128 (by decide), h.1 128 (by decide) (by decide) (by omega) (by decide) (by decide) (by decide)]
theorem act_fin {u w1 : zM} {n A N s w0 : Nat} {v : Int32} (hC : zCore u n) (hN : N < 12) (D1 : zActD u w1 A N) (sm : ∀ c, 4 ≤ c → c ≤ 21 → w1 c = u c) (hs : s < 8) (hw : w0 < 9) (h0 : w0 ≠ 0) (h1 : w0 ≠ 7 → ∃ c, c ≤ zVb w0 ∧ v = nI c) (h2 : w0 = 7 → v = -1 ∨ ∃ c, c ≤ 6 ∧ v = nI c) :
    zActD u (zUp w1 5 (w0 * 8 + s) v) A N ∧ zDy (zUp w1 5 (w0 * 8 + s) v) 4 (upd (u 129) (163 + 9 * s + w0) v) ∧ zRg (upd (u 129) (163 + 9 * s + w0) v) n ∧ zBase (upd (u 129) (163 + 9 * s + w0) v) (u 129) ∧ ∀ k, 475 ≤ k → upd (u 129) (163 + 9 * s + w0) v k = u 129 k :=
  ⟨D1.ch hN (fun c _ a _ _ => zUp_k _ _ (by omega)) (fun j _ => by rw [zUp_k _ _ (by decide)]), (hC.2.2.1.congr (fun c a b => sm c a (by omega))).set v hs hw, hC.1.set hs hw h1 h2, ⟨fun k a b => (upd_ne _ _ (by clear h1 h2; omega)).symm, (upd_ne _ _ (by clear h1 h2; omega)).symm, (upd_ne _ _ (by clear h1 h2; omega)).symm, fun t ht => (upd_ne _ _ (by clear h1 h2; omega)).symm⟩, fun k hk => upd_ne _ _ (by clear h1 h2; omega)⟩
theorem m_thr1 {u m1 : zM} {E c : Int32} {L : List (Int32 × Int32)} {n : Nat} (hI : zInv u n) (e1 : m1 = zUp u 128 0 0) (h : (E, c) ∈ L) : zIv (zUp m1 128 0 c) ∧ ∃ E' c' : Int32, (some (Value.int E) : Option Value) = some (.int E') ∧ (E', c') ∈ L ∧ zUp m1 128 0 c 128 0 = c' := by
  obtain ⟨z1, z2⟩ := zThr e1 h
  exact ⟨⟨n, z1.inv hI⟩, z2⟩
theorem op_pay (a b : Int32) : zOkT 117 260 [.int a, .int b] [(2, 1), (1, 2)] := by
  intro u ⟨n, hI⟩
  have hI' := hI
  obtain ⟨hC, -, -, ⟨A, N, hA, hN, p7, q7, p6, hP⟩, -, -⟩ := hI'
  have hR := hC.1
  have h8 := hR.1.1
  have hu : u 4 3 = nI n := hC.2.2.1.1.1.trans hR.1.2
  rcases i_cases a n (by omega) with ⟨s, hs, rfl⟩ | ha
  · have pos := nI_pos' (n := s) (by omega)
    have lt : nI s < u 4 3 := by rw [hu]; exact nI_lt hs (by omega)
    have ns := i_notop h8 hs
    have s1 : ∀ y : Nat, y < 1000 → ((nI y < 1) ↔ y < 1) := fun y hy => by rw [nI_lit, nI_ltI (by omega) (by omega)]
    rcases i_cases b 1000 (by decide) with ⟨y, hy, rfl⟩ | hb
    · by_cases hy1 : 1 ≤ y
      · refine Or.inl (act_ok hI A N hA hN hP ?_)
        have c2 : ((2 : Int32) * 8) + nI s = nI (2 * 8 + s) := dv_ix 2 s
        have a2 : (163 + (9 * nI s)) + 2 = nI (163 + 9 * s + 2) := ix_w s 2
        obtain ⟨c, hc, ec⟩ := hR.vs s 2 (by omega) (by omega) (by omega)
        have hc' : c ≤ 9999 := hc
        have ev : (if nI c + nI y < 9999 then nI c + nI y else 9999) = nI (min (c + y) 9999) := i_cap (c := c) (k := y) 9999 (by omega) (by omega) (by omega)
        have vs : vp_in (nI s) 8 := vp_in_nI (by omega) (by decide)
        refine tX11_pay ⟨pos, lt, br_f (by rw [s1 y hy]; omega) (br_t (by rw [nI_lit, nI_leI (by omega) (by omega)]; omega) ?_)⟩
        refine d_remember hC hA hN p7 p6 (fun w1 D1 sm => ⟨rfl, ?_⟩)
        have r5 : w1 5 (2 * 8 + s) = nI c := by rw [sm 5 (by decide) (by decide), hC.2.2.1.2.1 s 2 (by omega) (by decide)]; exact ec
        dsimp only
        rw [c2, nI_clamp (n := 2 * 8 + s) (by omega), r5, ev]
        obtain ⟨F1, F2, F3, F4, F5⟩ := act_fin (s := s) (w0 := 2) (v := nI (min (c + y) 9999)) hC hN D1 sm (by omega) (by decide) (by decide) (fun _ => ⟨_, Nat.min_le_right _ _, rfl⟩) (fun q => absurd q (by decide))
        refine ⟨vs, vs, F1, fun X hX hDX => ?_⟩
        obtain ⟨x9, x3, x8⟩ := hDX.e hN (fun c _ => rfl)
        refine tX12_pay (fun m1 e1 => ?_)
        have n0 : m1 129 0 = nI n := by rw [e1, zUp_k _ _ (by decide), x9]; exact hR.1.2
        rw [n0, a2, ix_c (w := 2) (by omega) (by decide)]
        refine br_f (nI_pos (by omega)) (br_f ns (br_f (by rw [s1 y hy]; omega) (br_f (by rw [nI_lit, nI_ltI (by omega) (by omega)]; omega) ?_)))
        refine m_rem e1 x9 x3 x8 q7 hA (fun z M z9 => ⟨rfl, ix_v (by omega) (by decide), ix_v (by omega) (by decide), fun m4 i4 => ⟨ix_v (by omega) (by decide), ?_⟩⟩)
        have zc : z 129 (163 + 9 * s + 2) = nI c := by rw [z9]; exact ec
        rw [zc, ev] at i4
        have e4 : m4 129 = upd (u 129) (163 + 9 * s + 2) (nI (min (c + y) 9999)) := by rw [i4, zUp_row, z9]
        rw [e4]
        exact ⟨by rw [upd_at], M.ch (fun c _ a _ => by rw [i4, zUp_k _ _ a]) (fun j _ => by rw [i4, zUp_k _ _ (by decide)]), F3, F2, F4, F5⟩
      · refine Or.inr (tTX11_pay (Or.inr ⟨pos, lt, br_t (by rw [s1 y hy]; omega) ?_⟩))
        refine tX12_pay (fun m1 e1 => ?_)
        have n0 : m1 129 0 = nI n := by rw [e1, zUp_k _ _ (by decide)]; exact hR.1.2
        rw [n0]
        exact br_f (nI_pos (by omega)) (br_f ns (br_t (by rw [s1 y hy]; omega) (m_thr1 hI e1 (by simp))))
    · have th : zCall 60 false 260 [.ref 128, .int (nI s), .int b] u fun _ w2 => zIv w2 ∧ ∃ E c, some (Value.int 1) = some (.int E) ∧ (E, c) ∈ [((2 : Int32), (1 : Int32)), (1, 2)] ∧ w2 128 0 = c := by
        refine tX12_pay (fun m1 e1 => ?_)
        have n0 : m1 129 0 = nI n := by rw [e1, zUp_k _ _ (by decide)]; exact hR.1.2
        rw [n0]
        refine br_f (nI_pos (by omega)) (br_f ns ⟨fun _ => m_thr1 hI e1 (by simp), fun q => ⟨fun _ => m_thr1 hI e1 (by simp), fun q2 => absurd (i_lim (n := 999) (by decide) hb (fun z => q (Int32.lt_trans z (by decide)))) q2⟩⟩)
      refine Or.inr (tTX11_pay (Or.inr ⟨pos, lt, ⟨fun _ => th, fun q => ⟨fun q2 => absurd (i_lim (n := 999) (by decide) hb (fun z => q (Int32.lt_trans z (by decide)))) (Int32.not_lt.mpr q2), fun _ => th⟩⟩⟩))
  · refine Or.inr (tTX11_pay (Or.inl ⟨by rw [hu]; exact ha, ?_⟩))
    refine tX12_pay (fun m1 e1 => ?_)
    have n0 : m1 129 0 = nI n := by rw [e1, zUp_k _ _ (by decide)]; exact hR.1.2
    rw [n0]
    exact ⟨fun _ => m_thr1 hI e1 (by simp), fun q => ⟨fun _ => m_thr1 hI e1 (by simp), fun q2 => absurd (i_top2 h8 ha q) q2⟩⟩
