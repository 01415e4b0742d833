def pEx (W : Nat → Int32) (i j : Nat) : Nat → Int32 := upd (upd W (155 + i) (W (155 + j))) (155 + j) (W (155 + i))
theorem pEx_at {W : Nat → Int32} {i j : Nat} (p : Nat) : pEx W i j (155 + p) = W (155 + zSw2 i j p) := by
  unfold pEx zSw2
  by_cases q : p = j
  · subst q
    rw [upd_at]
    by_cases y : p = i
    · rw [if_pos y, y]
    · rw [if_neg y, if_pos rfl]
  · rw [upd_ne _ _ (by omega)]
    by_cases y : p = i
    · rw [if_pos y, y, upd_at]
    · rw [if_neg y, if_neg q, upd_ne _ _ (by omega)]
theorem pEx_ne {W : Nat → Int32} {i j k : Nat} (hi : i < 8) (hj : j < 8) (hk : k < 155 ∨ 163 ≤ k) : pEx W i j k = W k := by
  unfold pEx
  rw [upd_ne _ _ (by omega), upd_ne _ _ (by omega)]
theorem zRg.ex {W : Nat → Int32} {n i j : Nat} (h : zRg W n) (hi : i < n) (hj : j < n) : zRg (pEx W i j) n := by
  obtain ⟨g0, g1, g2, g3, g4, g5, g6, g7, g8, g9, ga, gb, gc, gd, ge, gf⟩ := h
  have h8 := g0.1
  have e : ∀ k, k < 155 ∨ 163 ≤ k → pEx W i j k = W k := fun k hk => pEx_ne (by omega) (by omega) hk
  refine ⟨by rw [e 0 (by decide)]; exact g0, by rw [e 1 (by decide)]; exact g1, by rw [e 2 (by decide)]; exact g2, by rw [e 3 (by decide)]; exact g3, by rw [e 4 (by decide)]; exact g4, by rw [e 5 (by decide)]; exact g5, by rw [e 6 (by decide)]; exact g6, by rw [e 7 (by decide)]; exact g7, by rw [e 8 (by decide)]; exact g8, fun a b ha hb => ?_, fun a b ha hb => ?_, fun a ha => ?_, fun p hp => ?_, fun p q hp hq z => ?_, fun t w ht hx h7 => ?_, fun t ht => ?_⟩
  · rw [e _ (by omega)]; exact g9 a b ha hb
  · rw [e _ (by omega), e _ (by omega)]; exact ga a b ha hb
  · rw [e _ (by omega)]; exact gb a ha
  · rw [pEx_at]; exact gc _ (zSw2_lt hi hj p hp)
  · rw [pEx_at, pEx_at] at z
    have := gd _ _ (zSw2_lt hi hj p hp) (zSw2_lt hi hj q hq) z
    rw [← zSw2_inv i j p, ← zSw2_inv i j q, this]
  · rw [e _ (by omega)]; exact ge t w ht hx h7
  · rw [e _ (by omega)]; exact gf t ht
theorem op_change (a b : Int32) : zOkT 120 265 [.int a, .int b] [(2, 1), (1, 2)] := by
  intro u ⟨n, hI⟩
  have hI' := hI
  obtain ⟨hC, -, -, ⟨A, N, hA, hN, p7, q7, p6, hP⟩, -, -⟩ := hI'
  have hR := hC.1
  have h8 := hR.1.1
  have hu : u 4 3 = nI n := hC.2.2.1.1.1.trans hR.1.2
  rcases i_cases a n (by omega) with ⟨s, hs, rfl⟩ | ha
  · have pos := nI_pos' (n := s) (by omega)
    have lt : nI s < u 4 3 := by rw [hu]; exact nI_lt hs (by omega)
    have ns := i_notop h8 hs
    rcases i_cases b n (by omega) with ⟨t, ht, rfl⟩ | hb
    · have pos2 := nI_pos' (n := t) (by omega)
      have lt2 : nI t < u 4 3 := by rw [hu]; exact nI_lt ht (by omega)
      have ns2 := i_notop h8 ht
      by_cases st : s = t
      · subst st
        refine Or.inr (tTX11_change (Or.inr ⟨pos, lt, Or.inr ⟨pos, lt, Or.inl ⟨rfl, ?_⟩⟩⟩))
        refine tX12_change (fun m1 e1 => ?_)
        have n0 : m1 129 0 = nI n := by rw [e1, zUp_k _ _ (by decide)]; exact hR.1.2
        rw [n0]
        exact br_f (nI_pos (by omega)) (br_f ns (br_f (nI_pos (by omega)) (br_f ns ⟨fun q => absurd rfl q, fun _ => m_thr1 hI e1 (by simp)⟩)))
      · have ne : ¬ nI s = nI t := nI_ne (by omega) (by omega) st
        refine Or.inl (act_ok hI A N hA hN hP ?_)
        refine tX11_change ⟨pos, lt, pos2, lt2, ne, ?_⟩
        refine d_remember hC hA hN p7 p6 (fun w1 D1 sm => ⟨rfl, ?_⟩)
        refine tX1_changePlaces (k0 := 4) rfl ?_
        rw [nI_clamp (n := s) (by omega), nI_clamp (n := t) (by omega)]
        refine br_f (nI_pos (by omega)) (br_f (by rw [nI_lit, nI_leI (by omega) (by omega)]; omega) (br_f (nI_pos (by omega)) (br_f (by rw [nI_lit, nI_leI (by omega) (by omega)]; omega) ⟨vp_in_nI (by omega) (by decide), vp_in_nI (by omega) (by decide), vp_in_nI (by omega) (by decide), fun m2 i2 => ⟨vp_in_nI (by omega) (by decide), rfl, vp_in_nI (by omega) (by decide), ?_⟩⟩)))
        obtain ⟨w2, ew2⟩ : ∃ w2, w2 = zUp m2 (4 + 2) t (w1 (4 + 2) s) := ⟨_, rfl⟩
        rw [← ew2]
        have f2 : ∀ c, c ≠ 6 → w2 c = w1 c := fun c hc => by rw [ew2, zUp_k _ _ hc, i2, zUp_k _ _ hc]
        have r6 : ∀ p, p < 8 → w1 6 p = u 129 (155 + p) := fun p hp => by rw [sm 6 (by decide) (by decide)]; exact hC.2.2.1.2.2.1 p hp
        have v6 : ∀ p, p < 8 → w2 6 p = pEx (u 129) s t (155 + p) := fun p hp => by
          rw [ew2]
          unfold pEx
          by_cases q : p = t
          · rw [q, zUp_at, upd_at]; exact r6 s (by omega)
          · rw [zUp_j _ _ q, upd_ne _ _ (by omega), i2]
            by_cases y : p = s
            · rw [y, zUp_at, upd_at]; exact r6 t (by omega)
            · rw [zUp_j _ _ y, upd_ne _ _ (by omega)]; exact r6 p hp
        have Y : zDy w2 4 (pEx (u 129) s t) := by
          obtain ⟨d1, d2, d3, d4⟩ := hC.2.2.1
          have e : ∀ k, k < 155 ∨ 163 ≤ k → pEx (u 129) s t k = u 129 k := fun k hk => pEx_ne (by omega) (by omega) hk
          refine ⟨?_, fun x y hx hy => ?_, fun p hp => v6 p hp, ?_⟩
          · rw [f2 4 (by decide), sm 4 (by decide) (by decide), e 0 (by decide), e 1 (by decide), e 4 (by decide), e 5 (by decide), e 6 (by decide), e 7 (by decide), e 8 (by decide), e 3 (by decide), e 10 (by decide)]; exact d1
          · rw [f2 (4 + 1) (by decide), sm (4 + 1) (by decide) (by decide), e _ (by omega)]; exact d2 x y hx hy
          · exact (d4.congr (w := w2) (by rw [f2 (4 + 3) (by decide), sm (4 + 3) (by decide) (by decide)]) (by rw [f2 (4 + 3 + 1) (by decide), sm (4 + 3 + 1) (by decide) (by decide)])).lrow (e 9 (by decide)) (fun k p q => e k (by omega))
        refine ⟨D1.ch hN (fun c _ x _ _ => f2 c (by omega)) (fun j _ => by rw [f2 12 (by decide)]), fun X hX hDX => ?_⟩
        obtain ⟨x9, x3, x8⟩ := hDX.e hN (fun c _ => rfl)
        have k1 : 155 + nI s = nI (155 + s) := by rw [nI_lit, nI_add]
        have k2 : 155 + nI t = nI (155 + t) := by rw [nI_lit, nI_add]
        refine tX12_change (fun m1 e1 => ?_)
        have n0 : m1 129 0 = nI n := by rw [e1, zUp_k _ _ (by decide), x9]; exact hR.1.2
        rw [n0, k1, k2, nI_clamp (n := 155 + s) (by omega), nI_clamp (n := 155 + t) (by omega)]
        refine br_f (nI_pos (by omega)) (br_f ns (br_f (nI_pos (by omega)) (br_f ns2 ⟨fun _ => ?_, fun q => absurd q ne⟩)))
        refine m_rem e1 x9 x3 x8 q7 hA (fun z M z9 => ⟨rfl, vp_in_nI (by omega) (by decide), vp_in_nI (by omega) (by decide), vp_in_nI (by omega) (by decide), fun m4 i4 => ⟨vp_in_nI (by omega) (by decide), fun m5 i5 => ⟨vp_in_nI (by omega) (by decide), ?_⟩⟩⟩)
        have e5 : m5 129 = pEx (u 129) s t := by rw [i5, zUp_row, i4, zUp_row, z9]; rfl
        rw [e5]
        exact ⟨by rw [v6 s (by omega)], M.ch (fun c _ x _ => by rw [i5, zUp_k _ _ x, i4, zUp_k _ _ x]) (fun j _ => by rw [i5, zUp_kj _ _ (by decide), i4, zUp_kj _ _ (by decide)]), hR.ex hs ht, Y, ⟨fun k p q => (pEx_ne (by omega) (by omega) (by omega)).symm, (pEx_ne (by omega) (by omega) (by omega)).symm, (pEx_ne (by omega) (by omega) (by omega)).symm, fun x hx => (pEx_ne (by omega) (by omega) (by omega)).symm⟩, fun k hk => pEx_ne (by omega) (by omega) (by omega)⟩
    · refine Or.inr (tTX11_change (Or.inr ⟨pos, lt, Or.inl ⟨by rw [hu]; exact hb, ?_⟩⟩))
      refine tX12_change (fun m1 e1 => ?_)
      have n0 : m1 129 0 = nI n := by rw [e1, zUp_k _ _ (by decide)]; exact hR.1.2
      rw [n0]
      exact br_f (nI_pos (by omega)) (br_f ns ⟨fun _ => m_thr1 hI e1 (by simp), fun q => ⟨fun _ => m_thr1 hI e1 (by simp), fun q2 => absurd (i_top2 h8 hb q) q2⟩⟩)
  · refine Or.inr (tTX11_change (Or.inl ⟨by rw [hu]; exact ha, ?_⟩))
    refine tX12_change (fun m1 e1 => ?_)
    have n0 : m1 129 0 = nI n := by rw [e1, zUp_k _ _ (by decide)]; exact hR.1.2
    rw [n0]
    exact ⟨fun _ => m_thr1 hI e1 (by simp), fun q => ⟨fun _ => m_thr1 hI e1 (by simp), fun q2 => absurd (i_top2 h8 ha q) q2⟩⟩
theorem op_lend (a b : Int32) : zOkT 123 268 [.int a, .int b] [(2, 1), (1, 2), (3, 3)] := by
  intro u ⟨n, hI⟩
  have hI' := hI
  obtain ⟨hC, -, -, ⟨A, N, hA, hN, p7, q7, p6, hP⟩, -, -⟩ := hI'
  have hR := hC.1
  have h8 := hR.1.1
  have hu : u 4 3 = nI n := hC.2.2.1.1.1.trans hR.1.2
  rcases i_cases a n (by omega) with ⟨s, hs, rfl⟩ | ha
  · have pos := nI_pos' (n := s) (by omega)
    have lt : nI s < u 4 3 := by rw [hu]; exact nI_lt hs (by omega)
    have ns := i_notop h8 hs
    rcases i_cases b n (by omega) with ⟨t, ht, rfl⟩ | hb
    · have pos2 := nI_pos' (n := t) (by omega)
      have lt2 : nI t < u 4 3 := by rw [hu]; exact nI_lt ht (by omega)
      have ns2 := i_notop h8 ht
      by_cases st : s = t
      · subst st
        refine Or.inr (tTX11_lend (Or.inr ⟨pos, lt, Or.inr ⟨pos, lt, Or.inl ⟨rfl, ?_⟩⟩⟩))
        refine tX12_lend (fun m1 e1 => ?_)
        have n0 : m1 129 0 = nI n := by rw [e1, zUp_k _ _ (by decide)]; exact hR.1.2
        rw [n0]
        exact br_f (nI_pos (by omega)) (br_f ns (br_f (nI_pos (by omega)) (br_f ns ⟨fun q => absurd rfl q, fun _ => m_thr1 hI e1 (by simp)⟩)))
      · have ne : ¬ nI s = nI t := nI_ne (by omega) (by omega) st
        obtain ⟨o, ho, eo⟩ := hR.vs s 4 (by omega) (by omega) (by omega)
        obtain ⟨f, hf, ef⟩ := hR.vs s 3 (by omega) (by omega) (by omega)
        obtain ⟨o2, ho2, eo2⟩ := hR.vs t 4 (by omega) (by omega) (by omega)
        obtain ⟨f2, hf2, ef2⟩ := hR.vs t 3 (by omega) (by omega) (by omega)
        have ho' : o ≤ 9 := ho
        have hf' : f ≤ 9 := hf
        have ho2' : o2 ≤ 9 := ho2
        have hf2' : f2 ≤ 9 := hf2
        have c3 : ((3 : Int32) * 8) + nI s = nI (3 * 8 + s) := dv_ix 3 s
        have c4 : ((4 : Int32) * 8) + nI s = nI (4 * 8 + s) := dv_ix 4 s
        have d3 : ((3 : Int32) * 8) + nI t = nI (3 * 8 + t) := dv_ix 3 t
        have d4 : ((4 : Int32) * 8) + nI t = nI (4 * 8 + t) := dv_ix 4 t
        have a3 : (163 + (9 * nI s)) + 3 = nI (163 + 9 * s + 3) := ix_w s 3
        have a4 : (163 + (9 * nI s)) + 4 = nI (163 + 9 * s + 4) := ix_w s 4
        have b3 : (163 + (9 * nI t)) + 3 = nI (163 + 9 * t + 3) := ix_w t 3
        have b4 : (163 + (9 * nI t)) + 4 = nI (163 + 9 * t + 4) := ix_w t 4
        have ui : ∀ x w, x < 8 → w < 9 → u 5 (w * 8 + x) = u 129 (163 + 9 * x + w) := fun x w hx hw => hC.2.2.1.2.1 x w hx hw
        have u3 := (ui s 3 (by omega) (by decide)).trans ef
        have u4 := (ui s 4 (by omega) (by decide)).trans eo
        have w3 := (ui t 3 (by omega) (by decide)).trans ef2
        have w4 := (ui t 4 (by omega) (by decide)).trans eo2
        have vs : vp_in (nI s) 8 := vp_in_nI (by omega) (by decide)
        have vt : vp_in (nI t) 8 := vp_in_nI (by omega) (by decide)
        have le0 : ∀ x : Nat, x ≤ 9 → ((nI x ≤ 0) ↔ x = 0) := fun x hx => by rw [nI_lit, nI_leI (by omega) (by omega)]; omega
        have eq0 : ∀ x : Nat, x ≤ 9 → ((nI x = 0) ↔ x = 0) := fun x hx => by rw [nI_lit, nI_eq (by omega) (by omega)]
        have eq9 : ∀ x : Nat, x ≤ 9 → ((nI x = 9) ↔ x = 9) := fun x hx => by rw [nI_lit, nI_eq (by omega) (by omega)]
        have lt1 : ∀ x : Nat, x ≤ 9 → ((nI x < 1) ↔ x = 0) := fun x hx => by rw [nI_lit, nI_ltI (by omega) (by omega)]; omega
        have lt9 : ∀ x : Nat, x ≤ 9 → ((nI x < 9) ↔ ¬ x = 9) := fun x hx => by rw [nI_lit, nI_ltI (by omega) (by omega)]; omega
        -- what is lent, and how many both have
        by_cases ok : ((0 < o ∧ o2 < 9) ∨ (o = 0 ∧ 0 < f ∧ f2 < 9))
        · refine Or.inl (act_ok hI A N hA hN hP ?_)
          -- the two sides of a lending
          have key : ∀ (w0 x y : Nat) (r : Int32), w0 = 3 ∨ w0 = 4 → u 129 (163 + 9 * s + w0) = nI x → u 129 (163 + 9 * t + w0) = nI y → 0 < x → x ≤ 9 → y < 9 →
              (∀ X m1 : zM, X 129 = u 129 → m1 = zUp X 128 0 0 → ∀ G : Option Value → zM → Prop, (zCV 59 185 [.ref 128] m1 fun z => vp_in (nI (163 + 9 * s + w0)) 2173 ∧ vp_in (nI (163 + 9 * s + w0)) 2173 ∧ ∀ m4 : zM, m4 = zUp z 129 (163 + 9 * s + w0) (z 129 (163 + 9 * s + w0) - 1) → vp_in (nI (163 + 9 * t + w0)) 2173 ∧ vp_in (nI (163 + 9 * t + w0)) 2173 ∧ G (some (.int r)) (zUp m4 129 (163 + 9 * t + w0) (m4 129 (163 + 9 * t + w0) + 1))) → zCall 60 false 268 [.ref 128, .int (nI s), .int (nI t)] X G) →
              zCV 59 171 [.ref 0] u fun w1 => vp_in (nI s) 8 ∧ ∀ m3 : zM, m3 = zUp w1 5 (w0 * 8 + s) (nI x - 1) → vp_in (nI t) 8 ∧ (zActD u (zUp m3 5 (w0 * 8 + t) (nI y + 1)) A N ∧ ∀ X : zM, (∀ c, c < 142 → X c = (zUp m3 5 (w0 * 8 + t) (nI y + 1)) c) → zActD u X A N → zCall 60 false 268 [.ref 128, .int (nI s), .int (nI t)] X fun v2 z => v2 = some (.int r) ∧ zActM u X z A ∧ zRg (z 129) n ∧ zDy (zUp m3 5 (w0 * 8 + t) (nI y + 1)) 4 (z 129) ∧ zBase (z 129) (u 129) ∧ ∀ k, 475 ≤ k → z 129 k = u 129 k) := by
            intro w0 x y r hw ex ey x0 x9 y9 hm
            have zb : zVb w0 = 9 := by rcases hw with rfl | rfl <;> rfl
            refine d_remember hC hA hN p7 p6 (fun w1 D1 sm => ⟨rfl, vs, fun m3 i3 => ⟨vt, ?_⟩⟩)
            have sx : nI x - 1 = nI (x - 1) := nI_sub (b := 1) (by omega)
            have sy : nI y + 1 = nI (y + 1) := nI_1 y
            rw [sx] at i3
            rw [sy]
            obtain ⟨F1, F2, F3, F4, F5⟩ := act_fin (s := s) (w0 := w0) (v := nI (x - 1)) hC hN D1 sm (by omega) (by omega) (by omega) (fun _ => ⟨x - 1, by omega, rfl⟩) (fun q => by omega)
            rw [← i3] at F1 F2
            have G1 : zActD u (zUp m3 5 (w0 * 8 + t) (nI (y + 1))) A N := F1.ch hN (fun c _ q _ _ => zUp_k _ _ (by omega)) (fun j _ => by rw [zUp_k _ _ (by decide)])
            have G2 := F2.set (s := t) (w := w0) (nI (y + 1)) (by omega) (by omega)
            have G3 : zRg (upd (upd (u 129) (163 + 9 * s + w0) (nI (x - 1))) (163 + 9 * t + w0) (nI (y + 1))) n := F3.set (by omega) (by omega) (fun _ => ⟨y + 1, by omega, rfl⟩) (fun q => by omega)
            refine ⟨G1, fun X hX hDX => ?_⟩
            obtain ⟨x9', x3, x8⟩ := hDX.e hN (fun c _ => rfl)
            refine hm X _ x9' rfl _ ?_
            refine m_rem rfl x9' x3 x8 q7 hA (fun z M z9 => ⟨rfl, vp_in_nI (by omega) (by decide), vp_in_nI (by omega) (by decide), fun m4 i4 => ⟨vp_in_nI (by omega) (by decide), vp_in_nI (by omega) (by decide), rfl, ?_⟩⟩)
            rw [z9, ex, sx] at i4
            have r4 : m4 129 (163 + 9 * t + w0) = nI y := by rw [i4, zUp_j _ _ (by omega), z9]; exact ey
            rw [r4, sy]
            have e5 : (zUp m4 129 (163 + 9 * t + w0) (nI (y + 1))) 129 = upd (upd (u 129) (163 + 9 * s + w0) (nI (x - 1))) (163 + 9 * t + w0) (nI (y + 1)) := by rw [zUp_row, i4, zUp_row, z9]
            rw [e5]
            exact ⟨M.ch (fun c _ q _ => by rw [zUp_k _ _ q, i4, zUp_k _ _ q]) (fun j _ => by rw [zUp_kj _ _ (by decide), i4, zUp_kj _ _ (by decide)]), G3, G2, ⟨fun k p q => (by rw [upd_ne _ _ (by omega)]; exact F4.1 k p q), by rw [upd_ne _ _ (by omega)]; exact F4.2.1, by rw [upd_ne _ _ (by omega)]; exact F4.2.2.1, fun q hq => by rw [upd_ne _ _ (by omega)]; exact F4.2.2.2 q hq⟩, fun k hk => by rw [upd_ne _ _ (by omega)]; exact F5 k hk⟩
          have ref : ∀ X m1 : zM, X 129 = u 129 → m1 = zUp X 128 0 0 → m1 129 = u 129 := fun X m1 x9 e1 => by rw [e1, zUp_k _ _ (by decide), x9]
          refine tX11_lend ⟨pos, lt, pos2, lt2, ne, vs, ?_⟩
          rw [c3, c4, d3, d4, nI_clamp (n := 3 * 8 + s) (by omega), nI_clamp (n := 4 * 8 + s) (by omega), nI_clamp (n := 3 * 8 + t) (by omega), nI_clamp (n := 4 * 8 + t) (by omega), u3, u4, w3, w4]
          have mtree : ∀ X : zM, X 129 = u 129 → ∀ G : Option Value → zM → Prop, (∀ m1, m1 = zUp X 128 0 0 → ((o = 0 → zCV 59 185 [.ref 128] m1 fun z => vp_in (nI (163 + 9 * s + 3)) 2173 ∧ vp_in (nI (163 + 9 * s + 3)) 2173 ∧ ∀ m4 : zM, m4 = zUp z 129 (163 + 9 * s + 3) (z 129 (163 + 9 * s + 3) - 1) → vp_in (nI (163 + 9 * t + 3)) 2173 ∧ vp_in (nI (163 + 9 * t + 3)) 2173 ∧ G (some (.int 1)) (zUp m4 129 (163 + 9 * t + 3) (m4 129 (163 + 9 * t + 3) + 1))) ∧ (¬ o = 0 → zCV 59 185 [.ref 128] m1 fun z => vp_in (nI (163 + 9 * s + 4)) 2173 ∧ vp_in (nI (163 + 9 * s + 4)) 2173 ∧ ∀ m4 : zM, m4 = zUp z 129 (163 + 9 * s + 4) (z 129 (163 + 9 * s + 4) - 1) → vp_in (nI (163 + 9 * t + 4)) 2173 ∧ vp_in (nI (163 + 9 * t + 4)) 2173 ∧ G (some (.int 0)) (zUp m4 129 (163 + 9 * t + 4) (m4 129 (163 + 9 * t + 4) + 1))))) → zCall 60 false 268 [.ref 128, .int (nI s), .int (nI t)] X G := by
            intro X x9 G hG
            refine tX12_lend (fun m1 e1 => ?_)
            have m9 := ref X m1 x9 e1
            have n0 : m1 129 0 = nI n := by rw [m9]; exact hR.1.2
            have g := hG m1 e1
            rw [n0, a3, a4, b3, b4, ix_c (w := 3) (s := s) (by omega) (by decide), ix_c (w := 4) (s := s) (by omega) (by decide), ix_c (w := 3) (s := t) (by omega) (by decide), ix_c (w := 4) (s := t) (by omega) (by decide), m9, eo, ef, eo2, ef2, le0 o ho', eq0 f hf', eq9 f2 hf2', eq0 o ho', eq9 o2 ho2']
            exact br_f (nI_pos (by omega)) (br_f ns (br_f (nI_pos (by omega)) (br_f ns2 ⟨fun _ => ⟨ix_v (by omega) (by decide), fun q => ⟨ix_v (by omega) (by decide), fun q2 => by omega, fun q2 => ⟨ix_v (by omega) (by decide), fun _ => g.1 q, fun q3 => by omega⟩⟩, fun q => ⟨ix_v (by omega) (by decide), fun q2 => by omega, fun q2 => ⟨ix_v (by omega) (by decide), fun _ => g.2 q, fun q3 => by omega⟩⟩⟩, fun q => absurd q ne⟩)))
          rw [le0 o ho', lt1 f hf', lt9 f2 hf2', lt1 o ho', lt9 o2 ho2']
          refine ⟨fun q => ⟨vs, vt, fun q2 => by omega, fun q2 => ⟨fun q3 => ?_, fun q3 => by omega⟩⟩, fun q => ⟨vs, vt, fun q2 => by omega, fun q2 => ⟨fun q3 => ?_, fun q3 => by omega⟩⟩⟩
          · exact key 3 f f2 1 (Or.inl rfl) ef ef2 (by omega) hf' (by omega) (fun X m1 x9 e1 G hG => mtree X x9 G (fun m2 e2 => ⟨fun _ => by rw [e2, ← e1]; exact hG, fun z => absurd q z⟩))
          · exact key 4 o o2 0 (Or.inr rfl) eo eo2 (by omega) ho' (by omega) (fun X m1 x9 e1 G hG => mtree X x9 G (fun m2 e2 => ⟨fun z => absurd z q, fun _ => by rw [e2, ← e1]; exact hG⟩))
        · have th : zCall 60 false 268 [.ref 128, .int (nI s), .int (nI t)] u fun _ w2 => zIv w2 ∧ ∃ E c, some (Value.int 3) = some (.int E) ∧ (E, c) ∈ [((2 : Int32), (1 : Int32)), (1, 2), (3, 3)] ∧ w2 128 0 = c := by
            refine tX12_lend (fun m1 e1 => ?_)
            have m9 : m1 129 = u 129 := by rw [e1, zUp_k _ _ (by decide)]
            have n0 : m1 129 0 = nI n := by rw [m9]; exact hR.1.2
            rw [n0, a3, a4, b3, b4, ix_c (w := 3) (s := s) (by omega) (by decide), ix_c (w := 4) (s := s) (by omega) (by decide), ix_c (w := 3) (s := t) (by omega) (by decide), ix_c (w := 4) (s := t) (by omega) (by decide), m9, eo, ef, eo2, ef2, le0 o ho', eq0 f hf', eq9 f2 hf2', eq0 o ho', eq9 o2 ho2']
            have T := m_thr1 (E := 3) (c := 3) (L := [((2 : Int32), (1 : Int32)), (1, 2), (3, 3)]) hI e1 (by simp)
            exact br_f (nI_pos (by omega)) (br_f ns (br_f (nI_pos (by omega)) (br_f ns2 ⟨fun _ => ⟨ix_v (by omega) (by decide), fun q => ⟨ix_v (by omega) (by decide), fun q2 => T, fun q2 => ⟨ix_v (by omega) (by decide), fun q3 => absurd (by omega) ok, fun q3 => T⟩⟩, fun q => ⟨ix_v (by omega) (by decide), fun q2 => T, fun q2 => ⟨ix_v (by omega) (by decide), fun q3 => absurd (by omega) ok, fun q3 => T⟩⟩⟩, fun q => absurd q ne⟩)))
          refine Or.inr (tTX11_lend (Or.inr ⟨pos, lt, Or.inr ⟨pos2, lt2, Or.inr ⟨ne, vs, ?_⟩⟩⟩))
          rw [c3, c4, d3, d4, nI_clamp (n := 3 * 8 + s) (by omega), nI_clamp (n := 4 * 8 + s) (by omega), nI_clamp (n := 3 * 8 + t) (by omega), nI_clamp (n := 4 * 8 + t) (by omega), u3, u4, w3, w4, le0 o ho', lt1 f hf', lt9 f2 hf2', lt1 o ho', lt9 o2 ho2']
          exact ⟨fun q => ⟨vs, vt, fun q2 => th, fun q2 => ⟨fun q3 => absurd (by omega) ok, fun q3 => th⟩⟩, fun q => ⟨vs, vt, fun q2 => th, fun q2 => ⟨fun q3 => absurd (by omega) ok, fun q3 => th⟩⟩⟩
    · refine Or.inr (tTX11_lend (Or.inr ⟨pos, lt, Or.inl ⟨by rw [hu]; exact hb, ?_⟩⟩))
      refine tX12_lend (fun m1 e1 => ?_)
      have n0 : m1 129 0 = nI n := by rw [e1, zUp_k _ _ (by decide)]; exact hR.1.2
      rw [n0]
      exact br_f (nI_pos (by omega)) (br_f ns ⟨fun _ => m_thr1 hI e1 (by simp), fun q => ⟨fun _ => m_thr1 hI e1 (by simp), fun q2 => absurd (i_top2 h8 hb q) q2⟩⟩)
  · refine Or.inr (tTX11_lend (Or.inl ⟨by rw [hu]; exact ha, ?_⟩))
    refine tX12_lend (fun m1 e1 => ?_)
    have n0 : m1 129 0 = nI n := by rw [e1, zUp_k _ _ (by decide)]; exact hR.1.2
    rw [n0]
    exact ⟨fun _ => m_thr1 hI e1 (by simp), fun q => ⟨fun _ => m_thr1 hI e1 (by simp), fun q2 => absurd (i_top2 h8 ha q) q2⟩⟩
