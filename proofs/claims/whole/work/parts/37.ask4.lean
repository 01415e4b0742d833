theorem i_top {a : Int32} {n : Nat} (hn : n ≤ 8) (h1 : ¬ a < 0) (h2 : ¬ nI n - 1 < a) (h3 : nI n ≤ a) : False := by
  obtain ⟨j, hj, rfl⟩ := nI_of h1
  rcases Nat.eq_zero_or_pos n with q | q
  · subst q
    exact h2 (Int32.lt_of_lt_of_le (by decide) (nI_pos' hj))
  · rw [show nI n - 1 = nI (n - 1) from nI_sub (b := 1) (by omega)] at h2
    exact h2 (Int32.lt_of_lt_of_le (nI_lt (by omega) (by omega)) h3)
def zLat (W : Nat → Int32) (a : Int32) (m L : Nat) (r : Int32) : Prop := ((∀ i, m ≤ i → i < L → ¬ W (235 + 4 * i + 1) = a) ∧ r = -1) ∨ ∃ k, m ≤ k ∧ k < L ∧ W (235 + 4 * k + 1) = a ∧ (∀ i, m ≤ i → i < k → ¬ W (235 + 4 * i + 1) = a) ∧ r = W (235 + 4 * k)
theorem zLat_one {W : Nat → Int32} {a : Int32} {m L : Nat} {r1 r2 : Int32} (h1 : zLat W a m L r1) (h2 : zLat W a m L r2) : r1 = r2 := by
  rcases h1 with ⟨f1, f2⟩ | ⟨k, f1, f2, f3, f4, f5⟩
  · rcases h2 with ⟨g1, g2⟩ | ⟨k, g1, g2, g3, g4, g5⟩
    · rw [f2, g2]
    · exact absurd g3 (f1 k g1 g2)
  · rcases h2 with ⟨g1, g2⟩ | ⟨k2, g1, g2, g3, g4, g5⟩
    · exact absurd f3 (g1 k f1 f2)
    · have : k = k2 := by
        rcases Nat.lt_trichotomy k k2 with q | q | q
        · exact absurd f3 (g4 k f1 q)
        · exact q
        · exact absurd g3 (f4 k2 g1 q)
      rw [f5, g5, this]
theorem s_rowsOf {d k0 : Nat} {a1 : Int32} {u : zM} {W : Nat → Int32} {Q : Option Value → zM → Prop} (hk : zShapes[k0]? = some (.inl 3)) (hl : zLg u k0 W) (h : ∀ L, W 9 = nI L → L ≤ 60 → Q (some (.int (nI (zct (fun i => decide (W (235 + 4 * i + 1) = a1)) L)))) u) : zCall (d + 2) false 39 [.ref k0, .int a1] u Q := by
  obtain ⟨L, N, h1, h2, h3, h4, h5, h6⟩ := hl
  refine tX3_rowsOf hk ?_
  refine zFor (σ := Unit) (Pr := fun i _ => zRun (d + 1) false zcX3_rowsOf 1 Q 4 [(0, .ref k0), (1, .int a1), (2, .int (nI (zct (fun i => decide (W (235 + 4 * i + 1) = a1)) i))), (3, .int (nI i))] [] u) (fun _ _ => True) L (fun x _ => ?_) (fun i x hi _ ih => ?_) () trivial
  · refine tX3_rowsOf_4 hk ⟨fun _ => h L h5 h1, fun c => absurd ?_ c⟩
    rw [h3]; exact Int32.le_refl _
  · refine tX3_rowsOf_4 hk ⟨fun c => absurd c (by rw [h3, nI_leI (by omega) (by omega)]; omega), fun _ => ?_⟩
    refine s_cell (c := 1) hk rfl rfl h3 h4 h1 h2 hi (by decide) ⟨_, rfl, ?_⟩
    rw [h6 i 1 hi (by decide), nI_1]
    have ih := ih () trivial
    refine ⟨fun c => ?_, fun c => ?_⟩
    · have e : zct (fun i => decide (W (235 + 4 * i + 1) = a1)) (i + 1) = zct (fun i => decide (W (235 + 4 * i + 1) = a1)) i := by
        conv => lhs; unfold zct
        rw [if_neg (by simpa using c)]; rfl
      rw [e] at ih; exact ih
    · have e : zct (fun i => decide (W (235 + 4 * i + 1) = a1)) (i + 1) = zct (fun i => decide (W (235 + 4 * i + 1) = a1)) i + 1 := by
        conv => lhs; unfold zct
        rw [if_pos (by simpa using c)]
      rw [e] at ih; rw [nI_1]; exact ih
theorem s_latestDayOf {d k0 : Nat} {a1 : Int32} {u : zM} {W : Nat → Int32} {Q : Option Value → zM → Prop} (hk : zShapes[k0]? = some (.inl 3)) (hl : zLg u k0 W) (h : ∀ L r, W 9 = nI L → L ≤ 60 → zLat W a1 0 L r → Q (some (.int r)) u) : zCall (d + 2) false 40 [.ref k0, .int a1] u Q := by
  obtain ⟨L, N, h1, h2, h3, h4, h5, h6⟩ := hl
  refine tX3_latestDayOf hk ?_
  refine zFor (σ := Unit) (Pr := fun i _ => zRun (d + 1) false zcX3_latestDayOf 1 Q 2 [(0, .ref k0), (1, .int a1), (2, .int (nI i))] [] u) (fun i _ => ∀ j, j < i → ¬ W (235 + 4 * j + 1) = a1) L (fun x hx => ?_) (fun i x hi hx ih => ?_) () (fun j hj => absurd hj (Nat.not_lt_zero _))
  · refine tX3_latestDayOf_2 hk ⟨fun _ => h L _ h5 h1 (Or.inl ⟨fun i _ hi => hx i hi, rfl⟩), fun c => absurd ?_ c⟩
    rw [h3]; exact Int32.le_refl _
  · refine tX3_latestDayOf_2 hk ⟨fun c => absurd c (by rw [h3, nI_leI (by omega) (by omega)]; omega), fun _ => ?_⟩
    refine s_cell (c := 1) hk rfl rfl h3 h4 h1 h2 hi (by decide) ⟨_, rfl, ?_⟩
    rw [h6 i 1 hi (by decide), nI_1]
    refine ⟨fun c => ih () (fun j hj => ?_), fun c => ?_⟩
    · rcases Nat.lt_or_ge j i with q | q
      · exact hx j q
      · obtain rfl : j = i := by omega
        exact c
    · refine s_cell (c := 0) hk rfl rfl h3 h4 h1 h2 hi (by decide) ⟨_, rfl, ?_⟩
      rw [h6 i 0 hi (by decide)]
      exact h L _ h5 h1 (Or.inr ⟨i, Nat.zero_le _, hi, c, fun j _ hj => hx j hj, rfl⟩)
theorem op_led (a b : Int32) : zAskT 156 322 [.int a, .int b] [(2, 1)] := by
  intro u n hC
  have hD := hC.2.2.1
  have hn := hC.1.1.2
  have h8 := hC.1.1.1
  have hu : u 4 3 = nI n := hD.1.1.trans hn
  rcases i_cases a n (by omega) with ⟨j, hj, rfl⟩ | hout
  · have main : ∀ (L : Nat) (v : Int32), u 129 9 = nI L → L ≤ 60 → (b = 0 → v = nI (zct (fun i => decide (u 129 (235 + 4 * i + 1) = nI j)) L)) → (¬ b = 0 → zLat (u 129) (nI j) 0 L v) → ∀ o : Int32, zCall 60 false 322 [.ref 128, .int (nI j), .int b] (zUp u 142 0 o) fun v2 w2 => v2 = some (.int v) ∧ w2 128 0 = 0 ∧ zSame u w2 := by
      intro L v hL h60 hv1 hv2 o
      refine tX12_led (fun m1 e1 => ?_)
      have e2 : m1 129 = u 129 := by rw [e1, zUp_k _ _ (by decide), zUp_k _ _ (by decide)]
      have e4 : nI n - 1 = nI (n - 1) := nI_sub (b := 1) (by omega)
      have fin : m1 128 0 = 0 ∧ zSame u m1 := ⟨by rw [e1]; exact zUp_at _ _ _ _, by rw [e1]; exact (zSame.o o).tr (zSame.m _ (by decide))⟩
      rw [e2, hn, e4]
      refine ⟨fun c => absurd c (nI_pos (by omega)), fun _ => ⟨fun c => absurd c (by rw [nI_ltI (by omega) (by omega)]; omega), fun _ => ?_⟩⟩
      rw [hL]
      refine zFor (σ := Int32 × Int32) (Pr := fun i x => zRun 59 false zcX12_led 1 _ 36 [(0, .ref 128), (1, .int (nI j)), (2, .int b), (3, .int x.1), (4, .int x.2), (5, .int (nI (L - i) - 1))] [] m1)
        (fun i x => (∃ c, x.1 = nI c ∧ zct (fun i => decide (u 129 (235 + 4 * i + 1) = nI j)) (L - i) + c = zct (fun i => decide (u 129 (235 + 4 * i + 1) = nI j)) L) ∧ zLat (u 129) (nI j) (L - i) L x.2) L (fun x hx => ?_) (fun i x hi hx ih => ?_) (0, -1) ⟨⟨0, rfl, rfl⟩, Or.inl ⟨fun i h1 h2 => absurd h2 (by omega), rfl⟩⟩
      · rw [Nat.sub_self] at hx ⊢
        obtain ⟨⟨c, g1, g2⟩, g3⟩ := hx
        refine tX12_led_36 ⟨fun _ => ⟨fun hb => ⟨?_, fin⟩, fun hb => ⟨?_, fin⟩⟩, fun q => absurd (by decide) q⟩
        · rw [hv1 hb, g1, ← g2]; congr 2
          show nI c = nI (0 + c)
          rw [Nat.zero_add]
        · rw [zLat_one g3 (hv2 hb)]
      · obtain ⟨⟨c, g1, g2⟩, g3⟩ := hx
        obtain ⟨p, hp⟩ : ∃ p, L - i = p + 1 := ⟨L - i - 1, by omega⟩
        have hp2 : L - (i + 1) = p := by omega
        rw [hp2] at ih
        rw [hp] at g2 g3 ⊢
        rw [nI_pred]
        have e5 : ((235 + (4 * nI p)) + 1) = nI (235 + 4 * p + 1) := by rw [nI_lit, nI_lit, nI_lit, nI_mul, nI_add, nI_add]
        have e6 : ((235 + (4 * nI p)) + 0) = nI (235 + 4 * p) := by rw [nI_lit, nI_lit, nI_lit, nI_mul, nI_add, nI_add, Nat.add_zero]
        have e7 : nI p + (-1) = nI p - 1 := (Int32.sub_eq_add_neg _ _).symm
        refine tX12_led_36 ?_
        rw [e5, e6, e7, e2, nI_clamp (by omega), nI_clamp (by omega)]
        refine ⟨fun q => absurd q (nI_pos (by omega)), fun _ => ⟨vp_in_nI (by omega) (by decide), fun q => ⟨vp_in_nI (by omega) (by decide), ih (x.1 + 1, u 129 (235 + 4 * p)) ⟨⟨c + 1, by rw [g1]; exact nI_1 c, ?_⟩, Or.inr ⟨p, Nat.le_refl _, by omega, q, fun i h1 h2 => absurd h2 (by omega), rfl⟩⟩⟩, fun q => ih x ⟨⟨c, g1, ?_⟩, ?_⟩⟩⟩
        · rw [← g2]
          conv => rhs; unfold zct
          rw [if_pos (by simpa using q)]; omega
        · rw [← g2]
          conv => rhs; unfold zct
          rw [if_neg (by simpa using q)]; omega
        · rcases g3 with ⟨f1, f2⟩ | ⟨k, f1, f2, f3, f4, f5⟩
          · refine Or.inl ⟨fun i h1 h2 => ?_, f2⟩
            rcases Nat.eq_or_lt_of_le h1 with e | e
            · rw [← e]; exact q
            · exact f1 i e h2
          · refine Or.inr ⟨k, by omega, f2, f3, fun i h1 h2 => ?_, f5⟩
            rcases Nat.eq_or_lt_of_le h1 with e | e
            · rw [← e]; exact q
            · exact f4 i e h2
    refine Or.inl (tX11_led ⟨nI_pos' (by omega), by rw [hu]; exact nI_lt hj (by omega), fun hb => ?_, fun hb => ?_⟩)
    · exact s_rowsOf rfl hD.2.2.2 (fun L h1 h2 => ⟨_, rfl, zSame.rf u, main L _ h1 h2 (fun _ => rfl) (fun q => absurd hb q)⟩)
    · exact s_latestDayOf rfl hD.2.2.2 (fun L r h1 h2 h3 => ⟨_, rfl, zSame.rf u, main L _ h1 h2 (fun q => absurd q hb) (fun _ => h3)⟩)
  · refine Or.inr (tTX11_led (Or.inl ⟨by rw [hu]; exact hout, zSame.rf u, ?_⟩))
    refine tX12_led (fun m1 e1 => ?_)
    have e2 : m1 129 = u 129 := by rw [e1, zUp_k _ _ (by decide)]
    have fin : zSame u (zUp m1 128 0 1) ∧ ∃ E c : Int32, (some (Value.int 2) : Option Value) = some (.int E) ∧ (E, c) ∈ [((2 : Int32), (1 : Int32))] ∧ zUp m1 128 0 1 128 0 = c := ⟨by rw [e1]; exact zSame.mm _ _ (by decide) (by decide), 2, 1, rfl, by decide, by rw [zUp_at]⟩
    refine ⟨fun _ => fin, fun c => ⟨fun _ => fin, fun c2 => absurd (hout.resolve_left c) ?_⟩⟩
    intro c3
    rw [e2, hn] at c2
    exact i_top h8 c c2 c3
