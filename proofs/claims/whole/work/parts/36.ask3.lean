theorem zRd_le {W : Nat → Int32} {n : Nat} (h : zRg W n) (a b : Nat) : rdN W a b ≤ 9 := by
  unfold rdN
  split
  · rename_i q
    obtain ⟨r, hr, e⟩ := h.2.2.2.2.2.2.2.2.2.1 a b q.1 q.2
    rw [e, nI_clamp (by omega)]; exact hr
  · omega
theorem zRd_eq {W : Nat → Int32} {n : Nat} (h : zRg W n) {a b : Nat} (ha : a < 12) (hb : b < 12) : W (11 + 12 * a + b) = nI (rdN W a b) := by
  unfold rdN
  rw [if_pos ⟨ha, hb⟩]
  obtain ⟨r, hr, e⟩ := h.2.2.2.2.2.2.2.2.2.1 a b ha hb
  rw [e, nI_clamp (by omega)]
theorem zRd_sym {W : Nat → Int32} {n : Nat} (h : zRg W n) (a b : Nat) : rdN W a b = rdN W b a := by
  unfold rdN
  by_cases q : a < 12 ∧ b < 12
  · rw [if_pos q, if_pos ⟨q.2, q.1⟩, h.2.2.2.2.2.2.2.2.2.2.1 a b q.1 q.2]
  · rw [if_neg q, if_neg (fun z => q ⟨z.2, z.1⟩)]
theorem op_round (a : Int32) : zAskT 115 244 [.int a] [(2, 1)] := by
  intro u n hC
  have hD := hC.2.2.1
  have hn := hC.1.1.2
  have h8 := hC.1.1.1
  have hu : u 4 3 = nI n := hD.1.1.trans hn
  rcases i_cases a n (by omega) with ⟨j, hj, rfl⟩ | hout
  · refine Or.inl (tX11_round ⟨nI_pos' (by omega), by rw [hu]; exact nI_lt hj (by omega), vp_in_nI (by omega) (by decide), zSame.rf u, fun o => ?_⟩)
    refine tX12_round (fun m1 e1 => ?_)
    have e2 : m1 129 = u 129 := by rw [e1, zUp_k _ _ (by decide), zUp_k _ _ (by decide)]
    have e3 : 155 + nI j = nI (155 + j) := by rw [nI_lit, nI_add]
    have e4 : nI n - 1 = nI (n - 1) := nI_sub (b := 1) (by omega)
    rw [e2, e3, hn, e4, nI_clamp (by omega), nI_clamp (by omega)]
    refine ⟨fun c => absurd c (nI_pos (by omega)), fun _ => ⟨fun c => absurd c (by rw [nI_ltI (by omega) (by omega)]; omega), fun _ => ⟨vp_in_nI (by omega) (by decide), ?_, by rw [e1]; exact zUp_at _ _ _ _, by rw [e1]; exact (zSame.o o).tr (zSame.m _ (by decide))⟩⟩⟩
    rw [hD.2.2.1 j (by omega)]
  · refine Or.inr (tTX11_round (Or.inl ⟨by rw [hu]; exact hout, zSame.rf u, ?_⟩))
    refine tX12_round (fun m1 e1 => ?_)
    have e2 : m1 129 = u 129 := by rw [e1, zUp_k _ _ (by decide)]
    have fin : zSame u (zUp m1 128 0 1) ∧ ∃ E c : Int32, (some (Value.int 2) : Option Value) = some (.int E) ∧ (E, c) ∈ [((2 : Int32), (1 : Int32))] ∧ zUp m1 128 0 1 128 0 = c := ⟨by rw [e1]; exact zSame.mm _ _ (by decide) (by decide), 2, 1, rfl, by decide, by rw [zUp_at]⟩
    refine ⟨fun _ => fin, fun c => ⟨fun _ => fin, fun c2 => absurd (hout.resolve_left c) ?_⟩⟩
    intro c3
    rw [e2, hn] at c2
    rcases Nat.eq_zero_or_pos n with q | q
    · subst q
      obtain ⟨j, hj, rfl⟩ := nI_of c
      exact c2 (Int32.lt_of_lt_of_le (by decide) (nI_pos' hj))
    · rw [show nI n - 1 = nI (n - 1) from nI_sub (b := 1) (by omega)] at c2
      exact c2 (Int32.lt_of_lt_of_le (nI_lt (by omega) (by omega)) c3)
theorem op_road (a b : Int32) : zAskT 114 242 [.int a, .int b] [(2, 1)] := by
  intro u n hC
  have hS := hC.2.2.2
  have hout : ∀ v : Option Value, (a < 0 ∨ 12 ≤ a) ∨ (b < 0 ∨ 12 ≤ b) → zCall 60 false 242 [.ref 128, .int a, .int b] u fun _ w2 => zSame u w2 ∧ ∃ E c : Int32, (some (Value.int 2) : Option Value) = some (.int E) ∧ (E, c) ∈ [((2 : Int32), (1 : Int32))] ∧ w2 128 0 = c := by
    intro _ ho
    refine tX12_road (fun m1 e1 => ?_)
    have fin : zSame u (zUp m1 128 0 1) ∧ ∃ E c : Int32, (some (Value.int 2) : Option Value) = some (.int E) ∧ (E, c) ∈ [((2 : Int32), (1 : Int32))] ∧ zUp m1 128 0 1 128 0 = c := ⟨by rw [e1]; exact zSame.mm _ _ (by decide) (by decide), 2, 1, rfl, by decide, by rw [zUp_at]⟩
    have big : ∀ x : Int32, ¬ x < 0 → ¬ 11 < x → (x < 0 ∨ 12 ≤ x) → False := fun x q1 q2 q3 => q2 (Int32.lt_of_lt_of_le (by decide) (q3.resolve_left q1))
    refine ⟨fun _ => fin, fun c => ⟨fun _ => fin, fun c2 => ⟨fun _ => fin, fun c3 => ⟨fun _ => fin, fun c4 => ?_⟩⟩⟩⟩
    rcases ho with ho | ho
    · exact (big a c c2 ho).elim
    · exact (big b c3 c4 ho).elim
  rcases i_cases a 12 (by decide) with ⟨i, hi, rfl⟩ | ha
  · rcases i_cases b 12 (by decide) with ⟨j, hj, rfl⟩ | hb
    · have va : vp_in (nI i) 12 := vp_in_nI hi (by decide)
      have vb : vp_in (nI j) 12 := vp_in_nI hj (by decide)
      have e0 : ((nI i * 12) + nI j) = nI (i * 12 + j) := by rw [nI_lit, nI_mul, nI_add]
      have er : u 10 (i * 12 + j) = nI (rdN (u 129) i j) := by rw [hS.1 i j hi hj]; exact zRd_eq hC.1 hi hj
      have hr := zRd_le hC.1 i j
      have main : ∀ v : Int32, v = (if rdN (u 129) i j = 0 then -1 else nI (rdN (u 129) i j)) → ∀ o : Int32, zCall 60 false 242 [.ref 128, .int (nI i), .int (nI j)] (zUp u 142 0 o) fun v2 w2 => v2 = some (.int v) ∧ w2 128 0 = 0 ∧ zSame u w2 := by
        intro v hv o
        refine tX12_road (fun m1 e1 => ?_)
        have e2 : m1 129 = u 129 := by rw [e1, zUp_k _ _ (by decide), zUp_k _ _ (by decide)]
        have e3 : ((11 + (12 * nI i)) + nI j) = nI (11 + 12 * i + j) := by rw [nI_lit, nI_lit, nI_mul, nI_add, nI_add]
        have e4 := zRd_eq hC.1 hi hj
        have fin : m1 128 0 = 0 ∧ zSame u m1 := ⟨by rw [e1]; exact zUp_at _ _ _ _, by rw [e1]; exact (zSame.o o).tr (zSame.m _ (by decide))⟩
        rw [e2, e3, nI_clamp (by omega), e4]
        refine ⟨fun c => absurd c (nI_pos (by omega)), fun _ => ⟨fun c => absurd c (by rw [nI_lit, nI_ltI (by omega) (by omega)]; omega), fun _ => ⟨fun c => absurd c (nI_pos (by omega)), fun _ => ⟨fun c => absurd c (by rw [nI_lit, nI_ltI (by omega) (by omega)]; omega), fun _ => ⟨vp_in_nI (by omega) (by decide), fun c => ⟨vp_in_nI (by omega) (by decide), ?_, fin⟩, fun c => ⟨?_, fin⟩⟩⟩⟩⟩⟩
        · rw [nI_lit, nI_eq (by omega) (by omega)] at c
          rw [hv, if_neg c]
        · rw [nI_lit, nI_eq (by omega) (by omega)] at c
          rw [hv, if_pos c]
      refine Or.inl (tX11_road ⟨va, vb, va, vb, ?_⟩)
      rw [e0, nI_clamp (by omega), er]
      refine ⟨fun c => ⟨zSame.rf u, main _ ?_⟩, fun c => ⟨zSame.rf u, main _ ?_⟩⟩
      · rw [nI_lit, nI_leI (by omega) (by omega)] at c
        rw [if_pos (by omega)]
      · rw [nI_lit, nI_leI (by omega) (by omega)] at c
        rw [if_neg (by omega)]
    · exact Or.inr (tTX11_road (Or.inr ⟨vp_in_nI hi (by decide), Or.inl ⟨hb, zSame.rf u, hout none (Or.inr hb)⟩⟩))
  · exact Or.inr (tTX11_road (Or.inl ⟨ha, zSame.rf u, hout none (Or.inl ha)⟩))
theorem op_far (a b : Int32) : zAskT 113 241 [.int a, .int b] [(2, 1)] := by
  intro u n hC
  have hS := hC.2.2.2
  have hout : ∀ v : Option Value, (a < 0 ∨ 12 ≤ a) ∨ (b < 0 ∨ 12 ≤ b) → zCall 60 false 241 [.ref 128, .int a, .int b] u fun _ w2 => zSame u w2 ∧ ∃ E c : Int32, (some (Value.int 2) : Option Value) = some (.int E) ∧ (E, c) ∈ [((2 : Int32), (1 : Int32))] ∧ w2 128 0 = c := by
    intro _ ho
    refine tX12_far (fun m1 e1 => ?_)
    have fin : zSame u (zUp m1 128 0 1) ∧ ∃ E c : Int32, (some (Value.int 2) : Option Value) = some (.int E) ∧ (E, c) ∈ [((2 : Int32), (1 : Int32))] ∧ zUp m1 128 0 1 128 0 = c := ⟨by rw [e1]; exact zSame.mm _ _ (by decide) (by decide), 2, 1, rfl, by decide, by rw [zUp_at]⟩
    have big : ∀ x : Int32, ¬ x < 0 → ¬ 11 < x → (x < 0 ∨ 12 ≤ x) → False := fun x q1 q2 q3 => q2 (Int32.lt_of_lt_of_le (by decide) (q3.resolve_left q1))
    refine ⟨fun _ => fin, fun c => ⟨fun _ => fin, fun c2 => ⟨fun _ => fin, fun c3 => ⟨fun _ => fin, fun c4 => ?_⟩⟩⟩⟩
    rcases ho with ho | ho
    · exact (big a c c2 ho).elim
    · exact (big b c3 c4 ho).elim
  rcases i_cases a 12 (by decide) with ⟨i, hi, rfl⟩ | ha
  · rcases i_cases b 12 (by decide) with ⟨j, hj, rfl⟩ | hb
    · have va : vp_in (nI i) 12 := vp_in_nI hi (by decide)
      have vb : vp_in (nI j) 12 := vp_in_nI hj (by decide)
      have e0 : ((nI i * 12) + nI j) = nI (i * 12 + j) := by rw [nI_lit, nI_mul, nI_add]
      have hF := fw_99 (rdN (u 129)) (zRd_le hC.1) hi hj
      have main : ∀ v : Int32, v = (if fwR (rdN (u 129)) 12 i j = 1000000 then -1 else nI (fwR (rdN (u 129)) 12 i j)) → ∀ o : Int32, zCall 60 false 241 [.ref 128, .int (nI i), .int (nI j)] (zUp u 142 0 o) fun v2 w2 => v2 = some (.int v) ∧ w2 128 0 = 0 ∧ zSame u w2 := by
        intro v hv o
        refine tX12_far (fun m1 e1 => ?_)
        have e2 : m1 134 = u 134 := by rw [e1, zUp_k _ _ (by decide), zUp_k _ _ (by decide)]
        have e3 : ((12 * nI i) + nI j) = nI (12 * i + j) := by rw [nI_lit, nI_mul, nI_add]
        have fin : m1 128 0 = 0 ∧ zSame u m1 := ⟨by rw [e1]; exact zUp_at _ _ _ _, by rw [e1]; exact (zSame.o o).tr (zSame.m _ (by decide))⟩
        rw [e2, e3, nI_clamp (by omega), hC.2.1 i j hi hj]
        refine ⟨fun c => absurd c (nI_pos (by omega)), fun _ => ⟨fun c => absurd c (by rw [nI_lit, nI_ltI (by omega) (by omega)]; omega), fun _ => ⟨fun c => absurd c (nI_pos (by omega)), fun _ => ⟨fun c => absurd c (by rw [nI_lit, nI_ltI (by omega) (by omega)]; omega), fun _ => ⟨vp_in_nI (by omega) (by decide), fun c => ⟨?_, fin⟩, fun c => ⟨?_, fin⟩⟩⟩⟩⟩⟩
        · rw [nI_lit, nI_ltI (by omega) (by omega)] at c
          rw [hv, if_neg (by omega)]
        · rw [nI_lit, nI_ltI (by omega) (by omega)] at c
          rw [hv, if_pos (by omega)]
      refine Or.inl (tX11_far ⟨va, vb, va, vb, ?_⟩)
      rw [e0, nI_clamp (by omega), hS.2 i j hi hj]
      refine ⟨fun c => ⟨zSame.rf u, main _ ?_⟩, fun c => ⟨zSame.rf u, main _ ?_⟩⟩
      · rw [nI_lit, nI_ltI (by omega) (by omega)] at c
        rw [if_neg (by omega), Nat.min_eq_right (by omega)]
      · rw [nI_lit, nI_ltI (by omega) (by omega)] at c
        rw [if_pos (by omega)]
    · exact Or.inr (tTX11_far (Or.inr ⟨vp_in_nI hi (by decide), Or.inl ⟨hb, zSame.rf u, hout none (Or.inr hb)⟩⟩))
  · exact Or.inr (tTX11_far (Or.inl ⟨ha, zSame.rf u, hout none (Or.inl ha)⟩))
