/-- the throwing end of the reference -/
theorem zThr {u m1 : zM} {E c : Int32} {L : List (Int32 × Int32)} (e1 : m1 = zUp u 128 0 0) (h : (E, c) ∈ L) : zSame u (zUp m1 128 0 c) ∧ ∃ E' c' : Int32, (some (Value.int E) : Option Value) = some (.int E') ∧ (E', c') ∈ L ∧ zUp m1 128 0 c 128 0 = c' := ⟨by rw [e1]; exact zSame.mm _ _ (by decide) (by decide), E, c, rfl, h, zUp_at _ _ _ _⟩
theorem i_top2 {a : Int32} {n : Nat} (hn : n ≤ 8) (h : a < 0 ∨ nI n ≤ a) (h1 : ¬ a < 0) : nI n - 1 < a := Decidable.byContradiction fun h2 => i_top hn h1 h2 (h.resolve_left h1)
theorem i_lim {a : Int32} {n : Nat} (hn : n < 1000) (h : a < 0 ∨ nI (n + 1) ≤ a) (h1 : ¬ a < 0) : nI n < a := Int32.lt_of_lt_of_le (nI_lt (by omega) (by omega)) (h.resolve_left h1)
theorem op_gutter (a b : Int32) : zAskT 145 307 [.int a, .int b] [(2, 1), (1, 2)] := by
  intro u n hC
  have h8 := hC.1.1.1
  have hn := hC.1.1.2
  have hu : u 4 3 = nI n := hC.2.2.1.1.1.trans hn
  rcases i_cases a n (by omega) with ⟨j, hj, rfl⟩ | hout
  · rcases i_cases b 100 (by decide) with ⟨c, hc, rfl⟩ | hb
    · refine Or.inl (tX11_gutter ⟨nI_pos' (by omega), by rw [hu]; exact nI_lt hj (by omega), fun q => absurd q (nI_pos (by omega)), fun _ => ⟨fun _ => ?_, fun q => absurd (by rw [nI_lit, nI_leI (by omega) (by omega)]; omega) q⟩⟩)
      refine s_fill rfl (by decide) (fun w0 g1 g2 => ⟨rfl, ?_⟩)
      refine zFor (σ := zM) (Pr := fun i w => zRun 59 false zcX11_gutter 1 _ 36 [(0, .ref 0), (1, .int (nI j)), (2, .int (nI c)), (3, .int (nI i))] [] w) (fun i w => (∀ k, k ≠ 127 → w k = u k) ∧ ∀ s, s < 8 → w 127 s = guC (u 129) n i s) c (fun w hw => ?_) (fun i w hi hw ih => ?_) w0 ⟨g1, g2⟩
      · refine tX11_gutter_36 ⟨fun _ => ⟨fun q => absurd q (by rw [nI_lit, nI_leI (by omega) (by omega)]; omega), fun _ => ⟨vp_in_nI (by omega) (by decide), ?_⟩⟩, fun q => absurd (Int32.le_refl _) q⟩
        have hS : zSame u w := zSame.row (k := 127) rfl (by decide) (by decide) hw.1
        refine ⟨hS, fun o => ?_⟩
        rw [nI_clamp (by omega), hw.2 j (by omega), ← hw.1 129 (by decide)]
        have hC2 : zCore w n := hC.congr hS.1
        exact zCall_m 60 false _ _ _ _ _ (fun v2 w2 z => z) (m_gutter hC2 hj (by omega) o)
      · have gl := guB_le (fun s => u 129 (163 + 9 * s + 6) - 2 * guC (u 129) n i s) (n - 1)
        refine tX11_gutter_36 ⟨fun q => absurd q (by rw [nI_leI (by omega) (by omega)]; omega), fun _ => ?_⟩
        refine s_mostOwed (f := fun s => u 129 (163 + 9 * s + 6) - 2 * guC (u 129) n i s) ((congrFun (hw.1 4 (by decide)) 3).trans hu) h8 (by omega) (fun s hs => ?_) ⟨_, rfl, ?_⟩
        · rw [hw.1 5 (by decide), hw.2 s (by omega)]
          have := hC.2.2.1.2.1 s 6 (by omega) (by decide)
          rw [this]
        · refine ⟨fun q => absurd q (nI_pos (by omega)), fun _ => ⟨fun q => absurd q (by rw [nI_lit, nI_leI (by omega) (by omega)]; omega), fun _ => ⟨vp_in_nI (by omega) (by decide), vp_in_nI (by omega) (by decide), ?_⟩⟩⟩
          rw [nI_1 i, nI_clamp (by omega)]
          refine ih _ ⟨fun k hk => (zUp_k _ _ hk).trans (hw.1 k hk), fun s hs => ?_⟩
          have e : guC (u 129) n (i + 1) = upd (guC (u 129) n i) (guB (fun s => u 129 (163 + 9 * s + 6) - 2 * guC (u 129) n i s) (n - 1)) (guC (u 129) n i (guB (fun s => u 129 (163 + 9 * s + 6) - 2 * guC (u 129) n i s) (n - 1)) + 1) := rfl
          rw [e, hw.2 _ (by omega)]
          by_cases q : s = guB (fun s => u 129 (163 + 9 * s + 6) - 2 * guC (u 129) n i s) (n - 1)
          · rw [q, zUp_at, upd_at]
          · rw [zUp_j _ _ q, upd_ne _ _ q]; exact hw.2 s hs
    · have fin : zCall 60 false 307 [.ref 128, .int (nI j), .int b] u fun _ w2 => zSame u w2 ∧ ∃ E c : Int32, (some (Value.int 1) : Option Value) = some (.int E) ∧ (E, c) ∈ [((2 : Int32), (1 : Int32)), (1, 2)] ∧ w2 128 0 = c := by
        refine tX12_gutter (fun m1 e1 => ?_)
        have e2 : m1 129 = u 129 := by rw [e1, zUp_k _ _ (by decide)]
        have f := zThr (E := 1) (c := 2) (L := [((2 : Int32), (1 : Int32)), (1, 2)]) e1 (by decide)
        have e4 : nI n - 1 = nI (n - 1) := nI_sub (b := 1) (by omega)
        rw [e2, hn, e4]
        refine ⟨fun q => absurd q (nI_pos (by omega)), fun _ => ⟨fun q => absurd q (by rw [nI_ltI (by omega) (by omega)]; omega), fun _ => ⟨fun _ => f, fun q => ⟨fun _ => f, fun q2 => absurd (i_lim (n := 99) (by decide) hb q) q2⟩⟩⟩⟩
      refine Or.inr (tTX11_gutter (Or.inr ⟨nI_pos' (by omega), by rw [hu]; exact nI_lt hj (by omega), fun _ => ⟨zSame.rf u, fin⟩, fun q => ⟨fun q2 => absurd (i_lim (n := 99) (by decide) hb q) (Int32.not_lt.mpr q2), fun _ => ⟨zSame.rf u, fin⟩⟩⟩))
  · refine Or.inr (tTX11_gutter (Or.inl ⟨by rw [hu]; exact hout, zSame.rf u, ?_⟩))
    refine tX12_gutter (fun m1 e1 => ?_)
    have e2 : m1 129 = u 129 := by rw [e1, zUp_k _ _ (by decide)]
    have f := zThr (E := 2) (c := 1) (L := [((2 : Int32), (1 : Int32)), (1, 2)]) e1 (by decide)
    rw [e2, hn]
    exact ⟨fun _ => f, fun q => ⟨fun _ => f, fun q2 => absurd (i_top2 h8 hout q) q2⟩⟩
