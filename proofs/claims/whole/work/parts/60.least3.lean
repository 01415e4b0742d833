theorem zRd_full {W : Nat → Int32} {n K p0 : Nat} (hR : zRg W n) : (zRdF W K p0 n).came = ((1 : Int32) <<< (nI n &&& 31)) - 1 ↔ zWF W n 0 0 ≤ p0 := by
  have h8 := hR.1.1
  have hs : ∀ k, stN W k < 8 := fun k => by unfold stN; omega
  have hi : ∀ j k, j < n → k < n → stN W j = stN W k → j = k := fun j k hj hk e => by
    refine hR.2.2.2.2.2.2.2.2.2.2.2.2.2.1 j k hj hk ?_
    rw [(stN_eq hR hj).1, (stN_eq hR hk).1, e]
  have way : zWF W n 0 0 = zWay (zFar W) (fun k => cnN W (stN W k)) n := by
    unfold zWF
    rw [show (fun k => gN W (zSw2 0 0 k)) = fun k => cnN W (stN W k) from funext fun k => by rw [zSw2_00]; rfl]
  rw [way]
  constructor
  · intro h
    refine zRide_needs (K := K) (no := zNo W) (fw_diag _ _ _) (fun k hk => ?_)
    have b : tb (zRdF W K p0 n).came (stN W k) = true := by
      rw [h, tb_full n (by omega) _ (by have := hs k; omega), decide_eq_true_eq]
      exact (stN_eq hR hk).2
    obtain ⟨j, j1, j2, j3⟩ := zRide_came hs (hs k) n b
    have := hi j k j1 hk j2
    subst this
    exact j3
  · intro h
    have a := (zRide_all (K := K) (no := zNo W) (st := stN W) (cn := cnN W) (F := zFar W) (n := n) (fun a b c hc => fw_tri _ 12 a b c hc) (fun s => cnN_lt W s) h n (Nat.le_refl _)).2.2
    exact a.trans (zcm_full h8 hs (fun k hk => (stN_eq hR hk).2) hi)
theorem m_least {n : Nat} {u : zM} (hC : zCore u n) : zCall 60 false 280 [.ref 128] u fun v2 w2 => v2 = some (.int (if zWF (u 129) n 0 0 ≤ 200 then nI (zWF (u 129) n 0 0) else -1)) ∧ zSame u w2 := by
  have hR := hC.1
  obtain ⟨K, hK, h5⟩ := hR.2.2.2.2.2.1
  obtain ⟨Y, hY⟩ : ∃ Y, Y = zWF (u 129) n 0 0 := ⟨_, rfl⟩
  rw [← hY]
  refine tX12_least ?_
  refine zFor (σ := zM) (Pr := fun i w => zRun 59 false zcX12_least 1 _ 7 [(0, .ref 128), (1, .int (nI i))] [] w) (fun _ w => zSame u w ∧ w 129 = u 129 ∧ w 134 = u 134) (min Y 201) (fun w hw => ?_) (fun i w hi hw ih => ?_) (zUp u 128 0 0) ⟨zSame.m _ (by decide), zUp_k _ _ (by decide), zUp_k _ _ (by decide)⟩
  · by_cases q : Y ≤ 200
    · rw [if_pos q, Nat.min_eq_left (by omega)]
      refine tX12_least_7 ⟨fun z => absurd z (by rw [nI_lit, nI_ltI (by omega) (by omega)]; omega), fun _ => ?_⟩
      refine s_rides (n := n) (K := K) (p0 := Y) (by rw [hw.2.1]; exact hR) (by rw [hw.2.1, hw.2.2]; exact hC.2.1) rfl (by omega) hK (by rw [hw.2.1]; exact h5) (fun w2 f g x => ⟨rfl, ?_⟩)
      rw [hw.2.1] at x
      have e9 : w2 129 = u 129 := (f 129 (by decide)).trans hw.2.1
      have fl : w2 128 22 = ((1 : Int32) <<< ((w2 129 0) &&& 31)) - 1 := by
        rw [x.2.2.2.1, e9, hR.1.2]; exact (zRd_full hR).mpr (by omega)
      refine ⟨fun z => absurd fl z, fun _ => ⟨rfl, hw.1.tr ⟨fun c hc => f c (fun q => by subst q; exact absurd hc (by decide)), ⟨g 6 (by decide), g 7 (by decide), g 10 (by decide), g 15 (by decide)⟩, ?_⟩⟩⟩
      rw [f 1 (by decide)]; exact ⟨rfl, rfl⟩
    · rw [if_neg q, Nat.min_eq_right (by omega)]
      exact tX12_least_7 ⟨fun _ => ⟨rfl, hw.1⟩, fun z => absurd (by decide) z⟩
  · refine tX12_least_7 ⟨fun z => absurd z (by rw [nI_lit, nI_ltI (by omega) (by omega)]; omega), fun _ => ?_⟩
    refine s_rides (n := n) (K := K) (p0 := i) (by rw [hw.2.1]; exact hR) (by rw [hw.2.1, hw.2.2]; exact hC.2.1) rfl (by omega) hK (by rw [hw.2.1]; exact h5) (fun w2 f g x => ⟨rfl, ?_⟩)
    rw [hw.2.1] at x
    have e9 : w2 129 = u 129 := (f 129 (by decide)).trans hw.2.1
    have fl : ¬ w2 128 22 = ((1 : Int32) <<< ((w2 129 0) &&& 31)) - 1 := by
      rw [x.2.2.2.1, e9, hR.1.2]; intro z; have := (zRd_full hR).mp z; omega
    refine ⟨fun _ => ?_, fun z => absurd z fl⟩
    rw [nI_1 i]
    refine ih w2 ⟨hw.1.tr ⟨fun c hc => f c (fun q => by subst q; exact absurd hc (by decide)), ⟨g 6 (by decide), g 7 (by decide), g 10 (by decide), g 15 (by decide)⟩, ?_⟩, e9, (f 134 (by decide)).trans hw.2.2⟩
    rw [f 1 (by decide)]; exact ⟨rfl, rfl⟩
theorem op_least : zAsk 130 280 [] := by
  intro u n hC
  have fin := m_least hC
  refine tX11_least ?_
  refine s_wG (p := 0) (q := 0) hC rfl rfl (by decide) (by decide) (Or.inr ⟨rfl, rfl⟩) ⟨_, rfl, ?_⟩
  have c0 := zWG_cmp hC.1 0 0
  refine ⟨fun q => ⟨zSame.rf u, ?_⟩, fun q => ⟨zSame.rf u, ?_⟩⟩
  · rw [nI_lit, nI_leI (by omega) (by omega)] at q
    rw [if_pos (by omega)] at fin
    have e : zWG (u 129) n 0 0 = zWF (u 129) n 0 0 := by omega
    rw [e]; exact fin
  · rw [nI_lit, nI_leI (by omega) (by omega)] at q
    rw [if_neg (by omega)] at fin
    exact fin
