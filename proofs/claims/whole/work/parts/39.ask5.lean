def stN (W : Nat → Int32) (p : Nat) : Nat := min 7 (W (155 + p)).toNatClampNeg
def cnN (W : Nat → Int32) (s : Nat) : Nat := min 11 (W (163 + 9 * s)).toNatClampNeg
def gN (W : Nat → Int32) (k : Nat) : Nat := cnN W (stN W k)
def zFar (W : Nat → Int32) : Nat → Nat → Nat := fwR (rdN W) 12
theorem gN_lt (W : Nat → Int32) (k : Nat) : gN W k < 12 := by unfold gN cnN; omega
theorem stN_eq {W : Nat → Int32} {n p : Nat} (h : zRg W n) (hp : p < n) : W (155 + p) = nI (stN W p) ∧ stN W p < n := by
  obtain ⟨s, hs, e⟩ := h.2.2.2.2.2.2.2.2.2.2.2.2.1 p hp
  have h8 := h.1.1
  unfold stN
  rw [e, nI_clamp (by omega), Nat.min_eq_right (by omega)]
  exact ⟨rfl, hs⟩
theorem cnN_eq {W : Nat → Int32} {n s : Nat} (h : zRg W n) (hs : s < 8) : W (163 + 9 * s) = nI (cnN W s) := by
  obtain ⟨c, hc, e⟩ := h.2.2.2.2.2.2.2.2.2.2.2.2.2.2.1 s 0 hs (by decide) (by decide)
  have hc2 : c ≤ 11 := hc
  rw [Nat.add_zero] at e
  unfold cnN
  rw [e, nI_clamp (by omega), Nat.min_eq_right hc2]
theorem zFar_99 {W : Nat → Int32} {n : Nat} (h : zRg W n) : ∀ a b, a < 12 → b < 12 → zFar W a b = 1000000 ∨ zFar W a b ≤ 99 := fun a b ha hb => fw_99 (rdN W) (zRd_le h) ha hb
theorem zFar_le {W : Nat → Int32} {n : Nat} (h : zRg W n) (a b : Nat) : zFar W a b ≤ 1000000 := fw_le _ (zRd_le h) _ _ _
/-- the way of the round with two places changed, of the class -/
theorem s_wayX {d n p q : Nat} {a1 a2 : Int32} {u : zM} {Q : Option Value → zM → Prop} (hC : zCore u n) (e1 : a1 = nI p) (e2 : a2 = nI q) (hp8 : p < 8) (hq8 : q < 8) (hpq : (p < n ∧ q < n) ∨ (p = 0 ∧ q = 0)) (h : Q (some (.int (nI (zWay (fun a b => min 1000 (zFar (u 129) a b)) (fun k => gN (u 129) (zSw2 p q k)) n)))) u) : zCall (d + 3) false 61 [.ref 3, .int a1, .int a2] u Q := by
  have hD := hC.2.2.1
  refine s_wayWith e1 e2 hp8 hq8 (hD.1.1.trans hC.1.1.2) hC.1.1.1 (fun a b => Nat.min_le_left _ _) (fun a b ha hb => hC.2.2.2.2 a b ha hb) (fun k => gN_lt _ _) (fun k hk => ?_) h
  have hs : zSw2 p q k < n := by unfold zSw2; split <;> (try split) <;> omega
  have h8 := hC.1.1.1
  obtain ⟨f1, f2⟩ := stN_eq hC.1 hs
  refine ⟨stN (u 129) (zSw2 p q k), by omega, (hD.2.2.1 _ (by omega)).trans f1, ?_⟩
  have := hD.2.1 (stN (u 129) (zSw2 p q k)) 0 (by omega) (by decide)
  rw [Nat.zero_mul, Nat.zero_add, Nat.add_zero] at this
  exact this.trans (cnN_eq hC.1 (by omega))
/-- the way of the round, of the reference, its round being another order of the same -/
theorem s_wayM {d n : Nat} {W : Nat → Int32} {st : Nat → Nat} {u : zM} {Q : Option Value → zM → Prop} (hR : zRg W n) (hf : ∀ a b, a < 12 → b < 12 → u 134 (12 * a + b) = nI (zFar W a b)) (hn : u 129 0 = W 0) (hc : ∀ s, s < 8 → u 129 (163 + 9 * s) = W (163 + 9 * s)) (hst : ∀ k, k < n → st k < n ∧ u 129 (155 + k) = nI (stN W (st k)))
    (h : Q (some (.int (nI (min 1000000 (zWay (zFar W) (fun k => gN W (st k)) n))))) u) : zCall (d + 3) false 272 [.ref 128] u Q := by
  have h8 := hR.1.1
  refine s_wayNow (hn.trans hR.1.2) h8 (zFar_le hR) hf (fun k => gN_lt _ _) (fun k hk => ?_) h
  obtain ⟨g1, g2⟩ := hst k hk
  have g3 := (stN_eq hR g1).2
  exact ⟨stN W (st k), by omega, g2, (hc _ (by omega)).trans (cnN_eq hR (by omega))⟩
theorem zSw2_00 (k : Nat) : zSw2 0 0 k = k := by unfold zSw2; split <;> (try split) <;> omega
theorem op_way : zAsk 127 273 [] := by
  intro u n hC
  have h8 := hC.1.1.1
  refine tX11_way ?_
  refine s_wayX (p := 0) (q := 0) hC rfl rfl (by decide) (by decide) (Or.inr ⟨rfl, rfl⟩) ⟨_, rfl, ?_⟩
  have hcmp := zWay_cmp (zFar_99 hC.1) (fun k => gN_lt (u 129) (zSw2 0 0 k)) h8
  have hb := zWay_ub (F := fun a b => min 1000 (zFar (u 129) a b)) (g := fun k => gN (u 129) (zSw2 0 0 k)) (n := n) (fun a b => Nat.min_le_left _ _)
  have main : ∀ v : Int32, v = (if zWay (zFar (u 129)) (fun k => gN (u 129) (zSw2 0 0 k)) n < 1000000 then nI (zWay (zFar (u 129)) (fun k => gN (u 129) (zSw2 0 0 k)) n) else -1) → zCall 60 false 273 [.ref 128] u fun v2 w2 => v2 = some (.int v) ∧ zSame u w2 := by
    intro v hv
    refine tX12_way (fun m1 e1 => ?_)
    have e2 : m1 129 = u 129 := by rw [e1]; exact zUp_k _ _ (by decide)
    have e3 : m1 134 = u 134 := by rw [e1]; exact zUp_k _ _ (by decide)
    have fin : zSame u m1 := by rw [e1]; exact zSame.m _ (by decide)
    refine s_wayM (W := u 129) (st := fun k => zSw2 0 0 k) hC.1 (by rw [e3]; exact hC.2.1) (by rw [e2]) (fun s _ => by rw [e2]) (fun k hk => by rw [e2, zSw2_00]; exact ⟨hk, (stN_eq hC.1 hk).1⟩) ⟨_, rfl, ?_⟩
    refine ⟨fun c => ⟨?_, fin⟩, fun c => ⟨?_, fin⟩⟩
    · rw [nI_lit, nI_ltI (by omega) (by omega)] at c
      rw [hv, if_pos (by omega), Nat.min_eq_right (by omega)]
    · rw [nI_lit, nI_ltI (by omega) (by omega)] at c
      rw [hv, if_neg (by omega)]
  refine ⟨fun c => ⟨zSame.rf u, main _ ?_⟩, fun c => ⟨zSame.rf u, main _ ?_⟩⟩
  · rw [nI_lit, nI_ltI (by omega) (by omega)] at c
    rw [if_pos (by omega)]
    rcases hcmp with ⟨g1, g2⟩ | ⟨g1, g2⟩
    · rw [g1]
    · omega
  · rw [nI_lit, nI_ltI (by omega) (by omega)] at c
    rw [if_neg (by omega)]
