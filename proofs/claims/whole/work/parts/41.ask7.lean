def zWF (W : Nat → Int32) (n p q : Nat) : Nat := zWay (zFar W) (fun k => gN W (zSw2 p q k)) n
def zWG (W : Nat → Int32) (n p q : Nat) : Nat := zWay (fun a b => min 1000 (zFar W a b)) (fun k => gN W (zSw2 p q k)) n
theorem zWG_cmp {W : Nat → Int32} {n : Nat} (h : zRg W n) (p q : Nat) : (zWG W n p q = zWF W n p q ∧ zWF W n p q ≤ 891) ∨ (1000 ≤ zWG W n p q ∧ zWG W n p q ≤ 9000 ∧ 1000000 ≤ zWF W n p q) := by
  have h8 := h.1.1
  have hb : zWG W n p q ≤ 1000 * n + 1000 := zWay_ub (fun a b => Nat.min_le_left _ _)
  rcases zWay_cmp (zFar_99 h) (fun k => gN_lt W (zSw2 p q k)) h8 with g | g
  · exact Or.inl g
  · exact Or.inr ⟨g.1, by omega, g.2⟩
theorem s_wG {d n p q : Nat} {a1 a2 : Int32} {u : zM} {Q : Option Value → zM → Prop} (hC : zCore u n) (e1 : a1 = nI p) (e2 : a2 = nI q) (hp8 : p < 8) (hq8 : q < 8) (hpq : (p < n ∧ q < n) ∨ (p = 0 ∧ q = 0)) (h : Q (some (.int (nI (zWG (u 129) n p q)))) u) : zCall (d + 3) false 61 [.ref 3, .int a1, .int a2] u Q := s_wayX hC e1 e2 hp8 hq8 hpq h
theorem s_wF0 {d n : Nat} {u : zM} {Q : Option Value → zM → Prop} (hR : zRg (u 129) n) (hf : ∀ a b, a < 12 → b < 12 → u 134 (12 * a + b) = nI (zFar (u 129) a b))
    (h : Q (some (.int (nI (min 1000000 (zWF (u 129) n 0 0))))) u) : zCall (d + 3) false 272 [.ref 128] u Q := 
  s_wayM (W := u 129) (st := fun k => zSw2 0 0 k) hR hf rfl (fun s _ => rfl) (fun k hk => by rw [zSw2_00]; exact ⟨hk, (stN_eq hR hk).1⟩) h
theorem s_wF {d n p q : Nat} {u : zM} {Q : Option Value → zM → Prop} (hR : zRg (u 129) n) (hf : ∀ a b, a < 12 → b < 12 → u 134 (12 * a + b) = nI (zFar (u 129) a b)) (hp : p < n) (hq : q < n)
    (h : Q (some (.int (nI (min 1000000 (zWF (u 129) n p q))))) (zEx u 129 (155 + p) (155 + q))) : zCall (d + 3) false 272 [.ref 128] (zEx u 129 (155 + p) (155 + q)) Q := s_wayE hR hf hp hq h
theorem m_cross {n : Nat} {u : zM} (hC : zCore u n) (v : Int32) (h1 : 1000 ≤ zWG (u 129) n 0 0 → v = 0) (h2 : zWG (u 129) n 0 0 < 1000 → v = nI (zct (fun k => decide (zWG (u 129) n k (k + 1) < zWG (u 129) n 0 0)) (n - 1))) : zCall 60 false 281 [.ref 128] u fun v2 w2 => v2 = some (.int v) ∧ zSame u w2 := by
  have h8 := hC.1.1.1
  have hn := hC.1.1.2
  refine tX12_cross (fun m1 e1 => ?_)
  have e2 : m1 129 = u 129 := by rw [e1]; exact zUp_k _ _ (by decide)
  have e3 : m1 134 = u 134 := by rw [e1]; exact zUp_k _ _ (by decide)
  have fin : zSame u m1 := by rw [e1]; exact zSame.m _ (by decide)
  have hR : zRg (m1 129) n := by rw [e2]; exact hC.1
  have hf : ∀ a b, a < 12 → b < 12 → m1 134 (12 * a + b) = nI (zFar (m1 129) a b) := by rw [e2, e3]; exact hC.2.1
  have hn1 : m1 129 0 = nI n := by rw [e2]; exact hn
  rw [← e2] at h1 h2
  refine s_wF0 hR hf ⟨_, rfl, ?_⟩
  have c0 := zWG_cmp hR 0 0
  by_cases hb : 1000 ≤ zWG (m1 129) n 0 0
  · have k1 : (1000000 : Int32) ≤ nI (min 1000000 (zWF (m1 129) n 0 0)) := by rw [nI_lit, nI_leI (by omega) (by omega)]; omega
    refine tX12_cross_14 ⟨fun _ => ⟨by rw [h1 hb], fin⟩, fun _ => ⟨fun _ => ⟨by rw [h1 hb], fin⟩, fun q => absurd k1 q⟩⟩
  · have k1 : ¬ (1000000 : Int32) ≤ nI (min 1000000 (zWF (m1 129) n 0 0)) := by rw [nI_lit, nI_leI (by omega) (by omega)]; omega
    have hv := h2 (by omega)
    refine zFor (σ := Nat) (Pr := fun i x => zRun 59 false zcX12_cross 1 _ 14 [(0, .ref 128), (1, .int (nI (min 1000000 (zWF (m1 129) n 0 0)))), (2, .int (nI x)), (3, .int (nI i))] [] m1) (fun i x => x = zct (fun k => decide (zWG (m1 129) n k (k + 1) < zWG (m1 129) n 0 0)) i) (n - 1) (fun x hx => ?_) (fun i x hi hx ih => ?_) 0 rfl
    · refine tX12_cross_14 ⟨fun _ => ⟨by rw [hv, hx], fin⟩, fun q => absurd ?_ q⟩
      rw [hn1, nI_1, nI_leI (by omega) (by omega)]; omega
    · have e5 : 155 + nI i = nI (155 + i) := by rw [nI_lit, nI_add]
      have e6 : 155 + nI (i + 1) = nI (155 + (i + 1)) := by rw [nI_lit, nI_add]
      refine tX12_cross_14 ?_
      rw [hn1, nI_1, e5, e6, nI_clamp (n := 155 + i) (by omega), nI_clamp (n := 155 + (i + 1)) (by omega)]
      refine ⟨fun q => absurd q (by rw [nI_leI (by omega) (by omega)]; omega), fun _ => ⟨fun q => absurd q k1, fun _ => ⟨vp_in_nI (by omega) (by decide), vp_in_nI (by omega) (by decide), vp_in_nI (by omega) (by decide), fun m2 f2 => ⟨vp_in_nI (by omega) (by decide), fun m3 f3 => ?_⟩⟩⟩⟩
      have g3 : m3 = zEx m1 129 (155 + i) (155 + (i + 1)) := by rw [f3, f2]; rfl
      subst g3
      have ci := zWG_cmp hR i (i + 1)
      refine s_wF hR hf (by omega) (by omega) ⟨_, rfl, ?_⟩
      have back : ∀ m5, m5 = zUp (zEx m1 129 (155 + i) (155 + (i + 1))) 129 (155 + i) ((zEx m1 129 (155 + i) (155 + (i + 1))) 129 (155 + (i + 1))) → zUp m5 129 (155 + (i + 1)) ((zEx m1 129 (155 + i) (155 + (i + 1))) 129 (155 + i)) = m1 := fun m5 e => by rw [e]; exact zEx_back m1 129 (155 + i) (155 + (i + 1))
      refine ⟨fun q => ⟨vp_in_nI (by omega) (by decide), vp_in_nI (by omega) (by decide), vp_in_nI (by omega) (by decide), fun m5 e => ⟨vp_in_nI (by omega) (by decide), ?_⟩⟩, fun q => ⟨vp_in_nI (by omega) (by decide), vp_in_nI (by omega) (by decide), vp_in_nI (by omega) (by decide), fun m5 e => ⟨vp_in_nI (by omega) (by decide), ?_⟩⟩⟩
      · rw [back m5 e]
        rw [nI_leI (by omega) (by omega)] at q
        have e7 : nI x + 0 = nI x := Int32.add_zero _
        rw [e7]
        refine ih x ?_
        rw [hx]; conv => rhs; unfold zct
        rw [if_neg (by simp only [decide_eq_true_eq]; omega)]; rfl
      · rw [back m5 e]
        rw [nI_leI (by omega) (by omega)] at q
        rw [nI_1 x]
        refine ih (x + 1) ?_
        rw [hx]; conv => rhs; unfold zct
        rw [if_pos (by simp only [decide_eq_true_eq]; omega)]
theorem op_cross : zAsk 147 281 [] := by
  intro u n hC
  have h8 := hC.1.1.1
  have hn := hC.1.1.2
  have hu : u 4 3 = nI n := hC.2.2.1.1.1.trans hn
  refine tX11_cross ?_
  refine s_wG (p := 0) (q := 0) hC rfl rfl (by decide) (by decide) (Or.inr ⟨rfl, rfl⟩) ⟨_, rfl, ?_⟩
  have c0 := zWG_cmp hC.1 0 0
  by_cases hb : 1000 ≤ zWG (u 129) n 0 0
  · have k1 : (1000 : Int32) ≤ nI (zWG (u 129) n 0 0) := by rw [nI_lit, nI_leI (by omega) (by omega)]; omega
    have fin := m_cross hC 0 (fun _ => rfl) (fun q => absurd hb (by omega))
    refine tX11_cross_14 ⟨fun _ => ⟨zSame.rf u, fin⟩, fun _ => ⟨fun _ => ⟨zSame.rf u, fin⟩, fun q => absurd k1 q⟩⟩
  · have k1 : ¬ (1000 : Int32) ≤ nI (zWG (u 129) n 0 0) := by rw [nI_lit, nI_leI (by omega) (by omega)]; omega
    refine zFor (σ := Nat) (Pr := fun i x => zRun 59 false zcX11_cross 1 _ 14 [(0, .ref 0), (1, .int (nI (zWG (u 129) n 0 0))), (2, .int (nI x)), (3, .int (nI i))] [] u) (fun i x => x = zct (fun k => decide (zWG (u 129) n k (k + 1) < zWG (u 129) n 0 0)) i) (n - 1) (fun x hx => ?_) (fun i x hi hx ih => ?_) 0 rfl
    · refine tX11_cross_14 ⟨fun _ => ⟨zSame.rf u, m_cross hC _ (fun q => absurd q hb) (fun _ => by rw [hx])⟩, fun q => absurd ?_ q⟩
      rw [hu, nI_1, nI_leI (by omega) (by omega)]; omega
    · refine tX11_cross_14 ?_
      rw [hu, nI_1]
      refine ⟨fun q => absurd q (by rw [nI_leI (by omega) (by omega)]; omega), fun _ => ⟨fun q => absurd q k1, fun _ => ?_⟩⟩
      have ci := zWG_cmp hC.1 i (i + 1)
      refine s_wG hC rfl rfl (by omega) (by omega) (Or.inl ⟨by omega, by omega⟩) ⟨_, rfl, ?_⟩
      refine ⟨fun q => ?_, fun q => ?_⟩
      · rw [nI_leI (by omega) (by omega)] at q
        refine ih x ?_
        rw [hx]; conv => rhs; unfold zct
        rw [if_neg (by simp only [decide_eq_true_eq]; omega)]; rfl
      · rw [nI_leI (by omega) (by omega)] at q
        rw [nI_1 x]
        refine ih (x + 1) ?_
        rw [hx]; conv => rhs; unfold zct
        rw [if_pos (by simp only [decide_eq_true_eq]; omega)]
