theorem zWy_rch {F : Nat → Nat → Nat} {g : Nat → Nat} (tri : ∀ a b c, c < 12 → F a b ≤ F a c + F c b) (h99 : ∀ a b, a < 12 → b < 12 → F a b = 1000000 ∨ F a b ≤ 99) (h0 : F 0 0 = 0) (hg : ∀ k, g k < 12) : ∀ n, (zWy F g n).2 < 1000000 → F 0 (zWy F g n).1 ≤ 99 ∧ ∀ k, k < n → F 0 (g k) ≤ 99
  | 0, _ => ⟨by show F 0 0 ≤ 99; omega, fun k hk => absurd hk (Nat.not_lt_zero _)⟩
  | n + 1, h => by
    have h' : (zWy F g n).2 + F (zWy F g n).1 (g n) < 1000000 := h
    obtain ⟨i1, i2⟩ := zWy_rch tri h99 h0 hg n (by omega)
    have p12 := zWy_pos hg n (F := F)
    have t := tri 0 (g n) (zWy F g n).1 p12
    have a1 := h99 _ _ p12 (hg n)
    have a2 := h99 0 (g n) (by decide) (hg n)
    have a3 : F 0 (g n) ≤ 99 := by omega
    exact ⟨a3, fun k hk => (Nat.lt_succ_iff_lt_or_eq.mp hk).elim (i2 k) (fun e => by rw [e]; exact a3)⟩
theorem zWy_fin {F : Nat → Nat → Nat} {g : Nat → Nat} (tri : ∀ a b c, c < 12 → F a b ≤ F a c + F c b) (sym : ∀ a b, F a b = F b a) (h99 : ∀ a b, a < 12 → b < 12 → F a b = 1000000 ∨ F a b ≤ 99) (h0 : F 0 0 = 0) (hg : ∀ k, g k < 12) : ∀ n, (∀ k, k < n → F 0 (g k) ≤ 99) → (zWy F g n).2 ≤ 99 * n ∧ F 0 (zWy F g n).1 ≤ 99
  | 0, _ => ⟨Nat.le_refl _, by show F 0 0 ≤ 99; omega⟩
  | n + 1, h => by
    obtain ⟨i1, i2⟩ := zWy_fin tri sym h99 h0 hg n (fun k hk => h k (by omega))
    have t := tri (zWy F g n).1 (g n) 0 (by decide)
    rw [sym _ 0] at t
    have a1 := h99 _ _ (zWy_pos hg n (F := F)) (hg n)
    have a2 := h n (by omega)
    refine ⟨?_, a2⟩
    show (zWy F g n).2 + F (zWy F g n).1 (g n) ≤ 99 * (n + 1)
    omega
theorem zSw2_inv (p q k : Nat) : zSw2 p q (zSw2 p q k) = k := by
  unfold zSw2
  by_cases h1 : k = p
  · subst h1
    by_cases h2 : q = k
    · subst h2; simp
    · simp [h2]
  · by_cases h2 : k = q
    · subst h2; simp [h1]
    · simp [h1, h2]
theorem zWF_step {W : Nat → Int32} {n p q p2 q2 : Nat} (hR : zRg W n) (h2 : ∀ k, k < n → zSw2 p2 q2 k < n) (h1 : ∀ k, k < n → zSw2 p q k < n) (h : zWF W n p q < 1000000) : zWF W n p2 q2 < 1000000 := by
  have h8 := hR.1.1
  have tri : ∀ a b c, c < 12 → zFar W a b ≤ zFar W a c + zFar W c b := fun a b c hc => fw_tri _ 12 a b c hc
  have h99 := zFar_99 hR
  have h0 : zFar W 0 0 = 0 := fw_diag _ _ _
  have sym : ∀ a b, zFar W a b = zFar W b a := fw_sym _ (zRd_sym hR) _
  have r := (zWy_rch (g := fun k => gN W (zSw2 p q k)) tri h99 h0 (fun k => gN_lt _ _) n (by unfold zWF zWay at h; omega)).2
  have f := zWy_fin (g := fun k => gN W (zSw2 p2 q2 k)) tri sym h99 h0 (fun k => gN_lt _ _) n (fun k hk => by
    have := r (zSw2 p q (zSw2 p2 q2 k)) (h1 _ (h2 k hk))
    rw [zSw2_inv] at this
    exact this)
  unfold zWF zWay
  rw [sym _ 0]
  omega
theorem zSw2_lt {n p q : Nat} (hp : p < n) (hq : q < n) (k : Nat) (hk : k < n) : zSw2 p q k < n := by unfold zSw2; split <;> (try split) <;> omega
theorem zWF_iff {W : Nat → Int32} {n p q : Nat} (hR : zRg W n) (hp : p < n) (hq : q < n) : zWF W n p q < 1000000 ↔ zWF W n 0 0 < 1000000 :=
  ⟨zWF_step hR (fun k hk => by rw [zSw2_00]; exact hk) (zSw2_lt hp hq), zWF_step hR (zSw2_lt hp hq) (fun k hk => by rw [zSw2_00]; exact hk)⟩
def swI (D : Nat → Nat → Nat) (p : Nat) : Nat → Int32 × Nat → Int32 × Nat
  | 0, s => s
  | j + 1, s => if D p (p + 1 + j) < (swI D p j s).2 then (nI (8 * p + (p + 1 + j)), D p (p + 1 + j)) else swI D p j s
def swO (D : Nat → Nat → Nat) (n : Nat) : Nat → Int32 × Nat
  | 0 => (-1, D 0 0)
  | p + 1 => swI D p (n - (p + 1)) (swO D n p)
theorem swI_eq {D E : Nat → Nat → Nat} {p : Nat} : ∀ j s, (∀ i, i < j → D p (p + 1 + i) = E p (p + 1 + i)) → swI D p j s = swI E p j s
  | 0, _, _ => rfl
  | j + 1, s, h => by
    unfold swI
    rw [swI_eq j s (fun i hi => h i (by omega)), h j (by omega)]
theorem swO_eq {D E : Nat → Nat → Nat} {n : Nat} (h0 : D 0 0 = E 0 0) (h : ∀ p q, p < n → q < n → D p q = E p q) : ∀ p, p ≤ n → swO D n p = swO E n p
  | 0, _ => by unfold swO; rw [h0]
  | p + 1, hp => by
    unfold swO
    rw [swO_eq h0 h p (by omega), swI_eq _ _ (fun i hi => h p (p + 1 + i) (by omega) (by omega))]
theorem swI_no {D : Nat → Nat → Nat} {p B : Nat} {b : Int32} : ∀ j, (∀ i, i < j → B ≤ D p (p + 1 + i)) → swI D p j (b, B) = (b, B)
  | 0, _ => rfl
  | j + 1, h => by
    unfold swI
    rw [swI_no j (fun i hi => h i (by omega)), if_neg (Nat.not_lt.mpr (h j (by omega)))]
theorem swO_no {D : Nat → Nat → Nat} {n : Nat} (h : ∀ p q, p < n → q < n → D 0 0 ≤ D p q) : ∀ p, p ≤ n → swO D n p = (-1, D 0 0)
  | 0, _ => rfl
  | p + 1, hp => by
    unfold swO
    rw [swO_no h p (by omega), swI_no _ (fun i hi => h p (p + 1 + i) (by omega) (by omega))]
theorem swI_ub {D : Nat → Nat → Nat} {p B : Nat} : ∀ j s, s.2 ≤ B → (swI D p j s).2 ≤ B
  | 0, _, h => h
  | j + 1, s, h => by
    have := swI_ub (D := D) (p := p) j s h
    unfold swI
    split
    · show D p (p + 1 + j) ≤ B; omega
    · exact this
theorem swO_ub {D : Nat → Nat → Nat} {n : Nat} : ∀ p, (swO D n p).2 ≤ D 0 0
  | 0 => Nat.le_refl _
  | p + 1 => swI_ub _ _ (swO_ub p)
theorem m_swap {n : Nat} {u : zM} (hC : zCore u n) : zCall 60 false 282 [.ref 128] u fun v2 w2 => v2 = some (.int (swO (fun p q => min 1000000 (zWF (u 129) n p q)) n n).1) ∧ zSame u w2 := by
  have h8 := hC.1.1.1
  have hn := hC.1.1.2
  refine tX12_swap (fun m1 e1 => ?_)
  have e2 : m1 129 = u 129 := by rw [e1]; exact zUp_k _ _ (by decide)
  have e3 : m1 134 = u 134 := by rw [e1]; exact zUp_k _ _ (by decide)
  have fin : zSame u m1 := by rw [e1]; exact zSame.m _ (by decide)
  have hR : zRg (m1 129) n := by rw [e2]; exact hC.1
  have hf : ∀ a b, a < 12 → b < 12 → m1 134 (12 * a + b) = nI (zFar (m1 129) a b) := by rw [e2, e3]; exact hC.2.1
  have hn1 : m1 129 0 = nI n := by rw [e2]; exact hn
  rw [← e2]
  refine s_wF0 hR hf ⟨_, rfl, ?_⟩
  have hD : ∃ D, D = fun p q => min 1000000 (zWF (m1 129) n p q) := ⟨_, rfl⟩
  obtain ⟨D, hD⟩ := hD
  have hDv : ∀ p q, min 1000000 (zWF (m1 129) n p q) = D p q := fun p q => by rw [hD]
  have hDb : ∀ p q, D p q ≤ 1000000 := fun p q => by rw [hD]; exact Nat.min_le_left _ _
  rw [← hD, hDv]
  refine zFor (σ := Int32 × Nat) (Pr := fun i x => zRun 59 false zcX12_swap 1 _ 14 [(0, .ref 128), (1, .int x.1), (2, .int (nI x.2)), (3, .int (nI i))] [] m1) (fun i x => x = swO D n i) n (fun x hx => ?_) (fun i x hi hx ih => ?_) (-1, D 0 0) rfl
  · refine tX12_swap_14 ⟨fun _ => ⟨by rw [hx], fin⟩, fun q => absurd ?_ q⟩
    rw [hn1]; exact Int32.le_refl _
  · refine tX12_swap_14 ?_
    rw [hn1, nI_1]
    refine ⟨fun q => absurd q (by rw [nI_leI (by omega) (by omega)]; omega), fun _ => ?_⟩
    refine zFor (σ := Int32 × Nat) (Pr := fun j y => zRun 59 false zcX12_swap 1 _ 27 [(0, .ref 128), (1, .int y.1), (2, .int (nI y.2)), (3, .int (nI i)), (4, .int (nI (i + 1 + j)))] [] m1) (fun j y => y = swI D i j (swO D n i)) (n - (i + 1)) (fun y hy => ?_) (fun j y hj hy ih2 => ?_) x hx
    · refine tX12_swap_27 ⟨fun _ => ?_, fun q => absurd ?_ q⟩
      · rw [nI_1]; exact ih y hy
      · rw [hn1, nI_leI (by omega) (by omega)]; omega
    · have e5 : 155 + nI i = nI (155 + i) := by rw [nI_lit, nI_add]
      have e6 : 155 + nI (i + 1 + j) = nI (155 + (i + 1 + j)) := by rw [nI_lit, nI_add]
      have ey : y.2 ≤ 1000000 := by rw [hy]; exact Nat.le_trans (swI_ub _ _ (swO_ub _)) (hDb 0 0)
      refine tX12_swap_27 ?_
      rw [hn1, e5, e6, nI_clamp (n := 155 + i) (by omega), nI_clamp (n := 155 + (i + 1 + j)) (by omega), nI_1 (i + 1 + j)]
      refine ⟨fun q => absurd q (by rw [nI_leI (by omega) (by omega)]; omega), fun _ => ⟨vp_in_nI (by omega) (by decide), vp_in_nI (by omega) (by decide), vp_in_nI (by omega) (by decide), fun m2 f2 => ⟨vp_in_nI (by omega) (by decide), fun m3 f3 => ?_⟩⟩⟩
      have g3 : m3 = zEx m1 129 (155 + i) (155 + (i + 1 + j)) := by rw [f3, f2]; rfl
      subst g3
      refine s_wF hR hf (by omega) (by omega) ⟨_, rfl, ?_⟩
      rw [hDv]
      have hd := hDb i (i + 1 + j)
      refine ⟨vp_in_nI (by omega) (by decide), vp_in_nI (by omega) (by decide), vp_in_nI (by omega) (by decide), fun m5 e => ⟨vp_in_nI (by omega) (by decide), ?_⟩⟩
      have back : zUp m5 129 (155 + (i + 1 + j)) ((zEx m1 129 (155 + i) (155 + (i + 1 + j))) 129 (155 + i)) = m1 := by rw [e]; exact zEx_back m1 129 (155 + i) (155 + (i + 1 + j))
      rw [back]
      refine ⟨fun q => ?_, fun q => ?_⟩
      · rw [nI_leI (by omega) (by omega)] at q
        rw [if_neg (by rw [nI_ltI (by omega) (by omega)]; omega)]
        refine ih2 y ?_
        rw [hy]; conv => rhs; unfold swI
        rw [if_neg (by rw [← hy]; omega)]
      · rw [nI_leI (by omega) (by omega)] at q
        rw [if_pos (by rw [nI_ltI (by omega) (by omega)]; omega)]
        have e8 : (8 * nI i) + nI (i + 1 + j) = nI (8 * i + (i + 1 + j)) := by rw [nI_lit, nI_mul, nI_add]
        rw [e8]
        refine ih2 (nI (8 * i + (i + 1 + j)), D i (i + 1 + j)) ?_
        conv => rhs; unfold swI
        rw [if_pos (by rw [← hy]; omega)]
theorem op_swap : zAsk 148 282 [] := by
  intro u n hC
  have h8 := hC.1.1.1
  have hn := hC.1.1.2
  have hu : u 4 3 = nI n := hC.2.2.1.1.1.trans hn
  have hR := hC.1
  refine tX11_swap ?_
  refine s_wG (p := 0) (q := 0) hC rfl rfl (by decide) (by decide) (Or.inr ⟨rfl, rfl⟩) ⟨_, rfl, ?_⟩
  have c0 := zWG_cmp hC.1 0 0
  have fin := m_swap hC
  refine ⟨fun q => ?_, fun q => ⟨zSame.rf u, ?_⟩⟩
  · rw [nI_lit, nI_ltI (by omega) (by omega)] at q
    have same : ∀ p q, p < n → q < n → zWG (u 129) n p q = min 1000000 (zWF (u 129) n p q) := fun p q hp hq => by
      have := zWF_iff hR hp hq
      have c := zWG_cmp hR p q
      omega
    have all : swO (fun p q => min 1000000 (zWF (u 129) n p q)) n n = swO (zWG (u 129) n) n n := (swO_eq (by omega) same n (Nat.le_refl _)).symm
    rw [all] at fin
    refine zFor (σ := Int32 × Nat) (Pr := fun i x => zRun 59 false zcX11_swap 1 _ 23 [(0, .ref 0), (1, .int x.1), (2, .int (nI x.2)), (3, .int (nI i))] [] u) (fun i x => x = swO (zWG (u 129) n) n i) n (fun x hx => ?_) (fun i x hi hx ih => ?_) (-1, zWG (u 129) n 0 0) rfl
    · refine tX11_swap_23 ⟨fun _ => ⟨zSame.rf u, by rw [hx]; exact fin⟩, fun q => absurd ?_ q⟩
      rw [hu]; exact Int32.le_refl _
    · refine tX11_swap_23 ?_
      rw [hu, nI_1]
      refine ⟨fun q => absurd q (by rw [nI_leI (by omega) (by omega)]; omega), fun _ => ?_⟩
      refine zFor (σ := Int32 × Nat) (Pr := fun j y => zRun 59 false zcX11_swap 1 _ 42 [(0, .ref 0), (1, .int y.1), (2, .int (nI y.2)), (3, .int (nI i)), (4, .int (nI (i + 1 + j)))] [] u) (fun j y => y = swI (zWG (u 129) n) i j (swO (zWG (u 129) n) n i)) (n - (i + 1)) (fun y hy => ?_) (fun j y hj hy ih2 => ?_) x hx
      · refine tX11_swap_42 ⟨fun _ => ?_, fun q => absurd ?_ q⟩
        · rw [nI_1]; exact ih y hy
        · rw [hu, nI_leI (by omega) (by omega)]; omega
      · have ey : y.2 ≤ 9000 := by rw [hy]; exact Nat.le_trans (swI_ub _ _ (swO_ub _)) (by omega)
        have ci := zWG_cmp hR i (i + 1 + j)
        refine tX11_swap_42 ?_
        rw [hu]
        refine ⟨fun q => absurd q (by rw [nI_leI (by omega) (by omega)]; omega), fun _ => ?_⟩
        refine s_wG hC rfl rfl (by omega) (by omega) (Or.inl ⟨by omega, by omega⟩) ⟨_, rfl, ?_⟩
        rw [nI_1]
        refine ⟨fun q => ?_, fun q => ?_⟩
        · rw [nI_leI (by omega) (by omega)] at q
          refine ih2 y ?_
          rw [hy]; conv => rhs; unfold swI
          rw [if_neg (by rw [← hy]; omega)]
        · rw [nI_leI (by omega) (by omega)] at q
          have e8 : (8 * nI i) + nI (i + 1 + j) = nI (8 * i + (i + 1 + j)) := by rw [nI_lit, nI_mul, nI_add]
          rw [e8]
          refine ih2 (nI (8 * i + (i + 1 + j)), zWG (u 129) n i (i + 1 + j)) ?_
          conv => rhs; unfold swI
          rw [if_pos (by rw [← hy]; omega)]
  · rw [nI_lit, nI_ltI (by omega) (by omega)] at q
    have no : swO (fun p q => min 1000000 (zWF (u 129) n p q)) n n = (-1, min 1000000 (zWF (u 129) n 0 0)) := swO_no (fun p q hp hq => by
      have := zWF_iff hR hp hq
      show min 1000000 (zWF (u 129) n 0 0) ≤ min 1000000 (zWF (u 129) n p q)
      omega) n (Nat.le_refl _)
    rw [no] at fin
    exact fin
