theorem dsum_cmp {f : Nat → Nat} (h : ∀ s, f s = 1000000 ∨ f s ≤ 99) : ∀ n, (dsum (fun s => min 1000 (f s)) n = dsum f n ∧ dsum f n ≤ 99 * n) ∨ (1000 ≤ dsum (fun s => min 1000 (f s)) n ∧ 1000000 ≤ dsum f n)
  | 0 => Or.inl ⟨rfl, Nat.le_refl _⟩
  | n + 1 => by
    have := dsum_cmp h n
    have hn := h n
    unfold dsum
    omega
theorem dsum_ub {f : Nat → Nat} {B : Nat} (h : ∀ s, f s ≤ B) : ∀ n, dsum f n ≤ B * n
  | 0 => Nat.le_refl _
  | n + 1 => by
    have := dsum_ub h n
    have hn := h n
    unfold dsum
    rw [Nat.mul_succ]
    omega
theorem cnN_lt (W : Nat → Int32) (s : Nat) : cnN W s < 12 := by unfold cnN; omega
def zDF (W : Nat → Int32) (n c : Nat) : Nat := dsum (fun s => zFar W c (cnN W s)) n
def zDG (W : Nat → Int32) (n c : Nat) : Nat := dsum (fun s => min 1000 (zFar W c (cnN W s))) n
theorem zDG_cmp {W : Nat → Int32} {n c : Nat} (h : zRg W n) (hc : c < 12) : (zDG W n c = zDF W n c ∧ zDF W n c ≤ 792) ∨ (1000 ≤ zDG W n c ∧ zDG W n c ≤ 8000 ∧ 1000000 ≤ zDF W n c) := by
  have h8 := h.1.1
  have b : zDG W n c ≤ 1000 * n := dsum_ub (fun s => Nat.min_le_left _ _) n
  have := dsum_cmp (f := fun s => zFar W c (cnN W s)) (fun s => zFar_99 h c (cnN W s) hc (cnN_lt W s)) n
  unfold zDG zDF at *
  omega
theorem s_farToAll {d n c : Nat} {a1 : Int32} {u : zM} {Q : Option Value → zM → Prop} (hC : zCore u n) (e1 : a1 = nI c) (hc : c < 12) (h : Q (some (.int (nI (zDG (u 129) n c)))) u) : zCall (d + 3) false 175 [.ref 0, .int a1] u Q := by
  subst e1
  have h8 := hC.1.1.1
  have hn := hC.1.1.2
  have hu : u 4 3 = nI n := hC.2.2.1.1.1.trans hn
  have hv0 : ∀ s, s < 8 → u 5 s = nI (cnN (u 129) s) := fun s hs => by
    have := hC.2.2.1.2.1 s 0 hs (by decide)
    rw [Nat.zero_mul, Nat.zero_add, Nat.add_zero] at this
    exact this.trans (cnN_eq hC.1 hs)
  refine tX11_farToAll ?_
  refine zFor (σ := Nat) (Pr := fun i x => zRun (d + 2) false zcX11_farToAll 1 _ 4 [(0, .ref 0), (1, .int (nI c)), (2, .int (nI x)), (3, .int (nI i))] [] u) (fun i x => x = zDG (u 129) i c) n (fun x hx => ?_) (fun i x hi hx ih => ?_) 0 rfl
  · refine tX11_farToAll_4 ⟨fun _ => by rw [hx]; exact h, fun q => absurd ?_ q⟩
    rw [hu]; exact Int32.le_refl _
  · have a0 : ((0 : Int32) * 8) + nI i = nI i := by rw [Int32.zero_mul, Int32.zero_add]
    have hcl := cnN_lt (u 129) i
    have e2 : (nI c * 12) + nI (cnN (u 129) i) = nI (c * 12 + cnN (u 129) i) := by rw [nI_lit, nI_mul, nI_add]
    refine tX11_farToAll_4 ?_
    rw [hu, a0, nI_clamp (n := i) (by omega), hv0 i (by omega), e2, nI_clamp (n := c * 12 + cnN (u 129) i) (by omega), hC.2.2.2.2 c (cnN (u 129) i) hc hcl, nI_add, nI_1 i]
    refine ⟨fun q => absurd q (by rw [nI_leI (by omega) (by omega)]; omega), fun _ => ⟨vp_in_nI (by omega) (by decide), vp_in_nI (by omega) (by decide), vp_in_nI (by omega) (by decide), ih _ ?_⟩⟩
    rw [hx]; rfl
def daB (D : Nat → Nat) (B : Nat) : Nat → Int32 × Nat
  | 0 => (-1, B)
  | c + 1 => if D c < (daB D B c).2 then (nI c, D c) else daB D B c
theorem daB_rel {W : Nat → Int32} {n : Nat} (h : zRg W n) : ∀ c, c ≤ 12 → (daB (zDG W n) 1000 c).1 = (daB (fun c => min 1000000 (zDF W n c)) 1000000 c).1 ∧ (((daB (zDG W n) 1000 c).2 = (daB (fun c => min 1000000 (zDF W n c)) 1000000 c).2 ∧ (daB (zDG W n) 1000 c).2 ≤ 792) ∨ ((daB (zDG W n) 1000 c).2 = 1000 ∧ (daB (fun c => min 1000000 (zDF W n c)) 1000000 c).2 = 1000000))
  | 0, _ => ⟨rfl, Or.inr ⟨rfl, rfl⟩⟩
  | c + 1, hc => by
    obtain ⟨i1, i2⟩ := daB_rel h c (by omega)
    have k := zDG_cmp h (c := c) (by omega)
    unfold daB
    by_cases q : zDG W n c < (daB (zDG W n) 1000 c).2
    · rw [if_pos q, if_pos (by omega)]
      exact ⟨rfl, Or.inl ⟨by show zDG W n c = min 1000000 (zDF W n c); omega, by show zDG W n c ≤ 792; omega⟩⟩
    · rw [if_neg q, if_neg (by omega)]
      exact ⟨i1, i2⟩
theorem daB_ub {D : Nat → Nat} {B : Nat} : ∀ c, (daB D B c).2 ≤ B
  | 0 => Nat.le_refl _
  | c + 1 => by
    have := daB_ub (D := D) (B := B) c
    unfold daB
    split
    · show D c ≤ B; omega
    · exact this
theorem m_dairy {n : Nat} {u : zM} (hC : zCore u n) : zCall 60 false 283 [.ref 128] u fun v2 w2 => v2 = some (.int (if n = 0 then -1 else (daB (fun c => min 1000000 (zDF (u 129) n c)) 1000000 12).1)) ∧ zSame u w2 := by
  have h8 := hC.1.1.1
  have hn := hC.1.1.2
  refine tX12_dairy ?_
  obtain ⟨m1, e1⟩ : ∃ m1, m1 = zUp u 128 0 0 := ⟨_, rfl⟩
  have e2 : m1 129 = u 129 := by rw [e1]; exact zUp_k _ _ (by decide)
  have e3 : m1 134 = u 134 := by rw [e1]; exact zUp_k _ _ (by decide)
  have fin : zSame u m1 := by rw [e1]; exact zSame.m _ (by decide)
  have hR : zRg (m1 129) n := by rw [e2]; exact hC.1
  have hf : ∀ a b, a < 12 → b < 12 → m1 134 (12 * a + b) = nI (zFar (m1 129) a b) := by rw [e2, e3]; exact hC.2.1
  have hn1 : m1 129 0 = nI n := by rw [e2]; exact hn
  rw [← e1, ← e2]
  by_cases h0 : n = 0
  · refine tX12_dairy_12 ⟨fun q => absurd q (by decide), fun _ => ⟨fun _ => ⟨by rw [if_pos h0], fin⟩, fun q => absurd ?_ q⟩⟩
    rw [hn1, h0]; exact Int32.le_refl _
  · rw [if_neg h0]
    refine zFor (σ := Int32 × Nat) (Pr := fun c x => zRun 59 false zcX12_dairy 1 _ 12 [(0, .ref 128), (1, .int x.1), (2, .int (nI x.2)), (3, .int (nI c))] [] m1) (fun c x => x = daB (fun c => min 1000000 (zDF (m1 129) n c)) 1000000 c) 12 (fun x hx => ?_) (fun c x hc hx ih => ?_) (-1, 1000000) rfl
    · exact tX12_dairy_12 ⟨fun _ => ⟨by rw [hx], fin⟩, fun q => absurd (by decide) q⟩
    · have hx2 : x.2 ≤ 1000000 := by rw [hx]; exact daB_ub _
      refine tX12_dairy_12 ⟨fun q => absurd q (by rw [nI_lit, nI_leI (by omega) (by omega)]; omega), fun _ => ⟨fun q => absurd q (by rw [hn1]; exact Int32.not_le.mpr (nI_lt (a := 0) (by omega) (by omega))), fun _ => ?_⟩⟩
      refine zFor (σ := Nat) (Pr := fun i y => zRun 59 false zcX12_dairy 1 _ 31 [(0, .ref 128), (1, .int x.1), (2, .int (nI x.2)), (3, .int (nI c)), (4, .int (nI y)), (5, .int (nI i))] [] m1) (fun i y => y = min 1000000 (zDF (m1 129) i c)) n (fun y hy => ?_) (fun i y hi hy ih2 => ?_) 0 rfl
      · have ey : y ≤ 1000000 := by omega
        refine tX12_dairy_31 ⟨fun _ => ⟨fun q => ?_, fun q => ?_⟩, fun q => absurd ?_ q⟩
        · rw [nI_leI (by omega) (by omega)] at q
          rw [if_neg (by rw [nI_ltI (by omega) (by omega)]; omega), nI_1]
          refine ih x ?_
          rw [hx]; conv => rhs; unfold daB
          rw [if_neg (by rw [← hx, ← hy]; omega)]
        · rw [nI_leI (by omega) (by omega)] at q
          rw [if_pos (by rw [nI_ltI (by omega) (by omega)]; omega), nI_1]
          refine ih (nI c, y) ?_
          conv => rhs; unfold daB
          rw [if_pos (by rw [← hx, ← hy]; omega), hy]
        · rw [hn1]; exact Int32.le_refl _
      · have a0 : (163 + (9 * nI i)) + 0 = nI (163 + 9 * i) := by rw [nI_lit, nI_lit, nI_mul, nI_add]; exact Int32.add_zero _
        have hcl := cnN_lt (m1 129) i
        have e4 : (12 * nI c) + nI (cnN (m1 129) i) = nI (12 * c + cnN (m1 129) i) := by rw [nI_lit, nI_mul, nI_add]
        have hF : zFar (m1 129) c (cnN (m1 129) i) ≤ 1000000 := zFar_le hR _ _
        have ey : y ≤ 1000000 := by omega
        refine tX12_dairy_31 ?_
        rw [hn1, a0, nI_clamp (n := 163 + 9 * i) (by omega), cnN_eq hR (by omega), e4, nI_clamp (n := 12 * c + cnN (m1 129) i) (by omega), hf c (cnN (m1 129) i) hc hcl, nI_add, nI_1 i]
        refine ⟨fun q => absurd q (by rw [nI_leI (by omega) (by omega)]; omega), fun _ => ⟨vp_in_nI (by omega) (by decide), vp_in_nI (by omega) (by decide), ?_⟩⟩
        have e5 : (if nI (y + zFar (m1 129) c (cnN (m1 129) i)) < 1000000 then nI (y + zFar (m1 129) c (cnN (m1 129) i)) else 1000000) = nI (min 1000000 (y + zFar (m1 129) c (cnN (m1 129) i))) := by
          by_cases q : y + zFar (m1 129) c (cnN (m1 129) i) < 1000000
          · rw [if_pos (by rw [nI_lit, nI_ltI (by omega) (by omega)]; exact q), Nat.min_eq_right (by omega)]
          · rw [if_neg (by rw [nI_lit, nI_ltI (by omega) (by omega)]; exact q), Nat.min_eq_left (by omega)]; rfl
        rw [e5]
        refine ih2 _ ?_
        have e6 : zDF (m1 129) (i + 1) c = zDF (m1 129) i c + zFar (m1 129) c (cnN (m1 129) i) := rfl
        rw [e6, hy]; omega
theorem op_dairy : zAsk 131 283 [] := by
  intro u n hC
  have h8 := hC.1.1.1
  have hn := hC.1.1.2
  have hu : u 4 3 = nI n := hC.2.2.1.1.1.trans hn
  have fin := m_dairy hC
  refine tX11_dairy ?_
  by_cases h0 : n = 0
  · rw [if_pos h0] at fin
    refine tX11_dairy_8 ⟨fun q => absurd q (by decide), fun _ => ⟨fun _ => ⟨zSame.rf u, fin⟩, fun q => absurd ?_ q⟩⟩
    rw [hu, h0]; exact Int32.le_refl _
  · rw [if_neg h0, ← (daB_rel hC.1 12 (Nat.le_refl _)).1] at fin
    refine zFor (σ := Int32 × Nat) (Pr := fun c x => zRun 59 false zcX11_dairy 1 _ 8 [(0, .ref 0), (1, .int x.1), (2, .int (nI x.2)), (3, .int (nI c))] [] u) (fun c x => x = daB (zDG (u 129) n) 1000 c) 12 (fun x hx => ?_) (fun c x hc hx ih => ?_) (-1, 1000) rfl
    · exact tX11_dairy_8 ⟨fun _ => ⟨zSame.rf u, by rw [hx]; exact fin⟩, fun q => absurd (by decide) q⟩
    · have hx2 : x.2 ≤ 1000 := by rw [hx]; exact daB_ub _
      have k := zDG_cmp hC.1 (c := c) hc
      refine tX11_dairy_8 ⟨fun q => absurd q (by rw [nI_lit, nI_leI (by omega) (by omega)]; omega), fun _ => ⟨fun q => absurd q (by rw [hu]; exact Int32.not_le.mpr (nI_lt (a := 0) (by omega) (by omega))), fun _ => ?_⟩⟩
      refine s_farToAll hC rfl hc ⟨_, rfl, ?_⟩
      rw [nI_1]
      refine ⟨fun q => ih x ?_, fun q => ih (nI c, zDG (u 129) n c) ?_⟩
      · rw [nI_leI (by omega) (by omega)] at q
        rw [hx]; conv => rhs; unfold daB
        rw [if_neg (by rw [← hx]; omega)]
      · rw [nI_leI (by omega) (by omega)] at q
        conv => rhs; unfold daB
        rw [if_pos (by rw [← hx]; omega)]
