theorem cpy0 {f g : Nat → Int32} {n j : Nat} (h : j < n) (hn : n < 1000) : va_cpy f g (0 : Int32).toNatClampNeg (0 : Int32).toNatClampNeg (nI n).toNatClampNeg j = f j := by
  have z : (0 : Int32).toNatClampNeg = 0 := rfl
  rw [z, nI_clamp (by omega), pk_cpy_in (by omega) (by omega)]
  congr 1; omega
/-- what a copy of the DAYS leaves behind -/
def zCpD (u w : zM) (k0 k1 : Nat) : Prop := (∀ j, j < 72 → w (k0 + 1) j = u (k1 + 1) j) ∧ (∀ j, j < 8 → w (k0 + 2) j = u (k1 + 2) j) ∧ (w (k0 + 3) 1 = u (k1 + 3) 1 ∧ w (k0 + 3) 2 = u (k1 + 3) 2) ∧ (∀ j, j < 240 → w (k0 + 4) j = u (k1 + 4) j) ∧ ∀ j, 3 ≤ j → j ≤ 11 → w k0 j = u k1 j
theorem zCpD.dy {u w : zM} {k0 k1 : Nat} {W : Nat → Int32} (h : zCpD u w k0 k1) (hD : zDyV u k1 W) : zDyV w k0 W := by
  obtain ⟨h1, h2, -, -, h5⟩ := h
  obtain ⟨⟨a1, a2, a3, a4, a5, a6, a7, a8, a9⟩, b, c⟩ := hD
  refine ⟨⟨?_, ?_, ?_, ?_, ?_, ?_, ?_, ?_, ?_⟩, fun s x hs hx => ?_, fun p hp => ?_⟩
  all_goals first | (rw [h5 _ (by decide) (by decide)]; assumption) | skip
  · rw [h1 _ (by omega)]; exact b s x hs hx
  · rw [h2 _ hp]; exact c p hp
theorem zCpD.lg {u w : zM} {k0 k1 : Nat} {W : Nat → Int32} (h : zCpD u w k0 k1) (hL : zLg u (k1 + 3) W) : zLg w (k0 + 3) W := by
  obtain ⟨-, -, ⟨h3, h3'⟩, h4, -⟩ := h
  obtain ⟨L, N, hL, hN, g1, g2, g3, g4⟩ := hL
  refine ⟨L, N, hL, hN, by rw [h3]; exact g1, by rw [h3']; exact g2, g3, fun i c hi hc => ?_⟩
  have hm : (N + 59 - i) % 60 < 60 := Nat.mod_lt _ (by decide)
  rw [show k0 + 3 + 1 = k0 + 4 from rfl, h4 _ (by omega)]
  exact g4 i c hi hc
theorem s_copyDays {d k0 k1 : Nat} {u : zM} {Q : Option Value → zM → Prop} (hk0 : zShapes[k0]? = some (.inl 1)) (hk1 : zShapes[k1]? = some (.inl 1)) (ap : k0 + 4 < k1 ∨ k1 + 4 < k0)
    (h : ∀ w : zM, (∀ c, (c < k0 ∨ k0 + 4 < c) → w c = u c) → zCpD u w k0 k1 → Q none w) : zCall (d + 2) false 5 [.ref k0, .ref k1] u Q := by
  refine tX1_copyFrom hk0 hk1 (fun m1 e1 m2 e2 m3 e3 m4 e4 m5 e5 m6 e6 m7 e7 m8 e8 m9 e9 m10 e10 m11 e11 m12 e12 m13 e13 => ?_)
  have f1 : ∀ c, c ≠ k0 + 1 → m1 c = u c := fun c hc => by rw [e1, zRow_ne _ _ hc]
  have f2 : ∀ c, c ≠ k0 + 1 → c ≠ k0 + 2 → m2 c = u c := fun c a b => by rw [e2, zRow_ne _ _ b, f1 c a]
  have f4 : ∀ c, c ≠ k0 + 1 → c ≠ k0 + 2 → c ≠ k0 + 3 → m4 c = u c := fun c a b x => by rw [e4, zUp_k _ _ x, e3, zUp_k _ _ x, f2 c a b]
  have f5 : ∀ c, c ≠ k0 + 1 → c ≠ k0 + 2 → c ≠ k0 + 3 → c ≠ k0 + 4 → m5 c = u c := fun c a b x y => by rw [e5, zRow_ne _ _ y, f4 c a b x]
  have g13 : ∀ c, c ≠ k0 → m13 c = m5 c := fun c hc => by rw [e13, zUp_k _ _ hc, e12, zUp_k _ _ hc, e11, zUp_k _ _ hc, e10, zUp_k _ _ hc, e9, zUp_k _ _ hc, e8, zUp_k _ _ hc, e7, zUp_k _ _ hc, e6, zUp_k _ _ hc]
  have x1 : ∀ m : zM, (∀ c, c ≠ k0 → m c = m5 c) → ∀ j, m k1 j = u k1 j := fun m hm j => by rw [hm k1 (by omega), f5 k1 (by omega) (by omega) (by omega) (by omega)]
  have y5 := x1 m5 (fun c hc => rfl)
  have y6 := x1 m6 (fun c hc => by rw [e6, zUp_k _ _ hc])
  have y7 := x1 m7 (fun c hc => by rw [e7, zUp_k _ _ hc, e6, zUp_k _ _ hc])
  have y8 := x1 m8 (fun c hc => by rw [e8, zUp_k _ _ hc, e7, zUp_k _ _ hc, e6, zUp_k _ _ hc])
  have y9 := x1 m9 (fun c hc => by rw [e9, zUp_k _ _ hc, e8, zUp_k _ _ hc, e7, zUp_k _ _ hc, e6, zUp_k _ _ hc])
  have y10 := x1 m10 (fun c hc => by rw [e10, zUp_k _ _ hc, e9, zUp_k _ _ hc, e8, zUp_k _ _ hc, e7, zUp_k _ _ hc, e6, zUp_k _ _ hc])
  have y11 := x1 m11 (fun c hc => by rw [e11, zUp_k _ _ hc, e10, zUp_k _ _ hc, e9, zUp_k _ _ hc, e8, zUp_k _ _ hc, e7, zUp_k _ _ hc, e6, zUp_k _ _ hc])
  have y12 := x1 m12 (fun c hc => by rw [e12, zUp_k _ _ hc, e11, zUp_k _ _ hc, e10, zUp_k _ _ hc, e9, zUp_k _ _ hc, e8, zUp_k _ _ hc, e7, zUp_k _ _ hc, e6, zUp_k _ _ hc])
  have y13 := x1 m13 g13
  rw [y5] at e6; rw [y6] at e7; rw [y7] at e8; rw [y8] at e9; rw [y9] at e10; rw [y10] at e11; rw [y11] at e12; rw [y12] at e13
  rw [y13]
  refine h _ (fun c hc => ?_) ⟨fun j hj => ?_, fun j hj => ?_, ⟨?_, ?_⟩, fun j hj => ?_, fun j h3 h11 => ?_⟩
  · rw [zUp_k _ _ (by omega), g13 c (by omega), f5 c (by omega) (by omega) (by omega) (by omega)]
  · rw [zUp_k _ _ (by omega), g13 _ (by omega), e5, zRow_ne _ _ (by omega), e4, zUp_k _ _ (by omega), e3, zUp_k _ _ (by omega), e2, zRow_ne _ _ (by omega), e1, zRow_self]; exact cpy0 (n := 72) hj (by omega)
  · rw [zUp_k _ _ (by omega), g13 _ (by omega), e5, zRow_ne _ _ (by omega), e4, zUp_k _ _ (by omega), e3, zUp_k _ _ (by omega), e2, zRow_self]
    refine (cpy0 (n := 8) hj (by omega)).trans ?_
    rw [f1 _ (by omega)]
  · rw [zUp_kj _ _ (by omega), g13 _ (by omega), e5, zRow_ne _ _ (by omega), e4, zUp_j _ _ (by omega), e3, zUp_at, f2 _ (by omega) (by omega)]
  · rw [zUp_kj _ _ (by omega), g13 _ (by omega), e5, zRow_ne _ _ (by omega), e4, zUp_at, e3, zUp_k _ _ (by omega), f2 _ (by omega) (by omega)]
  · rw [zUp_k _ _ (by omega), g13 _ (by omega), show k0 + 4 = k0 + 3 + 1 from rfl, e5, zRow_self]
    refine (cpy0 (n := 240) hj (by omega)).trans ?_
    rw [show k1 + 3 + 1 = k1 + 4 from rfl, f4 _ (by omega) (by omega) (by omega)]
  · have c : j = 3 ∨ j = 4 ∨ j = 5 ∨ j = 6 ∨ j = 7 ∨ j = 8 ∨ j = 9 ∨ j = 10 ∨ j = 11 := by omega
    rcases c with rfl | rfl | rfl | rfl | rfl | rfl | rfl | rfl | rfl
    · rw [zUp_j _ _ (by decide), e13, zUp_j _ _ (by decide), e12, zUp_j _ _ (by decide), e11, zUp_j _ _ (by decide), e10, zUp_j _ _ (by decide), e9, zUp_j _ _ (by decide), e8, zUp_j _ _ (by decide), e7, zUp_j _ _ (by decide), e6, zUp_at]
    · rw [zUp_j _ _ (by decide), e13, zUp_j _ _ (by decide), e12, zUp_j _ _ (by decide), e11, zUp_j _ _ (by decide), e10, zUp_j _ _ (by decide), e9, zUp_j _ _ (by decide), e8, zUp_j _ _ (by decide), e7, zUp_at]
    · rw [zUp_j _ _ (by decide), e13, zUp_j _ _ (by decide), e12, zUp_j _ _ (by decide), e11, zUp_j _ _ (by decide), e10, zUp_j _ _ (by decide), e9, zUp_j _ _ (by decide), e8, zUp_at]
    · rw [zUp_j _ _ (by decide), e13, zUp_j _ _ (by decide), e12, zUp_j _ _ (by decide), e11, zUp_j _ _ (by decide), e10, zUp_j _ _ (by decide), e9, zUp_at]
    · rw [zUp_j _ _ (by decide), e13, zUp_j _ _ (by decide), e12, zUp_j _ _ (by decide), e11, zUp_j _ _ (by decide), e10, zUp_at]
    · rw [zUp_j _ _ (by decide), e13, zUp_j _ _ (by decide), e12, zUp_j _ _ (by decide), e11, zUp_at]
    · rw [zUp_j _ _ (by decide), e13, zUp_j _ _ (by decide), e12, zUp_at]
    · rw [zUp_j _ _ (by decide), e13, zUp_at]
    · exact zUp_at _ _ _ _
