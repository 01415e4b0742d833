/-- the CART leaves b bottles at s -/
theorem s_leave {d k0 s b : Nat} {a1 a2 a3 : Int32} {u : zM} {Q : Option Value → zM → Prop} (hk : zShapes[k0]? = some (.inl 0)) (e1 : a1 = nI s) (e2 : a2 = nI b) (hs : s < 8) (hb : b ≤ 1000)
    (h : ∀ w : zM, (∀ k, k ≠ k0 → k ≠ k0 + 1 → k ≠ k0 + 2 → w k = u k) → w k0 2 = u k0 2 ||| zBit s → w k0 3 = u k0 3 ||| (if 0 < b then zBit s else 0) → w k0 4 = u k0 4 + nI b → w (k0 + 1) = upd (u (k0 + 1)) s (nI b) → w (k0 + 2) = upd (u (k0 + 2)) s a3 → Q none w) : zCall (d + 1) false 4 [.ref k0, .int a1, .int a2, .int a3] u Q := by
  subst e1; subst e2
  have key : ∀ (x : Int32), x = u k0 3 ||| (if 0 < b then zBit s else 0) → Q none (zUp (zUp (zUp (zUp (zUp u k0 2 (u k0 2 ||| zBit s)) k0 3 x) (k0 + 1) s (nI b)) (k0 + 2) s a3) k0 4 (u k0 4 + nI b)) := by
    intro x hx
    refine h _ (fun k h1 h2 h3 => ?_) ?_ ?_ ?_ ?_ ?_
    · rw [zUp_k _ _ h1, zUp_k _ _ h3, zUp_k _ _ h2, zUp_k _ _ h1, zUp_k _ _ h1]
    · rw [zUp_j _ _ (by decide), zUp_kj _ _ (by omega), zUp_kj _ _ (by omega), zUp_j _ _ (by decide), zUp_at]
    · rw [zUp_j _ _ (by decide), zUp_kj _ _ (by omega), zUp_kj _ _ (by omega), zUp_at, hx]
    · rw [zUp_at]
    · rw [zUp_k _ _ (by omega), zUp_k _ _ (by omega), zUp_row, zUp_k _ _ (by omega), zUp_k _ _ (by omega)]
    · rw [zUp_k _ _ (by omega), zUp_row, zUp_k _ _ (by omega), zUp_k _ _ (by omega), zUp_k _ _ (by omega)]
  refine tX0_leave hk ⟨fun q => absurd q (nI_pos (by omega)), fun _ => ⟨fun _ => fun m1 i1 => ⟨fun q => fun m2 i2 => ⟨vp_in_nI hs (by decide), fun m3 i3 => ⟨vp_in_nI hs (by decide), fun m4 i4 => ?_⟩⟩, fun q => fun m2 i2 => ⟨vp_in_nI hs (by decide), fun m3 i3 => ⟨vp_in_nI hs (by decide), fun m4 i4 => ?_⟩⟩⟩, fun q => absurd (by rw [nI_lit, nI_ltI (by omega) (by omega)]; exact hs) q⟩⟩
  · have o3 : m1 k0 3 = u k0 3 := by rw [i1, zUp_j _ _ (by decide)]
    have o4 : m4 k0 4 = u k0 4 := by rw [i4, zUp_kj _ _ (by omega), i3, zUp_kj _ _ (by omega), i2, zUp_j _ _ (by decide), i1, zUp_j _ _ (by decide)]
    rw [nI_clamp (by omega)] at i3 i4
    rw [o3] at i2
    rw [o4, i4, i3, i2, i1]
    rw [nI_lit, nI_leI (by omega) (by omega)] at q
    exact key _ (by rw [if_neg (by omega)])
  · have o3 : m1 k0 3 = u k0 3 := by rw [i1, zUp_j _ _ (by decide)]
    have o4 : m4 k0 4 = u k0 4 := by rw [i4, zUp_kj _ _ (by omega), i3, zUp_kj _ _ (by omega), i2, zUp_j _ _ (by decide), i1, zUp_j _ _ (by decide)]
    rw [nI_clamp (by omega)] at i3 i4
    rw [o3] at i2
    rw [o4, i4, i3, i2, i1]
    rw [nI_lit, nI_leI (by omega) (by omega)] at q
    exact key _ (by rw [if_pos (by omega)]; rfl)
