theorem nI_ix {a b c : Nat} : (nI a * nI c) + nI b = nI (a * c + b) := by rw [nI_mul, nI_add]
theorem s_get {d : Nat} {k0 : Nat} {a1 a2 : Int32} {u : zM} {Q : Option Value → zM → Prop} (hk : zShapes[k0]? = some (.inl 1)) (p1 : vp_in a1 9) (p2 : vp_in a2 8) (h : Q (some (.int (u (k0 + 1) (((a1 * 8) + a2).toNatClampNeg)))) u) : zCall (d + 1) false 6 [.ref k0, .int a1, .int a2] u Q := by
  obtain ⟨w, hw, rfl⟩ := vp_in_of p1 (by decide)
  obtain ⟨s, hs, rfl⟩ := vp_in_of p2 (by decide)
  refine tX1_get hk ?_
  simp (disch := omega) only [nI_lit, nI_ltI, nI_leI, nI_ix, vp_nI, nI_clamp] at h ⊢
  refine ⟨fun c => absurd c (by omega), fun _ => ⟨fun c => absurd c (by omega), fun _ => ⟨fun c => absurd c (by omega), fun _ => ⟨fun c => absurd c (by omega), fun _ => ⟨by omega, h⟩⟩⟩⟩⟩
theorem s_set {d : Nat} {k0 : Nat} {a1 a2 a3 : Int32} {u : zM} {Q : Option Value → zM → Prop} (hk : zShapes[k0]? = some (.inl 1)) (p1 : vp_in a1 9) (p2 : vp_in a2 8) (h : Q none (zUp u (k0 + 1) (((a1 * 8) + a2).toNatClampNeg) a3)) : zCall (d + 1) false 7 [.ref k0, .int a1, .int a2, .int a3] u Q := by
  obtain ⟨w, hw, rfl⟩ := vp_in_of p1 (by decide)
  obtain ⟨s, hs, rfl⟩ := vp_in_of p2 (by decide)
  refine tX1_set hk ?_
  simp (disch := omega) only [nI_lit, nI_ltI, nI_leI, nI_ix, vp_nI, nI_clamp] at h ⊢
  refine ⟨fun c => absurd c (by omega), fun _ => ⟨fun c => absurd c (by omega), fun _ => ⟨fun c => absurd c (by omega), fun _ => ⟨fun c => absurd c (by omega), fun _ => ⟨by omega, h⟩⟩⟩⟩⟩
theorem s_stepAt {d : Nat} {k0 : Nat} {a1 : Int32} {u : zM} {Q : Option Value → zM → Prop} (hk : zShapes[k0]? = some (.inl 1)) (p1 : vp_in a1 8) (h : Q (some (.int (u (k0 + 2) (a1.toNatClampNeg)))) u) : zCall (d + 1) false 9 [.ref k0, .int a1] u Q := by
  obtain ⟨w, hw, rfl⟩ := vp_in_of p1 (by decide)
  refine tX1_stepAt hk ?_
  simp (disch := omega) only [nI_lit, nI_ltI, nI_leI, vp_nI, nI_clamp] at h ⊢
  exact ⟨fun c => absurd c (by omega), fun _ => ⟨fun c => absurd c (by omega), fun _ => ⟨by omega, h⟩⟩⟩
theorem s_between {d : Nat} {k0 : Nat} {a1 a2 : Int32} {u : zM} {Q : Option Value → zM → Prop} (hk : zShapes[k0]? = some (.inl 5)) (p1 : vp_in a1 12) (p2 : vp_in a2 12) (h : Q (some (.int (u (k0 + 2) (((a1 * 12) + a2).toNatClampNeg)))) u) : zCall (d + 2) false 52 [.ref k0, .int a1, .int a2] u Q := by
  obtain ⟨w, hw, rfl⟩ := vp_in_of p1 (by decide)
  obtain ⟨s, hs, rfl⟩ := vp_in_of p2 (by decide)
  refine tX5_between hk ?_
  simp (disch := omega) only [nI_lit, nI_ltI, nI_leI, nI_ix, vp_nI, nI_clamp] at h ⊢
  refine ⟨fun c => absurd c (by omega), fun _ => ⟨fun c => absurd c (by omega), fun _ => ⟨fun c => absurd c (by omega), fun _ => ⟨fun c => absurd c (by omega), fun _ => ⟨by omega, h⟩⟩⟩⟩⟩
theorem s_roadBetween {d : Nat} {k0 : Nat} {a1 a2 : Int32} {u : zM} {Q : Option Value → zM → Prop} (hk : zShapes[k0]? = some (.inl 5)) (p1 : vp_in a1 12) (p2 : vp_in a2 12) (h : Q (some (.int (u (k0 + 1) (((a1 * 12) + a2).toNatClampNeg)))) u) : zCall (d + 2) false 50 [.ref k0, .int a1, .int a2] u Q := by
  obtain ⟨w, hw, rfl⟩ := vp_in_of p1 (by decide)
  obtain ⟨s, hs, rfl⟩ := vp_in_of p2 (by decide)
  refine tX5_roadBetween hk ?_
  simp (disch := omega) only [nI_lit, nI_ltI, nI_leI, nI_ix, vp_nI, nI_clamp] at h ⊢
  refine ⟨fun c => absurd c (by omega), fun _ => ⟨fun c => absurd c (by omega), fun _ => ⟨fun c => absurd c (by omega), fun _ => ⟨fun c => absurd c (by omega), fun _ => ⟨by omega, h⟩⟩⟩⟩⟩
theorem s_leftAt {d : Nat} {k0 : Nat} {a1 : Int32} {u : zM} {Q : Option Value → zM → Prop} (hk : zShapes[k0]? = some (.inl 0)) (p1 : vp_in a1 8) (h : Q (some (.int (u (k0 + 1) (a1.toNatClampNeg)))) u) : zCall (d + 1) false 0 [.ref k0, .int a1] u Q := by
  obtain ⟨w, hw, rfl⟩ := vp_in_of p1 (by decide)
  refine tX0_leftAt hk ?_
  simp (disch := omega) only [nI_lit, nI_ltI, nI_leI, vp_nI, nI_clamp] at h ⊢
  exact ⟨fun c => absurd c (by omega), fun _ => ⟨fun c => absurd c (by omega), fun _ => ⟨by omega, h⟩⟩⟩
theorem s_restAt {d : Nat} {k0 : Nat} {a1 : Int32} {u : zM} {Q : Option Value → zM → Prop} (hk : zShapes[k0]? = some (.inl 0)) (p1 : vp_in a1 8) (h : Q (some (.int (u (k0 + 2) (a1.toNatClampNeg)))) u) : zCall (d + 1) false 1 [.ref k0, .int a1] u Q := by
  obtain ⟨w, hw, rfl⟩ := vp_in_of p1 (by decide)
  refine tX0_restAt hk ?_
  simp (disch := omega) only [nI_lit, nI_ltI, nI_leI, vp_nI, nI_clamp] at h ⊢
  exact ⟨fun c => absurd c (by omega), fun _ => ⟨fun c => absurd c (by omega), fun _ => ⟨by omega, h⟩⟩⟩
theorem s_restOf {d : Nat} {k0 : Nat} {a1 a2 : Int32} {u : zM} {Q : Option Value → zM → Prop} (hk : zShapes[k0]? = some (.inl 8)) (p1 : vp_in a1 256) (p2 : vp_in a2 9) (h : Q (some (.int (u (k0 + 1) (((a1 * 9) + a2).toNatClampNeg)))) u) : zCall (d + 1) false 95 [.ref k0, .int a1, .int a2] u Q := by
  obtain ⟨w, hw, rfl⟩ := vp_in_of p1 (by decide)
  obtain ⟨s, hs, rfl⟩ := vp_in_of p2 (by decide)
  refine tX9_restOf hk ?_
  simp (disch := omega) only [nI_lit, nI_ltI, nI_leI, nI_ix, vp_nI, nI_clamp] at h ⊢
  refine ⟨fun c => absurd c (by omega), fun _ => ⟨fun c => absurd c (by omega), fun _ => ⟨fun c => absurd c (by omega), fun _ => ⟨fun c => absurd c (by omega), fun _ => ⟨by omega, h⟩⟩⟩⟩⟩
theorem s_best {d : Nat} {k0 : Nat} {a1 : Int32} {u : zM} {Q : Option Value → zM → Prop} (hk : zShapes[k0]? = some (.inl 4)) (p1 : vp_in a1 256) (h : Q (some (.int (u (k0 + 1) (a1.toNatClampNeg)))) u) : zCall (d + 1) false 42 [.ref k0, .int a1] u Q := by
  obtain ⟨w, hw, rfl⟩ := vp_in_of p1 (by decide)
  refine tX4_best hk ?_
  simp (disch := omega) only [nI_lit, nI_ltI, nI_leI, vp_nI, nI_clamp] at h ⊢
  exact ⟨fun c => absurd c (by omega), fun _ => ⟨fun c => absurd c (by omega), fun _ => ⟨by omega, h⟩⟩⟩
