theorem s_goesToV {d n K s : Nat} {a1 : Int32} {r : zR} {u : zM} {Q : Option Value → zM → Prop} (hR : zRg (u 129) n) (hf : ∀ a b, a < 12 → b < 12 → u 134 (12 * a + b) = nI (zFar (u 129) a b)) (e1 : a1 = nI s) (hs : s < 8) (hM : zRM u K r) (hc : r.c < 12) (hp : r.p ≤ 100000) (hK : K ≤ 99)
    (h : ∀ w v, (∀ k, k ≠ 128 → w k = u k) → (∀ j, j < 19 ∨ 23 < j → w 128 j = u 128 j) → zRM w K (zGoTo (zFar (u 129)) K (cnN (u 129)) (zNo (u 129)) r s) → v = (if zFar (u 129) r.c (cnN (u 129) s) + zFar (u 129) (cnN (u 129) s) 0 ≤ r.p then nI (zBt K r.t (zNo (u 129) s)) else -1) → Q (some (.int v)) w) : zCall (d + 4) false 249 [.ref 128, .int a1] u Q := by
  subst e1
  obtain ⟨m19, m20, m21, m22, m23⟩ := hM
  have hcl := cnN_lt (u 129) s
  have a0 : (163 + (9 * nI s)) + 0 = nI (163 + 9 * s) := by rw [nI_lit, nI_lit, nI_mul, nI_add]; exact Int32.add_zero _
  have a7 : (163 + (9 * nI s)) + 7 = nI (163 + 9 * s + 7) := by rw [nI_lit, nI_lit, nI_lit, nI_mul, nI_add, nI_add]
  have b1 : (12 * nI r.c) + nI (cnN (u 129) s) = nI (12 * r.c + cnN (u 129) s) := by rw [nI_lit, nI_mul, nI_add]
  have b2 : (12 * nI (cnN (u 129) s)) + 0 = nI (12 * cnN (u 129) s) := by rw [nI_lit, nI_mul]; exact Int32.add_zero _
  have f1 : u 134 (12 * r.c + cnN (u 129) s) = nI (zFar (u 129) r.c (cnN (u 129) s)) := hf _ _ hc hcl
  have f2 : u 134 (12 * cnN (u 129) s) = nI (zFar (u 129) (cnN (u 129) s) 0) := hf _ 0 hcl (by decide)
  have l1 := zFar_le hR r.c (cnN (u 129) s)
  have l2 := zFar_le hR (cnN (u 129) s) 0
  have cv := cnN_eq hR hs
  have t1 : (if (1 : Int32) < nI (K - r.t) then 1 else nI (K - r.t)) = nI (zBt K r.t false) := zBt_if hK 1 rfl
  have t2 : (if (2 : Int32) < nI (K - r.t) then 2 else nI (K - r.t)) = nI (zBt K r.t true) := zBt_if hK 2 rfl
  refine tX12_goesTo ?_
  rw [a0, a7, nI_clamp (n := 163 + 9 * s) (by omega), nI_clamp (n := 163 + 9 * s + 7) (by omega), cv, m19, b1, b2, nI_clamp (n := 12 * r.c + cnN (u 129) s) (by omega), nI_clamp (n := 12 * cnN (u 129) s) (by omega), f1, f2, m20, m21, t1, t2, nI_add]
  have key : zFar (u 129) r.c (cnN (u 129) s) + zFar (u 129) (cnN (u 129) s) 0 ≤ r.p → ∀ (b : Bool) (w : zM) (x : Int32), zNo (u 129) s = b → x = r.gave ||| (if 0 < zBt K r.t b then zBit s else 0) → w = zUp (zUp (zUp (zUp (zUp u 128 20 (nI r.p - nI (zFar (u 129) r.c (cnN (u 129) s)))) 128 19 (nI (cnN (u 129) s))) 128 21 (nI (K - r.t) - nI (zBt K r.t b))) 128 22 (r.came ||| zBit s)) 128 23 x → ∀ v, v = nI (zBt K r.t b) → Q (some (.int v)) w := by
    intro q b w x hb hx e v hv
    obtain ⟨g1, g2, g3, g4, g5, g6, g7⟩ := zUp5f e
    have g : zGoTo (zFar (u 129)) K (cnN (u 129)) (zNo (u 129)) r s = (cnN (u 129) s, r.p - zFar (u 129) r.c (cnN (u 129) s), r.t + zBt K r.t b, r.came ||| zBit s, r.gave ||| (if 0 < zBt K r.t b then zBit s else 0), upd r.lf s (nI (zBt K r.t b)), upd r.rs s (nI (r.p - zFar (u 129) r.c (cnN (u 129) s)))) := by
      rw [← hb]; exact if_pos q
    have hbt : zBt K r.t b ≤ K - r.t := Nat.min_le_left _ _
    refine h w v g1 g2 ?_ (by rw [if_pos q, hb]; exact hv)
    rw [g]
    refine ⟨g3, ?_, ?_, g6, ?_⟩
    · rw [g4, nI_sub (by omega)]; rfl
    · rw [g5, nI_sub (by omega)]
      show nI (K - r.t - zBt K r.t b) = nI (K - (r.t + zBt K r.t b))
      rw [Nat.sub_sub]
    · rw [g7, hx]; rfl
  have gv : ∀ b, (nI (zBt K r.t b) ≤ 0 → r.gave ||| 0 = r.gave ||| (if 0 < zBt K r.t b then zBit s else 0)) ∧ (¬ nI (zBt K r.t b) ≤ 0 → r.gave ||| zBit s = r.gave ||| (if 0 < zBt K r.t b then zBit s else 0)) := fun b => by
    have hbt : zBt K r.t b ≤ K - r.t := Nat.min_le_left _ _
    refine ⟨fun q => ?_, fun q => ?_⟩
    · rw [nI_lit, nI_leI (by omega) (by omega)] at q; rw [if_neg (by omega)]
    · rw [nI_lit, nI_leI (by omega) (by omega)] at q; rw [if_pos (by omega)]
  refine ⟨vp_in_nI (by omega) (by decide), vp_in_nI (by omega) (by decide), vp_in_nI (by omega) (by decide), vp_in_nI (by omega) (by decide), fun q => ⟨vp_in_nI (by omega) (by decide), fun z m1 i1 => ⟨vp_in_nI (by omega) (by decide), fun m2 i2 m3 i3 m4 i4 => ?_⟩, fun z m1 i1 => ⟨vp_in_nI (by omega) (by decide), fun m2 i2 m3 i3 m4 i4 => ?_⟩⟩, fun q => ?_⟩
  · rw [nI_leI (by omega) (by omega)] at q
    have hb : zNo (u 129) s = false := by unfold zNo; simpa using z
    have o1 : m1 129 (163 + 9 * s) = nI (cnN (u 129) s) := by rw [i1, zUp_kj _ _ (by decide)]; exact cv
    have o2 : m2 128 21 = nI (K - r.t) := by rw [i2, zUp_j _ _ (by decide), i1, zUp_j _ _ (by decide)]; exact m21
    have o3 : m3 128 22 = r.came := by rw [i3, zUp_j _ _ (by decide), i2, zUp_j _ _ (by decide), i1, zUp_j _ _ (by decide)]; exact m22
    have o4 : m4 128 23 = r.gave := by rw [i4, zUp_j _ _ (by decide), i3, zUp_j _ _ (by decide), i2, zUp_j _ _ (by decide), i1, zUp_j _ _ (by decide)]; exact m23
    rw [o1] at i2; rw [o2] at i3; rw [o3] at i4; rw [o4]
    have st : m4 = zUp (zUp (zUp (zUp u 128 20 (nI r.p - nI (zFar (u 129) r.c (cnN (u 129) s)))) 128 19 (nI (cnN (u 129) s))) 128 21 (nI (K - r.t) - nI (zBt K r.t false))) 128 22 (r.came ||| zBit s) := by rw [i4, i3, i2, i1]; rfl
    exact ⟨fun y => key q false _ _ hb ((gv false).1 y) (by rw [st]) _ rfl, fun y => key q false _ _ hb ((gv false).2 y) (by rw [st]; rfl) _ rfl⟩
  · rw [nI_leI (by omega) (by omega)] at q
    have hb : zNo (u 129) s = true := by unfold zNo; simpa using z
    have o1 : m1 129 (163 + 9 * s) = nI (cnN (u 129) s) := by rw [i1, zUp_kj _ _ (by decide)]; exact cv
    have o2 : m2 128 21 = nI (K - r.t) := by rw [i2, zUp_j _ _ (by decide), i1, zUp_j _ _ (by decide)]; exact m21
    have o3 : m3 128 22 = r.came := by rw [i3, zUp_j _ _ (by decide), i2, zUp_j _ _ (by decide), i1, zUp_j _ _ (by decide)]; exact m22
    have o4 : m4 128 23 = r.gave := by rw [i4, zUp_j _ _ (by decide), i3, zUp_j _ _ (by decide), i2, zUp_j _ _ (by decide), i1, zUp_j _ _ (by decide)]; exact m23
    rw [o1] at i2; rw [o2] at i3; rw [o3] at i4; rw [o4]
    have st : m4 = zUp (zUp (zUp (zUp u 128 20 (nI r.p - nI (zFar (u 129) r.c (cnN (u 129) s)))) 128 19 (nI (cnN (u 129) s))) 128 21 (nI (K - r.t) - nI (zBt K r.t true))) 128 22 (r.came ||| zBit s) := by rw [i4, i3, i2, i1]; rfl
    exact ⟨fun y => key q true _ _ hb ((gv true).1 y) (by rw [st]) _ rfl, fun y => key q true _ _ hb ((gv true).2 y) (by rw [st]; rfl) _ rfl⟩
  · rw [nI_leI (by omega) (by omega)] at q
    refine h u _ (fun _ _ => rfl) (fun _ _ => rfl) ?_ (by rw [if_neg q])
    rw [show zGoTo (zFar (u 129)) K (cnN (u 129)) (zNo (u 129)) r s = r from if_neg q]
    exact ⟨m19, m20, m21, m22, m23⟩
