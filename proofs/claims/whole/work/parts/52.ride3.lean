theorem zUp5g {u w : zM} {p c t a g : Int32} (e : w = zUp (zUp (zUp (zUp (zUp u 128 19 c) 128 20 p) 128 21 t) 128 22 a) 128 23 g) : (∀ k, k ≠ 128 → w k = u k) ∧ (∀ j, j < 19 ∨ 23 < j → w 128 j = u 128 j) ∧ w 128 19 = c ∧ w 128 20 = p ∧ w 128 21 = t ∧ w 128 22 = a ∧ w 128 23 = g := by
  subst e
  refine ⟨fun k hk => ?_, fun j hj => ?_, ?_, ?_, ?_, ?_, ?_⟩
  · rw [zUp_k _ _ hk, zUp_k _ _ hk, zUp_k _ _ hk, zUp_k _ _ hk, zUp_k _ _ hk]
  · rw [zUp_j _ _ (by omega), zUp_j _ _ (by omega), zUp_j _ _ (by omega), zUp_j _ _ (by omega), zUp_j _ _ (by omega)]
  · rw [zUp_j _ _ (by decide), zUp_j _ _ (by decide), zUp_j _ _ (by decide), zUp_j _ _ (by decide), zUp_at]
  · rw [zUp_j _ _ (by decide), zUp_j _ _ (by decide), zUp_j _ _ (by decide), zUp_at]
  · rw [zUp_j _ _ (by decide), zUp_j _ _ (by decide), zUp_at]
  · rw [zUp_j _ _ (by decide), zUp_at]
  · rw [zUp_at]
/-- the ride of the reference -/
def zRdF (W : Nat → Int32) (K p0 i : Nat) : zR := zRide (zFar W) K (cnN W) (zNo W) (stN W) p0 i
theorem s_rides {d n K p0 : Nat} {a1 : Int32} {u : zM} {Q : Option Value → zM → Prop} (hR : zRg (u 129) n) (hf : ∀ a b, a < 12 → b < 12 → u 134 (12 * a + b) = nI (zFar (u 129) a b)) (e1 : a1 = nI p0) (hp : p0 ≤ 100000) (hK : K ≤ 99) (hK5 : u 129 5 = nI K)
    (h : ∀ w, (∀ k, k ≠ 128 → w k = u k) → (∀ j, j < 19 ∨ 23 < j → w 128 j = u 128 j) → zRM w K (zRdF (u 129) K p0 n) → Q none w) : zCall (d + 5) false 250 [.ref 128, .int a1] u Q := by
  subst e1
  have h8 := hR.1.1
  refine tX12_rides (fun m1 i1 m2 i2 m3 i3 m4 i4 => ?_)
  have o2 : m2 129 5 = nI K := by rw [i2, zUp_kj _ _ (by decide), i1, zUp_kj _ _ (by decide)]; exact hK5
  rw [o2] at i3
  obtain ⟨w0, e0⟩ : ∃ w0, w0 = zUp m4 128 23 0 := ⟨_, rfl⟩
  rw [← e0]
  obtain ⟨g1, g2, g3, g4, g5, g6, g7⟩ := zUp5g (w := w0) (u := u) (c := 0) (p := nI p0) (t := nI K) (a := 0) (g := 0) (by rw [e0, i4, i3, i2, i1])
  refine zFor (σ := zM) (Pr := fun i w => zRun (d + 4) false zcX12_rides 0 Q 7 [(0, .ref 128), (1, .int (nI p0)), (2, .int (nI i))] [] w) (fun i w => (∀ k, k ≠ 128 → w k = u k) ∧ (∀ j, j < 19 ∨ 23 < j → w 128 j = u 128 j) ∧ zRM w K (zRdF (u 129) K p0 i)) n (fun w hw => ?_) (fun i w hi hw ih => ?_) w0 ⟨g1, g2, g3, g4, g5, g6, g7⟩
  · refine tX12_rides_7 ⟨fun _ => h w hw.1 hw.2.1 hw.2.2, fun q => absurd ?_ q⟩
    rw [hw.1 129 (by decide), hR.1.2]; exact Int32.le_refl _
  · have w9 := hw.1 129 (by decide)
    have w4 := hw.1 134 (by decide)
    have e5 : 155 + nI i = nI (155 + i) := by rw [nI_lit, nI_add]
    obtain ⟨s1, s2⟩ := stN_eq hR hi
    have ok := zRide_ok (F := zFar (u 129)) (K := K) (p0 := p0) (no := zNo (u 129)) (st := stN (u 129)) (fun s => cnN_lt (u 129) s) i
    refine tX12_rides_7 ?_
    rw [w9, hR.1.2, e5, nI_clamp (n := 155 + i) (by omega), s1, nI_1 i]
    refine ⟨fun q => absurd q (by rw [nI_leI (by omega) (by omega)]; omega), fun _ => ⟨vp_in_nI (by omega) (by decide), ?_⟩⟩
    refine s_goesTo (n := n) (K := K) (r := zRdF (u 129) K p0 i) (by rw [w9]; exact hR) (by rw [w9, w4]; exact hf) rfl (by omega) hw.2.2 ok.1 (by have := ok.2.1; show (zRide (zFar (u 129)) K (cnN (u 129)) (zNo (u 129)) (stN (u 129)) p0 i).p ≤ 100000; omega) hK (fun w2 v k1 k2 k3 => ⟨_, rfl, ?_⟩)
    rw [w9] at k3
    exact ih w2 ⟨fun k hk => (k1 k hk).trans (hw.1 k hk), fun j hj => (k2 j hj).trans (hw.2.1 j hj), k3⟩
