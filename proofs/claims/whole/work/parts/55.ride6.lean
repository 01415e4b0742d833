theorem zRide_home {F : Nat → Nat → Nat} {K p0 : Nat} {cn : Nat → Nat} {no : Nat → Bool} {st : Nat → Nat} (h0 : F 0 0 = 0) : ∀ i, F (zRide F K cn no st p0 i).c 0 ≤ (zRide F K cn no st p0 i).p
  | 0 => by show F 0 0 ≤ p0; omega
  | i + 1 => by
    have h := zRide_home (F := F) (K := K) (p0 := p0) (cn := cn) (no := no) (st := st) h0 i
    unfold zRide zGoTo
    split
    · rename_i q
      show F (cn (st i)) 0 ≤ (zRide F K cn no st p0 i).p - F (zRide F K cn no st p0 i).c (cn (st i)); omega
    · exact h
theorem s_driveNow {d n K p0 : Nat} {u : zM} {Q : Option Value → zM → Prop} (hC : zCore u n) (hp : p0 ≤ 200) (hK : K ≤ 99) (h4 : u 129 4 = nI p0) (h5 : u 129 5 = nI K)
    (h : ∀ w : zM, zSame u w → w 19 2 = (zRdF (u 129) K p0 n).came → w 19 5 = nI (zRdF (u 129) K p0 n).p - nI (zFar (u 129) (zRdF (u 129) K p0 n).c 0) → Q none w) : zCall (d + 5) false 62 [.ref 3] u Q := by
  have hR := hC.1
  have hD := hC.2.2.1
  refine tX6_drive rfl ?_
  refine s_drive (n := n) (K := K) (p0 := p0) (W := u 129) rfl rfl rfl rfl (by omega) hR hD hC.2.2.2 (hD.1.2.2.1.trans h4) (by omega) hK h5 (fun w f x e => ⟨rfl, ?_⟩)
  have eq : zRdG (u 129) K p0 n = zRdF (u 129) K p0 n := zRide_min (zFar_99 hR) (fun s => cnN_lt _ s) hp n
  rw [eq] at x e
  have ok := zRide_ok (F := zFar (u 129)) (K := K) (p0 := p0) (no := zNo (u 129)) (st := stN (u 129)) (fun s => cnN_lt (u 129) s) n
  have hh : zFar (u 129) (zRdF (u 129) K p0 n).c 0 ≤ (zRdF (u 129) K p0 n).p := zRide_home (fw_diag _ _ _) n
  have ok2 : (zRdF (u 129) K p0 n).p ≤ p0 := ok.2.1
  rw [Nat.min_eq_right (by omega)] at e
  have g : ∀ c, c < 19 ∨ 21 < c → w c = u c := fun c hc => f c (by omega) (by omega) (by omega)
  refine h w ⟨fun c hc => g c ?_, ?_, ?_⟩ x.1 e
  · refine Decidable.byContradiction fun q => ?_
    have : c = 19 ∨ c = 20 ∨ c = 21 := by omega
    rcases this with e | e | e <;> subst e <;> exact absurd hc (by decide)
  · rw [g 128 (by decide)]; exact ⟨rfl, rfl, rfl, rfl⟩
  · rw [g 1 (by decide)]; exact ⟨rfl, rfl⟩
theorem m_rides {d n K p0 : Nat} {u m1 : zM} {a1 : Int32} {Q : Option Value → zM → Prop} (hC : zCore u n) (e1 : m1 = zUp u 128 0 0) (ea : a1 = nI p0) (hp : p0 ≤ 100000) (hK : K ≤ 99) (h5 : u 129 5 = nI K)
    (h : ∀ w : zM, zSame u w → w 129 = u 129 → w 134 = u 134 → zRM w K (zRdF (u 129) K p0 n) → Q none w) : zCall (d + 5) false 250 [.ref 128, .int a1] m1 Q := by
  have e2 : m1 129 = u 129 := by rw [e1]; exact zUp_k _ _ (by decide)
  have e3 : m1 134 = u 134 := by rw [e1]; exact zUp_k _ _ (by decide)
  have fin : zSame u m1 := by rw [e1]; exact zSame.m _ (by decide)
  refine s_rides (n := n) (K := K) (p0 := p0) (by rw [e2]; exact hC.1) (by rw [e2, e3]; exact hC.2.1) ea hp hK (by rw [e2]; exact h5) (fun w f g x => ?_)
  rw [e2] at x
  refine h w (fin.tr ⟨fun c hc => f c (fun q => by subst q; exact absurd hc (by decide)), ⟨g 6 (by decide), g 7 (by decide), g 10 (by decide), g 15 (by decide)⟩, ?_⟩) ((f 129 (by decide)).trans e2) ((f 134 (by decide)).trans e3) x
  rw [f 1 (by decide)]; exact ⟨rfl, rfl⟩
theorem op_leaves : zAsk 124 269 [] := by
  intro u n hC
  obtain ⟨p0, hp, h4⟩ := hC.1.2.2.2.2.1
  obtain ⟨K, hK, h5⟩ := hC.1.2.2.2.2.2.1
  refine tX11_leaves ?_
  refine s_driveNow hC hp hK h4 h5 (fun w hS hc hh => ⟨rfl, hS, ?_⟩)
  have hC2 : zCore w n := hC.congr hS.1
  have e9 : w 129 = u 129 := hS.1 129 (by decide)
  refine tX12_leaves (fun m1 e1 => ?_)
  have e2 : m1 129 = w 129 := by rw [e1]; exact zUp_k _ _ (by decide)
  refine m_rides (n := n) (K := K) (p0 := p0) hC2 e1 (by rw [e2, e9]; exact h4) (by omega) hK (by rw [e9]; exact h5) (fun w2 hS2 k1 k2 x => ⟨rfl, ?_, hS2⟩)
  rw [hc, x.2.2.2.1, e9]
theorem op_passed : zAsk 125 270 [] := by
  intro u n hC
  obtain ⟨p0, hp, h4⟩ := hC.1.2.2.2.2.1
  obtain ⟨K, hK, h5⟩ := hC.1.2.2.2.2.2.1
  refine tX11_passed ?_
  refine s_driveNow hC hp hK h4 h5 (fun w hS hc hh => ⟨rfl, hS, ?_⟩)
  have hC2 : zCore w n := hC.congr hS.1
  have e9 : w 129 = u 129 := hS.1 129 (by decide)
  refine tX12_passed (fun m1 e1 => ?_)
  have e2 : m1 129 = w 129 := by rw [e1]; exact zUp_k _ _ (by decide)
  refine m_rides (n := n) (K := K) (p0 := p0) hC2 e1 (by rw [e2, e9]; exact h4) (by omega) hK (by rw [e9]; exact h5) (fun w2 hS2 k1 k2 x => ⟨rfl, ?_, hS2⟩)
  have n1 : w 4 3 = u 129 0 := hC2.2.2.1.1.1.trans (by rw [e9])
  rw [hc, x.2.2.2.1, e9, k1, n1, e9]
theorem op_home : zAsk 126 271 [] := by
  intro u n hC
  obtain ⟨p0, hp, h4⟩ := hC.1.2.2.2.2.1
  obtain ⟨K, hK, h5⟩ := hC.1.2.2.2.2.2.1
  refine tX11_home ?_
  refine s_driveNow hC hp hK h4 h5 (fun w hS hc hh => ⟨rfl, hS, ?_⟩)
  have hC2 : zCore w n := hC.congr hS.1
  have e9 : w 129 = u 129 := hS.1 129 (by decide)
  refine tX12_home (fun m1 e1 => ?_)
  have e2 : m1 129 = w 129 := by rw [e1]; exact zUp_k _ _ (by decide)
  refine m_rides (n := n) (K := K) (p0 := p0) hC2 e1 (by rw [e2, e9]; exact h4) (by omega) hK (by rw [e9]; exact h5) (fun w2 hS2 k1 k2 x => ⟨rfl, ?_⟩)
  rw [e9] at x
  obtain ⟨r, hr⟩ : ∃ r, r = zRdF (u 129) K p0 n := ⟨_, rfl⟩
  have ok : r.c < 12 := by rw [hr]; exact (zRide_ok (fun s => cnN_lt _ s) n).1
  rw [← hr] at x hh
  have b0 : (12 * nI r.c) + 0 = nI (12 * r.c) := by rw [nI_lit, nI_mul]; exact Int32.add_zero _
  have f0 : w2 134 (12 * r.c) = nI (zFar (u 129) r.c 0) := by
    rw [k2, hS.1 134 (by decide)]; exact hC.2.1 r.c 0 ok (by decide)
  rw [x.1, b0, nI_clamp (by omega), f0, x.2.1, hh]
  exact ⟨vp_in_nI (by omega) (by decide), rfl, hS2⟩
