/-- the STEPS, numbers and THE ROUND of the class at k are the row's, THE LOG aside -/
def zDyV (u : zM) (k : Nat) (W : Nat → Int32) : Prop := (u k 3 = W 0 ∧ u k 4 = W 1 ∧ u k 5 = W 4 ∧ u k 6 = W 5 ∧ u k 7 = W 6 ∧ u k 8 = W 7 ∧ u k 9 = W 8 ∧ u k 10 = W 3 ∧ u k 11 = W 10) ∧ (∀ s w, s < 8 → w < 9 → u (k + 1) (w * 8 + s) = W (163 + 9 * s + w)) ∧ ∀ p, p < 8 → u (k + 2) p = W (155 + p)
theorem zDyV.of {u : zM} {k : Nat} {W : Nat → Int32} (h : zDy u k W) : zDyV u k W := ⟨h.1, h.2.1, h.2.2.1⟩
theorem zDyV.dy {u : zM} {k : Nat} {W : Nat → Int32} (h : zDyV u k W) (h2 : zLg u (k + 3) W) : zDy u k W := ⟨h.1, h.2.1, h.2.2, h2⟩
theorem zDyV.congr {u w : zM} {k : Nat} {W : Nat → Int32} (h : ∀ c, k ≤ c → c ≤ k + 2 → w c = u c) (hD : zDyV u k W) : zDyV w k W := by
  unfold zDyV
  rw [h k (by omega) (by omega), h (k + 1) (by omega) (by omega), h (k + 2) (by omega) (by omega)]
  exact hD
theorem zDyV.row {u : zM} {k : Nat} {W V : Nat → Int32} (h : ∀ i, i < 235 → i ≠ 2 → i ≠ 9 → ¬ (11 ≤ i ∧ i < 155) → V i = W i) (hD : zDyV u k W) : zDyV u k V := by
  obtain ⟨⟨a1, a2, a3, a4, a5, a6, a7, a8, a9⟩, b, c⟩ := hD
  refine ⟨⟨?_, ?_, ?_, ?_, ?_, ?_, ?_, ?_, ?_⟩, fun s w hs hw => ?_, fun p hp => ?_⟩
  · rw [h 0 (by omega) (by omega) (by omega) (by omega)]; exact a1
  · rw [h 1 (by omega) (by omega) (by omega) (by omega)]; exact a2
  · rw [h 4 (by omega) (by omega) (by omega) (by omega)]; exact a3
  · rw [h 5 (by omega) (by omega) (by omega) (by omega)]; exact a4
  · rw [h 6 (by omega) (by omega) (by omega) (by omega)]; exact a5
  · rw [h 7 (by omega) (by omega) (by omega) (by omega)]; exact a6
  · rw [h 8 (by omega) (by omega) (by omega) (by omega)]; exact a7
  · rw [h 3 (by omega) (by omega) (by omega) (by omega)]; exact a8
  · rw [h 10 (by omega) (by omega) (by omega) (by omega)]; exact a9
  · rw [h (163 + 9 * s + w) (by omega) (by omega) (by omega) (by omega)]; exact b s w hs hw
  · rw [h (155 + p) (by omega) (by omega) (by omega) (by omega)]; exact c p hp
theorem zDyV.set {u : zM} {k s w : Nat} {W : Nat → Int32} (v : Int32) (hs : s < 8) (hw : w < 9) (hD : zDyV u k W) : zDyV (zUp u (k + 1) (w * 8 + s) v) k (upd W (163 + 9 * s + w) v) := by
  obtain ⟨⟨a1, a2, a3, a4, a5, a6, a7, a8, a9⟩, b, c⟩ := hD
  have e : ∀ j, zUp u (k + 1) (w * 8 + s) v k j = u k j := fun j => zUp_kj _ _ (by omega)
  have e2 : ∀ j, zUp u (k + 1) (w * 8 + s) v (k + 2) j = u (k + 2) j := fun j => zUp_kj _ _ (by omega)
  refine ⟨⟨?_, ?_, ?_, ?_, ?_, ?_, ?_, ?_, ?_⟩, fun t x ht hx => ?_, fun p hp => ?_⟩
  all_goals first | rw [e, upd_ne _ _ (by omega)]; assumption | skip
  · by_cases q : x * 8 + t = w * 8 + s
    · rw [q, zUp_at, show 163 + 9 * t + x = 163 + 9 * s + w by omega, upd_at]
    · rw [zUp_j _ _ q, upd_ne _ _ (by omega)]; exact b t x ht hx
  · rw [e2, upd_ne _ _ (by omega)]; exact c p hp
/-- where the class's cart came, the rests are a ride's -/
def zRY (u : zM) (k0 : Nat) (r : zR) : Prop := ∀ s, s < 8 → tb r.came s = true → u (k0 + 2) s = r.rs s
theorem s_driveV {d n K p0 k0 k1 k2 : Nat} {a3 : Int32} {W : Nat → Int32} {u : zM} {Q : Option Value → zM → Prop} (hk0 : zShapes[k0]? = some (.inl 0)) (hk1 : zShapes[k1]? = some (.inl 1)) (hk2 : zShapes[k2]? = some (.inl 5)) (hf0 : zShapes[k0 + 1]? = some (.inr (0, 8))) (hd : (k1 + 2 < k0 ∨ k0 + 2 < k1) ∧ (k2 + 2 < k0 ∨ k0 + 2 < k2)) (hR : zRg W n) (hD : zDyV u k1 W) (hS : zSt u k2 W) (e3 : a3 = nI p0) (hp : p0 ≤ 100000) (hK : K ≤ 99) (hK5 : W 5 = nI K)
    (h : ∀ w : zM, (∀ k, k ≠ k0 → k ≠ k0 + 1 → k ≠ k0 + 2 → w k = u k) → zRX w k0 (zRdG W K p0 n) → zRY w k0 (zRdG W K p0 n) → w k0 5 = nI (zRdG W K p0 n).p - nI (min 1000 (zFar W (zRdG W K p0 n).c 0)) → Q none w) : zCall (d + 3) false 3 [.ref k0, .ref k1, .ref k2, .int a3] u Q := by
  subst e3
  have h8 := hR.1.1
  have hn3 : u k1 3 = nI n := hD.1.1.trans hR.1.2
  have h6 : u k1 6 = nI K := hD.1.2.2.2.1.trans hK5
  have h10 : u k1 10 = W 3 := hD.1.2.2.2.2.2.2.2.1
  refine tX0_drive hk0 hk1 hk2 ?_
  refine s_fill hf0 (by decide) (fun w1 g1 g2 => ⟨rfl, fun m3 i3 m4 i4 => ?_⟩)
  obtain ⟨w0, e0⟩ : ∃ w0, w0 = zUp m4 k0 4 0 := ⟨_, rfl⟩
  rw [← e0]
  have fr0 : ∀ k, k ≠ k0 → k ≠ k0 + 1 → k ≠ k0 + 2 → w0 k = u k := fun k a b c => by rw [e0, zUp_k _ _ a, i4, zUp_k _ _ a, i3, zUp_k _ _ a]; exact g1 k b
  have rx0 : zRX w0 k0 (zRdG W K p0 0) := by
    refine ⟨?_, ?_, ?_, fun s hs => ?_⟩
    · rw [e0, zUp_j _ _ (by decide), i4, zUp_j _ _ (by decide), i3, zUp_at]; rfl
    · rw [e0, zUp_j _ _ (by decide), i4, zUp_at]; rfl
    · rw [e0, zUp_at]; rfl
    · rw [e0, zUp_kj _ _ (by omega), i4, zUp_kj _ _ (by omega), i3, zUp_kj _ _ (by omega)]; exact g2 s hs
  have ry0 : zRY w0 k0 (zRdG W K p0 0) := fun s _ q => absurd ((tb_0 s).symm.trans q) (by decide)
  refine zFor (σ := zM) (Pr := fun i w => zRun (d + 2) false zcX0_drive 0 Q 32 [(0, .ref k0), (1, .ref k1), (2, .ref k2), (3, .int (nI p0)), (4, .int (nI (zRdG W K p0 i).c)), (5, .int (nI (zRdG W K p0 i).p)), (6, .int (nI i))] [] w) (fun i w => (∀ k, k ≠ k0 → k ≠ k0 + 1 → k ≠ k0 + 2 → w k = u k) ∧ zRX w k0 (zRdG W K p0 i) ∧ zRY w k0 (zRdG W K p0 i)) n (fun w hw => ?_) (fun i w hi hw ih => ?_) w0 ⟨fr0, rx0, ry0⟩
  · obtain ⟨r, hr⟩ : ∃ r, r = zRdG W K p0 n := ⟨_, rfl⟩
    have ok : r.c < 12 := by rw [hr]; exact (zRide_ok (fun s => cnN_lt W s) n).1
    rw [← hr] at hw h ⊢
    refine tX0_drive_32 hk0 hk1 hk2 ⟨fun _ => ⟨vp_in_nI ok (by decide), ?_⟩, fun q => absurd ?_ q⟩
    · have b0 : (nI r.c * 12) + 0 = nI (r.c * 12) := by rw [nI_lit, nI_mul]; exact Int32.add_zero _
      have f0 : w (k2 + 2) (r.c * 12) = nI (min 1000 (zFar W r.c 0)) := by
        rw [hw.1 (k2 + 2) (by omega) (by omega) (by omega)]; exact hS.2 r.c 0 ok (by decide)
      rw [b0, nI_clamp (by omega), f0]
      refine h _ (fun k a b c => (zUp_k _ _ a).trans (hw.1 k a b c)) ⟨?_, ?_, ?_, fun s hs => ?_⟩ ?_ (zUp_at _ _ _ _)
      rotate_right
      · intro s hs q; rw [zUp_kj _ _ (by omega)]; exact hw.2.2 s hs q
      · rw [zUp_j _ _ (by decide)]; exact hw.2.1.1
      · rw [zUp_j _ _ (by decide)]; exact hw.2.1.2.1
      · rw [zUp_j _ _ (by decide)]; exact hw.2.1.2.2.1
      · rw [zUp_kj _ _ (by omega)]; exact hw.2.1.2.2.2 s hs
    · rw [hw.1 k1 (by omega) (by omega) (by omega), hn3]; exact Int32.le_refl _
  · have st : zRdG W K p0 (i + 1) = zGoTo (fun a b => min 1000 (zFar W a b)) K (cnN W) (zNo W) (zRdG W K p0 i) (stN W i) := rfl
    obtain ⟨r, hr⟩ : ∃ r, r = zRdG W K p0 i := ⟨_, rfl⟩
    obtain ⟨s, es⟩ : ∃ s, s = stN W i := ⟨_, rfl⟩
    have ok : r.c < 12 ∧ r.p ≤ p0 ∧ r.t ≤ K := by rw [hr]; exact zRide_ok (fun s => cnN_lt W s) i
    rw [← hr, ← es] at st
    rw [← hr] at hw ⊢
    obtain ⟨s1, s2⟩ := stN_eq hR hi
    rw [← es] at s1 s2
    have hs : s < 8 := by omega
    have hcl := cnN_lt W s
    have x1 : w k1 = u k1 := hw.1 k1 (by omega) (by omega) (by omega)
    have x2 : w (k1 + 1) = u (k1 + 1) := hw.1 _ (by omega) (by omega) (by omega)
    have x3 : w (k1 + 2) = u (k1 + 2) := hw.1 _ (by omega) (by omega) (by omega)
    have x4 : w (k2 + 2) = u (k2 + 2) := hw.1 _ (by omega) (by omega) (by omega)
    have hst : u (k1 + 2) i = nI s := (hD.2.2 i (by omega)).trans s1
    have a0 : ((0 : Int32) * 8) + nI s = nI s := by rw [Int32.zero_mul, Int32.zero_add]
    have a7 : ((7 : Int32) * 8) + nI s = nI (56 + s) := by rw [show ((7 : Int32) * 8) = nI 56 from rfl, nI_add]
    have hcn : u (k1 + 1) s = nI (cnN W s) := by
      have := hD.2.1 s 0 hs (by decide)
      rw [Nat.zero_mul, Nat.zero_add, Nat.add_zero] at this
      exact this.trans (cnN_eq hR hs)
    have h7 : u (k1 + 1) (56 + s) = W (163 + 9 * s + 7) := hD.2.1 s 7 hs (by decide)
    have b1 : (nI r.c * 12) + nI (cnN W s) = nI (r.c * 12 + cnN W s) := by rw [nI_lit, nI_mul, nI_add]
    have b2 : (nI (cnN W s) * 12) + 0 = nI (cnN W s * 12) := by rw [nI_lit, nI_mul]; exact Int32.add_zero _
    have f1 : u (k2 + 2) (r.c * 12 + cnN W s) = nI (min 1000 (zFar W r.c (cnN W s))) := hS.2 _ _ ok.1 hcl
    have f2 : u (k2 + 2) (cnN W s * 12) = nI (min 1000 (zFar W (cnN W s) 0)) := hS.2 _ 0 hcl (by decide)
    have e4 : nI K - nI r.t = nI (K - r.t) := nI_sub ok.2.2
    have t1 : (if (1 : Int32) < nI (K - r.t) then 1 else nI (K - r.t)) = nI (zBt K r.t false) := zBt_if hK 1 rfl
    have t2 : (if (2 : Int32) < nI (K - r.t) then 2 else nI (K - r.t)) = nI (zBt K r.t true) := zBt_if hK 2 rfl
    refine tX0_drive_32 hk0 hk1 hk2 ?_
    rw [x1, x2, x3, x4, hn3, nI_clamp (n := i) (by omega), hst, a0, nI_clamp (n := s) (by omega), hcn, b1, nI_clamp (n := r.c * 12 + cnN W s) (by omega), f1, b2, nI_clamp (n := cnN W s * 12) (by omega), f2, nI_add, a7, nI_clamp (n := 56 + s) (by omega), h7, h10, h6, hw.2.1.2.2.1, e4, t1, t2, nI_1 i]
    have go : min 1000 (zFar W r.c (cnN W s)) + min 1000 (zFar W (cnN W s) 0) ≤ r.p → ∀ b, zNo W s = b → zCV (d + 2) 4 [.ref k0, .int (nI s), .int (nI (zBt K r.t b)), .int (nI (r.p - min 1000 (zFar W r.c (cnN W s))))] w fun w3 => zRun (d + 2) false zcX0_drive 0 Q 32 [(0, .ref k0), (1, .ref k1), (2, .ref k2), (3, .int (nI p0)), (4, .int (nI (cnN W s))), (5, .int (nI (r.p - min 1000 (zFar W r.c (cnN W s))))), (6, .int (nI (i + 1)))] [] w3 := by
      intro q b hb
      have g : zRdG W K p0 (i + 1) = (cnN W s, r.p - min 1000 (zFar W r.c (cnN W s)), r.t + zBt K r.t b, r.came ||| zBit s, r.gave ||| (if 0 < zBt K r.t b then zBit s else 0), upd r.lf s (nI (zBt K r.t b)), upd r.rs s (nI (r.p - min 1000 (zFar W r.c (cnN W s))))) := by
        rw [st, ← hb]; exact if_pos q
      have hbt : zBt K r.t b ≤ K - r.t := Nat.min_le_left _ _
      refine s_leave hk0 rfl rfl hs (by omega) (fun w2 k1 k2 k3 k4 k5 k6 => ⟨rfl, ?_⟩)
      have fin := ih w2 ⟨fun k a b c => (k1 k a b c).trans (hw.1 k a b c), by
        rw [g]
        refine ⟨⟨?_, ?_, ?_, fun x hx => ?_⟩, fun x hx z => ?_⟩
        · rw [k2, hw.2.1.1]; rfl
        · rw [k3, hw.2.1.2.1]; rfl
        · rw [k4, hw.2.1.2.2.1, nI_add]; rfl
        · rw [k5]
          show upd (w (k0 + 1)) s (nI (zBt K r.t b)) x = upd r.lf s (nI (zBt K r.t b)) x
          by_cases z : x = s
          · rw [z, upd_at, upd_at]
          · rw [upd_ne _ _ z, upd_ne _ _ z]; exact hw.2.1.2.2.2 x hx
        · rw [k6]
          show upd (w (k0 + 2)) s _ x = upd r.rs s _ x
          by_cases y : x = s
          · rw [y, upd_at, upd_at]
          · rw [upd_ne _ _ y, upd_ne _ _ y]
            refine hw.2.2 x hx ?_
            have z2 : tb (r.came ||| zBit s) x = true := z
            rw [tb_or, tb_bit s hs x (by omega), decide_eq_false y, Bool.or_false] at z2
            exact z2⟩
      rw [g] at fin
      exact fin
    have vs : vp_in (nI s) 8 := vp_in_nI hs (by decide)
    have vc : vp_in (nI (cnN W s)) 12 := vp_in_nI hcl (by decide)
    refine ⟨fun q => absurd q (by rw [nI_leI (by omega) (by omega)]; omega), fun _ => ⟨vp_in_nI (by omega) (by decide), vs, vp_in_nI ok.1 (by decide), vc, vs, vc, fun q => ?_, fun q => ⟨vs, vs, fun z => ?_, fun z => ?_⟩⟩⟩
    · rw [nI_ltI (by omega) (by omega)] at q
      have g : zRdG W K p0 (i + 1) = r := by
        rw [st]; exact if_neg (by show ¬ min 1000 (zFar W r.c (cnN W s)) + min 1000 (zFar W (cnN W s) 0) ≤ r.p; omega)
      have fin := ih w ⟨hw.1, by rw [g]; exact hw.2⟩
      rw [g] at fin
      exact fin
    · rw [nI_ltI (by omega) (by omega)] at q
      rw [nI_sub (by omega)]
      exact go (by omega) false (by unfold zNo; simpa using z)
    · rw [nI_ltI (by omega) (by omega)] at q
      rw [nI_sub (by omega)]
      exact go (by omega) true (by unfold zNo; simpa using z)
