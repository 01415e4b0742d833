/-- a SUBURB of the class at k is the row's, THE LOG aside -/
def zSb (u : zM) (k : Nat) (W : Nat → Int32) : Prop := zDyV u (k + 1) W ∧ zSt u (k + 6) W ∧ lwRel u (k + 9) W
theorem zSt.row {u : zM} {k : Nat} {W V : Nat → Int32} (h : ∀ i, 11 ≤ i → i < 155 → V i = W i) (hS : zSt u k W) : zSt u k V := by
  have e : rdN V = rdN W := by
    funext a b
    unfold rdN
    by_cases q : a < 12 ∧ b < 12
    · rw [if_pos q, if_pos q, h _ (by omega) (by omega)]
    · rw [if_neg q, if_neg q]
  refine ⟨fun a b ha hb => ?_, fun a b ha hb => ?_⟩
  · rw [h _ (by omega) (by omega)]; exact hS.1 a b ha hb
  · rw [e]; exact hS.2 a b ha hb
theorem zSt.congr {u w : zM} {k : Nat} {W : Nat → Int32} (h1 : w (k + 1) = u (k + 1)) (h2 : w (k + 2) = u (k + 2)) (hS : zSt u k W) : zSt w k W := by
  unfold zSt
  rw [h1, h2]
  exact hS
theorem zSb.congr {u w : zM} {k : Nat} {W : Nat → Int32} (h1 : ∀ c, k + 1 ≤ c → c ≤ k + 3 → w c = u c) (h2 : ∀ c, k + 7 ≤ c → c ≤ k + 8 → w c = u c) (h3 : w (k + 9) 6 = u (k + 9) 6) (h4 : ∀ c, k + 10 ≤ c → c ≤ k + 14 → w c = u c) (h : zSb u k W) : zSb w k W :=
  ⟨h.1.congr (fun c a b => h1 c a (by omega)), h.2.1.congr (h2 _ (by omega) (by omega)) (h2 _ (by omega) (by omega)), h.2.2.congr h3 (fun c a b => h4 c (by omega) (by omega))⟩
theorem zSb.fx {u : zM} {k : Nat} {W V : Nat → Int32} (hF : zFx W V) (hD : zDyV u (k + 1) V) (h : zSb u k W) : zSb u k V :=
  ⟨hD, h.2.1.row (fun i a b => hF.1 i (by omega) (by omega) (by omega) (by omega)), h.2.2.row (hF.1 2 (by decide) (by decide) (by decide) (by decide)) hF.2.1⟩
/-- what a suburb's own morning may change -/
def zFq (k : Nat) (u w : zM) : Prop := (∀ c, c ≠ k + 1 → c ≠ k + 2 → c ≠ k + 9 → c ≠ k + 15 → c ≠ k + 16 → c ≠ k + 17 → c ≠ k + 18 → w c = u c) ∧ ∀ j, j ≠ 8 → w (k + 9) j = u (k + 9) j
theorem zFq.rf (k : Nat) (u : zM) : zFq k u u := ⟨fun _ _ _ _ _ _ _ _ => rfl, fun _ _ => rfl⟩
theorem zFq.tr {k : Nat} {u v w : zM} (h1 : zFq k u v) (h2 : zFq k v w) : zFq k u w := ⟨fun c a1 a2 a3 a4 a5 a6 a7 => (h2.1 c a1 a2 a3 a4 a5 a6 a7).trans (h1.1 c a1 a2 a3 a4 a5 a6 a7), fun j hj => (h2.2 j hj).trans (h1.2 j hj)⟩
theorem zFq.of {k : Nat} {u w : zM} (c0 : Nat) (h : c0 = k + 1 ∨ c0 = k + 2 ∨ c0 = k + 15 ∨ c0 = k + 16 ∨ c0 = k + 17 ∨ c0 = k + 18) (f : ∀ c, c ≠ c0 → w c = u c) : zFq k u w := ⟨fun c _ _ _ _ _ _ _ => f c (by omega), fun j _ => by rw [f (k + 9) (by omega)]⟩
theorem zFq.ck {k : Nat} {u w : zM} (f : ∀ c, c ≠ k + 16 → c ≠ k + 16 + 1 → c ≠ k + 16 + 2 → w c = u c) : zFq k u w := ⟨fun c _ _ _ _ _ _ _ => f c (by omega) (by omega) (by omega), fun j _ => by rw [f (k + 9) (by omega) (by omega) (by omega)]⟩
theorem zFq.lw {k : Nat} {u w : zM} (f : ∀ c, c ≠ k + 9 → c ≠ k + 9 + 6 → w c = u c) (g : ∀ j, j ≠ 8 → w (k + 9) j = u (k + 9) j) : zFq k u w := ⟨fun c _ _ _ _ _ _ _ => f c (by omega) (by omega), g⟩
theorem zSb.dy {u w : zM} {k : Nat} {W V : Nat → Int32} (f : ∀ c, c ≠ k + 1 + 1 → w c = u c) (hF : zFx W V) (hD : zDyV w (k + 1) V) (h : zSb u k W) : zSb w k V :=
  ⟨hD, (h.2.1.congr (f _ (by omega)) (f _ (by omega))).row (fun i a b => hF.1 i (by omega) (by omega) (by omega) (by omega)), (h.2.2.congr (by rw [f _ (by omega)]) (fun c a b => f c (by omega))).row (hF.1 2 (by decide) (by decide) (by decide) (by decide)) hF.2.1⟩
theorem zRide_lf {F : Nat → Nat → Nat} {K p0 : Nat} {cn : Nat → Nat} {no : Nat → Bool} {st : Nat → Nat} (s : Nat) : ∀ i, ∃ b, b ≤ 2 ∧ (zRide F K cn no st p0 i).lf s = nI b
  | 0 => ⟨0, by omega, rfl⟩
  | i + 1 => by
    obtain ⟨b, hb, e⟩ := zRide_lf (F := F) (K := K) (p0 := p0) (cn := cn) (no := no) (st := st) s i
    by_cases q : zGoes F cn (zRide F K cn no st p0 i) (st i)
    · rw [zRide_yes q]
      by_cases y : s = st i
      · subst y
        refine ⟨zBt K (zRide F K cn no st p0 i).t (no (st i)), ?_, upd_at _ _ _⟩
        unfold zBt
        exact Nat.le_trans (Nat.min_le_right _ _) (by split <;> omega)
      · exact ⟨b, hb, (upd_ne _ _ y).trans e⟩
    · rw [zRide_no q]; exact ⟨b, hb, e⟩
theorem pRide_is {W : Nat → Int32} {n : Nat} (hR : zRg W n) (i : Nat) : ∃ K p0, K ≤ 99 ∧ p0 ≤ 200 ∧ W 5 = nI K ∧ W 4 = nI p0 ∧ pRide W i = zRide (zFar W) K (cnN W) (zNo W) (stN W) p0 i ∧ zRdG W K p0 i = pRide W i := by
  obtain ⟨K, hK, h5⟩ := hR.2.2.2.2.2.1
  obtain ⟨p0, hp, h4⟩ := hR.2.2.2.2.1
  have e : pRide W i = zRide (zFar W) K (cnN W) (zNo W) (stN W) p0 i := by
    unfold pRide zRdF
    rw [h5, h4, nI_clamp (by omega), nI_clamp (by omega)]
  exact ⟨K, p0, hK, hp, h5, h4, e, by rw [e]; exact zRide_min (zFar_99 hR) (fun s => cnN_lt W s) hp i⟩
theorem s_driveS {d n k : Nat} {W : Nat → Int32} {u : zM} {Q : Option Value → zM → Prop} (hk : zShapes[k]? = some (.inl 6)) (hR : zRg W n) (h1 : zDyV u (k + 1) W) (h2 : zSt u (k + 6) W)
    (h : ∀ w : zM, (∀ c, c ≠ k + 16 → c ≠ k + 16 + 1 → c ≠ k + 16 + 2 → w c = u c) → zRX w (k + 16) (pRide W n) → zRY w (k + 16) (pRide W n) → Q none w) : zCall (d + 4) false 62 [.ref k] u Q := by
  obtain ⟨K, p0, hK, hp, h5, h4, e1, e2⟩ := pRide_is hR n
  refine tX6_drive hk ?_
  have r : u (k + 1) 5 = nI p0 := h1.1.2.2.1.trans h4
  rw [r]
  refine s_driveV (n := n) (K := K) (p0 := p0) (W := W) (zs6_16 hk) (zs6_1 hk) (zs6_6 hk) (zs0_1 (zs6_16 hk)) ⟨Or.inl (by omega), Or.inl (by omega)⟩ hR h1 h2 rfl (by omega) hK h5 (fun w a b c _ => ⟨rfl, ?_⟩)
  rw [e2] at b c
  exact h w a b c
theorem pCome_ok {W : Nat → Int32} {n : Nat} (hR : zRg W n) : ∀ i, i ≤ n → zStp W (pAll (pCome (pRide W n)) W i) := by
  have h8 := hR.1.1
  intro i
  induction i with
  | zero => exact fun _ => zStp.rf hR.vs
  | succ i ih =>
    intro hi
    have h := ih (by omega)
    refine h.tr ?_
    have h6 : ∃ p, p ≤ 20 ∧ pAll (pCome (pRide W n)) W i 6 = nI p := by
      rw [h.1.1 6 (by decide) (by decide) (by decide) (by decide)]; exact hR.2.2.2.2.2.2.1
    show zStp _ (pCome _ (pAll (pCome (pRide W n)) W i) i)
    generalize pAll (pCome (pRide W n)) W i = V at h h6 ⊢
    unfold pCome
    split
    · exact pRecv_ok (by omega) h.2.1 h6
    · exact zStp.rf h.2.1
theorem s_deliver {d n k : Nat} {W : Nat → Int32} {u : zM} {Q : Option Value → zM → Prop} (hk : zShapes[k]? = some (.inl 6)) (hR : zRg W n) (hS : zSb u k W)
    (h : ∀ w : zM, zFq k u w → (∀ c, c = k + 4 ∨ c = k + 5 → w c = u c) → zSb w k (pDel W n) → zRX w (k + 16) (pRide W n) → zRY w (k + 16) (pRide W n) → Q (some (.int (nI (pRide W n).t))) w) : zCall (d + 5) false 63 [.ref k] u Q := by
  have h8 := hR.1.1
  obtain ⟨K, p0, hK, hp, h5, h4, e1, e2⟩ := pRide_is hR n
  refine tX6_deliver hk ?_
  refine s_driveS hk hR hS.1 hS.2.1 (fun w1 f1 x1 y1 => ⟨rfl, ?_⟩)
  have S1 : zSb w1 k W := hS.congr (fun c a b => f1 c (by omega) (by omega) (by omega)) (fun c a b => f1 c (by omega) (by omega) (by omega)) (by rw [f1 _ (by omega) (by omega) (by omega)]) (fun c a b => f1 c (by omega) (by omega) (by omega))
  refine zFor (σ := zM) (Pr := fun i w => zRun (d + 4) false zcX6_deliver 1 Q 6 [(0, .ref k), (1, .int (nI i))] [] w)
    (fun i w => (∀ c, c ≠ k + 2 → w c = w1 c) ∧ zSb w k (pAll (pCome (pRide W n)) W i)) n (fun w hw => ?_) (fun i w hi hw ih => ?_) w1 ⟨fun _ _ => rfl, S1⟩
  · obtain ⟨g1, g2⟩ := hw
    have x2 : zRX w (k + 16) (pRide W n) := by
      unfold zRX
      rw [g1 _ (by omega), g1 _ (by omega)]; exact x1
    have y2 : zRY w (k + 16) (pRide W n) := by
      unfold zRY
      rw [g1 _ (by omega)]; exact y1
    refine tX6_deliver_6 hk ⟨fun _ => ?_, fun q => absurd ?_ q⟩
    · rw [x2.2.2.1]
      exact h w ((zFq.ck f1).tr (zFq.of (k + 2) (by omega) g1)) (fun c hc => by rw [g1 c (by omega)]; exact f1 c (by omega) (by omega) (by omega)) g2 x2 y2
    · have := (pCome_ok hR n (Nat.le_refl _)).rg hR
      rw [g2.1.1.1, this.1.2]; exact Int32.le_refl _
  · obtain ⟨g1, g2⟩ := hw
    have Ri := (pCome_ok hR i (by omega)).rg hR
    have c2 : w (k + 16) 2 = (pRide W n).came := by rw [g1 _ (by omega)]; exact x1.1
    have l2 : w (k + 16 + 1) i = (pRide W n).lf i := by rw [g1 _ (by omega)]; exact x1.2.2.2 i (by omega)
    have st : pAll (pCome (pRide W n)) W (i + 1) = pCome (pRide W n) (pAll (pCome (pRide W n)) W i) i := rfl
    obtain ⟨b, hb, eb⟩ := zRide_lf (F := zFar W) (K := K) (p0 := p0) (cn := cnN W) (no := zNo W) (st := stN W) i n
    rw [← e1] at eb
    refine tX6_deliver_6 hk ?_
    rw [g2.1.1.1, Ri.1.2, nI_clamp (n := i) (by omega), c2, l2, tb_sh0 _ (by omega), nI_1 i]
    refine br_f (by rw [nI_leI (by omega) (by omega)]; omega) ⟨fun q => ?_, fun q => ⟨vp_in_nI (by omega) (by decide), ?_⟩⟩
    · refine ih w ⟨g1, ?_⟩
      rw [st]
      unfold pCome
      rw [if_neg (by rw [q]; decide)]
      exact g2
    · have q2 : tb (pRide W n).came i = true := by simpa using q
      refine s_receive (W := pAll (pCome (pRide W n)) W i) (b := b) (zs6_1 hk) rfl eb (by omega) (by omega) g2.1 (fun w2 a1 a2 => ⟨rfl, ?_⟩)
      refine ih w2 ⟨fun c hc => (a1 c (by omega)).trans (g1 c hc), ?_⟩
      rw [st]
      have e3 : pCome (pRide W n) (pAll (pCome (pRide W n)) W i) i = pRecv (pAll (pCome (pRide W n)) W i) i b := by
        unfold pCome
        rw [if_pos q2, eb, nI_clamp (by omega)]
      rw [e3]
      exact g2.dy a1 (pRecv_ok (by omega) Ri.vs Ri.2.2.2.2.2.2.1).1 a2
