theorem zRg.row {W V : Nat → Int32} {n : Nat} (e : ∀ k, k < 475 → V k = W k) (h : zRg W n) : zRg V n := by
  obtain ⟨g0, g1, g2, g3, g4, g5, g6, g7, g8, g9, ga, gb, gc, gd, ge, gf⟩ := h
  refine ⟨by rw [e 0 (by decide)]; exact g0, by rw [e 1 (by decide)]; exact g1, by rw [e 2 (by decide)]; exact g2, by rw [e 3 (by decide)]; exact g3, by rw [e 4 (by decide)]; exact g4, by rw [e 5 (by decide)]; exact g5, by rw [e 6 (by decide)]; exact g6, by rw [e 7 (by decide)]; exact g7, by rw [e 8 (by decide)]; exact g8, fun a b ha hb => ?_, fun a b ha hb => ?_, fun a ha => ?_, fun p hp => ?_, fun p q hp hq => ?_, fun s w hs hw h7 => ?_, fun s hs => ?_⟩
  · rw [e _ (by omega)]; exact g9 a b ha hb
  · rw [e _ (by omega), e _ (by omega)]; exact ga a b ha hb
  · rw [e _ (by omega)]; exact gb a ha
  · rw [e _ (by omega)]; exact gc p hp
  · rw [e _ (by omega), e _ (by omega)]; exact gd p q hp hq
  · rw [e _ (by omega)]; exact ge s w hs hw h7
  · rw [e _ (by omega)]; exact gf s hs
theorem zLg.row {u : zM} {k : Nat} {W V : Nat → Int32} (e : ∀ k, k < 475 → V k = W k) (h : zLg u k W) : zLg u k V := by
  obtain ⟨L, N, hL, hN, g1, g2, g3, g4⟩ := h
  exact ⟨L, N, hL, hN, g1, g2, by rw [e 9 (by decide)]; exact g3, fun i c hi hc => by rw [e _ (by omega)]; exact g4 i c hi hc⟩
theorem zDy.row {u : zM} {k : Nat} {W V : Nat → Int32} (e : ∀ k, k < 475 → V k = W k) (h : zDy u k W) : zDy u k V :=
  ((zDyV.of h).row (fun i a _ _ _ => e i (by omega))).dy (h.2.2.2.row e)
theorem zBase.row {W R S : Nat → Int32} (e : ∀ k, k < 475 → S k = R k) (h : zBase W R) : zBase W S := ⟨fun k a b => (e k (by omega)).trans (h.1 k a b), (e 2 (by decide)).trans h.2.1, (e 0 (by decide)).trans h.2.2.1, fun s hs => (e _ (by omega)).trans (h.2.2.2 s hs)⟩
theorem zBase.tr {W V R : Nat → Int32} (h1 : zBase W V) (h2 : zBase V R) : zBase W R := ⟨fun k a b => (h2.1 k a b).trans (h1.1 k a b), h2.2.1.trans h1.2.1, h2.2.2.1.trans h1.2.2.1, fun s hs => (h2.2.2.2 s hs).trans (h1.2.2.2 s hs)⟩
theorem zBase.rf (W : Nat → Int32) : zBase W W := ⟨fun _ _ _ => rfl, rfl, rfl, fun _ _ => rfl⟩
theorem zBase.sy {W V : Nat → Int32} (h : zBase W V) : zBase V W := ⟨fun k a b => (h.1 k a b).symm, h.2.1.symm, h.2.2.1.symm, fun s hs => (h.2.2.2 s hs).symm⟩
theorem zBase.rd {W V : Nat → Int32} (h : zBase W V) : rdN V = rdN W := by
  funext a b
  unfold rdN
  by_cases q : a < 12 ∧ b < 12
  · rw [if_pos q, if_pos q, h.1 _ (by omega) (by omega)]
  · rw [if_neg q, if_neg q]
theorem zBase.far {W V : Nat → Int32} (h : zBase W V) : zFar V = zFar W := by unfold zFar; rw [h.rd]
theorem zBase.cn {W V : Nat → Int32} (h : zBase W V) {s : Nat} (hs : s < 8) : cnN V s = cnN W s := by unfold cnN; rw [h.2.2.2 s hs]
theorem zFx.base {W V : Nat → Int32} (h : zFx W V) : zBase V W := ⟨fun k a b => (h.1 k (by omega) (by omega) (by omega) (by omega)).symm, (h.1 2 (by decide) (by decide) (by decide) (by decide)).symm, (h.1 0 (by decide) (by decide) (by decide) (by decide)).symm, fun s hs => (h.2.2 s hs).1.symm⟩
theorem trMin_cong {C : Nat} {p : Nat → Bool} {f g : Nat → Nat} : ∀ n, (∀ s, s < n → f s = g s) → trMin C p f n = trMin C p g n
  | 0, _ => rfl
  | n + 1, h => by
    unfold trMin
    rw [trMin_cong n (fun s hs => h s (by omega)), h n (by omega)]
theorem trG_cong {F : Nat → Nat → Nat} {cn cn2 : Nat → Nat} {C n : Nat} (h : ∀ s, s < n → cn2 s = cn s) : ∀ k set c, trG F cn2 C n k set c = trG F cn C n k set c
  | 0, _, _ => rfl
  | k + 1, set, c => by
    unfold trG
    split
    · rfl
    · exact trMin_cong n (fun s hs => by rw [h s hs, trG_cong h k])
theorem zTrT.base {u : zM} {n : Nat} {W V : Nat → Int32} (h8 : n ≤ 8) (hB : zBase W V) (h : zTrT u n W) : zTrT u n V := by
  intro set start h1 h2
  have e := h set start h1 h2
  have ce : (if start = 8 then 0 else cnN V start) = (if start = 8 then 0 else cnN W start) := by
    rcases h2 with h2 | h2
    · rw [if_neg (by omega), if_neg (by omega), hB.cn (by omega)]
    · rw [if_pos h2, if_pos h2]
  unfold trR at e ⊢
  rw [e, ce, hB.far, trG_cong (cn := cnN W) (cn2 := cnN V) (fun s hs => hB.cn (by omega))]
/-- the reference's rows of what was, behind an act -/
def zActs (u w : zM) (A : Nat) : Prop := ∀ j k, j < min (A + 1) 12 → k < 475 → w 133 (475 * j + k) = if j + 1 = min (A + 1) 12 then u 129 k else if A = 12 then u 133 (475 * (j + 1) + k) else u 133 (475 * j + k)
theorem m_remembers {d A : Nat} {u : zM} {Q : Option Value → zM → Prop} (h7 : u 128 7 = nI A) (hA : A ≤ 12)
    (h : ∀ w : zM, (∀ c, c ≠ 128 → c ≠ 133 → w c = u c) → (∀ j, j ≠ 7 → w 128 j = u 128 j) → w 128 7 = nI (min (A + 1) 12) → zActs u w A → Q none w) : zCall (d + 1) false 185 [.ref 128] u Q := by
  obtain ⟨R, eR⟩ : ∃ R, R = min (A + 1) 12 := ⟨_, rfl⟩
  rw [← eR] at h
  have hR : 1 ≤ R ∧ R ≤ 12 := by omega
  have second : ∀ v : zM, (∀ c, c ≠ 128 → c ≠ 133 → v c = u c) → (∀ j, j ≠ 7 → v 128 j = u 128 j) → v 128 7 = nI R → (∀ j k, j + 1 < R → k < 475 → v 133 (475 * j + k) = if A = 12 then u 133 (475 * (j + 1) + k) else u 133 (475 * j + k)) → zRun d false zcX12_remembers 0 Q 55 [(0, .ref 128), (1, .int 0)] [] v := by
    intro v f1 f2 f3 f4
    refine zFor (σ := zM) (Pr := fun i w => zRun d false zcX12_remembers 0 Q 55 [(0, .ref 128), (1, .int (nI i))] [] w) (fun i w => (∀ c, c ≠ 133 → w c = v c) ∧ (∀ x, x < 475 * (R - 1) → w 133 x = v 133 x) ∧ ∀ k, k < i → w 133 (475 * (R - 1) + k) = u 129 k) 475 (fun w hx => ?_) (fun i w hi hx ih => ?_) v ⟨fun _ _ => rfl, fun _ _ => rfl, fun k hk => absurd hk (Nat.not_lt_zero _)⟩
    · obtain ⟨g1, g2, g3⟩ := hx
      refine tX12_remembers_55 (br_t (Int32.le_refl _) (h w (fun c a b => (g1 c b).trans (f1 c a b)) (fun j hj => by rw [g1 128 (by decide)]; exact f2 j hj) (by rw [g1 128 (by decide)]; exact f3) (fun j k hj hk => ?_)))
      rw [← eR] at hj ⊢
      by_cases q : j + 1 = R
      · rw [if_pos q]
        have e : j = R - 1 := by omega
        rw [e]; exact g3 k hk
      · rw [if_neg q, g2 _ (by have : 475 * (j + 1) ≤ 475 * (R - 1) := Nat.mul_le_mul_left _ (by omega); omega)]
        exact f4 j k (by omega) hk
    · obtain ⟨g1, g2, g3⟩ := hx
      have e7 : (475 * ((w 128 7) - 1)) + nI i = nI (475 * (R - 1) + i) := by
        rw [g1 128 (by decide), f3, nI_lit, nI_lit, nI_sub (by show 1 ≤ R; omega), nI_mul, nI_add]
      have b1 : 475 * (R - 1) ≤ 475 * 11 := Nat.mul_le_mul_left _ (by omega)
      refine tX12_remembers_55 ?_
      rw [e7, nI_clamp (n := 475 * (R - 1) + i) (by omega), nI_clamp (n := i) (by omega), nI_1 i, g1 129 (by decide), f1 129 (by decide) (by decide)]
      refine br_f (by rw [nI_lit, nI_leI (by omega) (by omega)]; omega) ⟨vp_in_nI (by omega) (by decide), vp_in_nI (by omega) (by decide), ?_⟩
      refine ih _ ⟨fun c hc => (zUp_k _ _ hc).trans (g1 c hc), fun x hx => ?_, fun k hk => ?_⟩
      · rw [zUp_j _ _ (by omega)]; exact g2 x hx
      · by_cases q : k = i
        · rw [q, zUp_at]
        · rw [zUp_j _ _ (by omega)]; exact g3 k (by omega)
  refine tX12_remembers ⟨fun q => ?_, fun q => ?_⟩
  · have hA2 : A < 12 := by
      rcases Nat.lt_or_ge A 12 with z | z
      · exact z
      · exact absurd (by rw [h7, show A = 12 by omega]; rfl) q
    rw [h7, nI_1]
    refine second _ (fun c a b => zUp_k _ _ a) (fun j hj => zUp_j _ _ hj) (by rw [zUp_at]; congr 1; omega) (fun j k hj hk => ?_)
    rw [zUp_kj _ _ (by decide), if_neg (by omega)]
  · have hA2 : A = 12 := by rw [h7] at q; exact (nI_eq (a := A) (b := 12) (by omega) (by omega)).mp q
    subst hA2
    refine zFor (σ := zM) (Pr := fun i w => zRun d false zcX12_remembers 0 Q 11 [(0, .ref 128), (1, .int (nI i))] [] w) (fun i w => (∀ c, c ≠ 133 → w c = u c) ∧ ∀ x, w 133 x = if x < i then u 133 (x + 475) else u 133 x) 5225 (fun w hx => ?_) (fun i w hi hx ih => ?_) u ⟨fun _ _ => rfl, fun x => by rw [if_neg (Nat.not_lt_zero _)]⟩
    · obtain ⟨g1, g2⟩ := hx
      refine tX12_remembers_11 (br_t (Int32.le_refl _) (second w (fun c a b => g1 c b) (fun j hj => by rw [g1 128 (by decide)]) (by rw [g1 128 (by decide), h7, eR]; rfl) (fun j k hj hk => ?_)))
      rw [g2, if_pos (by omega), if_pos rfl]
      congr 1; omega
    · obtain ⟨g1, g2⟩ := hx
      have k4 : nI i + 475 = nI (i + 475) := by rw [nI_lit, nI_add]
      refine tX12_remembers_11 ?_
      rw [k4, nI_clamp (n := i + 475) (by omega), nI_clamp (n := i) (by omega), nI_1 i]
      refine br_f (by rw [nI_lit, nI_leI (by omega) (by omega)]; omega) ⟨vp_in_nI (by omega) (by decide), vp_in_nI (by omega) (by decide), ?_⟩
      refine ih _ ⟨fun c hc => (zUp_k _ _ hc).trans (g1 c hc), fun x => ?_⟩
      by_cases q : x = i
      · rw [q, zUp_at, g2, if_neg (by omega), if_pos (by omega)]
      · rw [zUp_j _ _ q, g2]
        by_cases q2 : x < i
        · rw [if_pos q2, if_pos (by omega)]
        · rw [if_neg q2, if_neg (by omega)]
/-- the class behind remembering, and behind what may be done then -/
def zActD (u w : zM) (A N : Nat) : Prop := (∀ c, c < 142 → c ≠ 0 → (c < 61 + 5 * N ∨ 65 + 5 * N < c) → (c < 4 ∨ 8 < c) → c ≠ 12 → (c < 18 ∨ 21 < c) → w c = u c) ∧ (∀ j, j ≠ 6 → j ≠ 7 → w 0 j = u 0 j) ∧ w 0 6 = nI ((N + 1) % 12) ∧ w 0 7 = nI (min (A + 1) 12) ∧ zDy w (61 + 5 * N) (u 129) ∧ ∀ j, j ≠ 8 → w 12 j = u 12 j
theorem zActD.ch {u v w : zM} {A N : Nat} (hN : N < 12) (h : zActD u v A N) (f : ∀ c, c < 142 → (c < 4 ∨ 8 < c) → c ≠ 12 → (c < 18 ∨ 21 < c) → w c = v c) (g : ∀ j, j ≠ 8 → w 12 j = v 12 j) : zActD u w A N := by
  obtain ⟨a1, a2, a3, a4, a5, a6⟩ := h
  refine ⟨fun c e x y z t r => (f c e z t r).trans (a1 c e x y z t r), fun j x y => by rw [f 0 (by decide) (by decide) (by decide) (by decide)]; exact a2 j x y, by rw [f 0 (by decide) (by decide) (by decide) (by decide)]; exact a3, by rw [f 0 (by decide) (by decide) (by decide) (by decide)]; exact a4, a5.congr (fun c x y => f c (by omega) (by omega) (by omega) (by omega)), fun j hj => (g j hj).trans (a6 j hj)⟩
theorem d_remember {d n A N : Nat} {u : zM} {Q : Option Value → zM → Prop} (hC : zCore u n) (hA : A ≤ 12) (hN : N < 12) (h7 : u 0 7 = nI A) (h6 : u 0 6 = nI N) (h : ∀ w : zM, zActD u w A N → (∀ c, 4 ≤ c → c ≤ 21 → w c = u c) → Q none w) : zCall (d + 3) false 171 [.ref 0] u Q := by
  refine t2X11_remember ?_
  rw [h6, nI_clamp (n := N) (by omega)]
  refine br_f (nI_pos (by omega)) (br_f (by rw [nI_lit, nI_leI (by omega) (by omega)]; omega) ⟨vp_in_nI hN (by decide), vp_in_nI hN (by decide), ?_⟩)
  have hs : zShapes[60 + 1 + 5 * N]? = some (.inl 1) := by
    have := zs_past (i := nI N) (vp_in_nI hN (by decide))
    rwa [nI_clamp (by omega)] at this
  refine s_copyDays hs rfl (by omega) (fun w f cp => ⟨rfl, fun m5 i5 => ?_⟩)
  have r6 : w 0 6 = nI N := by rw [f 0 (by omega)]; exact h6
  have e12 : (nI N + 1) - (nI N + 1) / 12 * 12 = nI ((N + 1) % 12) := by rw [nI_1, nI_lit, nI_rem (by omega) (by omega)]
  rw [r6, e12] at i5
  have r7 : m5 0 7 = nI A := by rw [i5, zUp_j _ _ (by decide), f 0 (by omega)]; exact h7
  have eA : (if nI A + 1 < 12 then nI A + 1 else 12) = nI (min (A + 1) 12) := i_cap (c := A) (k := 1) 12 (by omega) (by omega) (by omega)
  rw [r7, eA]
  have D : zDy w (60 + 1 + 5 * N) (u 129) := (cp.dy (zDyV.of hC.2.2.1)).dy (cp.lg hC.2.2.1.2.2.2)
  refine h _ ⟨fun c _ x y z t r => ?_, fun j x y => ?_, ?_, zUp_at _ _ _ _, ?_, fun j hj => ?_⟩ (fun c x y => ?_)
  · rw [zUp_k _ _ x, i5, zUp_k _ _ x]; exact f c (by omega)
  · rw [zUp_j _ _ y, i5, zUp_j _ _ x]; rw [f 0 (by omega)]
  · rw [zUp_j _ _ (by decide), i5, zUp_at]
  · exact D.congr (fun c x y => by rw [zUp_k _ _ (by omega), i5, zUp_k _ _ (by omega)])
  · rw [zUp_k _ _ (by decide), i5, zUp_k _ _ (by decide), f 12 (by omega)]
  · rw [zUp_k _ _ (by omega), i5, zUp_k _ _ (by omega), f c (by omega)]
/-- the reference behind an act -/
def zActM (u w z : zM) (A : Nat) : Prop := (∀ c, c ≠ 128 → c ≠ 129 → c ≠ 133 → c ≠ 137 → z c = w c) ∧ z 128 0 = 0 ∧ (∀ j, j ≠ 0 → j ≠ 7 → (j < 19 ∨ 23 < j) → z 128 j = u 128 j) ∧ z 128 7 = nI (min (A + 1) 12) ∧ zActs u z A
theorem zInv_act {u w z : zM} {n A N : Nat} (hI : zInv u n) (hA : A ≤ 12) (hN : N < 12) (hP : ∀ j, j < A → zRg (zAct u j) n ∧ zDy u (61 + 5 * ((N + 12 - A + j) % 12)) (zAct u j) ∧ zBase (u 129) (zAct u j))
    (hD : zActD u w A N) (hM : zActM u w z A) (hR : zRg (z 129) n) (hY : zDy w 4 (z 129)) (hB : zBase (z 129) (u 129)) (hT : ∀ k, 475 ≤ k → z 129 k = u 129 k) : zInv z n := by
  obtain ⟨c, l, t, -, i, k⟩ := hI
  obtain ⟨a1, a2, a3, a4, a5, a6⟩ := hD
  obtain ⟨b1, b2, b3, b4, b5⟩ := hM
  have h8 := hR.1.1
  have zw : ∀ x, x < 128 → z x = w x := fun x hx => b1 x (by omega) (by omega) (by omega) (by omega)
  have zu : ∀ x, x < 128 → x ≠ 0 → (x < 61 + 5 * N ∨ 65 + 5 * N < x) → (x < 4 ∨ 8 < x) → x ≠ 12 → (x < 18 ∨ 21 < x) → z x = u x := fun x hx p q r s v => (zw x hx).trans (a1 x (by omega) p q r s v)
  have zb : ∀ x, 130 ≤ x → x < 142 → x ≠ 133 → x ≠ 137 → z x = u x := fun x hx hx2 p q => (b1 x (by omega) (by omega) p q).trans (a1 x hx2 (by omega) (by omega) (by omega) (by omega) (by omega))
  refine ⟨⟨hR, ?_, ?_, ?_⟩, ?_, ?_, ?_, ?_, ?_⟩
  · intro a b ha hb
    rw [zb 134 (by decide) (by decide) (by decide) (by decide), c.2.1 a b ha hb, hB.rd]
  · exact hY.congr (fun x p q => zw x (by omega))
  · exact (c.2.2.2.congr (zu 10 (by decide) (by decide) (by omega) (by decide) (by decide) (by decide)) (zu 11 (by decide) (by decide) (by omega) (by decide) (by decide) (by decide))).row (fun x p q => (hB.1 x p q).symm)
  · exact (l.congr (w := z) (by rw [zw 12 (by decide)]; exact a6 6 (by decide)) (fun x p q => zu x (by omega) (by omega) (by omega) (by omega) (by omega) (by omega))).row hB.2.1.symm hT
  · exact t.congr (by rw [zu 1 (by decide) (by decide) (by omega) (by decide) (by decide) (by decide)]) (by rw [zu 1 (by decide) (by decide) (by omega) (by decide) (by decide) (by decide)]) (zu 2 (by decide) (by decide) (by omega) (by decide) (by decide) (by decide)) (zb 135 (by decide) (by decide) (by decide) (by decide)) (b3 10 (by decide) (by decide) (by decide)) (b3 15 (by decide) (by decide) (by decide))
  · refine ⟨min (A + 1) 12, (N + 1) % 12, Nat.min_le_right _ _, Nat.mod_lt _ (by decide), by rw [zw 0 (by decide)]; exact a4, b4, by rw [zw 0 (by decide)]; exact a3, fun j hj => ?_⟩
    by_cases q : j + 1 = min (A + 1) 12
    · have e : ∀ k, k < 475 → zAct z j k = u 129 k := fun k hk => by
        unfold zAct
        rw [b5 j k hj hk, if_pos q]
      have ix : ((N + 1) % 12 + 12 - min (A + 1) 12 + j) % 12 = N := by omega
      rw [ix]
      exact ⟨c.1.row e, ((a5.congr (fun x p r => zw x (by omega))).row e), hB.row e⟩
    · have hj2 : (if A = 12 then j + 1 else j) < A := by split <;> omega
      have e : ∀ k, k < 475 → zAct z j k = zAct u (if A = 12 then j + 1 else j) k := fun k hk => by
        unfold zAct
        rw [b5 j k hj hk, if_neg q]
        split <;> rfl
      obtain ⟨p1, p2, p3⟩ := hP _ hj2
      have ix : ((N + 1) % 12 + 12 - min (A + 1) 12 + j) % 12 = (N + 12 - A + (if A = 12 then j + 1 else j)) % 12 := by split <;> omega
      have ne : (N + 12 - A + (if A = 12 then j + 1 else j)) % 12 ≠ N := by split <;> omega
      have lt : (N + 12 - A + (if A = 12 then j + 1 else j)) % 12 < 12 := Nat.mod_lt _ (by decide)
      rw [ix]
      exact ⟨p1.row e, (p2.congr (fun x p r => zu x (by omega) (by omega) (by omega) (by omega) (by omega) (by omega))).row e, (hB.tr p3).row e⟩
  · exact i.congr (by rw [zw 0 (by decide)]; exact a2 4 (by decide) (by decide)) (b3 6 (by decide) (by decide) (by decide)) (zb 130 (by decide) (by decide) (by decide) (by decide)) (fun x p q => zu x (by omega) (by omega) (by omega) (by omega) (by omega) (by omega))
  · have x1 := zu 121 (by decide) (by decide) (by omega) (by decide) (by decide) (by decide)
    have x2 := zu 122 (by decide) (by decide) (by omega) (by decide) (by decide) (by decide)
    have x4 := zu 124 (by decide) (by decide) (by omega) (by decide) (by decide) (by decide)
    obtain ⟨k, k0⟩ := k
    refine ⟨?_, by rw [x4]; exact k0⟩
    rcases k with k | ⟨k1, k2⟩
    · exact Or.inl (by rw [x1]; exact k)
    · refine Or.inr ⟨by rw [x1]; exact k1, ?_⟩
      have e : zTrT z n (u 129) := by
        intro set start p q
        rw [x2]; exact k2 set start p q
      exact zTrT.base h8 hB.sy e
