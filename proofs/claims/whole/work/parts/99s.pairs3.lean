theorem zInv.c124 {u w : zM} {n : Nat} (hI : zInv u n) (f : ∀ c, c ≠ 124 → w c = u c) (h0 : w 124 0 = 0) : zInv w n := by
  obtain ⟨c, l, t, p, i, k⟩ := hI
  have e9 : w 129 = u 129 := f 129 (by decide)
  refine ⟨⟨by rw [e9]; exact c.1, fun a b ha hb => ?_, ?_, ?_⟩, ?_, ?_, ?_, ?_, ?_, h0⟩
  · rw [f 134 (by decide), e9]; exact c.2.1 a b ha hb
  · rw [e9]; exact c.2.2.1.congr (fun x a b => f x (by omega))
  · rw [e9]; exact c.2.2.2.congr (f 10 (by decide)) (f 11 (by decide))
  · rw [e9]; exact l.congr (by rw [f 12 (by decide)]) (fun x a b => f x (by omega))
  · exact t.congr (by rw [f 1 (by decide)]) (by rw [f 1 (by decide)]) (f 2 (by decide)) (f 135 (by decide)) (by rw [f 128 (by decide)]) (by rw [f 128 (by decide)])
  · exact p.congr (by rw [f 0 (by decide)]) (by rw [f 0 (by decide)]) (by rw [f 128 (by decide)]) (f 133 (by decide)) e9 (fun x a b => f x (by omega))
  · exact i.congr (by rw [f 0 (by decide)]) (by rw [f 128 (by decide)]) (f 130 (by decide)) (fun x a b => f x (by omega))
  · unfold zTrT
    rw [f 121 (by decide), f 122 (by decide), e9]
    exact k.1
def pbV (W : Nat → Int32) (n set o : Nat) : Int32 := if o = n then nI (prV 10000 W n (set - 2 ^ loN set)) else if ppV W set o = true then nI (prV 10000 W n (set - 2 ^ loN set - 2 ^ o) + 10000 - zFar W (cnN W (loN set)) (cnN W o)) else -1
theorem s_pairedBy {d n set o : Nat} {W : Nat → Int32} {u : zM} {Q : Option Value → zM → Prop} (hU : zRu u W n) (T : ∀ s, s < set → u 140 s = nI (prV 10000 W n s)) (h2 : set < 2 ^ n) (h0 : 0 < set) (ho : o ≤ n) (h : Q (some (.int (pbV W n set o))) u) : zCall (d + 4) false 302 [.ref 128, .int (nI set), .int (nI o)] u Q := by
  obtain ⟨hR, h9, hF⟩ := hU
  have h8 := hR.1.1
  have p2 := p2_le h8
  have h256 : set < 256 := by omega
  obtain ⟨l8, lb, ll⟩ := lo_ok set h256 h0
  have lt := bit_lt lb
  have m0 : u 129 0 = nI n := by rw [h9]; exact hR.1.2
  refine tX12_pairedBy ?_
  refine s_firstOf (set := set) rfl h256 h0 ⟨_, rfl, ?_⟩
  dsimp only
  rw [m0, bit_rm set h256 _ l8 lb, nI_clamp (n := set - 2 ^ loN set) (by omega), T _ lt]
  unfold pbV at h
  refine ⟨fun q => ?_, fun q => ⟨vp_in_nI (by omega) (by decide), ?_⟩⟩
  · have on : o ≠ n := fun z => q (by rw [z])
    rw [if_neg on] at h
    have c1 := cnN_lt W (loN set)
    have c2 := cnN_lt W o
    have a1 : (163 + (9 * nI (loN set))) + 0 = nI (163 + 9 * loN set + 0) := ix_w (loN set) 0
    have a2 : (163 + (9 * nI o)) + 0 = nI (163 + 9 * o + 0) := ix_w o 0
    have w1 : u 129 (163 + 9 * loN set + 0) = nI (cnN W (loN set)) := by rw [h9]; exact cnN_eq hR l8
    have w2 : u 129 (163 + 9 * o + 0) = nI (cnN W o) := by rw [h9]; exact cnN_eq hR (by omega)
    have e1 : (12 * nI (cnN W (loN set))) + nI (cnN W o) = nI (12 * cnN W (loN set) + cnN W o) := by rw [nI_lit, nI_mul, nI_add]
    have f99 := zFar_99 hR _ _ c1 c2
    have pe : ppV W set o = ((set - 2 ^ loN set).testBit o && decide (zFar W (cnN W (loN set)) (cnN W o) < 1000)) := rfl
    rw [a1, a2, ix_c (s := loN set) (w := 0) l8 (by decide), ix_c (s := o) (w := 0) (by omega) (by decide), w1, w2, e1, nI_clamp (n := 12 * cnN W (loN set) + cnN W o) (by omega), hF _ _ c1 c2, bit_at (set - 2 ^ loN set) (by omega) o (by omega)]
    have v1 : vp_in (nI (163 + 9 * loN set + 0)) 2173 := ix_v l8 (by decide)
    have v2 : vp_in (nI (163 + 9 * o + 0)) 2173 := ix_v (by omega) (by decide)
    have v3 : vp_in (nI (12 * cnN W (loN set) + cnN W o)) 144 := vp_in_nI (by omega) (by decide)
    cases b : (set - 2 ^ loN set).testBit o
    · refine ⟨fun _ => ?_, fun z => absurd z (by decide)⟩
      rw [if_neg (by rw [pe, b]; simp)] at h
      exact h
    · refine ⟨fun z => absurd rfl z, fun _ => ⟨v1, v2, v3, fun z => ?_, fun z => ?_⟩⟩
      · rw [nI_lit, nI_ltI (by omega) (by omega)] at z
        have z : zFar W (cnN W (loN set)) (cnN W o) < 1000000 := z
        have lt2 := bit_lt b
        have rl := (pr_le hR (set := set - 2 ^ loN set - 2 ^ o) (by omega)).2
        rw [if_pos (by rw [pe, b, Bool.true_and]; exact decide_eq_true (by omega))] at h
        rw [bit_rm (set - 2 ^ loN set) (by omega) o (by omega) b, nI_clamp (n := set - 2 ^ loN set - 2 ^ o) (by omega), T _ (by omega)]
        have e : (10000 - nI (zFar W (cnN W (loN set)) (cnN W o))) + nI (prV 10000 W n (set - 2 ^ loN set - 2 ^ o)) = nI (prV 10000 W n (set - 2 ^ loN set - 2 ^ o) + 10000 - zFar W (cnN W (loN set)) (cnN W o)) := by
          rw [nI_lit, nI_sub (by show zFar W (cnN W (loN set)) (cnN W o) ≤ 10000; omega), nI_add]
          have e3 : (OfNat.ofNat 10000 : Nat) - zFar W (cnN W (loN set)) (cnN W o) + prV 10000 W n (set - 2 ^ loN set - 2 ^ o) = prV 10000 W n (set - 2 ^ loN set - 2 ^ o) + 10000 - zFar W (cnN W (loN set)) (cnN W o) := by
            show 10000 - _ + _ = _
            omega
          rw [e3]
        rw [e]
        exact ⟨v1, v2, v3, vp_in_nI (by omega) (by decide), h⟩
      · rw [nI_lit, nI_ltI (by omega) (by omega)] at z
        have z : ¬ zFar W (cnN W (loN set)) (cnN W o) < 1000000 := z
        rw [if_neg (by rw [pe, b, Bool.true_and]; exact fun y => z (by have := of_decide_eq_true y; omega))] at h
        exact h
  · rw [nI_eq (by omega) (by omega)] at q
    rw [if_pos q] at h
    exact h
def yV (W : Nat → Int32) (n set : Nat) : Nat → Int32
  | 0 => -1
  | o + 1 => if yV W n set o < pbV W n set o then pbV W n set o else yV W n set o
theorem yV_ok {W : Nat → Int32} {n set : Nat} (hR : zRg W n) (h2 : set < 2 ^ n) (h0 : 0 < set) : yV W n set (n + 1) = nI (prV 10000 W n set) := by
  have h8 := hR.1.1
  have p2 := p2_le h8
  have h256 : set < 256 := by omega
  obtain ⟨l8, lb, ll⟩ := lo_ok set h256 h0
  have lt := bit_lt lb
  obtain ⟨p, ep⟩ : ∃ p, p = ppV W set := ⟨_, rfl⟩
  obtain ⟨g, eg⟩ : ∃ g : Nat → Nat, g = fun o => prV 10000 W n (set - 2 ^ loN set - 2 ^ o) + 10000 - zFar W (cnN W (loN set)) (cnN W o) := ⟨_, rfl⟩
  obtain ⟨x0, ex0⟩ : ∃ x0, x0 = prV 10000 W n (set - 2 ^ loN set) := ⟨_, rfl⟩
  have val : prV 10000 W n set = pMx p g x0 n := by rw [prV_s h0 h256, ep, eg, ex0]
  have x0le : x0 ≤ 40000 := by rw [ex0]; exact (pr_le hR (by omega)).2
  have st : ∀ o, o ≤ n → (yV W n set o = -1 ∧ pMx p g x0 o = x0) ∨ ∃ y, y ≤ 50000 ∧ yV W n set o = nI y ∧ pMx p g x0 o = max x0 y := by
    intro o
    induction o with
    | zero => exact fun _ => Or.inl ⟨rfl, rfl⟩
    | succ o ih =>
      intro ho
      have l : pMx p g x0 (o + 1) = if p o = true then max (pMx p g x0 o) (g o) else pMx p g x0 o := rfl
      have ly : yV W n set (o + 1) = if yV W n set o < pbV W n set o then pbV W n set o else yV W n set o := rfl
      have on : o ≠ n := by omega
      by_cases q : p o = true
      · have pb : pbV W n set o = nI (g o) := by unfold pbV; rw [if_neg on, ← ep, if_pos q, eg]
        have gle : g o ≤ 50000 := by
          rw [ep] at q
          have lt2 := bit_lt (pp_bit q)
          have := (pr_le hR (set := set - 2 ^ loN set - 2 ^ o) (by omega)).2
          rw [eg]; dsimp only; omega
        refine Or.inr ?_
        rw [l, if_pos q, ly, pb]
        rcases ih (by omega) with ⟨a, b⟩ | ⟨y, a, b, c⟩
        · refine ⟨g o, gle, ?_, by rw [b]⟩
          rw [a, if_pos (Int32.lt_of_lt_of_le (by decide : (-1 : Int32) < 0) (Int32.not_lt.mp (nI_pos (by omega))))]
        · refine ⟨max y (g o), by omega, ?_, by rw [c]; omega⟩
          rw [b]
          by_cases z : y < g o
          · rw [if_pos (by rw [nI_ltI (by omega) (by omega)]; exact z)]
            have e : max y (g o) = g o := by omega
            rw [e]
          · rw [if_neg (by rw [nI_ltI (by omega) (by omega)]; exact z)]
            have e : max y (g o) = y := by omega
            rw [e]
      · have pb : pbV W n set o = -1 := by unfold pbV; rw [if_neg on, ← ep, if_neg q]
        rw [l, if_neg q, ly, pb]
        rcases ih (by omega) with ⟨a, b⟩ | ⟨y, a, b, c⟩
        · refine Or.inl ⟨?_, b⟩
          rw [a, if_neg (by decide)]
        · refine Or.inr ⟨y, a, ?_, c⟩
          rw [b, if_neg (fun z => absurd (Int32.lt_trans z (by decide : (-1 : Int32) < 0)) (nI_pos (by omega)))]
  have ly : yV W n set (n + 1) = if yV W n set n < pbV W n set n then pbV W n set n else yV W n set n := rfl
  have pb : pbV W n set n = nI x0 := by unfold pbV; rw [if_pos rfl, ex0]
  rw [ly, pb, val]
  rcases st n (Nat.le_refl _) with ⟨a, b⟩ | ⟨y, a, b, c⟩
  · rw [a, b, if_pos (Int32.lt_of_lt_of_le (by decide : (-1 : Int32) < 0) (Int32.not_lt.mp (nI_pos (by omega))))]
  · rw [b, c]
    by_cases z : y < x0
    · rw [if_pos (by rw [nI_ltI (by omega) (by omega)]; exact z)]
      have e : max x0 y = x0 := by omega
      rw [e]
    · rw [if_neg (by rw [nI_ltI (by omega) (by omega)]; exact z)]
      have e : max x0 y = y := by omega
      rw [e]
theorem s_laysPaired {d n : Nat} {W : Nat → Int32} {u : zM} {Q : Option Value → zM → Prop} (hU : zRu u W n) (h : ∀ w, (∀ c, c ≠ 140 → w c = u c) → (∀ s, s < 2 ^ n → w 140 s = nI (prV 10000 W n s)) → Q none w) : zCall (d + 5) false 303 [.ref 128] u Q := by
  have hU' := hU
  obtain ⟨hR, h9, hF⟩ := hU'
  have h8 := hR.1.1
  have p2 := p2_le h8
  have pp := Nat.two_pow_pos n
  have i0 : ∀ s, s < 0 + 1 → (zUp u 140 0 0) 140 s = nI (prV 10000 W n s) := fun s hs => by
    obtain rfl : s = 0 := by omega
    rw [zUp_at]; rfl
  refine tX12_laysPaired ?_
  refine zFor (σ := zM) (Pr := fun i m => zRun (d + 4) false zcX12_laysPaired 0 Q 9 [(0, .ref 128), (1, .int (nI (i + 1)))] [] m) (fun i m => (∀ c, c ≠ 140 → m c = u c) ∧ ∀ s, s < i + 1 → m 140 s = nI (prV 10000 W n s)) (2 ^ n - 1) (fun m hm => ?_) (fun i m hi hm ih => ?_) _ ⟨fun c a => zUp_k _ _ a, i0⟩
  · have m0 : m 129 0 = nI n := by rw [hm.1 129 (by decide), h9]; exact hR.1.2
    exact tX12_laysPaired_9 (br_t (by rw [m0, sl_m n h8, nI_ltI (by omega) (by omega)]; omega) (h m hm.1 (fun s hs => hm.2 s (by omega))))
  · obtain ⟨f, T⟩ := hm
    have m9 : m 129 = W := by rw [f 129 (by decide), h9]
    have m0 : m 129 0 = nI n := by rw [m9]; exact hR.1.2
    have U2 : zRu m W n := ⟨hR, m9, by rw [f 134 (by decide)]; exact hF⟩
    refine tX12_laysPaired_9 (br_f (by rw [m0, sl_m n h8, nI_ltI (by omega) (by omega)]; omega) ?_)
    refine zFor (σ := Int32) (Pr := fun o y => zRun (d + 4) false zcX12_laysPaired 0 Q 21 [(0, .ref 128), (1, .int (nI (i + 1))), (2, .int y), (3, .int (nI o))] [] m) (fun o y => y = yV W n (i + 1) o) (n + 1) (fun y hy => ?_) (fun o y ho hy ih2 => ?_) (-1) rfl
    · refine tX12_laysPaired_21 (br_t (by rw [m0, nI_ltI (by omega) (by omega)]; omega) ⟨vp_in_nI (by omega) (by decide), ?_⟩)
      rw [nI_clamp (n := i + 1) (by omega), nI_1 (i + 1)]
      refine ih _ ⟨fun c a => (zUp_k _ _ a).trans (f c a), fun s hs => ?_⟩
      by_cases z : s = i + 1
      · subst z
        rw [zUp_at, hy]; exact yV_ok hR (by omega) (by omega)
      · rw [zUp_j _ _ z]; exact T s (by omega)
    · refine tX12_laysPaired_21 (br_f (by rw [m0, nI_ltI (by omega) (by omega)]; omega) ?_)
      refine s_pairedBy U2 T (by omega) (by omega) (by omega) ⟨_, rfl, ?_⟩
      dsimp only
      rw [nI_1 o]
      refine ih2 _ ?_
      rw [hy]; rfl
theorem pairs_end {n : Nat} {w w2 : zM} (hI : zInv w n) (f : ∀ c, c ≠ 140 → w2 c = (zUp w 128 0 0) c) : zIv w2 :=
  ⟨n, ((zSame.m (u := w) (j := 0) 0 (by decide)).tr (zSame.row (k := 140) rfl (by decide) (by decide) f)).inv hI⟩
theorem op_neighbours (a : Int32) : zOkA 143 305 [.int a] := by
  intro u ⟨n, hI⟩
  have hR := hI.1.1
  have h8 := hR.1.1
  have p2 := p2_le h8
  have pp := Nat.two_pow_pos n
  obtain ⟨W, eW⟩ : ∃ W, W = u 129 := ⟨_, rfl⟩
  have U := hI.tu
  rw [← eW] at U hR
  refine tX11_neighbours ?_
  refine s_put U hI.2.2.2.2.2.2 (fun w f T => ⟨rfl, ?_⟩)
  have I2 : zInv w n := hI.c124 f (by rw [T 0 (by omega)]; rfl)
  have w43 : w 4 3 = nI n := I2.1.2.2.1.1.1.trans I2.1.1.1.2
  have w9 : w 129 = W := by rw [f 129 (by decide), eW]
  have en := T (2 ^ n - 1) (by omega)
  obtain ⟨P, fr, a1, a2, a3, a4⟩ := pr_rel hR (2 ^ n - 1 + 1) (2 ^ n - 1) (by omega) (by omega)
  have le := pc8_le (2 ^ n - 1)
  have v : vp_in (nI (2 ^ n - 1)) 256 := vp_in_nI (by omega) (by decide)
  have eD : ((nI (prV 1000 W n (2 ^ n - 1)) + 1000) - 1) / 1000 = nI P := by
    have e0 : (nI (prV 1000 W n (2 ^ n - 1)) + 1000) - 1 = nI (prV 1000 W n (2 ^ n - 1) + 999) := by
      rw [nI_lit, nI_add]
      exact nI_sub (b := 1) (by show 1 ≤ _ + 1000; omega)
    rw [e0, nI_lit, nI_div (by omega) (by decide)]
    congr 1
    show (prV 1000 W n (2 ^ n - 1) + 999) / 1000 = P
    omega
  have eR : ((nI (prV 10000 W n (2 ^ n - 1)) + 10000) - 1) / 10000 = nI P := by
    have e0 : (nI (prV 10000 W n (2 ^ n - 1)) + 10000) - 1 = nI (prV 10000 W n (2 ^ n - 1) + 9999) := by
      rw [nI_lit, nI_add]
      exact nI_sub (b := 1) (by show 1 ≤ _ + 10000; omega)
    rw [e0, nI_lit, nI_div (by omega) (by decide)]
    congr 1
    show (prV 10000 W n (2 ^ n - 1) + 9999) / 10000 = P
    omega
  have eD2 : nI P * 1000 - nI (prV 1000 W n (2 ^ n - 1)) = nI fr := by
    rw [nI_lit, nI_mul, nI_sub (by show prV 1000 W n (2 ^ n - 1) ≤ P * 1000; omega)]
    congr 1
    show P * 1000 - prV 1000 W n (2 ^ n - 1) = fr
    omega
  have eR2 : 10000 * nI P - nI (prV 10000 W n (2 ^ n - 1)) = nI fr := by
    rw [nI_lit, nI_mul, nI_sub (by show prV 10000 W n (2 ^ n - 1) ≤ 10000 * P; omega)]
    congr 1
    show 10000 * P - prV 10000 W n (2 ^ n - 1) = fr
    omega
  have ref : zCall 60 false 305 [.ref 128, .int a] w fun v2 w2 => v2 = some (.int (if a = 0 then nI P else nI fr)) ∧ zIv w2 := by
    refine tX12_neighbours (fun m1 e1 => ?_)
    rw [e1]
    refine s_laysPaired (lays_ru I2 w9 0) (fun w2 g T2 => ⟨rfl, ?_⟩)
    have m0 : w2 129 0 = nI n := by rw [g 129 (by decide), zUp_k _ _ (by decide), w9]; exact hR.1.2
    dsimp only
    rw [m0, sl_m n h8, nI_clamp (n := 2 ^ n - 1) (by omega), T2 (2 ^ n - 1) (by omega), eR, eR2]
    exact ⟨v, fun q => ⟨by rw [if_pos q], pairs_end I2 g⟩, fun q => ⟨v, by rw [if_neg q], pairs_end I2 g⟩⟩
  dsimp only
  rw [w43, sl_m n h8, nI_clamp (n := 2 ^ n - 1) (by omega), en, eD, eD2]
  exact ⟨fun q => ⟨v, by rw [if_pos q] at ref; exact ref⟩, fun q => ⟨v, v, by rw [if_neg q] at ref; exact ref⟩⟩
