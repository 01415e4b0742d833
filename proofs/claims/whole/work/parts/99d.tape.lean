theorem i_ushn : ∀ sh, sh < 32 → (((nI sh).toUInt32 &&& Int32.toUInt32 31).toBitVec % 32).toNat = sh := by decide +kernel
theorem ushr_bits (x : Int32) {sh : Nat} (h : sh < 32) : ((x.toUInt32 >>> ((nI sh).toUInt32 &&& Int32.toUInt32 31)).toInt32).toBitVec = x.toBitVec >>> sh := by
  show (x.toUInt32 >>> ((nI sh).toUInt32 &&& Int32.toUInt32 31)).toBitVec = x.toBitVec >>> sh
  rw [UInt32.toBitVec_shiftRight]
  show x.toBitVec >>> ((((nI sh).toUInt32 &&& Int32.toUInt32 31).toBitVec % 32).toNat) = x.toBitVec >>> sh
  rw [i_ushn sh h]
theorem tb_ushr (x : Int32) {sh t : Nat} (h : sh < 32) : tb ((x.toUInt32 >>> ((nI sh).toUInt32 &&& Int32.toUInt32 31)).toInt32) t = x.toBitVec.getLsbD (sh + t) := by
  unfold tb
  rw [ushr_bits x h, BitVec.getLsbD_ushiftRight]
theorem tb_sshr (x : Int32) {sh t : Nat} (h : sh + t < 32) : tb (x >>> (nI sh &&& 31)) t = x.toBitVec.getLsbD (sh + t) := by
  unfold tb
  rw [Int32.toBitVec_shiftRight]
  show (x.toBitVec.sshiftRight (((nI sh &&& 31).toBitVec.smod 32).toNat)).getLsbD t = _
  rw [i_shn sh (by omega), BitVec.getLsbD_sshiftRight]
  have h1 : ¬ 32 ≤ t := by omega
  simp [h, h1]
theorem tb_255 : ∀ t, t < 8 → tb 255 t = true := by decide +kernel
theorem toInt8_cong {x z : Int32} (h : ∀ t, t < 8 → tb x t = tb z t) : x.toInt8 = z.toInt8 := by
  apply Int8.toBitVec_inj.mp
  apply BitVec.eq_of_getLsbD_eq
  intro t ht
  have e : ∀ w : Int32, w.toInt8.toBitVec.getLsbD t = tb w t := fun w => by
    show (w.toBitVec.signExtend 8).getLsbD t = w.toBitVec.getLsbD t
    rw [BitVec.getLsbD_signExtend]
    have h1 : t < 32 := by omega
    simp [ht, h1]
  rw [e, e]
  exact h t ht
theorem i8_idem (x : Int32) : x.toInt8.toInt32.toInt8 = x.toInt8 := by
  refine toInt8_cong (fun t ht => ?_)
  show (x.toInt8.toBitVec.signExtend 32).getLsbD t = x.toBitVec.getLsbD t
  rw [BitVec.getLsbD_signExtend]
  have e : x.toInt8.toBitVec.getLsbD t = x.toBitVec.getLsbD t := by
    show (x.toBitVec.signExtend 8).getLsbD t = x.toBitVec.getLsbD t
    rw [BitVec.getLsbD_signExtend]
    have h1 : t < 32 := by omega
    simp [ht, h1]
  have h1 : t < 32 := by omega
  rw [if_pos ht, e, decide_eq_true h1, Bool.true_and]
/-- a byte of a number, of the class -/
def bD (x : Int32) (sh : Nat) : Int32 := ((x.toUInt32 >>> ((nI sh).toUInt32 &&& Int32.toUInt32 31)).toInt32) &&& 255
theorem feed_byte (x : Int32) {sh : Nat} (h : sh ≤ 24) : ∃ b, b < 256 ∧ bD x sh = nI b ∧ vp_nar .byte ((x >>> (nI sh &&& 31)).toInt8.toInt32) = (nI b).toInt8.toInt32 := by
  obtain ⟨b, hb, e⟩ := pk_andE ((x.toUInt32 >>> ((nI sh).toUInt32 &&& Int32.toUInt32 31)).toInt32) (m := 255) 8 (by decide)
  refine ⟨b, hb, e, ?_⟩
  rw [vp_nar_byte, i8_idem]
  congr 1
  refine toInt8_cong (fun t ht => ?_)
  rw [← e, tb_and, tb_255 t ht, Bool.and_true, tb_ushr x (by omega), tb_sshr x (by omega)]
theorem add_step {d M sh : Nat} {a1 : Int32} {u : zM} {Q : Option Value → zM → Prop} (hM : u 1 1 = nI M) (h4 : M < 400) (hs : sh < 32) (h : zRun d false zcX7_add 0 Q 3 [(0, .ref 1), (1, .int a1), (2, .int (nI sh + (-8)))] [] (zUp (zUp u 2 M (bD a1 sh)) 1 1 (nI (M + 1)))) : zRun d false zcX7_add 0 Q 3 [(0, .ref 1), (1, .int a1), (2, .int (nI sh))] [] u := by
  refine tX7_add_3 (k0 := 1) rfl ?_
  rw [hM, nI_clamp (by omega)]
  refine br_f (nI_pos (by omega)) (br_f (by rw [nI_lit, nI_leI (by omega) (by omega)]; omega) ⟨vp_in_nI h4 (by decide), fun m1 i1 => ?_⟩)
  have e : m1 1 1 = nI M := by rw [i1, zUp_kj _ _ (by decide)]; exact hM
  rw [e, nI_1, i1]
  exact h
theorem s_addB {d L : Nat} {a1 : Int32} {u : zM} {Q : Option Value → zM → Prop} (hL : u 1 1 = nI L) (h4 : L + 4 ≤ 400)
    (h : ∀ w : zM, (∀ c, c ≠ 1 → c ≠ 2 → w c = u c) → (∀ j, j ≠ 1 → w 1 j = u 1 j) → w 1 1 = nI (L + 4) → (∀ i, i < L → w 2 i = u 2 i) → (∀ q, q < 4 → w 2 (L + q) = bD a1 (24 - 8 * q)) → Q none w) : zCall (d + 1) false 70 [.ref 1, .int a1] u Q := by
  refine tX7_add (k0 := 1) rfl ?_
  refine add_step (sh := 24) hL (by omega) (by decide) ?_
  refine add_step (M := L + 1) (sh := 16) (zUp_at _ _ _ _) (by omega) (by decide) ?_
  refine add_step (M := L + 2) (sh := 8) (zUp_at _ _ _ _) (by omega) (by decide) ?_
  refine add_step (M := L + 3) (sh := 0) (zUp_at _ _ _ _) (by omega) (by decide) ?_
  refine tX7_add_3 (k0 := 1) rfl (br_t (by decide) ?_)
  refine h _ (fun c a b => ?_) (fun j hj => ?_) (zUp_at _ _ _ _) (fun i hi => ?_) (fun q hq => ?_)
  · rw [zUp_k _ _ a, zUp_k _ _ b, zUp_k _ _ a, zUp_k _ _ b, zUp_k _ _ a, zUp_k _ _ b, zUp_k _ _ a, zUp_k _ _ b]
  · rw [zUp_j _ _ hj, zUp_kj _ _ (by decide), zUp_j _ _ hj, zUp_kj _ _ (by decide), zUp_j _ _ hj, zUp_kj _ _ (by decide), zUp_j _ _ hj, zUp_kj _ _ (by decide)]
  · rw [zUp_kj _ _ (by decide), zUp_j _ _ (by omega), zUp_kj _ _ (by decide), zUp_j _ _ (by omega), zUp_kj _ _ (by decide), zUp_j _ _ (by omega), zUp_kj _ _ (by decide), zUp_j _ _ (by omega)]
  · have c : q = 0 ∨ q = 1 ∨ q = 2 ∨ q = 3 := by omega
    rcases c with rfl | rfl | rfl | rfl
    · rw [zUp_kj _ _ (by decide), zUp_j _ _ (by omega), zUp_kj _ _ (by decide), zUp_j _ _ (by omega), zUp_kj _ _ (by decide), zUp_j _ _ (by omega), zUp_kj _ _ (by decide)]
      exact zUp_at _ _ _ _
    · rw [zUp_kj _ _ (by decide), zUp_j _ _ (by omega), zUp_kj _ _ (by decide), zUp_j _ _ (by omega), zUp_kj _ _ (by decide)]
      exact zUp_at _ _ _ _
    · rw [zUp_kj _ _ (by decide), zUp_j _ _ (by omega), zUp_kj _ _ (by decide)]
      exact zUp_at _ _ _ _
    · rw [zUp_kj _ _ (by decide)]
      exact zUp_at _ _ _ _
/-- a state whose TAPE alone has changed -/
theorem zInv_tape {u z : zM} {n : Nat} (hI : zInv u n) (f : ∀ c, zCare c = true → c ≠ 2 → c ≠ 135 → z c = u c) (g6 : z 128 6 = u 128 6) (g7 : z 128 7 = u 128 7) (hT : zTp z) : zInv z n := by
  obtain ⟨c, l, t, p, i, k⟩ := hI
  have cr : ∀ x, (x = 0 ∨ (4 ≤ x ∧ x ≤ 18) ∨ (42 ≤ x ∧ x ≤ 56) ∨ (60 ≤ x ∧ x ≤ 122) ∨ x = 124 ∨ x = 129 ∨ x = 130 ∨ x = 133 ∨ x = 134) → z x = u x := fun x hx => f x (by simp only [zCare, Bool.or_eq_true, Bool.and_eq_true, decide_eq_true_eq, beq_iff_eq]; omega) (by omega) (by omega)
  have e9 := cr 129 (by omega)
  refine ⟨⟨by rw [e9]; exact c.1, fun a b ha hb => ?_, ?_, ?_⟩, ?_, hT, ?_, ?_, ?_⟩
  · rw [cr 134 (by omega), e9]; exact c.2.1 a b ha hb
  · rw [e9]; exact c.2.2.1.congr (fun x a b => cr x (by omega))
  · rw [e9]; exact c.2.2.2.congr (cr 10 (by omega)) (cr 11 (by omega))
  · rw [e9]; exact l.congr (by rw [cr 12 (by omega)]) (fun x a b => cr x (by omega))
  · exact p.congr (by rw [cr 0 (by omega)]) (by rw [cr 0 (by omega)]) g7 (cr 133 (by omega)) e9 (fun x a b => cr x (by omega))
  · exact i.congr (by rw [cr 0 (by omega)]) g6 (cr 130 (by omega)) (fun x a b => cr x (by omega))
  · unfold zTrK zTrT
    rw [cr 121 (by omega), cr 122 (by omega), cr 124 (by omega), e9]
    exact k
theorem op_fault : zAskA 111 212 [] := by
  intro u n hI
  refine tX11_fault ⟨zSame.rf u, tX12_fault (fun m1 e1 => ⟨?_, by rw [e1]; exact zSame.m _ (by decide)⟩)⟩
  rw [e1, zUp_j _ _ (by decide), hI.2.2.1.2]
theorem op_end (a : Int32) : zOkA 108 202 [.int a] := by
  intro u ⟨n, hI⟩
  have T := hI.2.2.1
  obtain ⟨⟨L, hL, t1, t2, t3⟩, t4⟩ := T
  have same : ∀ m1 : zM, m1 = zUp u 128 0 0 → zIv m1 := fun m1 e1 => ⟨n, by rw [e1]; exact (zSame.m (u := u) (j := 0) 0 (by decide)).inv hI⟩
  refine tX11_end ⟨fun q => ?_, fun q => ⟨fun q2 => ?_, fun q2 => ?_⟩⟩
  · exact tX12_end (br_t q ⟨rfl, same _ rfl⟩)
  · rcases i_cases a (L + 1) (by omega) with ⟨x, hx, rfl⟩ | hb
    · refine tX12_end (br_f q (fun m1 e1 => br_t ?_ ⟨rfl, n, ?_⟩))
      · rw [e1, zUp_j _ _ (by decide), zUp_k _ _ (by decide), t2, nI_leI (by omega) (by omega)]; omega
      · refine zInv_tape hI (fun c hc h2 h3 => ?_) ?_ ?_ ?_
        · have n1 : c ≠ 128 := fun z => by subst z; exact absurd hc (by decide)
          have n2 : c ≠ 1 := fun z => by subst z; exact absurd hc (by decide)
          rw [zUp_k _ _ n1, e1, zUp_k _ _ n1, zUp_k _ _ n2]
        · rw [zUp_j _ _ (by decide), e1, zUp_j _ _ (by decide), zUp_k _ _ (by decide)]
        · rw [zUp_j _ _ (by decide), e1, zUp_j _ _ (by decide), zUp_k _ _ (by decide)]
        · refine ⟨⟨x, by omega, ?_, zUp_at _ _ _ _, fun i hi => ?_⟩, ?_⟩
          · rw [zUp_k _ _ (by decide), e1, zUp_k _ _ (by decide), zUp_at]
          · rw [zUp_k _ _ (by decide), zUp_k _ _ (by decide), e1, zUp_k _ _ (by decide), zUp_k _ _ (by decide), zUp_k _ _ (by decide), zUp_k _ _ (by decide)]
            exact t3 i (by omega)
          · rw [zUp_kj _ _ (by decide), zUp_j _ _ (by decide), e1, zUp_kj _ _ (by decide), zUp_j _ _ (by decide), zUp_j _ _ (by decide), zUp_kj _ _ (by decide)]
            exact t4
    · rw [t1] at q2
      exact absurd (i_lim (n := L) (by omega) hb q) (Int32.not_lt.mpr q2)
  · refine tX12_end (br_f q (fun m1 e1 => br_f ?_ ⟨rfl, same _ e1⟩))
    rw [e1, zUp_j _ _ (by decide), t2, ← t1]; exact q2
theorem op_feed (a1 a2 a3 a4 a5 : Int32) : zOkA 107 201 [.int a1, .int a2, .int a3, .int a4, .int a5] := by
  intro u ⟨n, hI⟩
  have T := hI.2.2.1
  obtain ⟨⟨L, hL, t1, t2, t3⟩, t4⟩ := T
  have e20 : u 1 1 + 20 = nI (L + 20) := by rw [t1, nI_lit, nI_add]
  refine tX11_feed ?_
  rw [e20]
  refine ⟨fun q => ?_, fun q => ?_⟩
  · rw [nI_lit, nI_ltI (by omega) (by omega)] at q
    refine tX12_feed (fun m1 e1 => br_f ?_ ⟨rfl, n, by rw [e1]; exact (zSame.m (u := u) (j := 0) 0 (by decide)).inv hI⟩)
    rw [e1, zUp_j _ _ (by decide), t2, nI_lit, nI_lit, nI_add, nI_leI (by omega) (by omega)]; omega
  · rw [nI_lit, nI_ltI (by omega) (by omega)] at q
    obtain ⟨A, hA⟩ : ∃ A : Nat → Int32, A = fun g => if g = 0 then a1 else if g = 1 then a2 else if g = 2 then a3 else if g = 3 then a4 else a5 := ⟨_, rfl⟩
    refine s_addB (L := L) t1 (by omega) (fun w1 p1 p2 p3 p4 p5 => ⟨rfl, ?_⟩)
    refine s_addB (L := L + 4) p3 (by omega) (fun w2 q1 q2 q3 q4 q5 => ⟨rfl, ?_⟩)
    refine s_addB (L := L + 8) q3 (by omega) (fun w3 r1 r2 r3 r4 r5 => ⟨rfl, ?_⟩)
    refine s_addB (L := L + 12) r3 (by omega) (fun w4 s1 s2 s3 s4 s5 => ⟨rfl, ?_⟩)
    refine s_addB (L := L + 16) s3 (by omega) (fun w v1 v2 v3 v4 v5 => ⟨rfl, ?_⟩)
    have fr : ∀ c, c ≠ 1 → c ≠ 2 → w c = u c := fun c x y => by rw [v1 c x y, s1 c x y, r1 c x y, q1 c x y, p1 c x y]
    have f1 : ∀ j, j ≠ 1 → w 1 j = u 1 j := fun j x => by rw [v2 j x, s2 j x, r2 j x, q2 j x, p2 j x]
    have fo : ∀ i, i < L → w 2 i = u 2 i := fun i hi => by rw [v4 i (by omega), s4 i (by omega), r4 i (by omega), q4 i (by omega), p4 i hi]
    have fb : ∀ k, k < 20 → w 2 (L + k) = bD (A (k / 4)) (24 - 8 * (k % 4)) := fun k hk => by
      have hq : k % 4 < 4 := Nat.mod_lt _ (by decide)
      have ek : L + k = L + 4 * (k / 4) + k % 4 := by omega
      rw [ek, hA]
      have c : k / 4 = 0 ∨ k / 4 = 1 ∨ k / 4 = 2 ∨ k / 4 = 3 ∨ k / 4 = 4 := by omega
      rcases c with c | c | c | c | c
      · rw [c, v4 _ (by omega), s4 _ (by omega), r4 _ (by omega), q4 _ (by omega)]; exact p5 _ hq
      · rw [c, v4 _ (by omega), s4 _ (by omega), r4 _ (by omega)]; exact q5 _ hq
      · rw [c, v4 _ (by omega), s4 _ (by omega)]; exact r5 _ hq
      · rw [c, v4 _ (by omega)]; exact s5 _ hq
      · rw [c]; exact v5 _ hq
    refine tX12_feed (fun m1 e1 => br_t ?_ (fun m2 e2 m3 e3 m4 e4 m5 e5 => ?_))
    · rw [e1, zUp_j _ _ (by decide), fr 128 (by decide) (by decide), t2, nI_lit, nI_lit, nI_add, nI_leI (by omega) (by omega)]; omega
    · obtain ⟨m6, e6⟩ : ∃ m6, m6 = zUp m5 136 4 a5 := ⟨_, rfl⟩
      rw [← e6]
      have h36 : ∀ g, g < 5 → m6 136 g = A g := fun g hg => by
        rw [e6, hA]
        have c : g = 0 ∨ g = 1 ∨ g = 2 ∨ g = 3 ∨ g = 4 := by omega
        rcases c with rfl | rfl | rfl | rfl | rfl
        · rw [zUp_j _ _ (by decide), e5, zUp_j _ _ (by decide), e4, zUp_j _ _ (by decide), e3, zUp_j _ _ (by decide), e2, zUp_at]; rfl
        · rw [zUp_j _ _ (by decide), e5, zUp_j _ _ (by decide), e4, zUp_j _ _ (by decide), e3, zUp_at]; rfl
        · rw [zUp_j _ _ (by decide), e5, zUp_j _ _ (by decide), e4, zUp_at]; rfl
        · rw [zUp_j _ _ (by decide), e5, zUp_at]; rfl
        · rw [zUp_at]; rfl
      have m6o : ∀ c, c ≠ 136 → m6 c = m1 c := fun c hc => by rw [e6, zUp_k _ _ hc, e5, zUp_k _ _ hc, e4, zUp_k _ _ hc, e3, zUp_k _ _ hc, e2, zUp_k _ _ hc]
      have m10 : m6 128 10 = nI L := by rw [m6o 128 (by decide), e1, zUp_j _ _ (by decide), fr 128 (by decide) (by decide)]; exact t2
      refine zFor (σ := zM) (Pr := fun i x => zRun 59 false zcX12_feed 1 _ 60 [(0, .ref 128), (1, .int a1), (2, .int a2), (3, .int a3), (4, .int a4), (5, .int a5), (6, .int (nI i))] [] x) (fun i x => (∀ c, c ≠ 135 → x c = m6 c) ∧ (∀ j, j < L → x 135 j = u 135 j) ∧ ∀ k, k < i → x 135 (L + k) = vp_nar .byte ((A (k / 4) >>> (nI (24 - 8 * (k % 4)) &&& 31)).toInt8.toInt32)) 20 (fun x hx => ?_) (fun i x hi hx ih => ?_) m6 ⟨fun _ _ => rfl, fun j hj => by rw [m6o 135 (by decide), e1, zUp_k _ _ (by decide), fr 135 (by decide) (by decide)], fun k hk => absurd hk (Nat.not_lt_zero _)⟩
      · obtain ⟨g1, g2, g3⟩ := hx
        refine tX12_feed_60 (br_t (by decide) (fun y ey => ?_))
        have x10 : x 128 10 + 20 = nI (L + 20) := by rw [g1 128 (by decide), m10, nI_lit, nI_add]
        rw [x10] at ey
        refine ⟨?_, n, ?_⟩
        · rw [ey, zUp_at, v3]
        · refine zInv_tape hI (fun c hc h2 h3 => ?_) ?_ ?_ ?_
          · have n1 : c ≠ 128 := fun z => by subst z; exact absurd hc (by decide)
            have n2 : c ≠ 1 := fun z => by subst z; exact absurd hc (by decide)
            have n3 : c ≠ 136 := fun z => by subst z; exact absurd hc (by decide)
            rw [ey, zUp_k _ _ n1, g1 c h3, m6o c n3, e1, zUp_k _ _ n1, fr c n2 h2]
          · rw [ey, zUp_j _ _ (by decide), g1 128 (by decide), m6o 128 (by decide), e1, zUp_j _ _ (by decide), fr 128 (by decide) (by decide)]
          · rw [ey, zUp_j _ _ (by decide), g1 128 (by decide), m6o 128 (by decide), e1, zUp_j _ _ (by decide), fr 128 (by decide) (by decide)]
          · have y2 : y 2 = w 2 := by rw [ey, zUp_k _ _ (by decide), g1 2 (by decide), m6o 2 (by decide), e1, zUp_k _ _ (by decide)]
            have y1 : y 1 = w 1 := by rw [ey, zUp_k _ _ (by decide), g1 1 (by decide), m6o 1 (by decide), e1, zUp_k _ _ (by decide)]
            have y35 : y 135 = x 135 := by rw [ey, zUp_k _ _ (by decide)]
            refine ⟨⟨L + 20, by omega, by rw [y1, v3], by rw [ey, zUp_at], fun i hi => ?_⟩, ?_⟩
            · rw [y2, y35]
              by_cases z : i < L
              · rw [fo i z, g2 i z]; exact t3 i z
              · obtain ⟨b, hb, b1, b2⟩ := feed_byte (A ((i - L) / 4)) (sh := 24 - 8 * ((i - L) % 4)) (by omega)
                have f := fb (i - L) (by omega)
                have g := g3 (i - L) (by omega)
                rw [show L + (i - L) = i by omega] at f g
                exact ⟨b, hb, by rw [f, b1], by rw [g, b2]⟩
            · rw [y1, f1 2 (by decide), ey, zUp_j _ _ (by decide), g1 128 (by decide), m6o 128 (by decide), e1, zUp_j _ _ (by decide), fr 128 (by decide) (by decide)]
              exact t4
      · obtain ⟨g1, g2, g3⟩ := hx
        have k4 : nI i / 4 = nI (i / 4) := by rw [nI_lit, nI_div (by omega) (by omega)]
        have km : nI i - nI (i / 4) * 4 = nI (i % 4) := by
          have := nI_rem (a := i) (b := 4) (by omega) (by omega)
          rw [nI_div (by omega) (by omega)] at this
          exact this
        have hm : i % 4 < 4 := Nat.mod_lt _ (by decide)
        have ks : (24 : Int32) - (8 * nI (i % 4)) = nI (24 - 8 * (i % 4)) := by rw [nI_lit, nI_lit, nI_mul, nI_sub (by show 8 * (i % 4) ≤ 24; omega)]
        have kl : x 128 10 + nI i = nI (L + i) := by rw [g1 128 (by decide), m10, nI_add]
        refine tX12_feed_60 ?_
        rw [k4, km, ks, kl, nI_clamp (n := i / 4) (by omega), nI_clamp (n := L + i) (by omega), nI_1 i, g1 136 (by decide), h36 (i / 4) (by omega)]
        refine br_f (by rw [nI_lit, nI_leI (by omega) (by omega)]; omega) ⟨vp_in_nI (by omega) (by decide), vp_in_nI (by omega) (by decide), ?_⟩
        refine ih _ ⟨fun c hc => (zUp_k _ _ hc).trans (g1 c hc), fun j hj => (zUp_j _ _ (by omega)).trans (g2 j hj), fun k hk => ?_⟩
        by_cases z : k = i
        · rw [z, zUp_at]
        · rw [zUp_j _ _ (by omega)]; exact g3 k (by omega)
