theorem bc_ex : ∃ BC : Int32 → Int32, ∀ (d : Nat) (a : Int32) (m : zM) (Q : Option Value → zM → Prop), Q (some (.int (BC a))) m → zCall (d + 1) false 327 [.int a] m Q := ⟨_, fun _ _ _ _ hq => tJ6_bc hq⟩
theorem lays_ru {n : Nat} {w : zM} {W : Nat → Int32} (hI : zInv w n) (e : w 129 = W) (v : Int32) : zRu (zUp w 128 0 v) W n := by
  subst e
  refine ⟨hI.1.1, zUp_k _ _ (by decide), fun a b ha hb => ?_⟩
  rw [zUp_k _ _ (by decide)]
  exact hI.1.2.1 a b ha hb
theorem lays_end {n : Nat} {w w2 : zM} (hI : zInv w n) (f : ∀ c, c ≠ 138 → w2 c = (zUp w 128 0 0) c) : zIv w2 :=
  ⟨n, ((zSame.m (u := w) (j := 0) 0 (by decide)).tr (zSame.row (k := 138) rfl (by decide) (by decide) f)).inv hI⟩
theorem op_most : zOkA 129 279 [] := by
  intro u ⟨n, hI⟩
  have hR := hI.1.1
  have h8 := hR.1.1
  have p2 := p2_le h8
  have pp := Nat.two_pow_pos n
  obtain ⟨ch, hch, ech⟩ := hR.2.2.2.2.1
  obtain ⟨W, eW⟩ : ∃ W, W = u 129 := ⟨_, rfl⟩
  obtain ⟨BC, hBC⟩ := bc_ex
  refine tX11_most ?_
  refine s_measureT hI (fun w f I2 T => ⟨rfl, ?_⟩)
  rw [← eW] at T hR ech
  have w43 : w 4 3 = nI n := I2.1.2.2.1.1.1.trans I2.1.1.1.2
  have w9 : w 129 = W := by rw [f 129 (by decide) (by decide), eW]
  have w45 : w 4 5 = nI ch := by rw [I2.1.2.2.1.1.2.2.1, w9]; exact ech
  have ec : cnO W 8 = 0 := rfl
  obtain ⟨nx, enx⟩ : ∃ nx : Nat → Nat → Nat, nx = fun best i => if BC (nI i) ≤ BC (nI best) then best else if ch < trRf W n i 0 then best else i := ⟨_, rfl⟩
  obtain ⟨bs, eb0, ebs⟩ : ∃ bs : Nat → Nat, bs 0 = 0 ∧ ∀ k, bs (k + 1) = nx (bs k) (k + 1) := ⟨fun k => Nat.rec (motive := fun _ => Nat) 0 (fun k b => nx b (k + 1)) k, rfl, fun _ => rfl⟩
  refine zFor (σ := Nat) (Pr := fun i x => zRun 59 false zcX11_most 1 _ 15 [(0, .ref 0), (1, .int (nI x)), (2, .int (nI (i + 1)))] [] w) (fun i x => x = bs i) (2 ^ n - 1) (fun x hx => ?_) (fun i x hi hx ih => ?_) 0 eb0.symm
  · refine tX11_most_15 (br_t (by rw [w43, sl_m n h8, nI_ltI (by omega) (by omega)]; omega) ?_)
    refine tX12_most (fun m1 e1 => ?_)
    rw [e1]
    refine s_laysRest (lays_ru I2 w9 0) (fun w2 g T2 => ⟨rfl, ?_⟩)
    have m0 : w2 129 0 = nI n := by rw [g 129 (by decide), zUp_k _ _ (by decide), w9]; exact hR.1.2
    have m4 : w2 129 4 = nI ch := by rw [g 129 (by decide), zUp_k _ _ (by decide), w9]; exact ech
    refine zFor (σ := Nat) (Pr := fun i x => zRun 59 false zcX12_most 1 _ 13 [(0, .ref 128), (1, .int (nI x)), (2, .int (nI (i + 1)))] [] w2) (fun i x => x = bs i) (2 ^ n - 1) (fun y hy => ?_) (fun i x hi hx ih => ?_) 0 eb0.symm
    · refine tX12_most_13 (br_t (by rw [m0, sl_m n h8, nI_ltI (by omega) (by omega)]; omega) ⟨by rw [hx, hy], lays_end I2 g⟩)
    · refine tX12_most_13 (br_f (by rw [m0, sl_m n h8, nI_ltI (by omega) (by omega)]; omega) ?_)
      refine hBC _ _ _ _ ⟨_, rfl, ?_⟩
      refine hBC _ _ _ _ ⟨_, rfl, ?_⟩
      have en := T2 (i + 1) 8 (by omega) (Or.inr rfl)
      have e8 : (8 : Int32) <<< ((8 : Int32) &&& 31) = nI (8 * 256) := sl_8 8 (by decide)
      have rl := trRf_le (n := n) (set := i + 1) (c := 0) hR
      have b1 := ebs i
      rw [enx, ← hx] at b1
      dsimp only at b1 ⊢
      rw [e8, nI_add, nI_clamp (n := 8 * 256 + (i + 1)) (by omega), en, m4, ec, nI_1 (i + 1)]
      refine ⟨fun q => ih x (by rw [b1, if_pos q]), fun q => ⟨vp_in_nI (by omega) (by decide), fun q2 => ih x ?_, fun q2 => ih (i + 1) ?_⟩⟩
      · rw [nI_ltI (by omega) (by omega)] at q2
        rw [b1, if_neg q, if_pos (by omega)]
      · rw [nI_ltI (by omega) (by omega)] at q2
        rw [b1, if_neg q, if_neg (by omega)]
  · refine tX11_most_15 (br_f (by rw [w43, sl_m n h8, nI_ltI (by omega) (by omega)]; omega) ?_)
    refine hBC _ _ _ _ ⟨_, rfl, ?_⟩
    refine hBC _ _ _ _ ⟨_, rfl, ?_⟩
    have en := T (i + 1) 8 (by omega) (Or.inr rfl)
    have e2 : nI (i + 1) * 9 + 8 = nI ((i + 1) * 9 + 8) := by rw [nI_lit, nI_lit, nI_mul, nI_add]
    have cm := tr_cmp2 (n := n) (set := i + 1) (c := 0) hR (by omega) (by decide)
    have b1 := ebs i
    rw [enx, ← hx] at b1
    dsimp only at b1 ⊢
    rw [e2, nI_clamp (n := (i + 1) * 9 + 8) (by omega), en, w45, ec, nI_1 (i + 1)]
    refine ⟨fun q => ih x (by rw [b1, if_pos q]), fun q => ⟨vp_in_nI (by omega) (by decide), fun q2 => ih x ?_, fun q2 => ih (i + 1) ?_⟩⟩
    · rw [nI_ltI (by omega) (by omega)] at q2
      rw [b1, if_neg q, if_pos (by omega)]
    · rw [nI_ltI (by omega) (by omega)] at q2
      rw [b1, if_neg q, if_neg (by omega)]
theorem r_short {n k : Nat} {b2 : Int32} {W : Nat → Int32} {w : zM} {Q : Option Value → zM → Prop} (hU : zRu w W n) (T : zTe w W n (2 ^ n)) (hD : trDv W n (2 ^ n - 1) 0 < 1000) (hk : k < n) (h : Q (some (.int (nI (ptV W n (k + 1)).2))) w) : zRun 59 false zcX12_shortest 1 Q 68 [(0, .ref 128), (1, .int (nI k)), (2, .int b2), (3, .int (nI (2 ^ n - 1))), (4, .int 8), (5, .int 0)] [] w := by
  have hR := hU.1
  have h8 := hR.1.1
  have p2 := p2_le h8
  have go : ∀ r j, j + r = k + 1 → zRun 59 false zcX12_shortest 1 Q 68 [(0, .ref 128), (1, .int (nI k)), (2, .int b2), (3, .int (nI (ptV W n j).1)), (4, .int (nI (ptV W n j).2)), (5, .int (nI j))] [] w := by
    intro r
    induction r with
    | zero =>
      intro j hj
      obtain rfl : j = k + 1 := by omega
      exact t2X12_shortest_68 (br_t (by rw [nI_ltI (by omega) (by omega)]; omega) h)
    | succ r ih =>
      intro j hj
      have P := pt_ok h8 hD j (by omega)
      obtain ⟨e1, e2⟩ := pt_ex (by omega) P
      obtain ⟨set, eset⟩ : ∃ set, set = (ptV W n j).1 := ⟨_, rfl⟩
      obtain ⟨st, est⟩ : ∃ st, st = (ptV W n j).2 := ⟨_, rfl⟩
      have l : ptV W n (j + 1) = ((ptV W n j).1 - 2 ^ ffV (pDv W n (ptV W n j).1 (cnO W (ptV W n j).2)) n 0, ffV (pDv W n (ptV W n j).1 (cnO W (ptV W n j).2)) n 0) := rfl
      have nxt := ih (j + 1) (by omega)
      rw [l] at nxt
      unfold PIv at P
      rw [← eset, ← est] at P e1 e2 nxt ⊢
      dsimp only at nxt
      obtain ⟨P1, P2, P3, P4⟩ := P
      have h256 : set < 256 := by omega
      have s9 : st < 9 := by omega
      have c12 := cnO_lt W st
      have cm := tr_cmp2 (n := n) (set := set) (c := cnO W st) hR h256 c12
      have own := T set st P1 (by omega)
      have eo : nI st <<< ((8 : Int32) &&& 31) + nI set = nI (st * 256 + set) := by rw [sl_8 st s9, nI_add]
      obtain ⟨p, ep⟩ : ∃ p, p = pDv W n set (cnO W st) := ⟨_, rfl⟩
      rw [← ep] at e1 e2 nxt
      obtain ⟨S, eS⟩ : ∃ S, S = ffV p n 0 := ⟨_, rfl⟩
      rw [← eS] at e1 e2 nxt
      have inn : ∀ r i, i + r = n → (∃ s, i ≤ s ∧ s < i + r ∧ p s = true) → ffV p r i = S → zRun 59 false zcX12_shortest 1 Q 77 [(0, .ref 128), (1, .int (nI k)), (2, .int b2), (3, .int (nI set)), (4, .int (nI st)), (5, .int (nI j)), (6, .int (nI i))] [] w := by
        intro r
        induction r with
        | zero =>
          intro i hi hp he
          obtain ⟨s, s1, s2, s3⟩ := hp
          exact absurd s2 (by omega)
        | succ r ih2 =>
          intro i hi hp he
          obtain ⟨s, s1, s2, s3⟩ := hp
          have lf : ffV p (r + 1) i = if p i = true then i else ffV p r (i + 1) := rfl
          rw [lf] at he
          have no : ¬ p i = true → zRun 59 false zcX12_shortest 1 Q 77 [(0, .ref 128), (1, .int (nI k)), (2, .int b2), (3, .int (nI set)), (4, .int (nI st)), (5, .int (nI j)), (6, .int (nI (i + 1)))] [] w := fun z => by
            rw [if_neg z] at he
            have ne : s ≠ i := fun y => z (by rw [← y]; exact s3)
            exact ih2 (i + 1) (by omega) ⟨s, by omega, by omega, s3⟩ he
          have pe : p i = (set.testBit i && decide (min 1000 (zFar W (cnO W st) (cnN W i)) + trDv W n (set - 2 ^ i) (cnN W i) = trDv W n set (cnO W st))) := by rw [ep]; rfl
          refine t2X12_shortest_77 ?_
          rw [bit_at set h256 i (by omega), nI_1 i]
          cases b : set.testBit i
          · exact ⟨fun _ => no (by rw [pe, b]; simp), fun z => absurd z (by decide)⟩
          · refine ⟨fun z => absurd rfl z, fun _ => ?_⟩
            have lt := bit_lt b
            have en := T (set - 2 ^ i) i (by omega) (Or.inl (by omega))
            have ce : cnO W i = cnN W i := if_neg (by omega)
            rw [ce] at en
            have cm2 := tr_cmp2 (n := n) (set := set - 2 ^ i) (c := cnN W i) hR (by omega) (cnN_lt W i)
            have f99 := zFar_99 hR (cnO W st) (cnN W i) c12 (cnN_lt W i)
            rw [b, Bool.true_and] at pe
            refine s_restBy (D := trRf W n (set - 2 ^ i) (cnN W i)) hU h256 s9 (by omega) b en ⟨_, rfl, ?_⟩
            dsimp only
            rw [eo, nI_clamp (n := st * 256 + set) (by omega), own, bit_rm set h256 i (by omega) b, nI_1 j]
            refine ⟨vp_in_nI (by omega) (by decide), fun q => ?_, fun q => no (fun y => q ?_)⟩
            · rw [nI_eq (by omega) (by omega)] at q
              rw [if_pos (by rw [pe]; exact decide_eq_true (by omega))] at he
              rw [he]; exact nxt
            · rw [pe] at y
              have y := of_decide_eq_true y
              have e : zFar W (cnO W st) (cnN W i) + trRf W n (set - 2 ^ i) (cnN W i) = trRf W n set (cnO W st) := by omega
              rw [e]
      refine t2X12_shortest_68 (br_f (by rw [nI_ltI (by omega) (by omega)]; omega) ?_)
      exact inn n 0 (by omega) ⟨S, Nat.zero_le _, by omega, e1⟩ eS.symm
  exact go (k + 1) 0 (by omega)
theorem op_shortest (a : Int32) : zOkA 128 278 [.int a] := by
  intro u ⟨n, hI⟩
  have hR := hI.1.1
  have h8 := hR.1.1
  have p2 := p2_le h8
  have pp := Nat.two_pow_pos n
  obtain ⟨W, eW⟩ : ∃ W, W = u 129 := ⟨_, rfl⟩
  have U := hI.tu
  rw [← eW] at U hR
  refine tX11_shortest ?_
  refine s_measureT hI (fun w f I2 T => ⟨rfl, ?_⟩)
  rw [← eW] at T
  have w43 : w 4 3 = nI n := I2.1.2.2.1.1.1.trans I2.1.1.1.2
  have w9 : w 129 = W := by rw [f 129 (by decide) (by decide), eW]
  have ec : cnO W 8 = 0 := rfl
  have en := T (2 ^ n - 1) 8 (by omega) (Or.inr rfl)
  have e2 : nI (2 ^ n - 1) * 9 + 8 = nI ((2 ^ n - 1) * 9 + 8) := by rw [nI_lit, nI_lit, nI_mul, nI_add]
  have cm := tr_cmp2 (n := n) (set := 2 ^ n - 1) (c := 0) hR (by omega) (by decide)
  have v1 : vp_in (nI (2 ^ n - 1)) 256 := vp_in_nI (by omega) (by decide)
  have UW : zTu w W n := U.congr f
  -- the reference, up to its table
  have ref : ∀ res : Int32, (∀ w2 : zM, zRu w2 W n → zTe w2 W n (2 ^ n) → ((¬ a = -1 → (a < 0 → res = -1) ∧ (¬ a < 0 → (nI n - 1 < a → res = -1) ∧ (¬ nI n - 1 < a → (trRf W n (2 ^ n - 1) 0 < 1000000 → ∀ Q : Option Value → zM → Prop, Q (some (.int res)) w2 → zRun 59 false zcX12_shortest 1 Q 68 [(0, .ref 128), (1, .int a), (2, .int (nI (trRf W n (2 ^ n - 1) 0))), (3, .int (nI (2 ^ n - 1))), (4, .int 8), (5, .int 0)] [] w2) ∧ (¬ trRf W n (2 ^ n - 1) 0 < 1000000 → res = -1)))) ∧ (a = -1 → (trRf W n (2 ^ n - 1) 0 < 1000000 → res = nI (trRf W n (2 ^ n - 1) 0)) ∧ (¬ trRf W n (2 ^ n - 1) 0 < 1000000 → res = -1)))) →
      zCall 60 false 278 [.ref 128, .int a] w fun v2 w2 => v2 = some (.int res) ∧ zIv w2 := by
    intro res hres
    refine t2X12_shortest (fun m1 e1 => ?_)
    rw [e1]
    refine s_laysRest (lays_ru I2 w9 0) (fun w2 g T2 => ⟨rfl, ?_⟩)
    have m0 : w2 129 0 = nI n := by rw [g 129 (by decide), zUp_k _ _ (by decide), w9]; exact hR.1.2
    have U2 : zRu w2 W n := by
      have := lays_ru I2 w9 0
      refine ⟨hR, by rw [g 129 (by decide)]; exact this.2.1, fun a b ha hb => ?_⟩
      rw [g 134 (by decide)]
      exact this.2.2 a b ha hb
    have en2 := T2 (2 ^ n - 1) 8 (by omega) (Or.inr rfl)
    have e8 : (8 : Int32) <<< ((8 : Int32) &&& 31) = nI (8 * 256) := sl_8 8 (by decide)
    have rl := trRf_le (n := n) (set := 2 ^ n - 1) (c := 0) hR
    dsimp only
    rw [m0, sl_m n h8, e8, nI_add, nI_clamp (n := 8 * 256 + (2 ^ n - 1)) (by omega), en2, ec]
    have lim : nI (trRf W n (2 ^ n - 1) 0) < 1000000 ↔ trRf W n (2 ^ n - 1) 0 < 1000000 := by rw [nI_lit, nI_ltI (by omega) (by omega)]
    obtain ⟨h1, h2⟩ := hres w2 U2 T2
    have E := lays_end I2 g
    refine ⟨vp_in_nI (by omega) (by decide), fun q => ⟨fun q2 => ⟨by rw [(h1 q).1 q2], E⟩, fun q2 => ⟨fun q3 => ⟨by rw [((h1 q).2 q2).1 q3], E⟩, fun q3 => ⟨fun q4 => (((h1 q).2 q2).2 q3).1 (lim.mp q4) _ ⟨rfl, E⟩, fun q4 => ⟨by rw [(((h1 q).2 q2).2 q3).2 (fun z => q4 (lim.mpr z))], E⟩⟩⟩⟩, fun q => ⟨fun q4 => ⟨by rw [(h2 q).1 (lim.mp q4)], E⟩, fun q4 => ⟨by rw [(h2 q).2 (fun z => q4 (lim.mpr z))], E⟩⟩⟩
  have lim : nI (trDv W n (2 ^ n - 1) 0) < 1000 ↔ trDv W n (2 ^ n - 1) 0 < 1000 := by rw [nI_lit, nI_ltI (by omega) (by omega)]
  dsimp only
  rw [w43, sl_m n h8, e2, nI_clamp (n := (2 ^ n - 1) * 9 + 8) (by omega), en, ec]
  refine ⟨v1, fun q => ⟨fun q2 => ?_, fun q2 => ⟨v1, ?_⟩⟩, fun q => ?_⟩
  · have fin := lim.mp q
    rcases i_cases a n (by omega) with ⟨k, hk, rfl⟩ | hb
    · refine s_stepOfFirst (W := W) (res := nI (ptV W n (k + 1)).2) UW T fin (fun j hj e => ?_) (fun z => absurd rfl (z k hk)) ⟨_, rfl, ref _ (fun w2 U2 T2 => ⟨fun _ => ⟨fun z => absurd z (nI_pos (by omega)), fun _ => ⟨fun z => absurd z (n_top h8 hk), fun _ => ⟨fun _ Q hq => r_short U2 T2 fin hk hq, fun z => absurd (by omega) z⟩⟩⟩, fun z => absurd z q2⟩)⟩
      have := (nI_eq (a := k) (b := j) (by omega) (by omega)).mp e
      rw [this]
    · have out : ∀ j, j < n → ¬ a = nI j := fun j hj z => by
        subst z
        rcases hb with z | z
        · exact nI_pos (by omega) z
        · rw [nI_leI (by omega) (by omega)] at z; omega
      refine s_stepOfFirst (W := W) (res := -1) UW T fin (fun j hj e => absurd e (out j hj)) (fun _ => rfl) ⟨_, rfl, ref _ (fun w2 U2 T2 => ⟨fun _ => ⟨fun _ => rfl, fun z => ⟨fun _ => rfl, fun z2 => absurd (i_top2 h8 hb z) z2⟩⟩, fun z => absurd z q2⟩)⟩
  · have fin := lim.mp q
    have eDR : nI (trDv W n (2 ^ n - 1) 0) = nI (trRf W n (2 ^ n - 1) 0) := by
      have e : trDv W n (2 ^ n - 1) 0 = trRf W n (2 ^ n - 1) 0 := by omega
      rw [e]
    exact ref _ (fun w2 U2 T2 => ⟨fun z => absurd q2 z, fun _ => ⟨fun _ => eDR, fun z => absurd (by omega) z⟩⟩)
  · have fin : ¬ trDv W n (2 ^ n - 1) 0 < 1000 := fun z => q (lim.mpr z)
    exact ref _ (fun w2 U2 T2 => ⟨fun _ => ⟨fun _ => rfl, fun _ => ⟨fun _ => rfl, fun _ => ⟨fun z => absurd z (by omega), fun _ => rfl⟩⟩⟩, fun _ => ⟨fun z => absurd z (by omega), fun _ => rfl⟩⟩)
