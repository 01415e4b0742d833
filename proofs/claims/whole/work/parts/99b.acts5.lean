/-- what is neither a value, the day nor the draw -/
def zNV (W V : Nat → Int32) : Prop := ∀ k, ((k < 163 ∧ k ≠ 3 ∧ k ≠ 10) ∨ 235 ≤ k) → V k = W k
theorem zNV.rf (W : Nat → Int32) : zNV W W := fun _ _ => rfl
theorem zNV.tr {W V U : Nat → Int32} (h1 : zNV W V) (h2 : zNV V U) : zNV W U := fun k hk => (h2 k hk).trans (h1 k hk)
theorem zNV.up {W V : Nat → Int32} {s w : Nat} {v : Int32} (h : zNV W V) (hs : s < 8) (hw : w < 9) : zNV W (upd V (163 + 9 * s + w) v) := fun k hk => (upd_ne _ _ (by omega)).trans (h k hk)
theorem pDrink_nv {W : Nat → Int32} {s : Nat} (hs : s < 8) : zNV W (pDrink W s) := by
  unfold pDrink
  split
  · split
    · exact ((zNV.rf W).up (w := 5) hs (by decide)).up (w := 6) hs (by decide)
    · exact (((zNV.rf W).up (w := 3) hs (by decide)).up (w := 5) hs (by decide)).up (w := 6) hs (by decide)
  · exact (((zNV.rf W).up (w := 4) hs (by decide)).up (w := 5) hs (by decide)).up (w := 6) hs (by decide)
theorem pSour_nv {W : Nat → Int32} {s : Nat} (hs : s < 8) : zNV W (pSour W s) := by
  unfold pSour pTurn
  exact (((zNV.rf W).up (w := 4) hs (by decide)).up (w := 4) hs (by decide)).up (w := 3) hs (by decide)
theorem pSeed_nv {W : Nat → Int32} : zNV W (pSeed W) := fun k hk => by unfold pSeed; rw [upd_ne _ _ (by omega)]
theorem pBird_nv {W : Nat → Int32} {s : Nat} (hs : s < 8) : zNV W (pBird W s) := by
  unfold pBird
  split
  · exact zNV.rf W
  · have h1 : zNV W (pPeck W s) := by
      unfold pPeck
      split
      · exact pSeed_nv
      · exact (pSeed_nv.up (w := 3) hs (by decide)).up (w := 4) hs (by decide)
    refine h1.tr ?_
    unfold pBreak
    split
    · exact zNV.rf _
    · split
      · exact pSeed_nv
      · exact pSeed_nv.up (w := 3) hs (by decide)
theorem pAll_nv {g : (Nat → Int32) → Nat → Nat → Int32} {W : Nat → Int32} (h : ∀ V s, s < 8 → zNV V (g V s)) : ∀ i, i ≤ 8 → zNV W (pAll g W i)
  | 0, _ => zNV.rf W
  | i + 1, hi => (pAll_nv h i (by omega)).tr (h _ i (by omega))
theorem pEve_nv {W : Nat → Int32} {n : Nat} (hn : n ≤ 8) : zNV W (pEve W n) := by
  refine ((pAll_nv (g := pDrink) (fun V s hs => pDrink_nv hs) n hn).tr (pAll_nv (g := pSour) (fun V s hs => pSour_nv hs) n hn)).tr (fun k hk => ?_)
  show pDay (pAll pSour (pAll pDrink W n) n) k = _
  unfold pDay
  rw [upd_ne _ _ (by omega)]
theorem pDel_nv {W : Nat → Int32} {n : Nat} (hn : n ≤ 8) : zNV W (pDel W n) := fun k hk => (pDel_at (r := pRide W n) (W := W) n).1 k (by omega)
theorem zNV.lg {u : zM} {k : Nat} {W V : Nat → Int32} (h : zNV W V) (hl : zLg u k W) : zLg u k V := hl.lrow (h 9 (by omega)) (fun x a b => h x (by omega))
theorem op_mornings (a : Int32) : zOkT 116 259 [.int a] [(1, 1)] := by
  intro u ⟨n, hI⟩
  have hI' := hI
  obtain ⟨hC, hL, -, ⟨A, N, hA, hN, p7, q7, p6, hP⟩, -, -⟩ := hI'
  have hR := hC.1
  have hw := hL.wf
  have h8 := hR.1.1
  have s1 : ∀ y : Nat, y < 1000 → ((nI y < 1) ↔ y < 1) := fun y hy => by rw [nI_lit, nI_ltI (by omega) (by omega)]
  by_cases ok : ∃ m, 1 ≤ m ∧ m ≤ 60 ∧ a = nI m
  · obtain ⟨m, m1, m2, rfl⟩ := ok
    refine Or.inl (act_ok hI A N hA hN hP ?_)
    refine tX11_mornings (br_f (by rw [s1 m (by omega)]; omega) (br_t (by rw [nI_lit, nI_leI (by omega) (by omega)]; omega) ?_))
    refine d_remember hC hA hN p7 p6 (fun w1 D1 sm => ⟨rfl, ?_⟩)
    have S1 : zSb w1 3 (u 129) := hI.sb.congr (fun c x y => sm c (by omega) (by omega)) (fun c x y => sm c (by omega) (by omega)) (by rw [sm 12 (by decide) (by decide)]) (fun c x y => sm c (by omega) (by omega))
    have L1 : zLg w1 7 (u 129) := hC.2.2.1.2.2.2.congr (sm 7 (by decide) (by decide)) (sm 8 (by decide) (by decide))
    refine zFor (σ := zM) (Pr := fun i w => zRun 59 false zcX11_mornings 1 _ 29 [(0, .ref 0), (1, .int (nI m)), (2, .int (nI (pSum false (u 129) n i))), (3, .int (nI i))] [] w)
      (fun i w => zActD u w A N ∧ zSb w 3 (pGo false (u 129) n i) ∧ zLg w 7 (pGo false (u 129) n i)) m (fun w hx => ?_) (fun i w hi hx ih => ?_) w1 ⟨D1, S1, L1⟩
    · obtain ⟨g1, g2, g3⟩ := hx
      have G := pGo_ok (calm := false) hR hw m
      refine tX11_mornings_29 (br_t (Int32.le_refl _) ⟨g1, fun X hX hDX => ?_⟩)
      obtain ⟨x9, x3, x8⟩ := hDX.e hN (fun c _ => rfl)
      refine tX12_mornings (fun m1 e1 => br_f (by rw [s1 m (by omega)]; omega) (br_f (by rw [nI_lit, nI_ltI (by omega) (by omega)]; omega) ?_))
      refine m_rem e1 x9 x3 x8 q7 hA (fun z M z9 => ⟨rfl, ?_⟩)
      have zf : ∀ p q, p < 12 → q < 12 → z 134 (12 * p + q) = nI (zFar (z 129) p q) := fun p q hp hq => by
        rw [z9, M.1 134 (by decide) (by decide) (by decide) (by decide), hDX.1 134 (by decide) (by decide) (by omega) (by decide) (by decide) (by decide)]
        exact hC.2.1 p q hp hq
      refine s_goesOn (calm := false) (n := n) (m := m) rfl rfl (by omega) (by rw [z9]; exact hR) (by rw [z9]; exact hw) zf (fun y f1 f2 f3 => ⟨_, rfl, by rw [z9], M.ch f1 f2, ?_⟩)
      rw [f3, z9]
      refine ⟨G.rg hR, g2.1.dy g3, G.1.base, fun k hk => G.1.2.1 k hk⟩
    · obtain ⟨g1, g2, g3⟩ := hx
      have G := pGo_ok (calm := false) hR hw i
      have Ri := G.rg hR
      have Wi := G.1.wf hw
      obtain ⟨V, hV⟩ : ∃ V, V = pGo false (u 129) n i := ⟨_, rfl⟩
      have st : pGo false (u 129) n (i + 1) = pEve (pAll pBird (pDelL V n) n) n := by rw [hV]; rfl
      have su : pSum false (u 129) n (i + 1) = pSum false (u 129) n i + (pRide V n).t := by rw [hV]; rfl
      rw [← hV] at g2 g3 Ri Wi
      rw [st, su] at ih
      refine tX11_mornings_29 (br_f (by rw [nI_leI (by omega) (by omega)]; omega) ?_)
      refine s_deliver (k := 3) rfl Ri g2 (fun w2 a1 a2 a3 a4 a5 => ⟨_, rfl, ?_⟩)
      have P := pDel_ok Ri
      have l2 : zLg w2 7 (pDel V n) := (pDel_nv h8).lg (g3.congr (a2 7 (by decide)) (a2 8 (by decide)))
      refine s_writeLog (k := 3) (W := V) (V := pDel V n) rfl Ri a3.1 P a4 a5 l2 (fun w3 b1 b2 => ⟨rfl, ?_⟩)
      have S3 : zSb w3 3 (pDelL V n) := (a3.congr (fun c x y => b1 c (by omega) (by omega)) (fun c x y => b1 c (by omega) (by omega)) (by rw [b1 12 (by decide) (by decide)]) (fun c x y => b1 c (by omega) (by omega))).nl (fun x hx => pLogs_ne hx n)
      have R3 := (pDelL_ok Ri).rg Ri
      have W3 := (pDelL_ok Ri).1.wf Wi
      refine s_birdsAndFrost (k := 3) (W := pDelL V n) rfl R3 S3 (fun w4 c1 c2 c3 => ⟨rfl, ?_⟩)
      have R4 := (pBirds_ok R3 W3 n (Nat.le_refl _)).rg R3
      have l4 : zLg w4 7 (pAll pBird (pDelL V n) n) := (pAll_nv (g := pBird) (fun V s hs => pBird_nv hs) n h8).lg (b2.congr (c2 7 (by decide)) (c2 8 (by decide)))
      refine s_drinkAndSour (k := 3) (W := pAll pBird (pDelL V n) n) rfl R4 c3 (fun w5 d1 d2 d3 => ⟨rfl, ?_⟩)
      have l5 : zLg w5 7 (pEve (pAll pBird (pDelL V n) n) n) := (pEve_nv h8).lg (l4.congr (d1.1 7 (by decide) (by decide) (by decide) (by decide) (by decide) (by decide) (by decide)) (d1.1 8 (by decide) (by decide) (by decide) (by decide) (by decide) (by decide) (by decide)))
      rw [nI_add, nI_1 i]
      refine ih w5 ⟨?_, d3, l5⟩
      have Q2 : zFq 3 w3 w5 := c1.tr d1
      refine g1.ch hN (fun c _ x y z => ?_) (fun j hj => ?_)
      · rw [Q2.1 c (by omega) (by omega) (by omega) (by omega) (by omega) (by omega) (by omega), b1 c (by omega) (by omega)]
        exact a1.1 c (by omega) (by omega) (by omega) (by omega) (by omega) (by omega) (by omega)
      · rw [Q2.2 j hj, b1 12 (by decide) (by decide)]
        exact a1.2 j hj
  · have bad : a < 1 ∨ 60 < a := by
      by_cases q : a < 1
      · exact Or.inl q
      · rcases i_cases a 61 (by decide) with ⟨m, hm, rfl⟩ | z
        · rw [s1 m (by omega)] at q
          exact absurd ⟨m, by omega, by omega, rfl⟩ ok
        · exact Or.inr (i_lim (n := 60) (by decide) z (fun y => q (Int32.lt_trans y (by decide))))
    have th : zCall 60 false 259 [.ref 128, .int a] u fun _ w2 => zIv w2 ∧ ∃ E c, some (Value.int 1) = some (.int E) ∧ (E, c) ∈ [((1 : Int32), (1 : Int32))] ∧ w2 128 0 = c := by
      refine tX12_mornings (fun m1 e1 => ⟨fun _ => m_thr1 hI e1 (by simp), fun q => ⟨fun _ => m_thr1 hI e1 (by simp), fun q2 => absurd (bad.resolve_left q) q2⟩⟩)
    exact Or.inr (tTX11_mornings ⟨fun _ => th, fun q => ⟨fun q2 => absurd (bad.resolve_left q) (Int32.not_lt.mpr q2), fun _ => th⟩⟩)
/-- a state whose DAYS alone have changed, and nothing remembered -/
theorem zInv_plain {u z : zM} {n : Nat} (hI : zInv u n) (f : ∀ c, c < 142 → (c < 4 ∨ 8 < c) → c ≠ 128 → c ≠ 129 → z c = u c) (g : ∀ j, j ≠ 0 → (j < 19 ∨ 23 < j) → z 128 j = u 128 j) (hR : zRg (z 129) n) (hY : zDy z 4 (z 129)) (hB : zBase (z 129) (u 129)) (hT : ∀ k, 475 ≤ k → z 129 k = u 129 k) : zInv z n := by
  obtain ⟨c, l, t, ⟨A, N, hA, hN, a1, a2, a3, a4⟩, i, k⟩ := hI
  have h8 := hR.1.1
  have zu : ∀ x, x < 142 → (x < 4 ∨ 8 < x) → x ≠ 128 → x ≠ 129 → z x = u x := f
  refine ⟨⟨hR, ?_, hY, ?_⟩, ?_, ?_, ?_, ?_, ?_⟩
  · intro a b ha hb
    rw [f 134 (by decide) (by decide) (by decide) (by decide), c.2.1 a b ha hb, hB.rd]
  · exact (c.2.2.2.congr (f 10 (by decide) (by decide) (by decide) (by decide)) (f 11 (by decide) (by decide) (by decide) (by decide))).row (fun x p q => (hB.1 x p q).symm)
  · exact (l.congr (w := z) (by rw [f 12 (by decide) (by decide) (by decide) (by decide)]) (fun x p q => f x (by omega) (by omega) (by omega) (by omega))).row hB.2.1.symm hT
  · exact t.congr (by rw [f 1 (by decide) (by decide) (by decide) (by decide)]) (by rw [f 1 (by decide) (by decide) (by decide) (by decide)]) (f 2 (by decide) (by decide) (by decide) (by decide)) (f 135 (by decide) (by decide) (by decide) (by decide)) (g 10 (by decide) (by decide)) (g 15 (by decide) (by decide))
  · refine ⟨A, N, hA, hN, by rw [f 0 (by decide) (by decide) (by decide) (by decide)]; exact a1, by rw [g 7 (by decide) (by decide)]; exact a2, by rw [f 0 (by decide) (by decide) (by decide) (by decide)]; exact a3, fun j hj => ?_⟩
    obtain ⟨p1, p2, p3⟩ := a4 j hj
    have hm : (N + 12 - A + j) % 12 < 12 := Nat.mod_lt _ (by decide)
    rw [zAct.congr (f 133 (by decide) (by decide) (by decide) (by decide))]
    exact ⟨p1, p2.congr (fun x p r => f x (by omega) (by omega) (by omega) (by omega)), hB.tr p3⟩
  · exact i.congr (by rw [f 0 (by decide) (by decide) (by decide) (by decide)]) (g 6 (by decide) (by decide)) (f 130 (by decide) (by decide) (by decide) (by decide)) (fun x p q => f x (by omega) (by omega) (by omega) (by omega))
  · have x1 := f 121 (by decide) (by decide) (by decide) (by decide)
    have x2 := f 122 (by decide) (by decide) (by decide) (by decide)
    have x4 := f 124 (by decide) (by decide) (by decide) (by decide)
    obtain ⟨k, k0⟩ := k
    refine ⟨?_, by rw [x4]; exact k0⟩
    rcases k with k | ⟨k1, k2⟩
    · exact Or.inl (by rw [x1]; exact k)
    · refine Or.inr ⟨by rw [x1]; exact k1, ?_⟩
      have e : zTrT z n (u 129) := by
        intro set start p q
        rw [x2]; exact k2 set start p q
      exact zTrT.base h8 hB.sy e
theorem op_seed (a : Int32) : zOkA 158 324 [.int a] := by
  intro u ⟨n, hI⟩
  have hC := hI.1
  have hR := hC.1
  refine tX11_seed ?_
  refine tX12_seed (fun m1 e1 => ?_)
  have m9 : m1 129 = u 129 := by rw [e1, zUp_k _ _ (by decide), zUp_k _ _ (by decide)]
  refine ⟨by rw [m9, hC.2.2.1.1.2.2.2.2.2.2.2.2], n, ?_⟩
  have ST : zStp (u 129) (upd (u 129) 10 a) := (zStp.rf hR.vs).sd
  have e9 : (zUp m1 129 10 a) 129 = upd (u 129) 10 a := by rw [zUp_row, m9]
  refine zInv_plain hI (fun c h1 h2 h3 h4 => ?_) (fun j h1 h2 => ?_) (by rw [e9]; exact ST.rg hR) ?_ (by rw [e9]; exact ST.1.base) (fun k hk => by rw [e9]; exact upd_ne _ _ (by omega))
  · rw [zUp_k _ _ h4, e1, zUp_k _ _ h3, zUp_k _ _ (by omega)]
  · rw [zUp_kj _ _ (by decide), e1, zUp_j _ _ h1, zUp_kj _ _ (by decide)]
  · rw [e9]
    have y := ((zDyV.of hC.2.2.1).sd a).dy ((hC.2.2.1.2.2.2.congr (w := zUp u 4 11 a) (zUp_k _ _ (by decide)) (zUp_k _ _ (by decide))).lrow (V := upd (u 129) 10 a) (upd_ne _ _ (by decide)) (fun x p q => upd_ne _ _ (by omega)))
    exact y.congr (fun c p q => by rw [zUp_k _ _ (by omega), e1, zUp_k _ _ (by omega)])
