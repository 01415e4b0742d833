def gqV (G : Nat → Nat) (T s : Nat) : Nat := if G s < T - G s then T - G s else G s
def bqV (g : Nat → Nat) : Nat → Nat × Nat
  | 0 => (0, g 0)
  | i + 1 => if g (i + 1) < (bqV g i).2 then (i + 1, g (i + 1)) else bqV g i
def bV (G : Nat → Nat) (T n : Nat) : Int32 := if T < 2 ∨ n = 0 then -1 else nI (bqV (gqV G T) (n - 1)).1
theorem bq_le {g : Nat → Nat} : ∀ i, (∀ s, s ≤ i → g s ≤ 201) → (bqV g i).1 ≤ i ∧ (bqV g i).2 ≤ 201
  | 0, h => ⟨Nat.le_refl _, h 0 (Nat.le_refl _)⟩
  | i + 1, h => by
    have ih := bq_le (g := g) i (fun s hs => h s (by omega))
    have := h (i + 1) (Nat.le_refl _)
    show (if g (i + 1) < (bqV g i).2 then (i + 1, g (i + 1)) else bqV g i).1 ≤ i + 1 ∧ (if g (i + 1) < (bqV g i).2 then (i + 1, g (i + 1)) else bqV g i).2 ≤ 201
    split
    · exact ⟨Nat.le_refl _, this⟩
    · exact ⟨by omega, ih.2⟩
theorem nI_nm1 {k : Nat} (hk : k < 2 ^ 31) : ¬ nI k = -1 := fun z => absurd (show nI k < 0 by rw [z]; decide) (nI_pos hk)
theorem gq_if {G : Nat → Nat} {T s : Nat} (hT : T ≤ 201) (hG : G s ≤ T) : (if nI (G s) < nI (T - G s) then nI (T - G s) else nI (G s)) = nI (gqV G T s) := by
  unfold gqV
  by_cases q : G s < T - G s
  · rw [if_pos q, if_pos (by rw [nI_ltI (by omega) (by omega)]; exact q)]
  · rw [if_neg q, if_neg (by rw [nI_ltI (by omega) (by omega)]; exact q)]
theorem gq_le {G : Nat → Nat} {T s : Nat} (hT : T ≤ 201) (hG : G s ≤ T) : gqV G T s ≤ 201 := by unfold gqV; split <;> omega
theorem s_bestW {d n T : Nat} {G : Nat → Nat} {a1 : Int32} {u : zM} {Q : Option Value → zM → Prop} (hT : u 125 3 = nI T) (hT2 : T ≤ 201) (hG : ∀ s, s < 8 → u 126 s = nI (G s) ∧ G s ≤ T) (h8 : n ≤ 8) (e1 : a1 = nI n) (h : Q (some (.int (bV G T n))) u) : zCall (d + 1) false 106 [.ref 125, .int a1] u Q := by
  subst e1
  have g : ∀ s, s < 8 → (if u 126 s < (u 125 3 - u 126 s) then (u 125 3 - u 126 s) else u 126 s) = nI (gqV G T s) := fun s hs => by
    rw [hT, (hG s hs).1, nI_sub (hG s hs).2]
    exact gq_if hT2 (hG s hs).2
  refine tX10_bestStep (k0 := 125) rfl ?_
  by_cases q : T < 2 ∨ n = 0
  · unfold bV at h
    rw [if_pos q] at h
    refine tX10_bestStep_7 (k0 := 125) rfl ⟨fun _ => h, fun z => ⟨fun _ => h, fun _ => ⟨fun _ => h, fun z2 => ?_⟩⟩⟩
    rw [nI_lit, nI_leI (by omega) (by omega)] at z
    rw [hT, nI_lit, nI_ltI (by omega) (by omega)] at z2
    omega
  · have t2 : ¬ u 125 3 < 2 := by rw [hT, nI_lit, nI_ltI (by omega) (by omega)]; omega
    have n0 : 0 < n := by omega
    refine tX10_bestStep_7 (k0 := 125) rfl (br_f (by rw [nI_lit, nI_leI (by omega) (by omega)]; omega) (br_f (by decide) (br_f t2 ⟨vp_in_nI (n := 0) (by decide) (by decide), vp_in_nI (n := 0) (by decide) (by decide), fun _ => ?_, fun z => absurd rfl z⟩)))
    rw [show (125 + 1 : Nat) = 126 from rfl, show (0 : Int32).toNatClampNeg = 0 from rfl, g 0 (by decide)]
    refine zFor (σ := Nat × Nat) (Pr := fun i x => zRun d false zcX10_bestStep 1 Q 7 [(0, .ref 125), (1, .int (nI n)), (2, .int (nI x.1)), (3, .int (nI x.2)), (4, .int (nI (i + 1)))] [] u) (fun i x => x = bqV (gqV G T) i) (n - 1) (fun x hx => ?_) (fun i x hi hx ih => ?_) (0, gqV G T 0) rfl
    · refine tX10_bestStep_7 (k0 := 125) rfl (br_t (by rw [nI_leI (by omega) (by omega)]; omega) ?_)
      unfold bV at h
      rw [if_neg q] at h
      rw [hx]; exact h
    · have le := bq_le (g := gqV G T) i (fun s hs => gq_le hT2 (hG s (by omega)).2)
      rw [← hx] at le
      have gl := gq_le (G := G) (T := T) (s := i + 1) hT2 (hG (i + 1) (by omega)).2
      have v : vp_in (nI (i + 1)) 8 := vp_in_nI (by omega) (by decide)
      refine tX10_bestStep_7 (k0 := 125) rfl (br_f (by rw [nI_leI (by omega) (by omega)]; omega) (br_f (by rw [nI_lit, nI_leI (by omega) (by omega)]; omega) (br_f t2 ⟨v, v, fun z => absurd z (nI_nm1 (by omega)), fun _ => ?_⟩)))
      rw [show (125 + 1 : Nat) = 126 from rfl, nI_clamp (n := i + 1) (by omega), g (i + 1) (by omega), nI_1 (i + 1)]
      have l : bqV (gqV G T) (i + 1) = if gqV G T (i + 1) < (bqV (gqV G T) i).2 then (i + 1, gqV G T (i + 1)) else bqV (gqV G T) i := rfl
      rw [← hx] at l
      refine ⟨fun z => ih x ?_, fun z => ih (i + 1, gqV G T (i + 1)) ?_⟩
      · rw [nI_leI (by omega) (by omega)] at z
        rw [l, if_neg (by omega)]
      · rw [nI_leI (by omega) (by omega)] at z
        rw [l, if_pos (by omega)]
theorem zct_and {F p : Nat → Bool} : ∀ i, zct (fun c => F c && p c) i + zct (fun c => F c && !p c) i = zct F i
  | 0 => rfl
  | i + 1 => by
    have ih := zct_and (F := F) (p := p) i
    show (zct (fun c => F c && p c) i + (if (F i && p i) = true then 1 else 0)) + (zct (fun c => F c && !p c) i + (if (F i && !p i) = true then 1 else 0)) = zct F i + (if F i = true then 1 else 0)
    rw [← ih]
    cases F i <;> cases p i <;> simp <;> omega
/-- the count of one step by the reference -/
theorem ask_in {n L K s : Nat} {B : Nat → Nat} {W : Nat → Int32} {b1 v2 : Int32} {z : zM} {Q : Option Value → zM → Prop} (h8 : n ≤ 8) (hs : s < n) (h4 : L ≤ 400) (ok : hOk B n L = true) (i3 : z 128 12 = nI L) (i5 : ∀ i, i < L → B i < 256 ∧ z 135 i = (nI (B i)).toInt8.toInt32) (i6 : ∀ i, i < 201 → z 139 i = gvV W K n i)
    (h : zRun 59 false zcX12_ask 1 Q 54 [(0, .ref 128), (1, .int b1), (2, .int v2), (3, .int (nI s)), (4, .int (nI (zct (fun c => fr B (gvV W K n c) (L / 2) && tb (gvV W K n c) s) 201))), (5, .int (nI (zct (fun c => fr B (gvV W K n c) (L / 2) && !tb (gvV W K n c) s) 201))), (6, .int (nI 201))] [] z) : zRun 59 false zcX12_ask 1 Q 54 [(0, .ref 128), (1, .int b1), (2, .int v2), (3, .int (nI s)), (4, .int 0), (5, .int 0), (6, .int 0)] [] z := by
  refine zFor (σ := Int32 × Int32) (Pr := fun c x => zRun 59 false zcX12_ask 1 Q 54 [(0, .ref 128), (1, .int b1), (2, .int v2), (3, .int (nI s)), (4, .int x.1), (5, .int x.2), (6, .int (nI c))] [] z) (fun c x => x = (nI (zct (fun c => fr B (gvV W K n c) (L / 2) && tb (gvV W K n c) s) c), nI (zct (fun c => fr B (gvV W K n c) (L / 2) && !tb (gvV W K n c) s) c))) 201 (fun x hx => ?_) (fun c x hc hx ih => ?_) (0, 0) rfl
  · rw [hx]; exact h
  · have hx1 : x.1 = nI (zct (fun c => fr B (gvV W K n c) (L / 2) && tb (gvV W K n c) s) c) := by rw [hx]
    have hx2 : x.2 = nI (zct (fun c => fr B (gvV W K n c) (L / 2) && !tb (gvV W K n c) s) c) := by rw [hx]
    have vc : vp_in (nI c) 201 := vp_in_nI (by omega) (by decide)
    have fit : ∀ {Q2 : Option Value → zM → Prop}, Q2 (some (.int (i01 (fr B (gvV W K n c) (L / 2))))) z → zCall 59 false 298 [.ref 128, .int (nI c)] z Q2 := fun hq => s_fitsR (n := n) (L := L) (c := c) (B := B) rfl hc (i6 c hc) i3 h4 i5 h8 ok hq
    have l1 : zct (fun c => fr B (gvV W K n c) (L / 2) && tb (gvV W K n c) s) (c + 1) = zct (fun c => fr B (gvV W K n c) (L / 2) && tb (gvV W K n c) s) c + (if (fr B (gvV W K n c) (L / 2) && tb (gvV W K n c) s) = true then 1 else 0) := rfl
    have l2 : zct (fun c => fr B (gvV W K n c) (L / 2) && !tb (gvV W K n c) s) (c + 1) = zct (fun c => fr B (gvV W K n c) (L / 2) && !tb (gvV W K n c) s) c + (if (fr B (gvV W K n c) (L / 2) && !tb (gvV W K n c) s) = true then 1 else 0) := rfl
    have bit := tb_sh1 (gvV W K n c) (j := s) (by omega)
    refine tX12_ask_54 (br_f (by rw [nI_lit, nI_ltI (by omega) (by omega)]; omega) ?_)
    refine fit ⟨_, rfl, ?_⟩
    rw [nI_clamp (n := c) (by omega), nI_1 c]
    dsimp only
    rw [i6 c hc]
    cases q : fr B (gvV W K n c) (L / 2)
    · refine ⟨fun _ => fit ⟨_, rfl, ?_⟩, fun y => absurd rfl y⟩
      rw [q]
      refine ⟨fun _ => ih (x.1 + 0, x.2 + 0) ?_, fun y => absurd rfl y⟩
      rw [l1, l2, q, hx1, hx2, Int32.add_zero, Int32.add_zero]
      rfl
    · refine ⟨fun y => absurd y (by decide), fun _ => ⟨vc, fun b => fit ⟨_, rfl, ?_⟩, fun b => fit ⟨_, rfl, ?_⟩⟩⟩
      · rw [q]
        dsimp only
        rw [i6 c hc]
        have tf : tb (gvV W K n c) s = false := by
          cases t : tb (gvV W K n c) s
          · rfl
          · exact absurd (bit.mpr t) b
        refine ⟨fun y => absurd y (by decide), fun _ => ⟨vc, fun _ => ih (x.1 + 0, x.2 + 1) ?_, fun y => absurd y b⟩⟩
        rw [l1, l2, q, tf, hx1, hx2, Int32.add_zero, nI_1]
        rfl
      · rw [q]
        dsimp only
        rw [i6 c hc]
        have tf : tb (gvV W K n c) s = true := bit.mp b
        refine ⟨fun y => absurd y (by decide), fun _ => ⟨vc, fun y => absurd b y, fun _ => ih (x.1 + 1, x.2 + 0) ?_⟩⟩
        rw [l1, l2, q, tf, hx1, hx2, Int32.add_zero, nI_1]
        rfl
def rsV (g : Nat → Nat) : Nat → Int32 × Int32
  | 0 => (-1, 1000000)
  | i + 1 => (nI (bqV g i).1, nI (bqV g i).2)
/-- the asking of the reference, its charges laid -/
theorem r_ask {n L K : Nat} {B : Nat → Nat} {W : Nat → Int32} {z : zM} {Q : Option Value → zM → Prop} (h8 : n ≤ 8) (h4 : L ≤ 400) (ok : hOk B n L = true) (hn : z 129 0 = nI n) (i3 : z 128 12 = nI L) (i5 : ∀ i, i < L → B i < 256 ∧ z 135 i = (nI (B i)).toInt8.toInt32) (i6 : ∀ i, i < 201 → z 139 i = gvV W K n i)
    (h : Q (some (.int (bV (fun s => zct (fun c => fr B (gvV W K n c) (L / 2) && tb (gvV W K n c) s) 201) (zct (fun c => fr B (gvV W K n c) (L / 2)) 201) n))) z) : zRun 59 false zcX12_ask 1 Q 37 [(0, .ref 128), (1, .int (-1)), (2, .int 1000000), (3, .int 0)] [] z := by
  obtain ⟨G, eG⟩ : ∃ G : Nat → Nat, G = fun s => zct (fun c => fr B (gvV W K n c) (L / 2) && tb (gvV W K n c) s) 201 := ⟨_, rfl⟩
  obtain ⟨T, eT⟩ : ∃ T, T = zct (fun c => fr B (gvV W K n c) (L / 2)) 201 := ⟨_, rfl⟩
  rw [← eG, ← eT] at h
  have T2 : T ≤ 201 := by rw [eT]; exact zct_le _ _
  have sum : ∀ s, G s + zct (fun c => fr B (gvV W K n c) (L / 2) && !tb (gvV W K n c) s) 201 = T := fun s => by rw [eG, eT]; exact zct_and 201
  have inn : ∀ (s : Nat) (b1 v2 : Int32), s < n → zRun 59 false zcX12_ask 1 Q 54 [(0, .ref 128), (1, .int b1), (2, .int v2), (3, .int (nI s)), (4, .int (nI (G s))), (5, .int (nI (T - G s))), (6, .int (nI 201))] [] z → zRun 59 false zcX12_ask 1 Q 54 [(0, .ref 128), (1, .int b1), (2, .int v2), (3, .int (nI s)), (4, .int 0), (5, .int 0), (6, .int 0)] [] z := fun s b1 v2 hs hh => by
    have e : T - G s = zct (fun c => fr B (gvV W K n c) (L / 2) && !tb (gvV W K n c) s) 201 := by have := sum s; omega
    rw [e, eG] at hh
    exact ask_in h8 hs h4 ok i3 i5 i6 hh
  have Gle : ∀ s, G s ≤ T := fun s => by have := sum s; omega
  have two : ∀ s, nI (G s) + nI (T - G s) = nI T := fun s => by rw [nI_add]; congr 1; have := Gle s; omega
  by_cases n0 : n = 0
  · unfold bV at h
    rw [if_pos (Or.inr n0)] at h
    exact tX12_ask_37 (br_t (by rw [hn, n0]; exact Int32.le_refl _) h)
  · by_cases q : T < 2
    · unfold bV at h
      rw [if_pos (Or.inl q)] at h
      refine tX12_ask_37 (br_f (by rw [hn, nI_lit, nI_leI (by omega) (by omega)]; omega) ?_)
      refine inn 0 _ _ (by omega) ?_
      refine tX12_ask_54 (br_t (by decide) ?_)
      rw [two 0]
      exact br_f (by rw [nI_lit, nI_leI (by omega) (by omega)]; omega) h
    · unfold bV at h
      rw [if_neg (by omega)] at h
      refine zFor (σ := Int32 × Int32) (Pr := fun i x => zRun 59 false zcX12_ask 1 Q 37 [(0, .ref 128), (1, .int x.1), (2, .int x.2), (3, .int (nI i))] [] z) (fun i x => x = rsV (gqV G T) i) n (fun x hx => ?_) (fun i x hi hx ih => ?_) (-1, 1000000) rfl
      · refine tX12_ask_37 (br_t (by rw [hn]; exact Int32.le_refl _) ?_)
        have e : rsV (gqV G T) n = (nI (bqV (gqV G T) (n - 1)).1, nI (bqV (gqV G T) (n - 1)).2) := by
          have : n = (n - 1) + 1 := by omega
          rw [this]; rfl
        rw [hx, e]; exact h
      · refine tX12_ask_37 (br_f (by rw [hn, nI_leI (by omega) (by omega)]; omega) ?_)
        refine inn i _ _ hi ?_
        have gl := gq_le (G := G) (T := T) (s := i) T2 (Gle i)
        refine tX12_ask_54 (br_t (by decide) ?_)
        rw [two i, gq_if T2 (Gle i), nI_1 i]
        refine br_t (by rw [nI_lit, nI_leI (by omega) (by omega)]; omega) ?_
        cases i with
        | zero =>
          have hx1 : x.1 = -1 := by rw [hx]; rfl
          have hx2 : x.2 = nI 1000000 := by rw [hx]; rfl
          have e5 : (if nI (gqV G T 0) < nI 1000000 then nI (gqV G T 0) else nI 1000000) = nI (gqV G T 0) := if_pos (by rw [nI_ltI (by omega) (by omega)]; omega)
          rw [hx2, e5]
          exact br_f (by rw [nI_leI (by omega) (by omega)]; omega) (ih (nI 0, nI (gqV G T 0)) rfl)
        | succ i =>
          have le := bq_le (g := gqV G T) i (fun s hs => gq_le T2 (Gle s))
          have hx1 : x.1 = nI (bqV (gqV G T) i).1 := by rw [hx]; rfl
          have hx2 : x.2 = nI (bqV (gqV G T) i).2 := by rw [hx]; rfl
          rw [hx2]
          have l : bqV (gqV G T) (i + 1) = if gqV G T (i + 1) < (bqV (gqV G T) i).2 then (i + 1, gqV G T (i + 1)) else bqV (gqV G T) i := rfl
          have r : rsV (gqV G T) (i + 1 + 1) = (nI (bqV (gqV G T) (i + 1)).1, nI (bqV (gqV G T) (i + 1)).2) := rfl
          refine ⟨fun c => ?_, fun c => ?_⟩
          · rw [nI_leI (by omega) (by omega)] at c
            have e5 : (if nI (gqV G T (i + 1)) < nI (bqV (gqV G T) i).2 then nI (gqV G T (i + 1)) else nI (bqV (gqV G T) i).2) = nI (bqV (gqV G T) i).2 := if_neg (by rw [nI_ltI (by omega) (by omega)]; omega)
            rw [e5]
            exact ih (x.1, nI (bqV (gqV G T) i).2) (by rw [r, l, if_neg (by omega), hx1])
          · rw [nI_leI (by omega) (by omega)] at c
            have e5 : (if nI (gqV G T (i + 1)) < nI (bqV (gqV G T) i).2 then nI (gqV G T (i + 1)) else nI (bqV (gqV G T) i).2) = nI (gqV G T (i + 1)) := if_pos (by rw [nI_ltI (by omega) (by omega)]; omega)
            rw [e5]
            exact ih (nI (i + 1), nI (gqV G T (i + 1))) (by rw [r, l, if_pos (by omega)])
theorem op_ask : zOkT 142 300 [] [(1, 1)] := by
  intro u ⟨n, hI⟩
  have h8 := hI.1.1.1.1
  have hu : u 4 3 = nI n := hI.1.2.2.1.1.1.trans hI.1.1.1.2
  obtain ⟨K, hK, hK5⟩ := hI.1.1.2.2.2.2.2.1
  obtain ⟨L, B, h4, t1, t2, b1, b2⟩ := hI.2.2.1.bytes
  by_cases ok : hOk B n L = true
  · refine Or.inl (tX11_ask ?_)
    refine d_heard hI t1 h4 b1 (fun w1 f1 f2 f3 f4 => ?_)
    rw [if_pos ok]
    refine ⟨fun _ => ?_, fun z => absurd z (by decide)⟩
    refine d_looked hI hK hK5 ok f1 f2 f3 (f4 ok) (fun w g1 g2 g3 c3 _ c6 => ?_)
    refine s_bestW (n := n) (T := zct (fun c => fr B (gvV (u 129) K n c) (L / 2)) 201) (G := fun s => zct (fun c => fr B (gvV (u 129) K n c) (L / 2) && tb (gvV (u 129) K n c) s) 201) c3 (zct_le _ _) (fun s hs => ⟨c6 s hs, ?_⟩) h8 ((congrFun (g1 4 (by decide) (by decide) (by decide) (by decide)) 3).trans hu) ⟨_, rfl, fun o => ?_⟩
    · have := zct_and (F := fun c => fr B (gvV (u 129) K n c) (L / 2)) (p := fun c => tb (gvV (u 129) K n c) s) 201
      omega
    refine tX12_ask (fun m1 e1 m2 e2 m3 e3 m4 e4 => ?_)
    have w10 : w 128 10 = nI L := by rw [g1 128 (by decide) (by decide) (by decide) (by decide)]; exact t2
    have k1 : ∀ c, c ≠ 128 → c ≠ 142 → m4 c = w c := fun c x y => by rw [e4, zUp_k _ _ x, e3, zUp_k _ _ x, e2, zUp_k _ _ x, e1, zUp_k _ _ x, zUp_k _ _ y]
    have k2 : ∀ j, j ≠ 0 → j ≠ 10 → j ≠ 11 → j ≠ 12 → m4 128 j = w 128 j := fun j x y p q => by rw [e4, zUp_j _ _ p, e3, zUp_j _ _ y, e2, zUp_j _ _ q, e1, zUp_j _ _ x, zUp_k _ _ (by decide)]
    have k0 : m4 128 0 = 0 := by rw [e4, zUp_j _ _ (by decide), e3, zUp_j _ _ (by decide), e2, zUp_j _ _ (by decide), e1, zUp_at]
    have k10 : m4 128 10 = 0 := by rw [e4, zUp_j _ _ (by decide), e3, zUp_at]
    have k12 : m4 128 12 = nI L := by rw [e4, zUp_j _ _ (by decide), e3, zUp_j _ _ (by decide), e2, zUp_at, e1, zUp_j _ _ (by decide), zUp_k _ _ (by decide)]; exact w10
    refine r_heard (B := B) (L := L) hI h4 b2 g1 k1 k12 ?_
    rw [if_pos ok]
    refine ⟨fun _ => ?_, fun z => absurd z (by decide)⟩
    refine r_laid (B := B) (L := L) hI hK hK5 b2 g1 g2 g3 k1 k2 k0 k10 k12 (fun z i1 i2 i3 i4 i5 i6 => ?_)
    exact r_ask (W := u 129) (K := K) h8 h4 ok (by rw [i4]; exact hI.1.1.1.2) i3 i5 i6 ⟨rfl, i2, i1⟩
  · refine Or.inr (tTX11_ask ?_)
    refine d_heard hI t1 h4 b1 (fun w f1 f2 f3 f4 => ?_)
    rw [if_neg ok]
    refine ⟨fun z => absurd rfl z, fun _ => ?_⟩
    refine tX12_ask (fun m1 e1 m2 e2 m3 e3 m4 e4 => ?_)
    have w10 : w 128 10 = nI L := by rw [f1 128 (by decide) (by decide) (by decide) (by decide)]; exact t2
    have k1 : ∀ c, c ≠ 128 → m4 c = w c := fun c x => by rw [e4, zUp_k _ _ x, e3, zUp_k _ _ x, e2, zUp_k _ _ x, e1, zUp_k _ _ x]
    have k2 : ∀ j, j ≠ 0 → j ≠ 10 → j ≠ 11 → j ≠ 12 → m4 128 j = w 128 j := fun j x y p q => by rw [e4, zUp_j _ _ p, e3, zUp_j _ _ y, e2, zUp_j _ _ q, e1, zUp_j _ _ x]
    have k10 : m4 128 10 = 0 := by rw [e4, zUp_j _ _ (by decide), e3, zUp_at]
    have k12 : m4 128 12 = nI L := by rw [e4, zUp_j _ _ (by decide), e3, zUp_j _ _ (by decide), e2, zUp_at, e1, zUp_j _ _ (by decide)]; exact w10
    refine r_heard (B := B) (L := L) hI h4 b2 f1 (fun c a _ => k1 c a) k12 ?_
    rw [if_neg ok]
    refine ⟨fun z => absurd rfl z, fun _ => ⟨?_, 1, 1, rfl, by simp, zUp_at _ _ _ _⟩⟩
    exact seen_end hI f1 f2 f3 (fun c a _ _ => (zUp_k _ _ a).trans (k1 c a)) (fun j a b x y _ => (zUp_j _ _ a).trans (k2 j a b x y)) ((zUp_j _ _ (by decide)).trans k10)
